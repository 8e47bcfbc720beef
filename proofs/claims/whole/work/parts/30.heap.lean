/-! ===== the small heap: reading behind a change ===== -/
theorem hI_setI {h : Hp} {x k y j : Nat} {v : Int} : hI (setI h x k v) y j = if y = x ∧ j = k then v else hI h y j := rfl
theorem hL_setI {h : Hp} {x k : Nat} {v : Int} : hL (setI h x k v) = hL h := rfl
theorem hR_setI {h : Hp} {x k : Nat} {v : Int} : hR (setI h x k v) = hR h := rfl
theorem hT_setI {h : Hp} {x k : Nat} {v : Int} : hT (setI h x k v) = hT h := rfl
theorem hN_setI {h : Hp} {x k : Nat} {v : Int} : hN (setI h x k v) = hN h := rfl
theorem hS_setI {h : Hp} {x k : Nat} {v : Int} : hS (setI h x k v) = hS h := rfl
theorem isO_setI {h : Hp} {x k y c : Nat} {v : Int} : isO (setI h x k v) y c = isO h y c := rfl
theorem inA_setI {h : Hp} {x k y t : Nat} {v i : Int} : inA (setI h x k v) y t i = inA h y t i := rfl
theorem hL_setL {h : Hp} {x k y j : Nat} {v : BitVec 64} : hL (setL h x k v) y j = if y = x ∧ j = k then v else hL h y j := rfl
theorem hI_setL {h : Hp} {x k : Nat} {v : BitVec 64} : hI (setL h x k v) = hI h := rfl
theorem hR_setL {h : Hp} {x k : Nat} {v : BitVec 64} : hR (setL h x k v) = hR h := rfl
theorem hT_setL {h : Hp} {x k : Nat} {v : BitVec 64} : hT (setL h x k v) = hT h := rfl
theorem hN_setL {h : Hp} {x k : Nat} {v : BitVec 64} : hN (setL h x k v) = hN h := rfl
theorem hS_setL {h : Hp} {x k : Nat} {v : BitVec 64} : hS (setL h x k v) = hS h := rfl
theorem isO_setL {h : Hp} {x k y c : Nat} {v : BitVec 64} : isO (setL h x k v) y c = isO h y c := rfl
theorem inA_setL {h : Hp} {x k y t : Nat} {v : BitVec 64} {i : Int} : inA (setL h x k v) y t i = inA h y t i := rfl
theorem hR_setR {h : Hp} {x k y j v : Nat} : hR (setR h x k v) y j = if y = x ∧ j = k then v else hR h y j := rfl
theorem hI_setR {h : Hp} {x k v : Nat} : hI (setR h x k v) = hI h := rfl
theorem hL_setR {h : Hp} {x k v : Nat} : hL (setR h x k v) = hL h := rfl
theorem hT_setR {h : Hp} {x k v : Nat} : hT (setR h x k v) = hT h := rfl
theorem hN_setR {h : Hp} {x k v : Nat} : hN (setR h x k v) = hN h := rfl
theorem hS_setR {h : Hp} {x k v : Nat} : hS (setR h x k v) = hS h := rfl
theorem isO_setR {h : Hp} {x k y c v : Nat} : isO (setR h x k v) y c = isO h y c := rfl
theorem inA_setR {h : Hp} {x k y t v : Nat} {i : Int} : inA (setR h x k v) y t i = inA h y t i := rfl
theorem hI_ne {h : Hp} {x k y j : Nat} {v : Int} (ne : ¬ y = x) : hI (setI h x k v) y j = hI h y j := by rw [hI_setI, if_neg (fun q => ne q.1)]
theorem hI_ne2 {h : Hp} {x k y j : Nat} {v : Int} (ne : ¬ j = k) : hI (setI h x k v) y j = hI h y j := by rw [hI_setI, if_neg (fun q => ne q.2)]
theorem hI_eq {h : Hp} {x k : Nat} {v : Int} : hI (setI h x k v) x k = v := by rw [hI_setI, if_pos ⟨rfl, rfl⟩]
theorem wr_id {x : Int} (h0 : -2147483648 ≤ x) (h1 : x < 2147483648) : wr x = x := by unfold wr; rw [if_pos ⟨h0, h1⟩]
theorem inA_of {h : Hp} {x t n : Nat} (e : hT h x = (t, n)) {i : Int} : inA h x t i = (decide (0 ≤ i) && decide (i < (n : Int))) := by unfold inA; rw [e]; simp
theorem isO_of {h : Hp} {x c n : Nat} (e : hT h x = (10 + c, n)) : isO h x c = true := by unfold isO; rw [e]; simp
def b2i (b : Bool) : Int := if b = true then 1 else 0
theorem q1 {Q : Option AV → Hp → Prop} {h : Hp} {B : Bool} (e : B = true) : Q (some (aI 1)) h = Q (some (aI (b2i B))) h := by rw [e]; rfl
theorem q0 {Q : Option AV → Hp → Prop} {h : Hp} {B : Bool} (e : B = false) : Q (some (aI 0)) h = Q (some (aI (b2i B))) h := by rw [e]; rfl
theorem andT {A B : Prop} (a : A) : (A ∧ B) = B := by simp [a]
theorem b2i_t : b2i true = 1 := rfl
theorem b2i_f : b2i false = 0 := rfl
theorem b2i_0 {b : Bool} : (b2i b = 0) = (b = false) := by cases b <;> simp [b2i]
theorem b2i_01 {b : Bool} : (b2i b = 0 ∨ b2i b = 1) = True := by cases b <;> simp [b2i]
/-- the reference object o and its rows -/
def SM (o : Nat) (h : Hp) : Prop := hT h o = (16, 36) ∧ hT h (o + 1) = (1, 16) ∧ hT h (o + 2) = (1, 960) ∧ hT h (o + 3) = (1, 960) ∧ hT h (o + 4) = (1, 960) ∧ hT h (o + 5) = (1, 8) ∧ hT h (o + 6) = (1, 300) ∧ hT h (o + 7) = (1, 8) ∧ hT h (o + 8) = (1, 12) ∧ hT h (o + 9) = (1, 400) ∧ hT h (o + 10) = (1, 400) ∧ hT h (o + 11) = (1, 400) ∧ hT h (o + 12) = (3, 400) ∧ hT h (o + 13) = (3, 60) ∧ hT h (o + 14) = (1, 60) ∧ hT h (o + 15) = (1, 60) ∧ hT h (o + 16) = (1, 60) ∧ hT h (o + 17) = (1, 60) ∧ hT h (o + 18) = (3, 3600) ∧ hT h (o + 19) = (3, 3600) ∧ hT h (o + 20) = (3, 61) ∧ hT h (o + 21) = (3, 61) ∧ hT h (o + 22) = (1, 60) ∧ hT h (o + 23) = (1, 40000) ∧ hT h (o + 24) = (3, 400) ∧ hR h o 1 = o + 1 ∧ hR h o 2 = o + 2 ∧ hR h o 3 = o + 3 ∧ hR h o 4 = o + 4 ∧ hR h o 5 = o + 5 ∧ hR h o 11 = o + 6 ∧ hR h o 12 = o + 7 ∧ hR h o 13 = o + 8 ∧ hR h o 15 = o + 9 ∧ hR h o 16 = o + 10 ∧ hR h o 17 = o + 11 ∧ hR h o 18 = o + 12 ∧ hR h o 19 = o + 13 ∧ hR h o 20 = o + 14 ∧ hR h o 23 = o + 15 ∧ hR h o 24 = o + 16 ∧ hR h o 25 = o + 17 ∧ hR h o 27 = o + 18 ∧ hR h o 28 = o + 19 ∧ hR h o 29 = o + 20 ∧ hR h o 30 = o + 21 ∧ hR h o 31 = o + 22 ∧ hR h o 33 = o + 23 ∧ hR h o 35 = o + 24
theorem sm_o {o : Nat} {h : Hp} (s : SM o h) : hT h o = (16, 36) := s.1
theorem sm_t1 {o : Nat} {h : Hp} (s : SM o h) : hT h (o + 1) = (1, 16) := s.2.1
theorem sm_t2 {o : Nat} {h : Hp} (s : SM o h) : hT h (o + 2) = (1, 960) := s.2.2.1
theorem sm_t3 {o : Nat} {h : Hp} (s : SM o h) : hT h (o + 3) = (1, 960) := s.2.2.2.1
theorem sm_t4 {o : Nat} {h : Hp} (s : SM o h) : hT h (o + 4) = (1, 960) := s.2.2.2.2.1
theorem sm_t5 {o : Nat} {h : Hp} (s : SM o h) : hT h (o + 5) = (1, 8) := s.2.2.2.2.2.1
theorem sm_t6 {o : Nat} {h : Hp} (s : SM o h) : hT h (o + 6) = (1, 300) := s.2.2.2.2.2.2.1
theorem sm_t7 {o : Nat} {h : Hp} (s : SM o h) : hT h (o + 7) = (1, 8) := s.2.2.2.2.2.2.2.1
theorem sm_t8 {o : Nat} {h : Hp} (s : SM o h) : hT h (o + 8) = (1, 12) := s.2.2.2.2.2.2.2.2.1
theorem sm_t9 {o : Nat} {h : Hp} (s : SM o h) : hT h (o + 9) = (1, 400) := s.2.2.2.2.2.2.2.2.2.1
theorem sm_t10 {o : Nat} {h : Hp} (s : SM o h) : hT h (o + 10) = (1, 400) := s.2.2.2.2.2.2.2.2.2.2.1
theorem sm_t11 {o : Nat} {h : Hp} (s : SM o h) : hT h (o + 11) = (1, 400) := s.2.2.2.2.2.2.2.2.2.2.2.1
theorem sm_t12 {o : Nat} {h : Hp} (s : SM o h) : hT h (o + 12) = (3, 400) := s.2.2.2.2.2.2.2.2.2.2.2.2.1
theorem sm_t13 {o : Nat} {h : Hp} (s : SM o h) : hT h (o + 13) = (3, 60) := s.2.2.2.2.2.2.2.2.2.2.2.2.2.1
theorem sm_t14 {o : Nat} {h : Hp} (s : SM o h) : hT h (o + 14) = (1, 60) := s.2.2.2.2.2.2.2.2.2.2.2.2.2.2.1
theorem sm_t15 {o : Nat} {h : Hp} (s : SM o h) : hT h (o + 15) = (1, 60) := s.2.2.2.2.2.2.2.2.2.2.2.2.2.2.2.1
theorem sm_t16 {o : Nat} {h : Hp} (s : SM o h) : hT h (o + 16) = (1, 60) := s.2.2.2.2.2.2.2.2.2.2.2.2.2.2.2.2.1
theorem sm_t17 {o : Nat} {h : Hp} (s : SM o h) : hT h (o + 17) = (1, 60) := s.2.2.2.2.2.2.2.2.2.2.2.2.2.2.2.2.2.1
theorem sm_t18 {o : Nat} {h : Hp} (s : SM o h) : hT h (o + 18) = (3, 3600) := s.2.2.2.2.2.2.2.2.2.2.2.2.2.2.2.2.2.2.1
theorem sm_t19 {o : Nat} {h : Hp} (s : SM o h) : hT h (o + 19) = (3, 3600) := s.2.2.2.2.2.2.2.2.2.2.2.2.2.2.2.2.2.2.2.1
theorem sm_t20 {o : Nat} {h : Hp} (s : SM o h) : hT h (o + 20) = (3, 61) := s.2.2.2.2.2.2.2.2.2.2.2.2.2.2.2.2.2.2.2.2.1
theorem sm_t21 {o : Nat} {h : Hp} (s : SM o h) : hT h (o + 21) = (3, 61) := s.2.2.2.2.2.2.2.2.2.2.2.2.2.2.2.2.2.2.2.2.2.1
theorem sm_t22 {o : Nat} {h : Hp} (s : SM o h) : hT h (o + 22) = (1, 60) := s.2.2.2.2.2.2.2.2.2.2.2.2.2.2.2.2.2.2.2.2.2.2.1
theorem sm_t23 {o : Nat} {h : Hp} (s : SM o h) : hT h (o + 23) = (1, 40000) := s.2.2.2.2.2.2.2.2.2.2.2.2.2.2.2.2.2.2.2.2.2.2.2.1
theorem sm_t24 {o : Nat} {h : Hp} (s : SM o h) : hT h (o + 24) = (3, 400) := s.2.2.2.2.2.2.2.2.2.2.2.2.2.2.2.2.2.2.2.2.2.2.2.2.1
theorem sm_r1 {o : Nat} {h : Hp} (s : SM o h) : hR h o 1 = o + 1 := s.2.2.2.2.2.2.2.2.2.2.2.2.2.2.2.2.2.2.2.2.2.2.2.2.2.1
theorem sm_r2 {o : Nat} {h : Hp} (s : SM o h) : hR h o 2 = o + 2 := s.2.2.2.2.2.2.2.2.2.2.2.2.2.2.2.2.2.2.2.2.2.2.2.2.2.2.1
theorem sm_r3 {o : Nat} {h : Hp} (s : SM o h) : hR h o 3 = o + 3 := s.2.2.2.2.2.2.2.2.2.2.2.2.2.2.2.2.2.2.2.2.2.2.2.2.2.2.2.1
theorem sm_r4 {o : Nat} {h : Hp} (s : SM o h) : hR h o 4 = o + 4 := s.2.2.2.2.2.2.2.2.2.2.2.2.2.2.2.2.2.2.2.2.2.2.2.2.2.2.2.2.1
theorem sm_r5 {o : Nat} {h : Hp} (s : SM o h) : hR h o 5 = o + 5 := s.2.2.2.2.2.2.2.2.2.2.2.2.2.2.2.2.2.2.2.2.2.2.2.2.2.2.2.2.2.1
theorem sm_r11 {o : Nat} {h : Hp} (s : SM o h) : hR h o 11 = o + 6 := s.2.2.2.2.2.2.2.2.2.2.2.2.2.2.2.2.2.2.2.2.2.2.2.2.2.2.2.2.2.2.1
theorem sm_r12 {o : Nat} {h : Hp} (s : SM o h) : hR h o 12 = o + 7 := s.2.2.2.2.2.2.2.2.2.2.2.2.2.2.2.2.2.2.2.2.2.2.2.2.2.2.2.2.2.2.2.1
theorem sm_r13 {o : Nat} {h : Hp} (s : SM o h) : hR h o 13 = o + 8 := s.2.2.2.2.2.2.2.2.2.2.2.2.2.2.2.2.2.2.2.2.2.2.2.2.2.2.2.2.2.2.2.2.1
theorem sm_r15 {o : Nat} {h : Hp} (s : SM o h) : hR h o 15 = o + 9 := s.2.2.2.2.2.2.2.2.2.2.2.2.2.2.2.2.2.2.2.2.2.2.2.2.2.2.2.2.2.2.2.2.2.1
theorem sm_r16 {o : Nat} {h : Hp} (s : SM o h) : hR h o 16 = o + 10 := s.2.2.2.2.2.2.2.2.2.2.2.2.2.2.2.2.2.2.2.2.2.2.2.2.2.2.2.2.2.2.2.2.2.2.1
theorem sm_r17 {o : Nat} {h : Hp} (s : SM o h) : hR h o 17 = o + 11 := s.2.2.2.2.2.2.2.2.2.2.2.2.2.2.2.2.2.2.2.2.2.2.2.2.2.2.2.2.2.2.2.2.2.2.2.1
theorem sm_r18 {o : Nat} {h : Hp} (s : SM o h) : hR h o 18 = o + 12 := s.2.2.2.2.2.2.2.2.2.2.2.2.2.2.2.2.2.2.2.2.2.2.2.2.2.2.2.2.2.2.2.2.2.2.2.2.1
theorem sm_r19 {o : Nat} {h : Hp} (s : SM o h) : hR h o 19 = o + 13 := s.2.2.2.2.2.2.2.2.2.2.2.2.2.2.2.2.2.2.2.2.2.2.2.2.2.2.2.2.2.2.2.2.2.2.2.2.2.1
theorem sm_r20 {o : Nat} {h : Hp} (s : SM o h) : hR h o 20 = o + 14 := s.2.2.2.2.2.2.2.2.2.2.2.2.2.2.2.2.2.2.2.2.2.2.2.2.2.2.2.2.2.2.2.2.2.2.2.2.2.2.1
theorem sm_r23 {o : Nat} {h : Hp} (s : SM o h) : hR h o 23 = o + 15 := s.2.2.2.2.2.2.2.2.2.2.2.2.2.2.2.2.2.2.2.2.2.2.2.2.2.2.2.2.2.2.2.2.2.2.2.2.2.2.2.1
theorem sm_r24 {o : Nat} {h : Hp} (s : SM o h) : hR h o 24 = o + 16 := s.2.2.2.2.2.2.2.2.2.2.2.2.2.2.2.2.2.2.2.2.2.2.2.2.2.2.2.2.2.2.2.2.2.2.2.2.2.2.2.2.1
theorem sm_r25 {o : Nat} {h : Hp} (s : SM o h) : hR h o 25 = o + 17 := s.2.2.2.2.2.2.2.2.2.2.2.2.2.2.2.2.2.2.2.2.2.2.2.2.2.2.2.2.2.2.2.2.2.2.2.2.2.2.2.2.2.1
theorem sm_r27 {o : Nat} {h : Hp} (s : SM o h) : hR h o 27 = o + 18 := s.2.2.2.2.2.2.2.2.2.2.2.2.2.2.2.2.2.2.2.2.2.2.2.2.2.2.2.2.2.2.2.2.2.2.2.2.2.2.2.2.2.2.1
theorem sm_r28 {o : Nat} {h : Hp} (s : SM o h) : hR h o 28 = o + 19 := s.2.2.2.2.2.2.2.2.2.2.2.2.2.2.2.2.2.2.2.2.2.2.2.2.2.2.2.2.2.2.2.2.2.2.2.2.2.2.2.2.2.2.2.1
theorem sm_r29 {o : Nat} {h : Hp} (s : SM o h) : hR h o 29 = o + 20 := s.2.2.2.2.2.2.2.2.2.2.2.2.2.2.2.2.2.2.2.2.2.2.2.2.2.2.2.2.2.2.2.2.2.2.2.2.2.2.2.2.2.2.2.2.1
theorem sm_r30 {o : Nat} {h : Hp} (s : SM o h) : hR h o 30 = o + 21 := s.2.2.2.2.2.2.2.2.2.2.2.2.2.2.2.2.2.2.2.2.2.2.2.2.2.2.2.2.2.2.2.2.2.2.2.2.2.2.2.2.2.2.2.2.2.1
theorem sm_r31 {o : Nat} {h : Hp} (s : SM o h) : hR h o 31 = o + 22 := s.2.2.2.2.2.2.2.2.2.2.2.2.2.2.2.2.2.2.2.2.2.2.2.2.2.2.2.2.2.2.2.2.2.2.2.2.2.2.2.2.2.2.2.2.2.2.1
theorem sm_r33 {o : Nat} {h : Hp} (s : SM o h) : hR h o 33 = o + 23 := s.2.2.2.2.2.2.2.2.2.2.2.2.2.2.2.2.2.2.2.2.2.2.2.2.2.2.2.2.2.2.2.2.2.2.2.2.2.2.2.2.2.2.2.2.2.2.2.1
theorem sm_r35 {o : Nat} {h : Hp} (s : SM o h) : hR h o 35 = o + 24 := s.2.2.2.2.2.2.2.2.2.2.2.2.2.2.2.2.2.2.2.2.2.2.2.2.2.2.2.2.2.2.2.2.2.2.2.2.2.2.2.2.2.2.2.2.2.2.2.2
theorem sm_c {o : Nat} {h : Hp} (s : SM o h) : isO h o 6 = true := isO_of (sm_o s)
theorem sm_a1 {o : Nat} {h : Hp} (s : SM o h) {i : Int} : inA h (o + 1) 1 i = (decide (0 ≤ i) && decide (i < 16)) := inA_of (sm_t1 s)
theorem sm_a2 {o : Nat} {h : Hp} (s : SM o h) {i : Int} : inA h (o + 2) 1 i = (decide (0 ≤ i) && decide (i < 960)) := inA_of (sm_t2 s)
theorem sm_a3 {o : Nat} {h : Hp} (s : SM o h) {i : Int} : inA h (o + 3) 1 i = (decide (0 ≤ i) && decide (i < 960)) := inA_of (sm_t3 s)
theorem sm_a4 {o : Nat} {h : Hp} (s : SM o h) {i : Int} : inA h (o + 4) 1 i = (decide (0 ≤ i) && decide (i < 960)) := inA_of (sm_t4 s)
theorem sm_a5 {o : Nat} {h : Hp} (s : SM o h) {i : Int} : inA h (o + 5) 1 i = (decide (0 ≤ i) && decide (i < 8)) := inA_of (sm_t5 s)
theorem sm_a6 {o : Nat} {h : Hp} (s : SM o h) {i : Int} : inA h (o + 6) 1 i = (decide (0 ≤ i) && decide (i < 300)) := inA_of (sm_t6 s)
theorem sm_a7 {o : Nat} {h : Hp} (s : SM o h) {i : Int} : inA h (o + 7) 1 i = (decide (0 ≤ i) && decide (i < 8)) := inA_of (sm_t7 s)
theorem sm_a8 {o : Nat} {h : Hp} (s : SM o h) {i : Int} : inA h (o + 8) 1 i = (decide (0 ≤ i) && decide (i < 12)) := inA_of (sm_t8 s)
theorem sm_a9 {o : Nat} {h : Hp} (s : SM o h) {i : Int} : inA h (o + 9) 1 i = (decide (0 ≤ i) && decide (i < 400)) := inA_of (sm_t9 s)
theorem sm_a10 {o : Nat} {h : Hp} (s : SM o h) {i : Int} : inA h (o + 10) 1 i = (decide (0 ≤ i) && decide (i < 400)) := inA_of (sm_t10 s)
theorem sm_a11 {o : Nat} {h : Hp} (s : SM o h) {i : Int} : inA h (o + 11) 1 i = (decide (0 ≤ i) && decide (i < 400)) := inA_of (sm_t11 s)
theorem sm_a12 {o : Nat} {h : Hp} (s : SM o h) {i : Int} : inA h (o + 12) 3 i = (decide (0 ≤ i) && decide (i < 400)) := inA_of (sm_t12 s)
theorem sm_a13 {o : Nat} {h : Hp} (s : SM o h) {i : Int} : inA h (o + 13) 3 i = (decide (0 ≤ i) && decide (i < 60)) := inA_of (sm_t13 s)
theorem sm_a14 {o : Nat} {h : Hp} (s : SM o h) {i : Int} : inA h (o + 14) 1 i = (decide (0 ≤ i) && decide (i < 60)) := inA_of (sm_t14 s)
theorem sm_a15 {o : Nat} {h : Hp} (s : SM o h) {i : Int} : inA h (o + 15) 1 i = (decide (0 ≤ i) && decide (i < 60)) := inA_of (sm_t15 s)
theorem sm_a16 {o : Nat} {h : Hp} (s : SM o h) {i : Int} : inA h (o + 16) 1 i = (decide (0 ≤ i) && decide (i < 60)) := inA_of (sm_t16 s)
theorem sm_a17 {o : Nat} {h : Hp} (s : SM o h) {i : Int} : inA h (o + 17) 1 i = (decide (0 ≤ i) && decide (i < 60)) := inA_of (sm_t17 s)
theorem sm_a18 {o : Nat} {h : Hp} (s : SM o h) {i : Int} : inA h (o + 18) 3 i = (decide (0 ≤ i) && decide (i < 3600)) := inA_of (sm_t18 s)
theorem sm_a19 {o : Nat} {h : Hp} (s : SM o h) {i : Int} : inA h (o + 19) 3 i = (decide (0 ≤ i) && decide (i < 3600)) := inA_of (sm_t19 s)
theorem sm_a20 {o : Nat} {h : Hp} (s : SM o h) {i : Int} : inA h (o + 20) 3 i = (decide (0 ≤ i) && decide (i < 61)) := inA_of (sm_t20 s)
theorem sm_a21 {o : Nat} {h : Hp} (s : SM o h) {i : Int} : inA h (o + 21) 3 i = (decide (0 ≤ i) && decide (i < 61)) := inA_of (sm_t21 s)
theorem sm_a22 {o : Nat} {h : Hp} (s : SM o h) {i : Int} : inA h (o + 22) 1 i = (decide (0 ≤ i) && decide (i < 60)) := inA_of (sm_t22 s)
theorem sm_a23 {o : Nat} {h : Hp} (s : SM o h) {i : Int} : inA h (o + 23) 1 i = (decide (0 ≤ i) && decide (i < 40000)) := inA_of (sm_t23 s)
theorem sm_a24 {o : Nat} {h : Hp} (s : SM o h) {i : Int} : inA h (o + 24) 3 i = (decide (0 ≤ i) && decide (i < 400)) := inA_of (sm_t24 s)
theorem SM_same {o : Nat} {h h1 : Hp} (eT : hT h1 = hT h) (eR : hR h1 = hR h) : SM o h1 = SM o h := by unfold SM; rw [eT, eR]
theorem SM_setI {o : Nat} {h : Hp} {x k : Nat} {v : Int} : SM o (setI h x k v) = SM o h := SM_same rfl rfl
