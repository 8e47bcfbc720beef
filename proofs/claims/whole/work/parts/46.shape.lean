/-! ===== the shapes of the class's objects ===== -/
/-- the Program c, its Ways c + 11 and its Hanging c + 16 -/
def SP (c : Nat) (h : Hp) : Prop := hT h c = (12, 15) ∧ hT h (c + 1) = (1, 60) ∧ hT h (c + 2) = (1, 60) ∧ hT h (c + 3) = (1, 60) ∧ hT h (c + 4) = (1, 60) ∧ hT h (c + 5) = (1, 60) ∧ hT h (c + 6) = (1, 60) ∧ hT h (c + 7) = (1, 60) ∧ hT h (c + 8) = (1, 60) ∧ hT h (c + 9) = (1, 60) ∧ hT h (c + 10) = (1, 60) ∧ hT h (c + 11) = (14, 6) ∧ hT h (c + 12) = (1, 60) ∧ hT h (c + 13) = (1, 60) ∧ hT h (c + 14) = (1, 60) ∧ hT h (c + 15) = (2, 60) ∧ hT h (c + 16) = (10, 4) ∧ hT h (c + 17) = (2, 60) ∧ hT h (c + 18) = (2, 60) ∧ hT h (c + 19) = (2, 60) ∧ hR h c 0 = c + 1 ∧ hR h c 1 = c + 2 ∧ hR h c 2 = c + 3 ∧ hR h c 3 = c + 4 ∧ hR h c 4 = c + 5 ∧ hR h c 5 = c + 6 ∧ hR h c 6 = c + 7 ∧ hR h c 7 = c + 8 ∧ hR h c 8 = c + 9 ∧ hR h c 9 = c + 10 ∧ hR h c 10 = c + 11 ∧ hR h c 11 = c + 16 ∧ hR h (c + 11) 0 = c + 12 ∧ hR h (c + 11) 1 = c + 13 ∧ hR h (c + 11) 2 = c + 14 ∧ hR h (c + 11) 3 = c + 15 ∧ hR h (c + 16) 0 = c + 17 ∧ hR h (c + 16) 1 = c + 18 ∧ hR h (c + 16) 2 = c + 19
theorem sp_o {c : Nat} {h : Hp} (s : SP c h) : hT h c = (12, 15) := s.1
theorem sp_t1 {c : Nat} {h : Hp} (s : SP c h) : hT h (c + 1) = (1, 60) := s.2.1
theorem sp_t2 {c : Nat} {h : Hp} (s : SP c h) : hT h (c + 2) = (1, 60) := s.2.2.1
theorem sp_t3 {c : Nat} {h : Hp} (s : SP c h) : hT h (c + 3) = (1, 60) := s.2.2.2.1
theorem sp_t4 {c : Nat} {h : Hp} (s : SP c h) : hT h (c + 4) = (1, 60) := s.2.2.2.2.1
theorem sp_t5 {c : Nat} {h : Hp} (s : SP c h) : hT h (c + 5) = (1, 60) := s.2.2.2.2.2.1
theorem sp_t6 {c : Nat} {h : Hp} (s : SP c h) : hT h (c + 6) = (1, 60) := s.2.2.2.2.2.2.1
theorem sp_t7 {c : Nat} {h : Hp} (s : SP c h) : hT h (c + 7) = (1, 60) := s.2.2.2.2.2.2.2.1
theorem sp_t8 {c : Nat} {h : Hp} (s : SP c h) : hT h (c + 8) = (1, 60) := s.2.2.2.2.2.2.2.2.1
theorem sp_t9 {c : Nat} {h : Hp} (s : SP c h) : hT h (c + 9) = (1, 60) := s.2.2.2.2.2.2.2.2.2.1
theorem sp_t10 {c : Nat} {h : Hp} (s : SP c h) : hT h (c + 10) = (1, 60) := s.2.2.2.2.2.2.2.2.2.2.1
theorem sp_t11 {c : Nat} {h : Hp} (s : SP c h) : hT h (c + 11) = (14, 6) := s.2.2.2.2.2.2.2.2.2.2.2.1
theorem sp_t12 {c : Nat} {h : Hp} (s : SP c h) : hT h (c + 12) = (1, 60) := s.2.2.2.2.2.2.2.2.2.2.2.2.1
theorem sp_t13 {c : Nat} {h : Hp} (s : SP c h) : hT h (c + 13) = (1, 60) := s.2.2.2.2.2.2.2.2.2.2.2.2.2.1
theorem sp_t14 {c : Nat} {h : Hp} (s : SP c h) : hT h (c + 14) = (1, 60) := s.2.2.2.2.2.2.2.2.2.2.2.2.2.2.1
theorem sp_t15 {c : Nat} {h : Hp} (s : SP c h) : hT h (c + 15) = (2, 60) := s.2.2.2.2.2.2.2.2.2.2.2.2.2.2.2.1
theorem sp_t16 {c : Nat} {h : Hp} (s : SP c h) : hT h (c + 16) = (10, 4) := s.2.2.2.2.2.2.2.2.2.2.2.2.2.2.2.2.1
theorem sp_t17 {c : Nat} {h : Hp} (s : SP c h) : hT h (c + 17) = (2, 60) := s.2.2.2.2.2.2.2.2.2.2.2.2.2.2.2.2.2.1
theorem sp_t18 {c : Nat} {h : Hp} (s : SP c h) : hT h (c + 18) = (2, 60) := s.2.2.2.2.2.2.2.2.2.2.2.2.2.2.2.2.2.2.1
theorem sp_t19 {c : Nat} {h : Hp} (s : SP c h) : hT h (c + 19) = (2, 60) := s.2.2.2.2.2.2.2.2.2.2.2.2.2.2.2.2.2.2.2.1
theorem sp_r0 {c : Nat} {h : Hp} (s : SP c h) : hR h c 0 = c + 1 := s.2.2.2.2.2.2.2.2.2.2.2.2.2.2.2.2.2.2.2.2.1
theorem sp_r1 {c : Nat} {h : Hp} (s : SP c h) : hR h c 1 = c + 2 := s.2.2.2.2.2.2.2.2.2.2.2.2.2.2.2.2.2.2.2.2.2.1
theorem sp_r2 {c : Nat} {h : Hp} (s : SP c h) : hR h c 2 = c + 3 := s.2.2.2.2.2.2.2.2.2.2.2.2.2.2.2.2.2.2.2.2.2.2.1
theorem sp_r3 {c : Nat} {h : Hp} (s : SP c h) : hR h c 3 = c + 4 := s.2.2.2.2.2.2.2.2.2.2.2.2.2.2.2.2.2.2.2.2.2.2.2.1
theorem sp_r4 {c : Nat} {h : Hp} (s : SP c h) : hR h c 4 = c + 5 := s.2.2.2.2.2.2.2.2.2.2.2.2.2.2.2.2.2.2.2.2.2.2.2.2.1
theorem sp_r5 {c : Nat} {h : Hp} (s : SP c h) : hR h c 5 = c + 6 := s.2.2.2.2.2.2.2.2.2.2.2.2.2.2.2.2.2.2.2.2.2.2.2.2.2.1
theorem sp_r6 {c : Nat} {h : Hp} (s : SP c h) : hR h c 6 = c + 7 := s.2.2.2.2.2.2.2.2.2.2.2.2.2.2.2.2.2.2.2.2.2.2.2.2.2.2.1
theorem sp_r7 {c : Nat} {h : Hp} (s : SP c h) : hR h c 7 = c + 8 := s.2.2.2.2.2.2.2.2.2.2.2.2.2.2.2.2.2.2.2.2.2.2.2.2.2.2.2.1
theorem sp_r8 {c : Nat} {h : Hp} (s : SP c h) : hR h c 8 = c + 9 := s.2.2.2.2.2.2.2.2.2.2.2.2.2.2.2.2.2.2.2.2.2.2.2.2.2.2.2.2.1
theorem sp_r9 {c : Nat} {h : Hp} (s : SP c h) : hR h c 9 = c + 10 := s.2.2.2.2.2.2.2.2.2.2.2.2.2.2.2.2.2.2.2.2.2.2.2.2.2.2.2.2.2.1
theorem sp_r10 {c : Nat} {h : Hp} (s : SP c h) : hR h c 10 = c + 11 := s.2.2.2.2.2.2.2.2.2.2.2.2.2.2.2.2.2.2.2.2.2.2.2.2.2.2.2.2.2.2.1
theorem sp_r11 {c : Nat} {h : Hp} (s : SP c h) : hR h c 11 = c + 16 := s.2.2.2.2.2.2.2.2.2.2.2.2.2.2.2.2.2.2.2.2.2.2.2.2.2.2.2.2.2.2.2.1
theorem sp_w0 {c : Nat} {h : Hp} (s : SP c h) : hR h (c + 11) 0 = c + 12 := s.2.2.2.2.2.2.2.2.2.2.2.2.2.2.2.2.2.2.2.2.2.2.2.2.2.2.2.2.2.2.2.2.1
theorem sp_w1 {c : Nat} {h : Hp} (s : SP c h) : hR h (c + 11) 1 = c + 13 := s.2.2.2.2.2.2.2.2.2.2.2.2.2.2.2.2.2.2.2.2.2.2.2.2.2.2.2.2.2.2.2.2.2.1
theorem sp_w2 {c : Nat} {h : Hp} (s : SP c h) : hR h (c + 11) 2 = c + 14 := s.2.2.2.2.2.2.2.2.2.2.2.2.2.2.2.2.2.2.2.2.2.2.2.2.2.2.2.2.2.2.2.2.2.2.1
theorem sp_w3 {c : Nat} {h : Hp} (s : SP c h) : hR h (c + 11) 3 = c + 15 := s.2.2.2.2.2.2.2.2.2.2.2.2.2.2.2.2.2.2.2.2.2.2.2.2.2.2.2.2.2.2.2.2.2.2.2.1
theorem sp_h0 {c : Nat} {h : Hp} (s : SP c h) : hR h (c + 16) 0 = c + 17 := s.2.2.2.2.2.2.2.2.2.2.2.2.2.2.2.2.2.2.2.2.2.2.2.2.2.2.2.2.2.2.2.2.2.2.2.2.1
theorem sp_h1 {c : Nat} {h : Hp} (s : SP c h) : hR h (c + 16) 1 = c + 18 := s.2.2.2.2.2.2.2.2.2.2.2.2.2.2.2.2.2.2.2.2.2.2.2.2.2.2.2.2.2.2.2.2.2.2.2.2.2.1
theorem sp_h2 {c : Nat} {h : Hp} (s : SP c h) : hR h (c + 16) 2 = c + 19 := s.2.2.2.2.2.2.2.2.2.2.2.2.2.2.2.2.2.2.2.2.2.2.2.2.2.2.2.2.2.2.2.2.2.2.2.2.2.2
theorem sp_c {c : Nat} {h : Hp} (s : SP c h) : isO h c 2 = true := isO_of (sp_o s)
theorem sp_a1 {c : Nat} {h : Hp} (s : SP c h) {i : Int} : inA h (c + 1) 1 i = (decide (0 ≤ i) && decide (i < 60)) := inA_of (sp_t1 s)
theorem sp_a2 {c : Nat} {h : Hp} (s : SP c h) {i : Int} : inA h (c + 2) 1 i = (decide (0 ≤ i) && decide (i < 60)) := inA_of (sp_t2 s)
theorem sp_a3 {c : Nat} {h : Hp} (s : SP c h) {i : Int} : inA h (c + 3) 1 i = (decide (0 ≤ i) && decide (i < 60)) := inA_of (sp_t3 s)
theorem sp_a4 {c : Nat} {h : Hp} (s : SP c h) {i : Int} : inA h (c + 4) 1 i = (decide (0 ≤ i) && decide (i < 60)) := inA_of (sp_t4 s)
theorem sp_a5 {c : Nat} {h : Hp} (s : SP c h) {i : Int} : inA h (c + 5) 1 i = (decide (0 ≤ i) && decide (i < 60)) := inA_of (sp_t5 s)
theorem sp_a6 {c : Nat} {h : Hp} (s : SP c h) {i : Int} : inA h (c + 6) 1 i = (decide (0 ≤ i) && decide (i < 60)) := inA_of (sp_t6 s)
theorem sp_a7 {c : Nat} {h : Hp} (s : SP c h) {i : Int} : inA h (c + 7) 1 i = (decide (0 ≤ i) && decide (i < 60)) := inA_of (sp_t7 s)
theorem sp_a8 {c : Nat} {h : Hp} (s : SP c h) {i : Int} : inA h (c + 8) 1 i = (decide (0 ≤ i) && decide (i < 60)) := inA_of (sp_t8 s)
theorem sp_a9 {c : Nat} {h : Hp} (s : SP c h) {i : Int} : inA h (c + 9) 1 i = (decide (0 ≤ i) && decide (i < 60)) := inA_of (sp_t9 s)
theorem sp_a10 {c : Nat} {h : Hp} (s : SP c h) {i : Int} : inA h (c + 10) 1 i = (decide (0 ≤ i) && decide (i < 60)) := inA_of (sp_t10 s)
theorem sp_c11 {c : Nat} {h : Hp} (s : SP c h) : isO h (c + 11) 4 = true := isO_of (sp_t11 s)
theorem sp_a12 {c : Nat} {h : Hp} (s : SP c h) {i : Int} : inA h (c + 12) 1 i = (decide (0 ≤ i) && decide (i < 60)) := inA_of (sp_t12 s)
theorem sp_a13 {c : Nat} {h : Hp} (s : SP c h) {i : Int} : inA h (c + 13) 1 i = (decide (0 ≤ i) && decide (i < 60)) := inA_of (sp_t13 s)
theorem sp_a14 {c : Nat} {h : Hp} (s : SP c h) {i : Int} : inA h (c + 14) 1 i = (decide (0 ≤ i) && decide (i < 60)) := inA_of (sp_t14 s)
theorem sp_a15 {c : Nat} {h : Hp} (s : SP c h) {i : Int} : inA h (c + 15) 2 i = (decide (0 ≤ i) && decide (i < 60)) := inA_of (sp_t15 s)
theorem sp_c16 {c : Nat} {h : Hp} (s : SP c h) : isO h (c + 16) 0 = true := isO_of (sp_t16 s)
theorem sp_a17 {c : Nat} {h : Hp} (s : SP c h) {i : Int} : inA h (c + 17) 2 i = (decide (0 ≤ i) && decide (i < 60)) := inA_of (sp_t17 s)
theorem sp_a18 {c : Nat} {h : Hp} (s : SP c h) {i : Int} : inA h (c + 18) 2 i = (decide (0 ≤ i) && decide (i < 60)) := inA_of (sp_t18 s)
theorem sp_a19 {c : Nat} {h : Hp} (s : SP c h) {i : Int} : inA h (c + 19) 2 i = (decide (0 ≤ i) && decide (i < 60)) := inA_of (sp_t19 s)
theorem SP_same {c : Nat} {h h1 : Hp} (eT : hT h1 = hT h) (eR : hR h1 = hR h) : SP c h1 = SP c h := by unfold SP; rw [eT, eR]
theorem SP_setI {c : Nat} {h : Hp} {y j : Nat} {v : Int} : SP c (setI h y j v) = SP c h := SP_same rfl rfl
theorem SP_setL {c : Nat} {h : Hp} {y j : Nat} {v : BitVec 64} : SP c (setL h y j v) = SP c h := SP_same rfl rfl
theorem SP_setF {c : Nat} {h : Hp} {y : Nat} {f : Nat → Int} : SP c (setF h y f) = SP c h := SP_same rfl rfl
/-- the Machine k and its Steps k + 4 -/
def SK (k : Nat) (h : Hp) : Prop := hT h k = (11, 13) ∧ hT h (k + 1) = (1, 8) ∧ hT h (k + 2) = (1, 12) ∧ hT h (k + 3) = (1, 300) ∧ hT h (k + 4) = (13, 6) ∧ hT h (k + 5) = (1, 400) ∧ hT h (k + 6) = (1, 1200) ∧ hT h (k + 7) = (3, 400) ∧ hT h (k + 8) = (1, 8) ∧ hT h (k + 9) = (1, 12) ∧ hR h k 0 = k + 1 ∧ hR h k 1 = k + 2 ∧ hR h k 2 = k + 3 ∧ hR h k 3 = k + 4 ∧ hR h (k + 4) 0 = k + 5 ∧ hR h (k + 4) 1 = k + 6 ∧ hR h (k + 4) 2 = k + 7 ∧ hR h (k + 4) 3 = k + 8 ∧ hR h (k + 4) 4 = k + 9
theorem sk_o {k : Nat} {h : Hp} (s : SK k h) : hT h k = (11, 13) := s.1
theorem sk_t1 {k : Nat} {h : Hp} (s : SK k h) : hT h (k + 1) = (1, 8) := s.2.1
theorem sk_t2 {k : Nat} {h : Hp} (s : SK k h) : hT h (k + 2) = (1, 12) := s.2.2.1
theorem sk_t3 {k : Nat} {h : Hp} (s : SK k h) : hT h (k + 3) = (1, 300) := s.2.2.2.1
theorem sk_t4 {k : Nat} {h : Hp} (s : SK k h) : hT h (k + 4) = (13, 6) := s.2.2.2.2.1
theorem sk_t5 {k : Nat} {h : Hp} (s : SK k h) : hT h (k + 5) = (1, 400) := s.2.2.2.2.2.1
theorem sk_t6 {k : Nat} {h : Hp} (s : SK k h) : hT h (k + 6) = (1, 1200) := s.2.2.2.2.2.2.1
theorem sk_t7 {k : Nat} {h : Hp} (s : SK k h) : hT h (k + 7) = (3, 400) := s.2.2.2.2.2.2.2.1
theorem sk_t8 {k : Nat} {h : Hp} (s : SK k h) : hT h (k + 8) = (1, 8) := s.2.2.2.2.2.2.2.2.1
theorem sk_t9 {k : Nat} {h : Hp} (s : SK k h) : hT h (k + 9) = (1, 12) := s.2.2.2.2.2.2.2.2.2.1
theorem sk_r0 {k : Nat} {h : Hp} (s : SK k h) : hR h k 0 = k + 1 := s.2.2.2.2.2.2.2.2.2.2.1
theorem sk_r1 {k : Nat} {h : Hp} (s : SK k h) : hR h k 1 = k + 2 := s.2.2.2.2.2.2.2.2.2.2.2.1
theorem sk_r2 {k : Nat} {h : Hp} (s : SK k h) : hR h k 2 = k + 3 := s.2.2.2.2.2.2.2.2.2.2.2.2.1
theorem sk_r3 {k : Nat} {h : Hp} (s : SK k h) : hR h k 3 = k + 4 := s.2.2.2.2.2.2.2.2.2.2.2.2.2.1
theorem sk_s0 {k : Nat} {h : Hp} (s : SK k h) : hR h (k + 4) 0 = k + 5 := s.2.2.2.2.2.2.2.2.2.2.2.2.2.2.1
theorem sk_s1 {k : Nat} {h : Hp} (s : SK k h) : hR h (k + 4) 1 = k + 6 := s.2.2.2.2.2.2.2.2.2.2.2.2.2.2.2.1
theorem sk_s2 {k : Nat} {h : Hp} (s : SK k h) : hR h (k + 4) 2 = k + 7 := s.2.2.2.2.2.2.2.2.2.2.2.2.2.2.2.2.1
theorem sk_s3 {k : Nat} {h : Hp} (s : SK k h) : hR h (k + 4) 3 = k + 8 := s.2.2.2.2.2.2.2.2.2.2.2.2.2.2.2.2.2.1
theorem sk_s4 {k : Nat} {h : Hp} (s : SK k h) : hR h (k + 4) 4 = k + 9 := s.2.2.2.2.2.2.2.2.2.2.2.2.2.2.2.2.2.2
theorem sk_c {k : Nat} {h : Hp} (s : SK k h) : isO h k 1 = true := isO_of (sk_o s)
theorem sk_a1 {k : Nat} {h : Hp} (s : SK k h) {i : Int} : inA h (k + 1) 1 i = (decide (0 ≤ i) && decide (i < 8)) := inA_of (sk_t1 s)
theorem sk_a2 {k : Nat} {h : Hp} (s : SK k h) {i : Int} : inA h (k + 2) 1 i = (decide (0 ≤ i) && decide (i < 12)) := inA_of (sk_t2 s)
theorem sk_a3 {k : Nat} {h : Hp} (s : SK k h) {i : Int} : inA h (k + 3) 1 i = (decide (0 ≤ i) && decide (i < 300)) := inA_of (sk_t3 s)
theorem sk_c4 {k : Nat} {h : Hp} (s : SK k h) : isO h (k + 4) 3 = true := isO_of (sk_t4 s)
theorem sk_a5 {k : Nat} {h : Hp} (s : SK k h) {i : Int} : inA h (k + 5) 1 i = (decide (0 ≤ i) && decide (i < 400)) := inA_of (sk_t5 s)
theorem sk_a6 {k : Nat} {h : Hp} (s : SK k h) {i : Int} : inA h (k + 6) 1 i = (decide (0 ≤ i) && decide (i < 1200)) := inA_of (sk_t6 s)
theorem sk_a7 {k : Nat} {h : Hp} (s : SK k h) {i : Int} : inA h (k + 7) 3 i = (decide (0 ≤ i) && decide (i < 400)) := inA_of (sk_t7 s)
theorem sk_a8 {k : Nat} {h : Hp} (s : SK k h) {i : Int} : inA h (k + 8) 1 i = (decide (0 ≤ i) && decide (i < 8)) := inA_of (sk_t8 s)
theorem sk_a9 {k : Nat} {h : Hp} (s : SK k h) {i : Int} : inA h (k + 9) 1 i = (decide (0 ≤ i) && decide (i < 12)) := inA_of (sk_t9 s)
theorem SK_same {k : Nat} {h h1 : Hp} (eT : hT h1 = hT h) (eR : hR h1 = hR h) : SK k h1 = SK k h := by unfold SK; rw [eT, eR]
theorem SK_setI {k : Nat} {h : Hp} {y j : Nat} {v : Int} : SK k (setI h y j v) = SK k h := SK_same rfl rfl
theorem SK_setL {k : Nat} {h : Hp} {y j : Nat} {v : BitVec 64} : SK k (setL h y j v) = SK k h := SK_same rfl rfl
theorem SK_setF {k : Nat} {h : Hp} {y : Nat} {f : Nat → Int} : SK k (setF h y f) = SK k h := SK_same rfl rfl
