/-! ===== frames ===== -/
/-- nothing has changed but ints and longs of the cells from lo to hi -/
def FR (lo hi : Nat) (h h2 : Hp) : Prop := h2.1 = h.1 ∧ hT h2 = hT h ∧ hR h2 = hR h ∧ ∀ y, y < lo ∨ hi < y → hI h2 y = hI h y ∧ hL h2 y = hL h y
theorem FR_rf {lo hi : Nat} {h : Hp} : FR lo hi h h := ⟨rfl, rfl, rfl, fun _ _ => ⟨rfl, rfl⟩⟩
theorem FR_tr {lo hi : Nat} {h h2 h3 : Hp} (a : FR lo hi h h2) (b : FR lo hi h2 h3) : FR lo hi h h3 := ⟨b.1.trans a.1, b.2.1.trans a.2.1, b.2.2.1.trans a.2.2.1, fun y q => ⟨(b.2.2.2 y q).1.trans (a.2.2.2 y q).1, (b.2.2.2 y q).2.trans (a.2.2.2 y q).2⟩⟩
theorem FR_wd {lo hi lo2 hi2 : Nat} {h h2 : Hp} (a : FR lo hi h h2) (l1 : lo2 ≤ lo) (l2 : hi ≤ hi2) : FR lo2 hi2 h h2 := ⟨a.1, a.2.1, a.2.2.1, fun y q => a.2.2.2 y (by omega)⟩
theorem h1_setI2 {h : Hp} {x k : Nat} {v : Int} : (setI h x k v).1 = h.1 := rfl
theorem h1_setL {h : Hp} {x k : Nat} {v : BitVec 64} : (setL h x k v).1 = h.1 := rfl
theorem FR_I {lo hi : Nat} {h h2 : Hp} {x k : Nat} {v : Int} (a : FR lo hi h h2) (l1 : lo ≤ x) (l2 : x ≤ hi) : FR lo hi h (setI h2 x k v) := by
  refine FR_tr a ⟨h1_setI2, hT_setI, hR_setI, fun y q => ⟨?_, ?_⟩⟩
  · funext j
    exact hI_ne (by omega)
  · rw [hL_setI]
theorem FR_L {lo hi : Nat} {h h2 : Hp} {x k : Nat} {v : BitVec 64} (a : FR lo hi h h2) (l1 : lo ≤ x) (l2 : x ≤ hi) : FR lo hi h (setL h2 x k v) := by
  refine FR_tr a ⟨h1_setL, hT_setL, hR_setL, fun y q => ⟨?_, ?_⟩⟩
  · rw [hI_setL]
  · funext j
    rw [hL_setL, if_neg (by omega)]
theorem FR_i {lo hi : Nat} {h h2 : Hp} {y j : Nat} (a : FR lo hi h h2) (q : y < lo ∨ hi < y) : hI h2 y j = hI h y j := by rw [(a.2.2.2 y q).1]
theorem FR_l {lo hi : Nat} {h h2 : Hp} {y j : Nat} (a : FR lo hi h h2) (q : y < lo ∨ hi < y) : hL h2 y j = hL h y j := by rw [(a.2.2.2 y q).2]
theorem FR_sp {lo hi c : Nat} {h h2 : Hp} (a : FR lo hi h h2) (s : SP c h) : SP c h2 := by rw [SP_same a.2.1 a.2.2.1]; exact s
theorem FR_sk {lo hi c : Nat} {h h2 : Hp} (a : FR lo hi h h2) (s : SK c h) : SK c h2 := by rw [SK_same a.2.1 a.2.2.1]; exact s
theorem FR_sm {lo hi c : Nat} {h h2 : Hp} (a : FR lo hi h h2) (s : SM c h) : SM c h2 := by rw [SM_same a.2.1 a.2.2.1]; exact s
theorem FR_K {lo hi c : Nat} {h h2 : Hp} (a : FR lo hi h h2) (q : c + 3 < lo ∨ hi < c + 1) : cK c h2 = cK c h ∧ cX c h2 = cX c h ∧ cE c h2 = cE c h := by
  refine ⟨?_, ?_, ?_⟩
  · funext z; exact FR_i a (by omega)
  · funext z; exact FR_i a (by omega)
  · funext z; exact FR_i a (by omega)
theorem FR_pi {lo hi c n : Nat} {h h2 : Hp} (a : FR lo hi h h2) (q : c + 10 < lo ∨ hi < c) (p : PI c h n) : PI c h2 n := by
  obtain ⟨e1, e2, e3⟩ := FR_K a (c := c) (by omega)
  unfold PI
  rw [e1, e2, e3, FR_i a (by omega), FR_i a (by omega), FR_i a (by omega)]
  refine ⟨FR_sp a p.1, p.2.1, p.2.2.1, p.2.2.2.1, p.2.2.2.2.1, p.2.2.2.2.2.1, fun z hz => ?_⟩
  rw [FR_i a (by omega), FR_i a (by omega), FR_i a (by omega), FR_i a (by omega), FR_i a (by omega), FR_i a (by omega), FR_i a (by omega)]
  exact p.2.2.2.2.2.2 z hz
/-! ===== the class: the ways ===== -/
/-- the WHILES around, in order: the CLOSE of the x-th -/
def lfL (K : Int → Int) (n : Int) : List Nat → Int → Int
  | [], _ => n
  | b :: t, x => if K b = 5 then (if x + -1 = 0 then clo K n b else lfL K n t (x + -1)) else lfL K n t x
theorem lcF_lf {K : Int → Int} {n p : Nat} (sv : SV K n) (hp : p < n) (k6 : ¬ K p = 6) : ∀ (f : Nat) (l : List Nat) (x : Int), f ≤ p → l.Pairwise (fun a b => b < a) → (∀ q, q < f → (q ∈ l ↔ q ∈ stk K p)) → (∀ q, q ∈ l → q < f) → lcF K n p f ((f : Int) - 1) x = lfL K n l x
  | 0, l, x, _, _, _, hl => by
    cases l with
    | nil => rfl
    | cons a t => have := hl a List.mem_cons_self; omega
  | f + 1, l, x, hf, hd, hm, hl => by
    unfold lcF
    rw [show ((f + 1 : Nat) : Int) - 1 = (f : Int) by omega, if_pos (by omega), show (f : Int) + -1 = (f : Int) - 1 by omega]
    by_cases hfl : f ∈ l
    · have hfs := (hm f (by omega)).mp hfl
      have h1 := (mem_iff sv (show p ≤ n by omega)).mp hfs
      have hlt : (p : Int) < clo K n f := by
        obtain ⟨c, e1, e2, e3, e4, e5⟩ := clo_stk sv (show f < n by omega) h1.2.1
        by_cases e : c = p
        · subst e; exact absurd (e5 hp).1 k6
        · omega
      cases l with
      | nil => cases hfl
      | cons a t =>
        have hd2 := List.pairwise_cons.mp hd
        have ea : a = f := by
          rcases List.mem_cons.mp hfl with e | e
          · exact e.symm
          · have := hd2.1 f e
            have := hl a List.mem_cons_self
            omega
        subst ea
        have ih := fun x => lcF_lf sv hp k6 a t x (by omega) hd2.2 (fun q hq => by
          rw [← hm q (by omega)]
          have : ¬ q = a := by omega
          simp [this]) (fun q hq => hd2.1 q hq)
        unfold lfL
        by_cases h5 : K a = 5
        · rw [if_pos ⟨h5, hlt⟩, if_pos h5]
          by_cases hx : x + -1 = 0
          · rw [if_pos hx, if_pos hx]
          · rw [if_neg hx, if_neg hx]; exact ih _
        · rw [if_neg (fun z => h5 z.1), if_neg h5]; exact ih _
    · have hns : ¬ f ∈ stk K p := fun q => hfl ((hm f (by omega)).mpr q)
      have hc : ¬ (K f = 5 ∧ (p : Int) < clo K n f) := by
        rintro ⟨h5, hlt⟩
        apply hns
        rw [mem_iff sv (show p ≤ n by omega)]
        exact ⟨by omega, by rw [h5]; decide, by omega⟩
      rw [if_neg hc]
      exact lcF_lf sv hp k6 f l x (by omega) hd (fun q hq => hm q (by omega)) (fun q hq => by
        have := hl q hq
        have : ¬ q = f := fun e => hfl (e ▸ hq)
        omega)
theorem lfL_wl {K : Int → Int} {n x0 : Int} : ∀ (l : List Nat) (x m : Int), 1 ≤ x → x0 = x + m → (wlF K x0 l m < 0 → lfL K n l x = n) ∧ (0 ≤ wlF K x0 l m → lfL K n l x = clo K n (wlF K x0 l m) ∧ ∃ b : Nat, b ∈ l ∧ wlF K x0 l m = b ∧ K b = 5)
  | [], x, m, _, _ => ⟨fun _ => rfl, fun h => absurd h (by show ¬ (0 : Int) ≤ -1; decide)⟩
  | b :: t, x, m, hx, e => by
    unfold wlF lfL
    by_cases h5 : K b = 5
    · rw [if_pos h5, if_pos h5]
      by_cases h1 : m + 1 = x0
      · rw [if_pos h1, if_pos (by omega)]
        exact ⟨fun h => absurd h (by omega), fun _ => ⟨rfl, b, List.mem_cons_self, rfl, h5⟩⟩
      · rw [if_neg h1, if_neg (by omega)]
        have ih := lfL_wl (K := K) (n := n) (x0 := x0) t (x + -1) (m + 1) (by omega) (by omega)
        exact ⟨ih.1, fun h => ⟨(ih.2 h).1, (let ⟨b2, q1, q2⟩ := (ih.2 h).2; ⟨b2, List.mem_cons_of_mem _ q1, q2⟩)⟩⟩
    · rw [if_neg h5, if_neg h5, if_neg (by omega)]
      have ih := lfL_wl (K := K) (n := n) (x0 := x0) t x m hx e
      exact ⟨ih.1, fun h => ⟨(ih.2 h).1, (let ⟨b2, q1, q2⟩ := (ih.2 h).2; ⟨b2, List.mem_cons_of_mem _ q1, q2⟩)⟩⟩
theorem lcl_wl {K : Int → Int} {n p : Nat} {x : Int} (sv : SV K n) (hp : p < n) (k6 : ¬ K p = 6) (hx : 1 ≤ x) : (wlF K x (stk K p) 0 < 0 → lcl K n p x = n) ∧ (0 ≤ wlF K x (stk K p) 0 → lcl K n p x = clo K n (wlF K x (stk K p) 0) ∧ ∃ b : Nat, b ∈ stk K p ∧ wlF K x (stk K p) 0 = b ∧ K b = 5) := by
  have e : lcl K n p x = lfL K n (stk K p) x := by
    unfold lcl
    rw [Int.toNat_natCast]
    exact lcF_lf sv hp k6 p (stk K p) x (Nat.le_refl _) (stk_desc p) (fun q hq => Iff.rfl) (fun q hq => stk_lt hq)
  rw [e]
  exact lfL_wl (stk K p) x 0 hx (by omega)
theorem els_while {K X E : Int → Int} {n p : Nat} (w : WF K X E n) (hp : p < n) (h5 : K p = 5) : els K n p = -1 := by
  rcases els_stk (WF_SV w) hp (by rw [h5]; decide) with ⟨r, e1, e2, e3, e4, e5⟩ | ⟨e1, -⟩
  · exfalso
    have hc := clo_le (K := K) (n := n) (p := p) (by omega)
    obtain ⟨b, g1, g2, g3, g4, g5, g6⟩ := WF_46 w (show r < n by omega) (Or.inl e4.1)
    have hb : b = p := by
      have := e4.2
      rw [g1] at this
      exact (List.cons.inj this).1
    have := (g6 e4.1).1
    rw [hb, h5] at this
    exact absurd this (by decide)
  · exact e1
/-- where the class's ways lead -/
def gA (K X : Int → Int) (n p : Int) : Int := if K p = 7 then e60 (bhd K n (lcl K n p (X p))) else if K p = 8 then -1 else e60 (bhd K n p)
def gS (K X : Int → Int) (n p : Int) : Int := if K p = 3 ∨ K p = 5 then e60 (bhd K n (if 0 ≤ els K n p then els K n p else clo K n p)) else gA K X n p
def gL (K : Int → Int) (n p : Int) : Int := if K p = 3 ∨ K p = 5 then e60 (bhd K n (if 0 ≤ els K n p then els K n p else clo K n p)) else e60 (bhd K n p)
def nb (v : Int) : BitVec 64 := if 0 ≤ v then bit1 v else BitVec.ofInt 64 0
theorem bhF_le {K : Int → Int} {n : Int} (n60 : n ≤ 60) (w : WFb K n) : ∀ (f : Nat) (q : Int), 0 ≤ q → 0 ≤ bhF K n f q ∧ (bhF K n f q < n ∨ bhF K n f q = 60)
  | 0, q, _ => ⟨by show (0 : Int) ≤ 60; decide, Or.inr rfl⟩
  | f + 1, q, q0 => by
    rw [bhF_s]
    by_cases hq : q < n
    · rw [if_pos hq]
      by_cases k6 : K q = 6
      · have h := w q q0 hq (Or.inr k6)
        rw [if_pos k6]
        by_cases k5 : K (bgo K n q) = 5
        · rw [if_pos k5]; omega
        · rw [if_neg k5]; exact bhF_le n60 w f (q + 1) (by omega)
      · rw [if_neg k6]
        by_cases k4 : K q = 4
        · have h := w q q0 hq (Or.inl k4)
          have hc := clo_le (K := K) (n := n) (p := bgo K n q) (by omega)
          rw [if_pos k4]; exact bhF_le n60 w f _ (by omega)
        · rw [if_neg k4]; omega
    · rw [if_neg hq]; omega
theorem bhd_le {K : Int → Int} {n p : Int} (n60 : n ≤ 60) (w : WFb K n) (p0 : -1 ≤ p) : 0 ≤ bhd K n p ∧ (bhd K n p < n ∨ bhd K n p = 60) := bhF_le n60 w _ _ (by omega)
theorem e60_le {v n : Int} (n60 : n ≤ 60) (h : 0 ≤ v ∧ (v < n ∨ v = 60)) : -1 ≤ e60 v ∧ e60 v < n ∨ e60 v = -1 := by
  unfold e60
  split <;> omega
