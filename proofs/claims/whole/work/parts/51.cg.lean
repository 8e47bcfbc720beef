/-! ===== what reads the same lines tells the same ===== -/
def agr (n : Int) (K K2 : Int → Int) : Prop := ∀ q, 0 ≤ q → q < n → K q = K2 q
theorem agr_le {n m : Int} {K K2 : Int → Int} (h : agr n K K2) (l : m ≤ n) : agr m K K2 := fun q a b => h q a (by omega)
theorem agr_symm {n : Int} {K K2 : Int → Int} (h : agr n K K2) : agr n K2 K := fun q a b => (h q a b).symm
theorem clF_cg {K K2 : Int → Int} {n : Int} (h : agr n K K2) : ∀ (f : Nat) (q d : Int), 0 ≤ q → clF K n f q d = clF K2 n f q d
  | 0, q, d, _ => rfl
  | f + 1, q, d, h0 => by
    unfold clF
    split
    · next hq =>
      rw [h q h0 hq, clF_cg h f (q + 1) _ (by omega)]
    · rfl
theorem clo_cg {K K2 : Int → Int} {n p : Int} (h : agr n K K2) (p0 : 0 ≤ p) : clo K n p = clo K2 n p := clF_cg h _ _ _ p0
theorem elF_cg {K K2 : Int → Int} {c : Int} (h : agr c K K2) : ∀ (f : Nat) (q d : Int), 0 ≤ q → elF K c f q d = elF K2 c f q d
  | 0, q, d, _ => rfl
  | f + 1, q, d, h0 => by
    unfold elF
    split
    · next hq =>
      rw [h q h0 hq, elF_cg h f (q + 1) _ (by omega)]
    · rfl
theorem els_cg {K K2 : Int → Int} {n p : Int} (h : agr n K K2) (p0 : 0 ≤ p) (pn : p ≤ n) : els K n p = els K2 n p := by
  unfold els
  rw [← clo_cg h p0]
  exact elF_cg (agr_le h (clo_le pn).2) _ _ _ p0
theorem lastP_cg {P P2 : Int → Bool} {p : Int} : ∀ (f : Nat) (q z : Int), (∀ r, q ≤ r → r < p → P r = P2 r) → lastP P p f q z = lastP P2 p f q z
  | 0, q, z, _ => rfl
  | f + 1, q, z, h => by
    unfold lastP
    split
    · next hq =>
      rw [h q (by omega) hq, lastP_cg f (q + 1) _ (fun r a b => h r (by omega) b)]
    · rfl
theorem cntP_cg {P P2 : Int → Bool} {p : Int} : ∀ (f : Nat) (q z : Int), (∀ r, q ≤ r → r < p → P r = P2 r) → cntP P p f q z = cntP P2 p f q z
  | 0, q, z, _ => rfl
  | f + 1, q, z, h => by
    unfold cntP
    split
    · next hq =>
      rw [h q (by omega) hq, cntP_cg f (q + 1) _ (fun r a b => h r (by omega) b)]
    · rfl
theorem bgo_cg {K K2 : Int → Int} {n p : Int} (h : agr n K K2) (p0 : 0 ≤ p) (pn : p ≤ n) : bgo K n p = bgo K2 n p := by
  unfold bgo
  refine lastP_cg _ _ _ (fun r a b => ?_)
  simp only [h r a (by omega), clo_cg h a, els_cg h a (by omega)]
theorem opP_cg {K K2 : Int → Int} {n r : Int} (h : agr n K K2) (a : 0 ≤ r) (b : r < n) : opP K n r = opP K2 n r := by
  unfold opP
  rw [h r a b, clo_cg h a]
theorem opn_cg {K K2 : Int → Int} {n : Int} (h : agr n K K2) : opn K n = opn K2 n := by
  unfold opn
  exact lastP_cg _ _ _ (fun r a b => opP_cg h a b)
theorem opc_cg {K K2 : Int → Int} {n : Int} (h : agr n K K2) : opc K n = opc K2 n := by
  unfold opc
  exact cntP_cg _ _ _ (fun r a b => opP_cg h a b)
theorem opw_cg {K K2 : Int → Int} {n : Int} (h : agr n K K2) : opw K n = opw K2 n := by
  unfold opw
  refine cntP_cg _ _ _ (fun r a b => ?_)
  unfold opW
  rw [opP_cg h a b, h r a b]
theorem dpt_cg {K K2 : Int → Int} {n p : Int} (h : agr n K K2) (pn : p ≤ n) : dpt K n p = dpt K2 n p := by
  unfold dpt
  refine cntP_cg _ _ _ (fun r a b => ?_)
  simp only [h r a (by omega), clo_cg h a]
theorem stm_cg {K K2 : Int → Int} {n p : Int} (h : agr n K K2) : stm K n p = stm K2 n p := by
  unfold stm
  by_cases h0 : 0 ≤ p
  · by_cases h1 : p < n
    · rw [h p h0 h1]
    · simp [h1]
  · simp [h0]
theorem rtF_cg {K K2 : Int → Int} {n k u v : Int} (h : agr n K K2) (n0 : 0 ≤ n) : rtF K n k u v = rtF K2 n k u v := by
  unfold rtF
  have ho := opn_le (K := K) n0
  rw [← opn_cg h, ← opc_cg h, ← opw_cg h]
  by_cases hn : 0 ≤ opn K n
  · rw [h (opn K n) hn (by omega), els_cg h hn (by omega)]
  · simp [hn]
theorem bhF_cg {K K2 : Int → Int} {n : Int} (h : agr n K K2) (w : WFb K n) : ∀ (f : Nat) (q : Int), 0 ≤ q → bhF K n f q = bhF K2 n f q
  | 0, q, _ => rfl
  | f + 1, q, q0 => by
    unfold bhF
    split
    · next hq =>
      rw [← h q q0 hq, ← bgo_cg h q0 (by omega)]
      by_cases k6 : K q = 6
      · have := w q q0 hq (Or.inr k6)
        rw [if_pos k6, if_pos k6, ← h (bgo K n q) this.1 (by omega), bhF_cg h w f (q + 1) (by omega)]
      · rw [if_neg k6, if_neg k6]
        by_cases k4 : K q = 4
        · have := w q q0 hq (Or.inl k4)
          have hc := clo_le (K := K) (n := n) (p := bgo K n q) (by omega)
          rw [if_pos k4, if_pos k4, ← clo_cg h this.1, bhF_cg h w f _ (by omega)]
        · rw [if_neg k4, if_neg k4]
    · rfl
theorem bhd_cg {K K2 : Int → Int} {n p : Int} (h : agr n K K2) (w : WFb K n) (p0 : -1 ≤ p) : bhd K n p = bhd K2 n p := bhF_cg h w _ _ (by omega)
theorem lcF_cg {K K2 : Int → Int} {n p : Int} (h : agr n K K2) : ∀ (f : Nat) (q l : Int), q < n → lcF K n p f q l = lcF K2 n p f q l
  | 0, q, l, _ => rfl
  | f + 1, q, l, q1 => by
    unfold lcF
    split
    · next hq =>
      rw [h q hq q1, clo_cg h hq, lcF_cg h f _ _ (by omega), lcF_cg h f _ l (by omega)]
    · rfl
theorem lcl_cg {K K2 : Int → Int} {n p x : Int} (h : agr n K K2) (pn : p ≤ n) : lcl K n p x = lcl K2 n p x := lcF_cg h _ _ _ (by omega)
theorem lcl_le {K : Int → Int} {n p x : Int} (p0 : 0 ≤ p) (pn : p ≤ n) : 0 ≤ lcl K n p x ∧ lcl K n p x ≤ n := lcF_le (by omega) (by omega)
theorem yes_cg {K K2 X X2 : Int → Int} {n p : Int} (h : agr n K K2) (hx : agr n X X2) (w : WFb K n) : yes_ K X n p = yes_ K2 X2 n p := by
  unfold yes_
  rw [← stm_cg h]
  by_cases hs : stm K n p = true
  · rw [if_pos hs, if_pos hs]
    have hp : 0 ≤ p ∧ p < n := by
      simp only [stm, Bool.and_eq_true, decide_eq_true_eq] at hs
      exact ⟨hs.1, hs.2.1⟩
    have hl := lcl_le (K := K) (n := n) (p := p) (x := X p) hp.1 (by omega)
    rw [← h p hp.1 hp.2, ← hx p hp.1 hp.2, ← lcl_cg h (by omega), ← bhd_cg h w (by omega), ← bhd_cg h w (by omega)]
  · rw [if_neg hs, if_neg hs]
theorem no_cg {K K2 : Int → Int} {n p : Int} (h : agr n K K2) (w : WFb K n) : no_ K n p = no_ K2 n p := by
  unfold no_
  rw [← stm_cg h]
  by_cases hs : stm K n p = true
  · have hp : 0 ≤ p ∧ p < n := by
      simp only [stm, Bool.and_eq_true, decide_eq_true_eq] at hs
      exact ⟨hs.1, hs.2.1⟩
    rw [← h p hp.1 hp.2, ← els_cg h hp.1 (by omega), ← clo_cg h hp.1]
    have hc := clo_le (K := K) (n := n) (p := p) (by omega)
    have he := els_le (K := K) (n := n) (p := p) (by omega) (by omega)
    rw [← bhd_cg h w (by split <;> omega)]
  · simp [hs]
theorem loo_cg {K K2 : Int → Int} {n p : Int} (h : agr n K K2) (w : WFb K n) : loo_ K n p = loo_ K2 n p := by
  unfold loo_
  rw [← stm_cg h]
  by_cases hs : stm K n p = true
  · have hp : 0 ≤ p ∧ p < n := by
      simp only [stm, Bool.and_eq_true, decide_eq_true_eq] at hs
      exact ⟨hs.1, hs.2.1⟩
    rw [← h p hp.1 hp.2, ← bhd_cg h w (by omega)]
  · simp [hs]
theorem stk_cg {K K2 : Int → Int} : ∀ (q : Nat), agr q K K2 → stk K q = stk K2 q
  | 0, _ => rfl
  | q + 1, h => by
    have e := h q (by omega) (by omega)
    have ih := stk_cg q (agr_le h (by omega))
    unfold stk
    rw [e, ih]
theorem WF_cg {K K2 X X2 E E2 : Int → Int} {n : Nat} (h : agr n K K2) (hx : agr n X X2) (he : agr n E E2) (w : WF K X E n) : WF K2 X2 E2 n := by
  intro q hq
  have := w q hq
  rw [h q (by omega) (by omega), hx q (by omega) (by omega), he q (by omega) (by omega), rtF_cg (agr_le h (by omega)) (by omega)] at this
  exact this
/-- a line more -/
theorem WF_more {K X E : Int → Int} {n : Nat} (w : WF K X E n) (h : 0 ≤ K n ∧ K n ≤ 8) (r : rtF K n (K n) (X n) (E n) = true) : WF K X E (n + 1) := by
  intro q hq
  by_cases e : q = n
  · rw [e]; exact ⟨h, r⟩
  · exact w q (by omega)
def clC (K : Int → Int) (n q : Int) : Int := if bgn (K q) = true ∧ clo K n q < n then clo K n q else -1
def elC (K : Int → Int) (n q : Int) : Int := if bgn (K q) = true then els K n q else -1
/-- how a line more changes the CLOSE and the ELSE of each part -/
theorem clC_more {K : Int → Int} {n b : Nat} (sv : SV K (n + 1)) (hb : b < n) : clC K ((n + 1 : Nat) : Int) b = if K n = 6 ∧ hdI (stk K n) = b then (n : Int) else clC K n b := by
  have svn := SV_le sv (show n ≤ n + 1 by omega)
  unfold clC
  by_cases hg : bgn (K b) = true
  · obtain ⟨c, e1, e2, e3, e4, e5⟩ := clo_stk svn hb hg
    by_cases hc : c < n
    · obtain ⟨k6, hs⟩ := e5 hc
      have hc2 := clo_eq sv (show c < n + 1 by omega) k6 hs
      have hnm : ¬ b ∈ stk K n := by
        rw [mem_iff svn (Nat.le_refl _), e1]
        omega
      rw [e1, hc2, if_pos ⟨hg, by omega⟩]
      rw [if_neg, if_pos ⟨hg, by omega⟩]
      rintro ⟨-, h⟩
      cases hs2 : stk K n with
      | nil => rw [hs2] at h; exact absurd h (by show ¬ (-1 : Int) = b; omega)
      | cons a t =>
        rw [hs2] at h
        have : a = b := by
          have h : (a : Int) = b := h
          omega
        subst this
        exact hnm (by rw [hs2]; exact List.mem_cons_self)
    · have hcn : c = n := by omega
      subst hcn
      have hm := e4 c e2 (Nat.le_refl _)
      rw [e1]
      by_cases h6 : K c = 6 ∧ hdI (stk K c) = b
      · rw [if_pos h6]
        cases hs2 : stk K c with
        | nil => rw [hs2] at hm; cases hm
        | cons a t =>
          have h := h6.2
          rw [hs2] at h
          have : a = b := by
            have h : (a : Int) = b := h
            omega
          subst this
          have hs3 := hs2
          rw [stk_hd hs2] at hs3
          have := clo_eq sv (show c < c + 1 by omega) h6.1 hs3
          rw [this, if_pos ⟨hg, by omega⟩]
      · rw [if_neg h6, if_neg (show ¬ (bgn (K b) = true ∧ (c : Int) < c) by omega)]
        have hm2 : b ∈ stk K (c + 1) := by
          by_cases g1 : bgn (K c) = true
          · rw [stk_b g1]; exact List.mem_cons_of_mem _ hm
          · by_cases g2 : K c = 6
            · rw [stk_6 g2]
              cases hs2 : stk K c with
              | nil => rw [hs2] at hm; cases hm
              | cons a t =>
                rw [hs2] at hm
                rcases List.mem_cons.mp hm with e | e
                · exfalso
                  apply h6
                  refine ⟨g2, ?_⟩
                  rw [hs2, e]; rfl
                · exact e
            · rw [stk_o g1 g2]; exact hm
        rw [clo_open sv hm2, if_neg (by omega)]
  · have hne : ¬ (K n = 6 ∧ hdI (stk K n) = b) := by
      rintro ⟨-, h⟩
      cases hs2 : stk K n with
      | nil => rw [hs2] at h; exact absurd h (by show ¬ (-1 : Int) = b; omega)
      | cons a t =>
        rw [hs2] at h
        have : a = b := by
          have h : (a : Int) = b := h
          omega
        subst this
        exact hg (stk_bgn (q := n) (by rw [hs2]; exact List.mem_cons_self))
    rw [if_neg (fun q => hg q.1), if_neg hne, if_neg (fun q => hg q.1)]
theorem elC_more {K : Int → Int} {n b : Nat} (sv : SV K (n + 1)) (hb : b < n) (r4 : K n = 4 → hdI (stk K n) = b → els K n b < 0) : elC K ((n + 1 : Nat) : Int) b = if K n = 4 ∧ hdI (stk K n) = b then (n : Int) else elC K n b := by
  have svn := SV_le sv (show n ≤ n + 1 by omega)
  unfold elC
  by_cases hg : bgn (K b) = true
  · rw [if_pos hg, if_pos hg]
    by_cases h4 : K n = 4 ∧ hdI (stk K n) = b
    · rw [if_pos h4]
      cases hs2 : stk K n with
      | nil =>
        have h := h4.2
        rw [hs2] at h; exact absurd h (by show ¬ (-1 : Int) = b; omega)
      | cons a t =>
        have h := h4.2
        rw [hs2] at h
        have : a = b := by
          have h : (a : Int) = b := h
          omega
        subst this
        exact (bgo_4 sv (by omega) h4.1 hs2 (r4 h4.1 h4.2)).2.1
    · rw [if_neg h4]
      obtain ⟨c, e1, e2, e3, e4, e5⟩ := clo_stk svn hb hg
      obtain ⟨c2, f1, f2, f3, f4, f5⟩ := clo_stk sv (show b < n + 1 by omega) hg
      have hcc : c ≤ c2 ∧ (c < n → c2 = c) := by
        constructor
        · by_cases h : c2 < c
          · have h5 := f5 (by omega)
            have := clo_eq svn (show c2 < n by omega) h5.1 h5.2
            omega
          · omega
        · intro hc
          have := clo_eq sv (show c < n + 1 by omega) (e5 hc).1 (e5 hc).2
          omega
      rcases els_stk svn hb hg with ⟨r, g1, g2, g3, g4, g5⟩ | ⟨g1, g2⟩
      · rw [g1]
        rcases els_stk sv (show b < n + 1 by omega) hg with ⟨r2, k1, k2, k3, k4, k5⟩ | ⟨k1, k2⟩
        · rw [k1]
          rcases Nat.lt_trichotomy r r2 with h | h | h
          · exact absurd g4 (k5 r g2 h)
          · rw [h]
          · exact absurd k4 (g5 r2 k2 h)
        · exact absurd g4 (k2 r g2 (by omega))
      · rw [g1]
        rcases els_stk sv (show b < n + 1 by omega) hg with ⟨r2, k1, k2, k3, k4, k5⟩ | ⟨k1, k2⟩
        · exfalso
          by_cases hr : (r2 : Int) < c
          · exact g2 r2 k2 (by omega) k4
          · have : ¬ c < n := fun q => by have := hcc.2 q; omega
            have hrn : r2 = n := by omega
            rw [hrn] at k4
            apply h4
            refine ⟨k4.1, ?_⟩
            rw [k4.2]; rfl
        · exact k1
  · rw [if_neg hg, if_neg hg]
    rw [if_neg]
    rintro ⟨-, h⟩
    cases hs2 : stk K n with
    | nil => rw [hs2] at h; exact absurd h (by show ¬ (-1 : Int) = b; omega)
    | cons a t =>
      rw [hs2] at h
      have : a = b := by
        have h : (a : Int) = b := h
        omega
      subst this
      exact hg (stk_bgn (q := n) (by rw [hs2]; exact List.mem_cons_self))
