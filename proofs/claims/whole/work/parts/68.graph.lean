/-! ===== what hangs on what, as the document has it ===== -/
def blk (K X : Int → Int) (t q : Int) : Prop := K t = 0 ∧ K q = 0 ∧ X q = X t
def rdA (K X E : Int → Int) (t s : Int) : Bool := if K t = 0 then rdF (K s) (X s) (E s) (X t) else decide (rrF (K s) (E s) = remI (X t) 4) && !(decide (100 ≤ divI (X t) 4 ∧ 100 ≤ andI (E s) 255 ∧ ¬ divI (X t) 4 = andI (E s) 255))
def RO (K X E : Int → Int) (n s t : Int) : Prop := (K t = 0 ∨ K t = 1) ∧ stm K n t = true ∧ stm K n s = true ∧ rdA K X E t s = true ∧ Rch (yes_ K X n) (no_ K n) (blk K X t) t s
def lw (Y N L : Int → Int) (u q : Int) : Prop := (q = Y u ∨ q = N u ∨ q = L u) ∧ 0 ≤ q
def CanP (Y N L : Int → Int) (s v : Int) : Prop := LF (fun u : Int => u = 60) (fun q u : Int => ¬ u = s ∧ lw Y N L u q) v
def DC (K X : Int → Int) (n s d : Int) : Prop := (K d = 3 ∨ K d = 5 ∨ K d = 7 ∨ K d = 8) ∧ stm K n d = true ∧ stm K n s = true ∧ (∃ v, lw (yes_ K X n) (no_ K n) (loo_ K n) d v ∧ ¬ v = 60 ∧ ¬ CanP (yes_ K X n) (no_ K n) (loo_ K n) s v) ∧ (s = d ∨ CanP (yes_ K X n) (no_ K n) (loo_ K n) s d)
def Hg (K X E : Int → Int) (n s t : Int) : Prop := RO K X E n s t ∨ DC K X n s t
theorem stm_i {K : Int → Int} {n p : Int} (a : 0 ≤ p) (b : p < n) (k4 : ¬ K p = 4) (k6 : ¬ K p = 6) : stm K n p = true := by
  simp only [stm, Bool.and_eq_true, decide_eq_true_eq]
  exact ⟨a, b, k4, k6⟩
/-- what is behind a line: the END, a later statement, or a WHILE around -/
theorem bhF_sp {K X E : Int → Int} {n : Nat} (w : WF K X E n) (hw : stk K n = []) : ∀ (f x : Nat), bhF K n f x = 60 ∨ ∃ q : Nat, bhF K n f x = q ∧ stm K n q = true ∧ (x ≤ q ∨ (K q = 5 ∧ q < x ∧ (x : Int) ≤ clo K n q))
  | 0, x => Or.inl rfl
  | f + 1, x => by
    have sv := WF_SV w
    rw [bhF_s]
    by_cases hx : (x : Int) < n
    · rw [if_pos hx]
      have hxn : x < n := by omega
      by_cases k6 : K x = 6
      · obtain ⟨b, g1, g2, g3, g4, g5, g6⟩ := WF_46 w hxn (Or.inr k6)
        have g5 := g5 k6
        rw [if_pos k6, g2]
        by_cases k5 : K b = 5
        · rw [if_pos k5]
          refine Or.inr ⟨b, rfl, stm_i (by omega) (by omega) (by rw [k5]; decide) (by rw [k5]; decide), Or.inr ⟨k5, g3, by omega⟩⟩
        · rw [if_neg k5]
          have ih := bhF_sp w hw f (x + 1)
          rw [show ((x + 1 : Nat) : Int) = (x : Int) + 1 by omega] at ih
          rcases ih with e | ⟨q, e1, e2, e3⟩
          · exact Or.inl e
          · refine Or.inr ⟨q, e1, e2, ?_⟩
            rcases e3 with e3 | ⟨a1, a2, a3⟩
            · exact Or.inl (by omega)
            · refine Or.inr ⟨a1, ?_, by omega⟩
              have : ¬ q = x := fun z => by rw [z, k6] at a1; exact absurd a1 (by decide)
              omega
      · rw [if_neg k6]
        by_cases k4 : K x = 4
        · obtain ⟨b, g1, g2, g3, g4, g5, g6⟩ := WF_46 w hxn (Or.inl k4)
          obtain ⟨m1, m2, m3⟩ := g6 k4
          rw [if_pos k4, g2]
          obtain ⟨c, e1, e2, e3, e4, e5⟩ := clo_stk sv (show b < n by omega) g4
          have hcn : c < n := by have := clo_whole sv hw (show b < n by omega) g4; omega
          have hs := (e5 hcn).2
          have k6c := (e5 hcn).1
          rw [e1]
          rw [e1] at m3
          have ih := bhF_sp w hw f (c + 1)
          rw [show ((c + 1 : Nat) : Int) = (c : Int) + 1 by omega] at ih
          rcases ih with e | ⟨q, f1, f2, f3⟩
          · exact Or.inl e
          · refine Or.inr ⟨q, f1, f2, ?_⟩
            rcases f3 with f3 | ⟨a1, a2, a3⟩
            · exact Or.inl (by omega)
            · refine Or.inr ⟨a1, ?_, ?_⟩
              · have hqc : ¬ q = c := fun z => by rw [z, k6c] at a1; exact absurd a1 (by decide)
                have hm : q ∈ stk K c := by
                  rw [mem_iff sv (show c ≤ n by omega)]
                  exact ⟨by omega, by rw [a1]; decide, by omega⟩
                rw [hs] at hm
                rcases List.mem_cons.mp hm with z | z
                · rw [z, m1] at a1; exact absurd a1 (by decide)
                · have := stk_lt z; omega
              · omega
        · rw [if_neg k4]
          exact Or.inr ⟨x, rfl, stm_i (by omega) hx k4 k6, Or.inl (Nat.le_refl _)⟩
    · rw [if_neg hx]; exact Or.inl rfl
theorem bhd_sp {K X E : Int → Int} {n : Nat} (w : WF K X E n) (hw : stk K n = []) {r : Int} (r0 : -1 ≤ r) : bhd K n r = 60 ∨ ∃ q : Nat, bhd K n r = q ∧ stm K n q = true ∧ (r < q ∨ (K q = 5 ∧ (q : Int) ≤ r ∧ r < clo K n q)) := by
  have h := bhF_sp w hw 62 (r + 1).toNat
  rw [show (((r + 1).toNat : Nat) : Int) = r + 1 by omega] at h
  rcases h with e | ⟨q, e1, e2, e3⟩
  · exact Or.inl e
  · refine Or.inr ⟨q, e1, e2, ?_⟩
    rcases e3 with e3 | ⟨a1, a2, a3⟩
    · exact Or.inl (by omega)
    · exact Or.inr ⟨a1, by omega, by omega⟩
theorem bhd_self {K : Int → Int} {n p : Int} (h : stm K n p = true) : bhd K n (p - 1) = p := by
  obtain ⟨⟨a, b⟩, k4, k6⟩ := stm_n h
  unfold bhd
  rw [show p - 1 + 1 = p by omega, bhF_s, if_pos b, if_neg k6, if_neg k4]
/-- the ways of a statement, told by what is behind -/
theorem yes_v {K X : Int → Int} {n p : Int} (h : stm K n p = true) : yes_ K X n p = if K p = 7 then bhd K n (lcl K n p (X p)) else if K p = 8 then 60 else bhd K n p := by
  unfold yes_; rw [if_pos h]
theorem no_v {K X E : Int → Int} {n p : Nat} (w : WF K X E n) (h : stm K n p = true) (k : K p = 3 ∨ K p = 5) : no_ K n p = bhd K n (if 0 ≤ els K n p then els K n p else clo K n p) := by
  have e : no_ K n p = bhd K n (if K p = 3 ∧ 0 ≤ els K n p then els K n p else clo K n p) := if_pos ⟨h, k⟩
  rw [e]
  congr 1
  by_cases k3 : K p = 3
  · simp [k3]
  · have k5 : K p = 5 := by omega
    rw [els_while w (by have := (stm_n h).1; omega) k5]
    simp [k3]
theorem no_n {K : Int → Int} {n p : Int} (k : ¬ (K p = 3 ∨ K p = 5)) : no_ K n p = -1 := by
  unfold no_; rw [if_neg (fun z => k z.2)]
theorem loo_v {K : Int → Int} {n p : Int} (h : stm K n p = true) (k : K p = 7 ∨ K p = 8) : loo_ K n p = bhd K n p := by
  unfold loo_; rw [if_pos ⟨h, k⟩]
theorem loo_n {K : Int → Int} {n p : Int} (k : ¬ (K p = 7 ∨ K p = 8)) : loo_ K n p = -1 := by
  unfold loo_; rw [if_neg (fun z => k z.2)]
theorem way_n {K X : Int → Int} {n p : Int} (h : ¬ stm K n p = true) : yes_ K X n p = -1 ∧ no_ K n p = -1 ∧ loo_ K n p = -1 := by
  refine ⟨?_, ?_, ?_⟩
  · unfold yes_; rw [if_neg h]
  · unfold no_; rw [if_neg (fun z => h z.1)]
  · unfold loo_; rw [if_neg (fun z => h z.1)]
/-- each way leads to the END or to a statement -/
theorem way_to {K X E : Int → Int} {n p : Nat} (w : WF K X E n) (hw : stk K n = []) (h : stm K n p = true) : (yes_ K X n p = 60 ∨ ∃ q : Nat, yes_ K X n p = q ∧ stm K n q = true) ∧ (no_ K n p = -1 ∨ no_ K n p = 60 ∨ ∃ q : Nat, no_ K n p = q ∧ stm K n q = true) ∧ (loo_ K n p = -1 ∨ loo_ K n p = 60 ∨ ∃ q : Nat, loo_ K n p = q ∧ stm K n q = true) := by
  obtain ⟨⟨p0, pn⟩, k4, k6⟩ := stm_n h
  have bb : ∀ r : Int, -1 ≤ r → bhd K n r = 60 ∨ ∃ q : Nat, bhd K n r = q ∧ stm K n q = true := by
    intro r r0
    rcases bhd_sp w hw r0 with e | ⟨q, e1, e2, -⟩
    · exact Or.inl e
    · exact Or.inr ⟨q, e1, e2⟩
  refine ⟨?_, ?_, ?_⟩
  · rw [yes_v h]
    by_cases k7 : K p = 7
    · rw [if_pos k7]
      have := lcl_le (K := K) (n := n) (p := p) (x := X p) (by omega) (by omega)
      exact bb _ (by omega)
    · rw [if_neg k7]
      by_cases k8 : K p = 8
      · rw [if_pos k8]; exact Or.inl rfl
      · rw [if_neg k8]; exact bb _ (by omega)
  · by_cases k : K p = 3 ∨ K p = 5
    · rw [no_v w h k]
      have hc := clo_le (K := K) (n := n) (p := p) (by omega)
      have he := els_le (K := K) (n := n) (p := p) (by omega) (by omega)
      exact Or.inr (bb _ (by split <;> omega))
    · exact Or.inl (no_n k)
  · by_cases k : K p = 7 ∨ K p = 8
    · rw [loo_v h k]; exact Or.inr (bb _ (by omega))
    · exact Or.inl (loo_n k)
theorem els_gt {K X E : Int → Int} {n p : Nat} (w : WF K X E n) (hp : p < n) (hg : bgn (K p) = true) (h : 0 ≤ els K n p) : (p : Int) < els K n p ∧ els K n p < clo K n p := by
  rcases els_stk (WF_SV w) hp hg with ⟨r, e1, e2, e3, -⟩ | ⟨e1, -⟩
  · rw [e1]; exact ⟨by omega, e3⟩
  · rw [e1] at h; exact absurd h (by decide)
theorem clo_gt {K X E : Int → Int} {n p : Nat} (w : WF K X E n) (hp : p < n) (hg : bgn (K p) = true) : (p : Int) < clo K n p := by
  obtain ⟨c, e1, e2, -⟩ := clo_stk (WF_SV w) hp hg
  rw [e1]; omega
/-- from behind a line that isn't ahead of s, the END can be come to and not by s -/
theorem can_bhd {K X E : Int → Int} {n : Nat} (w : WF K X E n) (hw : stk K n = []) {s : Int} (hs : ∀ q : Nat, stm K n q = true → K q = 5 → ¬ (q : Int) = s) : ∀ (f : Nat) (r : Int), ((n : Int) - r).toNat = f → -1 ≤ r → (s ≤ r ∨ ¬ stm K n s = true) → CanP (yes_ K X n) (no_ K n) (loo_ K n) s (bhd K n r) := by
  intro f
  induction f using Nat.strongRecOn with
  | ind f ih =>
    intro r hf r0 hsr
    rcases bhd_sp w hw r0 with e | ⟨q, e1, e2, e3⟩
    · rw [e]; exact LF_0 rfl
    · rw [e1]
      obtain ⟨⟨q0, qn⟩, k4, k6⟩ := stm_n e2
      have hrn : r < n := by
        rcases e3 with z | ⟨-, z1, z2⟩
        · omega
        · have := clo_le (K := K) (n := n) (p := q) (by omega)
          omega
      have go : ∀ r2 : Int, r < r2 → lw (yes_ K X n) (no_ K n) (loo_ K n) q (bhd K n r2) → ¬ (q : Int) = s → CanP (yes_ K X n) (no_ K n) (loo_ K n) s q := by
        intro r2 hr2 hl hne
        exact LF_s (ih ((n : Int) - r2).toNat (by omega) r2 rfl (by omega) (by rcases hsr with z | z; exact Or.inl (by omega); exact Or.inr z)) ⟨hne, hl⟩
      have bnn : ∀ r2 : Int, -1 ≤ r2 → 0 ≤ bhd K n r2 := by
        intro r2 h2
        rcases bhd_sp w hw h2 with e | ⟨q, e1, -⟩ <;> omega
      by_cases k : K q = 3 ∨ K q = 5
      · have hg : bgn (K q) = true := by simpa [bgn] using k
        have hcg := clo_gt w (show q < n by omega) hg
        have hcl := clo_le (K := K) (n := n) (p := q) (by omega)
        have hr2 : r < (if 0 ≤ els K n q then els K n q else clo K n q) ∧ -1 ≤ (if 0 ≤ els K n q then els K n q else clo K n q) := by
          rcases e3 with e3 | ⟨a1, a2, a3⟩
          · by_cases he : 0 ≤ els K n q
            · rw [if_pos he]
              have := els_gt w (show q < n by omega) hg he
              omega
            · rw [if_neg he]; omega
          · rw [els_while w (show q < n by omega) a1, if_neg (by decide)]; omega
        refine go _ hr2.1 ⟨Or.inr (Or.inl (no_v w e2 k).symm), bnn _ hr2.2⟩ ?_
        rcases e3 with e3 | ⟨a1, a2, a3⟩
        · rcases hsr with z | z
          · omega
          · intro ee; rw [← ee] at z; exact z e2
        · exact hs q e2 a1
      · have hrq : r < q := by
          rcases e3 with e3 | ⟨a1, -⟩
          · exact e3
          · exact absurd (Or.inr a1) k
        have hne : ¬ (q : Int) = s := by
          rcases hsr with z | z
          · omega
          · intro ee; rw [← ee] at z; exact z e2
        by_cases k78 : K q = 7 ∨ K q = 8
        · exact go q hrq ⟨Or.inr (Or.inr (loo_v e2 k78).symm), bnn _ (by omega)⟩ hne
        · refine go q hrq ⟨Or.inl ?_, bnn _ (by omega)⟩ hne
          rw [yes_v e2, if_neg (fun z => k78 (Or.inl z)), if_neg (fun z => k78 (Or.inr z))]
/-- no line that is no statement stands on a row to the END -/
theorem can_non {K X E : Int → Int} {n : Nat} (w : WF K X E n) (hw : stk K n = []) {s : Int} (hs : ¬ stm K n s = true) {p : Int} (hp : stm K n p = true) : CanP (yes_ K X n) (no_ K n) (loo_ K n) s p := by
  have h := can_bhd w hw (s := s) (fun q hq _ e => by rw [e] at hq; exact hs hq) _ (p - 1) rfl (by have := (stm_n hp).1; omega) (Or.inr hs)
  rw [bhd_self hp] at h
  exact h
