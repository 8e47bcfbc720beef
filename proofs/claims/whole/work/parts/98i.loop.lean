/-! ===== every WHILE around a statement is one on which it hangs ===== -/
theorem bhF_fuel {K : Int → Int} {n : Int} (w : WFb K n) : ∀ (f g : Nat) (q : Int), 0 ≤ q → (n - q).toNat < f → (n - q).toNat < g → bhF K n f q = bhF K n g q
  | 0, g, q, _, h, _ => by omega
  | f + 1, 0, q, _, _, h => by omega
  | f + 1, g + 1, q, q0, h1, h2 => by
    rw [bhF_s, bhF_s]
    by_cases c : q < n
    · rw [if_pos c, if_pos c]
      by_cases k6 : K q = 6
      · rw [if_pos k6, if_pos k6, bhF_fuel w f g (q + 1) (by omega) (by omega) (by omega)]
      · rw [if_neg k6, if_neg k6]
        by_cases k4 : K q = 4
        · rw [if_pos k4, if_pos k4]
          have := (w q q0 c (Or.inl k4)).2.2 k4
          exact bhF_fuel w f g _ (by omega) (by omega) (by omega)
        · rw [if_neg k4, if_neg k4]
    · rw [if_neg c, if_neg c]
theorem bhd_6w {K : Int → Int} {n p b : Int} (hp : p < n) (k6 : K p = 6) (hb : bgo K n p = b) (k5 : K b = 5) : bhd K n (p - 1) = b := by
  unfold bhd
  rw [show p - 1 + 1 = p by omega, bhF_s, if_pos hp, if_pos k6, hb, if_pos k5]
theorem bhd_6i {K : Int → Int} {n p b : Int} (w : WFb K n) (n60 : n ≤ 60) (p0 : 0 ≤ p) (hp : p < n) (k6 : K p = 6) (hb : bgo K n p = b) (k5 : ¬ K b = 5) : bhd K n (p - 1) = bhd K n p := by
  unfold bhd
  rw [show p - 1 + 1 = p by omega, bhF_s, if_pos hp, if_pos k6, hb, if_neg k5]
  exact bhF_fuel w _ _ _ (by omega) (by omega) (by omega)
theorem bhd_4 {K : Int → Int} {n p b : Int} (w : WFb K n) (n60 : n ≤ 60) (p0 : 0 ≤ p) (hp : p < n) (k4 : K p = 4) (hb : bgo K n p = b) : bhd K n (p - 1) = bhd K n (clo K n b) := by
  have := (w p p0 hp (Or.inl k4)).2.2 k4
  rw [hb] at this
  unfold bhd
  rw [show p - 1 + 1 = p by omega, bhF_s, if_pos hp, if_neg (by omega), if_pos k4, hb]
  exact bhF_fuel w _ _ _ (by omega) (by omega) (by omega)
theorem can_inv {Y N L : Int → Int} {s v : Int} (h : CanP Y N L s v) : v = 60 ∨ ∃ q, CanP Y N L s q ∧ ¬ v = s ∧ lw Y N L v q := h (fun v => v = 60 ∨ ∃ q, CanP Y N L s q ∧ ¬ v = s ∧ lw Y N L v q) (fun u e => Or.inl e) (fun q u hq hu => Or.inr ⟨q, by
  rcases hq with e | ⟨q2, a, b, c⟩
  · exact LF_0 e
  · exact LF_s a ⟨b, c⟩, hu⟩)
theorem can_bhd2 {K X E : Int → Int} {n : Nat} (w : WF K X E n) (hw : stk K n = []) {s : Int} : ∀ (f : Nat) (r : Int), ((n : Int) - r).toNat = f → -1 ≤ r → s ≤ r → (∀ q : Nat, (q : Int) = s → K q = 5 → clo K n q ≤ r) → CanP (yes_ K X n) (no_ K n) (loo_ K n) s (bhd K n r) := by
  intro f
  induction f using Nat.strongRecOn with
  | ind f ih =>
    intro r hf r0 hsr hsc
    rcases bhd_sp w hw r0 with e | ⟨q, e1, e2, e3⟩
    · rw [e]; exact LF_0 rfl
    · rw [e1]
      obtain ⟨⟨q0, qn⟩, k4, k6⟩ := stm_n e2
      have hrn : r < n := by
        rcases e3 with z | ⟨-, z1, z2⟩
        · omega
        · have := clo_le (K := K) (n := n) (p := q) (by omega)
          omega
      have go : ∀ r2 : Int, r < r2 → lw (yes_ K X n) (no_ K n) (loo_ K n) q (bhd K n r2) → ¬ (q : Int) = s → CanP (yes_ K X n) (no_ K n) (loo_ K n) s q := by
        intro r2 hr2 hl hne
        exact LF_s (ih ((n : Int) - r2).toNat (by omega) r2 rfl (by omega) (by omega) (fun q a b => by have := hsc q a b; omega)) ⟨hne, hl⟩
      have bnn : ∀ r2 : Int, -1 ≤ r2 → 0 ≤ bhd K n r2 := by
        intro r2 h2
        rcases bhd_sp w hw h2 with e | ⟨q, e1, -⟩ <;> omega
      by_cases k : K q = 3 ∨ K q = 5
      · have hg : bgn (K q) = true := by simpa [bgn] using k
        have hcg := clo_gt w (show q < n by omega) hg
        have hcl := clo_le (K := K) (n := n) (p := q) (by omega)
        have hr2 : r < (if 0 ≤ els K n q then els K n q else clo K n q) ∧ -1 ≤ (if 0 ≤ els K n q then els K n q else clo K n q) := by
          rcases e3 with e3 | ⟨a1, a2, a3⟩
          · by_cases he : 0 ≤ els K n q
            · rw [if_pos he]
              have := els_gt w (show q < n by omega) hg he
              omega
            · rw [if_neg he]; omega
          · rw [els_while w (show q < n by omega) a1, if_neg (by decide)]; omega
        refine go _ hr2.1 ⟨Or.inr (Or.inl (no_v w e2 k).symm), bnn _ hr2.2⟩ ?_
        rcases e3 with e3 | ⟨a1, a2, a3⟩
        · omega
        · intro ee
          have := hsc q ee a1
          omega
      · have hrq : r < q := by
          rcases e3 with e3 | ⟨a1, -⟩
          · exact e3
          · exact absurd (Or.inr a1) k
        have hne : ¬ (q : Int) = s := by omega
        by_cases k78 : K q = 7 ∨ K q = 8
        · exact go q hrq ⟨Or.inr (Or.inr (loo_v e2 k78).symm), bnn _ (by omega)⟩ hne
        · refine go q hrq ⟨Or.inl ?_, bnn _ (by omega)⟩ hne
          rw [yes_v e2, if_neg (fun z => k78 (Or.inl z)), if_neg (fun z => k78 (Or.inr z))]
theorem can_w {K X E : Int → Int} {n l b : Nat} (w : WF K X E n) (hw : stk K n = []) (hl : stm K n l = true) (hb : b ∈ stk K l) (k5 : K b = 5) : stm K n b = true ∧ CanP (yes_ K X n) (no_ K n) (loo_ K n) l b := by
  have sv := WF_SV w
  have ln := stm_lt hl
  have hbl := stk_lt hb
  have hbg := stk_bgn hb
  have hst : stm K n b = true := stm_i (by omega) (by omega) (by rw [k5]; decide) (by rw [k5]; decide)
  refine ⟨hst, ?_⟩
  have hcl := ((mem_iff sv (show l ≤ n by omega)).mp hb).2.2
  obtain ⟨c, e1, e2, e3, e4, e5⟩ := clo_stk sv (show b < n by omega) hbg
  have hcn : c < n := by have := clo_whole sv hw (show b < n by omega) hbg; omega
  obtain ⟨k6c, hsc⟩ := e5 hcn
  rw [e1] at hcl
  have k6l : ¬ l = c := by
    rintro rfl
    exact (stm_n hl).2.2 k6c
  refine LF_s (can_bhd2 w hw (s := l) _ (c : Int) rfl (by omega) (by omega) (fun q eq kq => ?_)) ⟨by omega, Or.inr (Or.inl ?_), ?_⟩
  · have : q = l := by omega
    subst this
    obtain ⟨d, f1, f2, f3, f4, f5⟩ := clo_stk sv (show q < n by omega) (by rw [kq]; decide)
    rw [f1]
    refine Classical.byContradiction fun z => ?_
    have m := f4 (c + 1) (by omega) (by omega)
    rw [stk_6 k6c, hsc] at m
    have := stk_lt m
    omega
  · rw [no_v w hst (Or.inr k5), els_while w (by omega) k5, if_neg (by decide), e1]
  · rcases bhd_sp w hw (r := (c : Int)) (by omega) with e | ⟨q, e, -⟩ <;> omega
theorem hang_w {K X E : Int → Int} {n l b : Nat} (w : WF K X E n) (hw : stk K n = []) (n60 : n ≤ 60) (hl : stm K n l = true) (hb : b ∈ stk K l) (k5 : K b = 5) : ∀ u : Nat, b < u → u ≤ l → ¬ CanP (yes_ K X n) (no_ K n) (loo_ K n) l (bhd K n ((u : Int) - 1)) → ∃ p : Nat, b ≤ p ∧ p < u ∧ DC K X n l p := by
  have sv := WF_SV w
  have wb := WF_WFb w
  have ln := stm_lt hl
  obtain ⟨stb, canb⟩ := can_w w hw hl hb k5
  have c60 : CanP (yes_ K X n) (no_ K n) (loo_ K n) l 60 := LF_0 rfl
  intro u
  induction u using Nat.strongRecOn with
  | ind u ih =>
    intro bu ul nc
    obtain ⟨p, rfl⟩ : ∃ p, u = p + 1 := ⟨u - 1, by omega⟩
    rw [show ((p + 1 : Nat) : Int) - 1 = (p : Int) by omega] at nc
    have bnn : ∀ r2 : Int, -1 ≤ r2 → 0 ≤ bhd K n r2 := by
      intro r2 h2
      rcases bhd_sp w hw h2 with e | ⟨q, e1, -⟩ <;> omega
    have n60' : ¬ bhd K n p = 60 := fun e => nc (by rw [e]; exact c60)
    have hbp : ¬ b = p → b ∈ stk K p := fun ne => stk_mono (by omega) hb (by omega)
    by_cases hc : CanP (yes_ K X n) (no_ K n) (loo_ K n) l (bhd K n ((p : Int) - 1))
    · by_cases st : stm K n p = true
      · rw [bhd_self st] at hc
        by_cases k35 : K p = 3 ∨ K p = 5
        · refine ⟨p, by omega, by omega, ?_, st, hl, ⟨bhd K n p, ⟨Or.inl ?_, bnn _ (by omega)⟩, n60', nc⟩, Or.inr hc⟩
          · rcases k35 with z | z
            · exact Or.inl z
            · exact Or.inr (Or.inl z)
          · rw [yes_v st, if_neg (by omega), if_neg (by omega)]
        · by_cases k78 : K p = 7 ∨ K p = 8
          · refine ⟨p, by omega, by omega, Or.inr (Or.inr k78), st, hl, ⟨bhd K n p, ⟨Or.inr (Or.inr (loo_v st k78).symm), bnn _ (by omega)⟩, n60', nc⟩, Or.inr hc⟩
          · exfalso
            rcases can_inv hc with e | ⟨q, a1, a2, a3, a4⟩
            · omega
            · rw [yes_v st, if_neg (by omega), if_neg (by omega), no_n k35, loo_n k78] at a3
              rcases a3 with e | e | e
              · rw [e] at a1; exact nc a1
              · omega
              · omega
      · have k46 : K p = 4 ∨ K p = 6 := Classical.byContradiction fun z => st (stm_i (by omega) (by omega) (fun e => z (Or.inl e)) (fun e => z (Or.inr e)))
        have nbp : ¬ b = p := fun e => by rw [← e, k5] at k46; omega
        have mbp := hbp nbp
        obtain ⟨c, g1, g2, g3, g4, g5, g6⟩ := WF_46 w (show p < n by omega) k46
        have bc : b ≤ c := by
          rw [g1] at mbp
          rcases List.mem_cons.mp mbp with z | z
          · omega
          · have := stk_lt z; omega
        rcases k46 with k4 | k6
        · obtain ⟨m1, m2, m3⟩ := g6 k4
          have stc : stm K n c = true := stm_i (by omega) (by omega) (by rw [m1]; decide) (by rw [m1]; decide)
          have nbc : ¬ b = c := fun e => by rw [← e, k5] at m1; exact absurd m1 (by decide)
          by_cases cc : CanP (yes_ K X n) (no_ K n) (loo_ K n) l c
          · refine ⟨c, bc, by omega, Or.inl m1, stc, hl, ⟨bhd K n p, ⟨Or.inr (Or.inl ?_), bnn _ (by omega)⟩, n60', nc⟩, Or.inr cc⟩
            rw [no_v w stc (Or.inl m1), m2, if_pos (by omega)]
          · obtain ⟨q, q1, q2, q3⟩ := ih c (by omega) (by omega) (by omega) (by rw [bhd_self stc]; exact cc)
            exact ⟨q, q1, by omega, q3⟩
        · by_cases k5c : K c = 5
          · have stc : stm K n c = true := stm_i (by omega) (by omega) (by rw [k5c]; decide) (by rw [k5c]; decide)
            rw [bhd_6w (by omega) k6 g2 k5c] at hc
            refine ⟨c, bc, by omega, Or.inr (Or.inl k5c), stc, hl, ⟨bhd K n p, ⟨Or.inr (Or.inl ?_), bnn _ (by omega)⟩, n60', nc⟩, Or.inr hc⟩
            rw [no_v w stc (Or.inr k5c), els_while w (by omega) k5c, if_neg (by decide), g5 k6]
          · rw [bhd_6i wb (by omega) (by omega) (by omega) k6 g2 k5c] at hc
            exact absurd hc nc
    · have nbp : ¬ b = p := fun e => by
        rw [← e, bhd_self stb] at hc
        exact hc canb
      obtain ⟨q, q1, q2, q3⟩ := ih p (by omega) (by omega) (by omega) hc
      exact ⟨q, q1, by omega, q3⟩
theorem LF_tr {α : Type} {st : α → α → Prop} {a b c : α} (h1 : LF (fun u => u = a) st b) (h2 : LF (fun u => u = b) st c) : LF (fun u => u = a) st c := h2 (fun v => LF (fun u => u = a) st v) (fun u e => by rw [e]; exact h1) (fun q u hq hs => LF_s hq hs)
theorem while_sl {K X E : Int → Int} {n b : Nat} (w : WF K X E n) (hw : stk K n = []) (n60 : n ≤ 60) (k5 : K b = 5) : ∀ l : Nat, stm K n l = true → b ∈ stk K l → Sl K X E n l b := by
  intro l
  induction l using Nat.strongRecOn with
  | ind l ih =>
    intro hl hb
    have hbl := stk_lt hb
    have nl : ¬ CanP (yes_ K X n) (no_ K n) (loo_ K n) l (bhd K n ((l : Int) - 1)) := by
      rw [bhd_self hl]
      intro z
      rcases can_inv z with e | ⟨q, a1, a2, -⟩
      · have := stm_lt hl; omega
      · exact a2 rfl
    obtain ⟨p, p1, p2, p3⟩ := hang_w w hw n60 hl hb k5 l hbl (Nat.le_refl _) nl
    have sp : Sl K X E n l p := LF_s (LF_0 rfl) (Or.inr p3 : HgN K X E n l p)
    by_cases e : p = b
    · rw [← e]; exact sp
    · exact LF_tr sp (ih p p2 p3.2.1 (stk_mono (by omega) hb (by omega)))
