/-! ===== the class: what decides ===== -/
theorem l60 {K X E : Int → Int} {n p : Nat} (w : WF K X E n) (hw : stk K n = []) (n60 : n ≤ 60) (h : stm K n p = true) : (gA K X n p = -1 ∨ ∃ q : Nat, gA K X n p = q ∧ stm K n q = true) ∧ (gL K n p = -1 ∨ ∃ q : Nat, gL K n p = q ∧ stm K n q = true) := by
  obtain ⟨t1, t2, t3⟩ := way_to w hw h
  have cv : ∀ v : Int, (v = 60 ∨ ∃ q : Nat, v = q ∧ stm K n q = true) → e60 v = -1 ∨ ∃ q : Nat, e60 v = q ∧ stm K n q = true := by
    intro v hv
    rcases hv with e | ⟨q, e, e2⟩
    · left; rw [e]; rfl
    · right; refine ⟨q, ?_, e2⟩; unfold e60; have := stm_lt e2; rw [if_neg (by omega)]; exact e
  refine ⟨by rw [gA_y h]; exact cv _ t1, ?_⟩
  rw [gL_y w h]
  by_cases k : K p = 3 ∨ K p = 5
  · rw [if_pos k]
    refine cv _ ?_
    rcases t2 with e | e
    · rw [no_v w h k] at e
      have hp := (stm_n h).1
      have hc := clo_le (K := K) (n := n) (p := p) (by omega)
      have he := els_le (K := K) (n := n) (p := p) (by omega) (by omega)
      have := bhd_le (K := K) (n := n) (p := if 0 ≤ els K n p then els K n p else clo K n p) (by omega) (WF_WFb w) (by split <;> omega)
      omega
    · exact e
  · rw [if_neg k]
    by_cases k7 : K p = 7 ∨ K p = 8
    · rw [if_pos k7]
      refine cv _ ?_
      rcases t3 with e | e
      · rw [loo_v h k7] at e
        have hp := (stm_n h).1
        have := bhd_le (K := K) (n := n) (p := p) (by omega) (WF_WFb w) (by omega)
        omega
      · exact e
    · rw [if_neg k7]; exact cv _ t1
/-- a loose way, by the class's two rows -/
theorem lw_g {K X E : Int → Int} {n p : Nat} (w : WF K X E n) (hw : stk K n = []) (n60 : n ≤ 60) (h : stm K n p = true) (v : Int) : lw (yes_ K X n) (no_ K n) (loo_ K n) p v ↔ (v = 60 ∨ ∃ q : Nat, v = q ∧ stm K n q = true) ∧ (e60 v = gA K X n p ∨ e60 v = gL K n p) := by
  obtain ⟨t1, t2, t3⟩ := way_to w hw h
  have inj : ∀ {a b : Int}, (a = 60 ∨ ∃ q : Nat, a = q ∧ stm K n q = true) → (b = 60 ∨ ∃ q : Nat, b = q ∧ stm K n q = true) → (e60 a = e60 b ↔ a = b) := by
    intro a b ha hb
    have ha : 0 ≤ a ∧ a ≤ 60 := by
      rcases ha with e | ⟨q, e, e2⟩
      · omega
      · have := stm_lt e2; omega
    have hb : 0 ≤ b ∧ b ≤ 60 := by
      rcases hb with e | ⟨q, e, e2⟩
      · omega
      · have := stm_lt e2; omega
    unfold e60
    split <;> split <;> omega
  have nn : ∀ {a : Int}, (a = 60 ∨ ∃ q : Nat, a = q ∧ stm K n q = true) → 0 ≤ a := by
    intro a ha
    rcases ha with e | ⟨q, e, -⟩ <;> omega
  unfold lw
  rw [gA_y h, gL_y w h]
  by_cases k : K p = 3 ∨ K p = 5
  · have t2 : no_ K n p = 60 ∨ ∃ q : Nat, no_ K n p = q ∧ stm K n q = true := by
      rcases t2 with e | e
      · rw [no_v w h k] at e
        have hp := (stm_n h).1
        have hc := clo_le (K := K) (n := n) (p := p) (by omega)
        have he := els_le (K := K) (n := n) (p := p) (by omega) (by omega)
        have := bhd_le (K := K) (n := n) (p := if 0 ≤ els K n p then els K n p else clo K n p) (by omega) (WF_WFb w) (by split <;> omega)
        omega
      · exact e
    rw [if_pos k, loo_n (fun z => by rcases k with a | a <;> rcases z with b | b <;> rw [a] at b <;> exact absurd b (by decide))]
    constructor
    · rintro ⟨e | e | e, e0⟩
      · rw [e]; exact ⟨t1, Or.inl rfl⟩
      · rw [e]; exact ⟨t2, Or.inr rfl⟩
      · omega
    · rintro ⟨hv, e | e⟩
      · exact ⟨Or.inl ((inj hv t1).mp e), nn hv⟩
      · exact ⟨Or.inr (Or.inl ((inj hv t2).mp e)), nn hv⟩
  · rw [if_neg k, no_n k]
    by_cases k7 : K p = 7 ∨ K p = 8
    · have t3 : loo_ K n p = 60 ∨ ∃ q : Nat, loo_ K n p = q ∧ stm K n q = true := by
        rcases t3 with e | e
        · rw [loo_v h k7] at e
          have hp := (stm_n h).1
          have := bhd_le (K := K) (n := n) (p := p) (by omega) (WF_WFb w) (by omega)
          omega
        · exact e
      rw [if_pos k7]
      constructor
      · rintro ⟨e | e | e, e0⟩
        · rw [e]; exact ⟨t1, Or.inl rfl⟩
        · omega
        · rw [e]; exact ⟨t3, Or.inr rfl⟩
      · rintro ⟨hv, e | e⟩
        · exact ⟨Or.inl ((inj hv t1).mp e), nn hv⟩
        · exact ⟨Or.inr (Or.inr ((inj hv t3).mp e)), nn hv⟩
    · rw [if_neg k7, loo_n k7]
      constructor
      · rintro ⟨e | e | e, e0⟩
        · rw [e]; exact ⟨t1, Or.inl rfl⟩
        · omega
        · omega
      · rintro ⟨hv, e | e⟩
        · exact ⟨Or.inl ((inj hv t1).mp e), nn hv⟩
        · exact ⟨Or.inl ((inj hv t1).mp e), nn hv⟩
theorem can_C {c : Nat} {h : Hp} {n : Nat} (pi : PI c h n) (hw : stk (cK c h) n = []) (wo : WO c h n) {s p : Nat} (hp : stm (cK c h) n p = true) : CanC (stG c h n) (hI h (c + 12)) (hI h (c + 14)) s p ↔ CanP (yes_ (cK c h) (cX c h) n) (no_ (cK c h) n) (loo_ (cK c h) n) s p := by
  have wf := PI_wf pi
  have n60 := PI_60 pi
  have rA : ∀ q : Nat, stm (cK c h) n q = true → hI h (c + 12) q = gA (cK c h) (cX c h) n q ∧ hI h (c + 14) q = gL (cK c h) n q := fun q hq => ⟨(wo.2.2 q (stm_lt hq)).1, (wo.2.2 q (stm_lt hq)).2.2.1⟩
  constructor
  · intro hc
    have key := hc (fun v => v = -1 ∨ ∃ q : Nat, v = q ∧ stm (cK c h) n q = true ∧ CanP (yes_ (cK c h) (cX c h) n) (no_ (cK c h) n) (loo_ (cK c h) n) s q) (fun u hu => Or.inl hu) (by
      rintro q u hq ⟨r, e, r1, r2, r3⟩
      refine Or.inr ⟨r, e, r2.2, ?_⟩
      obtain ⟨g1, g2⟩ := rA r r2.2
      rw [g1, g2] at r3
      have tgt : ∃ v : Int, (v = 60 ∨ ∃ z : Nat, v = z ∧ stm (cK c h) n z = true) ∧ e60 v = q ∧ CanP (yes_ (cK c h) (cX c h) n) (no_ (cK c h) n) (loo_ (cK c h) n) s v := by
        rcases hq with e | ⟨z, e, z1, z2⟩
        · exact ⟨60, Or.inl rfl, by rw [e]; rfl, LF_0 rfl⟩
        · refine ⟨z, Or.inr ⟨z, rfl, z1⟩, ?_, z2⟩
          unfold e60; have := stm_lt z1; rw [if_neg (by omega)]; exact e.symm
      obtain ⟨v, v1, v2, v3⟩ := tgt
      refine LF_s v3 ⟨by omega, (lw_g wf hw n60 r2.2 v).mpr ⟨v1, ?_⟩⟩
      rw [v2]; exact r3)
    rcases key with e | ⟨q, e, -, q2⟩
    · omega
    · have : p = q := by omega
      rw [this]; exact q2
  · intro hc
    have key := hc (fun v => v = 60 ∨ ∃ q : Nat, v = q ∧ stm (cK c h) n q = true ∧ CanC (stG c h n) (hI h (c + 12)) (hI h (c + 14)) s q) (fun u hu => Or.inl hu) (by
      rintro q u hq ⟨hne, hl⟩
      have hu : stm (cK c h) n u = true := by
        refine Classical.byContradiction fun z => ?_
        have := way_n (X := cX c h) z
        obtain ⟨a | a | a, a0⟩ := hl <;> omega
      obtain ⟨r, rfl⟩ : ∃ r : Nat, u = r := ⟨u.toNat, by have := (stm_n hu).1; omega⟩
      refine Or.inr ⟨r, rfl, hu, ?_⟩
      obtain ⟨-, hl⟩ := (lw_g wf hw n60 hu q).mp hl
      obtain ⟨g1, g2⟩ := rA r hu
      rw [← g1, ← g2] at hl
      have hcq : CanC (stG c h n) (hI h (c + 12)) (hI h (c + 14)) s (e60 q) := by
        rcases hq with e | ⟨z, e, z1, z2⟩
        · rw [e]; exact LF_0 rfl
        · have e2 : e60 q = z := by unfold e60; have := stm_lt z1; rw [if_neg (by omega)]; exact e
          rw [e2]; exact z2
      exact LF_s hcq ⟨r, rfl, by omega, ⟨stm_lt hu, hu⟩, hl⟩)
    rcases key with e | ⟨q, e, -, q2⟩
    · have := stm_lt hp; omega
    · have : p = q := by omega
      rw [this]; exact q2
/-- decided, as the document has it -/
theorem dc_R {c : Nat} {h : Hp} {n : Nat} (pi : PI c h n) (hw : stk (cK c h) n = []) (wo : WO c h n) {S : Nat → BitVec 64} (hS : ∀ p, p < n → stG c h n p → ∀ i, i < 64 → ((S p).getLsbD i = true ↔ ¬ CanC (stG c h n) (hI h (c + 12)) (hI h (c + 14)) i p)) {d s : Nat} (hd : d < n) (hs : s < n) : dcb c h S d s ↔ DC (cK c h) (cX c h) n s d := by
  have wf := PI_wf pi
  have n60 := PI_60 pi
  unfold dcb DC
  by_cases k : cK c h d = 3 ∨ cK c h d = 5 ∨ cK c h d = 7 ∨ cK c h d = 8
  · have sd : stm (cK c h) n d = true := stm_i (by omega) (by omega) (by omega) (by omega)
    obtain ⟨w1, w2, w3, w4⟩ := wo.2.2 d hd
    obtain ⟨lA, lL⟩ := l60 wf hw n60 sd
    rw [← w1] at lA
    rw [← w3] at lL
    have fS : ∀ v : Int, (v = -1 ∨ ∃ q : Nat, v = q ∧ stm (cK c h) n q = true) → ((sf S v).getLsbD s = true ↔ ∃ q : Nat, v = q ∧ stm (cK c h) n q = true ∧ ¬ CanP (yes_ (cK c h) (cX c h) n) (no_ (cK c h) n) (loo_ (cK c h) n) s q) := by
      intro v hv
      unfold sf
      rcases hv with e | ⟨q, e, e2⟩
      · rw [if_neg (by omega), bz]
        constructor
        · intro z; cases z
        · rintro ⟨q, z, -⟩; omega
      · rw [if_pos (by omega), e, Int.toNat_natCast, hS q (stm_lt e2) ⟨stm_lt e2, e2⟩ s (by omega), can_C pi hw wo e2]
        constructor
        · intro z; exact ⟨q, rfl, e2, z⟩
        · rintro ⟨q2, z1, z2, z3⟩
          have : q = q2 := by omega
          rw [this]; exact z3
    have hleft : ((sf S (hI h (c + 12) d) ||| sf S (hI h (c + 14) d)).getLsbD s = true) ↔ ∃ v, lw (yes_ (cK c h) (cX c h) n) (no_ (cK c h) n) (loo_ (cK c h) n) d v ∧ ¬ v = 60 ∧ ¬ CanP (yes_ (cK c h) (cX c h) n) (no_ (cK c h) n) (loo_ (cK c h) n) s v := by
      rw [BitVec.getLsbD_or, Bool.or_eq_true, fS _ lA, fS _ lL, w1, w3]
      constructor
      · rintro (⟨q, e, e2, e3⟩ | ⟨q, e, e2, e3⟩)
        · refine ⟨q, (lw_g wf hw n60 sd q).mpr ⟨Or.inr ⟨q, rfl, e2⟩, Or.inl ?_⟩, by have := stm_lt e2; omega, e3⟩
          rw [e]; unfold e60; have := stm_lt e2; rw [if_neg (by omega)]
        · refine ⟨q, (lw_g wf hw n60 sd q).mpr ⟨Or.inr ⟨q, rfl, e2⟩, Or.inr ?_⟩, by have := stm_lt e2; omega, e3⟩
          rw [e]; unfold e60; have := stm_lt e2; rw [if_neg (by omega)]
      · rintro ⟨v, v1, v2, v3⟩
        obtain ⟨hv, hl⟩ := (lw_g wf hw n60 sd v).mp v1
        rcases hv with e | ⟨q, e, e2⟩
        · exact absurd e v2
        · have e60v : e60 v = q := by unfold e60; rw [if_neg v2]; exact e
          rw [e60v] at hl
          rw [e] at v3
          rcases hl with z | z
          · exact Or.inl ⟨q, z.symm, e2, v3⟩
          · exact Or.inr ⟨q, z.symm, e2, v3⟩
    have hright : ((S d ^^^ BitVec.ofInt 64 (-1)) ||| bit1 d).getLsbD s = true ↔ (s : Int) = d ∨ CanP (yes_ (cK c h) (cX c h) n) (no_ (cK c h) n) (loo_ (cK c h) n) s d := by
      rw [or_bit (by omega), bv_not]
      have hs64 : s < 64 := by omega
      simp only [hs64, decide_true, Bool.true_and, Bool.not_eq_true']
      have hb := hS d hd ⟨hd, sd⟩ s hs64
      rw [can_C pi hw wo sd] at hb
      constructor
      · rintro (z | z)
        · right
          refine Classical.byContradiction fun q => ?_
          rw [hb.mpr q] at z; cases z
        · left; omega
      · rintro (z | z)
        · right; omega
        · left
          cases hz : (S d).getLsbD s with
          | false => rfl
          | true => exact absurd z (hb.mp hz)
    rw [BitVec.getLsbD_and, Bool.and_eq_true, hleft, hright]
    constructor
    · rintro ⟨k2, h1, h2⟩
      refine ⟨k2, sd, ?_, h1, h2⟩
      refine Classical.byContradiction fun z => ?_
      obtain ⟨v, v1, v2, v3⟩ := h1
      obtain ⟨hv, -⟩ := (lw_g wf hw n60 sd v).mp v1
      rcases hv with e | ⟨q, e, e2⟩
      · exact v2 e
      · rw [e] at v3; exact v3 (can_non wf hw z e2)
    · rintro ⟨k2, -, -, h1, h2⟩
      exact ⟨k2, h1, h2⟩
  · exact ⟨fun z => absurd z.1 k, fun z => absurd z.1 k⟩
/-! ===== the class: Hanging.upTo ===== -/
def HO (c : Nat) (h : Hp) (n : Nat) : Prop := hI h (c + 16) 3 = n ∧ (∀ s, s < n → ∀ i, ((hL h (c + 17) s).getLsbD i = true ↔ i < n ∧ RO (cK c h) (cX c h) (cE c h) n s i) ∧ ((hL h (c + 18) s).getLsbD i = true ↔ i < n ∧ DC (cK c h) (cX c h) n s i)) ∧ ∀ s, n ≤ s → s < 60 → hL h (c + 17) s = 0#64 ∧ hL h (c + 18) s = 0#64
def CI (c : Nat) (h : Hp) (n : Nat) : Prop := hI h (c + 11) 5 ≤ n ∧ hI h (c + 16) 3 ≤ n ∧ (hI h (c + 11) 5 = n → WO c h n) ∧ (hI h (c + 16) 3 = n → HO c h n)
theorem WO_FR {c : Nat} {h h2 : Hp} {n : Nat} {lo hi : Nat} (fr : FR lo hi h h2) (q : c + 15 < lo ∨ hi < c + 1) (w : WO c h n) : WO c h2 n := by
  obtain ⟨e1, e2, e3⟩ := FR_K fr (c := c) (by omega)
  unfold WO WR at *
  rw [e1, e2, FR_i fr (by omega), FR_i fr (by omega)]
  refine ⟨w.1, w.2.1, fun p hp => ?_⟩
  rw [FR_i fr (by omega), FR_i fr (by omega), FR_i fr (by omega), FR_l fr (by omega)]
  exact w.2.2 p hp
/-- rows of ways that lie beside those that change -/
theorem WO_FR2 {c : Nat} {h h2 : Hp} {n : Nat} {lo hi : Nat} (fr : FR lo hi h h2) (q : c + 16 ≤ lo) (w : WO c h n) : WO c h2 n := WO_FR fr (by omega) w
theorem HO_FR {c : Nat} {h h2 : Hp} {n : Nat} {lo hi : Nat} (fr : FR lo hi h h2) (q : c + 18 < lo ∨ hi < c + 1 ∨ (c + 3 < lo ∧ hi < c + 16)) (w : HO c h n) : HO c h2 n := by
  obtain ⟨e1, e2, e3⟩ := FR_K fr (c := c) (by omega)
  unfold HO at *
  rw [e1, e2, e3, FR_i fr (by omega)]
  refine ⟨w.1, fun s hs i => ?_, fun s h1 h2 => ?_⟩
  · rw [FR_l fr (by omega), FR_l fr (by omega)]; exact w.2.1 s hs i
  · rw [FR_l fr (by omega), FR_l fr (by omega)]; exact w.2.2 s h1 h2
theorem CI_FR {c : Nat} {h h2 : Hp} {n : Nat} {lo hi : Nat} (fr : FR lo hi h h2) (q : c + 18 < lo ∨ hi < c + 1) (w : CI c h n) : CI c h2 n := by
  unfold CI at *
  rw [FR_i fr (by omega), FR_i fr (by omega)]
  exact ⟨w.1, w.2.1, fun z => WO_FR fr (by omega) (w.2.2.1 z), fun z => HO_FR fr (by omega) (w.2.2.2 z)⟩
theorem pc_upW2 {sc : Scr} {c : Nat} {h : Hp} {Q : Option AV → Hp → Prop} {n : Nat} (pi : PI c h n) (hw : stk (cK c h) n = []) (ci : CI c h n) (hQ : ∀ h2, FR (c + 11) (c + 15) h h2 → WO c h2 n → CI c h2 n → Q (some (aR (c + 11))) h2) : WC sc 70 [aR (c + 11), aR c] h Q := by
  refine pc_upW pi hw ci.2.2.1 (fun h2 fr wo => hQ h2 fr wo ⟨?_, ?_, fun _ => wo, fun z => ?_⟩)
  · rw [wo.1]; omega
  · rw [FR_i fr (by omega)]; exact ci.2.1
  · rw [FR_i fr (by omega)] at z
    exact HO_FR fr (by omega) (ci.2.2.2 z)
theorem pc_upH {sc : Scr} {c : Nat} {h : Hp} {Q : Option AV → Hp → Prop} {n : Nat} (pi : PI c h n) (hw : stk (cK c h) n = []) (ci : CI c h n) (hQ : ∀ h2, FR (c + 11) (c + 19) h h2 → HO c h2 n → CI c h2 n → Q (some (aR (c + 16))) h2) : WC sc 13 [aR (c + 16), aR c] h Q := by
  have sp := PI_sp pi
  have n60 := PI_60 pi
  have hn := PI_n pi
  have c1 : ¬ (c + 16 == 1) = true := by simp
  rw [wc_13]
  by_cases hs : hI h (c + 16) 3 = n
  · simp (maxSteps := 2000000) (disch := omega) only [↓wb_const, ↓wb_lconst, ↓wb_null, ↓wb_iload, ↓wb_lload, ↓wb_aload, ↓wb_istore, ↓wb_lstore, ↓wb_astore, ↓wb_iinc, ↓wb_iand, ↓wb_ior, ↓wb_ishr, ↓wb_idiv, ↓wb_irem, ↓wb_ladd, ↓wb_lsub, ↓wb_land, ↓wb_lor, ↓wb_lxor, ↓wb_lneg, ↓wb_lushr, ↓wb_lshl, ↓wb_l2i, ↓wb_lcmp, ↓wb_dupI, ↓wb_dupR, ↓wb_dup2, ↓wb_popI, ↓wb_popR, ↓wb_getI, ↓wb_getL, ↓wb_getR, ↓wb_putI, ↓wb_putZ, ↓wb_putL, ↓wb_putR, ↓wb_iaload, ↓wb_laload, ↓wb_zaload, ↓wb_aaload, ↓wb_iastore, ↓wb_lastore, ↓wb_zastore, ↓wb_aastore, ↓wb_alen, ↓wb_newI, ↓wb_newL, ↓wb_newZ, ↓wb_newA, ↓wb_new, ↓wb_obj, ↓wb_sld, ↓wb_slen, ↓wb_goto, ↓wb_ifeq, ↓wb_iceq, ↓wb_ifne, ↓wb_icne, ↓wb_iflt, ↓wb_iclt, ↓wb_ifge, ↓wb_icge, ↓wb_ifgt, ↓wb_icgt, ↓wb_ifle, ↓wb_icle, ↓wb_ifnull, ↓wb_ifnonnull, ↓wb_ret, ↓wb_iret, ↓wb_lret, ↓wb_aret, ↓wb_zret, ↓wb_tsw0, ↓wb_tsw1, ↓wb_lsw0, ↓wb_lsw1, ↓wb_calls0, ↓wb_calls1, ↓wb_callv1, ↓wb_calls2, ↓wb_callv2, ↓wb_calls3, ↓wb_callv3, ↓wb_callv4, ↓wb_callv5, ↓wb_callv6, oB_some, ldI_z, ldI_s, ldL_z, ldL_s, ldR_z, ldR_s, ls1_z, ls1_1n, ls1_1i, ls1_1r, ls1_1l, ls1_s, ls2_z, ls2_1n, ls2_1i, ls2_1r, ls2_1l, ls2_s, List.length_cons, List.length_nil, Nat.reduceAdd, Nat.reduceLT, Nat.reduceLeDiff, Nat.reduceDiv, Nat.reduceMod, Int.reduceToNat, Int.reduceAdd, Nat.zero_add, true_and, Option.toList_some, Option.toList_none, List.cons_append, List.nil_append, true_or, or_true, and_true, false_or, or_false, Int.reduceEq, Int.reduceLT, Int.reduceLE, Int.reduceNeg, not_true_eq_false, not_false_eq_true, Bool.and_eq_true, Bool.or_eq_true, decide_eq_true_eq, ↓reduceIte, b2i_0, b2i_01, b2i_01c, Nat.add_left_cancel_iff, Nat.add_eq_left, Nat.left_eq_add, Nat.reduceEqDiff, false_and, and_false, Bool.false_eq_true, Bool.true_eq_false, ↓wr_iadd, ↓wr_isub, ↓wr_imul, wr_id, ↓wl_13_0, ↓wl_13_34, sp_c16 sp, sp_c sp, sp_r10 sp, sp_c11 sp, sp_h0 sp, sp_a17 sp, sp_h1 sp, sp_a18 sp, hn, hs]
    exact ⟨c1, hQ h FR_rf (ci.2.2.2 hs) ci⟩
  · have fr1 : FR (c + 16) (c + 16) h (setI h (c + 16) 3 n) := FR_I FR_rf (by omega) (by omega)
    generalize hh1 : setI h (c + 16) 3 n = h1 at fr1
    have g3 : hI h1 (c + 16) 3 = n := by rw [← hh1, hI_eq]
    simp (maxSteps := 2000000) (disch := omega) only [↓wb_const, ↓wb_lconst, ↓wb_null, ↓wb_iload, ↓wb_lload, ↓wb_aload, ↓wb_istore, ↓wb_lstore, ↓wb_astore, ↓wb_iinc, ↓wb_iand, ↓wb_ior, ↓wb_ishr, ↓wb_idiv, ↓wb_irem, ↓wb_ladd, ↓wb_lsub, ↓wb_land, ↓wb_lor, ↓wb_lxor, ↓wb_lneg, ↓wb_lushr, ↓wb_lshl, ↓wb_l2i, ↓wb_lcmp, ↓wb_dupI, ↓wb_dupR, ↓wb_dup2, ↓wb_popI, ↓wb_popR, ↓wb_getI, ↓wb_getL, ↓wb_getR, ↓wb_putI, ↓wb_putZ, ↓wb_putL, ↓wb_putR, ↓wb_iaload, ↓wb_laload, ↓wb_zaload, ↓wb_aaload, ↓wb_iastore, ↓wb_lastore, ↓wb_zastore, ↓wb_aastore, ↓wb_alen, ↓wb_newI, ↓wb_newL, ↓wb_newZ, ↓wb_newA, ↓wb_new, ↓wb_obj, ↓wb_sld, ↓wb_slen, ↓wb_goto, ↓wb_ifeq, ↓wb_iceq, ↓wb_ifne, ↓wb_icne, ↓wb_iflt, ↓wb_iclt, ↓wb_ifge, ↓wb_icge, ↓wb_ifgt, ↓wb_icgt, ↓wb_ifle, ↓wb_icle, ↓wb_ifnull, ↓wb_ifnonnull, ↓wb_ret, ↓wb_iret, ↓wb_lret, ↓wb_aret, ↓wb_zret, ↓wb_tsw0, ↓wb_tsw1, ↓wb_lsw0, ↓wb_lsw1, ↓wb_calls0, ↓wb_calls1, ↓wb_callv1, ↓wb_calls2, ↓wb_callv2, ↓wb_calls3, ↓wb_callv3, ↓wb_callv4, ↓wb_callv5, ↓wb_callv6, oB_some, ldI_z, ldI_s, ldL_z, ldL_s, ldR_z, ldR_s, ls1_z, ls1_1n, ls1_1i, ls1_1r, ls1_1l, ls1_s, ls2_z, ls2_1n, ls2_1i, ls2_1r, ls2_1l, ls2_s, List.length_cons, List.length_nil, Nat.reduceAdd, Nat.reduceLT, Nat.reduceLeDiff, Nat.reduceDiv, Nat.reduceMod, Int.reduceToNat, Int.reduceAdd, Nat.zero_add, true_and, Option.toList_some, Option.toList_none, List.cons_append, List.nil_append, true_or, or_true, and_true, false_or, or_false, Int.reduceEq, Int.reduceLT, Int.reduceLE, Int.reduceNeg, not_true_eq_false, not_false_eq_true, Bool.and_eq_true, Bool.or_eq_true, decide_eq_true_eq, ↓reduceIte, b2i_0, b2i_01, b2i_01c, Nat.add_left_cancel_iff, Nat.add_eq_left, Nat.left_eq_add, Nat.reduceEqDiff, false_and, and_false, Bool.false_eq_true, Bool.true_eq_false, ↓wr_iadd, ↓wr_isub, ↓wr_imul, wr_id, ↓wl_13_0, sp_c16 sp, sp_c sp, sp_r10 sp, sp_c11 sp, sp_h0 sp, sp_a17 sp, sp_h1 sp, sp_a18 sp, hn, hs, isO_setI, hR_setI]
    rw [hh1]
    have pi1 : PI c h1 n := FR_pi fr1 (by omega) pi
    have eK1 := (FR_K fr1 (c := c) (by omega)).1
    refine pc_upW pi1 (by rw [eK1]; exact hw) (fun z => WO_FR fr1 (by omega) (ci.2.2.1 (by rw [← FR_i fr1 (y := c + 11) (j := 5) (by omega)]; exact z))) (fun h2 fr2 wo2 => ?_)
    have sp2 := FR_sp fr2 (FR_sp fr1 sp)
    have pi2 : PI c h2 n := FR_pi fr2 (by omega) pi1
    simp (maxSteps := 2000000) (disch := omega) only [↓wb_const, ↓wb_lconst, ↓wb_null, ↓wb_iload, ↓wb_lload, ↓wb_aload, ↓wb_istore, ↓wb_lstore, ↓wb_astore, ↓wb_iinc, ↓wb_iand, ↓wb_ior, ↓wb_ishr, ↓wb_idiv, ↓wb_irem, ↓wb_ladd, ↓wb_lsub, ↓wb_land, ↓wb_lor, ↓wb_lxor, ↓wb_lneg, ↓wb_lushr, ↓wb_lshl, ↓wb_l2i, ↓wb_lcmp, ↓wb_dupI, ↓wb_dupR, ↓wb_dup2, ↓wb_popI, ↓wb_popR, ↓wb_getI, ↓wb_getL, ↓wb_getR, ↓wb_putI, ↓wb_putZ, ↓wb_putL, ↓wb_putR, ↓wb_iaload, ↓wb_laload, ↓wb_zaload, ↓wb_aaload, ↓wb_iastore, ↓wb_lastore, ↓wb_zastore, ↓wb_aastore, ↓wb_alen, ↓wb_newI, ↓wb_newL, ↓wb_newZ, ↓wb_newA, ↓wb_new, ↓wb_obj, ↓wb_sld, ↓wb_slen, ↓wb_goto, ↓wb_ifeq, ↓wb_iceq, ↓wb_ifne, ↓wb_icne, ↓wb_iflt, ↓wb_iclt, ↓wb_ifge, ↓wb_icge, ↓wb_ifgt, ↓wb_icgt, ↓wb_ifle, ↓wb_icle, ↓wb_ifnull, ↓wb_ifnonnull, ↓wb_ret, ↓wb_iret, ↓wb_lret, ↓wb_aret, ↓wb_zret, ↓wb_tsw0, ↓wb_tsw1, ↓wb_lsw0, ↓wb_lsw1, ↓wb_calls0, ↓wb_calls1, ↓wb_callv1, ↓wb_calls2, ↓wb_callv2, ↓wb_calls3, ↓wb_callv3, ↓wb_callv4, ↓wb_callv5, ↓wb_callv6, oB_some, ldI_z, ldI_s, ldL_z, ldL_s, ldR_z, ldR_s, ls1_z, ls1_1n, ls1_1i, ls1_1r, ls1_1l, ls1_s, ls2_z, ls2_1n, ls2_1i, ls2_1r, ls2_1l, ls2_s, List.length_cons, List.length_nil, Nat.reduceAdd, Nat.reduceLT, Nat.reduceLeDiff, Nat.reduceDiv, Nat.reduceMod, Int.reduceToNat, Int.reduceAdd, Nat.zero_add, true_and, Option.toList_some, Option.toList_none, List.cons_append, List.nil_append, true_or, or_true, and_true, false_or, or_false, Int.reduceEq, Int.reduceLT, Int.reduceLE, Int.reduceNeg, not_true_eq_false, not_false_eq_true, Bool.and_eq_true, Bool.or_eq_true, decide_eq_true_eq, ↓reduceIte, b2i_0, b2i_01, b2i_01c, Nat.add_left_cancel_iff, Nat.add_eq_left, Nat.left_eq_add, Nat.reduceEqDiff, false_and, and_false, Bool.false_eq_true, Bool.true_eq_false, ↓wr_iadd, ↓wr_isub, ↓wr_imul, wr_id, sp_c16 sp2, sp_c sp2, sp_r10 sp2, sp_c11 sp2, sp_h0 sp2, sp_a17 sp2, sp_h1 sp2, sp_a18 sp2]
    refine cc_fillL (sp_t17 sp2) (by omega) (fun h3 fr3 hi3 hr3 => ?_)
    have sp3 := FR_sp fr3 sp2
    simp (maxSteps := 2000000) (disch := omega) only [↓wb_const, ↓wb_lconst, ↓wb_null, ↓wb_iload, ↓wb_lload, ↓wb_aload, ↓wb_istore, ↓wb_lstore, ↓wb_astore, ↓wb_iinc, ↓wb_iand, ↓wb_ior, ↓wb_ishr, ↓wb_idiv, ↓wb_irem, ↓wb_ladd, ↓wb_lsub, ↓wb_land, ↓wb_lor, ↓wb_lxor, ↓wb_lneg, ↓wb_lushr, ↓wb_lshl, ↓wb_l2i, ↓wb_lcmp, ↓wb_dupI, ↓wb_dupR, ↓wb_dup2, ↓wb_popI, ↓wb_popR, ↓wb_getI, ↓wb_getL, ↓wb_getR, ↓wb_putI, ↓wb_putZ, ↓wb_putL, ↓wb_putR, ↓wb_iaload, ↓wb_laload, ↓wb_zaload, ↓wb_aaload, ↓wb_iastore, ↓wb_lastore, ↓wb_zastore, ↓wb_aastore, ↓wb_alen, ↓wb_newI, ↓wb_newL, ↓wb_newZ, ↓wb_newA, ↓wb_new, ↓wb_obj, ↓wb_sld, ↓wb_slen, ↓wb_goto, ↓wb_ifeq, ↓wb_iceq, ↓wb_ifne, ↓wb_icne, ↓wb_iflt, ↓wb_iclt, ↓wb_ifge, ↓wb_icge, ↓wb_ifgt, ↓wb_icgt, ↓wb_ifle, ↓wb_icle, ↓wb_ifnull, ↓wb_ifnonnull, ↓wb_ret, ↓wb_iret, ↓wb_lret, ↓wb_aret, ↓wb_zret, ↓wb_tsw0, ↓wb_tsw1, ↓wb_lsw0, ↓wb_lsw1, ↓wb_calls0, ↓wb_calls1, ↓wb_callv1, ↓wb_calls2, ↓wb_callv2, ↓wb_calls3, ↓wb_callv3, ↓wb_callv4, ↓wb_callv5, ↓wb_callv6, oB_some, ldI_z, ldI_s, ldL_z, ldL_s, ldR_z, ldR_s, ls1_z, ls1_1n, ls1_1i, ls1_1r, ls1_1l, ls1_s, ls2_z, ls2_1n, ls2_1i, ls2_1r, ls2_1l, ls2_s, List.length_cons, List.length_nil, Nat.reduceAdd, Nat.reduceLT, Nat.reduceLeDiff, Nat.reduceDiv, Nat.reduceMod, Int.reduceToNat, Int.reduceAdd, Nat.zero_add, true_and, Option.toList_some, Option.toList_none, List.cons_append, List.nil_append, true_or, or_true, and_true, false_or, or_false, Int.reduceEq, Int.reduceLT, Int.reduceLE, Int.reduceNeg, not_true_eq_false, not_false_eq_true, Bool.and_eq_true, Bool.or_eq_true, decide_eq_true_eq, ↓reduceIte, b2i_0, b2i_01, b2i_01c, Nat.add_left_cancel_iff, Nat.add_eq_left, Nat.left_eq_add, Nat.reduceEqDiff, false_and, and_false, Bool.false_eq_true, Bool.true_eq_false, ↓wr_iadd, ↓wr_isub, ↓wr_imul, wr_id, sp_c16 sp3, sp_c sp3, sp_r10 sp3, sp_c11 sp3, sp_h0 sp3, sp_a17 sp3, sp_h1 sp3, sp_a18 sp3]
    refine cc_fillL (sp_t18 sp3) (by omega) (fun h4 fr4 hi4 hr4 => ?_)
    have sp4 := FR_sp fr4 sp3
    have pi4 : PI c h4 n := FR_pi fr4 (by omega) (FR_pi fr3 (by omega) pi2)
    have wo4 : WO c h4 n := WO_FR2 fr4 (by omega) (WO_FR2 fr3 (by omega) wo2)
    have frA : FR (c + 11) (c + 19) h h4 := FR_tr (FR_tr (FR_tr (FR_wd fr1 (by omega) (by omega)) (FR_wd fr2 (by omega) (by omega))) (FR_wd fr3 (by omega) (by omega))) (FR_wd fr4 (by omega) (by omega))
    obtain ⟨eK4, eX4, eE4⟩ := FR_K frA (c := c) (by omega)
    have hw4 : stk (cK c h4) n = [] := by rw [eK4]; exact hw
    have g4 : hI h4 (c + 16) 3 = n := by rw [FR_i fr4 (by omega), FR_i fr3 (by omega), FR_i fr2 (by omega)]; exact g3
    have z17 : ∀ s, s < 60 → hL h4 (c + 17) s = 0#64 := fun s hs => by
      rw [FR_l fr4 (by omega), hr3, if_pos hs]; rfl
    simp (maxSteps := 2000000) (disch := omega) only [↓wb_const, ↓wb_lconst, ↓wb_null, ↓wb_iload, ↓wb_lload, ↓wb_aload, ↓wb_istore, ↓wb_lstore, ↓wb_astore, ↓wb_iinc, ↓wb_iand, ↓wb_ior, ↓wb_ishr, ↓wb_idiv, ↓wb_irem, ↓wb_ladd, ↓wb_lsub, ↓wb_land, ↓wb_lor, ↓wb_lxor, ↓wb_lneg, ↓wb_lushr, ↓wb_lshl, ↓wb_l2i, ↓wb_lcmp, ↓wb_dupI, ↓wb_dupR, ↓wb_dup2, ↓wb_popI, ↓wb_popR, ↓wb_getI, ↓wb_getL, ↓wb_getR, ↓wb_putI, ↓wb_putZ, ↓wb_putL, ↓wb_putR, ↓wb_iaload, ↓wb_laload, ↓wb_zaload, ↓wb_aaload, ↓wb_iastore, ↓wb_lastore, ↓wb_zastore, ↓wb_aastore, ↓wb_alen, ↓wb_newI, ↓wb_newL, ↓wb_newZ, ↓wb_newA, ↓wb_new, ↓wb_obj, ↓wb_sld, ↓wb_slen, ↓wb_goto, ↓wb_ifeq, ↓wb_iceq, ↓wb_ifne, ↓wb_icne, ↓wb_iflt, ↓wb_iclt, ↓wb_ifge, ↓wb_icge, ↓wb_ifgt, ↓wb_icgt, ↓wb_ifle, ↓wb_icle, ↓wb_ifnull, ↓wb_ifnonnull, ↓wb_ret, ↓wb_iret, ↓wb_lret, ↓wb_aret, ↓wb_zret, ↓wb_tsw0, ↓wb_tsw1, ↓wb_lsw0, ↓wb_lsw1, ↓wb_calls0, ↓wb_calls1, ↓wb_callv1, ↓wb_calls2, ↓wb_callv2, ↓wb_calls3, ↓wb_callv3, ↓wb_callv4, ↓wb_callv5, ↓wb_callv6, oB_some, ldI_z, ldI_s, ldL_z, ldL_s, ldR_z, ldR_s, ls1_z, ls1_1n, ls1_1i, ls1_1r, ls1_1l, ls1_s, ls2_z, ls2_1n, ls2_1i, ls2_1r, ls2_1l, ls2_s, List.length_cons, List.length_nil, Nat.reduceAdd, Nat.reduceLT, Nat.reduceLeDiff, Nat.reduceDiv, Nat.reduceMod, Int.reduceToNat, Int.reduceAdd, Nat.zero_add, true_and, Option.toList_some, Option.toList_none, List.cons_append, List.nil_append, true_or, or_true, and_true, false_or, or_false, Int.reduceEq, Int.reduceLT, Int.reduceLE, Int.reduceNeg, not_true_eq_false, not_false_eq_true, Bool.and_eq_true, Bool.or_eq_true, decide_eq_true_eq, ↓reduceIte, b2i_0, b2i_01, b2i_01c, Nat.add_left_cancel_iff, Nat.add_eq_left, Nat.left_eq_add, Nat.reduceEqDiff, false_and, and_false, Bool.false_eq_true, Bool.true_eq_false, ↓wr_iadd, ↓wr_isub, ↓wr_imul, wr_id, sp_c16 sp4, sp_c sp4, sp_r10 sp4, sp_c11 sp4, sp_h0 sp4, sp_a17 sp4, sp_h1 sp4, sp_a18 sp4]
    refine pc_findReadOn sp4 (PI_n pi4) g4 n60 (fun q u hq hu => nx_60 pi4 wo4 hq hu) z17 (fun h5 fr5 ro5 zo5 => ?_)
    have sp5 := FR_sp fr5 sp4
    have pi5 : PI c h5 n := FR_pi fr5 (by omega) pi4
    have wo5 : WO c h5 n := WO_FR2 fr5 (by omega) wo4
    obtain ⟨eK5, eX5, eE5⟩ := FR_K fr5 (c := c) (by omega)
    have hw5 : stk (cK c h5) n = [] := by rw [eK5]; exact hw4
    have g5 : hI h5 (c + 16) 3 = n := by rw [FR_i fr5 (by omega)]; exact g4
    have ga5 : ∀ p, stG c h5 n p → (hI h5 (c + 12) p = -1 ∨ ∃ q : Nat, hI h5 (c + 12) p = q ∧ q < n ∧ stG c h5 n q) ∧ (hI h5 (c + 14) p = -1 ∨ ∃ q : Nat, hI h5 (c + 14) p = q ∧ q < n ∧ stG c h5 n q) := by
      intro p hp
      obtain ⟨w1, w2, w3, w4⟩ := wo5.2.2 p hp.1
      obtain ⟨lA, lL⟩ := l60 (PI_wf pi5) hw5 n60 hp.2
      rw [w1, w3]
      constructor
      · rcases lA with e | ⟨q, e, e2⟩
        · exact Or.inl e
        · exact Or.inr ⟨q, e, stm_lt e2, stm_lt e2, e2⟩
      · rcases lL with e | ⟨q, e, e2⟩
        · exact Or.inl e
        · exact Or.inr ⟨q, e, stm_lt e2, stm_lt e2, e2⟩
    simp (maxSteps := 2000000) (disch := omega) only [↓wb_const, ↓wb_lconst, ↓wb_null, ↓wb_iload, ↓wb_lload, ↓wb_aload, ↓wb_istore, ↓wb_lstore, ↓wb_astore, ↓wb_iinc, ↓wb_iand, ↓wb_ior, ↓wb_ishr, ↓wb_idiv, ↓wb_irem, ↓wb_ladd, ↓wb_lsub, ↓wb_land, ↓wb_lor, ↓wb_lxor, ↓wb_lneg, ↓wb_lushr, ↓wb_lshl, ↓wb_l2i, ↓wb_lcmp, ↓wb_dupI, ↓wb_dupR, ↓wb_dup2, ↓wb_popI, ↓wb_popR, ↓wb_getI, ↓wb_getL, ↓wb_getR, ↓wb_putI, ↓wb_putZ, ↓wb_putL, ↓wb_putR, ↓wb_iaload, ↓wb_laload, ↓wb_zaload, ↓wb_aaload, ↓wb_iastore, ↓wb_lastore, ↓wb_zastore, ↓wb_aastore, ↓wb_alen, ↓wb_newI, ↓wb_newL, ↓wb_newZ, ↓wb_newA, ↓wb_new, ↓wb_obj, ↓wb_sld, ↓wb_slen, ↓wb_goto, ↓wb_ifeq, ↓wb_iceq, ↓wb_ifne, ↓wb_icne, ↓wb_iflt, ↓wb_iclt, ↓wb_ifge, ↓wb_icge, ↓wb_ifgt, ↓wb_icgt, ↓wb_ifle, ↓wb_icle, ↓wb_ifnull, ↓wb_ifnonnull, ↓wb_ret, ↓wb_iret, ↓wb_lret, ↓wb_aret, ↓wb_zret, ↓wb_tsw0, ↓wb_tsw1, ↓wb_lsw0, ↓wb_lsw1, ↓wb_calls0, ↓wb_calls1, ↓wb_callv1, ↓wb_calls2, ↓wb_callv2, ↓wb_calls3, ↓wb_callv3, ↓wb_callv4, ↓wb_callv5, ↓wb_callv6, oB_some, ldI_z, ldI_s, ldL_z, ldL_s, ldR_z, ldR_s, ls1_z, ls1_1n, ls1_1i, ls1_1r, ls1_1l, ls1_s, ls2_z, ls2_1n, ls2_1i, ls2_1r, ls2_1l, ls2_s, List.length_cons, List.length_nil, Nat.reduceAdd, Nat.reduceLT, Nat.reduceLeDiff, Nat.reduceDiv, Nat.reduceMod, Int.reduceToNat, Int.reduceAdd, Nat.zero_add, true_and, Option.toList_some, Option.toList_none, List.cons_append, List.nil_append, true_or, or_true, and_true, false_or, or_false, Int.reduceEq, Int.reduceLT, Int.reduceLE, Int.reduceNeg, not_true_eq_false, not_false_eq_true, Bool.and_eq_true, Bool.or_eq_true, decide_eq_true_eq, ↓reduceIte, b2i_0, b2i_01, b2i_01c, Nat.add_left_cancel_iff, Nat.add_eq_left, Nat.left_eq_add, Nat.reduceEqDiff, false_and, and_false, Bool.false_eq_true, Bool.true_eq_false, ↓wr_iadd, ↓wr_isub, ↓wr_imul, wr_id, sp_c16 sp5, sp_c sp5, sp_r10 sp5, sp_c11 sp5, sp_h0 sp5, sp_a17 sp5, sp_h1 sp5, sp_a18 sp5]
    refine pc_findSure sp5 (PI_n pi5) g5 n60 ga5 (fun h6 fr6 su6 => ?_)
    have sp6 := FR_sp fr6 sp5
    have pi6 : PI c h6 n := FR_pi fr6 (by omega) pi5
    have wo6 : WO c h6 n := WO_FR2 fr6 (by omega) wo5
    obtain ⟨eK6, eX6, eE6⟩ := FR_K fr6 (c := c) (by omega)
    have hw6 : stk (cK c h6) n = [] := by rw [eK6]; exact hw5
    have g6 : hI h6 (c + 16) 3 = n := by rw [FR_i fr6 (by omega)]; exact g5
    have e12 : hI h6 (c + 12) = hI h5 (c + 12) := (fr6.2.2.2 (c + 12) (by omega)).1
    have e14 : hI h6 (c + 14) = hI h5 (c + 14) := (fr6.2.2.2 (c + 14) (by omega)).1
    have eG : stG c h6 n = stG c h5 n := by funext p; unfold stG; rw [eK6]
    have su6b : ∀ p, p < n → stG c h6 n p → ∀ i, i < 64 → ((hL h6 (c + 19) p).getLsbD i = true ↔ ¬ CanC (stG c h6 n) (hI h6 (c + 12)) (hI h6 (c + 14)) i p) := by
      rw [eG, e12, e14]; exact su6
    have z18 : ∀ s, s < 60 → hL h6 (c + 18) s = 0#64 := fun s hs => by
      rw [FR_l fr6 (by omega), FR_l fr5 (by omega), hr4, if_pos hs]; rfl
    simp (maxSteps := 2000000) (disch := omega) only [↓wb_const, ↓wb_lconst, ↓wb_null, ↓wb_iload, ↓wb_lload, ↓wb_aload, ↓wb_istore, ↓wb_lstore, ↓wb_astore, ↓wb_iinc, ↓wb_iand, ↓wb_ior, ↓wb_ishr, ↓wb_idiv, ↓wb_irem, ↓wb_ladd, ↓wb_lsub, ↓wb_land, ↓wb_lor, ↓wb_lxor, ↓wb_lneg, ↓wb_lushr, ↓wb_lshl, ↓wb_l2i, ↓wb_lcmp, ↓wb_dupI, ↓wb_dupR, ↓wb_dup2, ↓wb_popI, ↓wb_popR, ↓wb_getI, ↓wb_getL, ↓wb_getR, ↓wb_putI, ↓wb_putZ, ↓wb_putL, ↓wb_putR, ↓wb_iaload, ↓wb_laload, ↓wb_zaload, ↓wb_aaload, ↓wb_iastore, ↓wb_lastore, ↓wb_zastore, ↓wb_aastore, ↓wb_alen, ↓wb_newI, ↓wb_newL, ↓wb_newZ, ↓wb_newA, ↓wb_new, ↓wb_obj, ↓wb_sld, ↓wb_slen, ↓wb_goto, ↓wb_ifeq, ↓wb_iceq, ↓wb_ifne, ↓wb_icne, ↓wb_iflt, ↓wb_iclt, ↓wb_ifge, ↓wb_icge, ↓wb_ifgt, ↓wb_icgt, ↓wb_ifle, ↓wb_icle, ↓wb_ifnull, ↓wb_ifnonnull, ↓wb_ret, ↓wb_iret, ↓wb_lret, ↓wb_aret, ↓wb_zret, ↓wb_tsw0, ↓wb_tsw1, ↓wb_lsw0, ↓wb_lsw1, ↓wb_calls0, ↓wb_calls1, ↓wb_callv1, ↓wb_calls2, ↓wb_callv2, ↓wb_calls3, ↓wb_callv3, ↓wb_callv4, ↓wb_callv5, ↓wb_callv6, oB_some, ldI_z, ldI_s, ldL_z, ldL_s, ldR_z, ldR_s, ls1_z, ls1_1n, ls1_1i, ls1_1r, ls1_1l, ls1_s, ls2_z, ls2_1n, ls2_1i, ls2_1r, ls2_1l, ls2_s, List.length_cons, List.length_nil, Nat.reduceAdd, Nat.reduceLT, Nat.reduceLeDiff, Nat.reduceDiv, Nat.reduceMod, Int.reduceToNat, Int.reduceAdd, Nat.zero_add, true_and, Option.toList_some, Option.toList_none, List.cons_append, List.nil_append, true_or, or_true, and_true, false_or, or_false, Int.reduceEq, Int.reduceLT, Int.reduceLE, Int.reduceNeg, not_true_eq_false, not_false_eq_true, Bool.and_eq_true, Bool.or_eq_true, decide_eq_true_eq, ↓reduceIte, b2i_0, b2i_01, b2i_01c, Nat.add_left_cancel_iff, Nat.add_eq_left, Nat.left_eq_add, Nat.reduceEqDiff, false_and, and_false, Bool.false_eq_true, Bool.true_eq_false, ↓wr_iadd, ↓wr_isub, ↓wr_imul, wr_id, sp_c16 sp6, sp_c sp6, sp_r10 sp6, sp_c11 sp6, sp_h0 sp6, sp_a17 sp6, sp_h1 sp6, sp_a18 sp6]
    refine pc_findDecided sp6 g6 n60 (fun d hd hk => ?_) z18 (fun h7 fr7 dc7 zd7 => ?_)
    · have sd : stm (cK c h6) n d = true := stm_i (by omega) (by omega) (by omega) (by omega)
      obtain ⟨w1, w2, w3, w4⟩ := wo6.2.2 d hd
      obtain ⟨lA, lL⟩ := l60 (PI_wf pi6) hw6 n60 sd
      rw [w1, w3]
      constructor
      · rcases lA with e | ⟨q, e, e2⟩
        · omega
        · have := stm_lt e2; omega
      · rcases lL with e | ⟨q, e, e2⟩
        · omega
        · have := stm_lt e2; omega
    have sp7 := FR_sp fr7 sp6
    obtain ⟨eK7, eX7, eE7⟩ := FR_K fr7 (c := c) (by omega)
    have wo7 : WO c h7 n := WO_FR2 fr7 (by omega) wo6
    have g7 : hI h7 (c + 16) 3 = n := by rw [FR_i fr7 (by omega)]; exact g6
    have ho : HO c h7 n := by
      refine ⟨g7, fun s hs i => ⟨?_, ?_⟩, fun s h1 h2 => ⟨?_, ?_⟩⟩
      · rw [FR_l fr7 (by omega), FR_l fr6 (by omega), ro5 s hs i, eK7, eX7, eE7, eK6, eX6, eE6, eK5, eX5, eE5]
        constructor
        · rintro ⟨a, b⟩; exact ⟨a, (ro_R pi4 hw4 wo4 a hs).mp b⟩
        · rintro ⟨a, b⟩; exact ⟨a, (ro_R pi4 hw4 wo4 a hs).mpr b⟩
      · rw [dc7 s hs i, eK7, eX7]
        constructor
        · rintro ⟨a, b⟩; exact ⟨a, (dc_R pi6 hw6 wo6 su6b a hs).mp b⟩
        · rintro ⟨a, b⟩; exact ⟨a, (dc_R pi6 hw6 wo6 su6b a hs).mpr b⟩
      · rw [FR_l fr7 (by omega), FR_l fr6 (by omega)]; exact zo5 s h1 h2
      · exact zd7 s h1 h2
    have ci7 : CI c h7 n := ⟨by rw [wo7.1]; omega, by rw [g7]; omega, fun _ => wo7, fun _ => ho⟩
    simp (maxSteps := 2000000) (disch := omega) only [↓wb_const, ↓wb_lconst, ↓wb_null, ↓wb_iload, ↓wb_lload, ↓wb_aload, ↓wb_istore, ↓wb_lstore, ↓wb_astore, ↓wb_iinc, ↓wb_iand, ↓wb_ior, ↓wb_ishr, ↓wb_idiv, ↓wb_irem, ↓wb_ladd, ↓wb_lsub, ↓wb_land, ↓wb_lor, ↓wb_lxor, ↓wb_lneg, ↓wb_lushr, ↓wb_lshl, ↓wb_l2i, ↓wb_lcmp, ↓wb_dupI, ↓wb_dupR, ↓wb_dup2, ↓wb_popI, ↓wb_popR, ↓wb_getI, ↓wb_getL, ↓wb_getR, ↓wb_putI, ↓wb_putZ, ↓wb_putL, ↓wb_putR, ↓wb_iaload, ↓wb_laload, ↓wb_zaload, ↓wb_aaload, ↓wb_iastore, ↓wb_lastore, ↓wb_zastore, ↓wb_aastore, ↓wb_alen, ↓wb_newI, ↓wb_newL, ↓wb_newZ, ↓wb_newA, ↓wb_new, ↓wb_obj, ↓wb_sld, ↓wb_slen, ↓wb_goto, ↓wb_ifeq, ↓wb_iceq, ↓wb_ifne, ↓wb_icne, ↓wb_iflt, ↓wb_iclt, ↓wb_ifge, ↓wb_icge, ↓wb_ifgt, ↓wb_icgt, ↓wb_ifle, ↓wb_icle, ↓wb_ifnull, ↓wb_ifnonnull, ↓wb_ret, ↓wb_iret, ↓wb_lret, ↓wb_aret, ↓wb_zret, ↓wb_tsw0, ↓wb_tsw1, ↓wb_lsw0, ↓wb_lsw1, ↓wb_calls0, ↓wb_calls1, ↓wb_callv1, ↓wb_calls2, ↓wb_callv2, ↓wb_calls3, ↓wb_callv3, ↓wb_callv4, ↓wb_callv5, ↓wb_callv6, oB_some, ldI_z, ldI_s, ldL_z, ldL_s, ldR_z, ldR_s, ls1_z, ls1_1n, ls1_1i, ls1_1r, ls1_1l, ls1_s, ls2_z, ls2_1n, ls2_1i, ls2_1r, ls2_1l, ls2_s, List.length_cons, List.length_nil, Nat.reduceAdd, Nat.reduceLT, Nat.reduceLeDiff, Nat.reduceDiv, Nat.reduceMod, Int.reduceToNat, Int.reduceAdd, Nat.zero_add, true_and, Option.toList_some, Option.toList_none, List.cons_append, List.nil_append, true_or, or_true, and_true, false_or, or_false, Int.reduceEq, Int.reduceLT, Int.reduceLE, Int.reduceNeg, not_true_eq_false, not_false_eq_true, Bool.and_eq_true, Bool.or_eq_true, decide_eq_true_eq, ↓reduceIte, b2i_0, b2i_01, b2i_01c, Nat.add_left_cancel_iff, Nat.add_eq_left, Nat.left_eq_add, Nat.reduceEqDiff, false_and, and_false, Bool.false_eq_true, Bool.true_eq_false, ↓wr_iadd, ↓wr_isub, ↓wr_imul, wr_id, ↓wl_13_34]
    exact ⟨c1, hQ h7 (FR_tr (FR_tr (FR_tr frA (FR_wd fr5 (by omega) (by omega))) (FR_wd fr6 (by omega) (by omega))) (FR_wd fr7 (by omega) (by omega))) ho ci7⟩
