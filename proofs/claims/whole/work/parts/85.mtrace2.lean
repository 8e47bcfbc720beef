/-! ===== the reference: tellTrace ===== -/
theorem lt1_cg {P P2 : Nat → Prop} {i j : Nat} (h : ∀ k, k < i → (P k ↔ P2 k)) : lt1 P i j ↔ lt1 P2 i j := by
  unfold lt1
  constructor
  · rintro ⟨a, b, c⟩; exact ⟨a, (h j a).mp b, fun k k1 k2 z => c k k1 k2 ((h k k2).mpr z)⟩
  · rintro ⟨a, b, c⟩; exact ⟨a, (h j a).mpr b, fun k k1 k2 z => c k k1 k2 ((h k k2).mp z)⟩
def srN (R H : Nat → Int) (X : Int → Int) (nm : Int) (j : Nat) : Prop := ¬ H j = 0 ∧ X (R j) = nm
/-- step k hangs directly on the earlier step j -/
def Src (K X E : Int → Int) (n : Int) (R RP S H : Nat → Int) (k j : Nat) : Prop := (∃ nm : Nat, nm < 8 ∧ rdF (K (R k)) (X (R k)) (E (R k)) nm = true ∧ lt1 (srN R H X nm) k j) ∨ (0 ≤ RP k ∧ lt1 (fun m => S m = RP k) k j) ∨ lt1 (fun m => DC K X n (R k) (R m)) k j
theorem Src_lt {K X E : Int → Int} {n : Int} {R RP S H : Nat → Int} {k j : Nat} (h : Src K X E n R RP S H k j) : j < k := by
  rcases h with ⟨_, _, _, z⟩ | ⟨_, z⟩ | z
  · exact z.1
  · exact z.1
  · exact z.1
def TrN (S : Nat → Nat → Prop) (i : Nat) : Nat → Nat → Prop
  | 0, j => j = i
  | m + 1, j => ∃ k, TrN S i m k ∧ S k j
def Tr (S : Nat → Nat → Prop) (i j : Nat) : Prop := ∃ m, TrN S i m j
theorem TrN_le {S : Nat → Nat → Prop} (hS : ∀ k j, S k j → j < k) {i : Nat} : ∀ (m j : Nat), TrN S i m j → j ≤ i
  | 0, j, h => Nat.le_of_eq h
  | m + 1, j, ⟨k, a, b⟩ => by
    have := TrN_le hS m k a
    have := hS _ _ b
    omega
theorem Tr_le {S : Nat → Nat → Prop} (hS : ∀ k j, S k j → j < k) {i j : Nat} (h : Tr S i j) : j ≤ i := by
  obtain ⟨m, h⟩ := h
  exact TrN_le hS m j h
theorem Tr_inv {S : Nat → Nat → Prop} {i j : Nat} : Tr S i j ↔ (j = i ∨ ∃ k, Tr S i k ∧ S k j) := by
  constructor
  · rintro ⟨m, h⟩
    cases m with
    | zero => exact Or.inl h
    | succ m =>
      obtain ⟨k, a, b⟩ := h
      exact Or.inr ⟨k, ⟨m, a⟩, b⟩
  · rintro (rfl | ⟨k, ⟨m, a⟩, b⟩)
    · exact ⟨0, rfl⟩
    · exact ⟨m + 1, k, a, b⟩
theorem mc_tlt {sc : Scr} {o : Nat} {h : Hp} {Q : Option AV → Hp → Prop} {g : Int} {n i : Nat} (pm : PM o h g n) (hw : stk (mK o h g) n = []) (hg : hI h o 7 = g) (b20 : B01 o h 20) (i1 : i < 400) (hrec : ∀ j, j ≤ i → 0 ≤ hI h (o + 9) j ∧ hI h (o + 9) j < 60) (hQ : ∀ h2, FS o h h2 → B01 o h2 20 → HR o h2 (mK o h g) (mX o h g) (mE o h g) n → (∀ j, j < 400 → hI h2 (o + 24) j = pI (Tr (Src (mK o h g) (mX o h g) (mE o h g) n (hI h (o + 9)) (hI h (o + 10)) (hI h (o + 11)) (hI h (o + 12))) i j)) → Q none h2) : WC sc 170 [aR o, aI i] h Q := by
  have sm := pm.1
  have g0 := pm.2.1.1
  have g1 := pm.2.1.2
  rw [wc_170]
  simp (maxSteps := 2000000) (disch := omega) only [↓wb_const, ↓wb_lconst, ↓wb_null, ↓wb_iload, ↓wb_lload, ↓wb_aload, ↓wb_istore, ↓wb_lstore, ↓wb_astore, ↓wb_iinc, ↓wb_iand, ↓wb_ior, ↓wb_ishr, ↓wb_idiv, ↓wb_irem, ↓wb_ladd, ↓wb_lsub, ↓wb_land, ↓wb_lor, ↓wb_lxor, ↓wb_lneg, ↓wb_lushr, ↓wb_lshl, ↓wb_l2i, ↓wb_lcmp, ↓wb_dupI, ↓wb_dupR, ↓wb_dup2, ↓wb_popI, ↓wb_popR, ↓wb_getI, ↓wb_getL, ↓wb_getR, ↓wb_putI, ↓wb_putZ, ↓wb_putL, ↓wb_putR, ↓wb_iaload, ↓wb_laload, ↓wb_zaload, ↓wb_aaload, ↓wb_iastore, ↓wb_lastore, ↓wb_zastore, ↓wb_aastore, ↓wb_alen, ↓wb_newI, ↓wb_newL, ↓wb_newZ, ↓wb_newA, ↓wb_new, ↓wb_obj, ↓wb_sld, ↓wb_slen, ↓wb_goto, ↓wb_ifeq, ↓wb_iceq, ↓wb_ifne, ↓wb_icne, ↓wb_iflt, ↓wb_iclt, ↓wb_ifge, ↓wb_icge, ↓wb_ifgt, ↓wb_icgt, ↓wb_ifle, ↓wb_icle, ↓wb_ifnull, ↓wb_ifnonnull, ↓wb_ret, ↓wb_iret, ↓wb_lret, ↓wb_aret, ↓wb_zret, ↓wb_tsw0, ↓wb_tsw1, ↓wb_lsw0, ↓wb_lsw1, ↓wb_calls0, ↓wb_calls1, ↓wb_callv1, ↓wb_calls2, ↓wb_callv2, ↓wb_calls3, ↓wb_callv3, ↓wb_callv4, ↓wb_callv5, ↓wb_callv6, oB_some, ldI_z, ldI_s, ldL_z, ldL_s, ldR_z, ldR_s, ls1_z, ls1_1n, ls1_1i, ls1_1r, ls1_1l, ls1_s, ls2_z, ls2_1n, ls2_1i, ls2_1r, ls2_1l, ls2_s, List.length_cons, List.length_nil, Nat.reduceAdd, Nat.reduceLT, Nat.reduceLeDiff, Nat.reduceDiv, Nat.reduceMod, Int.reduceToNat, Int.reduceAdd, Nat.zero_add, true_and, Option.toList_some, Option.toList_none, List.cons_append, List.nil_append, true_or, or_true, and_true, false_or, or_false, Int.reduceEq, Int.reduceLT, Int.reduceLE, Int.reduceNeg, not_true_eq_false, not_false_eq_true, Bool.and_eq_true, Bool.or_eq_true, decide_eq_true_eq, ↓reduceIte, b2i_0, b2i_01, b2i_01c, Nat.add_left_cancel_iff, Nat.add_eq_left, Nat.left_eq_add, Nat.reduceEqDiff, false_and, and_false, Bool.false_eq_true, Bool.true_eq_false, ↓wr_iadd, ↓wr_isub, ↓wr_imul, wr_id, ↓wl_170_0, sm_c sm, sm_r35 sm, sm_a24 sm, sm_r15 sm, sm_a9 sm, sm_r16 sm, sm_a10 sm, hg]
  refine mc_tellAll pm hw b20 (fun h1 fs1 b20' hr => ?_)
  have sm1 := FS_sm fs1 sm
  obtain ⟨eK1, eX1, eE1⟩ := FS_K (g := g) fs1
  have r9 : hI h1 (o + 9) = hI h (o + 9) := fs1.2.2.2.2.1 _ (by omega) (by omega)
  have r10 : hI h1 (o + 10) = hI h (o + 10) := fs1.2.2.2.2.1 _ (by omega) (by omega)
  have r11 : hI h1 (o + 11) = hI h (o + 11) := fs1.2.2.2.2.1 _ (by omega) (by omega)
  have r12 : hI h1 (o + 12) = hI h (o + 12) := fs1.2.2.2.2.1 _ (by omega) (by omega)
  have r7 : hI h1 o 7 = g := by rw [fs1.2.2.2.2.2 _ (by omega)]; exact hg
  generalize hRw : hI h (o + 9) = R at *
  generalize hRP : hI h (o + 10) = RP at *
  generalize hSw : hI h (o + 11) = S at *
  generalize hHw : hI h (o + 12) = H at *
  generalize hS : Src (mK o h g) (mX o h g) (mE o h g) n R RP S H = T at *
  have Tlt : ∀ k j, T k j → j < k := fun k j z => by rw [← hS] at z; exact Src_lt z
  -- the rows of a later heap
  have rows : ∀ {h2 : Hp}, FR (o + 24) (o + 24) h1 h2 → SM o h2 ∧ hI h2 o 7 = g ∧ (∀ j, hI h2 (o + 9) j = R j) ∧ (∀ j, hI h2 (o + 10) j = RP j) ∧ (∀ j, hI h2 (o + 11) j = S j) ∧ (∀ j, hI h2 (o + 12) j = H j) ∧ (∀ j, hI h2 (o + 19) j = hI h1 (o + 19) j) ∧ (∀ z, hI h2 (o + 2) (60 * g + z).toNat = mK o h g z) ∧ (∀ z, hI h2 (o + 3) (60 * g + z).toNat = mX o h g z) ∧ (∀ z, hI h2 (o + 4) (60 * g + z).toNat = mE o h g z) := by
    intro h2 fr
    refine ⟨FR_sm fr sm1, by rw [FR_i fr (by omega)]; exact r7, fun j => by rw [FR_i fr (by omega), r9], fun j => by rw [FR_i fr (by omega), r10], fun j => by rw [FR_i fr (by omega), r11], fun j => by rw [FR_i fr (by omega), r12], fun j => FR_i fr (by omega), fun z => ?_, fun z => ?_, fun z => ?_⟩
    · rw [FR_i fr (by omega), ← eK1]; rfl
    · rw [FR_i fr (by omega), ← eX1]; rfl
    · rw [FR_i fr (by omega), ← eE1]; rfl
  have fin : ∀ {h2 : Hp}, FR (o + 24) (o + 24) h1 h2 → (∀ m, m < 400 → hI h2 (o + 24) m = pI (Tr T i m)) → Q none h2 := by
    intro h2 fr hm
    refine hQ h2 (FS_tr fs1 (FS_FR fr (by omega) (by omega))) (fun v => by rw [FR_i fr (by omega)]; exact b20' v) (HR_cg (fr.2.2.2 (o + 18) (by omega)).1 (fr.2.2.2 (o + 19) (by omega)).1 hr) hm
  clear hQ
  -- one call of traceLatest
  have one : ∀ {h2 : Hp} {f : Nat} {A P : Nat → Prop} {nm pl : Int} {dec : Bool} {Q2 : Option AV → Hp → Prop}, FR (o + 24) (o + 24) h1 h2 → f ≤ i → (∀ m, m < 400 → hI h2 (o + 24) m = pI (A m)) → (∀ k, k < f → (trC o h2 g f nm pl dec k ↔ P k)) → (∀ h3, FR (o + 24) (o + 24) h1 h3 → (∀ m, m < 400 → hI h3 (o + 24) m = pI (A m ∨ lt1 P f m)) → Q2 none h3) → WC sc 169 [aR o, aI f, aI nm, aI pl, aI (b2i dec)] h2 Q2 := by
    intro h2 f A P nm pl dec Q2 fr hf hA hP hq
    obtain ⟨s2, g7, w9, -⟩ := rows fr
    refine mc_trl s2 g7 g0 g1 (by omega) (fun j hj => by rw [w9]; exact hrec j (by omega)) (fun h3 fr3 y1 y2 => ?_)
    refine hq h3 (FR_tr fr fr3) (fun m hm => ?_)
    by_cases z : lt1 P f m
    · rw [y1 m ((lt1_cg hP).mpr z), pI_t (Or.inr z)]
    · rw [y2 m (fun w => z ((lt1_cg hP).mp w)), hA m hm]
      exact pI_cg ⟨Or.inl, fun w => w.resolve_right z⟩
  -- the three sorts
  have eN : ∀ {h2 : Hp} {f : Nat} {nm : Int}, FR (o + 24) (o + 24) h1 h2 → ∀ k, k < f → (trC o h2 g f nm (-1) false k ↔ srN R H (mX o h g) nm k) := by
    intro h2 f nm fr k hk
    obtain ⟨s2, g7, w9, w10, w11, w12, w19, wK, wX, wE⟩ := rows fr
    unfold trC srN
    rw [if_neg (by decide), if_neg (by decide), w12, w9, wX]
  have eS : ∀ {h2 : Hp} {f : Nat} {nm : Int}, FR (o + 24) (o + 24) h1 h2 → 0 ≤ RP f → ∀ k, k < f → (trC o h2 g f nm (RP f) false k ↔ S k = RP f) := by
    intro h2 f nm fr h0 k hk
    obtain ⟨s2, g7, w9, w10, w11, w12, w19, wK, wX, wE⟩ := rows fr
    unfold trC
    rw [if_neg (by decide), if_pos h0, w11]
  have eD : ∀ {h2 : Hp} {f : Nat} {nm pl : Int}, FR (o + 24) (o + 24) h1 h2 → f ≤ i → ∀ k, k < f → (trC o h2 g f nm pl true k ↔ DC (mK o h g) (mX o h g) n (R f) (R k)) := by
    intro h2 f nm pl fr hf k hk
    obtain ⟨s2, g7, w9, w10, w11, w12, w19, wK, wX, wE⟩ := rows fr
    obtain ⟨a0, a1⟩ := hrec f hf
    obtain ⟨c0, c1⟩ := hrec k (by omega)
    unfold trC
    rw [if_pos rfl, w9, w9, w19]
    obtain ⟨s, hs⟩ : ∃ s : Nat, R f = s := ⟨(R f).toNat, by omega⟩
    obtain ⟨t, ht⟩ : ∃ t : Nat, R k = t := ⟨(R k).toNat, by omega⟩
    rw [hs, ht, show (60 * (s : Int) + (t : Int)).toNat = 60 * s + t by omega, (hr s t (by omega) (by omega)).2, pI_0]
    exact Classical.not_not
  -- the main loop, downward
  have main : ∀ (f : Nat) (h2 : Hp) (x : Option AV), f ≤ i + 1 → FR (o + 24) (o + 24) h1 h2 → (∀ m, m < 400 → hI h2 (o + 24) m = pI (m = i ∨ ∃ k, f ≤ k ∧ Tr T i k ∧ T k m)) → WB sc 170 (BL 170 23) [some (aR o), some (aI i), some (aI ((f : Int) - 1)), x] [] h2 Q := by
    intro f
    induction f with
    | zero =>
      intro h2 x hf fr hm
      rw [bl_170_23]
      have c1 : (((0 : Nat) : Int) - 1 < 0) = True := by simp
      simp (maxSteps := 2000000) (disch := omega) only [↓wb_const, ↓wb_lconst, ↓wb_null, ↓wb_iload, ↓wb_lload, ↓wb_aload, ↓wb_istore, ↓wb_lstore, ↓wb_astore, ↓wb_iinc, ↓wb_iand, ↓wb_ior, ↓wb_ishr, ↓wb_idiv, ↓wb_irem, ↓wb_ladd, ↓wb_lsub, ↓wb_land, ↓wb_lor, ↓wb_lxor, ↓wb_lneg, ↓wb_lushr, ↓wb_lshl, ↓wb_l2i, ↓wb_lcmp, ↓wb_dupI, ↓wb_dupR, ↓wb_dup2, ↓wb_popI, ↓wb_popR, ↓wb_getI, ↓wb_getL, ↓wb_getR, ↓wb_putI, ↓wb_putZ, ↓wb_putL, ↓wb_putR, ↓wb_iaload, ↓wb_laload, ↓wb_zaload, ↓wb_aaload, ↓wb_iastore, ↓wb_lastore, ↓wb_zastore, ↓wb_aastore, ↓wb_alen, ↓wb_newI, ↓wb_newL, ↓wb_newZ, ↓wb_newA, ↓wb_new, ↓wb_obj, ↓wb_sld, ↓wb_slen, ↓wb_goto, ↓wb_ifeq, ↓wb_iceq, ↓wb_ifne, ↓wb_icne, ↓wb_iflt, ↓wb_iclt, ↓wb_ifge, ↓wb_icge, ↓wb_ifgt, ↓wb_icgt, ↓wb_ifle, ↓wb_icle, ↓wb_ifnull, ↓wb_ifnonnull, ↓wb_ret, ↓wb_iret, ↓wb_lret, ↓wb_aret, ↓wb_zret, ↓wb_tsw0, ↓wb_tsw1, ↓wb_lsw0, ↓wb_lsw1, ↓wb_calls0, ↓wb_calls1, ↓wb_callv1, ↓wb_calls2, ↓wb_callv2, ↓wb_calls3, ↓wb_callv3, ↓wb_callv4, ↓wb_callv5, ↓wb_callv6, oB_some, ldI_z, ldI_s, ldL_z, ldL_s, ldR_z, ldR_s, ls1_z, ls1_1n, ls1_1i, ls1_1r, ls1_1l, ls1_s, ls2_z, ls2_1n, ls2_1i, ls2_1r, ls2_1l, ls2_s, List.length_cons, List.length_nil, Nat.reduceAdd, Nat.reduceLT, Nat.reduceLeDiff, Nat.reduceDiv, Nat.reduceMod, Int.reduceToNat, Int.reduceAdd, Nat.zero_add, true_and, Option.toList_some, Option.toList_none, List.cons_append, List.nil_append, true_or, or_true, and_true, false_or, or_false, Int.reduceEq, Int.reduceLT, Int.reduceLE, Int.reduceNeg, not_true_eq_false, not_false_eq_true, Bool.and_eq_true, Bool.or_eq_true, decide_eq_true_eq, ↓reduceIte, b2i_0, b2i_01, b2i_01c, Nat.add_left_cancel_iff, Nat.add_eq_left, Nat.left_eq_add, Nat.reduceEqDiff, false_and, and_false, Bool.false_eq_true, Bool.true_eq_false, ↓wr_iadd, ↓wr_isub, ↓wr_imul, wr_id, ↓wl_170_79, c1]
      refine fin fr (fun m hm4 => ?_)
      rw [hm m hm4]
      refine pI_cg ?_
      rw [Tr_inv]
      constructor
      · rintro (z | ⟨k, -, a, b⟩)
        · exact Or.inl z
        · exact Or.inr ⟨k, a, b⟩
      · rintro (z | ⟨k, a, b⟩)
        · exact Or.inl z
        · exact Or.inr ⟨k, by omega, a, b⟩
    | succ f ih =>
      intro h2 x hf fr hm
      obtain ⟨s2, g7, w9, w10, w11, w12, w19, wK, wX, wE⟩ := rows fr
      rw [show ((f + 1 : Nat) : Int) - 1 = (f : Int) by omega]
      have cM : (f : Int) + -1 = (f : Int) - 1 := by omega
      have c1 : ((f : Int) < 0) = False := by simp
      have b1 : (0 ≤ (f : Int) ∧ (f : Int) < 400) = True := by simp; omega
      have hTf : (f = i ∨ ∃ k, f + 1 ≤ k ∧ Tr T i k ∧ T k f) ↔ Tr T i f := by
        rw [Tr_inv]
        constructor
        · rintro (z | ⟨k, -, a, b⟩)
          · exact Or.inl z
          · exact Or.inr ⟨k, a, b⟩
        · rintro (z | ⟨k, a, b⟩)
          · exact Or.inl z
          · exact Or.inr ⟨k, Tlt _ _ b, a, b⟩
      have hmf := hm f (by omega)
      rw [pI_cg hTf] at hmf
      rw [bl_170_23]
      by_cases hT : Tr T i f
      · rw [pI_t hT] at hmf
        simp (maxSteps := 2000000) (disch := omega) only [↓wb_const, ↓wb_lconst, ↓wb_null, ↓wb_iload, ↓wb_lload, ↓wb_aload, ↓wb_istore, ↓wb_lstore, ↓wb_astore, ↓wb_iinc, ↓wb_iand, ↓wb_ior, ↓wb_ishr, ↓wb_idiv, ↓wb_irem, ↓wb_ladd, ↓wb_lsub, ↓wb_land, ↓wb_lor, ↓wb_lxor, ↓wb_lneg, ↓wb_lushr, ↓wb_lshl, ↓wb_l2i, ↓wb_lcmp, ↓wb_dupI, ↓wb_dupR, ↓wb_dup2, ↓wb_popI, ↓wb_popR, ↓wb_getI, ↓wb_getL, ↓wb_getR, ↓wb_putI, ↓wb_putZ, ↓wb_putL, ↓wb_putR, ↓wb_iaload, ↓wb_laload, ↓wb_zaload, ↓wb_aaload, ↓wb_iastore, ↓wb_lastore, ↓wb_zastore, ↓wb_aastore, ↓wb_alen, ↓wb_newI, ↓wb_newL, ↓wb_newZ, ↓wb_newA, ↓wb_new, ↓wb_obj, ↓wb_sld, ↓wb_slen, ↓wb_goto, ↓wb_ifeq, ↓wb_iceq, ↓wb_ifne, ↓wb_icne, ↓wb_iflt, ↓wb_iclt, ↓wb_ifge, ↓wb_icge, ↓wb_ifgt, ↓wb_icgt, ↓wb_ifle, ↓wb_icle, ↓wb_ifnull, ↓wb_ifnonnull, ↓wb_ret, ↓wb_iret, ↓wb_lret, ↓wb_aret, ↓wb_zret, ↓wb_tsw0, ↓wb_tsw1, ↓wb_lsw0, ↓wb_lsw1, ↓wb_calls0, ↓wb_calls1, ↓wb_callv1, ↓wb_calls2, ↓wb_callv2, ↓wb_calls3, ↓wb_callv3, ↓wb_callv4, ↓wb_callv5, ↓wb_callv6, oB_some, ldI_z, ldI_s, ldL_z, ldL_s, ldR_z, ldR_s, ls1_z, ls1_1n, ls1_1i, ls1_1r, ls1_1l, ls1_s, ls2_z, ls2_1n, ls2_1i, ls2_1r, ls2_1l, ls2_s, List.length_cons, List.length_nil, Nat.reduceAdd, Nat.reduceLT, Nat.reduceLeDiff, Nat.reduceDiv, Nat.reduceMod, Int.reduceToNat, Int.reduceAdd, Nat.zero_add, true_and, Option.toList_some, Option.toList_none, List.cons_append, List.nil_append, true_or, or_true, and_true, false_or, or_false, Int.reduceEq, Int.reduceLT, Int.reduceLE, Int.reduceNeg, not_true_eq_false, not_false_eq_true, Bool.and_eq_true, Bool.or_eq_true, decide_eq_true_eq, ↓reduceIte, b2i_0, b2i_01, b2i_01c, Nat.add_left_cancel_iff, Nat.add_eq_left, Nat.left_eq_add, Nat.reduceEqDiff, false_and, and_false, Bool.false_eq_true, Bool.true_eq_false, ↓wr_iadd, ↓wr_isub, ↓wr_imul, wr_id, ↓wl_170_31, sm_c s2, sm_r35 s2, sm_a24 s2, sm_r15 s2, sm_a9 s2, sm_r16 s2, sm_a10 s2, c1, b1, Int.toNat_natCast, hmf, Int.reduceEq]
        generalize hA : (fun m => m = i ∨ ∃ k, f + 1 ≤ k ∧ Tr T i k ∧ T k m) = A at *
        have hm : ∀ m, m < 400 → hI h2 (o + 24) m = pI (A m) := fun m q => by rw [hm m q, ← hA]
        have last : ∀ (h3 : Hp) (x : Option AV), FR (o + 24) (o + 24) h1 h3 → (∀ m, m < 400 → hI h3 (o + 24) m = pI (A m ∨ T f m)) → WB sc 170 (BL 170 77) [some (aR o), some (aI i), some (aI f), x] [] h3 Q := by
          intro h3 x fr3 hm3
          rw [bl_170_77]
          simp (maxSteps := 2000000) (disch := omega) only [↓wb_const, ↓wb_lconst, ↓wb_null, ↓wb_iload, ↓wb_lload, ↓wb_aload, ↓wb_istore, ↓wb_lstore, ↓wb_astore, ↓wb_iinc, ↓wb_iand, ↓wb_ior, ↓wb_ishr, ↓wb_idiv, ↓wb_irem, ↓wb_ladd, ↓wb_lsub, ↓wb_land, ↓wb_lor, ↓wb_lxor, ↓wb_lneg, ↓wb_lushr, ↓wb_lshl, ↓wb_l2i, ↓wb_lcmp, ↓wb_dupI, ↓wb_dupR, ↓wb_dup2, ↓wb_popI, ↓wb_popR, ↓wb_getI, ↓wb_getL, ↓wb_getR, ↓wb_putI, ↓wb_putZ, ↓wb_putL, ↓wb_putR, ↓wb_iaload, ↓wb_laload, ↓wb_zaload, ↓wb_aaload, ↓wb_iastore, ↓wb_lastore, ↓wb_zastore, ↓wb_aastore, ↓wb_alen, ↓wb_newI, ↓wb_newL, ↓wb_newZ, ↓wb_newA, ↓wb_new, ↓wb_obj, ↓wb_sld, ↓wb_slen, ↓wb_goto, ↓wb_ifeq, ↓wb_iceq, ↓wb_ifne, ↓wb_icne, ↓wb_iflt, ↓wb_iclt, ↓wb_ifge, ↓wb_icge, ↓wb_ifgt, ↓wb_icgt, ↓wb_ifle, ↓wb_icle, ↓wb_ifnull, ↓wb_ifnonnull, ↓wb_ret, ↓wb_iret, ↓wb_lret, ↓wb_aret, ↓wb_zret, ↓wb_tsw0, ↓wb_tsw1, ↓wb_lsw0, ↓wb_lsw1, ↓wb_calls0, ↓wb_calls1, ↓wb_callv1, ↓wb_calls2, ↓wb_callv2, ↓wb_calls3, ↓wb_callv3, ↓wb_callv4, ↓wb_callv5, ↓wb_callv6, oB_some, ldI_z, ldI_s, ldL_z, ldL_s, ldR_z, ldR_s, ls1_z, ls1_1n, ls1_1i, ls1_1r, ls1_1l, ls1_s, ls2_z, ls2_1n, ls2_1i, ls2_1r, ls2_1l, ls2_s, List.length_cons, List.length_nil, Nat.reduceAdd, Nat.reduceLT, Nat.reduceLeDiff, Nat.reduceDiv, Nat.reduceMod, Int.reduceToNat, Int.reduceAdd, Nat.zero_add, true_and, Option.toList_some, Option.toList_none, List.cons_append, List.nil_append, true_or, or_true, and_true, false_or, or_false, Int.reduceEq, Int.reduceLT, Int.reduceLE, Int.reduceNeg, not_true_eq_false, not_false_eq_true, Bool.and_eq_true, Bool.or_eq_true, decide_eq_true_eq, ↓reduceIte, b2i_0, b2i_01, b2i_01c, Nat.add_left_cancel_iff, Nat.add_eq_left, Nat.left_eq_add, Nat.reduceEqDiff, false_and, and_false, Bool.false_eq_true, Bool.true_eq_false, ↓wr_iadd, ↓wr_isub, ↓wr_imul, wr_id]
          (try rw [cM])
          refine ih h3 x (by omega) fr3 (fun m q => ?_)
          rw [hm3 m q, ← hA]
          refine pI_cg ?_
          constructor
          · rintro ((z | ⟨k, a, b, c⟩) | z)
            · exact Or.inl z
            · exact Or.inr ⟨k, by omega, b, c⟩
            · exact Or.inr ⟨f, by omega, hT, z⟩
          · rintro (z | ⟨k, a, b, c⟩)
            · exact Or.inl (Or.inl z)
            · rcases Nat.lt_or_ge f k with y | y
              · exact Or.inl (Or.inr ⟨k, by omega, b, c⟩)
              · have : k = f := by omega
                subst this
                exact Or.inr c
        clear ih
        -- what comes after the names
        have dcd : ∀ (h3 : Hp) (x : Option AV), FR (o + 24) (o + 24) h1 h3 → (∀ m, m < 400 → hI h3 (o + 24) m = pI ((A m ∨ ∃ nm : Nat, nm < 8 ∧ rdF (mK o h g (R f)) (mX o h g (R f)) (mE o h g (R f)) nm = true ∧ lt1 (srN R H (mX o h g) nm) f m) ∨ (0 ≤ RP f ∧ lt1 (fun m => S m = RP f) f m))) → WB sc 170 (BL 170 71) [some (aR o), some (aI i), some (aI f), x] [] h3 Q := by
          intro h3 x fr3 hm3
          have s3 := (rows fr3).1
          rw [bl_170_71]
          simp (maxSteps := 2000000) (disch := omega) only [↓wb_const, ↓wb_lconst, ↓wb_null, ↓wb_iload, ↓wb_lload, ↓wb_aload, ↓wb_istore, ↓wb_lstore, ↓wb_astore, ↓wb_iinc, ↓wb_iand, ↓wb_ior, ↓wb_ishr, ↓wb_idiv, ↓wb_irem, ↓wb_ladd, ↓wb_lsub, ↓wb_land, ↓wb_lor, ↓wb_lxor, ↓wb_lneg, ↓wb_lushr, ↓wb_lshl, ↓wb_l2i, ↓wb_lcmp, ↓wb_dupI, ↓wb_dupR, ↓wb_dup2, ↓wb_popI, ↓wb_popR, ↓wb_getI, ↓wb_getL, ↓wb_getR, ↓wb_putI, ↓wb_putZ, ↓wb_putL, ↓wb_putR, ↓wb_iaload, ↓wb_laload, ↓wb_zaload, ↓wb_aaload, ↓wb_iastore, ↓wb_lastore, ↓wb_zastore, ↓wb_aastore, ↓wb_alen, ↓wb_newI, ↓wb_newL, ↓wb_newZ, ↓wb_newA, ↓wb_new, ↓wb_obj, ↓wb_sld, ↓wb_slen, ↓wb_goto, ↓wb_ifeq, ↓wb_iceq, ↓wb_ifne, ↓wb_icne, ↓wb_iflt, ↓wb_iclt, ↓wb_ifge, ↓wb_icge, ↓wb_ifgt, ↓wb_icgt, ↓wb_ifle, ↓wb_icle, ↓wb_ifnull, ↓wb_ifnonnull, ↓wb_ret, ↓wb_iret, ↓wb_lret, ↓wb_aret, ↓wb_zret, ↓wb_tsw0, ↓wb_tsw1, ↓wb_lsw0, ↓wb_lsw1, ↓wb_calls0, ↓wb_calls1, ↓wb_callv1, ↓wb_calls2, ↓wb_callv2, ↓wb_calls3, ↓wb_callv3, ↓wb_callv4, ↓wb_callv5, ↓wb_callv6, oB_some, ldI_z, ldI_s, ldL_z, ldL_s, ldR_z, ldR_s, ls1_z, ls1_1n, ls1_1i, ls1_1r, ls1_1l, ls1_s, ls2_z, ls2_1n, ls2_1i, ls2_1r, ls2_1l, ls2_s, List.length_cons, List.length_nil, Nat.reduceAdd, Nat.reduceLT, Nat.reduceLeDiff, Nat.reduceDiv, Nat.reduceMod, Int.reduceToNat, Int.reduceAdd, Nat.zero_add, true_and, Option.toList_some, Option.toList_none, List.cons_append, List.nil_append, true_or, or_true, and_true, false_or, or_false, Int.reduceEq, Int.reduceLT, Int.reduceLE, Int.reduceNeg, not_true_eq_false, not_false_eq_true, Bool.and_eq_true, Bool.or_eq_true, decide_eq_true_eq, ↓reduceIte, b2i_0, b2i_01, b2i_01c, Nat.add_left_cancel_iff, Nat.add_eq_left, Nat.left_eq_add, Nat.reduceEqDiff, false_and, and_false, Bool.false_eq_true, Bool.true_eq_false, ↓wr_iadd, ↓wr_isub, ↓wr_imul, wr_id, sm_c s3, sm_r35 s3, sm_a24 s3, sm_r15 s3, sm_a9 s3, sm_r16 s3, sm_a10 s3]
          refine one (dec := true) fr3 (by omega) hm3 (eD fr3 (by omega)) (fun h4 fr4 hm4 => ?_)
          simp (maxSteps := 2000000) (disch := omega) only [↓wb_const, ↓wb_lconst, ↓wb_null, ↓wb_iload, ↓wb_lload, ↓wb_aload, ↓wb_istore, ↓wb_lstore, ↓wb_astore, ↓wb_iinc, ↓wb_iand, ↓wb_ior, ↓wb_ishr, ↓wb_idiv, ↓wb_irem, ↓wb_ladd, ↓wb_lsub, ↓wb_land, ↓wb_lor, ↓wb_lxor, ↓wb_lneg, ↓wb_lushr, ↓wb_lshl, ↓wb_l2i, ↓wb_lcmp, ↓wb_dupI, ↓wb_dupR, ↓wb_dup2, ↓wb_popI, ↓wb_popR, ↓wb_getI, ↓wb_getL, ↓wb_getR, ↓wb_putI, ↓wb_putZ, ↓wb_putL, ↓wb_putR, ↓wb_iaload, ↓wb_laload, ↓wb_zaload, ↓wb_aaload, ↓wb_iastore, ↓wb_lastore, ↓wb_zastore, ↓wb_aastore, ↓wb_alen, ↓wb_newI, ↓wb_newL, ↓wb_newZ, ↓wb_newA, ↓wb_new, ↓wb_obj, ↓wb_sld, ↓wb_slen, ↓wb_goto, ↓wb_ifeq, ↓wb_iceq, ↓wb_ifne, ↓wb_icne, ↓wb_iflt, ↓wb_iclt, ↓wb_ifge, ↓wb_icge, ↓wb_ifgt, ↓wb_icgt, ↓wb_ifle, ↓wb_icle, ↓wb_ifnull, ↓wb_ifnonnull, ↓wb_ret, ↓wb_iret, ↓wb_lret, ↓wb_aret, ↓wb_zret, ↓wb_tsw0, ↓wb_tsw1, ↓wb_lsw0, ↓wb_lsw1, ↓wb_calls0, ↓wb_calls1, ↓wb_callv1, ↓wb_calls2, ↓wb_callv2, ↓wb_calls3, ↓wb_callv3, ↓wb_callv4, ↓wb_callv5, ↓wb_callv6, oB_some, ldI_z, ldI_s, ldL_z, ldL_s, ldR_z, ldR_s, ls1_z, ls1_1n, ls1_1i, ls1_1r, ls1_1l, ls1_s, ls2_z, ls2_1n, ls2_1i, ls2_1r, ls2_1l, ls2_s, List.length_cons, List.length_nil, Nat.reduceAdd, Nat.reduceLT, Nat.reduceLeDiff, Nat.reduceDiv, Nat.reduceMod, Int.reduceToNat, Int.reduceAdd, Nat.zero_add, true_and, Option.toList_some, Option.toList_none, List.cons_append, List.nil_append, true_or, or_true, and_true, false_or, or_false, Int.reduceEq, Int.reduceLT, Int.reduceLE, Int.reduceNeg, not_true_eq_false, not_false_eq_true, Bool.and_eq_true, Bool.or_eq_true, decide_eq_true_eq, ↓reduceIte, b2i_0, b2i_01, b2i_01c, Nat.add_left_cancel_iff, Nat.add_eq_left, Nat.left_eq_add, Nat.reduceEqDiff, false_and, and_false, Bool.false_eq_true, Bool.true_eq_false, ↓wr_iadd, ↓wr_isub, ↓wr_imul, wr_id]
          refine last h4 x fr4 (fun m q => ?_)
          rw [hm4 m q]
          refine pI_cg ?_
          rw [← hS]
          unfold Src
          constructor
          · rintro (((z | z) | z) | z)
            · exact Or.inl z
            · exact Or.inr (Or.inl z)
            · exact Or.inr (Or.inr (Or.inl z))
            · exact Or.inr (Or.inr (Or.inr z))
          · rintro (z | z | z | z)
            · exact Or.inl (Or.inl (Or.inl z))
            · exact Or.inl (Or.inl (Or.inr z))
            · exact Or.inl (Or.inr z)
            · exact Or.inr z
        have plc : ∀ (h3 : Hp) (x : Option AV), FR (o + 24) (o + 24) h1 h3 → (∀ m, m < 400 → hI h3 (o + 24) m = pI (A m ∨ ∃ nm : Nat, nm < 8 ∧ rdF (mK o h g (R f)) (mX o h g (R f)) (mE o h g (R f)) nm = true ∧ lt1 (srN R H (mX o h g) nm) f m)) → WB sc 170 (BL 170 57) [some (aR o), some (aI i), some (aI f), x] [] h3 Q := by
          intro h3 x fr3 hm3
          obtain ⟨s3, -, -, w10', -⟩ := rows fr3
          have wp := w10' f
          rw [bl_170_57]
          by_cases hp : 0 ≤ RP f
          · have c2 : (RP f < 0) = False := by simp; omega
            simp (maxSteps := 2000000) (disch := omega) only [↓wb_const, ↓wb_lconst, ↓wb_null, ↓wb_iload, ↓wb_lload, ↓wb_aload, ↓wb_istore, ↓wb_lstore, ↓wb_astore, ↓wb_iinc, ↓wb_iand, ↓wb_ior, ↓wb_ishr, ↓wb_idiv, ↓wb_irem, ↓wb_ladd, ↓wb_lsub, ↓wb_land, ↓wb_lor, ↓wb_lxor, ↓wb_lneg, ↓wb_lushr, ↓wb_lshl, ↓wb_l2i, ↓wb_lcmp, ↓wb_dupI, ↓wb_dupR, ↓wb_dup2, ↓wb_popI, ↓wb_popR, ↓wb_getI, ↓wb_getL, ↓wb_getR, ↓wb_putI, ↓wb_putZ, ↓wb_putL, ↓wb_putR, ↓wb_iaload, ↓wb_laload, ↓wb_zaload, ↓wb_aaload, ↓wb_iastore, ↓wb_lastore, ↓wb_zastore, ↓wb_aastore, ↓wb_alen, ↓wb_newI, ↓wb_newL, ↓wb_newZ, ↓wb_newA, ↓wb_new, ↓wb_obj, ↓wb_sld, ↓wb_slen, ↓wb_goto, ↓wb_ifeq, ↓wb_iceq, ↓wb_ifne, ↓wb_icne, ↓wb_iflt, ↓wb_iclt, ↓wb_ifge, ↓wb_icge, ↓wb_ifgt, ↓wb_icgt, ↓wb_ifle, ↓wb_icle, ↓wb_ifnull, ↓wb_ifnonnull, ↓wb_ret, ↓wb_iret, ↓wb_lret, ↓wb_aret, ↓wb_zret, ↓wb_tsw0, ↓wb_tsw1, ↓wb_lsw0, ↓wb_lsw1, ↓wb_calls0, ↓wb_calls1, ↓wb_callv1, ↓wb_calls2, ↓wb_callv2, ↓wb_calls3, ↓wb_callv3, ↓wb_callv4, ↓wb_callv5, ↓wb_callv6, oB_some, ldI_z, ldI_s, ldL_z, ldL_s, ldR_z, ldR_s, ls1_z, ls1_1n, ls1_1i, ls1_1r, ls1_1l, ls1_s, ls2_z, ls2_1n, ls2_1i, ls2_1r, ls2_1l, ls2_s, List.length_cons, List.length_nil, Nat.reduceAdd, Nat.reduceLT, Nat.reduceLeDiff, Nat.reduceDiv, Nat.reduceMod, Int.reduceToNat, Int.reduceAdd, Nat.zero_add, true_and, Option.toList_some, Option.toList_none, List.cons_append, List.nil_append, true_or, or_true, and_true, false_or, or_false, Int.reduceEq, Int.reduceLT, Int.reduceLE, Int.reduceNeg, not_true_eq_false, not_false_eq_true, Bool.and_eq_true, Bool.or_eq_true, decide_eq_true_eq, ↓reduceIte, b2i_0, b2i_01, b2i_01c, Nat.add_left_cancel_iff, Nat.add_eq_left, Nat.left_eq_add, Nat.reduceEqDiff, false_and, and_false, Bool.false_eq_true, Bool.true_eq_false, ↓wr_iadd, ↓wr_isub, ↓wr_imul, wr_id, sm_c s3, sm_r35 s3, sm_a24 s3, sm_r15 s3, sm_a9 s3, sm_r16 s3, sm_a10 s3, b1, Int.toNat_natCast, wp, c2]
            refine one (dec := false) fr3 (by omega) hm3 (eS fr3 hp) (fun h4 fr4 hm4 => ?_)
            simp (maxSteps := 2000000) (disch := omega) only [↓wb_const, ↓wb_lconst, ↓wb_null, ↓wb_iload, ↓wb_lload, ↓wb_aload, ↓wb_istore, ↓wb_lstore, ↓wb_astore, ↓wb_iinc, ↓wb_iand, ↓wb_ior, ↓wb_ishr, ↓wb_idiv, ↓wb_irem, ↓wb_ladd, ↓wb_lsub, ↓wb_land, ↓wb_lor, ↓wb_lxor, ↓wb_lneg, ↓wb_lushr, ↓wb_lshl, ↓wb_l2i, ↓wb_lcmp, ↓wb_dupI, ↓wb_dupR, ↓wb_dup2, ↓wb_popI, ↓wb_popR, ↓wb_getI, ↓wb_getL, ↓wb_getR, ↓wb_putI, ↓wb_putZ, ↓wb_putL, ↓wb_putR, ↓wb_iaload, ↓wb_laload, ↓wb_zaload, ↓wb_aaload, ↓wb_iastore, ↓wb_lastore, ↓wb_zastore, ↓wb_aastore, ↓wb_alen, ↓wb_newI, ↓wb_newL, ↓wb_newZ, ↓wb_newA, ↓wb_new, ↓wb_obj, ↓wb_sld, ↓wb_slen, ↓wb_goto, ↓wb_ifeq, ↓wb_iceq, ↓wb_ifne, ↓wb_icne, ↓wb_iflt, ↓wb_iclt, ↓wb_ifge, ↓wb_icge, ↓wb_ifgt, ↓wb_icgt, ↓wb_ifle, ↓wb_icle, ↓wb_ifnull, ↓wb_ifnonnull, ↓wb_ret, ↓wb_iret, ↓wb_lret, ↓wb_aret, ↓wb_zret, ↓wb_tsw0, ↓wb_tsw1, ↓wb_lsw0, ↓wb_lsw1, ↓wb_calls0, ↓wb_calls1, ↓wb_callv1, ↓wb_calls2, ↓wb_callv2, ↓wb_calls3, ↓wb_callv3, ↓wb_callv4, ↓wb_callv5, ↓wb_callv6, oB_some, ldI_z, ldI_s, ldL_z, ldL_s, ldR_z, ldR_s, ls1_z, ls1_1n, ls1_1i, ls1_1r, ls1_1l, ls1_s, ls2_z, ls2_1n, ls2_1i, ls2_1r, ls2_1l, ls2_s, List.length_cons, List.length_nil, Nat.reduceAdd, Nat.reduceLT, Nat.reduceLeDiff, Nat.reduceDiv, Nat.reduceMod, Int.reduceToNat, Int.reduceAdd, Nat.zero_add, true_and, Option.toList_some, Option.toList_none, List.cons_append, List.nil_append, true_or, or_true, and_true, false_or, or_false, Int.reduceEq, Int.reduceLT, Int.reduceLE, Int.reduceNeg, not_true_eq_false, not_false_eq_true, Bool.and_eq_true, Bool.or_eq_true, decide_eq_true_eq, ↓reduceIte, b2i_0, b2i_01, b2i_01c, Nat.add_left_cancel_iff, Nat.add_eq_left, Nat.left_eq_add, Nat.reduceEqDiff, false_and, and_false, Bool.false_eq_true, Bool.true_eq_false, ↓wr_iadd, ↓wr_isub, ↓wr_imul, wr_id]
            refine dcd h4 x fr4 (fun m q => ?_)
            rw [hm4 m q]
            exact pI_cg ⟨fun z => z.imp id (fun w => ⟨hp, w⟩), fun z => z.imp id (fun w => w.2)⟩
          · have c2 : (RP f < 0) = True := by simp; omega
            simp (maxSteps := 2000000) (disch := omega) only [↓wb_const, ↓wb_lconst, ↓wb_null, ↓wb_iload, ↓wb_lload, ↓wb_aload, ↓wb_istore, ↓wb_lstore, ↓wb_astore, ↓wb_iinc, ↓wb_iand, ↓wb_ior, ↓wb_ishr, ↓wb_idiv, ↓wb_irem, ↓wb_ladd, ↓wb_lsub, ↓wb_land, ↓wb_lor, ↓wb_lxor, ↓wb_lneg, ↓wb_lushr, ↓wb_lshl, ↓wb_l2i, ↓wb_lcmp, ↓wb_dupI, ↓wb_dupR, ↓wb_dup2, ↓wb_popI, ↓wb_popR, ↓wb_getI, ↓wb_getL, ↓wb_getR, ↓wb_putI, ↓wb_putZ, ↓wb_putL, ↓wb_putR, ↓wb_iaload, ↓wb_laload, ↓wb_zaload, ↓wb_aaload, ↓wb_iastore, ↓wb_lastore, ↓wb_zastore, ↓wb_aastore, ↓wb_alen, ↓wb_newI, ↓wb_newL, ↓wb_newZ, ↓wb_newA, ↓wb_new, ↓wb_obj, ↓wb_sld, ↓wb_slen, ↓wb_goto, ↓wb_ifeq, ↓wb_iceq, ↓wb_ifne, ↓wb_icne, ↓wb_iflt, ↓wb_iclt, ↓wb_ifge, ↓wb_icge, ↓wb_ifgt, ↓wb_icgt, ↓wb_ifle, ↓wb_icle, ↓wb_ifnull, ↓wb_ifnonnull, ↓wb_ret, ↓wb_iret, ↓wb_lret, ↓wb_aret, ↓wb_zret, ↓wb_tsw0, ↓wb_tsw1, ↓wb_lsw0, ↓wb_lsw1, ↓wb_calls0, ↓wb_calls1, ↓wb_callv1, ↓wb_calls2, ↓wb_callv2, ↓wb_calls3, ↓wb_callv3, ↓wb_callv4, ↓wb_callv5, ↓wb_callv6, oB_some, ldI_z, ldI_s, ldL_z, ldL_s, ldR_z, ldR_s, ls1_z, ls1_1n, ls1_1i, ls1_1r, ls1_1l, ls1_s, ls2_z, ls2_1n, ls2_1i, ls2_1r, ls2_1l, ls2_s, List.length_cons, List.length_nil, Nat.reduceAdd, Nat.reduceLT, Nat.reduceLeDiff, Nat.reduceDiv, Nat.reduceMod, Int.reduceToNat, Int.reduceAdd, Nat.zero_add, true_and, Option.toList_some, Option.toList_none, List.cons_append, List.nil_append, true_or, or_true, and_true, false_or, or_false, Int.reduceEq, Int.reduceLT, Int.reduceLE, Int.reduceNeg, not_true_eq_false, not_false_eq_true, Bool.and_eq_true, Bool.or_eq_true, decide_eq_true_eq, ↓reduceIte, b2i_0, b2i_01, b2i_01c, Nat.add_left_cancel_iff, Nat.add_eq_left, Nat.left_eq_add, Nat.reduceEqDiff, false_and, and_false, Bool.false_eq_true, Bool.true_eq_false, ↓wr_iadd, ↓wr_isub, ↓wr_imul, wr_id, sm_c s3, sm_r35 s3, sm_a24 s3, sm_r15 s3, sm_a9 s3, sm_r16 s3, sm_a10 s3, b1, Int.toNat_natCast, wp, c2]
            refine dcd h3 x fr3 (fun m q => ?_)
            rw [hm3 m q]
            exact pI_cg ⟨Or.inl, fun z => z.resolve_right (fun w => hp w.1)⟩
        have names : ∀ (e nm : Nat) (h3 : Hp), 8 - nm = e → nm ≤ 8 → FR (o + 24) (o + 24) h1 h3 → (∀ m, m < 400 → hI h3 (o + 24) m = pI (A m ∨ ∃ nm2 : Nat, nm2 < nm ∧ rdF (mK o h g (R f)) (mX o h g (R f)) (mE o h g (R f)) nm2 = true ∧ lt1 (srN R H (mX o h g) nm2) f m)) → WB sc 170 (BL 170 33) [some (aR o), some (aI i), some (aI f), some (aI nm)] [] h3 Q := by
          intro e
          induction e with
          | zero =>
            intro nm h3 he hn8 fr3 hm3
            have : nm = 8 := by omega
            subst this
            have s3 := (rows fr3).1
            rw [bl_170_33]
            have c2 : ((8 : Int) ≤ ((8 : Nat) : Int)) = True := by simp
            simp (maxSteps := 2000000) (disch := omega) only [↓wb_const, ↓wb_lconst, ↓wb_null, ↓wb_iload, ↓wb_lload, ↓wb_aload, ↓wb_istore, ↓wb_lstore, ↓wb_astore, ↓wb_iinc, ↓wb_iand, ↓wb_ior, ↓wb_ishr, ↓wb_idiv, ↓wb_irem, ↓wb_ladd, ↓wb_lsub, ↓wb_land, ↓wb_lor, ↓wb_lxor, ↓wb_lneg, ↓wb_lushr, ↓wb_lshl, ↓wb_l2i, ↓wb_lcmp, ↓wb_dupI, ↓wb_dupR, ↓wb_dup2, ↓wb_popI, ↓wb_popR, ↓wb_getI, ↓wb_getL, ↓wb_getR, ↓wb_putI, ↓wb_putZ, ↓wb_putL, ↓wb_putR, ↓wb_iaload, ↓wb_laload, ↓wb_zaload, ↓wb_aaload, ↓wb_iastore, ↓wb_lastore, ↓wb_zastore, ↓wb_aastore, ↓wb_alen, ↓wb_newI, ↓wb_newL, ↓wb_newZ, ↓wb_newA, ↓wb_new, ↓wb_obj, ↓wb_sld, ↓wb_slen, ↓wb_goto, ↓wb_ifeq, ↓wb_iceq, ↓wb_ifne, ↓wb_icne, ↓wb_iflt, ↓wb_iclt, ↓wb_ifge, ↓wb_icge, ↓wb_ifgt, ↓wb_icgt, ↓wb_ifle, ↓wb_icle, ↓wb_ifnull, ↓wb_ifnonnull, ↓wb_ret, ↓wb_iret, ↓wb_lret, ↓wb_aret, ↓wb_zret, ↓wb_tsw0, ↓wb_tsw1, ↓wb_lsw0, ↓wb_lsw1, ↓wb_calls0, ↓wb_calls1, ↓wb_callv1, ↓wb_calls2, ↓wb_callv2, ↓wb_calls3, ↓wb_callv3, ↓wb_callv4, ↓wb_callv5, ↓wb_callv6, oB_some, ldI_z, ldI_s, ldL_z, ldL_s, ldR_z, ldR_s, ls1_z, ls1_1n, ls1_1i, ls1_1r, ls1_1l, ls1_s, ls2_z, ls2_1n, ls2_1i, ls2_1r, ls2_1l, ls2_s, List.length_cons, List.length_nil, Nat.reduceAdd, Nat.reduceLT, Nat.reduceLeDiff, Nat.reduceDiv, Nat.reduceMod, Int.reduceToNat, Int.reduceAdd, Nat.zero_add, true_and, Option.toList_some, Option.toList_none, List.cons_append, List.nil_append, true_or, or_true, and_true, false_or, or_false, Int.reduceEq, Int.reduceLT, Int.reduceLE, Int.reduceNeg, not_true_eq_false, not_false_eq_true, Bool.and_eq_true, Bool.or_eq_true, decide_eq_true_eq, ↓reduceIte, b2i_0, b2i_01, b2i_01c, Nat.add_left_cancel_iff, Nat.add_eq_left, Nat.left_eq_add, Nat.reduceEqDiff, false_and, and_false, Bool.false_eq_true, Bool.true_eq_false, ↓wr_iadd, ↓wr_isub, ↓wr_imul, wr_id, sm_c s3, sm_r35 s3, sm_a24 s3, sm_r15 s3, sm_a9 s3, sm_r16 s3, sm_a10 s3, c2]
            exact plc h3 _ fr3 hm3
          | succ e ihe =>
            intro nm h3 he hn8 fr3 hm3
            obtain ⟨s3, g7', w9', -, -, -, -, wK', wX', wE'⟩ := rows fr3
            have w9f := w9' f
            obtain ⟨a0, a1⟩ := hrec f (by omega)
            have c2 : ((8 : Int) ≤ (nm : Int)) = False := by simp; omega
            have cS : (nm : Int) + 1 = ((nm + 1 : Nat) : Int) := by omega
            have prd := fun (Q : Option AV → Hp → Prop) => mc_reads (sc := sc) (Q := Q) (i := 60 * g + R f) (nm := (nm : Int)) s3 (by omega) (by omega)
            rw [wK', wX', wE'] at prd
            rw [bl_170_33]
            cases hb : rdF (mK o h g (R f)) (mX o h g (R f)) (mE o h g (R f)) nm with
            | false =>
              rw [hb] at prd
              simp (maxSteps := 2000000) (disch := omega) only [↓wb_const, ↓wb_lconst, ↓wb_null, ↓wb_iload, ↓wb_lload, ↓wb_aload, ↓wb_istore, ↓wb_lstore, ↓wb_astore, ↓wb_iinc, ↓wb_iand, ↓wb_ior, ↓wb_ishr, ↓wb_idiv, ↓wb_irem, ↓wb_ladd, ↓wb_lsub, ↓wb_land, ↓wb_lor, ↓wb_lxor, ↓wb_lneg, ↓wb_lushr, ↓wb_lshl, ↓wb_l2i, ↓wb_lcmp, ↓wb_dupI, ↓wb_dupR, ↓wb_dup2, ↓wb_popI, ↓wb_popR, ↓wb_getI, ↓wb_getL, ↓wb_getR, ↓wb_putI, ↓wb_putZ, ↓wb_putL, ↓wb_putR, ↓wb_iaload, ↓wb_laload, ↓wb_zaload, ↓wb_aaload, ↓wb_iastore, ↓wb_lastore, ↓wb_zastore, ↓wb_aastore, ↓wb_alen, ↓wb_newI, ↓wb_newL, ↓wb_newZ, ↓wb_newA, ↓wb_new, ↓wb_obj, ↓wb_sld, ↓wb_slen, ↓wb_goto, ↓wb_ifeq, ↓wb_iceq, ↓wb_ifne, ↓wb_icne, ↓wb_iflt, ↓wb_iclt, ↓wb_ifge, ↓wb_icge, ↓wb_ifgt, ↓wb_icgt, ↓wb_ifle, ↓wb_icle, ↓wb_ifnull, ↓wb_ifnonnull, ↓wb_ret, ↓wb_iret, ↓wb_lret, ↓wb_aret, ↓wb_zret, ↓wb_tsw0, ↓wb_tsw1, ↓wb_lsw0, ↓wb_lsw1, ↓wb_calls0, ↓wb_calls1, ↓wb_callv1, ↓wb_calls2, ↓wb_callv2, ↓wb_calls3, ↓wb_callv3, ↓wb_callv4, ↓wb_callv5, ↓wb_callv6, oB_some, ldI_z, ldI_s, ldL_z, ldL_s, ldR_z, ldR_s, ls1_z, ls1_1n, ls1_1i, ls1_1r, ls1_1l, ls1_s, ls2_z, ls2_1n, ls2_1i, ls2_1r, ls2_1l, ls2_s, List.length_cons, List.length_nil, Nat.reduceAdd, Nat.reduceLT, Nat.reduceLeDiff, Nat.reduceDiv, Nat.reduceMod, Int.reduceToNat, Int.reduceAdd, Nat.zero_add, true_and, Option.toList_some, Option.toList_none, List.cons_append, List.nil_append, true_or, or_true, and_true, false_or, or_false, Int.reduceEq, Int.reduceLT, Int.reduceLE, Int.reduceNeg, not_true_eq_false, not_false_eq_true, Bool.and_eq_true, Bool.or_eq_true, decide_eq_true_eq, ↓reduceIte, b2i_0, b2i_01, b2i_01c, Nat.add_left_cancel_iff, Nat.add_eq_left, Nat.left_eq_add, Nat.reduceEqDiff, false_and, and_false, Bool.false_eq_true, Bool.true_eq_false, ↓wr_iadd, ↓wr_isub, ↓wr_imul, wr_id, ↓wl_170_55, sm_c s3, sm_r35 s3, sm_a24 s3, sm_r15 s3, sm_a9 s3, sm_r16 s3, sm_a10 s3, c2, g7', b1, Int.toNat_natCast, w9f, ↓prd, b2i_f]
              rw [cS]
              refine ihe (nm + 1) h3 (by omega) (by omega) fr3 (fun m q => ?_)
              rw [hm3 m q]
              refine pI_cg ⟨fun z => z.imp id (fun ⟨a, b, c⟩ => ⟨a, by omega, c⟩), fun z => z.imp id (fun ⟨a, b, c, d⟩ => ⟨a, ?_, c, d⟩)⟩
              rcases Nat.lt_or_ge a nm with y | y
              · exact y
              · have : a = nm := by omega
                rw [this, hb] at c
                exact absurd c (by decide)
            | true =>
              rw [hb] at prd
              simp (maxSteps := 2000000) (disch := omega) only [↓wb_const, ↓wb_lconst, ↓wb_null, ↓wb_iload, ↓wb_lload, ↓wb_aload, ↓wb_istore, ↓wb_lstore, ↓wb_astore, ↓wb_iinc, ↓wb_iand, ↓wb_ior, ↓wb_ishr, ↓wb_idiv, ↓wb_irem, ↓wb_ladd, ↓wb_lsub, ↓wb_land, ↓wb_lor, ↓wb_lxor, ↓wb_lneg, ↓wb_lushr, ↓wb_lshl, ↓wb_l2i, ↓wb_lcmp, ↓wb_dupI, ↓wb_dupR, ↓wb_dup2, ↓wb_popI, ↓wb_popR, ↓wb_getI, ↓wb_getL, ↓wb_getR, ↓wb_putI, ↓wb_putZ, ↓wb_putL, ↓wb_putR, ↓wb_iaload, ↓wb_laload, ↓wb_zaload, ↓wb_aaload, ↓wb_iastore, ↓wb_lastore, ↓wb_zastore, ↓wb_aastore, ↓wb_alen, ↓wb_newI, ↓wb_newL, ↓wb_newZ, ↓wb_newA, ↓wb_new, ↓wb_obj, ↓wb_sld, ↓wb_slen, ↓wb_goto, ↓wb_ifeq, ↓wb_iceq, ↓wb_ifne, ↓wb_icne, ↓wb_iflt, ↓wb_iclt, ↓wb_ifge, ↓wb_icge, ↓wb_ifgt, ↓wb_icgt, ↓wb_ifle, ↓wb_icle, ↓wb_ifnull, ↓wb_ifnonnull, ↓wb_ret, ↓wb_iret, ↓wb_lret, ↓wb_aret, ↓wb_zret, ↓wb_tsw0, ↓wb_tsw1, ↓wb_lsw0, ↓wb_lsw1, ↓wb_calls0, ↓wb_calls1, ↓wb_callv1, ↓wb_calls2, ↓wb_callv2, ↓wb_calls3, ↓wb_callv3, ↓wb_callv4, ↓wb_callv5, ↓wb_callv6, oB_some, ldI_z, ldI_s, ldL_z, ldL_s, ldR_z, ldR_s, ls1_z, ls1_1n, ls1_1i, ls1_1r, ls1_1l, ls1_s, ls2_z, ls2_1n, ls2_1i, ls2_1r, ls2_1l, ls2_s, List.length_cons, List.length_nil, Nat.reduceAdd, Nat.reduceLT, Nat.reduceLeDiff, Nat.reduceDiv, Nat.reduceMod, Int.reduceToNat, Int.reduceAdd, Nat.zero_add, true_and, Option.toList_some, Option.toList_none, List.cons_append, List.nil_append, true_or, or_true, and_true, false_or, or_false, Int.reduceEq, Int.reduceLT, Int.reduceLE, Int.reduceNeg, not_true_eq_false, not_false_eq_true, Bool.and_eq_true, Bool.or_eq_true, decide_eq_true_eq, ↓reduceIte, b2i_0, b2i_01, b2i_01c, Nat.add_left_cancel_iff, Nat.add_eq_left, Nat.left_eq_add, Nat.reduceEqDiff, false_and, and_false, Bool.false_eq_true, Bool.true_eq_false, ↓wr_iadd, ↓wr_isub, ↓wr_imul, wr_id, sm_c s3, sm_r35 s3, sm_a24 s3, sm_r15 s3, sm_a9 s3, sm_r16 s3, sm_a10 s3, c2, g7', b1, Int.toNat_natCast, w9f, ↓prd, b2i_t, Int.reduceEq]
              refine one (dec := false) fr3 (by omega) hm3 (eN fr3) (fun h4 fr4 hm4 => ?_)
              simp (maxSteps := 2000000) (disch := omega) only [↓wb_const, ↓wb_lconst, ↓wb_null, ↓wb_iload, ↓wb_lload, ↓wb_aload, ↓wb_istore, ↓wb_lstore, ↓wb_astore, ↓wb_iinc, ↓wb_iand, ↓wb_ior, ↓wb_ishr, ↓wb_idiv, ↓wb_irem, ↓wb_ladd, ↓wb_lsub, ↓wb_land, ↓wb_lor, ↓wb_lxor, ↓wb_lneg, ↓wb_lushr, ↓wb_lshl, ↓wb_l2i, ↓wb_lcmp, ↓wb_dupI, ↓wb_dupR, ↓wb_dup2, ↓wb_popI, ↓wb_popR, ↓wb_getI, ↓wb_getL, ↓wb_getR, ↓wb_putI, ↓wb_putZ, ↓wb_putL, ↓wb_putR, ↓wb_iaload, ↓wb_laload, ↓wb_zaload, ↓wb_aaload, ↓wb_iastore, ↓wb_lastore, ↓wb_zastore, ↓wb_aastore, ↓wb_alen, ↓wb_newI, ↓wb_newL, ↓wb_newZ, ↓wb_newA, ↓wb_new, ↓wb_obj, ↓wb_sld, ↓wb_slen, ↓wb_goto, ↓wb_ifeq, ↓wb_iceq, ↓wb_ifne, ↓wb_icne, ↓wb_iflt, ↓wb_iclt, ↓wb_ifge, ↓wb_icge, ↓wb_ifgt, ↓wb_icgt, ↓wb_ifle, ↓wb_icle, ↓wb_ifnull, ↓wb_ifnonnull, ↓wb_ret, ↓wb_iret, ↓wb_lret, ↓wb_aret, ↓wb_zret, ↓wb_tsw0, ↓wb_tsw1, ↓wb_lsw0, ↓wb_lsw1, ↓wb_calls0, ↓wb_calls1, ↓wb_callv1, ↓wb_calls2, ↓wb_callv2, ↓wb_calls3, ↓wb_callv3, ↓wb_callv4, ↓wb_callv5, ↓wb_callv6, oB_some, ldI_z, ldI_s, ldL_z, ldL_s, ldR_z, ldR_s, ls1_z, ls1_1n, ls1_1i, ls1_1r, ls1_1l, ls1_s, ls2_z, ls2_1n, ls2_1i, ls2_1r, ls2_1l, ls2_s, List.length_cons, List.length_nil, Nat.reduceAdd, Nat.reduceLT, Nat.reduceLeDiff, Nat.reduceDiv, Nat.reduceMod, Int.reduceToNat, Int.reduceAdd, Nat.zero_add, true_and, Option.toList_some, Option.toList_none, List.cons_append, List.nil_append, true_or, or_true, and_true, false_or, or_false, Int.reduceEq, Int.reduceLT, Int.reduceLE, Int.reduceNeg, not_true_eq_false, not_false_eq_true, Bool.and_eq_true, Bool.or_eq_true, decide_eq_true_eq, ↓reduceIte, b2i_0, b2i_01, b2i_01c, Nat.add_left_cancel_iff, Nat.add_eq_left, Nat.left_eq_add, Nat.reduceEqDiff, false_and, and_false, Bool.false_eq_true, Bool.true_eq_false, ↓wr_iadd, ↓wr_isub, ↓wr_imul, wr_id, ↓wl_170_55]
              rw [cS]
              refine ihe (nm + 1) h4 (by omega) (by omega) fr4 (fun m q => ?_)
              rw [hm4 m q]
              refine pI_cg ⟨?_, ?_⟩
              · rintro ((z | ⟨a, b, c⟩) | z)
                · exact Or.inl z
                · exact Or.inr ⟨a, by omega, c⟩
                · exact Or.inr ⟨nm, by omega, hb, z⟩
              · rintro (z | ⟨a, b, c, d⟩)
                · exact Or.inl (Or.inl z)
                · rcases Nat.lt_or_ge a nm with y | y
                  · exact Or.inl (Or.inr ⟨a, y, c, d⟩)
                  · have : a = nm := by omega
                    subst this
                    exact Or.inr d
        refine names _ 0 h2 rfl (by omega) fr (fun m q => ?_)
        rw [hm m q]
        exact pI_cg ⟨Or.inl, fun z => z.resolve_right (fun ⟨a, b, _⟩ => by omega)⟩
      · rw [pI_f hT] at hmf
        simp (maxSteps := 2000000) (disch := omega) only [↓wb_const, ↓wb_lconst, ↓wb_null, ↓wb_iload, ↓wb_lload, ↓wb_aload, ↓wb_istore, ↓wb_lstore, ↓wb_astore, ↓wb_iinc, ↓wb_iand, ↓wb_ior, ↓wb_ishr, ↓wb_idiv, ↓wb_irem, ↓wb_ladd, ↓wb_lsub, ↓wb_land, ↓wb_lor, ↓wb_lxor, ↓wb_lneg, ↓wb_lushr, ↓wb_lshl, ↓wb_l2i, ↓wb_lcmp, ↓wb_dupI, ↓wb_dupR, ↓wb_dup2, ↓wb_popI, ↓wb_popR, ↓wb_getI, ↓wb_getL, ↓wb_getR, ↓wb_putI, ↓wb_putZ, ↓wb_putL, ↓wb_putR, ↓wb_iaload, ↓wb_laload, ↓wb_zaload, ↓wb_aaload, ↓wb_iastore, ↓wb_lastore, ↓wb_zastore, ↓wb_aastore, ↓wb_alen, ↓wb_newI, ↓wb_newL, ↓wb_newZ, ↓wb_newA, ↓wb_new, ↓wb_obj, ↓wb_sld, ↓wb_slen, ↓wb_goto, ↓wb_ifeq, ↓wb_iceq, ↓wb_ifne, ↓wb_icne, ↓wb_iflt, ↓wb_iclt, ↓wb_ifge, ↓wb_icge, ↓wb_ifgt, ↓wb_icgt, ↓wb_ifle, ↓wb_icle, ↓wb_ifnull, ↓wb_ifnonnull, ↓wb_ret, ↓wb_iret, ↓wb_lret, ↓wb_aret, ↓wb_zret, ↓wb_tsw0, ↓wb_tsw1, ↓wb_lsw0, ↓wb_lsw1, ↓wb_calls0, ↓wb_calls1, ↓wb_callv1, ↓wb_calls2, ↓wb_callv2, ↓wb_calls3, ↓wb_callv3, ↓wb_callv4, ↓wb_callv5, ↓wb_callv6, oB_some, ldI_z, ldI_s, ldL_z, ldL_s, ldR_z, ldR_s, ls1_z, ls1_1n, ls1_1i, ls1_1r, ls1_1l, ls1_s, ls2_z, ls2_1n, ls2_1i, ls2_1r, ls2_1l, ls2_s, List.length_cons, List.length_nil, Nat.reduceAdd, Nat.reduceLT, Nat.reduceLeDiff, Nat.reduceDiv, Nat.reduceMod, Int.reduceToNat, Int.reduceAdd, Nat.zero_add, true_and, Option.toList_some, Option.toList_none, List.cons_append, List.nil_append, true_or, or_true, and_true, false_or, or_false, Int.reduceEq, Int.reduceLT, Int.reduceLE, Int.reduceNeg, not_true_eq_false, not_false_eq_true, Bool.and_eq_true, Bool.or_eq_true, decide_eq_true_eq, ↓reduceIte, b2i_0, b2i_01, b2i_01c, Nat.add_left_cancel_iff, Nat.add_eq_left, Nat.left_eq_add, Nat.reduceEqDiff, false_and, and_false, Bool.false_eq_true, Bool.true_eq_false, ↓wr_iadd, ↓wr_isub, ↓wr_imul, wr_id, ↓wl_170_77, sm_c s2, sm_r35 s2, sm_a24 s2, sm_r15 s2, sm_a9 s2, sm_r16 s2, sm_a10 s2, c1, b1, Int.toNat_natCast, hmf]
        (try rw [cM])
        refine ih h2 x (by omega) fr (fun m q => ?_)
        rw [hm m q]
        refine pI_cg ⟨fun z => z.imp id (fun ⟨k, a, b⟩ => ⟨k, by omega, b⟩), fun z => z.imp id (fun ⟨k, a, b, c⟩ => ⟨k, ?_, b, c⟩)⟩
        rcases Nat.lt_or_ge f k with y | y
        · exact y
        · have : k = f := by omega
          subst this
          exact absurd b hT
  have first : ∀ (f p : Nat) (h2 : Hp), 400 - p = f → p ≤ 400 → FR (o + 24) (o + 24) h1 h2 → (∀ m, m < p → hI h2 (o + 24) m = pI (m = i)) → WB sc 170 (BL 170 6) [some (aR o), some (aI i), some (aI p), none] [] h2 Q := by
    intro f
    induction f with
    | zero =>
      intro p h2 hf hp fr hm
      have : p = 400 := by omega
      subst this
      have s2 := (rows fr).1
      have mn := main (i + 1) h2 none (by omega) fr (fun m q => by
        rw [hm m q]
        refine pI_cg ⟨Or.inl, fun z => z.resolve_right ?_⟩
        rintro ⟨k, a, b, -⟩
        have := Tr_le Tlt b
        omega)
      rw [show ((i + 1 : Nat) : Int) - 1 = (i : Int) by omega] at mn
      rw [bl_170_6]
      have c1 : ((400 : Int) ≤ ((400 : Nat) : Int)) = True := by simp
      simp (maxSteps := 2000000) (disch := omega) only [↓wb_const, ↓wb_lconst, ↓wb_null, ↓wb_iload, ↓wb_lload, ↓wb_aload, ↓wb_istore, ↓wb_lstore, ↓wb_astore, ↓wb_iinc, ↓wb_iand, ↓wb_ior, ↓wb_ishr, ↓wb_idiv, ↓wb_irem, ↓wb_ladd, ↓wb_lsub, ↓wb_land, ↓wb_lor, ↓wb_lxor, ↓wb_lneg, ↓wb_lushr, ↓wb_lshl, ↓wb_l2i, ↓wb_lcmp, ↓wb_dupI, ↓wb_dupR, ↓wb_dup2, ↓wb_popI, ↓wb_popR, ↓wb_getI, ↓wb_getL, ↓wb_getR, ↓wb_putI, ↓wb_putZ, ↓wb_putL, ↓wb_putR, ↓wb_iaload, ↓wb_laload, ↓wb_zaload, ↓wb_aaload, ↓wb_iastore, ↓wb_lastore, ↓wb_zastore, ↓wb_aastore, ↓wb_alen, ↓wb_newI, ↓wb_newL, ↓wb_newZ, ↓wb_newA, ↓wb_new, ↓wb_obj, ↓wb_sld, ↓wb_slen, ↓wb_goto, ↓wb_ifeq, ↓wb_iceq, ↓wb_ifne, ↓wb_icne, ↓wb_iflt, ↓wb_iclt, ↓wb_ifge, ↓wb_icge, ↓wb_ifgt, ↓wb_icgt, ↓wb_ifle, ↓wb_icle, ↓wb_ifnull, ↓wb_ifnonnull, ↓wb_ret, ↓wb_iret, ↓wb_lret, ↓wb_aret, ↓wb_zret, ↓wb_tsw0, ↓wb_tsw1, ↓wb_lsw0, ↓wb_lsw1, ↓wb_calls0, ↓wb_calls1, ↓wb_callv1, ↓wb_calls2, ↓wb_callv2, ↓wb_calls3, ↓wb_callv3, ↓wb_callv4, ↓wb_callv5, ↓wb_callv6, oB_some, ldI_z, ldI_s, ldL_z, ldL_s, ldR_z, ldR_s, ls1_z, ls1_1n, ls1_1i, ls1_1r, ls1_1l, ls1_s, ls2_z, ls2_1n, ls2_1i, ls2_1r, ls2_1l, ls2_s, List.length_cons, List.length_nil, Nat.reduceAdd, Nat.reduceLT, Nat.reduceLeDiff, Nat.reduceDiv, Nat.reduceMod, Int.reduceToNat, Int.reduceAdd, Nat.zero_add, true_and, Option.toList_some, Option.toList_none, List.cons_append, List.nil_append, true_or, or_true, and_true, false_or, or_false, Int.reduceEq, Int.reduceLT, Int.reduceLE, Int.reduceNeg, not_true_eq_false, not_false_eq_true, Bool.and_eq_true, Bool.or_eq_true, decide_eq_true_eq, ↓reduceIte, b2i_0, b2i_01, b2i_01c, Nat.add_left_cancel_iff, Nat.add_eq_left, Nat.left_eq_add, Nat.reduceEqDiff, false_and, and_false, Bool.false_eq_true, Bool.true_eq_false, ↓wr_iadd, ↓wr_isub, ↓wr_imul, wr_id, ↓wl_170_21, sm_c s2, sm_r35 s2, sm_a24 s2, sm_r15 s2, sm_a9 s2, sm_r16 s2, sm_a10 s2, c1]
      exact mn
    | succ f ih =>
      intro p h2 hf hp fr hm
      have s2 := (rows fr).1
      have c1 : ((400 : Int) ≤ (p : Int)) = False := by simp; omega
      have b1 : (0 ≤ (p : Int) ∧ (p : Int) < 400) = True := by simp; omega
      have cS : (p : Int) + 1 = ((p + 1 : Nat) : Int) := by omega
      have nxt : ∀ v : Int, v = pI (p = i) → WB sc 170 (BL 170 6) [some (aR o), some (aI i), some (aI ((p + 1 : Nat) : Int)), none] [] (setI h2 (o + 24) p v) Q := fun v hv => ih (p + 1) _ (by omega) (by omega) (FR_I fr (by omega) (by omega)) (fun m q => by
        by_cases e : m = p
        · rw [e, hI_eq, hv]
        · rw [hI_ne2 (by omega)]; exact hm m (by omega))
      clear ih main
      rw [bl_170_6]
      by_cases e : p = i
      · have e1 : ((p : Int) = (i : Int)) = True := by simp; omega
        have nx := nxt 1 (by rw [pI_t e])
        simp (maxSteps := 2000000) (disch := omega) only [↓wb_const, ↓wb_lconst, ↓wb_null, ↓wb_iload, ↓wb_lload, ↓wb_aload, ↓wb_istore, ↓wb_lstore, ↓wb_astore, ↓wb_iinc, ↓wb_iand, ↓wb_ior, ↓wb_ishr, ↓wb_idiv, ↓wb_irem, ↓wb_ladd, ↓wb_lsub, ↓wb_land, ↓wb_lor, ↓wb_lxor, ↓wb_lneg, ↓wb_lushr, ↓wb_lshl, ↓wb_l2i, ↓wb_lcmp, ↓wb_dupI, ↓wb_dupR, ↓wb_dup2, ↓wb_popI, ↓wb_popR, ↓wb_getI, ↓wb_getL, ↓wb_getR, ↓wb_putI, ↓wb_putZ, ↓wb_putL, ↓wb_putR, ↓wb_iaload, ↓wb_laload, ↓wb_zaload, ↓wb_aaload, ↓wb_iastore, ↓wb_lastore, ↓wb_zastore, ↓wb_aastore, ↓wb_alen, ↓wb_newI, ↓wb_newL, ↓wb_newZ, ↓wb_newA, ↓wb_new, ↓wb_obj, ↓wb_sld, ↓wb_slen, ↓wb_goto, ↓wb_ifeq, ↓wb_iceq, ↓wb_ifne, ↓wb_icne, ↓wb_iflt, ↓wb_iclt, ↓wb_ifge, ↓wb_icge, ↓wb_ifgt, ↓wb_icgt, ↓wb_ifle, ↓wb_icle, ↓wb_ifnull, ↓wb_ifnonnull, ↓wb_ret, ↓wb_iret, ↓wb_lret, ↓wb_aret, ↓wb_zret, ↓wb_tsw0, ↓wb_tsw1, ↓wb_lsw0, ↓wb_lsw1, ↓wb_calls0, ↓wb_calls1, ↓wb_callv1, ↓wb_calls2, ↓wb_callv2, ↓wb_calls3, ↓wb_callv3, ↓wb_callv4, ↓wb_callv5, ↓wb_callv6, oB_some, ldI_z, ldI_s, ldL_z, ldL_s, ldR_z, ldR_s, ls1_z, ls1_1n, ls1_1i, ls1_1r, ls1_1l, ls1_s, ls2_z, ls2_1n, ls2_1i, ls2_1r, ls2_1l, ls2_s, List.length_cons, List.length_nil, Nat.reduceAdd, Nat.reduceLT, Nat.reduceLeDiff, Nat.reduceDiv, Nat.reduceMod, Int.reduceToNat, Int.reduceAdd, Nat.zero_add, true_and, Option.toList_some, Option.toList_none, List.cons_append, List.nil_append, true_or, or_true, and_true, false_or, or_false, Int.reduceEq, Int.reduceLT, Int.reduceLE, Int.reduceNeg, not_true_eq_false, not_false_eq_true, Bool.and_eq_true, Bool.or_eq_true, decide_eq_true_eq, ↓reduceIte, b2i_0, b2i_01, b2i_01c, Nat.add_left_cancel_iff, Nat.add_eq_left, Nat.left_eq_add, Nat.reduceEqDiff, false_and, and_false, Bool.false_eq_true, Bool.true_eq_false, ↓wr_iadd, ↓wr_isub, ↓wr_imul, wr_id, ↓wl_170_18, sm_c s2, sm_r35 s2, sm_a24 s2, sm_r15 s2, sm_a9 s2, sm_r16 s2, sm_a10 s2, c1, b1, e1, Int.toNat_natCast, isO_setI]
        rw [cS]
        exact nx
      · have e1 : ((p : Int) = (i : Int)) = False := by simp; omega
        have nx := nxt 0 (by rw [pI_f e])
        simp (maxSteps := 2000000) (disch := omega) only [↓wb_const, ↓wb_lconst, ↓wb_null, ↓wb_iload, ↓wb_lload, ↓wb_aload, ↓wb_istore, ↓wb_lstore, ↓wb_astore, ↓wb_iinc, ↓wb_iand, ↓wb_ior, ↓wb_ishr, ↓wb_idiv, ↓wb_irem, ↓wb_ladd, ↓wb_lsub, ↓wb_land, ↓wb_lor, ↓wb_lxor, ↓wb_lneg, ↓wb_lushr, ↓wb_lshl, ↓wb_l2i, ↓wb_lcmp, ↓wb_dupI, ↓wb_dupR, ↓wb_dup2, ↓wb_popI, ↓wb_popR, ↓wb_getI, ↓wb_getL, ↓wb_getR, ↓wb_putI, ↓wb_putZ, ↓wb_putL, ↓wb_putR, ↓wb_iaload, ↓wb_laload, ↓wb_zaload, ↓wb_aaload, ↓wb_iastore, ↓wb_lastore, ↓wb_zastore, ↓wb_aastore, ↓wb_alen, ↓wb_newI, ↓wb_newL, ↓wb_newZ, ↓wb_newA, ↓wb_new, ↓wb_obj, ↓wb_sld, ↓wb_slen, ↓wb_goto, ↓wb_ifeq, ↓wb_iceq, ↓wb_ifne, ↓wb_icne, ↓wb_iflt, ↓wb_iclt, ↓wb_ifge, ↓wb_icge, ↓wb_ifgt, ↓wb_icgt, ↓wb_ifle, ↓wb_icle, ↓wb_ifnull, ↓wb_ifnonnull, ↓wb_ret, ↓wb_iret, ↓wb_lret, ↓wb_aret, ↓wb_zret, ↓wb_tsw0, ↓wb_tsw1, ↓wb_lsw0, ↓wb_lsw1, ↓wb_calls0, ↓wb_calls1, ↓wb_callv1, ↓wb_calls2, ↓wb_callv2, ↓wb_calls3, ↓wb_callv3, ↓wb_callv4, ↓wb_callv5, ↓wb_callv6, oB_some, ldI_z, ldI_s, ldL_z, ldL_s, ldR_z, ldR_s, ls1_z, ls1_1n, ls1_1i, ls1_1r, ls1_1l, ls1_s, ls2_z, ls2_1n, ls2_1i, ls2_1r, ls2_1l, ls2_s, List.length_cons, List.length_nil, Nat.reduceAdd, Nat.reduceLT, Nat.reduceLeDiff, Nat.reduceDiv, Nat.reduceMod, Int.reduceToNat, Int.reduceAdd, Nat.zero_add, true_and, Option.toList_some, Option.toList_none, List.cons_append, List.nil_append, true_or, or_true, and_true, false_or, or_false, Int.reduceEq, Int.reduceLT, Int.reduceLE, Int.reduceNeg, not_true_eq_false, not_false_eq_true, Bool.and_eq_true, Bool.or_eq_true, decide_eq_true_eq, ↓reduceIte, b2i_0, b2i_01, b2i_01c, Nat.add_left_cancel_iff, Nat.add_eq_left, Nat.left_eq_add, Nat.reduceEqDiff, false_and, and_false, Bool.false_eq_true, Bool.true_eq_false, ↓wr_iadd, ↓wr_isub, ↓wr_imul, wr_id, ↓wl_170_17, ↓wl_170_18, sm_c s2, sm_r35 s2, sm_a24 s2, sm_r15 s2, sm_a9 s2, sm_r16 s2, sm_a10 s2, c1, b1, e1, Int.toNat_natCast, isO_setI]
        rw [cS]
        exact nx
  simp (maxSteps := 2000000) (disch := omega) only [↓wb_const, ↓wb_lconst, ↓wb_null, ↓wb_iload, ↓wb_lload, ↓wb_aload, ↓wb_istore, ↓wb_lstore, ↓wb_astore, ↓wb_iinc, ↓wb_iand, ↓wb_ior, ↓wb_ishr, ↓wb_idiv, ↓wb_irem, ↓wb_ladd, ↓wb_lsub, ↓wb_land, ↓wb_lor, ↓wb_lxor, ↓wb_lneg, ↓wb_lushr, ↓wb_lshl, ↓wb_l2i, ↓wb_lcmp, ↓wb_dupI, ↓wb_dupR, ↓wb_dup2, ↓wb_popI, ↓wb_popR, ↓wb_getI, ↓wb_getL, ↓wb_getR, ↓wb_putI, ↓wb_putZ, ↓wb_putL, ↓wb_putR, ↓wb_iaload, ↓wb_laload, ↓wb_zaload, ↓wb_aaload, ↓wb_iastore, ↓wb_lastore, ↓wb_zastore, ↓wb_aastore, ↓wb_alen, ↓wb_newI, ↓wb_newL, ↓wb_newZ, ↓wb_newA, ↓wb_new, ↓wb_obj, ↓wb_sld, ↓wb_slen, ↓wb_goto, ↓wb_ifeq, ↓wb_iceq, ↓wb_ifne, ↓wb_icne, ↓wb_iflt, ↓wb_iclt, ↓wb_ifge, ↓wb_icge, ↓wb_ifgt, ↓wb_icgt, ↓wb_ifle, ↓wb_icle, ↓wb_ifnull, ↓wb_ifnonnull, ↓wb_ret, ↓wb_iret, ↓wb_lret, ↓wb_aret, ↓wb_zret, ↓wb_tsw0, ↓wb_tsw1, ↓wb_lsw0, ↓wb_lsw1, ↓wb_calls0, ↓wb_calls1, ↓wb_callv1, ↓wb_calls2, ↓wb_callv2, ↓wb_calls3, ↓wb_callv3, ↓wb_callv4, ↓wb_callv5, ↓wb_callv6, oB_some, ldI_z, ldI_s, ldL_z, ldL_s, ldR_z, ldR_s, ls1_z, ls1_1n, ls1_1i, ls1_1r, ls1_1l, ls1_s, ls2_z, ls2_1n, ls2_1i, ls2_1r, ls2_1l, ls2_s, List.length_cons, List.length_nil, Nat.reduceAdd, Nat.reduceLT, Nat.reduceLeDiff, Nat.reduceDiv, Nat.reduceMod, Int.reduceToNat, Int.reduceAdd, Nat.zero_add, true_and, Option.toList_some, Option.toList_none, List.cons_append, List.nil_append, true_or, or_true, and_true, false_or, or_false, Int.reduceEq, Int.reduceLT, Int.reduceLE, Int.reduceNeg, not_true_eq_false, not_false_eq_true, Bool.and_eq_true, Bool.or_eq_true, decide_eq_true_eq, ↓reduceIte, b2i_0, b2i_01, b2i_01c, Nat.add_left_cancel_iff, Nat.add_eq_left, Nat.left_eq_add, Nat.reduceEqDiff, false_and, and_false, Bool.false_eq_true, Bool.true_eq_false, ↓wr_iadd, ↓wr_isub, ↓wr_imul, wr_id]
  exact first _ 0 h1 rfl (by omega) FR_rf (fun m q => by omega)
