/-! ===== the class: the ways of a whole program, laid once ===== -/
def WR (c : Nat) (h : Hp) (K X : Int → Int) (n p : Nat) : Prop := hI h (c + 12) p = gA K X n p ∧ hI h (c + 13) p = gS K X n p ∧ hI h (c + 14) p = gL K n p ∧ hL h (c + 15) p = nb (gA K X n p) ||| nb (gS K X n p)
def WO (c : Nat) (h : Hp) (n : Nat) : Prop := hI h (c + 11) 5 = n ∧ hI h (c + 11) 4 = e60 (bhd (cK c h) n (-1)) ∧ ∀ p : Nat, p < n → WR c h (cK c h) (cX c h) n p
theorem lyH_FR {c : Nat} {h : Hp} {n p : Nat} : FR (c + 11) (c + 15) h (lyH c h n p) := by
  unfold lyH
  exact FR_L (FR_wd L3_FR (by omega) (by omega)) (by omega) (by omega)
theorem lyH_r {c : Nat} {h : Hp} {n p : Nat} : WR c (lyH c h n p) (cK c h) (cX c h) n p := by
  unfold lyH WR
  rw [hI_setL, L3_r12, L3_r13, L3_r14, hL_setL, if_pos ⟨rfl, rfl⟩]
  exact ⟨rfl, rfl, rfl, rfl⟩
theorem lyH_q {c : Nat} {h : Hp} {n p q : Nat} {K X : Int → Int} (hq : ¬ q = p) (w : WR c h K X n q) : WR c (lyH c h n p) K X n q := by
  unfold WR at *
  have e1 : ∀ y, hI (lyH c h n p) y q = hI h y q := fun y => by unfold lyH; rw [hI_setL, L3_q hq]
  have e2 : hL (lyH c h n p) (c + 15) q = hL h (c + 15) q := by
    unfold lyH L3
    rw [hL_setL, if_neg (fun z => hq z.2), hL_setI, hL_setI, hL_setI]
  rw [e1, e1, e1, e2]
  exact w
theorem lyH_11 {c : Nat} {h : Hp} {n p j : Nat} : hI (lyH c h n p) (c + 11) j = hI h (c + 11) j := by
  unfold lyH
  rw [hI_setL, L3_ne (by omega)]
theorem pc_upW {sc : Scr} {c : Nat} {h : Hp} {Q : Option AV → Hp → Prop} {n : Nat} (pi : PI c h n) (hw : stk (cK c h) n = []) (ci : hI h (c + 11) 5 = n → WO c h n) (hQ : ∀ h2, FR (c + 11) (c + 15) h h2 → WO c h2 n → Q (some (aR (c + 11))) h2) : WC sc 70 [aR (c + 11), aR c] h Q := by
  have sp := PI_sp pi
  have n60 := PI_60 pi
  have hn := PI_n pi
  have c1 : ¬ (c + 11 == 1) = true := by simp
  rw [wc_70]
  by_cases hs : hI h (c + 11) 5 = n
  · simp (maxSteps := 2000000) (disch := omega) only [↓wb_const, ↓wb_lconst, ↓wb_null, ↓wb_iload, ↓wb_lload, ↓wb_aload, ↓wb_istore, ↓wb_lstore, ↓wb_astore, ↓wb_iinc, ↓wb_iand, ↓wb_ior, ↓wb_ishr, ↓wb_idiv, ↓wb_irem, ↓wb_ladd, ↓wb_lsub, ↓wb_land, ↓wb_lor, ↓wb_lxor, ↓wb_lneg, ↓wb_lushr, ↓wb_lshl, ↓wb_l2i, ↓wb_lcmp, ↓wb_dupI, ↓wb_dupR, ↓wb_dup2, ↓wb_popI, ↓wb_popR, ↓wb_getI, ↓wb_getL, ↓wb_getR, ↓wb_putI, ↓wb_putZ, ↓wb_putL, ↓wb_putR, ↓wb_iaload, ↓wb_laload, ↓wb_zaload, ↓wb_aaload, ↓wb_iastore, ↓wb_lastore, ↓wb_zastore, ↓wb_aastore, ↓wb_alen, ↓wb_newI, ↓wb_newL, ↓wb_newZ, ↓wb_newA, ↓wb_new, ↓wb_obj, ↓wb_sld, ↓wb_slen, ↓wb_goto, ↓wb_ifeq, ↓wb_iceq, ↓wb_ifne, ↓wb_icne, ↓wb_iflt, ↓wb_iclt, ↓wb_ifge, ↓wb_icge, ↓wb_ifgt, ↓wb_icgt, ↓wb_ifle, ↓wb_icle, ↓wb_ifnull, ↓wb_ifnonnull, ↓wb_ret, ↓wb_iret, ↓wb_lret, ↓wb_aret, ↓wb_zret, ↓wb_tsw0, ↓wb_tsw1, ↓wb_lsw0, ↓wb_lsw1, ↓wb_calls0, ↓wb_calls1, ↓wb_callv1, ↓wb_calls2, ↓wb_callv2, ↓wb_calls3, ↓wb_callv3, ↓wb_callv4, ↓wb_callv5, ↓wb_callv6, oB_some, ldI_z, ldI_s, ldL_z, ldL_s, ldR_z, ldR_s, ls1_z, ls1_1n, ls1_1i, ls1_1r, ls1_1l, ls1_s, ls2_z, ls2_1n, ls2_1i, ls2_1r, ls2_1l, ls2_s, List.length_cons, List.length_nil, Nat.reduceAdd, Nat.reduceLT, Nat.reduceLeDiff, Nat.reduceDiv, Nat.reduceMod, Int.reduceToNat, Int.reduceAdd, Nat.zero_add, true_and, Option.toList_some, Option.toList_none, List.cons_append, List.nil_append, true_or, or_true, and_true, false_or, or_false, Int.reduceEq, Int.reduceLT, Int.reduceLE, Int.reduceNeg, not_true_eq_false, not_false_eq_true, Bool.and_eq_true, Bool.or_eq_true, decide_eq_true_eq, ↓reduceIte, b2i_0, b2i_01, b2i_01c, Nat.add_left_cancel_iff, Nat.add_eq_left, Nat.left_eq_add, Nat.reduceEqDiff, false_and, and_false, Bool.false_eq_true, Bool.true_eq_false, ↓wr_iadd, ↓wr_isub, ↓wr_imul, wr_id, ↓wl_70_0, ↓wl_70_26, sp_c11 sp, sp_c sp, hn, hs]
    exact ⟨c1, hQ h FR_rf (ci hs)⟩
  · have loop : ∀ (f p : Nat) (h2 : Hp), n - p = f → p ≤ n → FR (c + 11) (c + 15) h h2 → hI h2 (c + 11) 5 = n → hI h2 (c + 11) 4 = e60 (bhd (cK c h) n (-1)) → (∀ q : Nat, q < p → WR c h2 (cK c h) (cX c h) n q) → WB sc 70 (BL 70 16) [some (aR (c + 11)), some (aR c), some (aI p)] [] h2 Q := by
      intro f
      induction f with
      | zero =>
        intro p h2 hf hp fr g5 g4 hr
        have sp2 := FR_sp fr sp
        have hn2 : hI h2 c 12 = n := by rw [FR_i fr (by omega)]; exact hn
        obtain ⟨eK, eX, -⟩ := FR_K fr (c := c) (by omega)
        have hpn : p = n := by omega
        subst hpn
        rw [bl_70_16]
        simp (maxSteps := 2000000) (disch := omega) only [↓wb_const, ↓wb_lconst, ↓wb_null, ↓wb_iload, ↓wb_lload, ↓wb_aload, ↓wb_istore, ↓wb_lstore, ↓wb_astore, ↓wb_iinc, ↓wb_iand, ↓wb_ior, ↓wb_ishr, ↓wb_idiv, ↓wb_irem, ↓wb_ladd, ↓wb_lsub, ↓wb_land, ↓wb_lor, ↓wb_lxor, ↓wb_lneg, ↓wb_lushr, ↓wb_lshl, ↓wb_l2i, ↓wb_lcmp, ↓wb_dupI, ↓wb_dupR, ↓wb_dup2, ↓wb_popI, ↓wb_popR, ↓wb_getI, ↓wb_getL, ↓wb_getR, ↓wb_putI, ↓wb_putZ, ↓wb_putL, ↓wb_putR, ↓wb_iaload, ↓wb_laload, ↓wb_zaload, ↓wb_aaload, ↓wb_iastore, ↓wb_lastore, ↓wb_zastore, ↓wb_aastore, ↓wb_alen, ↓wb_newI, ↓wb_newL, ↓wb_newZ, ↓wb_newA, ↓wb_new, ↓wb_obj, ↓wb_sld, ↓wb_slen, ↓wb_goto, ↓wb_ifeq, ↓wb_iceq, ↓wb_ifne, ↓wb_icne, ↓wb_iflt, ↓wb_iclt, ↓wb_ifge, ↓wb_icge, ↓wb_ifgt, ↓wb_icgt, ↓wb_ifle, ↓wb_icle, ↓wb_ifnull, ↓wb_ifnonnull, ↓wb_ret, ↓wb_iret, ↓wb_lret, ↓wb_aret, ↓wb_zret, ↓wb_tsw0, ↓wb_tsw1, ↓wb_lsw0, ↓wb_lsw1, ↓wb_calls0, ↓wb_calls1, ↓wb_callv1, ↓wb_calls2, ↓wb_callv2, ↓wb_calls3, ↓wb_callv3, ↓wb_callv4, ↓wb_callv5, ↓wb_callv6, oB_some, ldI_z, ldI_s, ldL_z, ldL_s, ldR_z, ldR_s, ls1_z, ls1_1n, ls1_1i, ls1_1r, ls1_1l, ls1_s, ls2_z, ls2_1n, ls2_1i, ls2_1r, ls2_1l, ls2_s, List.length_cons, List.length_nil, Nat.reduceAdd, Nat.reduceLT, Nat.reduceLeDiff, Nat.reduceDiv, Nat.reduceMod, Int.reduceToNat, Int.reduceAdd, Nat.zero_add, true_and, Option.toList_some, Option.toList_none, List.cons_append, List.nil_append, true_or, or_true, and_true, false_or, or_false, Int.reduceEq, Int.reduceLT, Int.reduceLE, Int.reduceNeg, not_true_eq_false, not_false_eq_true, Bool.and_eq_true, Bool.or_eq_true, decide_eq_true_eq, ↓reduceIte, b2i_0, b2i_01, b2i_01c, Nat.add_left_cancel_iff, Nat.add_eq_left, Nat.left_eq_add, Nat.reduceEqDiff, false_and, and_false, Bool.false_eq_true, Bool.true_eq_false, ↓wr_iadd, ↓wr_isub, ↓wr_imul, wr_id, ↓wl_70_26, sp_c11 sp2, sp_c sp2, hn2]
        rw [if_pos (Int.le_refl _)]
        exact ⟨c1, hQ h2 fr ⟨g5, by rw [eK]; exact g4, fun q hq => by rw [eK, eX]; exact hr q hq⟩⟩
      | succ f ih =>
        intro p h2 hf hp fr g5 g4 hr
        have sp2 := FR_sp fr sp
        have hn2 : hI h2 c 12 = n := by rw [FR_i fr (by omega)]; exact hn
        obtain ⟨eK, eX, -⟩ := FR_K fr (c := c) (by omega)
        have pi2 : PI c h2 n := FR_pi fr (by omega) pi
        rw [bl_70_16]
        have c3 : ¬ (n : Int) ≤ p := by omega
        simp (maxSteps := 2000000) (disch := omega) only [↓wb_const, ↓wb_lconst, ↓wb_null, ↓wb_iload, ↓wb_lload, ↓wb_aload, ↓wb_istore, ↓wb_lstore, ↓wb_astore, ↓wb_iinc, ↓wb_iand, ↓wb_ior, ↓wb_ishr, ↓wb_idiv, ↓wb_irem, ↓wb_ladd, ↓wb_lsub, ↓wb_land, ↓wb_lor, ↓wb_lxor, ↓wb_lneg, ↓wb_lushr, ↓wb_lshl, ↓wb_l2i, ↓wb_lcmp, ↓wb_dupI, ↓wb_dupR, ↓wb_dup2, ↓wb_popI, ↓wb_popR, ↓wb_getI, ↓wb_getL, ↓wb_getR, ↓wb_putI, ↓wb_putZ, ↓wb_putL, ↓wb_putR, ↓wb_iaload, ↓wb_laload, ↓wb_zaload, ↓wb_aaload, ↓wb_iastore, ↓wb_lastore, ↓wb_zastore, ↓wb_aastore, ↓wb_alen, ↓wb_newI, ↓wb_newL, ↓wb_newZ, ↓wb_newA, ↓wb_new, ↓wb_obj, ↓wb_sld, ↓wb_slen, ↓wb_goto, ↓wb_ifeq, ↓wb_iceq, ↓wb_ifne, ↓wb_icne, ↓wb_iflt, ↓wb_iclt, ↓wb_ifge, ↓wb_icge, ↓wb_ifgt, ↓wb_icgt, ↓wb_ifle, ↓wb_icle, ↓wb_ifnull, ↓wb_ifnonnull, ↓wb_ret, ↓wb_iret, ↓wb_lret, ↓wb_aret, ↓wb_zret, ↓wb_tsw0, ↓wb_tsw1, ↓wb_lsw0, ↓wb_lsw1, ↓wb_calls0, ↓wb_calls1, ↓wb_callv1, ↓wb_calls2, ↓wb_callv2, ↓wb_calls3, ↓wb_callv3, ↓wb_callv4, ↓wb_callv5, ↓wb_callv6, oB_some, ldI_z, ldI_s, ldL_z, ldL_s, ldR_z, ldR_s, ls1_z, ls1_1n, ls1_1i, ls1_1r, ls1_1l, ls1_s, ls2_z, ls2_1n, ls2_1i, ls2_1r, ls2_1l, ls2_s, List.length_cons, List.length_nil, Nat.reduceAdd, Nat.reduceLT, Nat.reduceLeDiff, Nat.reduceDiv, Nat.reduceMod, Int.reduceToNat, Int.reduceAdd, Nat.zero_add, true_and, Option.toList_some, Option.toList_none, List.cons_append, List.nil_append, true_or, or_true, and_true, false_or, or_false, Int.reduceEq, Int.reduceLT, Int.reduceLE, Int.reduceNeg, not_true_eq_false, not_false_eq_true, Bool.and_eq_true, Bool.or_eq_true, decide_eq_true_eq, ↓reduceIte, b2i_0, b2i_01, b2i_01c, Nat.add_left_cancel_iff, Nat.add_eq_left, Nat.left_eq_add, Nat.reduceEqDiff, false_and, and_false, Bool.false_eq_true, Bool.true_eq_false, ↓wr_iadd, ↓wr_isub, ↓wr_imul, wr_id, sp_c11 sp2, sp_c sp2, hn2, c3, ↓pc_layFrom pi2 (by rw [eK]; exact hw) (show p < n by omega)]
        have ih := ih (p + 1) (lyH c h2 n p) (by omega) (by omega) (FR_tr fr lyH_FR) (by rw [lyH_11]; exact g5) (by rw [lyH_11]; exact g4) (fun q hq => by
          by_cases e : q = p
          · subst e
            have := lyH_r (c := c) (h := h2) (n := n) (p := q)
            rw [eK, eX] at this
            exact this
          · exact lyH_q e (hr q (by omega)))
        rw [show ((p + 1 : Nat) : Int) = (p : Int) + 1 by omega] at ih
        exact ih
    have fr1 : FR (c + 11) (c + 15) h (setI h (c + 11) 5 n) := FR_I FR_rf (by omega) (by omega)
    have pi1 : PI c (setI h (c + 11) 5 n) n := FR_pi fr1 (by omega) pi
    have eK1 := (FR_K fr1 (c := c) (by omega)).1
    have pb := fun (Q : Option AV → Hp → Prop) => pc_behind (sc := sc) (Q := Q) (p := -1) pi1 (by rw [eK1]; exact hw) (by omega) (by omega)
    rw [eK1] at pb
    simp (maxSteps := 2000000) (disch := omega) only [↓wb_const, ↓wb_lconst, ↓wb_null, ↓wb_iload, ↓wb_lload, ↓wb_aload, ↓wb_istore, ↓wb_lstore, ↓wb_astore, ↓wb_iinc, ↓wb_iand, ↓wb_ior, ↓wb_ishr, ↓wb_idiv, ↓wb_irem, ↓wb_ladd, ↓wb_lsub, ↓wb_land, ↓wb_lor, ↓wb_lxor, ↓wb_lneg, ↓wb_lushr, ↓wb_lshl, ↓wb_l2i, ↓wb_lcmp, ↓wb_dupI, ↓wb_dupR, ↓wb_dup2, ↓wb_popI, ↓wb_popR, ↓wb_getI, ↓wb_getL, ↓wb_getR, ↓wb_putI, ↓wb_putZ, ↓wb_putL, ↓wb_putR, ↓wb_iaload, ↓wb_laload, ↓wb_zaload, ↓wb_aaload, ↓wb_iastore, ↓wb_lastore, ↓wb_zastore, ↓wb_aastore, ↓wb_alen, ↓wb_newI, ↓wb_newL, ↓wb_newZ, ↓wb_newA, ↓wb_new, ↓wb_obj, ↓wb_sld, ↓wb_slen, ↓wb_goto, ↓wb_ifeq, ↓wb_iceq, ↓wb_ifne, ↓wb_icne, ↓wb_iflt, ↓wb_iclt, ↓wb_ifge, ↓wb_icge, ↓wb_ifgt, ↓wb_icgt, ↓wb_ifle, ↓wb_icle, ↓wb_ifnull, ↓wb_ifnonnull, ↓wb_ret, ↓wb_iret, ↓wb_lret, ↓wb_aret, ↓wb_zret, ↓wb_tsw0, ↓wb_tsw1, ↓wb_lsw0, ↓wb_lsw1, ↓wb_calls0, ↓wb_calls1, ↓wb_callv1, ↓wb_calls2, ↓wb_callv2, ↓wb_calls3, ↓wb_callv3, ↓wb_callv4, ↓wb_callv5, ↓wb_callv6, oB_some, ldI_z, ldI_s, ldL_z, ldL_s, ldR_z, ldR_s, ls1_z, ls1_1n, ls1_1i, ls1_1r, ls1_1l, ls1_s, ls2_z, ls2_1n, ls2_1i, ls2_1r, ls2_1l, ls2_s, List.length_cons, List.length_nil, Nat.reduceAdd, Nat.reduceLT, Nat.reduceLeDiff, Nat.reduceDiv, Nat.reduceMod, Int.reduceToNat, Int.reduceAdd, Nat.zero_add, true_and, Option.toList_some, Option.toList_none, List.cons_append, List.nil_append, true_or, or_true, and_true, false_or, or_false, Int.reduceEq, Int.reduceLT, Int.reduceLE, Int.reduceNeg, not_true_eq_false, not_false_eq_true, Bool.and_eq_true, Bool.or_eq_true, decide_eq_true_eq, ↓reduceIte, b2i_0, b2i_01, b2i_01c, Nat.add_left_cancel_iff, Nat.add_eq_left, Nat.left_eq_add, Nat.reduceEqDiff, false_and, and_false, Bool.false_eq_true, Bool.true_eq_false, ↓wr_iadd, ↓wr_isub, ↓wr_imul, wr_id, ↓wl_70_0, sp_c11 sp, sp_c sp, hn, hs, isO_setI, ↓pb]
    have e0 : ((0 : Nat) : Int) = 0 := rfl
    have l0 := loop n 0 (setI (setI h (c + 11) 5 n) (c + 11) 4 (e60 (bhd (cK c h) n (-1)))) (by omega) (by omega) (FR_I fr1 (by omega) (by omega)) (by rw [hI_ne2 (by omega), hI_eq]) (by rw [hI_eq]) (fun q hq => by omega)
    exact l0
/-! the class's ways are the reference's -/
theorem stm_n {K : Int → Int} {n p : Int} (h : stm K n p = true) : (0 ≤ p ∧ p < n) ∧ ¬ K p = 4 ∧ ¬ K p = 6 := by
  simp only [stm, Bool.and_eq_true, decide_eq_true_eq] at h
  exact ⟨⟨h.1, h.2.1⟩, h.2.2.1, h.2.2.2⟩
theorem gA_y {K X : Int → Int} {n p : Int} (h : stm K n p = true) : gA K X n p = e60 (yes_ K X n p) := by
  unfold gA yes_
  rw [if_pos h]
  by_cases k7 : K p = 7
  · rw [if_pos k7, if_pos k7]
  · rw [if_neg k7, if_neg k7]
    by_cases k8 : K p = 8
    · rw [if_pos k8, if_pos k8]; rfl
    · rw [if_neg k8, if_neg k8]
theorem gS_y {K X E : Int → Int} {n p : Nat} (w : WF K X E n) (h : stm K n p = true) : gS K X n p = if K p = 3 ∨ K p = 5 then e60 (no_ K n p) else e60 (yes_ K X n p) := by
  unfold gS
  by_cases k : K p = 3 ∨ K p = 5
  · rw [if_pos k, if_pos k]
    have e : no_ K n p = bhd K n (if K p = 3 ∧ 0 ≤ els K n p then els K n p else clo K n p) := if_pos ⟨h, k⟩
    rw [e]
    congr 2
    by_cases k3 : K p = 3
    · simp [k3]
    · have k5 : K p = 5 := by omega
      rw [els_while w (by have := (stm_n h).1; omega) k5]
      simp [k3]
  · rw [if_neg k, if_neg k]; exact gA_y h
theorem gL_y {K X E : Int → Int} {n p : Nat} (w : WF K X E n) (h : stm K n p = true) : gL K n p = if K p = 3 ∨ K p = 5 then e60 (no_ K n p) else if K p = 7 ∨ K p = 8 then e60 (loo_ K n p) else e60 (yes_ K X n p) := by
  by_cases k : K p = 3 ∨ K p = 5
  · have e := gS_y w h
    rw [if_pos k] at e ⊢
    rw [← e]
    unfold gL gS
    rw [if_pos k, if_pos k]
  · unfold gL
    rw [if_neg k, if_neg k]
    by_cases k7 : K p = 7 ∨ K p = 8
    · rw [if_pos k7]; unfold loo_; rw [if_pos ⟨h, k7⟩]
    · rw [if_neg k7]; unfold yes_; rw [if_pos h, if_neg (by omega), if_neg (by omega)]
