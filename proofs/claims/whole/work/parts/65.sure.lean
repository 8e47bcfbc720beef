/-! ===== the class: Arrays.fill, sureFrom, findSure ===== -/
theorem cc_fillL {sc : Scr} {x m : Nat} {h : Hp} {v : BitVec 64} {Q : Option AV → Hp → Prop} (ht : hT h x = (2, m)) (hm : m ≤ 10000) (hQ : ∀ h2, FR x x h h2 → hI h2 x = hI h x → (∀ j, hL h2 x j = if j < m then v else hL h x j) → Q none h2) : WC sc 175 [aR x, aL v] h Q := by
  have loop : ∀ (f p : Nat) (h2 : Hp), m - p = f → p ≤ m → FR x x h h2 → hI h2 x = hI h x → (∀ j, hL h2 x j = if j < p then v else hL h x j) → WB sc 175 (BL 175 5) [some (aR x), some (aL v), none, some (aI p), some (aI m)] [] h2 Q := by
    intro f
    induction f with
    | zero =>
      intro p h2 hf hp fr hi hr
      have : p = m := by omega
      subst this
      rw [bl_175_5]
      have c1 : ((p : Int) ≤ p) = True := by simp
      simp (maxSteps := 2000000) (disch := omega) only [↓wb_const, ↓wb_lconst, ↓wb_null, ↓wb_iload, ↓wb_lload, ↓wb_aload, ↓wb_istore, ↓wb_lstore, ↓wb_astore, ↓wb_iinc, ↓wb_iand, ↓wb_ior, ↓wb_ishr, ↓wb_idiv, ↓wb_irem, ↓wb_ladd, ↓wb_lsub, ↓wb_land, ↓wb_lor, ↓wb_lxor, ↓wb_lneg, ↓wb_lushr, ↓wb_lshl, ↓wb_l2i, ↓wb_lcmp, ↓wb_dupI, ↓wb_dupR, ↓wb_dup2, ↓wb_popI, ↓wb_popR, ↓wb_getI, ↓wb_getL, ↓wb_getR, ↓wb_putI, ↓wb_putZ, ↓wb_putL, ↓wb_putR, ↓wb_iaload, ↓wb_laload, ↓wb_zaload, ↓wb_aaload, ↓wb_iastore, ↓wb_lastore, ↓wb_zastore, ↓wb_aastore, ↓wb_alen, ↓wb_newI, ↓wb_newL, ↓wb_newZ, ↓wb_newA, ↓wb_new, ↓wb_obj, ↓wb_sld, ↓wb_slen, ↓wb_goto, ↓wb_ifeq, ↓wb_iceq, ↓wb_ifne, ↓wb_icne, ↓wb_iflt, ↓wb_iclt, ↓wb_ifge, ↓wb_icge, ↓wb_ifgt, ↓wb_icgt, ↓wb_ifle, ↓wb_icle, ↓wb_ifnull, ↓wb_ifnonnull, ↓wb_ret, ↓wb_iret, ↓wb_lret, ↓wb_aret, ↓wb_zret, ↓wb_tsw0, ↓wb_tsw1, ↓wb_lsw0, ↓wb_lsw1, ↓wb_calls0, ↓wb_calls1, ↓wb_callv1, ↓wb_calls2, ↓wb_callv2, ↓wb_calls3, ↓wb_callv3, ↓wb_callv4, ↓wb_callv5, ↓wb_callv6, oB_some, ldI_z, ldI_s, ldL_z, ldL_s, ldR_z, ldR_s, ls1_z, ls1_1n, ls1_1i, ls1_1r, ls1_1l, ls1_s, ls2_z, ls2_1n, ls2_1i, ls2_1r, ls2_1l, ls2_s, List.length_cons, List.length_nil, Nat.reduceAdd, Nat.reduceLT, Nat.reduceLeDiff, Nat.reduceDiv, Nat.reduceMod, Int.reduceToNat, Int.reduceAdd, Nat.zero_add, true_and, Option.toList_some, Option.toList_none, List.cons_append, List.nil_append, true_or, or_true, and_true, false_or, or_false, Int.reduceEq, Int.reduceLT, Int.reduceLE, Int.reduceNeg, not_true_eq_false, not_false_eq_true, Bool.and_eq_true, Bool.or_eq_true, decide_eq_true_eq, ↓reduceIte, b2i_0, b2i_01, b2i_01c, Nat.add_left_cancel_iff, Nat.add_eq_left, Nat.left_eq_add, Nat.reduceEqDiff, false_and, and_false, Bool.false_eq_true, Bool.true_eq_false, ↓wr_iadd, ↓wr_isub, ↓wr_imul, wr_id, ↓wl_175_14, c1]
      exact hQ h2 fr hi hr
    | succ f ih =>
      intro p h2 hf hp fr hi hr
      rw [bl_175_5]
      have c1 : ¬ (m : Int) ≤ p := by omega
      have ha : ∀ i : Int, inA h2 x 2 i = (decide (0 ≤ i) && decide (i < (m : Int))) := fun i => inA_of (by rw [fr.2.1]; exact ht)
      have b1 : (0 ≤ (p : Int) ∧ (p : Int) < m) = True := by simp; omega
      have ih := ih (p + 1) (setL h2 x p v) (by omega) (by omega) (FR_L fr (Nat.le_refl _) (Nat.le_refl _)) (by rw [hI_setL]; exact hi) (fun j => by
        rw [hL_setL, hr]
        by_cases e : j = p
        · subst e; rw [if_pos ⟨rfl, rfl⟩, if_pos (by omega)]
        · rw [if_neg (fun z => e z.2)]
          by_cases e2 : j < p
          · rw [if_pos e2, if_pos (by omega)]
          · rw [if_neg e2, if_neg (by omega)])
      rw [show ((p + 1 : Nat) : Int) = (p : Int) + 1 by omega] at ih
      simp (maxSteps := 2000000) (disch := omega) only [↓wb_const, ↓wb_lconst, ↓wb_null, ↓wb_iload, ↓wb_lload, ↓wb_aload, ↓wb_istore, ↓wb_lstore, ↓wb_astore, ↓wb_iinc, ↓wb_iand, ↓wb_ior, ↓wb_ishr, ↓wb_idiv, ↓wb_irem, ↓wb_ladd, ↓wb_lsub, ↓wb_land, ↓wb_lor, ↓wb_lxor, ↓wb_lneg, ↓wb_lushr, ↓wb_lshl, ↓wb_l2i, ↓wb_lcmp, ↓wb_dupI, ↓wb_dupR, ↓wb_dup2, ↓wb_popI, ↓wb_popR, ↓wb_getI, ↓wb_getL, ↓wb_getR, ↓wb_putI, ↓wb_putZ, ↓wb_putL, ↓wb_putR, ↓wb_iaload, ↓wb_laload, ↓wb_zaload, ↓wb_aaload, ↓wb_iastore, ↓wb_lastore, ↓wb_zastore, ↓wb_aastore, ↓wb_alen, ↓wb_newI, ↓wb_newL, ↓wb_newZ, ↓wb_newA, ↓wb_new, ↓wb_obj, ↓wb_sld, ↓wb_slen, ↓wb_goto, ↓wb_ifeq, ↓wb_iceq, ↓wb_ifne, ↓wb_icne, ↓wb_iflt, ↓wb_iclt, ↓wb_ifge, ↓wb_icge, ↓wb_ifgt, ↓wb_icgt, ↓wb_ifle, ↓wb_icle, ↓wb_ifnull, ↓wb_ifnonnull, ↓wb_ret, ↓wb_iret, ↓wb_lret, ↓wb_aret, ↓wb_zret, ↓wb_tsw0, ↓wb_tsw1, ↓wb_lsw0, ↓wb_lsw1, ↓wb_calls0, ↓wb_calls1, ↓wb_callv1, ↓wb_calls2, ↓wb_callv2, ↓wb_calls3, ↓wb_callv3, ↓wb_callv4, ↓wb_callv5, ↓wb_callv6, oB_some, ldI_z, ldI_s, ldL_z, ldL_s, ldR_z, ldR_s, ls1_z, ls1_1n, ls1_1i, ls1_1r, ls1_1l, ls1_s, ls2_z, ls2_1n, ls2_1i, ls2_1r, ls2_1l, ls2_s, List.length_cons, List.length_nil, Nat.reduceAdd, Nat.reduceLT, Nat.reduceLeDiff, Nat.reduceDiv, Nat.reduceMod, Int.reduceToNat, Int.reduceAdd, Nat.zero_add, true_and, Option.toList_some, Option.toList_none, List.cons_append, List.nil_append, true_or, or_true, and_true, false_or, or_false, Int.reduceEq, Int.reduceLT, Int.reduceLE, Int.reduceNeg, not_true_eq_false, not_false_eq_true, Bool.and_eq_true, Bool.or_eq_true, decide_eq_true_eq, ↓reduceIte, b2i_0, b2i_01, b2i_01c, Nat.add_left_cancel_iff, Nat.add_eq_left, Nat.left_eq_add, Nat.reduceEqDiff, false_and, and_false, Bool.false_eq_true, Bool.true_eq_false, ↓wr_iadd, ↓wr_isub, ↓wr_imul, wr_id, c1, ha, b1, Int.toNat_natCast]
      exact ih
  rw [wc_175]
  have e1 : (hT h x).1 = 2 := by rw [ht]
  have e2 : (hT h x).2 = m := by rw [ht]
  simp (maxSteps := 2000000) (disch := omega) only [↓wb_const, ↓wb_lconst, ↓wb_null, ↓wb_iload, ↓wb_lload, ↓wb_aload, ↓wb_istore, ↓wb_lstore, ↓wb_astore, ↓wb_iinc, ↓wb_iand, ↓wb_ior, ↓wb_ishr, ↓wb_idiv, ↓wb_irem, ↓wb_ladd, ↓wb_lsub, ↓wb_land, ↓wb_lor, ↓wb_lxor, ↓wb_lneg, ↓wb_lushr, ↓wb_lshl, ↓wb_l2i, ↓wb_lcmp, ↓wb_dupI, ↓wb_dupR, ↓wb_dup2, ↓wb_popI, ↓wb_popR, ↓wb_getI, ↓wb_getL, ↓wb_getR, ↓wb_putI, ↓wb_putZ, ↓wb_putL, ↓wb_putR, ↓wb_iaload, ↓wb_laload, ↓wb_zaload, ↓wb_aaload, ↓wb_iastore, ↓wb_lastore, ↓wb_zastore, ↓wb_aastore, ↓wb_alen, ↓wb_newI, ↓wb_newL, ↓wb_newZ, ↓wb_newA, ↓wb_new, ↓wb_obj, ↓wb_sld, ↓wb_slen, ↓wb_goto, ↓wb_ifeq, ↓wb_iceq, ↓wb_ifne, ↓wb_icne, ↓wb_iflt, ↓wb_iclt, ↓wb_ifge, ↓wb_icge, ↓wb_ifgt, ↓wb_icgt, ↓wb_ifle, ↓wb_icle, ↓wb_ifnull, ↓wb_ifnonnull, ↓wb_ret, ↓wb_iret, ↓wb_lret, ↓wb_aret, ↓wb_zret, ↓wb_tsw0, ↓wb_tsw1, ↓wb_lsw0, ↓wb_lsw1, ↓wb_calls0, ↓wb_calls1, ↓wb_callv1, ↓wb_calls2, ↓wb_callv2, ↓wb_calls3, ↓wb_callv3, ↓wb_callv4, ↓wb_callv5, ↓wb_callv6, oB_some, ldI_z, ldI_s, ldL_z, ldL_s, ldR_z, ldR_s, ls1_z, ls1_1n, ls1_1i, ls1_1r, ls1_1l, ls1_s, ls2_z, ls2_1n, ls2_1i, ls2_1r, ls2_1l, ls2_s, List.length_cons, List.length_nil, Nat.reduceAdd, Nat.reduceLT, Nat.reduceLeDiff, Nat.reduceDiv, Nat.reduceMod, Int.reduceToNat, Int.reduceAdd, Nat.zero_add, true_and, Option.toList_some, Option.toList_none, List.cons_append, List.nil_append, true_or, or_true, and_true, false_or, or_false, Int.reduceEq, Int.reduceLT, Int.reduceLE, Int.reduceNeg, not_true_eq_false, not_false_eq_true, Bool.and_eq_true, Bool.or_eq_true, decide_eq_true_eq, ↓reduceIte, b2i_0, b2i_01, b2i_01c, Nat.add_left_cancel_iff, Nat.add_eq_left, Nat.left_eq_add, Nat.reduceEqDiff, false_and, and_false, Bool.false_eq_true, Bool.true_eq_false, ↓wr_iadd, ↓wr_isub, ↓wr_imul, wr_id, ↓wl_175_0, e1, e2, Nat.reduceLeDiff, decide_true, Bool.and_self]
  exact loop m 0 h (by omega) (by omega) FR_rf rfl (fun j => by rw [if_neg (by omega)])
theorem cc_fillI {sc : Scr} {x m : Nat} {h : Hp} {v : Int} {Q : Option AV → Hp → Prop} (ht : hT h x = (1, m)) (hm : m ≤ 10000) (hQ : ∀ h2, FR x x h h2 → hL h2 x = hL h x → (∀ j, hI h2 x j = if j < m then v else hI h x j) → Q none h2) : WC sc 176 [aR x, aI v] h Q := by
  have loop : ∀ (f p : Nat) (h2 : Hp), m - p = f → p ≤ m → FR x x h h2 → hL h2 x = hL h x → (∀ j, hI h2 x j = if j < p then v else hI h x j) → WB sc 176 (BL 176 5) [some (aR x), some (aI v), some (aI p), some (aI m)] [] h2 Q := by
    intro f
    induction f with
    | zero =>
      intro p h2 hf hp fr hi hr
      have : p = m := by omega
      subst this
      rw [bl_176_5]
      have c1 : ((p : Int) ≤ p) = True := by simp
      simp (maxSteps := 2000000) (disch := omega) only [↓wb_const, ↓wb_lconst, ↓wb_null, ↓wb_iload, ↓wb_lload, ↓wb_aload, ↓wb_istore, ↓wb_lstore, ↓wb_astore, ↓wb_iinc, ↓wb_iand, ↓wb_ior, ↓wb_ishr, ↓wb_idiv, ↓wb_irem, ↓wb_ladd, ↓wb_lsub, ↓wb_land, ↓wb_lor, ↓wb_lxor, ↓wb_lneg, ↓wb_lushr, ↓wb_lshl, ↓wb_l2i, ↓wb_lcmp, ↓wb_dupI, ↓wb_dupR, ↓wb_dup2, ↓wb_popI, ↓wb_popR, ↓wb_getI, ↓wb_getL, ↓wb_getR, ↓wb_putI, ↓wb_putZ, ↓wb_putL, ↓wb_putR, ↓wb_iaload, ↓wb_laload, ↓wb_zaload, ↓wb_aaload, ↓wb_iastore, ↓wb_lastore, ↓wb_zastore, ↓wb_aastore, ↓wb_alen, ↓wb_newI, ↓wb_newL, ↓wb_newZ, ↓wb_newA, ↓wb_new, ↓wb_obj, ↓wb_sld, ↓wb_slen, ↓wb_goto, ↓wb_ifeq, ↓wb_iceq, ↓wb_ifne, ↓wb_icne, ↓wb_iflt, ↓wb_iclt, ↓wb_ifge, ↓wb_icge, ↓wb_ifgt, ↓wb_icgt, ↓wb_ifle, ↓wb_icle, ↓wb_ifnull, ↓wb_ifnonnull, ↓wb_ret, ↓wb_iret, ↓wb_lret, ↓wb_aret, ↓wb_zret, ↓wb_tsw0, ↓wb_tsw1, ↓wb_lsw0, ↓wb_lsw1, ↓wb_calls0, ↓wb_calls1, ↓wb_callv1, ↓wb_calls2, ↓wb_callv2, ↓wb_calls3, ↓wb_callv3, ↓wb_callv4, ↓wb_callv5, ↓wb_callv6, oB_some, ldI_z, ldI_s, ldL_z, ldL_s, ldR_z, ldR_s, ls1_z, ls1_1n, ls1_1i, ls1_1r, ls1_1l, ls1_s, ls2_z, ls2_1n, ls2_1i, ls2_1r, ls2_1l, ls2_s, List.length_cons, List.length_nil, Nat.reduceAdd, Nat.reduceLT, Nat.reduceLeDiff, Nat.reduceDiv, Nat.reduceMod, Int.reduceToNat, Int.reduceAdd, Nat.zero_add, true_and, Option.toList_some, Option.toList_none, List.cons_append, List.nil_append, true_or, or_true, and_true, false_or, or_false, Int.reduceEq, Int.reduceLT, Int.reduceLE, Int.reduceNeg, not_true_eq_false, not_false_eq_true, Bool.and_eq_true, Bool.or_eq_true, decide_eq_true_eq, ↓reduceIte, b2i_0, b2i_01, b2i_01c, Nat.add_left_cancel_iff, Nat.add_eq_left, Nat.left_eq_add, Nat.reduceEqDiff, false_and, and_false, Bool.false_eq_true, Bool.true_eq_false, ↓wr_iadd, ↓wr_isub, ↓wr_imul, wr_id, ↓wl_176_14, c1]
      exact hQ h2 fr hi hr
    | succ f ih =>
      intro p h2 hf hp fr hi hr
      rw [bl_176_5]
      have c1 : ¬ (m : Int) ≤ p := by omega
      have ha : ∀ i : Int, inA h2 x 1 i = (decide (0 ≤ i) && decide (i < (m : Int))) := fun i => inA_of (by rw [fr.2.1]; exact ht)
      have b1 : (0 ≤ (p : Int) ∧ (p : Int) < m) = True := by simp; omega
      have ih := ih (p + 1) (setI h2 x p v) (by omega) (by omega) (FR_I fr (Nat.le_refl _) (Nat.le_refl _)) (by rw [hL_setI]; exact hi) (fun j => by
        rw [hI_setI, hr]
        by_cases e : j = p
        · subst e; rw [if_pos ⟨rfl, rfl⟩, if_pos (by omega)]
        · rw [if_neg (fun z => e z.2)]
          by_cases e2 : j < p
          · rw [if_pos e2, if_pos (by omega)]
          · rw [if_neg e2, if_neg (by omega)])
      rw [show ((p + 1 : Nat) : Int) = (p : Int) + 1 by omega] at ih
      simp (maxSteps := 2000000) (disch := omega) only [↓wb_const, ↓wb_lconst, ↓wb_null, ↓wb_iload, ↓wb_lload, ↓wb_aload, ↓wb_istore, ↓wb_lstore, ↓wb_astore, ↓wb_iinc, ↓wb_iand, ↓wb_ior, ↓wb_ishr, ↓wb_idiv, ↓wb_irem, ↓wb_ladd, ↓wb_lsub, ↓wb_land, ↓wb_lor, ↓wb_lxor, ↓wb_lneg, ↓wb_lushr, ↓wb_lshl, ↓wb_l2i, ↓wb_lcmp, ↓wb_dupI, ↓wb_dupR, ↓wb_dup2, ↓wb_popI, ↓wb_popR, ↓wb_getI, ↓wb_getL, ↓wb_getR, ↓wb_putI, ↓wb_putZ, ↓wb_putL, ↓wb_putR, ↓wb_iaload, ↓wb_laload, ↓wb_zaload, ↓wb_aaload, ↓wb_iastore, ↓wb_lastore, ↓wb_zastore, ↓wb_aastore, ↓wb_alen, ↓wb_newI, ↓wb_newL, ↓wb_newZ, ↓wb_newA, ↓wb_new, ↓wb_obj, ↓wb_sld, ↓wb_slen, ↓wb_goto, ↓wb_ifeq, ↓wb_iceq, ↓wb_ifne, ↓wb_icne, ↓wb_iflt, ↓wb_iclt, ↓wb_ifge, ↓wb_icge, ↓wb_ifgt, ↓wb_icgt, ↓wb_ifle, ↓wb_icle, ↓wb_ifnull, ↓wb_ifnonnull, ↓wb_ret, ↓wb_iret, ↓wb_lret, ↓wb_aret, ↓wb_zret, ↓wb_tsw0, ↓wb_tsw1, ↓wb_lsw0, ↓wb_lsw1, ↓wb_calls0, ↓wb_calls1, ↓wb_callv1, ↓wb_calls2, ↓wb_callv2, ↓wb_calls3, ↓wb_callv3, ↓wb_callv4, ↓wb_callv5, ↓wb_callv6, oB_some, ldI_z, ldI_s, ldL_z, ldL_s, ldR_z, ldR_s, ls1_z, ls1_1n, ls1_1i, ls1_1r, ls1_1l, ls1_s, ls2_z, ls2_1n, ls2_1i, ls2_1r, ls2_1l, ls2_s, List.length_cons, List.length_nil, Nat.reduceAdd, Nat.reduceLT, Nat.reduceLeDiff, Nat.reduceDiv, Nat.reduceMod, Int.reduceToNat, Int.reduceAdd, Nat.zero_add, true_and, Option.toList_some, Option.toList_none, List.cons_append, List.nil_append, true_or, or_true, and_true, false_or, or_false, Int.reduceEq, Int.reduceLT, Int.reduceLE, Int.reduceNeg, not_true_eq_false, not_false_eq_true, Bool.and_eq_true, Bool.or_eq_true, decide_eq_true_eq, ↓reduceIte, b2i_0, b2i_01, b2i_01c, Nat.add_left_cancel_iff, Nat.add_eq_left, Nat.left_eq_add, Nat.reduceEqDiff, false_and, and_false, Bool.false_eq_true, Bool.true_eq_false, ↓wr_iadd, ↓wr_isub, ↓wr_imul, wr_id, c1, ha, b1, Int.toNat_natCast]
      exact ih
  rw [wc_176]
  have e1 : (hT h x).1 = 1 := by rw [ht]
  have e2 : (hT h x).2 = m := by rw [ht]
  simp (maxSteps := 2000000) (disch := omega) only [↓wb_const, ↓wb_lconst, ↓wb_null, ↓wb_iload, ↓wb_lload, ↓wb_aload, ↓wb_istore, ↓wb_lstore, ↓wb_astore, ↓wb_iinc, ↓wb_iand, ↓wb_ior, ↓wb_ishr, ↓wb_idiv, ↓wb_irem, ↓wb_ladd, ↓wb_lsub, ↓wb_land, ↓wb_lor, ↓wb_lxor, ↓wb_lneg, ↓wb_lushr, ↓wb_lshl, ↓wb_l2i, ↓wb_lcmp, ↓wb_dupI, ↓wb_dupR, ↓wb_dup2, ↓wb_popI, ↓wb_popR, ↓wb_getI, ↓wb_getL, ↓wb_getR, ↓wb_putI, ↓wb_putZ, ↓wb_putL, ↓wb_putR, ↓wb_iaload, ↓wb_laload, ↓wb_zaload, ↓wb_aaload, ↓wb_iastore, ↓wb_lastore, ↓wb_zastore, ↓wb_aastore, ↓wb_alen, ↓wb_newI, ↓wb_newL, ↓wb_newZ, ↓wb_newA, ↓wb_new, ↓wb_obj, ↓wb_sld, ↓wb_slen, ↓wb_goto, ↓wb_ifeq, ↓wb_iceq, ↓wb_ifne, ↓wb_icne, ↓wb_iflt, ↓wb_iclt, ↓wb_ifge, ↓wb_icge, ↓wb_ifgt, ↓wb_icgt, ↓wb_ifle, ↓wb_icle, ↓wb_ifnull, ↓wb_ifnonnull, ↓wb_ret, ↓wb_iret, ↓wb_lret, ↓wb_aret, ↓wb_zret, ↓wb_tsw0, ↓wb_tsw1, ↓wb_lsw0, ↓wb_lsw1, ↓wb_calls0, ↓wb_calls1, ↓wb_callv1, ↓wb_calls2, ↓wb_callv2, ↓wb_calls3, ↓wb_callv3, ↓wb_callv4, ↓wb_callv5, ↓wb_callv6, oB_some, ldI_z, ldI_s, ldL_z, ldL_s, ldR_z, ldR_s, ls1_z, ls1_1n, ls1_1i, ls1_1r, ls1_1l, ls1_s, ls2_z, ls2_1n, ls2_1i, ls2_1r, ls2_1l, ls2_s, List.length_cons, List.length_nil, Nat.reduceAdd, Nat.reduceLT, Nat.reduceLeDiff, Nat.reduceDiv, Nat.reduceMod, Int.reduceToNat, Int.reduceAdd, Nat.zero_add, true_and, Option.toList_some, Option.toList_none, List.cons_append, List.nil_append, true_or, or_true, and_true, false_or, or_false, Int.reduceEq, Int.reduceLT, Int.reduceLE, Int.reduceNeg, not_true_eq_false, not_false_eq_true, Bool.and_eq_true, Bool.or_eq_true, decide_eq_true_eq, ↓reduceIte, b2i_0, b2i_01, b2i_01c, Nat.add_left_cancel_iff, Nat.add_eq_left, Nat.left_eq_add, Nat.reduceEqDiff, false_and, and_false, Bool.false_eq_true, Bool.true_eq_false, ↓wr_iadd, ↓wr_isub, ↓wr_imul, wr_id, ↓wl_176_0, e1, e2, Nat.reduceLeDiff, decide_true, Bool.and_self]
  exact loop m 0 h (by omega) (by omega) FR_rf rfl (fun j => by rw [if_neg (by omega)])
def sf (S : Nat → BitVec 64) (v : Int) : BitVec 64 := if 0 ≤ v then S v.toNat else BitVec.ofInt 64 0
theorem pc_sureFrom {sc : Scr} {c : Nat} {h : Hp} {Q : Option AV → Hp → Prop} (sp : SP c h) {v : Int} (v1 : v < 60) : WC sc 16 [aR (c + 16), aI v] h Q = Q (some (aL (sf (hL h (c + 19)) v))) h := by
  rw [wc_16]
  unfold sf
  by_cases v0 : 0 ≤ v
  · have b1 : (0 ≤ v ∧ v < 60) = True := by simp; omega
    have c1 : ¬ v < 0 := by omega
    rw [if_pos v0]
    simp (maxSteps := 2000000) (disch := omega) only [↓wb_const, ↓wb_lconst, ↓wb_null, ↓wb_iload, ↓wb_lload, ↓wb_aload, ↓wb_istore, ↓wb_lstore, ↓wb_astore, ↓wb_iinc, ↓wb_iand, ↓wb_ior, ↓wb_ishr, ↓wb_idiv, ↓wb_irem, ↓wb_ladd, ↓wb_lsub, ↓wb_land, ↓wb_lor, ↓wb_lxor, ↓wb_lneg, ↓wb_lushr, ↓wb_lshl, ↓wb_l2i, ↓wb_lcmp, ↓wb_dupI, ↓wb_dupR, ↓wb_dup2, ↓wb_popI, ↓wb_popR, ↓wb_getI, ↓wb_getL, ↓wb_getR, ↓wb_putI, ↓wb_putZ, ↓wb_putL, ↓wb_putR, ↓wb_iaload, ↓wb_laload, ↓wb_zaload, ↓wb_aaload, ↓wb_iastore, ↓wb_lastore, ↓wb_zastore, ↓wb_aastore, ↓wb_alen, ↓wb_newI, ↓wb_newL, ↓wb_newZ, ↓wb_newA, ↓wb_new, ↓wb_obj, ↓wb_sld, ↓wb_slen, ↓wb_goto, ↓wb_ifeq, ↓wb_iceq, ↓wb_ifne, ↓wb_icne, ↓wb_iflt, ↓wb_iclt, ↓wb_ifge, ↓wb_icge, ↓wb_ifgt, ↓wb_icgt, ↓wb_ifle, ↓wb_icle, ↓wb_ifnull, ↓wb_ifnonnull, ↓wb_ret, ↓wb_iret, ↓wb_lret, ↓wb_aret, ↓wb_zret, ↓wb_tsw0, ↓wb_tsw1, ↓wb_lsw0, ↓wb_lsw1, ↓wb_calls0, ↓wb_calls1, ↓wb_callv1, ↓wb_calls2, ↓wb_callv2, ↓wb_calls3, ↓wb_callv3, ↓wb_callv4, ↓wb_callv5, ↓wb_callv6, oB_some, ldI_z, ldI_s, ldL_z, ldL_s, ldR_z, ldR_s, ls1_z, ls1_1n, ls1_1i, ls1_1r, ls1_1l, ls1_s, ls2_z, ls2_1n, ls2_1i, ls2_1r, ls2_1l, ls2_s, List.length_cons, List.length_nil, Nat.reduceAdd, Nat.reduceLT, Nat.reduceLeDiff, Nat.reduceDiv, Nat.reduceMod, Int.reduceToNat, Int.reduceAdd, Nat.zero_add, true_and, Option.toList_some, Option.toList_none, List.cons_append, List.nil_append, true_or, or_true, and_true, false_or, or_false, Int.reduceEq, Int.reduceLT, Int.reduceLE, Int.reduceNeg, not_true_eq_false, not_false_eq_true, Bool.and_eq_true, Bool.or_eq_true, decide_eq_true_eq, ↓reduceIte, b2i_0, b2i_01, b2i_01c, Nat.add_left_cancel_iff, Nat.add_eq_left, Nat.left_eq_add, Nat.reduceEqDiff, false_and, and_false, Bool.false_eq_true, Bool.true_eq_false, ↓wr_iadd, ↓wr_isub, ↓wr_imul, wr_id, ↓wl_16_0, ↓wl_16_8, sp_c16 sp, sp_h2 sp, sp_a19 sp, b1, c1]
  · have c1 : v < 0 := by omega
    rw [if_neg v0]
    simp (maxSteps := 2000000) (disch := omega) only [↓wb_const, ↓wb_lconst, ↓wb_null, ↓wb_iload, ↓wb_lload, ↓wb_aload, ↓wb_istore, ↓wb_lstore, ↓wb_astore, ↓wb_iinc, ↓wb_iand, ↓wb_ior, ↓wb_ishr, ↓wb_idiv, ↓wb_irem, ↓wb_ladd, ↓wb_lsub, ↓wb_land, ↓wb_lor, ↓wb_lxor, ↓wb_lneg, ↓wb_lushr, ↓wb_lshl, ↓wb_l2i, ↓wb_lcmp, ↓wb_dupI, ↓wb_dupR, ↓wb_dup2, ↓wb_popI, ↓wb_popR, ↓wb_getI, ↓wb_getL, ↓wb_getR, ↓wb_putI, ↓wb_putZ, ↓wb_putL, ↓wb_putR, ↓wb_iaload, ↓wb_laload, ↓wb_zaload, ↓wb_aaload, ↓wb_iastore, ↓wb_lastore, ↓wb_zastore, ↓wb_aastore, ↓wb_alen, ↓wb_newI, ↓wb_newL, ↓wb_newZ, ↓wb_newA, ↓wb_new, ↓wb_obj, ↓wb_sld, ↓wb_slen, ↓wb_goto, ↓wb_ifeq, ↓wb_iceq, ↓wb_ifne, ↓wb_icne, ↓wb_iflt, ↓wb_iclt, ↓wb_ifge, ↓wb_icge, ↓wb_ifgt, ↓wb_icgt, ↓wb_ifle, ↓wb_icle, ↓wb_ifnull, ↓wb_ifnonnull, ↓wb_ret, ↓wb_iret, ↓wb_lret, ↓wb_aret, ↓wb_zret, ↓wb_tsw0, ↓wb_tsw1, ↓wb_lsw0, ↓wb_lsw1, ↓wb_calls0, ↓wb_calls1, ↓wb_callv1, ↓wb_calls2, ↓wb_callv2, ↓wb_calls3, ↓wb_callv3, ↓wb_callv4, ↓wb_callv5, ↓wb_callv6, oB_some, ldI_z, ldI_s, ldL_z, ldL_s, ldR_z, ldR_s, ls1_z, ls1_1n, ls1_1i, ls1_1r, ls1_1l, ls1_s, ls2_z, ls2_1n, ls2_1i, ls2_1r, ls2_1l, ls2_s, List.length_cons, List.length_nil, Nat.reduceAdd, Nat.reduceLT, Nat.reduceLeDiff, Nat.reduceDiv, Nat.reduceMod, Int.reduceToNat, Int.reduceAdd, Nat.zero_add, true_and, Option.toList_some, Option.toList_none, List.cons_append, List.nil_append, true_or, or_true, and_true, false_or, or_false, Int.reduceEq, Int.reduceLT, Int.reduceLE, Int.reduceNeg, not_true_eq_false, not_false_eq_true, Bool.and_eq_true, Bool.or_eq_true, decide_eq_true_eq, ↓reduceIte, b2i_0, b2i_01, b2i_01c, Nat.add_left_cancel_iff, Nat.add_eq_left, Nat.left_eq_add, Nat.reduceEqDiff, false_and, and_false, Bool.false_eq_true, Bool.true_eq_false, ↓wr_iadd, ↓wr_isub, ↓wr_imul, wr_id, ↓wl_16_0, ↓wl_16_7, ↓wl_16_8, c1]
/-- from v one may come to the END and not by s -/
def CanC (G : Nat → Prop) (a l : Nat → Int) (s : Nat) (v : Int) : Prop := LF (fun u : Int => u = -1) (fun q u : Int => ∃ p : Nat, u = (p : Int) ∧ ¬ p = s ∧ G p ∧ (q = a p ∨ q = l p)) v
/-- one round's line -/
def sFn (S : Nat → BitVec 64) (a l : Nat → Int) (p : Nat) : BitVec 64 := bit1 p ||| (sf S (a p) &&& sf S (l p))
def smB (S : Nat → BitVec 64) : Nat → Nat
  | 0 => 0
  | n + 1 => smB S n + ctN (fun i => (S n).getLsbD i) 64
theorem smB_cg {S T : Nat → BitVec 64} : ∀ {n : Nat}, (∀ q, q < n → S q = T q) → smB S n = smB T n
  | 0, _ => rfl
  | n + 1, h => by
    show smB S n + _ = smB T n + _
    rw [smB_cg (fun q hq => h q (by omega)), h n (by omega)]
theorem smB_lt {S T : Nat → BitVec 64} {p : Nat} : ∀ {n : Nat}, p < n → (∀ q, ¬ q = p → T q = S q) → ctN (fun i => (T p).getLsbD i) 64 + 1 ≤ ctN (fun i => (S p).getLsbD i) 64 → smB T n + 1 ≤ smB S n
  | 0, hp, _, _ => by omega
  | n + 1, hp, h, hc => by
    show smB T n + _ + 1 ≤ smB S n + _
    by_cases e : p = n
    · subst e
      rw [smB_cg (S := T) (T := S) (fun q hq => h q (by omega))]
      omega
    · have := smB_lt (n := n) (by omega) h hc
      rw [h n (by omega)]
      omega
theorem smB_le {S : Nat → BitVec 64} : ∀ n, smB S n ≤ 64 * n
  | 0 => Nat.le_refl _
  | n + 1 => by
    show smB S n + _ ≤ _
    have := smB_le (S := S) n
    have := ctN_le (fun i => (S n).getLsbD i) 64
    omega
theorem bv_64 {x : BitVec 64} {i : Nat} (h : x.getLsbD i = true) : i < 64 := by
  by_cases e : i < 64
  · exact e
  · rw [BitVec.getLsbD_of_ge _ _ (by omega)] at h; cases h
theorem sf_mono {S T : Nat → BitVec 64} {v : Int} (h : ∀ q i, (T q).getLsbD i = true → (S q).getLsbD i = true) {i : Nat} (hi : (sf T v).getLsbD i = true) : (sf S v).getLsbD i = true := by
  unfold sf at *
  by_cases v0 : 0 ≤ v
  · rw [if_pos v0] at hi ⊢; exact h _ _ hi
  · rw [if_neg v0, bz] at hi; cases hi
theorem sFn_get {S : Nat → BitVec 64} {a l : Nat → Int} {p i : Nat} (hp : p < 64) : (sFn S a l p).getLsbD i = (decide (i = p) || ((sf S (a p)).getLsbD i && (sf S (l p)).getLsbD i)) := by
  unfold sFn
  rw [BitVec.getLsbD_or, bit1_get (by omega) (by omega), BitVec.getLsbD_and]
  congr 1
  by_cases e : i = p
  · simp [e]
  · have : ¬ ((i : Int) = p) := by omega
    simp [e, this]
/-- what holds of the rows while they fall -/
def SI (G : Nat → Prop) (a l : Nat → Int) (n : Nat) (S : Nat → BitVec 64) : Prop := (∀ p, p < n → G p → ∀ i, i < 64 → (S p).getLsbD i = false → CanC G a l i p) ∧ (∀ p, p < n → G p → ∀ i, (sFn S a l p).getLsbD i = true → (S p).getLsbD i = true)
theorem SI_upd {G : Nat → Prop} {a l : Nat → Int} {n p : Nat} {S T : Nat → BitVec 64} (n60 : n ≤ 60) (s : SI G a l n S) (hp : p < n) (hg : G p) (ga : ∀ p, p < n → G p → (a p = -1 ∨ ∃ q : Nat, a p = q ∧ q < n ∧ G q) ∧ (l p = -1 ∨ ∃ q : Nat, l p = q ∧ q < n ∧ G q)) (hT : ∀ q, T q = if q = p then sFn S a l p else S q) : SI G a l n T ∧ (¬ sFn S a l p = S p → smB T n + 1 ≤ smB S n) := by
  obtain ⟨s1, s2⟩ := s
  have hsub : ∀ q i, (T q).getLsbD i = true → (S q).getLsbD i = true := by
    intro q i hi
    rw [hT] at hi
    by_cases e : q = p
    · rw [if_pos e] at hi
      rw [e]; exact s2 p hp hg i hi
    · rw [if_neg e] at hi; exact hi
  have hfm : ∀ q i, q < 64 → (sFn T a l q).getLsbD i = true → (sFn S a l q).getLsbD i = true := by
    intro q i hq hi
    rw [sFn_get hq] at hi ⊢
    simp only [Bool.or_eq_true, Bool.and_eq_true, decide_eq_true_eq] at hi ⊢
    rcases hi with e | ⟨e1, e2⟩
    · exact Or.inl e
    · exact Or.inr ⟨sf_mono hsub e1, sf_mono hsub e2⟩
  refine ⟨⟨fun q hq hgq i hi hz => ?_, fun q hq hgq i hi => ?_⟩, fun hne => ?_⟩
  · rw [hT] at hz
    by_cases e : q = p
    · subst e
      rw [if_pos rfl, sFn_get (by omega)] at hz
      simp only [Bool.or_eq_false_iff, decide_eq_false_iff_not, Bool.and_eq_false_iff] at hz
      obtain ⟨z1, z2⟩ := hz
      obtain ⟨g1, g2⟩ := ga q hq hgq
      have key : ∀ v : Int, (v = -1 ∨ ∃ q : Nat, v = q ∧ q < n ∧ G q) → (sf S v).getLsbD i = false → CanC G a l i v := by
        intro v hv hz
        rcases hv with e | ⟨r, e, r1, r2⟩
        · exact LF_0 e
        · subst e
          unfold sf at hz
          rw [if_pos (by omega), Int.toNat_natCast] at hz
          exact s1 r r1 r2 i hi hz
      rcases z2 with z2 | z2
      · exact LF_s (key _ g1 z2) ⟨q, rfl, fun e => z1 e.symm, hgq, Or.inl rfl⟩
      · exact LF_s (key _ g2 z2) ⟨q, rfl, fun e => z1 e.symm, hgq, Or.inr rfl⟩
    · rw [if_neg e] at hz
      exact s1 q hq hgq i hi hz
  · have h1 := hfm q i (by omega) hi
    rw [hT]
    by_cases e : q = p
    · subst e; rw [if_pos rfl]; exact h1
    · rw [if_neg e]; exact s2 q hq hgq i h1
  · refine smB_lt hp (fun q e => by rw [hT, if_neg e]) ?_
    have hex : ∃ i, (S p).getLsbD i = true ∧ (sFn S a l p).getLsbD i = false := by
      refine Classical.byContradiction fun z => hne ?_
      apply bv_ext
      intro i
      cases h1 : (sFn S a l p).getLsbD i with
      | true => rw [s2 p hp hg i h1]
      | false =>
        cases h2 : (S p).getLsbD i with
        | false => rfl
        | true => exact absurd ⟨i, h2, h1⟩ z
    obtain ⟨i, i1, i2⟩ := hex
    refine ctN_lt (i := i) (fun j hj z => hsub p j z) (bv_64 i1) ?_ i1
    rw [hT, if_pos rfl]; exact i2
theorem SI_end {G : Nat → Prop} {a l : Nat → Int} {n : Nat} {S : Nat → BitVec 64} (n60 : n ≤ 60) (s : SI G a l n S) (gl : ∀ p, G p → p < n) (hfix : ∀ p, p < n → G p → sFn S a l p = S p) : ∀ p, p < n → G p → ∀ i, i < 64 → ((S p).getLsbD i = true ↔ ¬ CanC G a l i p) := by
  intro p hp hg i hi
  constructor
  · intro h1 hc
    have key := hc (fun v => v = -1 ∨ ∃ q : Nat, v = q ∧ q < n ∧ G q ∧ (S q).getLsbD i = false) (fun u hu => Or.inl hu) (by
      rintro q u hq ⟨r, e, r1, r2, r3⟩
      refine Or.inr ⟨r, e, gl r r2, r2, ?_⟩
      rw [← hfix r (gl r r2) r2, sFn_get (by have := gl r r2; omega)]
      simp only [Bool.or_eq_false_iff, decide_eq_false_iff_not, Bool.and_eq_false_iff]
      refine ⟨fun e => r1 e.symm, ?_⟩
      have hq0 : (sf S q).getLsbD i = false := by
        rcases hq with e | ⟨z, e, z1, z2, z3⟩
        · subst e; unfold sf; rw [if_neg (by omega), bz]
        · subst e; unfold sf; rw [if_pos (by omega), Int.toNat_natCast]; exact z3
      rcases r3 with r3 | r3
      · left; rw [← r3]; exact hq0
      · right; rw [← r3]; exact hq0)
    rcases key with e | ⟨q, e, -, -, q3⟩
    · omega
    · have : q = p := by omega
      subst this
      rw [h1] at q3; cases q3
  · intro hc
    cases h1 : (S p).getLsbD i with
    | true => rfl
    | false => exact absurd (s.1 p hp hg i hi h1) hc
