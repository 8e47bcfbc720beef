/-! ===== the class: what is behind ===== -/
/-- the END is -1 in the class, 60 in the reference -/
def e60 (v : Int) : Int := if v = 60 then -1 else v
theorem clo_whole {K : Int → Int} {n b : Nat} (sv : SV K n) (hw : stk K n = []) (hb : b < n) (hg : bgn (K b) = true) : clo K n b < n := by
  obtain ⟨c, e1, e2, e3, e4, e5⟩ := clo_stk sv hb hg
  by_cases e : c = n
  · subst e
    have := e4 c e2 (Nat.le_refl _)
    rw [hw] at this
    cases this
  · omega
theorem bhF_s {K : Int → Int} {n q : Int} {f : Nat} : bhF K n (f + 1) q = if q < n then (if K q = 6 then (if K (bgo K n q) = 5 then bgo K n q else bhF K n f (q + 1)) else if K q = 4 then bhF K n f (clo K n (bgo K n q) + 1) else q) else 60 := rfl
theorem pc_bh_step {sc : Scr} {c : Nat} {h : Hp} {Q : Option AV → Hp → Prop} (sp : SP c h) {p : Int} {n q b : Nat} {i kq kb r : Int} {u v : Option AV} (hn : hI h c 12 = n) (n60 : n ≤ 60) (hq : q < n) (i0 : 0 ≤ i) (i1 : i ≤ 60) (hb : b < 60) (ha : hI h (c + 4) q = b) (hk : hI h (c + 1) q = kq) (hkb : hI h (c + 1) b = kb) (hr : hI h (c + 6) b = r) (r0 : 0 ≤ r) (r1 : r ≤ 60) (h46 : kq = 4 ∨ kq = 6) : WB sc 49 (BL 49 6) [some (aR c), some (aI p), some (aI q), some (aI i), u, v] [] h Q = if kq = 6 ∧ kb = 5 then Q (some (aI b)) h else WB sc 49 (BL 49 6) [some (aR c), some (aI p), some (aI (r + 1)), some (aI (i + 1)), some (aI b), some (aI 0)] [] h Q := by
  conv => lhs; rw [bl_49_6]
  rcases h46 with k | k
  · subst k
    simp (maxSteps := 2000000) (disch := omega) only [↓wb_const, ↓wb_lconst, ↓wb_null, ↓wb_iload, ↓wb_lload, ↓wb_aload, ↓wb_istore, ↓wb_lstore, ↓wb_astore, ↓wb_iinc, ↓wb_iand, ↓wb_ior, ↓wb_ishr, ↓wb_idiv, ↓wb_irem, ↓wb_ladd, ↓wb_lsub, ↓wb_land, ↓wb_lor, ↓wb_lxor, ↓wb_lneg, ↓wb_lushr, ↓wb_lshl, ↓wb_l2i, ↓wb_lcmp, ↓wb_dupI, ↓wb_dupR, ↓wb_dup2, ↓wb_popI, ↓wb_popR, ↓wb_getI, ↓wb_getL, ↓wb_getR, ↓wb_putI, ↓wb_putZ, ↓wb_putL, ↓wb_putR, ↓wb_iaload, ↓wb_laload, ↓wb_zaload, ↓wb_aaload, ↓wb_iastore, ↓wb_lastore, ↓wb_zastore, ↓wb_aastore, ↓wb_alen, ↓wb_newI, ↓wb_newL, ↓wb_newZ, ↓wb_newA, ↓wb_new, ↓wb_obj, ↓wb_sld, ↓wb_slen, ↓wb_goto, ↓wb_ifeq, ↓wb_iceq, ↓wb_ifne, ↓wb_icne, ↓wb_iflt, ↓wb_iclt, ↓wb_ifge, ↓wb_icge, ↓wb_ifgt, ↓wb_icgt, ↓wb_ifle, ↓wb_icle, ↓wb_ifnull, ↓wb_ifnonnull, ↓wb_ret, ↓wb_iret, ↓wb_lret, ↓wb_aret, ↓wb_zret, ↓wb_tsw0, ↓wb_tsw1, ↓wb_lsw0, ↓wb_lsw1, ↓wb_calls0, ↓wb_calls1, ↓wb_callv1, ↓wb_calls2, ↓wb_callv2, ↓wb_calls3, ↓wb_callv3, ↓wb_callv4, ↓wb_callv5, ↓wb_callv6, oB_some, ldI_z, ldI_s, ldL_z, ldL_s, ldR_z, ldR_s, ls1_z, ls1_1n, ls1_1i, ls1_1r, ls1_1l, ls1_s, ls2_z, ls2_1n, ls2_1i, ls2_1r, ls2_1l, ls2_s, List.length_cons, List.length_nil, Nat.reduceAdd, Nat.reduceLT, Nat.reduceLeDiff, Nat.reduceDiv, Nat.reduceMod, Int.reduceToNat, Int.reduceAdd, Nat.zero_add, true_and, Option.toList_some, Option.toList_none, List.cons_append, List.nil_append, true_or, or_true, and_true, false_or, or_false, Int.reduceEq, Int.reduceLT, Int.reduceLE, Int.reduceNeg, not_true_eq_false, not_false_eq_true, Bool.and_eq_true, Bool.or_eq_true, decide_eq_true_eq, ↓reduceIte, b2i_0, b2i_01, Nat.add_left_cancel_iff, Nat.add_eq_left, Nat.left_eq_add, Nat.reduceEqDiff, false_and, and_false, Bool.false_eq_true, Bool.true_eq_false, ↓wr_iadd, ↓wr_isub, ↓wr_imul, wr_id, ↓wl_49_34, ↓wl_49_35, ↓wl_49_40, ↓wl_49_42, ↓wl_49_56, ↓wl_49_65, sp_c sp, sp_r3 sp, sp_a4 sp, sp_r0 sp, sp_a1 sp, sp_r5 sp, sp_a6 sp, hn, ha, hk, hkb, hr, Int.reduceEq, oEqT, oEqF, oLtT, oLtF, oLeT, oLeF, Int.toNat_natCast, ite_self]
  · subst k
    by_cases k5 : kb = 5
    · simp (maxSteps := 2000000) (disch := omega) only [↓wb_const, ↓wb_lconst, ↓wb_null, ↓wb_iload, ↓wb_lload, ↓wb_aload, ↓wb_istore, ↓wb_lstore, ↓wb_astore, ↓wb_iinc, ↓wb_iand, ↓wb_ior, ↓wb_ishr, ↓wb_idiv, ↓wb_irem, ↓wb_ladd, ↓wb_lsub, ↓wb_land, ↓wb_lor, ↓wb_lxor, ↓wb_lneg, ↓wb_lushr, ↓wb_lshl, ↓wb_l2i, ↓wb_lcmp, ↓wb_dupI, ↓wb_dupR, ↓wb_dup2, ↓wb_popI, ↓wb_popR, ↓wb_getI, ↓wb_getL, ↓wb_getR, ↓wb_putI, ↓wb_putZ, ↓wb_putL, ↓wb_putR, ↓wb_iaload, ↓wb_laload, ↓wb_zaload, ↓wb_aaload, ↓wb_iastore, ↓wb_lastore, ↓wb_zastore, ↓wb_aastore, ↓wb_alen, ↓wb_newI, ↓wb_newL, ↓wb_newZ, ↓wb_newA, ↓wb_new, ↓wb_obj, ↓wb_sld, ↓wb_slen, ↓wb_goto, ↓wb_ifeq, ↓wb_iceq, ↓wb_ifne, ↓wb_icne, ↓wb_iflt, ↓wb_iclt, ↓wb_ifge, ↓wb_icge, ↓wb_ifgt, ↓wb_icgt, ↓wb_ifle, ↓wb_icle, ↓wb_ifnull, ↓wb_ifnonnull, ↓wb_ret, ↓wb_iret, ↓wb_lret, ↓wb_aret, ↓wb_zret, ↓wb_tsw0, ↓wb_tsw1, ↓wb_lsw0, ↓wb_lsw1, ↓wb_calls0, ↓wb_calls1, ↓wb_callv1, ↓wb_calls2, ↓wb_callv2, ↓wb_calls3, ↓wb_callv3, ↓wb_callv4, ↓wb_callv5, ↓wb_callv6, oB_some, ldI_z, ldI_s, ldL_z, ldL_s, ldR_z, ldR_s, ls1_z, ls1_1n, ls1_1i, ls1_1r, ls1_1l, ls1_s, ls2_z, ls2_1n, ls2_1i, ls2_1r, ls2_1l, ls2_s, List.length_cons, List.length_nil, Nat.reduceAdd, Nat.reduceLT, Nat.reduceLeDiff, Nat.reduceDiv, Nat.reduceMod, Int.reduceToNat, Int.reduceAdd, Nat.zero_add, true_and, Option.toList_some, Option.toList_none, List.cons_append, List.nil_append, true_or, or_true, and_true, false_or, or_false, Int.reduceEq, Int.reduceLT, Int.reduceLE, Int.reduceNeg, not_true_eq_false, not_false_eq_true, Bool.and_eq_true, Bool.or_eq_true, decide_eq_true_eq, ↓reduceIte, b2i_0, b2i_01, Nat.add_left_cancel_iff, Nat.add_eq_left, Nat.left_eq_add, Nat.reduceEqDiff, false_and, and_false, Bool.false_eq_true, Bool.true_eq_false, ↓wr_iadd, ↓wr_isub, ↓wr_imul, wr_id, ↓wl_49_34, ↓wl_49_35, ↓wl_49_40, ↓wl_49_42, ↓wl_49_56, ↓wl_49_65, sp_c sp, sp_r3 sp, sp_a4 sp, sp_r0 sp, sp_a1 sp, sp_r5 sp, sp_a6 sp, hn, ha, hk, hkb, hr, Int.reduceEq, oEqT, oEqF, oLtT, oLtF, oLeT, oLeF, Int.toNat_natCast, ite_self]
    · simp (maxSteps := 2000000) (disch := omega) only [↓wb_const, ↓wb_lconst, ↓wb_null, ↓wb_iload, ↓wb_lload, ↓wb_aload, ↓wb_istore, ↓wb_lstore, ↓wb_astore, ↓wb_iinc, ↓wb_iand, ↓wb_ior, ↓wb_ishr, ↓wb_idiv, ↓wb_irem, ↓wb_ladd, ↓wb_lsub, ↓wb_land, ↓wb_lor, ↓wb_lxor, ↓wb_lneg, ↓wb_lushr, ↓wb_lshl, ↓wb_l2i, ↓wb_lcmp, ↓wb_dupI, ↓wb_dupR, ↓wb_dup2, ↓wb_popI, ↓wb_popR, ↓wb_getI, ↓wb_getL, ↓wb_getR, ↓wb_putI, ↓wb_putZ, ↓wb_putL, ↓wb_putR, ↓wb_iaload, ↓wb_laload, ↓wb_zaload, ↓wb_aaload, ↓wb_iastore, ↓wb_lastore, ↓wb_zastore, ↓wb_aastore, ↓wb_alen, ↓wb_newI, ↓wb_newL, ↓wb_newZ, ↓wb_newA, ↓wb_new, ↓wb_obj, ↓wb_sld, ↓wb_slen, ↓wb_goto, ↓wb_ifeq, ↓wb_iceq, ↓wb_ifne, ↓wb_icne, ↓wb_iflt, ↓wb_iclt, ↓wb_ifge, ↓wb_icge, ↓wb_ifgt, ↓wb_icgt, ↓wb_ifle, ↓wb_icle, ↓wb_ifnull, ↓wb_ifnonnull, ↓wb_ret, ↓wb_iret, ↓wb_lret, ↓wb_aret, ↓wb_zret, ↓wb_tsw0, ↓wb_tsw1, ↓wb_lsw0, ↓wb_lsw1, ↓wb_calls0, ↓wb_calls1, ↓wb_callv1, ↓wb_calls2, ↓wb_callv2, ↓wb_calls3, ↓wb_callv3, ↓wb_callv4, ↓wb_callv5, ↓wb_callv6, oB_some, ldI_z, ldI_s, ldL_z, ldL_s, ldR_z, ldR_s, ls1_z, ls1_1n, ls1_1i, ls1_1r, ls1_1l, ls1_s, ls2_z, ls2_1n, ls2_1i, ls2_1r, ls2_1l, ls2_s, List.length_cons, List.length_nil, Nat.reduceAdd, Nat.reduceLT, Nat.reduceLeDiff, Nat.reduceDiv, Nat.reduceMod, Int.reduceToNat, Int.reduceAdd, Nat.zero_add, true_and, Option.toList_some, Option.toList_none, List.cons_append, List.nil_append, true_or, or_true, and_true, false_or, or_false, Int.reduceEq, Int.reduceLT, Int.reduceLE, Int.reduceNeg, not_true_eq_false, not_false_eq_true, Bool.and_eq_true, Bool.or_eq_true, decide_eq_true_eq, ↓reduceIte, b2i_0, b2i_01, Nat.add_left_cancel_iff, Nat.add_eq_left, Nat.left_eq_add, Nat.reduceEqDiff, false_and, and_false, Bool.false_eq_true, Bool.true_eq_false, ↓wr_iadd, ↓wr_isub, ↓wr_imul, wr_id, ↓wl_49_34, ↓wl_49_35, ↓wl_49_40, ↓wl_49_42, ↓wl_49_56, ↓wl_49_65, sp_c sp, sp_r3 sp, sp_a4 sp, sp_r0 sp, sp_a1 sp, sp_r5 sp, sp_a6 sp, hn, ha, hk, hkb, hr, Int.reduceEq, oEqT, oEqF, oLtT, oLtF, oLeT, oLeF, Int.toNat_natCast, ite_self]
theorem pc_bh_stop {sc : Scr} {c : Nat} {h : Hp} {Q : Option AV → Hp → Prop} (sp : SP c h) {p : Int} {n q : Nat} {i kq : Int} {u v : Option AV} (hn : hI h c 12 = n) (n60 : n ≤ 60) (hq : q < n) (i0 : 0 ≤ i) (i1 : i ≤ 60) (hk : hI h (c + 1) q = kq) (k4 : ¬ kq = 4) (k6 : ¬ kq = 6) : WB sc 49 (BL 49 6) [some (aR c), some (aI p), some (aI q), some (aI i), u, v] [] h Q = Q (some (aI q)) h := by
  rw [bl_49_6]
  simp (maxSteps := 2000000) (disch := omega) only [↓wb_const, ↓wb_lconst, ↓wb_null, ↓wb_iload, ↓wb_lload, ↓wb_aload, ↓wb_istore, ↓wb_lstore, ↓wb_astore, ↓wb_iinc, ↓wb_iand, ↓wb_ior, ↓wb_ishr, ↓wb_idiv, ↓wb_irem, ↓wb_ladd, ↓wb_lsub, ↓wb_land, ↓wb_lor, ↓wb_lxor, ↓wb_lneg, ↓wb_lushr, ↓wb_lshl, ↓wb_l2i, ↓wb_lcmp, ↓wb_dupI, ↓wb_dupR, ↓wb_dup2, ↓wb_popI, ↓wb_popR, ↓wb_getI, ↓wb_getL, ↓wb_getR, ↓wb_putI, ↓wb_putZ, ↓wb_putL, ↓wb_putR, ↓wb_iaload, ↓wb_laload, ↓wb_zaload, ↓wb_aaload, ↓wb_iastore, ↓wb_lastore, ↓wb_zastore, ↓wb_aastore, ↓wb_alen, ↓wb_newI, ↓wb_newL, ↓wb_newZ, ↓wb_newA, ↓wb_new, ↓wb_obj, ↓wb_sld, ↓wb_slen, ↓wb_goto, ↓wb_ifeq, ↓wb_iceq, ↓wb_ifne, ↓wb_icne, ↓wb_iflt, ↓wb_iclt, ↓wb_ifge, ↓wb_icge, ↓wb_ifgt, ↓wb_icgt, ↓wb_ifle, ↓wb_icle, ↓wb_ifnull, ↓wb_ifnonnull, ↓wb_ret, ↓wb_iret, ↓wb_lret, ↓wb_aret, ↓wb_zret, ↓wb_tsw0, ↓wb_tsw1, ↓wb_lsw0, ↓wb_lsw1, ↓wb_calls0, ↓wb_calls1, ↓wb_callv1, ↓wb_calls2, ↓wb_callv2, ↓wb_calls3, ↓wb_callv3, ↓wb_callv4, ↓wb_callv5, ↓wb_callv6, oB_some, ldI_z, ldI_s, ldL_z, ldL_s, ldR_z, ldR_s, ls1_z, ls1_1n, ls1_1i, ls1_1r, ls1_1l, ls1_s, ls2_z, ls2_1n, ls2_1i, ls2_1r, ls2_1l, ls2_s, List.length_cons, List.length_nil, Nat.reduceAdd, Nat.reduceLT, Nat.reduceLeDiff, Nat.reduceDiv, Nat.reduceMod, Int.reduceToNat, Int.reduceAdd, Nat.zero_add, true_and, Option.toList_some, Option.toList_none, List.cons_append, List.nil_append, true_or, or_true, and_true, false_or, or_false, Int.reduceEq, Int.reduceLT, Int.reduceLE, Int.reduceNeg, not_true_eq_false, not_false_eq_true, Bool.and_eq_true, Bool.or_eq_true, decide_eq_true_eq, ↓reduceIte, b2i_0, b2i_01, Nat.add_left_cancel_iff, Nat.add_eq_left, Nat.left_eq_add, Nat.reduceEqDiff, false_and, and_false, Bool.false_eq_true, Bool.true_eq_false, ↓wr_iadd, ↓wr_isub, ↓wr_imul, wr_id, ↓wl_49_34, ↓wl_49_35, ↓wl_49_40, sp_c sp, sp_r3 sp, sp_a4 sp, sp_r0 sp, sp_a1 sp, sp_r5 sp, sp_a6 sp, hn, hk, oEqT, oEqF, oLtT, oLtF, oLeT, oLeF, Int.toNat_natCast, ite_self]
theorem pc_bh_end {sc : Scr} {c : Nat} {h : Hp} {Q : Option AV → Hp → Prop} (sp : SP c h) {p : Int} {n q : Nat} {i : Int} {u v : Option AV} (hn : hI h c 12 = n) (hq : n ≤ q) : WB sc 49 (BL 49 6) [some (aR c), some (aI p), some (aI q), some (aI i), u, v] [] h Q = Q (some (aI (-1))) h := by
  rw [bl_49_6]
  simp (maxSteps := 2000000) (disch := omega) only [↓wb_const, ↓wb_lconst, ↓wb_null, ↓wb_iload, ↓wb_lload, ↓wb_aload, ↓wb_istore, ↓wb_lstore, ↓wb_astore, ↓wb_iinc, ↓wb_iand, ↓wb_ior, ↓wb_ishr, ↓wb_idiv, ↓wb_irem, ↓wb_ladd, ↓wb_lsub, ↓wb_land, ↓wb_lor, ↓wb_lxor, ↓wb_lneg, ↓wb_lushr, ↓wb_lshl, ↓wb_l2i, ↓wb_lcmp, ↓wb_dupI, ↓wb_dupR, ↓wb_dup2, ↓wb_popI, ↓wb_popR, ↓wb_getI, ↓wb_getL, ↓wb_getR, ↓wb_putI, ↓wb_putZ, ↓wb_putL, ↓wb_putR, ↓wb_iaload, ↓wb_laload, ↓wb_zaload, ↓wb_aaload, ↓wb_iastore, ↓wb_lastore, ↓wb_zastore, ↓wb_aastore, ↓wb_alen, ↓wb_newI, ↓wb_newL, ↓wb_newZ, ↓wb_newA, ↓wb_new, ↓wb_obj, ↓wb_sld, ↓wb_slen, ↓wb_goto, ↓wb_ifeq, ↓wb_iceq, ↓wb_ifne, ↓wb_icne, ↓wb_iflt, ↓wb_iclt, ↓wb_ifge, ↓wb_icge, ↓wb_ifgt, ↓wb_icgt, ↓wb_ifle, ↓wb_icle, ↓wb_ifnull, ↓wb_ifnonnull, ↓wb_ret, ↓wb_iret, ↓wb_lret, ↓wb_aret, ↓wb_zret, ↓wb_tsw0, ↓wb_tsw1, ↓wb_lsw0, ↓wb_lsw1, ↓wb_calls0, ↓wb_calls1, ↓wb_callv1, ↓wb_calls2, ↓wb_callv2, ↓wb_calls3, ↓wb_callv3, ↓wb_callv4, ↓wb_callv5, ↓wb_callv6, oB_some, ldI_z, ldI_s, ldL_z, ldL_s, ldR_z, ldR_s, ls1_z, ls1_1n, ls1_1i, ls1_1r, ls1_1l, ls1_s, ls2_z, ls2_1n, ls2_1i, ls2_1r, ls2_1l, ls2_s, List.length_cons, List.length_nil, Nat.reduceAdd, Nat.reduceLT, Nat.reduceLeDiff, Nat.reduceDiv, Nat.reduceMod, Int.reduceToNat, Int.reduceAdd, Nat.zero_add, true_and, Option.toList_some, Option.toList_none, List.cons_append, List.nil_append, true_or, or_true, and_true, false_or, or_false, Int.reduceEq, Int.reduceLT, Int.reduceLE, Int.reduceNeg, not_true_eq_false, not_false_eq_true, Bool.and_eq_true, Bool.or_eq_true, decide_eq_true_eq, ↓reduceIte, b2i_0, b2i_01, Nat.add_left_cancel_iff, Nat.add_eq_left, Nat.left_eq_add, Nat.reduceEqDiff, false_and, and_false, Bool.false_eq_true, Bool.true_eq_false, ↓wr_iadd, ↓wr_isub, ↓wr_imul, wr_id, ↓wl_49_65, sp_c sp, sp_r3 sp, sp_a4 sp, sp_r0 sp, sp_a1 sp, sp_r5 sp, sp_a6 sp, hn, oEqT, oEqF, oLtT, oLtF, oLeT, oLeF, Int.toNat_natCast, ite_self]
theorem pc_behind {sc : Scr} {c : Nat} {h : Hp} {Q : Option AV → Hp → Prop} {n : Nat} (pi : PI c h n) (hw : stk (cK c h) n = []) {p : Int} (p0 : -1 ≤ p) (p1 : p ≤ n) : WC sc 49 [aR c, aI p] h Q = Q (some (aI (e60 (bhd (cK c h) n p)))) h := by
  have sp := PI_sp pi
  have n60 := PI_60 pi
  have hn := PI_n pi
  have sv := WF_SV (PI_wf pi)
  have loop : ∀ (f q : Nat) (i : Int) (u v : Option AV), n - q < f → 0 ≤ i → i ≤ q → WB sc 49 (BL 49 6) [some (aR c), some (aI p), some (aI q), some (aI i), u, v] [] h Q = Q (some (aI (e60 (bhF (cK c h) n f q)))) h := by
    intro f
    induction f with
    | zero => intro q i u v hf; omega
    | succ f ih =>
      intro q i u v hf i0 i1
      by_cases hq : q < n
      · have ha := PI_ar pi hq
        have c4 : (q : Int) < n := by omega
        by_cases hs : cK c h q = 4 ∨ cK c h q = 6
        · obtain ⟨b, g1, g2, g3, g4, g5, g6⟩ := WF_46 (PI_wf pi) hq hs
          have hd : hdI (stk (cK c h) q) = b := by rw [g1]; rfl
          rw [hd] at ha
          have hcw := clo_whole sv hw (show b < n by omega) g4
          have hcl := PI_cl pi (show b < n by omega)
          unfold clC at hcl
          rw [if_pos ⟨g4, hcw⟩] at hcl
          have hcb := clo_le (K := cK c h) (n := n) (p := b) (by omega)
          obtain ⟨r, hr⟩ : ∃ r : Nat, clo (cK c h) n b = r := ⟨(clo (cK c h) n b).toNat, by omega⟩
          rw [hr] at hcl hcw hcb g5 g6
          have hrq : q ≤ r := by
            rcases hs with k4 | k6
            · have := (g6 k4).2.2; omega
            · have := g5 k6; omega
          rw [pc_bh_step sp hn n60 hq i0 (by omega) (show b < 60 by omega) ha cK_n cK_n hcl (by omega) (by omega) hs]
          have ihr := ih (r + 1) (i + 1) (some (aI b)) (some (aI 0)) (by omega) (by omega) (by omega)
          rw [show ((r + 1 : Nat) : Int) = (r : Int) + 1 by omega] at ihr
          rw [ihr]
          rw [bhF_s, if_pos c4, g2, hr]
          rcases hs with k4 | k6
          · have k6 : ¬ cK c h q = 6 := by rw [k4]; decide
            rw [if_neg (fun z => k6 z.1), if_neg k6, if_pos k4]
          · have g5 := g5 k6
            by_cases kb : cK c h b = 5
            · rw [if_pos ⟨k6, kb⟩, if_pos k6, if_pos kb]
              unfold e60
              rw [if_neg (by omega)]
            · rw [if_neg (fun z => kb z.2), if_pos k6, if_neg kb, g5]
        · have k4 : ¬ cK c h q = 4 := fun e => hs (Or.inl e)
          have k6 : ¬ cK c h q = 6 := fun e => hs (Or.inr e)
          rw [pc_bh_stop sp hn n60 hq i0 (by omega) cK_n k4 k6]
          rw [bhF_s, if_pos c4, if_neg k6, if_neg k4]
          unfold e60
          rw [if_neg (by omega)]
      · rw [pc_bh_end sp hn (by omega)]
        rw [bhF_s, if_neg (by omega)]
        rfl
  rw [wc_49]
  simp (maxSteps := 2000000) (disch := omega) only [↓wb_const, ↓wb_lconst, ↓wb_null, ↓wb_iload, ↓wb_lload, ↓wb_aload, ↓wb_istore, ↓wb_lstore, ↓wb_astore, ↓wb_iinc, ↓wb_iand, ↓wb_ior, ↓wb_ishr, ↓wb_idiv, ↓wb_irem, ↓wb_ladd, ↓wb_lsub, ↓wb_land, ↓wb_lor, ↓wb_lxor, ↓wb_lneg, ↓wb_lushr, ↓wb_lshl, ↓wb_l2i, ↓wb_lcmp, ↓wb_dupI, ↓wb_dupR, ↓wb_dup2, ↓wb_popI, ↓wb_popR, ↓wb_getI, ↓wb_getL, ↓wb_getR, ↓wb_putI, ↓wb_putZ, ↓wb_putL, ↓wb_putR, ↓wb_iaload, ↓wb_laload, ↓wb_zaload, ↓wb_aaload, ↓wb_iastore, ↓wb_lastore, ↓wb_zastore, ↓wb_aastore, ↓wb_alen, ↓wb_newI, ↓wb_newL, ↓wb_newZ, ↓wb_newA, ↓wb_new, ↓wb_obj, ↓wb_sld, ↓wb_slen, ↓wb_goto, ↓wb_ifeq, ↓wb_iceq, ↓wb_ifne, ↓wb_icne, ↓wb_iflt, ↓wb_iclt, ↓wb_ifge, ↓wb_icge, ↓wb_ifgt, ↓wb_icgt, ↓wb_ifle, ↓wb_icle, ↓wb_ifnull, ↓wb_ifnonnull, ↓wb_ret, ↓wb_iret, ↓wb_lret, ↓wb_aret, ↓wb_zret, ↓wb_tsw0, ↓wb_tsw1, ↓wb_lsw0, ↓wb_lsw1, ↓wb_calls0, ↓wb_calls1, ↓wb_callv1, ↓wb_calls2, ↓wb_callv2, ↓wb_calls3, ↓wb_callv3, ↓wb_callv4, ↓wb_callv5, ↓wb_callv6, oB_some, ldI_z, ldI_s, ldL_z, ldL_s, ldR_z, ldR_s, ls1_z, ls1_1n, ls1_1i, ls1_1r, ls1_1l, ls1_s, ls2_z, ls2_1n, ls2_1i, ls2_1r, ls2_1l, ls2_s, List.length_cons, List.length_nil, Nat.reduceAdd, Nat.reduceLT, Nat.reduceLeDiff, Nat.reduceDiv, Nat.reduceMod, Int.reduceToNat, Int.reduceAdd, Nat.zero_add, true_and, Option.toList_some, Option.toList_none, List.cons_append, List.nil_append, true_or, or_true, and_true, false_or, or_false, Int.reduceEq, Int.reduceLT, Int.reduceLE, Int.reduceNeg, not_true_eq_false, not_false_eq_true, Bool.and_eq_true, Bool.or_eq_true, decide_eq_true_eq, ↓reduceIte, b2i_0, b2i_01, Nat.add_left_cancel_iff, Nat.add_eq_left, Nat.left_eq_add, Nat.reduceEqDiff, false_and, and_false, Bool.false_eq_true, Bool.true_eq_false, ↓wr_iadd, ↓wr_isub, ↓wr_imul, wr_id, ↓wl_49_0]
  have l0 := loop 62 (p + 1).toNat 0 none none (by omega) (by omega) (by omega)
  rw [show (((p + 1).toNat : Nat) : Int) = p + 1 by omega] at l0
  rw [l0]
  rfl
