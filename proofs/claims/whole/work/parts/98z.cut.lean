/-! ===== one call on both sides: cut ===== -/
theorem ck_cg {P P2 : Nat → Bool} : ∀ q : Nat, (∀ p, p < q → P p = P2 p) → ck P q = ck P2 q
  | 0, _ => rfl
  | q + 1, h => by
    have ih := ck_cg (P := P) (P2 := P2) q (fun p hp => h p (by omega))
    have e := h q (by omega)
    cases hb : P q with
    | true => rw [ck_t hb, ck_t (by rw [← e]; exact hb), ih]
    | false => rw [ck_f hb, ck_f (by rw [← e]; exact hb), ih]
theorem kpC_CC {K X E : Int → Int} {n s : Nat} {w : BitVec 64} (wf : WF K X E n) (hw : stk K n = []) (n60 : n ≤ 60) (hs : ∀ i, w.getLsbD i = true ↔ i < 60 ∧ Sl K X E n s i) : CC K n (kpC K n w) := by
  refine slice_CC wf hw n60 (s := s) (fun p hp => ?_) (fun p b hp k46 g1 => ?_)
  · unfold kpC
    rw [if_pos hp, hs p]
    have := stm_lt hp
    exact ⟨fun z => z.2, fun z => ⟨by omega, z⟩⟩
  · have np : ¬ stm K n p = true := fun z => by
      have := (stm_n z).2
      rcases k46 with k | k
      · exact this.1 k
      · exact this.2 k
    obtain ⟨b0, q1, -, q3, q4, -⟩ := WF_46 wf hp k46
    rw [g1] at q1
    have eb : b = b0 := (List.cons.inj q1).1
    subst eb
    have kb : K b = 3 ∨ K b = 5 := by simpa [bgn] using q4
    have sb : stm K n b = true := stm_i (by omega) (by omega) (by omega) (by omega)
    unfold kpC
    rw [if_neg np, if_pos sb, g1]
    rfl
theorem kpF_CC {K X E : Int → Int} {n s : Nat} {F : Nat → Int} (wf : WF K X E n) (hw : stk K n = []) (n60 : n ≤ 60) (hs : ∀ i, i < 60 → (0 ≤ F i ↔ Sl K X E n s i)) : CC K n (kpF K n F) := by
  refine slice_CC wf hw n60 (s := s) (fun p hp => ?_) (fun p b hp k46 g1 => ?_)
  · unfold kpF
    rw [if_pos hp, decide_eq_true_eq]
    have := stm_lt hp
    exact hs p (by omega)
  · have np : ¬ stm K n p = true := fun z => by
      have := (stm_n z).2
      rcases k46 with k | k
      · exact this.1 k
      · exact this.2 k
    obtain ⟨b0, q1, q2, q3, q4, -⟩ := WF_46 wf hp k46
    rw [g1] at q1
    have eb : b = b0 := (List.cons.inj q1).1
    subst eb
    have kb : K b = 3 ∨ K b = 5 := by simpa [bgn] using q4
    have sb : stm K n b = true := stm_i (by omega) (by omega) (by omega) (by omega)
    unfold kpF
    rw [if_neg np, if_pos sb, q2, Int.toNat_natCast]
theorem kp_eq {K X E K2 : Int → Int} {n s : Nat} {w : BitVec 64} {F : Nat → Int} (wf : WF K X E n) (n60 : n ≤ 60) (ag : agr n K K2) (hs : ∀ i, w.getLsbD i = true ↔ i < 60 ∧ Sl K X E n s i) (hF : ∀ i, i < 60 → (0 ≤ F i ↔ Sl K X E n s i)) (p : Nat) (hp : p < n) : kpF K n F p = kpC K2 n w p := by
  have bits : ∀ i, i < 60 → decide (0 ≤ F i) = w.getLsbD i := fun i hi => by
    cases hb : w.getLsbD i with
    | true => exact decide_eq_true ((hF i hi).mpr ((hs i).mp hb).2)
    | false => exact decide_eq_false (fun z => by rw [(hs i).mpr ⟨hi, (hF i hi).mp z⟩] at hb; exact absurd hb (by decide))
  unfold kpF kpC
  rw [← stm_cg ag]
  cases st : stm K n p with
  | true => rw [if_pos rfl, if_pos rfl, bits p (by omega)]
  | false =>
    rw [if_neg (by decide), if_neg (by decide)]
    have k46 : K p = 4 ∨ K p = 6 := Classical.byContradiction fun z => by
      rw [stm_i (by omega) (by omega) (fun e => z (Or.inl e)) (fun e => z (Or.inr e))] at st
      exact absurd st (by decide)
    obtain ⟨b, q1, q2, q3, -⟩ := WF_46 wf hp k46
    rw [q2, ← stk_cg p (fun q a b => ag q a (by omega)), q1, Int.toNat_natCast]
    show decide (0 ≤ F b) = w.getLsbD b
    exact bits b (by omega)
theorem cmd_cut {sc : Scr} {x o pb : Nat} {h : Hp} (sim0 : Sim x o pb h) (g s : Int) : CMD sc 93 153 [aI g, aI s] x o pb h := by
  have sa0 := sim0.1
  have sx0 := sa0.1
  unfold CMD
  rw [wc_93]
  simp (maxSteps := 2000000) (disch := omega) only [↓wb_const, ↓wb_lconst, ↓wb_null, ↓wb_iload, ↓wb_lload, ↓wb_aload, ↓wb_istore, ↓wb_lstore, ↓wb_astore, ↓wb_iinc, ↓wb_iand, ↓wb_ior, ↓wb_ishr, ↓wb_idiv, ↓wb_irem, ↓wb_ladd, ↓wb_lsub, ↓wb_land, ↓wb_lor, ↓wb_lxor, ↓wb_lneg, ↓wb_lushr, ↓wb_lshl, ↓wb_l2i, ↓wb_lcmp, ↓wb_dupI, ↓wb_dupR, ↓wb_dup2, ↓wb_popI, ↓wb_popR, ↓wb_getI, ↓wb_getL, ↓wb_getR, ↓wb_putI, ↓wb_putZ, ↓wb_putL, ↓wb_putR, ↓wb_iaload, ↓wb_laload, ↓wb_zaload, ↓wb_aaload, ↓wb_iastore, ↓wb_lastore, ↓wb_zastore, ↓wb_aastore, ↓wb_alen, ↓wb_newI, ↓wb_newL, ↓wb_newZ, ↓wb_newA, ↓wb_new, ↓wb_obj, ↓wb_sld, ↓wb_slen, ↓wb_goto, ↓wb_ifeq, ↓wb_iceq, ↓wb_ifne, ↓wb_icne, ↓wb_iflt, ↓wb_iclt, ↓wb_ifge, ↓wb_icge, ↓wb_ifgt, ↓wb_icgt, ↓wb_ifle, ↓wb_icle, ↓wb_ifnull, ↓wb_ifnonnull, ↓wb_ret, ↓wb_iret, ↓wb_lret, ↓wb_aret, ↓wb_zret, ↓wb_tsw0, ↓wb_tsw1, ↓wb_lsw0, ↓wb_lsw1, ↓wb_calls0, ↓wb_calls1, ↓wb_callv1, ↓wb_calls2, ↓wb_callv2, ↓wb_calls3, ↓wb_callv3, ↓wb_callv4, ↓wb_callv5, ↓wb_callv6, oB_some, ldI_z, ldI_s, ldL_z, ldL_s, ldR_z, ldR_s, ls1_z, ls1_1n, ls1_1i, ls1_1r, ls1_1l, ls1_s, ls2_z, ls2_1n, ls2_1i, ls2_1r, ls2_1l, ls2_s, List.length_cons, List.length_nil, Nat.reduceAdd, Nat.reduceLT, Nat.reduceLeDiff, Nat.reduceDiv, Nat.reduceMod, Int.reduceToNat, Int.reduceAdd, Nat.zero_add, true_and, Option.toList_some, Option.toList_none, List.cons_append, List.nil_append, true_or, or_true, and_true, false_or, or_false, Int.reduceEq, Int.reduceLT, Int.reduceLE, Int.reduceNeg, not_true_eq_false, not_false_eq_true, Bool.and_eq_true, Bool.or_eq_true, decide_eq_true_eq, ↓reduceIte, b2i_0, b2i_01, b2i_01c, Nat.add_left_cancel_iff, Nat.add_eq_left, Nat.left_eq_add, Nat.reduceEqDiff, false_and, and_false, Bool.false_eq_true, Bool.true_eq_false, ↓wr_iadd, ↓wr_isub, ↓wr_imul, wr_id, ↓wl_93_0, sx_c sx0, sx_r0 sx0, sx_a1 sx0, sx_r2 sx0, sx_a3 sx0]
  refine xc_hang sa0 (fun n h1 a50 st0 gp0 cq fr ho => ?_) (fun na => ?_)
  · have re := CQ_re cq sa0
    have sim := Sim_CQ cq sim0
    have gp : GP x o pb h1 g.toNat n := GP_F (CQ_saf cq sa0) gp0
    have g0 := a50.1.1
    obtain ⟨-, hB⟩ := HO_m g0 gp0 fr ho
    obtain ⟨eK, eX, eE⟩ := RE_K re g
    have a5 : A5 o h1 g n := by rw [RE_5 re]; exact a50
    rw [← eK] at st0
    rw [← eK, ← eX, ← eE] at hB
    clear a50 gp0 cq re eK eX eE fr sim0 sx0
    obtain ⟨sa, ss, sb, sh, sr⟩ := sim
    have sim : Sim x o pb h1 := ⟨sa, ss, sb, sh, sr⟩
    have sx := sa.1
    have sm := sa.2.1
    obtain ⟨g1, g2, g3⟩ := sa.2.2.1
    obtain ⟨np, e1, e2, e3, e4, e5, e6⟩ := sa.2.2.2.1
    have b20 := sa.2.2.2.2.1
    have b13 := sa.2.2.2.2.2.1
    have b12 := sa.2.2.2.2.2.2
    have z1 : ((0 : Nat) == 1) = false := rfl
    have n16 : (pb + 20 * g.toNat + 16 = 0) = False := by simp
    simp (maxSteps := 2000000) (disch := omega) only [↓wb_const, ↓wb_lconst, ↓wb_null, ↓wb_iload, ↓wb_lload, ↓wb_aload, ↓wb_istore, ↓wb_lstore, ↓wb_astore, ↓wb_iinc, ↓wb_iand, ↓wb_ior, ↓wb_ishr, ↓wb_idiv, ↓wb_irem, ↓wb_ladd, ↓wb_lsub, ↓wb_land, ↓wb_lor, ↓wb_lxor, ↓wb_lneg, ↓wb_lushr, ↓wb_lshl, ↓wb_l2i, ↓wb_lcmp, ↓wb_dupI, ↓wb_dupR, ↓wb_dup2, ↓wb_popI, ↓wb_popR, ↓wb_getI, ↓wb_getL, ↓wb_getR, ↓wb_putI, ↓wb_putZ, ↓wb_putL, ↓wb_putR, ↓wb_iaload, ↓wb_laload, ↓wb_zaload, ↓wb_aaload, ↓wb_iastore, ↓wb_lastore, ↓wb_zastore, ↓wb_aastore, ↓wb_alen, ↓wb_newI, ↓wb_newL, ↓wb_newZ, ↓wb_newA, ↓wb_new, ↓wb_obj, ↓wb_sld, ↓wb_slen, ↓wb_goto, ↓wb_ifeq, ↓wb_iceq, ↓wb_ifne, ↓wb_icne, ↓wb_iflt, ↓wb_iclt, ↓wb_ifge, ↓wb_icge, ↓wb_ifgt, ↓wb_icgt, ↓wb_ifle, ↓wb_icle, ↓wb_ifnull, ↓wb_ifnonnull, ↓wb_ret, ↓wb_iret, ↓wb_lret, ↓wb_aret, ↓wb_zret, ↓wb_tsw0, ↓wb_tsw1, ↓wb_lsw0, ↓wb_lsw1, ↓wb_calls0, ↓wb_calls1, ↓wb_callv1, ↓wb_calls2, ↓wb_callv2, ↓wb_calls3, ↓wb_callv3, ↓wb_callv4, ↓wb_callv5, ↓wb_callv6, oB_some, ldI_z, ldI_s, ldL_z, ldL_s, ldR_z, ldR_s, ls1_z, ls1_1n, ls1_1i, ls1_1r, ls1_1l, ls1_s, ls2_z, ls2_1n, ls2_1i, ls2_1r, ls2_1l, ls2_s, List.length_cons, List.length_nil, Nat.reduceAdd, Nat.reduceLT, Nat.reduceLeDiff, Nat.reduceDiv, Nat.reduceMod, Int.reduceToNat, Int.reduceAdd, Nat.zero_add, true_and, Option.toList_some, Option.toList_none, List.cons_append, List.nil_append, true_or, or_true, and_true, false_or, or_false, Int.reduceEq, Int.reduceLT, Int.reduceLE, Int.reduceNeg, not_true_eq_false, not_false_eq_true, Bool.and_eq_true, Bool.or_eq_true, decide_eq_true_eq, ↓reduceIte, b2i_0, b2i_01, b2i_01c, Nat.add_left_cancel_iff, Nat.add_eq_left, Nat.left_eq_add, Nat.reduceEqDiff, false_and, and_false, Bool.false_eq_true, Bool.true_eq_false, ↓wr_iadd, ↓wr_isub, ↓wr_imul, wr_id, sx_c sx, sx_r0 sx, sx_a1 sx, sx_r2 sx, sx_a3 sx, n16]
    refine xc_wAt sa (fun m a5b gpb hwc => ?_) (fun na => absurd a5 (na n))
    have em := A5_u g0 gp a5b
    subst em
    clear a5b gpb
    have n0 : (pb + 20 * g.toNat = 0) = False := by simp; omega
    by_cases c16 : np = 16
    · have c1 : ((np : Int) < 16) = False := by simp; omega
      simp (maxSteps := 2000000) (disch := omega) only [↓wb_const, ↓wb_lconst, ↓wb_null, ↓wb_iload, ↓wb_lload, ↓wb_aload, ↓wb_istore, ↓wb_lstore, ↓wb_astore, ↓wb_iinc, ↓wb_iand, ↓wb_ior, ↓wb_ishr, ↓wb_idiv, ↓wb_irem, ↓wb_ladd, ↓wb_lsub, ↓wb_land, ↓wb_lor, ↓wb_lxor, ↓wb_lneg, ↓wb_lushr, ↓wb_lshl, ↓wb_l2i, ↓wb_lcmp, ↓wb_dupI, ↓wb_dupR, ↓wb_dup2, ↓wb_popI, ↓wb_popR, ↓wb_getI, ↓wb_getL, ↓wb_getR, ↓wb_putI, ↓wb_putZ, ↓wb_putL, ↓wb_putR, ↓wb_iaload, ↓wb_laload, ↓wb_zaload, ↓wb_aaload, ↓wb_iastore, ↓wb_lastore, ↓wb_zastore, ↓wb_aastore, ↓wb_alen, ↓wb_newI, ↓wb_newL, ↓wb_newZ, ↓wb_newA, ↓wb_new, ↓wb_obj, ↓wb_sld, ↓wb_slen, ↓wb_goto, ↓wb_ifeq, ↓wb_iceq, ↓wb_ifne, ↓wb_icne, ↓wb_iflt, ↓wb_iclt, ↓wb_ifge, ↓wb_icge, ↓wb_ifgt, ↓wb_icgt, ↓wb_ifle, ↓wb_icle, ↓wb_ifnull, ↓wb_ifnonnull, ↓wb_ret, ↓wb_iret, ↓wb_lret, ↓wb_aret, ↓wb_zret, ↓wb_tsw0, ↓wb_tsw1, ↓wb_lsw0, ↓wb_lsw1, ↓wb_calls0, ↓wb_calls1, ↓wb_callv1, ↓wb_calls2, ↓wb_callv2, ↓wb_calls3, ↓wb_callv3, ↓wb_callv4, ↓wb_callv5, ↓wb_callv6, oB_some, ldI_z, ldI_s, ldL_z, ldL_s, ldR_z, ldR_s, ls1_z, ls1_1n, ls1_1i, ls1_1r, ls1_1l, ls1_s, ls2_z, ls2_1n, ls2_1i, ls2_1r, ls2_1l, ls2_s, List.length_cons, List.length_nil, Nat.reduceAdd, Nat.reduceLT, Nat.reduceLeDiff, Nat.reduceDiv, Nat.reduceMod, Int.reduceToNat, Int.reduceAdd, Nat.zero_add, true_and, Option.toList_some, Option.toList_none, List.cons_append, List.nil_append, true_or, or_true, and_true, false_or, or_false, Int.reduceEq, Int.reduceLT, Int.reduceLE, Int.reduceNeg, not_true_eq_false, not_false_eq_true, Bool.and_eq_true, Bool.or_eq_true, decide_eq_true_eq, ↓reduceIte, b2i_0, b2i_01, b2i_01c, Nat.add_left_cancel_iff, Nat.add_eq_left, Nat.left_eq_add, Nat.reduceEqDiff, false_and, and_false, Bool.false_eq_true, Bool.true_eq_false, ↓wr_iadd, ↓wr_isub, ↓wr_imul, wr_id, ↓wl_93_17, sx_c sx, sx_r0 sx, sx_a1 sx, sx_r2 sx, sx_a3 sx, n16, n0, e2, c1]
      refine mc_cut (SA_rg sa) (fun k h2 a6 lt _ => by omega) (fun h2 _ fs b => ⟨_, rfl, rfl, Sim_FS fs b sim⟩)
    · have c1 : ((np : Int) < 16) = True := by simp; omega
      obtain ⟨pm, aK, aX, aE⟩ := GP_ref g0 gp
      obtain ⟨-, -, hn, n60, wf, hin⟩ := pm
      have pi := gp.2.2.1
      have sp := pi.1
      obtain ⟨gn, rfl⟩ : ∃ gn : Nat, g = gn := ⟨g.toNat, by omega⟩
      rw [Int.toNat_natCast] at gp aK aX aE pi sp hB hwc n0 n16 ho ⊢
      obtain ⟨sn, rfl⟩ : ∃ sn : Nat, s = sn := ⟨s.toNat, by have := (stm_n st0).1; omega⟩
      have sl := stm_lt st0
      have gnp : gn < np := by have := a5.1.2; omega
      obtain ⟨c, hc⟩ : ∃ c, c = pb + 20 * gn := ⟨_, rfl⟩
      obtain ⟨d, hd⟩ : ∃ d, d = pb + 20 * np := ⟨_, rfl⟩
      rw [← hc] at aK aX aE pi sp hB hwc n0 n16 ho ⊢
      rw [← hd] at e4
      simp (maxSteps := 2000000) (disch := omega) only [↓wb_const, ↓wb_lconst, ↓wb_null, ↓wb_iload, ↓wb_lload, ↓wb_aload, ↓wb_istore, ↓wb_lstore, ↓wb_astore, ↓wb_iinc, ↓wb_iand, ↓wb_ior, ↓wb_ishr, ↓wb_idiv, ↓wb_irem, ↓wb_ladd, ↓wb_lsub, ↓wb_land, ↓wb_lor, ↓wb_lxor, ↓wb_lneg, ↓wb_lushr, ↓wb_lshl, ↓wb_l2i, ↓wb_lcmp, ↓wb_dupI, ↓wb_dupR, ↓wb_dup2, ↓wb_popI, ↓wb_popR, ↓wb_getI, ↓wb_getL, ↓wb_getR, ↓wb_putI, ↓wb_putZ, ↓wb_putL, ↓wb_putR, ↓wb_iaload, ↓wb_laload, ↓wb_zaload, ↓wb_aaload, ↓wb_iastore, ↓wb_lastore, ↓wb_zastore, ↓wb_aastore, ↓wb_alen, ↓wb_newI, ↓wb_newL, ↓wb_newZ, ↓wb_newA, ↓wb_new, ↓wb_obj, ↓wb_sld, ↓wb_slen, ↓wb_goto, ↓wb_ifeq, ↓wb_iceq, ↓wb_ifne, ↓wb_icne, ↓wb_iflt, ↓wb_iclt, ↓wb_ifge, ↓wb_icge, ↓wb_ifgt, ↓wb_icgt, ↓wb_ifle, ↓wb_icle, ↓wb_ifnull, ↓wb_ifnonnull, ↓wb_ret, ↓wb_iret, ↓wb_lret, ↓wb_aret, ↓wb_zret, ↓wb_tsw0, ↓wb_tsw1, ↓wb_lsw0, ↓wb_lsw1, ↓wb_calls0, ↓wb_calls1, ↓wb_callv1, ↓wb_calls2, ↓wb_callv2, ↓wb_calls3, ↓wb_callv3, ↓wb_callv4, ↓wb_callv5, ↓wb_callv6, oB_some, ldI_z, ldI_s, ldL_z, ldL_s, ldR_z, ldR_s, ls1_z, ls1_1n, ls1_1i, ls1_1r, ls1_1l, ls1_s, ls2_z, ls2_1n, ls2_1i, ls2_1r, ls2_1l, ls2_s, List.length_cons, List.length_nil, Nat.reduceAdd, Nat.reduceLT, Nat.reduceLeDiff, Nat.reduceDiv, Nat.reduceMod, Int.reduceToNat, Int.reduceAdd, Nat.zero_add, true_and, Option.toList_some, Option.toList_none, List.cons_append, List.nil_append, true_or, or_true, and_true, false_or, or_false, Int.reduceEq, Int.reduceLT, Int.reduceLE, Int.reduceNeg, not_true_eq_false, not_false_eq_true, Bool.and_eq_true, Bool.or_eq_true, decide_eq_true_eq, ↓reduceIte, b2i_0, b2i_01, b2i_01c, Nat.add_left_cancel_iff, Nat.add_eq_left, Nat.left_eq_add, Nat.reduceEqDiff, false_and, and_false, Bool.false_eq_true, Bool.true_eq_false, ↓wr_iadd, ↓wr_isub, ↓wr_imul, wr_id, ↓wl_93_19, sx_c sx, sx_r0 sx, sx_a1 sx, sp_c16 sp, sx_r2 sx, sx_a3 sx, sp_c sp, n16, n0, e2, c1, ↓cc_one]
      refine pc_sliceOf sp (fun i hi => by rw [bit1_n (by omega)] at hi; omega) (fun q u hq hu => nx60 n60 hB q u hq hu) (fun w hw => ?_)
      have hw2 : ∀ i, w.getLsbD i = true ↔ i < 60 ∧ Sl (mK o h1 gn) (mX o h1 gn) (mE o h1 gn) m sn i := fun i => by
        rw [hw i, SL_eq n60 hB (fun i hi => by rw [bit1_n (by omega)] at hi; omega)]
        have : (fun u : Nat => (bit1 (sn : Int)).getLsbD u = true) = fun u => u = sn := by funext u; exact propext (bit1_n (by omega))
        rw [this]
        exact Iff.rfl
      have wfc : WF (cK c h1) (cX c h1) (cE c h1) m := WF_cg aK aX aE wf
      have hw3 : ∀ i, w.getLsbD i = true ↔ i < 60 ∧ Sl (cK c h1) (cX c h1) (cE c h1) m sn i := fun i => by rw [hw2 i, Sl_cg aK aX aE wf]
      have hwm : stk (mK o h1 gn) m = [] := a5.2.2
      have cc := kpC_CC wfc hwc n60 hw3
      simp (maxSteps := 2000000) (disch := omega) only [↓wb_const, ↓wb_lconst, ↓wb_null, ↓wb_iload, ↓wb_lload, ↓wb_aload, ↓wb_istore, ↓wb_lstore, ↓wb_astore, ↓wb_iinc, ↓wb_iand, ↓wb_ior, ↓wb_ishr, ↓wb_idiv, ↓wb_irem, ↓wb_ladd, ↓wb_lsub, ↓wb_land, ↓wb_lor, ↓wb_lxor, ↓wb_lneg, ↓wb_lushr, ↓wb_lshl, ↓wb_l2i, ↓wb_lcmp, ↓wb_dupI, ↓wb_dupR, ↓wb_dup2, ↓wb_popI, ↓wb_popR, ↓wb_getI, ↓wb_getL, ↓wb_getR, ↓wb_putI, ↓wb_putZ, ↓wb_putL, ↓wb_putR, ↓wb_iaload, ↓wb_laload, ↓wb_zaload, ↓wb_aaload, ↓wb_iastore, ↓wb_lastore, ↓wb_zastore, ↓wb_aastore, ↓wb_alen, ↓wb_newI, ↓wb_newL, ↓wb_newZ, ↓wb_newA, ↓wb_new, ↓wb_obj, ↓wb_sld, ↓wb_slen, ↓wb_goto, ↓wb_ifeq, ↓wb_iceq, ↓wb_ifne, ↓wb_icne, ↓wb_iflt, ↓wb_iclt, ↓wb_ifge, ↓wb_icge, ↓wb_ifgt, ↓wb_icgt, ↓wb_ifle, ↓wb_icle, ↓wb_ifnull, ↓wb_ifnonnull, ↓wb_ret, ↓wb_iret, ↓wb_lret, ↓wb_aret, ↓wb_zret, ↓wb_tsw0, ↓wb_tsw1, ↓wb_lsw0, ↓wb_lsw1, ↓wb_calls0, ↓wb_calls1, ↓wb_callv1, ↓wb_calls2, ↓wb_callv2, ↓wb_calls3, ↓wb_callv3, ↓wb_callv4, ↓wb_callv5, ↓wb_callv6, oB_some, ldI_z, ldI_s, ldL_z, ldL_s, ldR_z, ldR_s, ls1_z, ls1_1n, ls1_1i, ls1_1r, ls1_1l, ls1_s, ls2_z, ls2_1n, ls2_1i, ls2_1r, ls2_1l, ls2_s, List.length_cons, List.length_nil, Nat.reduceAdd, Nat.reduceLT, Nat.reduceLeDiff, Nat.reduceDiv, Nat.reduceMod, Int.reduceToNat, Int.reduceAdd, Nat.zero_add, true_and, Option.toList_some, Option.toList_none, List.cons_append, List.nil_append, true_or, or_true, and_true, false_or, or_false, Int.reduceEq, Int.reduceLT, Int.reduceLE, Int.reduceNeg, not_true_eq_false, not_false_eq_true, Bool.and_eq_true, Bool.or_eq_true, decide_eq_true_eq, ↓reduceIte, b2i_0, b2i_01, b2i_01c, Nat.add_left_cancel_iff, Nat.add_eq_left, Nat.left_eq_add, Nat.reduceEqDiff, false_and, and_false, Bool.false_eq_true, Bool.true_eq_false, ↓wr_iadd, ↓wr_isub, ↓wr_imul, wr_id, sx_c sx, sx_r0 sx, sx_a1 sx, sp_c16 sp, sx_r2 sx, sx_a3 sx, sp_c sp]
      refine pc_cutTo pi (sx_t3 sx) e4 (by omega) (by omega) (by omega) (by omega) cc (fun h2 ec pid cid lin num => ?_)
      have lo : ∀ y, y < d → hT h2 y = hT h1 y ∧ hR h2 y = hR h1 y ∧ hL h2 y = hL h1 y ∧ (¬ y = x + 3 → hI h2 y = hI h1 y) := ec.2.2
      have sx2 : SLX x h2 := SLX_loc (fun y a b => ⟨(lo y (by omega)).1, fun _ => (lo y (by omega)).2.1⟩) sx
      have b1 : (0 ≤ (np : Int) ∧ (np : Int) < 16) = True := by simp; omega
      have hx5 : hI h2 x 5 = np := by rw [(lo x (by omega)).2.2.2 (by omega)]; exact e2
      have ens : (np : Int) + 1 - 1 = np := by omega
      have od : isO h2 d 2 = true := isO_of pid.1.1
      simp (maxSteps := 2000000) (disch := omega) only [↓wb_const, ↓wb_lconst, ↓wb_null, ↓wb_iload, ↓wb_lload, ↓wb_aload, ↓wb_istore, ↓wb_lstore, ↓wb_astore, ↓wb_iinc, ↓wb_iand, ↓wb_ior, ↓wb_ishr, ↓wb_idiv, ↓wb_irem, ↓wb_ladd, ↓wb_lsub, ↓wb_land, ↓wb_lor, ↓wb_lxor, ↓wb_lneg, ↓wb_lushr, ↓wb_lshl, ↓wb_l2i, ↓wb_lcmp, ↓wb_dupI, ↓wb_dupR, ↓wb_dup2, ↓wb_popI, ↓wb_popR, ↓wb_getI, ↓wb_getL, ↓wb_getR, ↓wb_putI, ↓wb_putZ, ↓wb_putL, ↓wb_putR, ↓wb_iaload, ↓wb_laload, ↓wb_zaload, ↓wb_aaload, ↓wb_iastore, ↓wb_lastore, ↓wb_zastore, ↓wb_aastore, ↓wb_alen, ↓wb_newI, ↓wb_newL, ↓wb_newZ, ↓wb_newA, ↓wb_new, ↓wb_obj, ↓wb_sld, ↓wb_slen, ↓wb_goto, ↓wb_ifeq, ↓wb_iceq, ↓wb_ifne, ↓wb_icne, ↓wb_iflt, ↓wb_iclt, ↓wb_ifge, ↓wb_icge, ↓wb_ifgt, ↓wb_icgt, ↓wb_ifle, ↓wb_icle, ↓wb_ifnull, ↓wb_ifnonnull, ↓wb_ret, ↓wb_iret, ↓wb_lret, ↓wb_aret, ↓wb_zret, ↓wb_tsw0, ↓wb_tsw1, ↓wb_lsw0, ↓wb_lsw1, ↓wb_calls0, ↓wb_calls1, ↓wb_callv1, ↓wb_calls2, ↓wb_callv2, ↓wb_calls3, ↓wb_callv3, ↓wb_callv4, ↓wb_callv5, ↓wb_callv6, oB_some, ldI_z, ldI_s, ldL_z, ldL_s, ldR_z, ldR_s, ls1_z, ls1_1n, ls1_1i, ls1_1r, ls1_1l, ls1_s, ls2_z, ls2_1n, ls2_1i, ls2_1r, ls2_1l, ls2_s, List.length_cons, List.length_nil, Nat.reduceAdd, Nat.reduceLT, Nat.reduceLeDiff, Nat.reduceDiv, Nat.reduceMod, Int.reduceToNat, Int.reduceAdd, Nat.zero_add, true_and, Option.toList_some, Option.toList_none, List.cons_append, List.nil_append, true_or, or_true, and_true, false_or, or_false, Int.reduceEq, Int.reduceLT, Int.reduceLE, Int.reduceNeg, not_true_eq_false, not_false_eq_true, Bool.and_eq_true, Bool.or_eq_true, decide_eq_true_eq, ↓reduceIte, b2i_0, b2i_01, b2i_01c, Nat.add_left_cancel_iff, Nat.add_eq_left, Nat.left_eq_add, Nat.reduceEqDiff, false_and, and_false, Bool.false_eq_true, Bool.true_eq_false, ↓wr_iadd, ↓wr_isub, ↓wr_imul, wr_id, sx_c sx2, sx_r0 sx2, sx_a1 sx2, sx_r2 sx2, sx_a3 sx2, od, b1, Int.toNat_natCast, hI_setR, hx5, isO_setR, isO_setI, hI_eq, ens]
      obtain ⟨h3, hh3⟩ : ∃ h3, setI (setR h2 (x + 1) np d) x 5 ((np : Int) + 1) = h3 := ⟨_, rfl⟩
      rw [hh3]
      have T3 : hT h3 = hT h2 := by rw [← hh3, hT_setI, hT_setR]
      have L3 : hL h3 = hL h2 := by rw [← hh3, hL_setI, hL_setR]
      have R3 : ∀ y j, hR h3 y j = if y = x + 1 ∧ j = np then d else hR h2 y j := fun y j => by rw [← hh3, hR_setI, hR_setR]
      have I3 : ∀ y, ¬ y = x → hI h3 y = hI h2 y := fun y hy => by rw [← hh3, row_ne hy, hI_setR]
      have X3 : ∀ j, ¬ j = 5 → hI h3 x j = hI h2 x j := fun j hj => by rw [← hh3, hI_ne2 hj, hI_setR]
      have X35 : hI h3 x 5 = (np : Int) + 1 := by rw [← hh3, hI_eq]
      have N3 : hN h3 = d + 20 ∧ hS h3 = hS h2 := by rw [← hh3, hN_setI, hN_setR, hS_setI, hS_setR]; exact ⟨ec.1, rfl⟩
      clear hh3
      have sm3 : SM o h3 := SM_loc (fun y a b => by rw [T3, (lo y (by omega)).1]) (by funext j; rw [R3, if_neg (by omega), (lo o (by omega)).2.1]) sm
      have r3 : ∀ y, o ≤ y → y ≤ o + 24 → hI h3 y = hI h1 y := fun y a b => by rw [I3 y (by omega), (lo y (by omega)).2.2.2 (by omega)]
      obtain ⟨mk1, mk2, mk3⟩ := mK_rows (o := o) (fun y a b => r3 y (by omega) (by omega)) (gn : Int)
      have rg3 : RG o h3 := by
        obtain ⟨-, q2, q3, q4, q5⟩ := SA_rg sa
        refine ⟨sm3, by rw [r3 o (by omega) (by omega)]; exact q2, fun g a b => ?_, fun v => by rw [r3 (o + 20) (by omega) (by omega)]; exact q4 v, fun v => by rw [r3 (o + 13) (by omega) (by omega)]; exact q5 v⟩
        rw [r3 o (by omega) (by omega)] at b
        obtain ⟨k, pk⟩ := q3 g a b
        refine ⟨k, ?_⟩
        have := PM_loc (g := g.toNat) sm3 (h := h1) ⟨by rw [r3 (o + 1) (by omega) (by omega)], fun y z a b _ _ => by rw [r3 y (by omega) (by omega)]⟩ (by rw [show ((g.toNat : Nat) : Int) = g by omega]; exact pk)
        rw [show ((g.toNat : Nat) : Int) = g by omega] at this
        exact this
      have o0 : hI h3 o 0 = np := by rw [r3 o (by omega) (by omega)]; exact e1
      have a6of : ∀ k, A6 o h3 gn sn sn k → k = m := fun k a6 => by
        have p := (A6_5.mp a6).1.2.1
        have p3 := p.2.2.1
        have p4 : hI h3 (o + 1) ((gn : Int).toNat) = k := p3
        rw [r3 (o + 1) (by omega) (by omega)] at p4
        have p5 : hI h1 (o + 1) ((gn : Int).toNat) = m := hn
        omega
      refine mc_cut rg3 (fun k h4 a6 lt cp => ?_) (fun h4 na _ _ => ?_)
      · have ek := a6of k a6
        subst ek
        obtain ⟨h5, F, fs, bb20, fk, dist, n4, cr⟩ := cp
        rw [o0, Int.toNat_natCast] at fk cr
        rw [mk1, mk2, mk3] at dist cr
        rw [o0] at n4 ⊢
        refine ⟨np, rfl, rfl, ?_⟩
        have hF : ∀ i, i < 60 → (0 ≤ F i ↔ Sl (mK o h1 gn) (mX o h1 gn) (mE o h1 gn) k sn i) := fun i hi => by
          have := dist i hi
          rw [Int.toNat_natCast] at this
          exact far_Sl n60 (by omega) this
        have PE : ∀ p, p < k → kpF (mK o h1 gn) k F p = kpC (cK c h1) k w p := fun p hp => kp_eq wf n60 aK hw2 hF p hp
        have ccr := kpF_CC (s := sn) wf hwm n60 hF
        generalize hPr : kpF (mK o h1 gn) k F = Pr at *
        generalize hPc : kpC (cK c h1) k w = P at *
        have ckE : ∀ q, q ≤ k → ck Pr q = ck P q := fun q hq => ck_cg q (fun p hp => PE p (by omega))
        have xxE : ∀ q, q < k → Pr q = true → xxF (mK o h1 gn) (mX o h1 gn) k F q = mX o h1 gn q := fun q hq hp => xx_X wf ccr (fun p sp pp => by
          rw [← hPr] at pp
          unfold kpF at pp
          rw [if_pos sp] at pp
          simpa using pp) hq hp
        obtain ⟨cr1, cr2, cr3⟩ := cr
        rw [show min 60 k = k by omega] at cr1
        -- rows of the last heap
        have T4 : hT h4 = hT h3 ∧ hR h4 = hR h3 ∧ h4.1 = h3.1 := ⟨by rw [fk.2.1, fs.2.1], by rw [fk.2.2.1, fs.2.2.1], by rw [fk.1, fs.1]⟩
        have out : ∀ y, y < o ∨ o + 24 < y → hI h4 y = hI h3 y ∧ hL h4 y = hL h3 y := fun y hy => ⟨by rw [(fk.2.2.2.1 y hy).1, (fs.2.2.2.1 y hy).1], by rw [(fk.2.2.2.1 y hy).2, (fs.2.2.2.1 y hy).2]⟩
        have mid : ∀ y, o + 4 < y → y < o + 14 → hI h4 y = hI h1 y := fun y a b => by rw [fk.2.2.2.2.1 y a (by omega) (by omega), fs.2.2.2.2.1 y (by omega) (by omega), r3 y (by omega) (by omega)]
        have oo : ∀ j, ¬ (j = 0 ∨ j = 21 ∨ j = 22 ∨ j = 26 ∨ j = 32 ∨ j = 34) → hI h4 o j = hI h1 o j := fun j hj => by rw [fk.2.2.2.2.2.1 j (by omega), fs.2.2.2.2.2 j (by omega), r3 o (by omega) (by omega)]
        have sm4 : SM o h4 := by rw [SM_same T4.1 T4.2.1]; exact sm3
        have low : ∀ y, y < o → ¬ y = x → ¬ y = x + 3 → hI h4 y = hI h1 y := fun y a b e => by rw [(out y (by omega)).1, I3 y b, (lo y (by omega)).2.2.2 e]
        have hgh : ∀ y, o + 24 < y → y < d → hI h4 y = hI h1 y := fun y a b => by rw [(out y (by omega)).1, I3 y (by omega), (lo y (by omega)).2.2.2 (by omega)]
        have rg : ∀ g, ¬ g = np → RG1 o g h1 h4 := fun g hg => ⟨by rw [fk.2.2.2.2.2.2.1 g hg, fs.2.2.2.2.1 (o + 1) (by omega) (by omega), r3 (o + 1) (by omega) (by omega)], fun y z a b z1 z2 => by rw [fk.2.2.2.2.2.2.2 y z a b (by omega), fs.2.2.2.2.1 y (by omega) (by omega), r3 y (by omega) (by omega)]⟩
        have ce : ∀ y, d ≤ y → y ≤ d + 19 → hT h4 y = hT h2 y ∧ hR h4 y = hR h2 y ∧ hI h4 y = hI h2 y ∧ hL h4 y = hL h2 y := fun y a b => ⟨by rw [T4.1, T3], by rw [T4.2.1]; funext j; rw [R3, if_neg (by omega)], by rw [(out y (by omega)).1, I3 y (by omega)], by rw [(out y (by omega)).2, L3]⟩
        obtain ⟨pi4, ck4, cx4, ce4⟩ := PI_loc ce pid
        -- the lines of the new program, on the reference's side
        have mrow : ∀ p, p < k → Pr p = true → mK o h4 np (ck Pr p : Nat) = mK o h1 gn p ∧ mX o h4 np (ck Pr p : Nat) = mX o h1 gn p ∧ mE o h4 np (ck Pr p : Nat) = mE o h1 gn p := by
          intro p hp pp
          obtain ⟨q1, q2, q3⟩ := cr3 p (by omega) hp pp
          have et : (60 * (np : Int) + ((ck Pr p : Nat) : Int)).toNat = 60 * np + ck Pr p := by omega
          show hI h4 (o + 2) (60 * (np : Int) + ((ck Pr p : Nat) : Int)).toNat = _ ∧ hI h4 (o + 3) (60 * (np : Int) + ((ck Pr p : Nat) : Int)).toNat = _ ∧ hI h4 (o + 4) (60 * (np : Int) + ((ck Pr p : Nat) : Int)).toNat = _
          rw [et, q1, q2, q3, xxE p hp pp]
          exact ⟨rfl, rfl, rfl⟩
        have ckle := ck_le (P := Pr) k
        refine ⟨⟨?_, sm4, ⟨g1, g2, g3⟩, ⟨np + 1, by rw [n4]; omega, ?_, by omega, ?_, ?_, fun g hg => ?_⟩, ?_, ?_, ?_⟩, ?_, ?_, ?_, ?_⟩
        · exact SLX_loc (fun y a b => ⟨by rw [T4.1, T3, (lo y (by omega)).1], fun nb => by rw [T4.2.1]; funext j; rw [R3, if_neg (fun z => nb z.1), (lo y (by omega)).2.1]⟩) sx
        · rw [(out x (by omega)).1, X35]; omega
        · have : hN h4 = hN h3 := by unfold hN; rw [T4.2.2]
          rw [this, N3.1]; omega
        · have : hS h4 = hS h3 := by unfold hS; rw [T4.2.2]
          have := ec.2.1
          rw [‹hS h4 = hS h3›, N3.2]; omega
        · by_cases eg : g = np
          · subst eg
            rw [← ckE k (Nat.le_refl _)] at pi4 cid
            refine ⟨ck Pr k, ?_, ⟨sm4, ⟨by omega, by omega⟩, ?_, by omega, cut_WF wf ccr mrow, fun q hq => ?_⟩, by rw [← hd]; exact pi4, by rw [← hd]; exact CI_hi (fun y a b => ⟨(ce y a b).2.2.1, (ce y a b).2.2.2⟩) cid, ?_, ?_, ?_⟩
            · rw [T4.2.1, R3, if_pos ⟨rfl, rfl⟩, hd]
            · show hI h4 (o + 1) ((g : Int).toNat) = _; rw [Int.toNat_natCast]; exact cr1
            · obtain ⟨p, a, b, rfl⟩ := ck_sur (P := Pr) k q hq
              obtain ⟨-, q2, q3⟩ := mrow p a b
              rw [q2, q3]; exact hin p a
            · intro q a b
              obtain ⟨p, pa, pb2, pe⟩ := ck_sur (P := Pr) k q.toNat (by omega)
              have e : q = ((ck Pr p : Nat) : Int) := by omega
              rw [e, (mrow p pa pb2).1, ← hd, ck4, ckE p (by omega), (lin p pa (by rw [← PE p pa]; exact pb2)).1]
              exact aK p (by omega) (by omega)
            · intro q a b
              obtain ⟨p, pa, pb2, pe⟩ := ck_sur (P := Pr) k q.toNat (by omega)
              have e : q = ((ck Pr p : Nat) : Int) := by omega
              rw [e, (mrow p pa pb2).2.1, ← hd, cx4, ckE p (by omega), (lin p pa (by rw [← PE p pa]; exact pb2)).2.1]
              exact aX p (by omega) (by omega)
            · intro q a b
              obtain ⟨p, pa, pb2, pe⟩ := ck_sur (P := Pr) k q.toNat (by omega)
              have e : q = ((ck Pr p : Nat) : Int) := by omega
              rw [e, (mrow p pa pb2).2.2, ← hd, ce4, ckE p (by omega), (lin p pa (by rw [← PE p pa]; exact pb2)).2.2]
              exact aE p (by omega) (by omega)
          · obtain ⟨n2, gp2⟩ := e6 g (by omega)
            refine ⟨n2, GP_loc gp2 ?_ sm4 (rg g eg) (fun y a b => ⟨by rw [T4.1, T3, (lo y (by omega)).1], by rw [T4.2.1]; funext j; rw [R3, if_neg (by omega), (lo y (by omega)).2.1], hgh y (by omega) (by omega), by rw [(out y (by omega)).2, L3, (lo y (by omega)).2.2.1]⟩)⟩
            rw [T4.2.1, R3, if_neg (fun z => eg z.2), (lo (x + 1) (by omega)).2.1]
        · intro v; rw [fk.2.2.2.2.1 (o + 20) (by omega) (by omega) (by omega)]; exact bb20 v
        · intro v; rw [mid (o + 13) (by omega) (by omega)]; exact b13 v
        · intro v; rw [mid (o + 12) (by omega) (by omega)]; exact b12 v
        · intro j hj; rw [low (x + 2) (by omega) (by omega) (by omega), mid (o + 5) (by omega) (by omega)]; exact ss j hj
        · intro j hj
          rw [(out (x + 3) (by omega)).1, I3 (x + 3) (by omega), num j hj, cr2 j hj]
          by_cases e : j < k ∧ P j = true
          · rw [if_pos e, if_pos ⟨e.1, by rw [PE j e.1]; exact e.2⟩, ckE j (by omega)]
          · rw [if_neg e, if_neg (fun z => e ⟨z.1, by rw [← PE j z.1]; exact z.2⟩)]
        · intro p; rw [(out x (by omega)).2, L3, (lo x (by omega)).2.2.1, mid (o + 13) (by omega) (by omega)]; exact sh p
        · refine SRn_G sm4 (fun j hj => oo j (by omega)) (by rw [n4]; omega) ?_ (fun y a b => low y (by omega) (by omega) (by omega)) (fun y a b => mid y (by omega) (by omega)) (fun a b e => rg _ ?_) sr
          · rw [(out x (by omega)).1, X3 6 (by omega), (lo x (by omega)).2.2.2 (by omega)]
          · obtain ⟨sr1, -⟩ := sr
            rcases sr1 with ⟨z, -⟩ | ⟨-, -, z, -⟩
            · omega
            · omega
      · refine absurd (na m ?_ (by rw [o0]; omega)) id
        rw [A6_5]
        refine ⟨⟨by rw [o0]; exact ⟨by omega, by omega⟩, ?_, by rw [mk1]; exact hwm⟩, by rw [mk1]; exact st0, by rw [mk1]; exact st0⟩
        exact PM_loc sm3 (h := h1) ⟨by rw [r3 (o + 1) (by omega) (by omega)], fun y z a b _ _ => by rw [r3 y (by omega) (by omega)]⟩ gp.2.1
  · have sa := sa0
    have z1 : ((0 : Nat) == 1) = false := rfl
    simp (maxSteps := 2000000) (disch := omega) only [↓wb_const, ↓wb_lconst, ↓wb_null, ↓wb_iload, ↓wb_lload, ↓wb_aload, ↓wb_istore, ↓wb_lstore, ↓wb_astore, ↓wb_iinc, ↓wb_iand, ↓wb_ior, ↓wb_ishr, ↓wb_idiv, ↓wb_irem, ↓wb_ladd, ↓wb_lsub, ↓wb_land, ↓wb_lor, ↓wb_lxor, ↓wb_lneg, ↓wb_lushr, ↓wb_lshl, ↓wb_l2i, ↓wb_lcmp, ↓wb_dupI, ↓wb_dupR, ↓wb_dup2, ↓wb_popI, ↓wb_popR, ↓wb_getI, ↓wb_getL, ↓wb_getR, ↓wb_putI, ↓wb_putZ, ↓wb_putL, ↓wb_putR, ↓wb_iaload, ↓wb_laload, ↓wb_zaload, ↓wb_aaload, ↓wb_iastore, ↓wb_lastore, ↓wb_zastore, ↓wb_aastore, ↓wb_alen, ↓wb_newI, ↓wb_newL, ↓wb_newZ, ↓wb_newA, ↓wb_new, ↓wb_obj, ↓wb_sld, ↓wb_slen, ↓wb_goto, ↓wb_ifeq, ↓wb_iceq, ↓wb_ifne, ↓wb_icne, ↓wb_iflt, ↓wb_iclt, ↓wb_ifge, ↓wb_icge, ↓wb_ifgt, ↓wb_icgt, ↓wb_ifle, ↓wb_icle, ↓wb_ifnull, ↓wb_ifnonnull, ↓wb_ret, ↓wb_iret, ↓wb_lret, ↓wb_aret, ↓wb_zret, ↓wb_tsw0, ↓wb_tsw1, ↓wb_lsw0, ↓wb_lsw1, ↓wb_calls0, ↓wb_calls1, ↓wb_callv1, ↓wb_calls2, ↓wb_callv2, ↓wb_calls3, ↓wb_callv3, ↓wb_callv4, ↓wb_callv5, ↓wb_callv6, oB_some, ldI_z, ldI_s, ldL_z, ldL_s, ldR_z, ldR_s, ls1_z, ls1_1n, ls1_1i, ls1_1r, ls1_1l, ls1_s, ls2_z, ls2_1n, ls2_1i, ls2_1r, ls2_1l, ls2_s, List.length_cons, List.length_nil, Nat.reduceAdd, Nat.reduceLT, Nat.reduceLeDiff, Nat.reduceDiv, Nat.reduceMod, Int.reduceToNat, Int.reduceAdd, Nat.zero_add, true_and, Option.toList_some, Option.toList_none, List.cons_append, List.nil_append, true_or, or_true, and_true, false_or, or_false, Int.reduceEq, Int.reduceLT, Int.reduceLE, Int.reduceNeg, not_true_eq_false, not_false_eq_true, Bool.and_eq_true, Bool.or_eq_true, decide_eq_true_eq, ↓reduceIte, b2i_0, b2i_01, b2i_01c, Nat.add_left_cancel_iff, Nat.add_eq_left, Nat.left_eq_add, Nat.reduceEqDiff, false_and, and_false, Bool.false_eq_true, Bool.true_eq_false, ↓wr_iadd, ↓wr_isub, ↓wr_imul, wr_id, sx_c sx0, sx_r0 sx0, sx_a1 sx0, sx_r2 sx0, sx_a3 sx0]
    refine xc_wAt sa (fun m _ _ _ => ?_) (fun _ => ?_)
    · simp (maxSteps := 2000000) (disch := omega) only [↓wb_const, ↓wb_lconst, ↓wb_null, ↓wb_iload, ↓wb_lload, ↓wb_aload, ↓wb_istore, ↓wb_lstore, ↓wb_astore, ↓wb_iinc, ↓wb_iand, ↓wb_ior, ↓wb_ishr, ↓wb_idiv, ↓wb_irem, ↓wb_ladd, ↓wb_lsub, ↓wb_land, ↓wb_lor, ↓wb_lxor, ↓wb_lneg, ↓wb_lushr, ↓wb_lshl, ↓wb_l2i, ↓wb_lcmp, ↓wb_dupI, ↓wb_dupR, ↓wb_dup2, ↓wb_popI, ↓wb_popR, ↓wb_getI, ↓wb_getL, ↓wb_getR, ↓wb_putI, ↓wb_putZ, ↓wb_putL, ↓wb_putR, ↓wb_iaload, ↓wb_laload, ↓wb_zaload, ↓wb_aaload, ↓wb_iastore, ↓wb_lastore, ↓wb_zastore, ↓wb_aastore, ↓wb_alen, ↓wb_newI, ↓wb_newL, ↓wb_newZ, ↓wb_newA, ↓wb_new, ↓wb_obj, ↓wb_sld, ↓wb_slen, ↓wb_goto, ↓wb_ifeq, ↓wb_iceq, ↓wb_ifne, ↓wb_icne, ↓wb_iflt, ↓wb_iclt, ↓wb_ifge, ↓wb_icge, ↓wb_ifgt, ↓wb_icgt, ↓wb_ifle, ↓wb_icle, ↓wb_ifnull, ↓wb_ifnonnull, ↓wb_ret, ↓wb_iret, ↓wb_lret, ↓wb_aret, ↓wb_zret, ↓wb_tsw0, ↓wb_tsw1, ↓wb_lsw0, ↓wb_lsw1, ↓wb_calls0, ↓wb_calls1, ↓wb_callv1, ↓wb_calls2, ↓wb_callv2, ↓wb_calls3, ↓wb_callv3, ↓wb_callv4, ↓wb_callv5, ↓wb_callv6, oB_some, ldI_z, ldI_s, ldL_z, ldL_s, ldR_z, ldR_s, ls1_z, ls1_1n, ls1_1i, ls1_1r, ls1_1l, ls1_s, ls2_z, ls2_1n, ls2_1i, ls2_1r, ls2_1l, ls2_s, List.length_cons, List.length_nil, Nat.reduceAdd, Nat.reduceLT, Nat.reduceLeDiff, Nat.reduceDiv, Nat.reduceMod, Int.reduceToNat, Int.reduceAdd, Nat.zero_add, true_and, Option.toList_some, Option.toList_none, List.cons_append, List.nil_append, true_or, or_true, and_true, false_or, or_false, Int.reduceEq, Int.reduceLT, Int.reduceLE, Int.reduceNeg, not_true_eq_false, not_false_eq_true, Bool.and_eq_true, Bool.or_eq_true, decide_eq_true_eq, ↓reduceIte, b2i_0, b2i_01, b2i_01c, Nat.add_left_cancel_iff, Nat.add_eq_left, Nat.left_eq_add, Nat.reduceEqDiff, false_and, and_false, Bool.false_eq_true, Bool.true_eq_false, ↓wr_iadd, ↓wr_isub, ↓wr_imul, wr_id, ↓wl_93_17]
      refine mc_cut (SA_rg sa) (fun k h2 a6 _ _ => ?_) (fun h2 _ fs b => ⟨_, rfl, rfl, Sim_FS fs b sim0⟩)
      have := A6_5.mp a6
      exact absurd this.2.1 (na k this.1)
    · simp (maxSteps := 2000000) (disch := omega) only [↓wb_const, ↓wb_lconst, ↓wb_null, ↓wb_iload, ↓wb_lload, ↓wb_aload, ↓wb_istore, ↓wb_lstore, ↓wb_astore, ↓wb_iinc, ↓wb_iand, ↓wb_ior, ↓wb_ishr, ↓wb_idiv, ↓wb_irem, ↓wb_ladd, ↓wb_lsub, ↓wb_land, ↓wb_lor, ↓wb_lxor, ↓wb_lneg, ↓wb_lushr, ↓wb_lshl, ↓wb_l2i, ↓wb_lcmp, ↓wb_dupI, ↓wb_dupR, ↓wb_dup2, ↓wb_popI, ↓wb_popR, ↓wb_getI, ↓wb_getL, ↓wb_getR, ↓wb_putI, ↓wb_putZ, ↓wb_putL, ↓wb_putR, ↓wb_iaload, ↓wb_laload, ↓wb_zaload, ↓wb_aaload, ↓wb_iastore, ↓wb_lastore, ↓wb_zastore, ↓wb_aastore, ↓wb_alen, ↓wb_newI, ↓wb_newL, ↓wb_newZ, ↓wb_newA, ↓wb_new, ↓wb_obj, ↓wb_sld, ↓wb_slen, ↓wb_goto, ↓wb_ifeq, ↓wb_iceq, ↓wb_ifne, ↓wb_icne, ↓wb_iflt, ↓wb_iclt, ↓wb_ifge, ↓wb_icge, ↓wb_ifgt, ↓wb_icgt, ↓wb_ifle, ↓wb_icle, ↓wb_ifnull, ↓wb_ifnonnull, ↓wb_ret, ↓wb_iret, ↓wb_lret, ↓wb_aret, ↓wb_zret, ↓wb_tsw0, ↓wb_tsw1, ↓wb_lsw0, ↓wb_lsw1, ↓wb_calls0, ↓wb_calls1, ↓wb_callv1, ↓wb_calls2, ↓wb_callv2, ↓wb_calls3, ↓wb_callv3, ↓wb_callv4, ↓wb_callv5, ↓wb_callv6, oB_some, ldI_z, ldI_s, ldL_z, ldL_s, ldR_z, ldR_s, ls1_z, ls1_1n, ls1_1i, ls1_1r, ls1_1l, ls1_s, ls2_z, ls2_1n, ls2_1i, ls2_1r, ls2_1l, ls2_s, List.length_cons, List.length_nil, Nat.reduceAdd, Nat.reduceLT, Nat.reduceLeDiff, Nat.reduceDiv, Nat.reduceMod, Int.reduceToNat, Int.reduceAdd, Nat.zero_add, true_and, Option.toList_some, Option.toList_none, List.cons_append, List.nil_append, true_or, or_true, and_true, false_or, or_false, Int.reduceEq, Int.reduceLT, Int.reduceLE, Int.reduceNeg, not_true_eq_false, not_false_eq_true, Bool.and_eq_true, Bool.or_eq_true, decide_eq_true_eq, ↓reduceIte, b2i_0, b2i_01, b2i_01c, Nat.add_left_cancel_iff, Nat.add_eq_left, Nat.left_eq_add, Nat.reduceEqDiff, false_and, and_false, Bool.false_eq_true, Bool.true_eq_false, ↓wr_iadd, ↓wr_isub, ↓wr_imul, wr_id, ↓wl_93_17]
      refine mc_cut (SA_rg sa) (fun k h2 a6 _ _ => ?_) (fun h2 _ fs b => ⟨_, rfl, rfl, Sim_FS fs b sim0⟩)
      have := A6_5.mp a6
      exact absurd this.2.1 (na k this.1)
