/-! ===== one call on both sides: line ===== -/
theorem cmd_line {sc : Scr} {x o pb : Nat} {h : Hp} (sim : Sim x o pb h) (g k u v : Int) (hu : inR u) (hv : inR v) : CMD sc 76 122 [aI g, aI k, aI u, aI v] x o pb h := by
  obtain ⟨sa, ss, sb, sh, sr⟩ := sim
  have sim : Sim x o pb h := ⟨sa, ss, sb, sh, sr⟩
  have sx := sa.1
  have sm := sa.2.1
  obtain ⟨g1, g2, g3⟩ := sa.2.2.1
  obtain ⟨np, e1, e2, e3, e4, e5, e6⟩ := sa.2.2.2.1
  have b20 := sa.2.2.2.2.1
  have b13 := sa.2.2.2.2.2.1
  have b12 := sa.2.2.2.2.2.2
  unfold CMD
  rw [wc_76]
  simp (maxSteps := 2000000) (disch := omega) only [↓wb_const, ↓wb_lconst, ↓wb_null, ↓wb_iload, ↓wb_lload, ↓wb_aload, ↓wb_istore, ↓wb_lstore, ↓wb_astore, ↓wb_iinc, ↓wb_iand, ↓wb_ior, ↓wb_ishr, ↓wb_idiv, ↓wb_irem, ↓wb_ladd, ↓wb_lsub, ↓wb_land, ↓wb_lor, ↓wb_lxor, ↓wb_lneg, ↓wb_lushr, ↓wb_lshl, ↓wb_l2i, ↓wb_lcmp, ↓wb_dupI, ↓wb_dupR, ↓wb_dup2, ↓wb_popI, ↓wb_popR, ↓wb_getI, ↓wb_getL, ↓wb_getR, ↓wb_putI, ↓wb_putZ, ↓wb_putL, ↓wb_putR, ↓wb_iaload, ↓wb_laload, ↓wb_zaload, ↓wb_aaload, ↓wb_iastore, ↓wb_lastore, ↓wb_zastore, ↓wb_aastore, ↓wb_alen, ↓wb_newI, ↓wb_newL, ↓wb_newZ, ↓wb_newA, ↓wb_new, ↓wb_obj, ↓wb_sld, ↓wb_slen, ↓wb_goto, ↓wb_ifeq, ↓wb_iceq, ↓wb_ifne, ↓wb_icne, ↓wb_iflt, ↓wb_iclt, ↓wb_ifge, ↓wb_icge, ↓wb_ifgt, ↓wb_icgt, ↓wb_ifle, ↓wb_icle, ↓wb_ifnull, ↓wb_ifnonnull, ↓wb_ret, ↓wb_iret, ↓wb_lret, ↓wb_aret, ↓wb_zret, ↓wb_tsw0, ↓wb_tsw1, ↓wb_lsw0, ↓wb_lsw1, ↓wb_calls0, ↓wb_calls1, ↓wb_callv1, ↓wb_calls2, ↓wb_callv2, ↓wb_calls3, ↓wb_callv3, ↓wb_callv4, ↓wb_callv5, ↓wb_callv6, oB_some, ldI_z, ldI_s, ldL_z, ldL_s, ldR_z, ldR_s, ls1_z, ls1_1n, ls1_1i, ls1_1r, ls1_1l, ls1_s, ls2_z, ls2_1n, ls2_1i, ls2_1r, ls2_1l, ls2_s, List.length_cons, List.length_nil, Nat.reduceAdd, Nat.reduceLT, Nat.reduceLeDiff, Nat.reduceDiv, Nat.reduceMod, Int.reduceToNat, Int.reduceAdd, Nat.zero_add, true_and, Option.toList_some, Option.toList_none, List.cons_append, List.nil_append, true_or, or_true, and_true, false_or, or_false, Int.reduceEq, Int.reduceLT, Int.reduceLE, Int.reduceNeg, not_true_eq_false, not_false_eq_true, Bool.and_eq_true, Bool.or_eq_true, decide_eq_true_eq, ↓reduceIte, b2i_0, b2i_01, b2i_01c, Nat.add_left_cancel_iff, Nat.add_eq_left, Nat.left_eq_add, Nat.reduceEqDiff, false_and, and_false, Bool.false_eq_true, Bool.true_eq_false, ↓wr_iadd, ↓wr_isub, ↓wr_imul, wr_id, ↓wl_76_0, sx_c sx, sx_r3 sx]
  refine xc_pAt sa (fun n q0 q1 gp => ?_) (fun ng => ?_)
  · obtain ⟨gn, rfl⟩ : ∃ gn : Nat, g = gn := ⟨g.toNat, by omega⟩
    rw [Int.toNat_natCast] at gp ⊢
    obtain ⟨p1, pm, pi, ci, aK, aX, aE⟩ := gp
    have gp : GP x o pb h gn n := ⟨p1, pm, pi, ci, aK, aX, aE⟩
    have pm0 := pm
    obtain ⟨-, ⟨-, g16⟩, hn, n60, wf, hin⟩ := pm
    have sp := pi.1
    have hn1 := PI_n pi
    obtain ⟨c, hc⟩ : ∃ c, c = pb + 20 * gn := ⟨_, rfl⟩
    rw [← hc] at p1 pi ci aK aX aE sp hn1 ⊢
    have n0 : (c = 0) = False := by simp; omega
    have ptk := fun (Q : Option AV → Hp → Prop) => pc_takes (sc := sc) (Q := Q) (k := k) (u := u) (v := v) pi hu
    rw [← rtF_cg aK (by omega)] at ptk
    by_cases ok : n < 60 ∧ 0 ≤ k ∧ k ≤ 8 ∧ rtF (mK o h gn) n k u v = true
    · obtain ⟨nl, k0, k8, rt⟩ := ok
      have tb : (decide (n < 60) && (decide (0 ≤ k) && (decide (k ≤ 8) && rtF (mK o h gn) n k u v))) = true := by rw [rt]; simp [nl, k0, k8]
      rw [tb] at ptk
      simp (maxSteps := 2000000) (disch := omega) only [↓wb_const, ↓wb_lconst, ↓wb_null, ↓wb_iload, ↓wb_lload, ↓wb_aload, ↓wb_istore, ↓wb_lstore, ↓wb_astore, ↓wb_iinc, ↓wb_iand, ↓wb_ior, ↓wb_ishr, ↓wb_idiv, ↓wb_irem, ↓wb_ladd, ↓wb_lsub, ↓wb_land, ↓wb_lor, ↓wb_lxor, ↓wb_lneg, ↓wb_lushr, ↓wb_lshl, ↓wb_l2i, ↓wb_lcmp, ↓wb_dupI, ↓wb_dupR, ↓wb_dup2, ↓wb_popI, ↓wb_popR, ↓wb_getI, ↓wb_getL, ↓wb_getR, ↓wb_putI, ↓wb_putZ, ↓wb_putL, ↓wb_putR, ↓wb_iaload, ↓wb_laload, ↓wb_zaload, ↓wb_aaload, ↓wb_iastore, ↓wb_lastore, ↓wb_zastore, ↓wb_aastore, ↓wb_alen, ↓wb_newI, ↓wb_newL, ↓wb_newZ, ↓wb_newA, ↓wb_new, ↓wb_obj, ↓wb_sld, ↓wb_slen, ↓wb_goto, ↓wb_ifeq, ↓wb_iceq, ↓wb_ifne, ↓wb_icne, ↓wb_iflt, ↓wb_iclt, ↓wb_ifge, ↓wb_icge, ↓wb_ifgt, ↓wb_icgt, ↓wb_ifle, ↓wb_icle, ↓wb_ifnull, ↓wb_ifnonnull, ↓wb_ret, ↓wb_iret, ↓wb_lret, ↓wb_aret, ↓wb_zret, ↓wb_tsw0, ↓wb_tsw1, ↓wb_lsw0, ↓wb_lsw1, ↓wb_calls0, ↓wb_calls1, ↓wb_callv1, ↓wb_calls2, ↓wb_callv2, ↓wb_calls3, ↓wb_callv3, ↓wb_callv4, ↓wb_callv5, ↓wb_callv6, oB_some, ldI_z, ldI_s, ldL_z, ldL_s, ldR_z, ldR_s, ls1_z, ls1_1n, ls1_1i, ls1_1r, ls1_1l, ls1_s, ls2_z, ls2_1n, ls2_1i, ls2_1r, ls2_1l, ls2_s, List.length_cons, List.length_nil, Nat.reduceAdd, Nat.reduceLT, Nat.reduceLeDiff, Nat.reduceDiv, Nat.reduceMod, Int.reduceToNat, Int.reduceAdd, Nat.zero_add, true_and, Option.toList_some, Option.toList_none, List.cons_append, List.nil_append, true_or, or_true, and_true, false_or, or_false, Int.reduceEq, Int.reduceLT, Int.reduceLE, Int.reduceNeg, not_true_eq_false, not_false_eq_true, Bool.and_eq_true, Bool.or_eq_true, decide_eq_true_eq, ↓reduceIte, b2i_0, b2i_01, b2i_01c, Nat.add_left_cancel_iff, Nat.add_eq_left, Nat.left_eq_add, Nat.reduceEqDiff, false_and, and_false, Bool.false_eq_true, Bool.true_eq_false, ↓wr_iadd, ↓wr_isub, ↓wr_imul, wr_id, ↓wl_76_14, sp_c sp, n0, ↓ptk, b2i_t, Int.reduceEq]
      refine pc_append2 pi nl k0 k8 (by rw [← rtF_cg aK (by omega)]; exact rt) hu hv (fun h1 fr1 pi1 kK kX kE => ?_)
      have sx1 : SLX x h1 := by rw [SLX_same fr1.2.1 fr1.2.2.1]; exact sx
      have sk1 := sx_k1 sx1
      have x6 : hI h1 x 6 = hI h x 6 := FR_i fr1 (by omega)
      -- behind the clearing
      have seg : ∀ h2 : Hp, FR (x + 8) (x + 13) h1 h2 → (∀ y, x + 8 < y → y < x + 12 → hI h2 y = hI h1 y) → (hI h2 (x + 8) 5 = if (gn : Int) = hI h x 6 then 0 else hI h (x + 8) 5) → (¬ (gn : Int) = hI h x 6 → hI h2 (x + 8) = hI h1 (x + 8)) → WB sc 76 (BL 76 27) [some (aR x), some (aI gn), some (aI k), some (aI u), some (aI v), some (aR c)] [] h2 fun r1 h1 => WC sc 122 [aR o, aI gn, aI k, aI u, aI v] h1 fun r2 h2 => ∃ a : Int, r1 = some (aI a) ∧ r2 = some (aI a) ∧ Sim x o pb h2 := by
        intro h2 fr2 mid2 sz2 r82
        have T2 : hT h2 = hT h := by rw [fr2.2.1, fr1.2.1]
        have R2 : hR h2 = hR h := by rw [fr2.2.2.1, fr1.2.2.1]
        have sp2 : SP c h2 := by rw [SP_same T2 R2]; exact sp
        have s12 : hI h2 c 12 = ((n + 1 : Nat) : Int) := by rw [FR_i fr2 (by omega)]; exact PI_n pi1
        have ens : ((n + 1 : Nat) : Int) - 1 = n := by omega
        have sm2 : SM o h2 := by rw [SM_same T2 R2]; exact sm
        have lo2 : ∀ y, y < x + 8 ∨ x + 13 < y → y < c ∨ c + 10 < y → hI h2 y = hI h y ∧ hL h2 y = hL h y := fun y a b => ⟨by rw [(fr2.2.2.2 y a).1, (fr1.2.2.2 y b).1], by rw [(fr2.2.2.2 y a).2, (fr1.2.2.2 y b).2]⟩
        have mK2 : mK o h2 gn = mK o h gn ∧ mX o h2 gn = mX o h gn ∧ mE o h2 gn = mE o h gn := mK_rows (fun y a b => (lo2 y (by omega) (by omega)).1) gn
        have ref := fun (Q : Option AV → Hp → Prop) => mc_line (sc := sc) (Q := Q) (k := k) (u := u) (v := v) sm2 (by omega) (by show (gn : Int) < hI h2 o 0; rw [(lo2 o (by omega) (by omega)).1]; exact q1) g16 (by show hI h2 (o + 1) _ = (n : Int); rw [(lo2 (o + 1) (by omega) (by omega)).1]; exact hn) (by omega) (by omega) k0 k8 (by rw [mK2.1]; exact rt)
        rw [bl_76_27]
        simp (maxSteps := 2000000) (disch := omega) only [↓wb_const, ↓wb_lconst, ↓wb_null, ↓wb_iload, ↓wb_lload, ↓wb_aload, ↓wb_istore, ↓wb_lstore, ↓wb_astore, ↓wb_iinc, ↓wb_iand, ↓wb_ior, ↓wb_ishr, ↓wb_idiv, ↓wb_irem, ↓wb_ladd, ↓wb_lsub, ↓wb_land, ↓wb_lor, ↓wb_lxor, ↓wb_lneg, ↓wb_lushr, ↓wb_lshl, ↓wb_l2i, ↓wb_lcmp, ↓wb_dupI, ↓wb_dupR, ↓wb_dup2, ↓wb_popI, ↓wb_popR, ↓wb_getI, ↓wb_getL, ↓wb_getR, ↓wb_putI, ↓wb_putZ, ↓wb_putL, ↓wb_putR, ↓wb_iaload, ↓wb_laload, ↓wb_zaload, ↓wb_aaload, ↓wb_iastore, ↓wb_lastore, ↓wb_zastore, ↓wb_aastore, ↓wb_alen, ↓wb_newI, ↓wb_newL, ↓wb_newZ, ↓wb_newA, ↓wb_new, ↓wb_obj, ↓wb_sld, ↓wb_slen, ↓wb_goto, ↓wb_ifeq, ↓wb_iceq, ↓wb_ifne, ↓wb_icne, ↓wb_iflt, ↓wb_iclt, ↓wb_ifge, ↓wb_icge, ↓wb_ifgt, ↓wb_icgt, ↓wb_ifle, ↓wb_icle, ↓wb_ifnull, ↓wb_ifnonnull, ↓wb_ret, ↓wb_iret, ↓wb_lret, ↓wb_aret, ↓wb_zret, ↓wb_tsw0, ↓wb_tsw1, ↓wb_lsw0, ↓wb_lsw1, ↓wb_calls0, ↓wb_calls1, ↓wb_callv1, ↓wb_calls2, ↓wb_callv2, ↓wb_calls3, ↓wb_callv3, ↓wb_callv4, ↓wb_callv5, ↓wb_callv6, oB_some, ldI_z, ldI_s, ldL_z, ldL_s, ldR_z, ldR_s, ls1_z, ls1_1n, ls1_1i, ls1_1r, ls1_1l, ls1_s, ls2_z, ls2_1n, ls2_1i, ls2_1r, ls2_1l, ls2_s, List.length_cons, List.length_nil, Nat.reduceAdd, Nat.reduceLT, Nat.reduceLeDiff, Nat.reduceDiv, Nat.reduceMod, Int.reduceToNat, Int.reduceAdd, Nat.zero_add, true_and, Option.toList_some, Option.toList_none, List.cons_append, List.nil_append, true_or, or_true, and_true, false_or, or_false, Int.reduceEq, Int.reduceLT, Int.reduceLE, Int.reduceNeg, not_true_eq_false, not_false_eq_true, Bool.and_eq_true, Bool.or_eq_true, decide_eq_true_eq, ↓reduceIte, b2i_0, b2i_01, b2i_01c, Nat.add_left_cancel_iff, Nat.add_eq_left, Nat.left_eq_add, Nat.reduceEqDiff, false_and, and_false, Bool.false_eq_true, Bool.true_eq_false, ↓wr_iadd, ↓wr_isub, ↓wr_imul, wr_id, sp_c sp2, s12, ens]
        rw [ref]
        refine ⟨n, rfl, rfl, ?_⟩
        have f6 : hI h2 o 6 = hI h o 6 := by rw [(lo2 o (by omega) (by omega)).1]
        have f7 : hI h2 o 7 = hI h o 7 := by rw [(lo2 o (by omega) (by omega)).1]
        have f14 : hI h2 o 14 = hI h o 14 := by rw [(lo2 o (by omega) (by omega)).1]
        show Sim x o pb (setI (putH o (st2 o h2 (opc (mK o h2 gn) n) (opw (mK o h2 gn) n)) gn n k u v) o 14 (if ¬ hI h2 o 6 = 0 ∧ hI h2 o 7 = gn then 0 else hI h2 o 14))
        rw [f6, f7, f14]
        have fs := FS_st (o := o) (h := h2) (a := opc (mK o h2 gn) n) (b := opw (mK o h2 gn) n)
        have strow : ∀ y j, ¬ (y = o ∧ (j = 21 ∨ j = 22)) → hI (st2 o h2 (opc (mK o h2 gn) n) (opw (mK o h2 gn) n)) y j = hI h2 y j := fun y j q => st2_r q
        generalize st2 o h2 (opc (mK o h2 gn) n) (opw (mK o h2 gn) n) = h3 at *
        generalize hw0 : (if ¬ hI h o 6 = 0 ∧ hI h o 7 = gn then 0 else hI h o 14) = w0
        obtain ⟨h4, hh4⟩ : ∃ h4, setI (putH o h3 gn n k u v) o 14 w0 = h4 := ⟨_, rfl⟩
        rw [hh4]
        have et : (60 * (gn : Int) + (n : Int)).toNat = 60 * gn + n := by omega
        have T4 : hT h4 = hT h ∧ hR h4 = hR h ∧ h4.1 = h.1 := by
          rw [← hh4]; unfold putH; simp only [hT_setI, hR_setI, h1_setI2]
          exact ⟨by rw [fs.2.1, T2], by rw [fs.2.2.1, R2], by rw [fs.1, fr2.1, fr1.1]⟩
        have L4 : hL h4 = hL h3 := by rw [← hh4]; unfold putH; simp only [hL_setI]
        have I4 : ∀ y j, ¬ (y = o ∧ (j = 14 ∨ j = 21 ∨ j = 22)) → ¬ (y = o + 1 ∧ j = gn) → ¬ (o + 2 ≤ y ∧ y ≤ o + 4 ∧ j = 60 * gn + n) → hI h4 y j = hI h2 y j := fun y j a b d => by
          rw [← hh4]; unfold putH
          rw [et, Int.toNat_natCast, hI_setI, if_neg (by omega), hI_setI, if_neg (by omega), hI_setI, if_neg (by omega), hI_setI, if_neg (by omega), hI_setI, if_neg (by omega)]
          exact strow y j (by omega)
        have O14 : hI h4 o 14 = w0 := by rw [← hh4, hI_eq]
        have M4 : hI h4 (o + 1) gn = ((n + 1 : Nat) : Int) := by
          rw [← hh4, hI_ne (by omega)]; unfold putH; rw [Int.toNat_natCast, hI_eq]; omega
        have K4 : hI h4 (o + 2) (60 * gn + n) = k ∧ hI h4 (o + 3) (60 * gn + n) = u ∧ hI h4 (o + 4) (60 * gn + n) = v := by
          rw [← hh4]; unfold putH
          rw [et]
          refine ⟨?_, ?_, ?_⟩
          · rw [hI_ne (by omega), hI_ne (by omega), hI_ne (by omega), hI_ne (by omega), hI_eq]
          · rw [hI_ne (by omega), hI_ne (by omega), hI_ne (by omega), hI_eq]
          · rw [hI_ne (by omega), hI_ne (by omega), hI_eq]
        clear hh4
        -- rows
        have row : ∀ y, y < o ∨ o + 5 ≤ y → hI h4 y = hI h2 y := fun y hy => funext fun j => I4 y j (by omega) (by omega) (by omega)
        have lrow : ∀ y, y < o ∨ o + 24 < y → hL h4 y = hL h2 y := fun y hy => by rw [L4, (fs.2.2.2.1 y hy).2]
        have row0 : ∀ y, y < x + 8 ∨ x + 13 < y → y < c ∨ c + 10 < y → y < o ∨ o + 5 ≤ y → hI h4 y = hI h y := fun y a b d => by rw [row y d, (lo2 y a b).1]
        have lrow0 : ∀ y, y < x + 8 ∨ x + 13 < y → y < c ∨ c + 10 < y → y < o ∨ o + 24 < y → hL h4 y = hL h y := fun y a b d => by rw [lrow y d, (lo2 y a b).2]
        have oo : ∀ j, ¬ (j = 14 ∨ j = 21 ∨ j = 22) → hI h4 o j = hI h o j := fun j hj => by rw [I4 o j (by omega) (by omega) (by omega), (lo2 o (by omega) (by omega)).1]
        have sm4 : SM o h4 := by rw [SM_same T4.1 T4.2.1]; exact sm
        have rg : ∀ g, ¬ g = gn → RG1 o g h h4 := fun g hg => ⟨by rw [I4 _ _ (by omega) (by omega) (by omega), (lo2 (o + 1) (by omega) (by omega)).1], fun y z a b z1 z2 => by rw [I4 _ _ (by omega) (by omega) (by omega), (lo2 y (by omega) (by omega)).1]⟩
        -- the program's own rows
        have mq : ∀ q : Int, 0 ≤ q → q < 60 → mK o h4 gn q = (if q = n then k else mK o h gn q) ∧ mX o h4 gn q = (if q = n then u else mX o h gn q) ∧ mE o h4 gn q = (if q = n then v else mE o h gn q) := by
          intro q a b
          have eq1 : (60 * (gn : Int) + q).toNat = 60 * gn + q.toNat := by omega
          show hI h4 (o + 2) (60 * (gn : Int) + q).toNat = (if q = n then k else hI h (o + 2) (60 * (gn : Int) + q).toNat) ∧ hI h4 (o + 3) (60 * (gn : Int) + q).toNat = (if q = n then u else hI h (o + 3) (60 * (gn : Int) + q).toNat) ∧ hI h4 (o + 4) (60 * (gn : Int) + q).toNat = (if q = n then v else hI h (o + 4) (60 * (gn : Int) + q).toNat)
          rw [eq1]
          by_cases e : q = n
          · rw [if_pos e, if_pos e, if_pos e, e, Int.toNat_natCast]; exact K4
          · rw [if_neg e, if_neg e, if_neg e, I4 _ _ (by omega) (by omega) (by omega), I4 _ _ (by omega) (by omega) (by omega), I4 _ _ (by omega) (by omega) (by omega), (lo2 (o + 2) (by omega) (by omega)).1, (lo2 (o + 3) (by omega) (by omega)).1, (lo2 (o + 4) (by omega) (by omega)).1]
            exact ⟨rfl, rfl, rfl⟩
        have aKn : agr n (mK o h gn) (mK o h4 gn) := fun q a b => by rw [(mq q a (by omega)).1, if_neg (by omega)]
        have aXn : agr n (mX o h gn) (mX o h4 gn) := fun q a b => by rw [(mq q a (by omega)).2.1, if_neg (by omega)]
        have aEn : agr n (mE o h gn) (mE o h4 gn) := fun q a b => by rw [(mq q a (by omega)).2.2, if_neg (by omega)]
        have mn := mq n (by omega) (by omega)
        rw [if_pos rfl, if_pos rfl, if_pos rfl] at mn
        have wf4 : WF (mK o h4 gn) (mX o h4 gn) (mE o h4 gn) (n + 1) := WF_more (WF_cg aKn aXn aEn wf) (by rw [mn.1]; exact ⟨k0, k8⟩) (by rw [mn.1, mn.2.1, mn.2.2, ← rtF_cg aKn (by omega)]; exact rt)
        have ce : ∀ y, c ≤ y → y ≤ c + 19 → hT h4 y = hT h1 y ∧ hR h4 y = hR h1 y ∧ hI h4 y = hI h1 y ∧ hL h4 y = hL h1 y := fun y a b => ⟨by rw [T4.1, fr1.2.1], by rw [T4.2.1, fr1.2.2.1], by rw [row y (by omega), (fr2.2.2.2 y (by omega)).1], by rw [lrow y (by omega), (fr2.2.2.2 y (by omega)).2]⟩
        obtain ⟨pi4, ck4, cx4, ce4⟩ := PI_loc ce pi1
        have cig : CI c h4 (n + 1) := by
          obtain ⟨c1, c2, -, -⟩ := ci
          have d1 : hI h4 (c + 11) 5 = hI h (c + 11) 5 := by rw [row0 (c + 11) (by omega) (by omega) (by omega)]
          have d2 : hI h4 (c + 16) 3 = hI h (c + 16) 3 := by rw [row0 (c + 16) (by omega) (by omega) (by omega)]
          refine ⟨by rw [d1]; omega, by rw [d2]; omega, fun z => ?_, fun z => ?_⟩
          · rw [d1] at z; omega
          · rw [d2] at z; omega
        have ww : w0 = hI h o 14 ∨ w0 = 0 := by rw [← hw0]; split; exact Or.inr rfl; exact Or.inl rfl
        refine ⟨⟨?_, sm4, ⟨g1, g2, g3⟩, ⟨np, by rw [oo 0 (by omega)]; exact e1, ?_, e3, by unfold hN at e4 ⊢; rw [T4.2.2]; exact e4, by unfold hS at e5 ⊢; rw [T4.2.2]; exact e5, fun g hg => ?_⟩, ?_, ?_, ?_⟩, ?_, ?_, ?_, ?_⟩
        · rw [SLX_same T4.1 T4.2.1]; exact sx
        · rw [row0 x (by omega) (by omega) (by omega)]; exact e2
        · by_cases eg : g = gn
          · subst eg
            refine ⟨n + 1, ?_, ⟨sm4, ⟨by omega, g16⟩, ?_, by omega, wf4, fun q hq => ?_⟩, by rw [← hc]; exact pi4, by rw [← hc]; exact cig, ?_, ?_, ?_⟩
            · rw [T4.2.1, ← hc]; exact p1
            · show hI h4 (o + 1) ((g : Int).toNat) = _; rw [Int.toNat_natCast]; exact M4
            · obtain ⟨z1, z2, z3⟩ := mq q (by omega) (by omega)
              rw [z2, z3]
              by_cases e : q = n
              · rw [if_pos (by omega), if_pos (by omega)]; exact ⟨hu, hv⟩
              · rw [if_neg (by omega), if_neg (by omega)]; exact hin q (by omega)
            · rw [← hc, ck4]
              intro q a b
              rw [(mq q a (by omega)).1, kK]
              by_cases e : q = n
              · rw [if_pos e, if_pos (by omega)]
              · rw [if_neg e, if_neg (by omega)]; exact aK q a (by omega)
            · rw [← hc, cx4]
              intro q a b
              rw [(mq q a (by omega)).2.1, kX]
              by_cases e : q = n
              · rw [if_pos e, if_pos (by omega)]
              · rw [if_neg e, if_neg (by omega)]; exact aX q a (by omega)
            · rw [← hc, ce4]
              intro q a b
              rw [(mq q a (by omega)).2.2, kE]
              by_cases e : q = n
              · rw [if_pos e, if_pos (by omega)]
              · rw [if_neg e, if_neg (by omega)]; exact aE q a (by omega)
          · obtain ⟨m, gp2⟩ := e6 g hg
            exact ⟨m, GP_loc gp2 (by rw [T4.2.1]) sm4 (rg g eg) (fun y a b => ⟨by rw [T4.1], by rw [T4.2.1], row0 y (by omega) (by omega) (by omega), lrow0 y (by omega) (by omega) (by omega)⟩)⟩
        · intro z; rw [row0 (o + 20) (by omega) (by omega) (by omega)]; exact b20 z
        · intro z; rw [row0 (o + 13) (by omega) (by omega) (by omega)]; exact b13 z
        · intro z; rw [row0 (o + 12) (by omega) (by omega) (by omega)]; exact b12 z
        · intro j hj; rw [row0 (x + 2) (by omega) (by omega) (by omega), row0 (o + 5) (by omega) (by omega) (by omega)]; exact ss j hj
        · intro j hj; rw [row0 (x + 3) (by omega) (by omega) (by omega), row0 (o + 14) (by omega) (by omega) (by omega)]; exact sb j hj
        · intro p; rw [lrow0 x (by omega) (by omega) (by omega), row0 (o + 13) (by omega) (by omega) (by omega)]; exact sh p
        · by_cases lat : (gn : Int) = hI h x 6
          · -- the record is empty
            rw [if_pos lat] at sz2
            obtain ⟨sr1, ks, rs, t0⟩ := sr
            rcases sr1 with ⟨z, z6, -⟩ | ⟨z6, zx, zr, za, zd⟩
            · omega
            · rw [if_pos ⟨by omega, by omega⟩] at hw0
              have w00 : hI h4 o 14 = 0 := by rw [O14]; exact hw0.symm
              refine ⟨Or.inr ⟨by rw [oo 6 (by omega)]; exact z6, by rw [oo 7 (by omega), row0 x (by omega) (by omega) (by omega)]; exact zx, by rw [oo 7 (by omega), oo 0 (by omega)]; exact zr, by rw [oo 9 (by omega), row0 (x + 4) (by omega) (by omega) (by omega)]; exact za, by rw [oo 8 (by omega), row0 (x + 4) (by omega) (by omega) (by omega)]; exact zd⟩, ?_, ⟨by rw [show hI h4 o 14 = hI h4 o 14 from rfl, w00]; omega, fun z => by rw [show hI h4 o 14 = hI h4 o 14 from rfl, w00] at z; omega⟩, by rw [oo 10 (by omega)]; exact t0⟩
              have hv : vw o h4 0 = ((0, hI h4 o 32, hI h o 10, 0), hI h (o + 7), hI h (o + 8), hI h (o + 6), hI h (o + 9), hI h (o + 10), hI h (o + 11), hI h (o + 12)) := by
                unfold vw
                rw [oo 10 (by omega), w00, row0 (o + 7) (by omega) (by omega) (by omega), row0 (o + 8) (by omega) (by omega) (by omega), row0 (o + 6) (by omega) (by omega) (by omega), row0 (o + 9) (by omega) (by omega) (by omega), row0 (o + 10) (by omega) (by omega) (by omega), row0 (o + 11) (by omega) (by omega) (by omega), row0 (o + 12) (by omega) (by omega) (by omega)]
                rfl
              rw [hv]
              obtain ⟨⟨k1, k2⟩, k3, k4, k5, -, -⟩ := ks
              refine ⟨⟨by rw [row0 (x + 4) (by omega) (by omega) (by omega)]; exact k1, ?_⟩, fun j hj => ?_, fun j hj => ?_, fun j h1 h2 => ?_, fun j hj => absurd hj (Nat.not_lt_zero j), fun j hj => absurd hj (Nat.not_lt_zero j)⟩
              · show hI h4 (x + 4 + 4) 5 = ((0 : Nat) : Int)
                rw [row (x + 8) (by omega)]; exact sz2
              · rw [row0 (x + 4 + 1) (by omega) (by omega) (by omega)]; exact k3 j hj
              · rw [row0 (x + 4 + 2) (by omega) (by omega) (by omega)]; exact k4 j hj
              · rw [row0 (x + 4 + 3) (by omega) (by omega) (by omega)]; exact k5 j h1 h2
          · -- another program ran
            rw [if_neg lat] at sz2
            have w00 : w0 = hI h o 14 := by
              rw [← hw0]
              obtain ⟨sr1, -⟩ := sr
              rcases sr1 with ⟨z, -⟩ | ⟨z6, zx, -⟩
              · rw [if_neg (fun q => q.1 z)]
              · rw [if_neg (fun q => lat (by rw [zx, q.2]))]
            have r8 : hI h4 (x + 8) = hI h (x + 8) := by rw [row (x + 8) (by omega), r82 lat, (fr1.2.2.2 (x + 8) (by omega)).1]
            refine SRn_G sm4 (fun j hj => ?_) (by rw [oo 0 (by omega)]; omega) (by rw [row0 x (by omega) (by omega) (by omega)]) (fun y a b => ?_) (fun y a b => row0 y (by omega) (by omega) (by omega)) (fun a b d => rg _ ?_) sr
            · by_cases ej : j = 14
              · rw [ej, O14, w00]
              · exact oo j (by omega)
            · by_cases ey : y = x + 8
              · rw [ey]; exact r8
              · by_cases ey2 : y < x + 8
                · exact row0 y (by omega) (by omega) (by omega)
                · rw [row y (by omega), mid2 y (by omega) (by omega), (fr1.2.2.2 y (by omega)).1]
            · obtain ⟨sr1, -⟩ := sr
              rcases sr1 with ⟨z, -⟩ | ⟨-, zx, -⟩
              · omega
              · intro z; exact lat (by rw [zx]; omega)
      by_cases lat : (gn : Int) = hI h x 6
      · have lat' : ((gn : Int) = hI h x 6) = True := eq_true lat
        simp (maxSteps := 2000000) (disch := omega) only [↓wb_const, ↓wb_lconst, ↓wb_null, ↓wb_iload, ↓wb_lload, ↓wb_aload, ↓wb_istore, ↓wb_lstore, ↓wb_astore, ↓wb_iinc, ↓wb_iand, ↓wb_ior, ↓wb_ishr, ↓wb_idiv, ↓wb_irem, ↓wb_ladd, ↓wb_lsub, ↓wb_land, ↓wb_lor, ↓wb_lxor, ↓wb_lneg, ↓wb_lushr, ↓wb_lshl, ↓wb_l2i, ↓wb_lcmp, ↓wb_dupI, ↓wb_dupR, ↓wb_dup2, ↓wb_popI, ↓wb_popR, ↓wb_getI, ↓wb_getL, ↓wb_getR, ↓wb_putI, ↓wb_putZ, ↓wb_putL, ↓wb_putR, ↓wb_iaload, ↓wb_laload, ↓wb_zaload, ↓wb_aaload, ↓wb_iastore, ↓wb_lastore, ↓wb_zastore, ↓wb_aastore, ↓wb_alen, ↓wb_newI, ↓wb_newL, ↓wb_newZ, ↓wb_newA, ↓wb_new, ↓wb_obj, ↓wb_sld, ↓wb_slen, ↓wb_goto, ↓wb_ifeq, ↓wb_iceq, ↓wb_ifne, ↓wb_icne, ↓wb_iflt, ↓wb_iclt, ↓wb_ifge, ↓wb_icge, ↓wb_ifgt, ↓wb_icgt, ↓wb_ifle, ↓wb_icle, ↓wb_ifnull, ↓wb_ifnonnull, ↓wb_ret, ↓wb_iret, ↓wb_lret, ↓wb_aret, ↓wb_zret, ↓wb_tsw0, ↓wb_tsw1, ↓wb_lsw0, ↓wb_lsw1, ↓wb_calls0, ↓wb_calls1, ↓wb_callv1, ↓wb_calls2, ↓wb_callv2, ↓wb_calls3, ↓wb_callv3, ↓wb_callv4, ↓wb_callv5, ↓wb_callv6, oB_some, ldI_z, ldI_s, ldL_z, ldL_s, ldR_z, ldR_s, ls1_z, ls1_1n, ls1_1i, ls1_1r, ls1_1l, ls1_s, ls2_z, ls2_1n, ls2_1i, ls2_1r, ls2_1l, ls2_s, List.length_cons, List.length_nil, Nat.reduceAdd, Nat.reduceLT, Nat.reduceLeDiff, Nat.reduceDiv, Nat.reduceMod, Int.reduceToNat, Int.reduceAdd, Nat.zero_add, true_and, Option.toList_some, Option.toList_none, List.cons_append, List.nil_append, true_or, or_true, and_true, false_or, or_false, Int.reduceEq, Int.reduceLT, Int.reduceLE, Int.reduceNeg, not_true_eq_false, not_false_eq_true, Bool.and_eq_true, Bool.or_eq_true, decide_eq_true_eq, ↓reduceIte, b2i_0, b2i_01, b2i_01c, Nat.add_left_cancel_iff, Nat.add_eq_left, Nat.left_eq_add, Nat.reduceEqDiff, false_and, and_false, Bool.false_eq_true, Bool.true_eq_false, ↓wr_iadd, ↓wr_isub, ↓wr_imul, wr_id, sx_c sx1, sx_r3 sx1, sk_c sk1, sk_r3 sk1, sk_c4 sk1, x6, lat']
        refine sc_clear sk1 (fun h2 fr2 mid z2 _ _ => ?_)
        have sg := seg h2 fr2 (fun y a b => mid y (by omega) (by omega)) (by rw [if_pos lat]; exact z2) (fun q => absurd lat q)
        clear seg
        simp (maxSteps := 2000000) (disch := omega) only [↓wb_const, ↓wb_lconst, ↓wb_null, ↓wb_iload, ↓wb_lload, ↓wb_aload, ↓wb_istore, ↓wb_lstore, ↓wb_astore, ↓wb_iinc, ↓wb_iand, ↓wb_ior, ↓wb_ishr, ↓wb_idiv, ↓wb_irem, ↓wb_ladd, ↓wb_lsub, ↓wb_land, ↓wb_lor, ↓wb_lxor, ↓wb_lneg, ↓wb_lushr, ↓wb_lshl, ↓wb_l2i, ↓wb_lcmp, ↓wb_dupI, ↓wb_dupR, ↓wb_dup2, ↓wb_popI, ↓wb_popR, ↓wb_getI, ↓wb_getL, ↓wb_getR, ↓wb_putI, ↓wb_putZ, ↓wb_putL, ↓wb_putR, ↓wb_iaload, ↓wb_laload, ↓wb_zaload, ↓wb_aaload, ↓wb_iastore, ↓wb_lastore, ↓wb_zastore, ↓wb_aastore, ↓wb_alen, ↓wb_newI, ↓wb_newL, ↓wb_newZ, ↓wb_newA, ↓wb_new, ↓wb_obj, ↓wb_sld, ↓wb_slen, ↓wb_goto, ↓wb_ifeq, ↓wb_iceq, ↓wb_ifne, ↓wb_icne, ↓wb_iflt, ↓wb_iclt, ↓wb_ifge, ↓wb_icge, ↓wb_ifgt, ↓wb_icgt, ↓wb_ifle, ↓wb_icle, ↓wb_ifnull, ↓wb_ifnonnull, ↓wb_ret, ↓wb_iret, ↓wb_lret, ↓wb_aret, ↓wb_zret, ↓wb_tsw0, ↓wb_tsw1, ↓wb_lsw0, ↓wb_lsw1, ↓wb_calls0, ↓wb_calls1, ↓wb_callv1, ↓wb_calls2, ↓wb_callv2, ↓wb_calls3, ↓wb_callv3, ↓wb_callv4, ↓wb_callv5, ↓wb_callv6, oB_some, ldI_z, ldI_s, ldL_z, ldL_s, ldR_z, ldR_s, ls1_z, ls1_1n, ls1_1i, ls1_1r, ls1_1l, ls1_s, ls2_z, ls2_1n, ls2_1i, ls2_1r, ls2_1l, ls2_s, List.length_cons, List.length_nil, Nat.reduceAdd, Nat.reduceLT, Nat.reduceLeDiff, Nat.reduceDiv, Nat.reduceMod, Int.reduceToNat, Int.reduceAdd, Nat.zero_add, true_and, Option.toList_some, Option.toList_none, List.cons_append, List.nil_append, true_or, or_true, and_true, false_or, or_false, Int.reduceEq, Int.reduceLT, Int.reduceLE, Int.reduceNeg, not_true_eq_false, not_false_eq_true, Bool.and_eq_true, Bool.or_eq_true, decide_eq_true_eq, ↓reduceIte, b2i_0, b2i_01, b2i_01c, Nat.add_left_cancel_iff, Nat.add_eq_left, Nat.left_eq_add, Nat.reduceEqDiff, false_and, and_false, Bool.false_eq_true, Bool.true_eq_false, ↓wr_iadd, ↓wr_isub, ↓wr_imul, wr_id]
        exact sg
      · have lat' : ((gn : Int) = hI h x 6) = False := eq_false lat
        have sg := seg h1 FR_rf (fun y a b => rfl) (by rw [if_neg lat, FR_i fr1 (by omega)]) (fun _ => rfl)
        clear seg
        simp (maxSteps := 2000000) (disch := omega) only [↓wb_const, ↓wb_lconst, ↓wb_null, ↓wb_iload, ↓wb_lload, ↓wb_aload, ↓wb_istore, ↓wb_lstore, ↓wb_astore, ↓wb_iinc, ↓wb_iand, ↓wb_ior, ↓wb_ishr, ↓wb_idiv, ↓wb_irem, ↓wb_ladd, ↓wb_lsub, ↓wb_land, ↓wb_lor, ↓wb_lxor, ↓wb_lneg, ↓wb_lushr, ↓wb_lshl, ↓wb_l2i, ↓wb_lcmp, ↓wb_dupI, ↓wb_dupR, ↓wb_dup2, ↓wb_popI, ↓wb_popR, ↓wb_getI, ↓wb_getL, ↓wb_getR, ↓wb_putI, ↓wb_putZ, ↓wb_putL, ↓wb_putR, ↓wb_iaload, ↓wb_laload, ↓wb_zaload, ↓wb_aaload, ↓wb_iastore, ↓wb_lastore, ↓wb_zastore, ↓wb_aastore, ↓wb_alen, ↓wb_newI, ↓wb_newL, ↓wb_newZ, ↓wb_newA, ↓wb_new, ↓wb_obj, ↓wb_sld, ↓wb_slen, ↓wb_goto, ↓wb_ifeq, ↓wb_iceq, ↓wb_ifne, ↓wb_icne, ↓wb_iflt, ↓wb_iclt, ↓wb_ifge, ↓wb_icge, ↓wb_ifgt, ↓wb_icgt, ↓wb_ifle, ↓wb_icle, ↓wb_ifnull, ↓wb_ifnonnull, ↓wb_ret, ↓wb_iret, ↓wb_lret, ↓wb_aret, ↓wb_zret, ↓wb_tsw0, ↓wb_tsw1, ↓wb_lsw0, ↓wb_lsw1, ↓wb_calls0, ↓wb_calls1, ↓wb_callv1, ↓wb_calls2, ↓wb_callv2, ↓wb_calls3, ↓wb_callv3, ↓wb_callv4, ↓wb_callv5, ↓wb_callv6, oB_some, ldI_z, ldI_s, ldL_z, ldL_s, ldR_z, ldR_s, ls1_z, ls1_1n, ls1_1i, ls1_1r, ls1_1l, ls1_s, ls2_z, ls2_1n, ls2_1i, ls2_1r, ls2_1l, ls2_s, List.length_cons, List.length_nil, Nat.reduceAdd, Nat.reduceLT, Nat.reduceLeDiff, Nat.reduceDiv, Nat.reduceMod, Int.reduceToNat, Int.reduceAdd, Nat.zero_add, true_and, Option.toList_some, Option.toList_none, List.cons_append, List.nil_append, true_or, or_true, and_true, false_or, or_false, Int.reduceEq, Int.reduceLT, Int.reduceLE, Int.reduceNeg, not_true_eq_false, not_false_eq_true, Bool.and_eq_true, Bool.or_eq_true, decide_eq_true_eq, ↓reduceIte, b2i_0, b2i_01, b2i_01c, Nat.add_left_cancel_iff, Nat.add_eq_left, Nat.left_eq_add, Nat.reduceEqDiff, false_and, and_false, Bool.false_eq_true, Bool.true_eq_false, ↓wr_iadd, ↓wr_isub, ↓wr_imul, wr_id, sx_c sx1, sx_r3 sx1, sk_c sk1, sk_r3 sk1, sk_c4 sk1, x6, lat']
        exact sg
    · have tb : (decide (n < 60) && (decide (0 ≤ k) && (decide (k ≤ 8) && rtF (mK o h gn) n k u v))) = false := by
        cases hb : (decide (n < 60) && (decide (0 ≤ k) && (decide (k ≤ 8) && rtF (mK o h gn) n k u v))) with
        | false => rfl
        | true => exact absurd (by simpa using hb) ok
      rw [tb] at ptk
      simp (maxSteps := 2000000) (disch := omega) only [↓wb_const, ↓wb_lconst, ↓wb_null, ↓wb_iload, ↓wb_lload, ↓wb_aload, ↓wb_istore, ↓wb_lstore, ↓wb_astore, ↓wb_iinc, ↓wb_iand, ↓wb_ior, ↓wb_ishr, ↓wb_idiv, ↓wb_irem, ↓wb_ladd, ↓wb_lsub, ↓wb_land, ↓wb_lor, ↓wb_lxor, ↓wb_lneg, ↓wb_lushr, ↓wb_lshl, ↓wb_l2i, ↓wb_lcmp, ↓wb_dupI, ↓wb_dupR, ↓wb_dup2, ↓wb_popI, ↓wb_popR, ↓wb_getI, ↓wb_getL, ↓wb_getR, ↓wb_putI, ↓wb_putZ, ↓wb_putL, ↓wb_putR, ↓wb_iaload, ↓wb_laload, ↓wb_zaload, ↓wb_aaload, ↓wb_iastore, ↓wb_lastore, ↓wb_zastore, ↓wb_aastore, ↓wb_alen, ↓wb_newI, ↓wb_newL, ↓wb_newZ, ↓wb_newA, ↓wb_new, ↓wb_obj, ↓wb_sld, ↓wb_slen, ↓wb_goto, ↓wb_ifeq, ↓wb_iceq, ↓wb_ifne, ↓wb_icne, ↓wb_iflt, ↓wb_iclt, ↓wb_ifge, ↓wb_icge, ↓wb_ifgt, ↓wb_icgt, ↓wb_ifle, ↓wb_icle, ↓wb_ifnull, ↓wb_ifnonnull, ↓wb_ret, ↓wb_iret, ↓wb_lret, ↓wb_aret, ↓wb_zret, ↓wb_tsw0, ↓wb_tsw1, ↓wb_lsw0, ↓wb_lsw1, ↓wb_calls0, ↓wb_calls1, ↓wb_callv1, ↓wb_calls2, ↓wb_callv2, ↓wb_calls3, ↓wb_callv3, ↓wb_callv4, ↓wb_callv5, ↓wb_callv6, oB_some, ldI_z, ldI_s, ldL_z, ldL_s, ldR_z, ldR_s, ls1_z, ls1_1n, ls1_1i, ls1_1r, ls1_1l, ls1_s, ls2_z, ls2_1n, ls2_1i, ls2_1r, ls2_1l, ls2_s, List.length_cons, List.length_nil, Nat.reduceAdd, Nat.reduceLT, Nat.reduceLeDiff, Nat.reduceDiv, Nat.reduceMod, Int.reduceToNat, Int.reduceAdd, Nat.zero_add, true_and, Option.toList_some, Option.toList_none, List.cons_append, List.nil_append, true_or, or_true, and_true, false_or, or_false, Int.reduceEq, Int.reduceLT, Int.reduceLE, Int.reduceNeg, not_true_eq_false, not_false_eq_true, Bool.and_eq_true, Bool.or_eq_true, decide_eq_true_eq, ↓reduceIte, b2i_0, b2i_01, b2i_01c, Nat.add_left_cancel_iff, Nat.add_eq_left, Nat.left_eq_add, Nat.reduceEqDiff, false_and, and_false, Bool.false_eq_true, Bool.true_eq_false, ↓wr_iadd, ↓wr_isub, ↓wr_imul, wr_id, ↓wl_76_12, sp_c sp, n0, ↓ptk, b2i_f]
      obtain ⟨a, b, e⟩ := mc_line_no (sc := sc) (Q := fun r2 h2 => ∃ a : Int, some (aI (-2)) = some (aI a) ∧ r2 = some (aI a) ∧ Sim x o pb h2) (k := k) (u := u) (v := v) sm (by omega) q1 g16 hn (by omega) (by omega) (fun z => ok ⟨by omega, z.2⟩)
      rw [e]
      exact ⟨_, rfl, rfl, Sim_st sim⟩
  · simp (maxSteps := 2000000) (disch := omega) only [↓wb_const, ↓wb_lconst, ↓wb_null, ↓wb_iload, ↓wb_lload, ↓wb_aload, ↓wb_istore, ↓wb_lstore, ↓wb_astore, ↓wb_iinc, ↓wb_iand, ↓wb_ior, ↓wb_ishr, ↓wb_idiv, ↓wb_irem, ↓wb_ladd, ↓wb_lsub, ↓wb_land, ↓wb_lor, ↓wb_lxor, ↓wb_lneg, ↓wb_lushr, ↓wb_lshl, ↓wb_l2i, ↓wb_lcmp, ↓wb_dupI, ↓wb_dupR, ↓wb_dup2, ↓wb_popI, ↓wb_popR, ↓wb_getI, ↓wb_getL, ↓wb_getR, ↓wb_putI, ↓wb_putZ, ↓wb_putL, ↓wb_putR, ↓wb_iaload, ↓wb_laload, ↓wb_zaload, ↓wb_aaload, ↓wb_iastore, ↓wb_lastore, ↓wb_zastore, ↓wb_aastore, ↓wb_alen, ↓wb_newI, ↓wb_newL, ↓wb_newZ, ↓wb_newA, ↓wb_new, ↓wb_obj, ↓wb_sld, ↓wb_slen, ↓wb_goto, ↓wb_ifeq, ↓wb_iceq, ↓wb_ifne, ↓wb_icne, ↓wb_iflt, ↓wb_iclt, ↓wb_ifge, ↓wb_icge, ↓wb_ifgt, ↓wb_icgt, ↓wb_ifle, ↓wb_icle, ↓wb_ifnull, ↓wb_ifnonnull, ↓wb_ret, ↓wb_iret, ↓wb_lret, ↓wb_aret, ↓wb_zret, ↓wb_tsw0, ↓wb_tsw1, ↓wb_lsw0, ↓wb_lsw1, ↓wb_calls0, ↓wb_calls1, ↓wb_callv1, ↓wb_calls2, ↓wb_callv2, ↓wb_calls3, ↓wb_callv3, ↓wb_callv4, ↓wb_callv5, ↓wb_callv6, oB_some, ldI_z, ldI_s, ldL_z, ldL_s, ldR_z, ldR_s, ls1_z, ls1_1n, ls1_1i, ls1_1r, ls1_1l, ls1_s, ls2_z, ls2_1n, ls2_1i, ls2_1r, ls2_1l, ls2_s, List.length_cons, List.length_nil, Nat.reduceAdd, Nat.reduceLT, Nat.reduceLeDiff, Nat.reduceDiv, Nat.reduceMod, Int.reduceToNat, Int.reduceAdd, Nat.zero_add, true_and, Option.toList_some, Option.toList_none, List.cons_append, List.nil_append, true_or, or_true, and_true, false_or, or_false, Int.reduceEq, Int.reduceLT, Int.reduceLE, Int.reduceNeg, not_true_eq_false, not_false_eq_true, Bool.and_eq_true, Bool.or_eq_true, decide_eq_true_eq, ↓reduceIte, b2i_0, b2i_01, b2i_01c, Nat.add_left_cancel_iff, Nat.add_eq_left, Nat.left_eq_add, Nat.reduceEqDiff, false_and, and_false, Bool.false_eq_true, Bool.true_eq_false, ↓wr_iadd, ↓wr_isub, ↓wr_imul, wr_id, ↓wl_76_12]
    rw [mc_line_np sm ng]
    exact ⟨_, rfl, rfl, sim⟩
