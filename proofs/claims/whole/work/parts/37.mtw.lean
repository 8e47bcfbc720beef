theorem elF_le {K : Int → Int} {c : Int} : ∀ {f : Nat} {q d : Int}, 0 ≤ q → -1 ≤ elF K c f q d ∧ (elF K c f q d < c ∨ elF K c f q d = -1)
  | 0, q, d, h => by unfold elF; omega
  | f + 1, q, d, h => by
    have i1 := elF_le (K := K) (c := c) (f := f) (q := q + 1) (d := d + wgt (K q)) (by omega)
    unfold elF
    repeat' split
    all_goals omega
theorem els_le {K : Int → Int} {n p : Int} (h : 0 ≤ p) (hn : p ≤ n) : -1 ≤ els K n p ∧ els K n p ≤ n := by
  have h1 := elF_le (K := K) (c := clo K n p) (f := (clo K n p - p).toNat) (q := p) (d := 0) h
  have h2 := clo_le (K := K) hn
  unfold els
  omega
set_option maxHeartbeats 8000000 in
theorem mc_tellWays {sc : Scr} {o : Nat} {h : Hp} {Q : Option AV → Hp → Prop} (s : SM o h) {g n : Int} (g0 : 0 ≤ g) (g1 : g < 16) (hn : hI h (o + 1) g.toNat = n) (n0 : 0 ≤ n) (n1 : n ≤ 60) (wf : WFb (mK o h g) n) (hx : ∀ p, 0 ≤ p → p < n → -1000 ≤ mX o h g p ∧ mX o h g p ≤ 1000) :
    WC sc 130 [aR o, aI g] h Q = Q none (W3 o (setI h o 26 (bhd (mK o h g) n (-1))) g n n) := by
  rw [wc_130]
  simp (maxSteps := 2000000) (disch := omega) only [↓wb_const, ↓wb_lconst, ↓wb_null, ↓wb_iload, ↓wb_lload, ↓wb_aload, ↓wb_istore, ↓wb_lstore, ↓wb_astore, ↓wb_iinc, ↓wb_iadd, ↓wb_isub, ↓wb_imul, ↓wb_iand, ↓wb_ior, ↓wb_ishr, ↓wb_idiv, ↓wb_irem, ↓wb_ladd, ↓wb_lsub, ↓wb_land, ↓wb_lor, ↓wb_lxor, ↓wb_lneg, ↓wb_lushr, ↓wb_lshl, ↓wb_l2i, ↓wb_lcmp, ↓wb_dupI, ↓wb_dupR, ↓wb_dup2, ↓wb_popI, ↓wb_popR, ↓wb_getI, ↓wb_getL, ↓wb_getR, ↓wb_putI, ↓wb_putZ, ↓wb_putL, ↓wb_putR, ↓wb_iaload, ↓wb_laload, ↓wb_zaload, ↓wb_aaload, ↓wb_iastore, ↓wb_lastore, ↓wb_zastore, ↓wb_aastore, ↓wb_alen, ↓wb_newI, ↓wb_newL, ↓wb_newZ, ↓wb_newA, ↓wb_new, ↓wb_obj, ↓wb_sld, ↓wb_slen, ↓wb_goto, ↓wb_ifeq, ↓wb_iceq, ↓wb_ifne, ↓wb_icne, ↓wb_iflt, ↓wb_iclt, ↓wb_ifge, ↓wb_icge, ↓wb_ifgt, ↓wb_icgt, ↓wb_ifle, ↓wb_icle, ↓wb_ifnull, ↓wb_ifnonnull, ↓wb_ret, ↓wb_iret, ↓wb_lret, ↓wb_aret, ↓wb_zret, ↓wb_tsw0, ↓wb_tsw1, ↓wb_lsw0, ↓wb_lsw1, ↓wb_calls0, ↓wb_calls1, ↓wb_callv1, ↓wb_calls2, ↓wb_callv2, ↓wb_calls3, ↓wb_callv3, ↓wb_callv4, ↓wb_callv5, ↓wb_callv6, oB_some, ldI_z, ldI_s, ldL_z, ldL_s, ldR_z, ldR_s, ls1_z, ls1_1n, ls1_1i, ls1_1r, ls1_1l, ls1_s, ls2_z, ls2_1n, ls2_1i, ls2_1r, ls2_1l, ls2_s, List.length_cons, List.length_nil, Nat.reduceAdd, Nat.reduceLT, Nat.reduceLeDiff, Nat.reduceDiv, Nat.reduceMod, Int.reduceToNat, Int.reduceAdd, Nat.zero_add, true_and, Option.toList_some, Option.toList_none, List.cons_append, List.nil_append, true_or, or_true, and_true, false_or, or_false, Int.reduceEq, Int.reduceLT, Int.reduceLE, Int.reduceNeg, not_true_eq_false, not_false_eq_true, Bool.and_eq_true, Bool.or_eq_true, decide_eq_true_eq, ↓reduceIte, wr_id, b2i_0, b2i_01, Nat.add_left_cancel_iff, Nat.add_eq_left, Nat.left_eq_add, Nat.reduceEqDiff, OfNat.ofNat_ne_zero, false_and, and_false, Bool.false_eq_true, Bool.true_eq_false, bl_130_0, sm_c s, mc_behind (n := n) (p := -1) s g0 g1 (by omega) (by omega) hn n0 n1 wf]
  generalize hh1 : setI h o 26 (bhd (mK o h g) n (-1)) = h1
  have s1 : SM o h1 := by rw [← hh1, SM_setI]; exact s
  have hn1 : hI h1 (o + 1) g.toNat = n := by rw [← hh1, hI_ne (by omega)]; exact hn
  have eK : mK o h1 g = mK o h g := by rw [← hh1, mK_setI (by omega)]
  have eX : mX o h1 g = mX o h g := by funext q; rw [← hh1]; exact hI_ne (by omega)
  rw [← eK] at wf
  rw [← eX] at hx
  clear hh1 eK eX hn s
  have tS : ∀ f1 f2 f3 : Nat → Int, SM o (setF (setF (setF h1 (o + 15) f1) (o + 16) f2) (o + 17) f3) := by
    intro f1 f2 f3
    simp only [SM_setF]; exact s1
  have tN : ∀ f1 f2 f3 : Nat → Int, hI (setF (setF (setF h1 (o + 15) f1) (o + 16) f2) (o + 17) f3) (o + 1) g.toNat = n := by
    intro f1 f2 f3
    simp (disch := omega) only [hI_setF_ne]; exact hn1
  have tK : ∀ f1 f2 f3 : Nat → Int, mK o (setF (setF (setF h1 (o + 15) f1) (o + 16) f2) (o + 17) f3) g = mK o h1 g := by
    intro f1 f2 f3
    simp (disch := omega) only [mK_setF]
  have tX : ∀ (f1 f2 f3 : Nat → Int) (p : Int), hI (setF (setF (setF h1 (o + 15) f1) (o + 16) f2) (o + 17) f3) (o + 3) (60 * g + p).toNat = mX o h1 g p := by
    intro f1 f2 f3 p
    simp (disch := omega) only [hI_setF_ne]; rfl
  have cS : ∀ (f1 f2 f3 : Nat → Int) (p : Int) (Q2 : Option AV → Hp → Prop), WC sc 128 [aR o, aI g, aI p] (setF (setF (setF h1 (o + 15) f1) (o + 16) f2) (o + 17) f3) Q2 = Q2 (some (aI (b2i (stm (mK o h1 g) n p)))) (setF (setF (setF h1 (o + 15) f1) (o + 16) f2) (o + 17) f3) := by
    intro f1 f2 f3 p Q2
    rw [mc_isStatement (tS f1 f2 f3) g0 g1 (tN f1 f2 f3) n0 n1, tK]
  have cB : ∀ (f1 f2 f3 : Nat → Int) (p : Int) (Q2 : Option AV → Hp → Prop), -1 ≤ p → p ≤ 60 → WC sc 124 [aR o, aI g, aI p] (setF (setF (setF h1 (o + 15) f1) (o + 16) f2) (o + 17) f3) Q2 = Q2 (some (aI (bhd (mK o h1 g) n p))) (setF (setF (setF h1 (o + 15) f1) (o + 16) f2) (o + 17) f3) := by
    intro f1 f2 f3 p Q2 p0 p1
    rw [mc_behind (tS f1 f2 f3) g0 g1 p0 p1 (tN f1 f2 f3) n0 n1 (by rw [tK]; exact wf), tK]
  have cL : ∀ (f1 f2 f3 : Nat → Int) (p : Int) (Q2 : Option AV → Hp → Prop), 0 ≤ p → p < n → WC sc 129 [aR o, aI g, aI p] (setF (setF (setF h1 (o + 15) f1) (o + 16) f2) (o + 17) f3) Q2 = Q2 (some (aI (lcl (mK o h1 g) n p (mX o h1 g p)))) (setF (setF (setF h1 (o + 15) f1) (o + 16) f2) (o + 17) f3) := by
    intro f1 f2 f3 p Q2 p0 p1
    rw [mc_leftClose (tS f1 f2 f3) g0 g1 (tN f1 f2 f3) p0 p1 n1 (tX f1 f2 f3 p) (hx p p0 p1).1 (hx p p0 p1).2, tK]
  have cE : ∀ (f1 f2 f3 : Nat → Int) (p : Int) (Q2 : Option AV → Hp → Prop), 0 ≤ p → p ≤ n → WC sc 117 [aR o, aI g, aI p] (setF (setF (setF h1 (o + 15) f1) (o + 16) f2) (o + 17) f3) Q2 = Q2 (some (aI (els (mK o h1 g) n p))) (setF (setF (setF h1 (o + 15) f1) (o + 16) f2) (o + 17) f3) := by
    intro f1 f2 f3 p Q2 p0 p1
    rw [mc_elseOf (tS f1 f2 f3) g0 g1 p0 (tN f1 f2 f3) p1 n1, tK]
  have cC : ∀ (f1 f2 f3 : Nat → Int) (p : Int) (Q2 : Option AV → Hp → Prop), 0 ≤ p → p ≤ 60 → WC sc 116 [aR o, aI g, aI p] (setF (setF (setF h1 (o + 15) f1) (o + 16) f2) (o + 17) f3) Q2 = Q2 (some (aI (clo (mK o h1 g) n p))) (setF (setF (setF h1 (o + 15) f1) (o + 16) f2) (o + 17) f3) := by
    intro f1 f2 f3 p Q2 p0 p1
    rw [mc_clo (tS f1 f2 f3) g0 g1 p0 p1 (tN f1 f2 f3) n0 n1, tK]
  have loop : ∀ (f : Nat) (p : Int) (z y : Option AV), (n - p).toNat = f → 0 ≤ p → p ≤ n → WB sc 130 (BL 130 8) [some (aR o), some (aI g), some (aI p), z, y] [] (W3 o h1 g n p) Q = Q none (W3 o h1 g n n) := by
    intro f
    induction f with
    | zero =>
      intro p z y hf p0 p1
      rw [bl_130_8]
      have e : p = n := by omega
      subst e
      have s2 : SM o (W3 o h1 g p p) := tS _ _ _
      have hn2 : hI (W3 o h1 g p p) (o + 1) g.toNat = p := tN _ _ _
      simp (maxSteps := 2000000) (disch := omega) only [↓wb_const, ↓wb_lconst, ↓wb_null, ↓wb_iload, ↓wb_lload, ↓wb_aload, ↓wb_istore, ↓wb_lstore, ↓wb_astore, ↓wb_iinc, ↓wb_iadd, ↓wb_isub, ↓wb_imul, ↓wb_iand, ↓wb_ior, ↓wb_ishr, ↓wb_idiv, ↓wb_irem, ↓wb_ladd, ↓wb_lsub, ↓wb_land, ↓wb_lor, ↓wb_lxor, ↓wb_lneg, ↓wb_lushr, ↓wb_lshl, ↓wb_l2i, ↓wb_lcmp, ↓wb_dupI, ↓wb_dupR, ↓wb_dup2, ↓wb_popI, ↓wb_popR, ↓wb_getI, ↓wb_getL, ↓wb_getR, ↓wb_putI, ↓wb_putZ, ↓wb_putL, ↓wb_putR, ↓wb_iaload, ↓wb_laload, ↓wb_zaload, ↓wb_aaload, ↓wb_iastore, ↓wb_lastore, ↓wb_zastore, ↓wb_aastore, ↓wb_alen, ↓wb_newI, ↓wb_newL, ↓wb_newZ, ↓wb_newA, ↓wb_new, ↓wb_obj, ↓wb_sld, ↓wb_slen, ↓wb_goto, ↓wb_ifeq, ↓wb_iceq, ↓wb_ifne, ↓wb_icne, ↓wb_iflt, ↓wb_iclt, ↓wb_ifge, ↓wb_icge, ↓wb_ifgt, ↓wb_icgt, ↓wb_ifle, ↓wb_icle, ↓wb_ifnull, ↓wb_ifnonnull, ↓wb_ret, ↓wb_iret, ↓wb_lret, ↓wb_aret, ↓wb_zret, ↓wb_tsw0, ↓wb_tsw1, ↓wb_lsw0, ↓wb_lsw1, ↓wb_calls0, ↓wb_calls1, ↓wb_callv1, ↓wb_calls2, ↓wb_callv2, ↓wb_calls3, ↓wb_callv3, ↓wb_callv4, ↓wb_callv5, ↓wb_callv6, oB_some, ldI_z, ldI_s, ldL_z, ldL_s, ldR_z, ldR_s, ls1_z, ls1_1n, ls1_1i, ls1_1r, ls1_1l, ls1_s, ls2_z, ls2_1n, ls2_1i, ls2_1r, ls2_1l, ls2_s, List.length_cons, List.length_nil, Nat.reduceAdd, Nat.reduceLT, Nat.reduceLeDiff, Nat.reduceDiv, Nat.reduceMod, Int.reduceToNat, Int.reduceAdd, Nat.zero_add, true_and, Option.toList_some, Option.toList_none, List.cons_append, List.nil_append, true_or, or_true, and_true, false_or, or_false, Int.reduceEq, Int.reduceLT, Int.reduceLE, Int.reduceNeg, not_true_eq_false, not_false_eq_true, Bool.and_eq_true, Bool.or_eq_true, decide_eq_true_eq, ↓reduceIte, wr_id, b2i_0, b2i_01, Nat.add_left_cancel_iff, Nat.add_eq_left, Nat.left_eq_add, Nat.reduceEqDiff, OfNat.ofNat_ne_zero, false_and, and_false, Bool.false_eq_true, Bool.true_eq_false, bl_130_117, sm_c s2, sm_r1 s2, sm_a1 s2, hn2]
      simp [g0, g1]
    | succ f ih =>
      intro p z y hf p0 p1
      rw [bl_130_8]
      have hp : p < n := by omega
      have hl := lcF_le (K := mK o h1 g) (n := n) (p := p) (f := p.toNat) (q := p - 1) (l := mX o h1 g p) (by omega) n0
      have hl2 : lcl (mK o h1 g) n p (mX o h1 g p) = lcF (mK o h1 g) n p p.toNat (p - 1) (mX o h1 g p) := rfl
      have hc := clo_le (K := mK o h1 g) (n := n) (p := p) p1
      have he := els_le (K := mK o h1 g) (n := n) (p := p) p0 p1
      have fin : ∀ (z2 y2 : Option AV) (v1 v2 v3 : Int), v1 = yes_ (mK o h1 g) (mX o h1 g) n p → v2 = no_ (mK o h1 g) n p → v3 = loo_ (mK o h1 g) n p → WB sc 130 (BL 130 8) [some (aR o), some (aI g), some (aI (p + 1)), z2, y2] [] (setF (setF (setF h1 (o + 15) (up1 (mix p (fun k => yes_ (mK o h1 g) (mX o h1 g) n k) (hI h1 (o + 15))) p.toNat v1)) (o + 16) (up1 (mix p (fun k => no_ (mK o h1 g) n k) (hI h1 (o + 16))) p.toNat v2)) (o + 17) (up1 (mix p (fun k => loo_ (mK o h1 g) n k) (hI h1 (o + 17))) p.toNat v3)) Q = Q none (W3 o h1 g n n) := by
        intro z2 y2 v1 v2 v3 e1 e2 e3
        rw [W3_up p0 e1 e2 e3]
        exact ih (p + 1) z2 y2 (by omega) (by omega) (by omega)
      generalize hG : Q none (W3 o h1 g n n) = G at fin ⊢
      have ek : hI h1 (o + 2) (60 * g + p).toNat = mK o h1 g p := rfl
      have hnp : ¬ n ≤ p := by omega
      have b1 : (0 ≤ g ∧ g < 16) = True := by simp [g0, g1]
      have b2 : (0 ≤ p ∧ p < 60) = True := by simp; omega
      have b3 : (0 ≤ 60 * g + p ∧ 60 * g + p < 960) = True := by simp; omega
      unfold W3
      generalize mix p (fun k => yes_ (mK o h1 g) (mX o h1 g) n k) (hI h1 (o + 15)) = F1 at fin ⊢
      generalize mix p (fun k => no_ (mK o h1 g) n k) (hI h1 (o + 16)) = F2 at fin ⊢
      generalize mix p (fun k => loo_ (mK o h1 g) n k) (hI h1 (o + 17)) = F3 at fin ⊢
      clear ih hx wf hG tS tN tK tX
      cases hst : stm (mK o h1 g) n p with
      | false =>
        simp (maxSteps := 2000000) (disch := omega) only [↓wb_const, ↓wb_lconst, ↓wb_null, ↓wb_iload, ↓wb_lload, ↓wb_aload, ↓wb_istore, ↓wb_lstore, ↓wb_astore, ↓wb_iinc, ↓wb_iadd, ↓wb_isub, ↓wb_imul, ↓wb_iand, ↓wb_ior, ↓wb_ishr, ↓wb_idiv, ↓wb_irem, ↓wb_ladd, ↓wb_lsub, ↓wb_land, ↓wb_lor, ↓wb_lxor, ↓wb_lneg, ↓wb_lushr, ↓wb_lshl, ↓wb_l2i, ↓wb_lcmp, ↓wb_dupI, ↓wb_dupR, ↓wb_dup2, ↓wb_popI, ↓wb_popR, ↓wb_getI, ↓wb_getL, ↓wb_getR, ↓wb_putI, ↓wb_putZ, ↓wb_putL, ↓wb_putR, ↓wb_iaload, ↓wb_laload, ↓wb_zaload, ↓wb_aaload, ↓wb_iastore, ↓wb_lastore, ↓wb_zastore, ↓wb_aastore, ↓wb_alen, ↓wb_newI, ↓wb_newL, ↓wb_newZ, ↓wb_newA, ↓wb_new, ↓wb_obj, ↓wb_sld, ↓wb_slen, ↓wb_goto, ↓wb_ifeq, ↓wb_iceq, ↓wb_ifne, ↓wb_icne, ↓wb_iflt, ↓wb_iclt, ↓wb_ifge, ↓wb_icge, ↓wb_ifgt, ↓wb_icgt, ↓wb_ifle, ↓wb_icle, ↓wb_ifnull, ↓wb_ifnonnull, ↓wb_ret, ↓wb_iret, ↓wb_lret, ↓wb_aret, ↓wb_zret, ↓wb_tsw0, ↓wb_tsw1, ↓wb_lsw0, ↓wb_lsw1, ↓wb_calls0, ↓wb_calls1, ↓wb_callv1, ↓wb_calls2, ↓wb_callv2, ↓wb_calls3, ↓wb_callv3, ↓wb_callv4, ↓wb_callv5, ↓wb_callv6, oB_some, ldI_z, ldI_s, ldL_z, ldL_s, ldR_z, ldR_s, ls1_z, ls1_1n, ls1_1i, ls1_1r, ls1_1l, ls1_s, ls2_z, ls2_1n, ls2_1i, ls2_1r, ls2_1l, ls2_s, List.length_cons, List.length_nil, Nat.reduceAdd, Nat.reduceLT, Nat.reduceLeDiff, Nat.reduceDiv, Nat.reduceMod, Int.reduceToNat, Int.reduceAdd, Nat.zero_add, true_and, Option.toList_some, Option.toList_none, List.cons_append, List.nil_append, true_or, or_true, and_true, false_or, or_false, Int.reduceEq, Int.reduceLT, Int.reduceLE, Int.reduceNeg, not_true_eq_false, not_false_eq_true, Bool.and_eq_true, Bool.or_eq_true, decide_eq_true_eq, ↓reduceIte, wr_id, b2i_0, b2i_01, Nat.add_left_cancel_iff, Nat.add_eq_left, Nat.left_eq_add, Nat.reduceEqDiff, OfNat.ofNat_ne_zero, false_and, and_false, Bool.false_eq_true, Bool.true_eq_false, bl_130_44, bl_130_58, bl_130_63, bl_130_67, bl_130_74, bl_130_82, bl_130_83, bl_130_93, bl_130_97, bl_130_99, bl_130_108, bl_130_113, bl_130_114, bl_130_115, sm_c s1, sm_r1 s1, sm_a1 s1, sm_r2 s1, sm_a2 s1, sm_r23 s1, sm_a15 s1, sm_r24 s1, sm_a16 s1, sm_r25 s1, sm_a17 s1, hn1, isO_setF, inA_setF, hR_setF, hI_setF, setI_setFi, up1_up1, cS, cB, cL, cE, cC, ek, b2i_t, b2i_f, hnp, b1, b2, b3, hst]
        (try clear cS cB cL cE cC)
        repeat' (first | split | refine (andT (by omega)).trans ?_)
        all_goals (refine fin _ _ _ _ _ ?_ ?_ ?_ <;> simp_all [yes_, no_, loo_])
      | true =>
        by_cases k7 : mK o h1 g p = 7
        · have k8 : ¬ mK o h1 g p = 8 := by omega
          have k3 : ¬ mK o h1 g p = 3 := by omega
          have k5 : ¬ mK o h1 g p = 5 := by omega
          simp (maxSteps := 2000000) (disch := omega) only [↓wb_const, ↓wb_lconst, ↓wb_null, ↓wb_iload, ↓wb_lload, ↓wb_aload, ↓wb_istore, ↓wb_lstore, ↓wb_astore, ↓wb_iinc, ↓wb_iadd, ↓wb_isub, ↓wb_imul, ↓wb_iand, ↓wb_ior, ↓wb_ishr, ↓wb_idiv, ↓wb_irem, ↓wb_ladd, ↓wb_lsub, ↓wb_land, ↓wb_lor, ↓wb_lxor, ↓wb_lneg, ↓wb_lushr, ↓wb_lshl, ↓wb_l2i, ↓wb_lcmp, ↓wb_dupI, ↓wb_dupR, ↓wb_dup2, ↓wb_popI, ↓wb_popR, ↓wb_getI, ↓wb_getL, ↓wb_getR, ↓wb_putI, ↓wb_putZ, ↓wb_putL, ↓wb_putR, ↓wb_iaload, ↓wb_laload, ↓wb_zaload, ↓wb_aaload, ↓wb_iastore, ↓wb_lastore, ↓wb_zastore, ↓wb_aastore, ↓wb_alen, ↓wb_newI, ↓wb_newL, ↓wb_newZ, ↓wb_newA, ↓wb_new, ↓wb_obj, ↓wb_sld, ↓wb_slen, ↓wb_goto, ↓wb_ifeq, ↓wb_iceq, ↓wb_ifne, ↓wb_icne, ↓wb_iflt, ↓wb_iclt, ↓wb_ifge, ↓wb_icge, ↓wb_ifgt, ↓wb_icgt, ↓wb_ifle, ↓wb_icle, ↓wb_ifnull, ↓wb_ifnonnull, ↓wb_ret, ↓wb_iret, ↓wb_lret, ↓wb_aret, ↓wb_zret, ↓wb_tsw0, ↓wb_tsw1, ↓wb_lsw0, ↓wb_lsw1, ↓wb_calls0, ↓wb_calls1, ↓wb_callv1, ↓wb_calls2, ↓wb_callv2, ↓wb_calls3, ↓wb_callv3, ↓wb_callv4, ↓wb_callv5, ↓wb_callv6, oB_some, ldI_z, ldI_s, ldL_z, ldL_s, ldR_z, ldR_s, ls1_z, ls1_1n, ls1_1i, ls1_1r, ls1_1l, ls1_s, ls2_z, ls2_1n, ls2_1i, ls2_1r, ls2_1l, ls2_s, List.length_cons, List.length_nil, Nat.reduceAdd, Nat.reduceLT, Nat.reduceLeDiff, Nat.reduceDiv, Nat.reduceMod, Int.reduceToNat, Int.reduceAdd, Nat.zero_add, true_and, Option.toList_some, Option.toList_none, List.cons_append, List.nil_append, true_or, or_true, and_true, false_or, or_false, Int.reduceEq, Int.reduceLT, Int.reduceLE, Int.reduceNeg, not_true_eq_false, not_false_eq_true, Bool.and_eq_true, Bool.or_eq_true, decide_eq_true_eq, ↓reduceIte, wr_id, b2i_0, b2i_01, Nat.add_left_cancel_iff, Nat.add_eq_left, Nat.left_eq_add, Nat.reduceEqDiff, OfNat.ofNat_ne_zero, false_and, and_false, Bool.false_eq_true, Bool.true_eq_false, bl_130_44, bl_130_58, bl_130_63, bl_130_67, bl_130_74, bl_130_82, bl_130_83, bl_130_93, bl_130_97, bl_130_99, bl_130_108, bl_130_113, bl_130_114, bl_130_115, sm_c s1, sm_r1 s1, sm_a1 s1, sm_r2 s1, sm_a2 s1, sm_r23 s1, sm_a15 s1, sm_r24 s1, sm_a16 s1, sm_r25 s1, sm_a17 s1, hn1, isO_setF, inA_setF, hR_setF, hI_setF, setI_setFi, up1_up1, cS, cB, cL, cE, cC, ek, b2i_t, b2i_f, hnp, b1, b2, b3, hst, k7, Int.reduceEq]
          (try clear cS cB cL cE cC)
          repeat' (first | split | refine (andT (by omega)).trans ?_)
          all_goals (refine fin _ _ _ _ _ ?_ ?_ ?_ <;> simp_all [yes_, no_, loo_])
        · by_cases k8 : mK o h1 g p = 8
          · have k3 : ¬ mK o h1 g p = 3 := by omega
            have k5 : ¬ mK o h1 g p = 5 := by omega
            simp (maxSteps := 2000000) (disch := omega) only [↓wb_const, ↓wb_lconst, ↓wb_null, ↓wb_iload, ↓wb_lload, ↓wb_aload, ↓wb_istore, ↓wb_lstore, ↓wb_astore, ↓wb_iinc, ↓wb_iadd, ↓wb_isub, ↓wb_imul, ↓wb_iand, ↓wb_ior, ↓wb_ishr, ↓wb_idiv, ↓wb_irem, ↓wb_ladd, ↓wb_lsub, ↓wb_land, ↓wb_lor, ↓wb_lxor, ↓wb_lneg, ↓wb_lushr, ↓wb_lshl, ↓wb_l2i, ↓wb_lcmp, ↓wb_dupI, ↓wb_dupR, ↓wb_dup2, ↓wb_popI, ↓wb_popR, ↓wb_getI, ↓wb_getL, ↓wb_getR, ↓wb_putI, ↓wb_putZ, ↓wb_putL, ↓wb_putR, ↓wb_iaload, ↓wb_laload, ↓wb_zaload, ↓wb_aaload, ↓wb_iastore, ↓wb_lastore, ↓wb_zastore, ↓wb_aastore, ↓wb_alen, ↓wb_newI, ↓wb_newL, ↓wb_newZ, ↓wb_newA, ↓wb_new, ↓wb_obj, ↓wb_sld, ↓wb_slen, ↓wb_goto, ↓wb_ifeq, ↓wb_iceq, ↓wb_ifne, ↓wb_icne, ↓wb_iflt, ↓wb_iclt, ↓wb_ifge, ↓wb_icge, ↓wb_ifgt, ↓wb_icgt, ↓wb_ifle, ↓wb_icle, ↓wb_ifnull, ↓wb_ifnonnull, ↓wb_ret, ↓wb_iret, ↓wb_lret, ↓wb_aret, ↓wb_zret, ↓wb_tsw0, ↓wb_tsw1, ↓wb_lsw0, ↓wb_lsw1, ↓wb_calls0, ↓wb_calls1, ↓wb_callv1, ↓wb_calls2, ↓wb_callv2, ↓wb_calls3, ↓wb_callv3, ↓wb_callv4, ↓wb_callv5, ↓wb_callv6, oB_some, ldI_z, ldI_s, ldL_z, ldL_s, ldR_z, ldR_s, ls1_z, ls1_1n, ls1_1i, ls1_1r, ls1_1l, ls1_s, ls2_z, ls2_1n, ls2_1i, ls2_1r, ls2_1l, ls2_s, List.length_cons, List.length_nil, Nat.reduceAdd, Nat.reduceLT, Nat.reduceLeDiff, Nat.reduceDiv, Nat.reduceMod, Int.reduceToNat, Int.reduceAdd, Nat.zero_add, true_and, Option.toList_some, Option.toList_none, List.cons_append, List.nil_append, true_or, or_true, and_true, false_or, or_false, Int.reduceEq, Int.reduceLT, Int.reduceLE, Int.reduceNeg, not_true_eq_false, not_false_eq_true, Bool.and_eq_true, Bool.or_eq_true, decide_eq_true_eq, ↓reduceIte, wr_id, b2i_0, b2i_01, Nat.add_left_cancel_iff, Nat.add_eq_left, Nat.left_eq_add, Nat.reduceEqDiff, OfNat.ofNat_ne_zero, false_and, and_false, Bool.false_eq_true, Bool.true_eq_false, bl_130_44, bl_130_58, bl_130_63, bl_130_67, bl_130_74, bl_130_82, bl_130_83, bl_130_93, bl_130_97, bl_130_99, bl_130_108, bl_130_113, bl_130_114, bl_130_115, sm_c s1, sm_r1 s1, sm_a1 s1, sm_r2 s1, sm_a2 s1, sm_r23 s1, sm_a15 s1, sm_r24 s1, sm_a16 s1, sm_r25 s1, sm_a17 s1, hn1, isO_setF, inA_setF, hR_setF, hI_setF, setI_setFi, up1_up1, cS, cB, cL, cE, cC, ek, b2i_t, b2i_f, hnp, b1, b2, b3, hst, k8, Int.reduceEq]
            (try clear cS cB cL cE cC)
            repeat' (first | split | refine (andT (by omega)).trans ?_)
            all_goals (refine fin _ _ _ _ _ ?_ ?_ ?_ <;> simp_all [yes_, no_, loo_])
          · by_cases k3 : mK o h1 g p = 3
            · have k5 : ¬ mK o h1 g p = 5 := by omega
              simp (maxSteps := 2000000) (disch := omega) only [↓wb_const, ↓wb_lconst, ↓wb_null, ↓wb_iload, ↓wb_lload, ↓wb_aload, ↓wb_istore, ↓wb_lstore, ↓wb_astore, ↓wb_iinc, ↓wb_iadd, ↓wb_isub, ↓wb_imul, ↓wb_iand, ↓wb_ior, ↓wb_ishr, ↓wb_idiv, ↓wb_irem, ↓wb_ladd, ↓wb_lsub, ↓wb_land, ↓wb_lor, ↓wb_lxor, ↓wb_lneg, ↓wb_lushr, ↓wb_lshl, ↓wb_l2i, ↓wb_lcmp, ↓wb_dupI, ↓wb_dupR, ↓wb_dup2, ↓wb_popI, ↓wb_popR, ↓wb_getI, ↓wb_getL, ↓wb_getR, ↓wb_putI, ↓wb_putZ, ↓wb_putL, ↓wb_putR, ↓wb_iaload, ↓wb_laload, ↓wb_zaload, ↓wb_aaload, ↓wb_iastore, ↓wb_lastore, ↓wb_zastore, ↓wb_aastore, ↓wb_alen, ↓wb_newI, ↓wb_newL, ↓wb_newZ, ↓wb_newA, ↓wb_new, ↓wb_obj, ↓wb_sld, ↓wb_slen, ↓wb_goto, ↓wb_ifeq, ↓wb_iceq, ↓wb_ifne, ↓wb_icne, ↓wb_iflt, ↓wb_iclt, ↓wb_ifge, ↓wb_icge, ↓wb_ifgt, ↓wb_icgt, ↓wb_ifle, ↓wb_icle, ↓wb_ifnull, ↓wb_ifnonnull, ↓wb_ret, ↓wb_iret, ↓wb_lret, ↓wb_aret, ↓wb_zret, ↓wb_tsw0, ↓wb_tsw1, ↓wb_lsw0, ↓wb_lsw1, ↓wb_calls0, ↓wb_calls1, ↓wb_callv1, ↓wb_calls2, ↓wb_callv2, ↓wb_calls3, ↓wb_callv3, ↓wb_callv4, ↓wb_callv5, ↓wb_callv6, oB_some, ldI_z, ldI_s, ldL_z, ldL_s, ldR_z, ldR_s, ls1_z, ls1_1n, ls1_1i, ls1_1r, ls1_1l, ls1_s, ls2_z, ls2_1n, ls2_1i, ls2_1r, ls2_1l, ls2_s, List.length_cons, List.length_nil, Nat.reduceAdd, Nat.reduceLT, Nat.reduceLeDiff, Nat.reduceDiv, Nat.reduceMod, Int.reduceToNat, Int.reduceAdd, Nat.zero_add, true_and, Option.toList_some, Option.toList_none, List.cons_append, List.nil_append, true_or, or_true, and_true, false_or, or_false, Int.reduceEq, Int.reduceLT, Int.reduceLE, Int.reduceNeg, not_true_eq_false, not_false_eq_true, Bool.and_eq_true, Bool.or_eq_true, decide_eq_true_eq, ↓reduceIte, wr_id, b2i_0, b2i_01, Nat.add_left_cancel_iff, Nat.add_eq_left, Nat.left_eq_add, Nat.reduceEqDiff, OfNat.ofNat_ne_zero, false_and, and_false, Bool.false_eq_true, Bool.true_eq_false, bl_130_44, bl_130_58, bl_130_63, bl_130_67, bl_130_74, bl_130_82, bl_130_83, bl_130_93, bl_130_97, bl_130_99, bl_130_108, bl_130_113, bl_130_114, bl_130_115, sm_c s1, sm_r1 s1, sm_a1 s1, sm_r2 s1, sm_a2 s1, sm_r23 s1, sm_a15 s1, sm_r24 s1, sm_a16 s1, sm_r25 s1, sm_a17 s1, hn1, isO_setF, inA_setF, hR_setF, hI_setF, setI_setFi, up1_up1, cS, cB, cL, cE, cC, ek, b2i_t, b2i_f, hnp, b1, b2, b3, hst, k3, Int.reduceEq]
              (try clear cS cB cL cE cC)
              repeat' (first | split | refine (andT (by omega)).trans ?_)
              all_goals (refine fin _ _ _ _ _ ?_ ?_ ?_ <;> simp_all [yes_, no_, loo_])
            · by_cases k5 : mK o h1 g p = 5
              · skip
                simp (maxSteps := 2000000) (disch := omega) only [↓wb_const, ↓wb_lconst, ↓wb_null, ↓wb_iload, ↓wb_lload, ↓wb_aload, ↓wb_istore, ↓wb_lstore, ↓wb_astore, ↓wb_iinc, ↓wb_iadd, ↓wb_isub, ↓wb_imul, ↓wb_iand, ↓wb_ior, ↓wb_ishr, ↓wb_idiv, ↓wb_irem, ↓wb_ladd, ↓wb_lsub, ↓wb_land, ↓wb_lor, ↓wb_lxor, ↓wb_lneg, ↓wb_lushr, ↓wb_lshl, ↓wb_l2i, ↓wb_lcmp, ↓wb_dupI, ↓wb_dupR, ↓wb_dup2, ↓wb_popI, ↓wb_popR, ↓wb_getI, ↓wb_getL, ↓wb_getR, ↓wb_putI, ↓wb_putZ, ↓wb_putL, ↓wb_putR, ↓wb_iaload, ↓wb_laload, ↓wb_zaload, ↓wb_aaload, ↓wb_iastore, ↓wb_lastore, ↓wb_zastore, ↓wb_aastore, ↓wb_alen, ↓wb_newI, ↓wb_newL, ↓wb_newZ, ↓wb_newA, ↓wb_new, ↓wb_obj, ↓wb_sld, ↓wb_slen, ↓wb_goto, ↓wb_ifeq, ↓wb_iceq, ↓wb_ifne, ↓wb_icne, ↓wb_iflt, ↓wb_iclt, ↓wb_ifge, ↓wb_icge, ↓wb_ifgt, ↓wb_icgt, ↓wb_ifle, ↓wb_icle, ↓wb_ifnull, ↓wb_ifnonnull, ↓wb_ret, ↓wb_iret, ↓wb_lret, ↓wb_aret, ↓wb_zret, ↓wb_tsw0, ↓wb_tsw1, ↓wb_lsw0, ↓wb_lsw1, ↓wb_calls0, ↓wb_calls1, ↓wb_callv1, ↓wb_calls2, ↓wb_callv2, ↓wb_calls3, ↓wb_callv3, ↓wb_callv4, ↓wb_callv5, ↓wb_callv6, oB_some, ldI_z, ldI_s, ldL_z, ldL_s, ldR_z, ldR_s, ls1_z, ls1_1n, ls1_1i, ls1_1r, ls1_1l, ls1_s, ls2_z, ls2_1n, ls2_1i, ls2_1r, ls2_1l, ls2_s, List.length_cons, List.length_nil, Nat.reduceAdd, Nat.reduceLT, Nat.reduceLeDiff, Nat.reduceDiv, Nat.reduceMod, Int.reduceToNat, Int.reduceAdd, Nat.zero_add, true_and, Option.toList_some, Option.toList_none, List.cons_append, List.nil_append, true_or, or_true, and_true, false_or, or_false, Int.reduceEq, Int.reduceLT, Int.reduceLE, Int.reduceNeg, not_true_eq_false, not_false_eq_true, Bool.and_eq_true, Bool.or_eq_true, decide_eq_true_eq, ↓reduceIte, wr_id, b2i_0, b2i_01, Nat.add_left_cancel_iff, Nat.add_eq_left, Nat.left_eq_add, Nat.reduceEqDiff, OfNat.ofNat_ne_zero, false_and, and_false, Bool.false_eq_true, Bool.true_eq_false, bl_130_44, bl_130_58, bl_130_63, bl_130_67, bl_130_74, bl_130_82, bl_130_83, bl_130_93, bl_130_97, bl_130_99, bl_130_108, bl_130_113, bl_130_114, bl_130_115, sm_c s1, sm_r1 s1, sm_a1 s1, sm_r2 s1, sm_a2 s1, sm_r23 s1, sm_a15 s1, sm_r24 s1, sm_a16 s1, sm_r25 s1, sm_a17 s1, hn1, isO_setF, inA_setF, hR_setF, hI_setF, setI_setFi, up1_up1, cS, cB, cL, cE, cC, ek, b2i_t, b2i_f, hnp, b1, b2, b3, hst, k5, Int.reduceEq]
                (try clear cS cB cL cE cC)
                repeat' (first | split | refine (andT (by omega)).trans ?_)
                all_goals (refine fin _ _ _ _ _ ?_ ?_ ?_ <;> simp_all [yes_, no_, loo_])
              · skip
                simp (maxSteps := 2000000) (disch := omega) only [↓wb_const, ↓wb_lconst, ↓wb_null, ↓wb_iload, ↓wb_lload, ↓wb_aload, ↓wb_istore, ↓wb_lstore, ↓wb_astore, ↓wb_iinc, ↓wb_iadd, ↓wb_isub, ↓wb_imul, ↓wb_iand, ↓wb_ior, ↓wb_ishr, ↓wb_idiv, ↓wb_irem, ↓wb_ladd, ↓wb_lsub, ↓wb_land, ↓wb_lor, ↓wb_lxor, ↓wb_lneg, ↓wb_lushr, ↓wb_lshl, ↓wb_l2i, ↓wb_lcmp, ↓wb_dupI, ↓wb_dupR, ↓wb_dup2, ↓wb_popI, ↓wb_popR, ↓wb_getI, ↓wb_getL, ↓wb_getR, ↓wb_putI, ↓wb_putZ, ↓wb_putL, ↓wb_putR, ↓wb_iaload, ↓wb_laload, ↓wb_zaload, ↓wb_aaload, ↓wb_iastore, ↓wb_lastore, ↓wb_zastore, ↓wb_aastore, ↓wb_alen, ↓wb_newI, ↓wb_newL, ↓wb_newZ, ↓wb_newA, ↓wb_new, ↓wb_obj, ↓wb_sld, ↓wb_slen, ↓wb_goto, ↓wb_ifeq, ↓wb_iceq, ↓wb_ifne, ↓wb_icne, ↓wb_iflt, ↓wb_iclt, ↓wb_ifge, ↓wb_icge, ↓wb_ifgt, ↓wb_icgt, ↓wb_ifle, ↓wb_icle, ↓wb_ifnull, ↓wb_ifnonnull, ↓wb_ret, ↓wb_iret, ↓wb_lret, ↓wb_aret, ↓wb_zret, ↓wb_tsw0, ↓wb_tsw1, ↓wb_lsw0, ↓wb_lsw1, ↓wb_calls0, ↓wb_calls1, ↓wb_callv1, ↓wb_calls2, ↓wb_callv2, ↓wb_calls3, ↓wb_callv3, ↓wb_callv4, ↓wb_callv5, ↓wb_callv6, oB_some, ldI_z, ldI_s, ldL_z, ldL_s, ldR_z, ldR_s, ls1_z, ls1_1n, ls1_1i, ls1_1r, ls1_1l, ls1_s, ls2_z, ls2_1n, ls2_1i, ls2_1r, ls2_1l, ls2_s, List.length_cons, List.length_nil, Nat.reduceAdd, Nat.reduceLT, Nat.reduceLeDiff, Nat.reduceDiv, Nat.reduceMod, Int.reduceToNat, Int.reduceAdd, Nat.zero_add, true_and, Option.toList_some, Option.toList_none, List.cons_append, List.nil_append, true_or, or_true, and_true, false_or, or_false, Int.reduceEq, Int.reduceLT, Int.reduceLE, Int.reduceNeg, not_true_eq_false, not_false_eq_true, Bool.and_eq_true, Bool.or_eq_true, decide_eq_true_eq, ↓reduceIte, wr_id, b2i_0, b2i_01, Nat.add_left_cancel_iff, Nat.add_eq_left, Nat.left_eq_add, Nat.reduceEqDiff, OfNat.ofNat_ne_zero, false_and, and_false, Bool.false_eq_true, Bool.true_eq_false, bl_130_44, bl_130_58, bl_130_63, bl_130_67, bl_130_74, bl_130_82, bl_130_83, bl_130_93, bl_130_97, bl_130_99, bl_130_108, bl_130_113, bl_130_114, bl_130_115, sm_c s1, sm_r1 s1, sm_a1 s1, sm_r2 s1, sm_a2 s1, sm_r23 s1, sm_a15 s1, sm_r24 s1, sm_a16 s1, sm_r25 s1, sm_a17 s1, hn1, isO_setF, inA_setF, hR_setF, hI_setF, setI_setFi, up1_up1, cS, cB, cL, cE, cC, ek, b2i_t, b2i_f, hnp, b1, b2, b3, hst, k7, k8, k3, k5]
                (try clear cS cB cL cE cC)
                repeat' (first | split | refine (andT (by omega)).trans ?_)
                all_goals (refine fin _ _ _ _ _ ?_ ?_ ?_ <;> simp_all [yes_, no_, loo_])
  have l0 := loop n.toNat 0 none none (by omega) (by omega) (by omega)
  rw [W3_0] at l0
  exact l0
