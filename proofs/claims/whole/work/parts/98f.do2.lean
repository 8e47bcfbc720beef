theorem stm_kind {K X E : Int → Int} {n p : Nat} (w : WF K X E n) (h : stm K n p = true) : K p = 0 ∨ K p = 1 ∨ K p = 2 ∨ K p = 3 ∨ K p = 5 ∨ K p = 7 ∨ K p = 8 := by
  have a := stm_n h
  have b := (w p (by omega)).1
  omega
theorem hasE_k {k : Int} (hk : k = 0 ∨ k = 1 ∨ k = 2 ∨ k = 3 ∨ k = 5 ∨ k = 7 ∨ k = 8) : hasE k = true ↔ ¬ (k = 7 ∨ k = 8) := by
  unfold hasE
  simp
  omega
theorem kc_do {sc : Scr} {c k n d : Nat} {h : Hp} {Q : Option AV → Hp → Prop} {K X E : Int → Int} {s : St} (pi : PI c h n) (hwh : stk (cK c h) n = []) (wo : WO c h n) (sk : SK k h) (dj : c + 19 < k ∨ k + 9 < c) (hl : hR h k 4 = c) (hwy : hR h k 5 = c + 11) (rk : RK k h K X E s) (hf : sF s = 0) (hst : stm K n (sP s) = true) (aK : agr n K (cK c h)) (aX : agr n X (cX c h)) (aE : agr n E (cE c h)) (wf : WF K X E n) (hd : hI h k 7 = d) (d1 : d ≤ 100000) (t0 : 0 ≤ sT s) (t1 : sT s ≤ 100000) (c4 : sC s ≤ 400) (hQ : ∀ h2, FR k (k + 9) h h2 → RK k h2 K X E (sx K X E (yes_ K X n) (no_ K n) s) → hI h2 k 7 = d + 1 → hI h2 k 8 = hI h k 8 → hI h2 k 10 = vV (sN s) (sL s) (K (sP s)) (E (sP s)) → Q none h2) : WC sc 28 [aR k] h Q := by
  obtain ⟨p, hp⟩ : ∃ p : Nat, sP s = p := ⟨(sP s).toNat, by have := (stm_n hst).1; omega⟩
  rw [hp] at hst hQ
  have pn := stm_lt hst
  have n60 := pi.2.2.1
  have p60 : p < 60 := by omega
  have sp := pi.1
  have kd := stm_kind wf hst
  have hhE := hasE_k kd
  have hk : hI h (c + 1) p = K p := (aK p (by omega) (by omega)).symm
  have hx : hI h (c + 2) p = X p := (aX p (by omega) (by omega)).symm
  have he : hI h (c + 3) p = E p := (aE p (by omega) (by omega)).symm
  obtain ⟨-, -, -, -, -, -, prow⟩ := pi
  obtain ⟨-, -, -, -, n8, n9, n10, ixr, ier⟩ := prow p pn
  rw [← aK p (by omega) (by omega), ← aE p (by omega) (by omega)] at n8 n9
  rw [← aK p (by omega) (by omega), ← aX p (by omega) (by omega)] at n10
  rw [← aX p (by omega) (by omega)] at ixr
  rw [← aE p (by omega) (by omega)] at ier
  have xb := WF_x wf pn ixr
  have evE : hasE (K p) = true → exF (E p) = true := fun q => WF_ex wf pn q
  obtain ⟨ra, rr, ro⟩ := rk
  rw [hp] at ra
  rw [hf] at rr
  have ra : hI h k 6 = p := by rw [ra]; unfold e60; rw [if_neg (by omega)]
  obtain ⟨w12, w13, -, -⟩ := wo.2.2 p pn
  have hstc : stm (cK c h) n p = true := by rw [← stm_cg aK]; exact hst
  have wfc : WF (cK c h) (cX c h) (cE c h) n := WF_cg aK aX aE wf
  have ga : hI h (c + 12) p = e60 (yes_ K X n p) := by rw [w12, gA_y hstc, yes_fn aK aX (WF_WFb wf)]
  have gs : hI h (c + 13) p = if K p = 3 ∨ K p = 5 then e60 (no_ K n p) else e60 (yes_ K X n p) := by rw [w13, gS_y wfc hstc, yes_fn aK aX (WF_WFb wf), no_fn aK (WF_WFb wf), ← aK p (by omega) (by omega)]
  have b2 : (0 ≤ (p : Int) ∧ (p : Int) < 60) = True := by simp; omega
  have nN : ∀ j, j < 8 → hI h (k + 1) j = sN s j := ro.2.1
  have nL : ∀ j, j < 12 → hI h (k + 2) j = sL s j := ro.2.2.1
  have hu31 : K p = 1 → 0 ≤ X p ∧ X p < 2147483648 := fun _ => by omega
  have d4 := div4 (x := X p) (by omega) (by omega)
  have m4 := rem4 (x := X p) (by omega) (by omega)
  have s2 := shr2 (x := X p) (by omega) (by omega)
  have a3 := and3 (x := X p) (by omega) (by omega)
  have x1 : K p = 1 → remI (X p) 4 < 3 := fun q => by
    have := (wf p pn).2
    rw [q] at this
    exact (rt_1 this).2.1
  have x0 : K p = 0 → 0 ≤ X p ∧ X p < 8 := fun q => by
    have := (wf p pn).2
    rw [q] at this
    exact ⟨(rt_0 this).1, (rt_0 this).2.1⟩
  have hcr := rpV_12 (f := sN s) (k := K p) (v := E p) evE
  -- behind number and cell
  have seg3 : ∀ (h3 : Hp) (cell : Int), FR k k h h3 → (∀ j, ¬ j = 10 → ¬ j = 11 → ¬ j = 12 → hI h3 k j = hI h k j) → hI h3 k 10 = vV (sN s) (sL s) (K p) (E p) → hI h3 k 11 = rpV (sN s) (K p) (E p) → (hI h3 k 12 = if vR (sN s) (K p) (X p) (E p) = true then 1 else 0) → (K p = 1 → vR (sN s) (K p) (X p) (E p) = false → cell = 4 * remI (X p) 4 + plV (sN s) (K p) (X p) ∧ 0 ≤ cell ∧ cell < 12) → WB sc 28 (BL 28 49) [some (aR k), some (aI p), some (aI (K p)), some (aI (X p)), some (aI cell)] [] h3 Q := by
    intro h3 cell fr3 fo3 f10 f11 f12 hcell
    have sp3 := FR_sp fr3 sp
    have sk3 := FR_sk fr3 sk
    have hl3 : hR h3 k 4 = c := by rw [fr3.2.2.1]; exact hl
    have hwy3 : hR h3 k 5 = c + 11 := by rw [fr3.2.2.1]; exact hwy
    have ro3 : RKo k h3 K X E s := RKo_cg (fun d d0 d9 _ => (fr3.2.2.2 (k + d) (by omega)).1) (fo3 _ (by omega) (by omega) (by omega)) ro
    have hd3 : hI h3 k 7 = d := by rw [fo3 _ (by omega) (by omega) (by omega)]; exact hd
    -- behind the note
    have aft : ∀ h4 : Hp, FR (k + 4) (k + 6) h3 h4 → RKo k h4 K X E (ntS s (K p) (E p)) → hI h4 k 7 = d → (hI (setI h4 k 7 ((d : Int) + 1)) k 12 = if vR (sN s) (K p) (X p) (E p) = true then 1 else 0) → SK k h4 → (hI (setI h4 k 7 ((d : Int) + 1)) k 12 = 0 → WB sc 28 (BL 28 67) [some (aR k), some (aI p), some (aI (K p)), some (aI (X p)), some (aI cell)] [] (setI h4 k 7 ((d : Int) + 1)) Q) ∧ (¬ hI (setI h4 k 7 ((d : Int) + 1)) k 12 = 0 → Q none (setI h4 k 7 ((d : Int) + 1))) := by
      intro h4 fr4 ro4 hd4 rf sk4
      have frA : FR k (k + 9) h (setI h4 k 7 ((d : Int) + 1)) := FR_I (FR_tr (FR_wd fr3 (by omega) (by omega)) (FR_wd fr4 (by omega) (by omega))) (by omega) (by omega)
      have ro5 : RKo k (setI h4 k 7 ((d : Int) + 1)) K X E (ntS s (K p) (E p)) := RKo_cg (fun d d0 d9 _ => row_ne (by omega)) (hI_ne2 (by omega)) ro4
      have g10 : hI (setI h4 k 7 ((d : Int) + 1)) k 10 = vV (sN s) (sL s) (K p) (E p) := by rw [hI_ne2 (by omega), FR_i fr4 (by omega)]; exact f10
      have g7 : hI (setI h4 k 7 ((d : Int) + 1)) k 7 = (d : Int) + 1 := hI_eq
      have g8 : hI (setI h4 k 7 ((d : Int) + 1)) k 8 = hI h k 8 := by rw [hI_ne2 (by omega), FR_i fr4 (by omega)]; exact fo3 _ (by omega) (by omega) (by omega)
      have g6 : hI (setI h4 k 7 ((d : Int) + 1)) k 6 = p := by rw [hI_ne2 (by omega), FR_i fr4 (by omega), fo3 _ (by omega) (by omega) (by omega)]; exact ra
      generalize setI h4 k 7 ((d : Int) + 1) = h5 at *
      constructor
      · intro z
        have hv : vR (sN s) (K p) (X p) (E p) = false := by
          cases hv : vR (sN s) (K p) (X p) (E p) with
          | false => rfl
          | true => rw [hv, if_pos rfl] at rf; omega
        refine kd_67 (FR_sp frA sp) (FR_sk frA sk) dj (by rw [frA.2.2.1]; exact hwy) ro5 hp p60 hv kd x0 (fun q => hcell q hv) g10 z t0 t1 c4 (n := n) (by rw [FR_i frA (by omega)]; exact ga) (by rw [FR_i frA (by omega)]; exact gs) (fun h6 fr6 rk6 d6 f6 n6 => ?_)
        exact hQ h6 (FR_tr frA fr6) rk6 (by rw [d6, g7]) (by rw [f6, g8]) n6
      · intro z
        have hv : vR (sN s) (K p) (X p) (E p) = true := by
          cases hv : vR (sN s) (K p) (X p) (E p) with
          | true => rfl
          | false => rw [hv, if_neg (by decide)] at rf; exact absurd rf z
        refine hQ h5 frA ?_ g7 g8 g10
        unfold sx
        rw [hp, stp_R hv]
        refine ⟨?_, ?_, ro5⟩
        · rw [g6]; show (p : Int) = e60 (sP s); rw [hp]; unfold e60; rw [if_neg (by omega)]
        · rw [rf, if_pos hv]; rfl
    rw [bl_28_49]
    by_cases z4 : sC s < 400
    · have hz3 : hI h3 (k + 4) 5 = sC s := ro3.1.2
      simp (maxSteps := 2000000) (disch := omega) only [↓wb_const, ↓wb_lconst, ↓wb_null, ↓wb_iload, ↓wb_lload, ↓wb_aload, ↓wb_istore, ↓wb_lstore, ↓wb_astore, ↓wb_iinc, ↓wb_iand, ↓wb_ior, ↓wb_ishr, ↓wb_idiv, ↓wb_irem, ↓wb_ladd, ↓wb_lsub, ↓wb_land, ↓wb_lor, ↓wb_lxor, ↓wb_lneg, ↓wb_lushr, ↓wb_lshl, ↓wb_l2i, ↓wb_lcmp, ↓wb_dupI, ↓wb_dupR, ↓wb_dup2, ↓wb_popI, ↓wb_popR, ↓wb_getI, ↓wb_getL, ↓wb_getR, ↓wb_putI, ↓wb_putZ, ↓wb_putL, ↓wb_putR, ↓wb_iaload, ↓wb_laload, ↓wb_zaload, ↓wb_aaload, ↓wb_iastore, ↓wb_lastore, ↓wb_zastore, ↓wb_aastore, ↓wb_alen, ↓wb_newI, ↓wb_newL, ↓wb_newZ, ↓wb_newA, ↓wb_new, ↓wb_obj, ↓wb_sld, ↓wb_slen, ↓wb_goto, ↓wb_ifeq, ↓wb_iceq, ↓wb_ifne, ↓wb_icne, ↓wb_iflt, ↓wb_iclt, ↓wb_ifge, ↓wb_icge, ↓wb_ifgt, ↓wb_icgt, ↓wb_ifle, ↓wb_icle, ↓wb_ifnull, ↓wb_ifnonnull, ↓wb_ret, ↓wb_iret, ↓wb_lret, ↓wb_aret, ↓wb_zret, ↓wb_tsw0, ↓wb_tsw1, ↓wb_lsw0, ↓wb_lsw1, ↓wb_calls0, ↓wb_calls1, ↓wb_callv1, ↓wb_calls2, ↓wb_callv2, ↓wb_calls3, ↓wb_callv3, ↓wb_callv4, ↓wb_callv5, ↓wb_callv6, oB_some, ldI_z, ldI_s, ldL_z, ldL_s, ldR_z, ldR_s, ls1_z, ls1_1n, ls1_1i, ls1_1r, ls1_1l, ls1_s, ls2_z, ls2_1n, ls2_1i, ls2_1r, ls2_1l, ls2_s, List.length_cons, List.length_nil, Nat.reduceAdd, Nat.reduceLT, Nat.reduceLeDiff, Nat.reduceDiv, Nat.reduceMod, Int.reduceToNat, Int.reduceAdd, Nat.zero_add, true_and, Option.toList_some, Option.toList_none, List.cons_append, List.nil_append, true_or, or_true, and_true, false_or, or_false, Int.reduceEq, Int.reduceLT, Int.reduceLE, Int.reduceNeg, not_true_eq_false, not_false_eq_true, Bool.and_eq_true, Bool.or_eq_true, decide_eq_true_eq, ↓reduceIte, b2i_0, b2i_01, b2i_01c, Nat.add_left_cancel_iff, Nat.add_eq_left, Nat.left_eq_add, Nat.reduceEqDiff, false_and, and_false, Bool.false_eq_true, Bool.true_eq_false, ↓wr_iadd, ↓wr_isub, ↓wr_imul, wr_id, sk_c sk3, sp_c sp3, sp_r0 sp3, sp_a1 sp3, sp_r1 sp3, sp_a2 sp3, sp_r2 sp3, sp_a3 sp3, sk_r3 sk3, sk_c4 sk3, sk_r0 sk3, sk_a1 sk3, sk_r1 sk3, sk_a2 sk3, sp_c11 sp3, sp_w0 sp3, sp_a12 sp3, sp_w1 sp3, sp_a13 sp3, hl3, f11]
      refine sc_note sp3 sk3 dj p60 hcr.2 hz3 z4 (by rw [FR_i fr3 (by omega), n8]; exact nm_8.1.2 (u := X p)) (by rw [FR_i fr3 (by omega), n9]; exact (nm_8 (u := X p)).2.1.2) (by rw [FR_i fr3 (by omega), n10]; exact (nm_8 (v := E p)).2.2.2) ?_
      rw [FR_i fr3 (y := c + 8) (by omega), FR_i fr3 (y := c + 9) (by omega), FR_i fr3 (y := c + 10) (by omega), n8, n9, n10]
      have rn := RKo_note ro3 z4 hp hu31 evE rfl rfl rfl
      generalize hh4 : stN k h3 (sC s) p (if 0 ≤ rpV (sN s) (K p) (E p) then hI h3 (k + 9) (rpV (sN s) (K p) (E p)).toNat else sOf k h3 (nmL (K p) (E p))) (sOf k h3 (nmR (K p) (E p))) (sOf k h3 (nmP (K p) (X p))) = h4 at *
      have fr4 : FR (k + 4) (k + 6) h3 h4 := by rw [← hh4]; exact stN_FR
      have sk4 := FR_sk fr4 sk3
      have hd4 : hI h4 k 7 = d := by rw [FR_i fr4 (by omega)]; exact hd3
      have rf : hI (setI h4 k 7 ((d : Int) + 1)) k 12 = if vR (sN s) (K p) (X p) (E p) = true then 1 else 0 := by rw [hI_ne2 (by omega), FR_i fr4 (by omega)]; exact f12
      obtain ⟨A, B⟩ := aft h4 fr4 rn hd4 rf sk4
      by_cases z : hI (setI h4 k 7 ((d : Int) + 1)) k 12 = 0
      · have A := A z
        simp (maxSteps := 2000000) (disch := omega) only [↓wb_const, ↓wb_lconst, ↓wb_null, ↓wb_iload, ↓wb_lload, ↓wb_aload, ↓wb_istore, ↓wb_lstore, ↓wb_astore, ↓wb_iinc, ↓wb_iand, ↓wb_ior, ↓wb_ishr, ↓wb_idiv, ↓wb_irem, ↓wb_ladd, ↓wb_lsub, ↓wb_land, ↓wb_lor, ↓wb_lxor, ↓wb_lneg, ↓wb_lushr, ↓wb_lshl, ↓wb_l2i, ↓wb_lcmp, ↓wb_dupI, ↓wb_dupR, ↓wb_dup2, ↓wb_popI, ↓wb_popR, ↓wb_getI, ↓wb_getL, ↓wb_getR, ↓wb_putI, ↓wb_putZ, ↓wb_putL, ↓wb_putR, ↓wb_iaload, ↓wb_laload, ↓wb_zaload, ↓wb_aaload, ↓wb_iastore, ↓wb_lastore, ↓wb_zastore, ↓wb_aastore, ↓wb_alen, ↓wb_newI, ↓wb_newL, ↓wb_newZ, ↓wb_newA, ↓wb_new, ↓wb_obj, ↓wb_sld, ↓wb_slen, ↓wb_goto, ↓wb_ifeq, ↓wb_iceq, ↓wb_ifne, ↓wb_icne, ↓wb_iflt, ↓wb_iclt, ↓wb_ifge, ↓wb_icge, ↓wb_ifgt, ↓wb_icgt, ↓wb_ifle, ↓wb_icle, ↓wb_ifnull, ↓wb_ifnonnull, ↓wb_ret, ↓wb_iret, ↓wb_lret, ↓wb_aret, ↓wb_zret, ↓wb_tsw0, ↓wb_tsw1, ↓wb_lsw0, ↓wb_lsw1, ↓wb_calls0, ↓wb_calls1, ↓wb_callv1, ↓wb_calls2, ↓wb_callv2, ↓wb_calls3, ↓wb_callv3, ↓wb_callv4, ↓wb_callv5, ↓wb_callv6, oB_some, ldI_z, ldI_s, ldL_z, ldL_s, ldR_z, ldR_s, ls1_z, ls1_1n, ls1_1i, ls1_1r, ls1_1l, ls1_s, ls2_z, ls2_1n, ls2_1i, ls2_1r, ls2_1l, ls2_s, List.length_cons, List.length_nil, Nat.reduceAdd, Nat.reduceLT, Nat.reduceLeDiff, Nat.reduceDiv, Nat.reduceMod, Int.reduceToNat, Int.reduceAdd, Nat.zero_add, true_and, Option.toList_some, Option.toList_none, List.cons_append, List.nil_append, true_or, or_true, and_true, false_or, or_false, Int.reduceEq, Int.reduceLT, Int.reduceLE, Int.reduceNeg, not_true_eq_false, not_false_eq_true, Bool.and_eq_true, Bool.or_eq_true, decide_eq_true_eq, ↓reduceIte, b2i_0, b2i_01, b2i_01c, Nat.add_left_cancel_iff, Nat.add_eq_left, Nat.left_eq_add, Nat.reduceEqDiff, false_and, and_false, Bool.false_eq_true, Bool.true_eq_false, ↓wr_iadd, ↓wr_isub, ↓wr_imul, wr_id, sk_c sk4, sk_r3 sk4, sk_c4 sk4, sk_r0 sk4, sk_a1 sk4, sk_r1 sk4, sk_a2 sk4, hd4, z, isO_setI]
        exact A
      · have B := B z
        have z : (hI (setI h4 k 7 ((d : Int) + 1)) k 12 = 0) = False := eq_false z
        simp (maxSteps := 2000000) (disch := omega) only [↓wb_const, ↓wb_lconst, ↓wb_null, ↓wb_iload, ↓wb_lload, ↓wb_aload, ↓wb_istore, ↓wb_lstore, ↓wb_astore, ↓wb_iinc, ↓wb_iand, ↓wb_ior, ↓wb_ishr, ↓wb_idiv, ↓wb_irem, ↓wb_ladd, ↓wb_lsub, ↓wb_land, ↓wb_lor, ↓wb_lxor, ↓wb_lneg, ↓wb_lushr, ↓wb_lshl, ↓wb_l2i, ↓wb_lcmp, ↓wb_dupI, ↓wb_dupR, ↓wb_dup2, ↓wb_popI, ↓wb_popR, ↓wb_getI, ↓wb_getL, ↓wb_getR, ↓wb_putI, ↓wb_putZ, ↓wb_putL, ↓wb_putR, ↓wb_iaload, ↓wb_laload, ↓wb_zaload, ↓wb_aaload, ↓wb_iastore, ↓wb_lastore, ↓wb_zastore, ↓wb_aastore, ↓wb_alen, ↓wb_newI, ↓wb_newL, ↓wb_newZ, ↓wb_newA, ↓wb_new, ↓wb_obj, ↓wb_sld, ↓wb_slen, ↓wb_goto, ↓wb_ifeq, ↓wb_iceq, ↓wb_ifne, ↓wb_icne, ↓wb_iflt, ↓wb_iclt, ↓wb_ifge, ↓wb_icge, ↓wb_ifgt, ↓wb_icgt, ↓wb_ifle, ↓wb_icle, ↓wb_ifnull, ↓wb_ifnonnull, ↓wb_ret, ↓wb_iret, ↓wb_lret, ↓wb_aret, ↓wb_zret, ↓wb_tsw0, ↓wb_tsw1, ↓wb_lsw0, ↓wb_lsw1, ↓wb_calls0, ↓wb_calls1, ↓wb_callv1, ↓wb_calls2, ↓wb_callv2, ↓wb_calls3, ↓wb_callv3, ↓wb_callv4, ↓wb_callv5, ↓wb_callv6, oB_some, ldI_z, ldI_s, ldL_z, ldL_s, ldR_z, ldR_s, ls1_z, ls1_1n, ls1_1i, ls1_1r, ls1_1l, ls1_s, ls2_z, ls2_1n, ls2_1i, ls2_1r, ls2_1l, ls2_s, List.length_cons, List.length_nil, Nat.reduceAdd, Nat.reduceLT, Nat.reduceLeDiff, Nat.reduceDiv, Nat.reduceMod, Int.reduceToNat, Int.reduceAdd, Nat.zero_add, true_and, Option.toList_some, Option.toList_none, List.cons_append, List.nil_append, true_or, or_true, and_true, false_or, or_false, Int.reduceEq, Int.reduceLT, Int.reduceLE, Int.reduceNeg, not_true_eq_false, not_false_eq_true, Bool.and_eq_true, Bool.or_eq_true, decide_eq_true_eq, ↓reduceIte, b2i_0, b2i_01, b2i_01c, Nat.add_left_cancel_iff, Nat.add_eq_left, Nat.left_eq_add, Nat.reduceEqDiff, false_and, and_false, Bool.false_eq_true, Bool.true_eq_false, ↓wr_iadd, ↓wr_isub, ↓wr_imul, wr_id, sk_c sk4, sk_r3 sk4, sk_c4 sk4, sk_r0 sk4, sk_a1 sk4, sk_r1 sk4, sk_a2 sk4, hd4, z, isO_setI]
        exact B
    · have hz3 : 400 ≤ hI h3 (k + 4) 5 := by rw [ro3.1.2]; omega
      have p0 := fun (Q : Option AV → Hp → Prop) => sc_note0 (sc := sc) (Q := Q) (c := c) (p := (p : Int)) (cr := rpV (sN s) (K p) (E p)) sk3 hz3
      have rf : hI (setI h3 k 7 ((d : Int) + 1)) k 12 = if vR (sN s) (K p) (X p) (E p) = true then 1 else 0 := by rw [hI_ne2 (by omega)]; exact f12
      obtain ⟨A, B⟩ := aft h3 FR_rf (by rw [ntS_f z4]; exact ro3) hd3 rf sk3
      by_cases z : hI (setI h3 k 7 ((d : Int) + 1)) k 12 = 0
      · have A := A z
        simp (maxSteps := 2000000) (disch := omega) only [↓wb_const, ↓wb_lconst, ↓wb_null, ↓wb_iload, ↓wb_lload, ↓wb_aload, ↓wb_istore, ↓wb_lstore, ↓wb_astore, ↓wb_iinc, ↓wb_iand, ↓wb_ior, ↓wb_ishr, ↓wb_idiv, ↓wb_irem, ↓wb_ladd, ↓wb_lsub, ↓wb_land, ↓wb_lor, ↓wb_lxor, ↓wb_lneg, ↓wb_lushr, ↓wb_lshl, ↓wb_l2i, ↓wb_lcmp, ↓wb_dupI, ↓wb_dupR, ↓wb_dup2, ↓wb_popI, ↓wb_popR, ↓wb_getI, ↓wb_getL, ↓wb_getR, ↓wb_putI, ↓wb_putZ, ↓wb_putL, ↓wb_putR, ↓wb_iaload, ↓wb_laload, ↓wb_zaload, ↓wb_aaload, ↓wb_iastore, ↓wb_lastore, ↓wb_zastore, ↓wb_aastore, ↓wb_alen, ↓wb_newI, ↓wb_newL, ↓wb_newZ, ↓wb_newA, ↓wb_new, ↓wb_obj, ↓wb_sld, ↓wb_slen, ↓wb_goto, ↓wb_ifeq, ↓wb_iceq, ↓wb_ifne, ↓wb_icne, ↓wb_iflt, ↓wb_iclt, ↓wb_ifge, ↓wb_icge, ↓wb_ifgt, ↓wb_icgt, ↓wb_ifle, ↓wb_icle, ↓wb_ifnull, ↓wb_ifnonnull, ↓wb_ret, ↓wb_iret, ↓wb_lret, ↓wb_aret, ↓wb_zret, ↓wb_tsw0, ↓wb_tsw1, ↓wb_lsw0, ↓wb_lsw1, ↓wb_calls0, ↓wb_calls1, ↓wb_callv1, ↓wb_calls2, ↓wb_callv2, ↓wb_calls3, ↓wb_callv3, ↓wb_callv4, ↓wb_callv5, ↓wb_callv6, oB_some, ldI_z, ldI_s, ldL_z, ldL_s, ldR_z, ldR_s, ls1_z, ls1_1n, ls1_1i, ls1_1r, ls1_1l, ls1_s, ls2_z, ls2_1n, ls2_1i, ls2_1r, ls2_1l, ls2_s, List.length_cons, List.length_nil, Nat.reduceAdd, Nat.reduceLT, Nat.reduceLeDiff, Nat.reduceDiv, Nat.reduceMod, Int.reduceToNat, Int.reduceAdd, Nat.zero_add, true_and, Option.toList_some, Option.toList_none, List.cons_append, List.nil_append, true_or, or_true, and_true, false_or, or_false, Int.reduceEq, Int.reduceLT, Int.reduceLE, Int.reduceNeg, not_true_eq_false, not_false_eq_true, Bool.and_eq_true, Bool.or_eq_true, decide_eq_true_eq, ↓reduceIte, b2i_0, b2i_01, b2i_01c, Nat.add_left_cancel_iff, Nat.add_eq_left, Nat.left_eq_add, Nat.reduceEqDiff, false_and, and_false, Bool.false_eq_true, Bool.true_eq_false, ↓wr_iadd, ↓wr_isub, ↓wr_imul, wr_id, sk_c sk3, sp_c sp3, sp_r0 sp3, sp_a1 sp3, sp_r1 sp3, sp_a2 sp3, sp_r2 sp3, sp_a3 sp3, sk_r3 sk3, sk_c4 sk3, sk_r0 sk3, sk_a1 sk3, sk_r1 sk3, sk_a2 sk3, sp_c11 sp3, sp_w0 sp3, sp_a12 sp3, sp_w1 sp3, sp_a13 sp3, hl3, f11, ↓p0, hd3, z, isO_setI]
        exact A
      · have B := B z
        have z : (hI (setI h3 k 7 ((d : Int) + 1)) k 12 = 0) = False := eq_false z
        simp (maxSteps := 2000000) (disch := omega) only [↓wb_const, ↓wb_lconst, ↓wb_null, ↓wb_iload, ↓wb_lload, ↓wb_aload, ↓wb_istore, ↓wb_lstore, ↓wb_astore, ↓wb_iinc, ↓wb_iand, ↓wb_ior, ↓wb_ishr, ↓wb_idiv, ↓wb_irem, ↓wb_ladd, ↓wb_lsub, ↓wb_land, ↓wb_lor, ↓wb_lxor, ↓wb_lneg, ↓wb_lushr, ↓wb_lshl, ↓wb_l2i, ↓wb_lcmp, ↓wb_dupI, ↓wb_dupR, ↓wb_dup2, ↓wb_popI, ↓wb_popR, ↓wb_getI, ↓wb_getL, ↓wb_getR, ↓wb_putI, ↓wb_putZ, ↓wb_putL, ↓wb_putR, ↓wb_iaload, ↓wb_laload, ↓wb_zaload, ↓wb_aaload, ↓wb_iastore, ↓wb_lastore, ↓wb_zastore, ↓wb_aastore, ↓wb_alen, ↓wb_newI, ↓wb_newL, ↓wb_newZ, ↓wb_newA, ↓wb_new, ↓wb_obj, ↓wb_sld, ↓wb_slen, ↓wb_goto, ↓wb_ifeq, ↓wb_iceq, ↓wb_ifne, ↓wb_icne, ↓wb_iflt, ↓wb_iclt, ↓wb_ifge, ↓wb_icge, ↓wb_ifgt, ↓wb_icgt, ↓wb_ifle, ↓wb_icle, ↓wb_ifnull, ↓wb_ifnonnull, ↓wb_ret, ↓wb_iret, ↓wb_lret, ↓wb_aret, ↓wb_zret, ↓wb_tsw0, ↓wb_tsw1, ↓wb_lsw0, ↓wb_lsw1, ↓wb_calls0, ↓wb_calls1, ↓wb_callv1, ↓wb_calls2, ↓wb_callv2, ↓wb_calls3, ↓wb_callv3, ↓wb_callv4, ↓wb_callv5, ↓wb_callv6, oB_some, ldI_z, ldI_s, ldL_z, ldL_s, ldR_z, ldR_s, ls1_z, ls1_1n, ls1_1i, ls1_1r, ls1_1l, ls1_s, ls2_z, ls2_1n, ls2_1i, ls2_1r, ls2_1l, ls2_s, List.length_cons, List.length_nil, Nat.reduceAdd, Nat.reduceLT, Nat.reduceLeDiff, Nat.reduceDiv, Nat.reduceMod, Int.reduceToNat, Int.reduceAdd, Nat.zero_add, true_and, Option.toList_some, Option.toList_none, List.cons_append, List.nil_append, true_or, or_true, and_true, false_or, or_false, Int.reduceEq, Int.reduceLT, Int.reduceLE, Int.reduceNeg, not_true_eq_false, not_false_eq_true, Bool.and_eq_true, Bool.or_eq_true, decide_eq_true_eq, ↓reduceIte, b2i_0, b2i_01, b2i_01c, Nat.add_left_cancel_iff, Nat.add_eq_left, Nat.left_eq_add, Nat.reduceEqDiff, false_and, and_false, Bool.false_eq_true, Bool.true_eq_false, ↓wr_iadd, ↓wr_isub, ↓wr_imul, wr_id, sk_c sk3, sp_c sp3, sp_r0 sp3, sp_a1 sp3, sp_r1 sp3, sp_a2 sp3, sp_r2 sp3, sp_a3 sp3, sk_r3 sk3, sk_c4 sk3, sk_r0 sk3, sk_a1 sk3, sk_r1 sk3, sk_a2 sk3, sp_c11 sp3, sp_w0 sp3, sp_a12 sp3, sp_w1 sp3, sp_a13 sp3, hl3, f11, ↓p0, hd3, z, isO_setI]
        exact B
  -- behind the number
  have seg2 : ∀ (h1 : Hp) (w : Int), FR k k h h1 → (∀ j, ¬ j = 11 → ¬ j = 12 → hI h1 k j = hI h k j) → hI h1 k 11 = rpV (sN s) (K p) (E p) → (hI h1 k 12 = if (if K p = 7 ∨ K p = 8 then false else wR (sN s) (E p)) = true then 1 else 0) → w = vV (sN s) (sL s) (K p) (E p) → WB sc 28 (BL 28 31) [some (aR k), some (aI p), some (aI (K p)), some (aI (X p)), none] [aI w, aR k] h1 Q := by
    intro h1 w fr1 fo1 f11 f12 hw
    have sk1 := FR_sk fr1 sk
    have fr2 : FR k k h (setI h1 k 10 w) := FR_I fr1 (by omega) (by omega)
    have fo2 : ∀ j, ¬ j = 10 → ¬ j = 11 → ¬ j = 12 → hI (setI h1 k 10 w) k j = hI h k j := fun j j1 j2 j3 => by rw [hI_ne2 j1]; exact fo1 j j2 j3
    have g10 : hI (setI h1 k 10 w) k 10 = vV (sN s) (sL s) (K p) (E p) := by rw [hI_eq]; exact hw
    have g11 : hI (setI h1 k 10 w) k 11 = rpV (sN s) (K p) (E p) := by rw [hI_ne2 (by omega)]; exact f11
    have g12 : hI (setI h1 k 10 w) k 12 = if (if K p = 7 ∨ K p = 8 then false else wR (sN s) (E p)) = true then 1 else 0 := by rw [hI_ne2 (by omega)]; exact f12
    rw [bl_28_31]
    by_cases k1 : K p = 1
    · have k78 : ¬ (K p = 7 ∨ K p = 8) := by omega
      rw [if_neg k78] at g12
      have sk2 := FR_sk fr2 sk
      have nm2 : opV (hI (setI h1 k 10 w) (k + 1)) (shrI (X p) 2) = plV (sN s) (K p) (X p) := by
        unfold plV
        rw [if_pos k1, d4, ← s2]
        exact opV_cg (by omega) (fun j hj => by rw [FR_i fr2 (by omega)]; exact nN j hj)
      have pcs := fun (Q : Option AV → Hp → Prop) => kc_cellStored (sc := sc) (Q := Q) (u := X p) sk2 (by omega) (by omega)
      rw [show (if shrI (X p) 2 < 8 then hI (setI h1 k 10 w) (k + 1) (shrI (X p) 2).toNat else shrI (X p) 2 - 150) = opV (hI (setI h1 k 10 w) (k + 1)) (shrI (X p) 2) from rfl, nm2, a3, ← m4] at pcs
      have x1' := x1 k1
      have m0 : 0 ≤ remI (X p) 4 := by omega
      have vr0 : vR (sN s) (K p) (X p) (E p) = (wR (sN s) (E p) || (decide (plV (sN s) (K p) (X p) < 0) || decide (3 < plV (sN s) (K p) (X p)))) := by unfold vR; rw [if_neg k78]
      generalize hpl : plV (sN s) (K p) (X p) = pl at *
      by_cases c : 0 ≤ pl ∧ pl < 4
      · have ec : cellF (remI (X p) 4) pl = remI (X p) 4 * 4 + pl := by unfold cellF; rw [if_pos ⟨⟨m0, x1'⟩, c⟩]
        rw [ec] at pcs
        have vr1 : vR (sN s) (K p) (X p) (E p) = wR (sN s) (E p) := by
          rw [vr0, decide_eq_false (by omega : ¬ pl < 0), decide_eq_false (by omega : ¬ 3 < pl)]; simp
        have S3 := seg3 (setI h1 k 10 w) (remI (X p) 4 * 4 + pl) fr2 fo2 g10 g11 (by rw [vr1]; exact g12) (fun _ _ => ⟨by omega, by omega, by omega⟩)
        have c2 : (remI (X p) 4 * 4 + pl < 0) = False := by simp; omega
        have c3 : (0 ≤ remI (X p) 4 * 4 + pl) = True := by simp; omega
        rw [k1] at S3 ⊢
        simp (maxSteps := 2000000) (disch := omega) only [↓wb_const, ↓wb_lconst, ↓wb_null, ↓wb_iload, ↓wb_lload, ↓wb_aload, ↓wb_istore, ↓wb_lstore, ↓wb_astore, ↓wb_iinc, ↓wb_iand, ↓wb_ior, ↓wb_ishr, ↓wb_idiv, ↓wb_irem, ↓wb_ladd, ↓wb_lsub, ↓wb_land, ↓wb_lor, ↓wb_lxor, ↓wb_lneg, ↓wb_lushr, ↓wb_lshl, ↓wb_l2i, ↓wb_lcmp, ↓wb_dupI, ↓wb_dupR, ↓wb_dup2, ↓wb_popI, ↓wb_popR, ↓wb_getI, ↓wb_getL, ↓wb_getR, ↓wb_putI, ↓wb_putZ, ↓wb_putL, ↓wb_putR, ↓wb_iaload, ↓wb_laload, ↓wb_zaload, ↓wb_aaload, ↓wb_iastore, ↓wb_lastore, ↓wb_zastore, ↓wb_aastore, ↓wb_alen, ↓wb_newI, ↓wb_newL, ↓wb_newZ, ↓wb_newA, ↓wb_new, ↓wb_obj, ↓wb_sld, ↓wb_slen, ↓wb_goto, ↓wb_ifeq, ↓wb_iceq, ↓wb_ifne, ↓wb_icne, ↓wb_iflt, ↓wb_iclt, ↓wb_ifge, ↓wb_icge, ↓wb_ifgt, ↓wb_icgt, ↓wb_ifle, ↓wb_icle, ↓wb_ifnull, ↓wb_ifnonnull, ↓wb_ret, ↓wb_iret, ↓wb_lret, ↓wb_aret, ↓wb_zret, ↓wb_tsw0, ↓wb_tsw1, ↓wb_lsw0, ↓wb_lsw1, ↓wb_calls0, ↓wb_calls1, ↓wb_callv1, ↓wb_calls2, ↓wb_callv2, ↓wb_calls3, ↓wb_callv3, ↓wb_callv4, ↓wb_callv5, ↓wb_callv6, oB_some, ldI_z, ldI_s, ldL_z, ldL_s, ldR_z, ldR_s, ls1_z, ls1_1n, ls1_1i, ls1_1r, ls1_1l, ls1_s, ls2_z, ls2_1n, ls2_1i, ls2_1r, ls2_1l, ls2_s, List.length_cons, List.length_nil, Nat.reduceAdd, Nat.reduceLT, Nat.reduceLeDiff, Nat.reduceDiv, Nat.reduceMod, Int.reduceToNat, Int.reduceAdd, Nat.zero_add, true_and, Option.toList_some, Option.toList_none, List.cons_append, List.nil_append, true_or, or_true, and_true, false_or, or_false, Int.reduceEq, Int.reduceLT, Int.reduceLE, Int.reduceNeg, not_true_eq_false, not_false_eq_true, Bool.and_eq_true, Bool.or_eq_true, decide_eq_true_eq, ↓reduceIte, b2i_0, b2i_01, b2i_01c, Nat.add_left_cancel_iff, Nat.add_eq_left, Nat.left_eq_add, Nat.reduceEqDiff, false_and, and_false, Bool.false_eq_true, Bool.true_eq_false, ↓wr_iadd, ↓wr_isub, ↓wr_imul, wr_id, ↓wl_28_40, sk_c sk1, sk_r3 sk1, sk_c4 sk1, sk_r0 sk1, sk_a1 sk1, sk_r1 sk1, sk_a2 sk1, isO_setI, ↓pcs, c2, c3, Int.reduceEq]
        exact S3
      · have ec : cellF (remI (X p) 4) pl = -1 := by unfold cellF; rw [if_neg (fun q => c q.2)]
        rw [ec] at pcs
        have vr1 : vR (sN s) (K p) (X p) (E p) = true := by
          rw [vr0]
          have : (decide (pl < 0) || decide (3 < pl)) = true := by simp; omega
          rw [this, Bool.or_true]
        have S3 := seg3 (setI (setI h1 k 10 w) k 12 1) (-1) (FR_I fr2 (by omega) (by omega)) (fun j j1 j2 j3 => by rw [hI_ne2 j3]; exact fo2 j j1 j2 j3) (by rw [hI_ne2 (by omega)]; exact g10) (by rw [hI_ne2 (by omega)]; exact g11) (by rw [hI_eq, vr1, if_pos rfl]) (fun _ q => by rw [vr1] at q; exact absurd q (by decide))
        rw [k1] at S3 ⊢
        simp (maxSteps := 2000000) (disch := omega) only [↓wb_const, ↓wb_lconst, ↓wb_null, ↓wb_iload, ↓wb_lload, ↓wb_aload, ↓wb_istore, ↓wb_lstore, ↓wb_astore, ↓wb_iinc, ↓wb_iand, ↓wb_ior, ↓wb_ishr, ↓wb_idiv, ↓wb_irem, ↓wb_ladd, ↓wb_lsub, ↓wb_land, ↓wb_lor, ↓wb_lxor, ↓wb_lneg, ↓wb_lushr, ↓wb_lshl, ↓wb_l2i, ↓wb_lcmp, ↓wb_dupI, ↓wb_dupR, ↓wb_dup2, ↓wb_popI, ↓wb_popR, ↓wb_getI, ↓wb_getL, ↓wb_getR, ↓wb_putI, ↓wb_putZ, ↓wb_putL, ↓wb_putR, ↓wb_iaload, ↓wb_laload, ↓wb_zaload, ↓wb_aaload, ↓wb_iastore, ↓wb_lastore, ↓wb_zastore, ↓wb_aastore, ↓wb_alen, ↓wb_newI, ↓wb_newL, ↓wb_newZ, ↓wb_newA, ↓wb_new, ↓wb_obj, ↓wb_sld, ↓wb_slen, ↓wb_goto, ↓wb_ifeq, ↓wb_iceq, ↓wb_ifne, ↓wb_icne, ↓wb_iflt, ↓wb_iclt, ↓wb_ifge, ↓wb_icge, ↓wb_ifgt, ↓wb_icgt, ↓wb_ifle, ↓wb_icle, ↓wb_ifnull, ↓wb_ifnonnull, ↓wb_ret, ↓wb_iret, ↓wb_lret, ↓wb_aret, ↓wb_zret, ↓wb_tsw0, ↓wb_tsw1, ↓wb_lsw0, ↓wb_lsw1, ↓wb_calls0, ↓wb_calls1, ↓wb_callv1, ↓wb_calls2, ↓wb_callv2, ↓wb_calls3, ↓wb_callv3, ↓wb_callv4, ↓wb_callv5, ↓wb_callv6, oB_some, ldI_z, ldI_s, ldL_z, ldL_s, ldR_z, ldR_s, ls1_z, ls1_1n, ls1_1i, ls1_1r, ls1_1l, ls1_s, ls2_z, ls2_1n, ls2_1i, ls2_1r, ls2_1l, ls2_s, List.length_cons, List.length_nil, Nat.reduceAdd, Nat.reduceLT, Nat.reduceLeDiff, Nat.reduceDiv, Nat.reduceMod, Int.reduceToNat, Int.reduceAdd, Nat.zero_add, true_and, Option.toList_some, Option.toList_none, List.cons_append, List.nil_append, true_or, or_true, and_true, false_or, or_false, Int.reduceEq, Int.reduceLT, Int.reduceLE, Int.reduceNeg, not_true_eq_false, not_false_eq_true, Bool.and_eq_true, Bool.or_eq_true, decide_eq_true_eq, ↓reduceIte, b2i_0, b2i_01, b2i_01c, Nat.add_left_cancel_iff, Nat.add_eq_left, Nat.left_eq_add, Nat.reduceEqDiff, false_and, and_false, Bool.false_eq_true, Bool.true_eq_false, ↓wr_iadd, ↓wr_isub, ↓wr_imul, wr_id, ↓wl_28_40, sk_c sk1, sk_r3 sk1, sk_c4 sk1, sk_r0 sk1, sk_a1 sk1, sk_r1 sk1, sk_a2 sk1, isO_setI, ↓pcs, Int.reduceEq, Int.reduceLT]
        exact S3
    · have vr1 : vR (sN s) (K p) (X p) (E p) = (if K p = 7 ∨ K p = 8 then false else wR (sN s) (E p)) := by
        unfold vR plV
        rw [if_neg k1]
        simp
      have S3 := seg3 (setI h1 k 10 w) (-1) fr2 fo2 g10 g11 (by rw [vr1]; exact g12) (fun q => absurd q k1)
      have k1' : (K p = 1) = False := eq_false k1
      simp (maxSteps := 2000000) (disch := omega) only [↓wb_const, ↓wb_lconst, ↓wb_null, ↓wb_iload, ↓wb_lload, ↓wb_aload, ↓wb_istore, ↓wb_lstore, ↓wb_astore, ↓wb_iinc, ↓wb_iand, ↓wb_ior, ↓wb_ishr, ↓wb_idiv, ↓wb_irem, ↓wb_ladd, ↓wb_lsub, ↓wb_land, ↓wb_lor, ↓wb_lxor, ↓wb_lneg, ↓wb_lushr, ↓wb_lshl, ↓wb_l2i, ↓wb_lcmp, ↓wb_dupI, ↓wb_dupR, ↓wb_dup2, ↓wb_popI, ↓wb_popR, ↓wb_getI, ↓wb_getL, ↓wb_getR, ↓wb_putI, ↓wb_putZ, ↓wb_putL, ↓wb_putR, ↓wb_iaload, ↓wb_laload, ↓wb_zaload, ↓wb_aaload, ↓wb_iastore, ↓wb_lastore, ↓wb_zastore, ↓wb_aastore, ↓wb_alen, ↓wb_newI, ↓wb_newL, ↓wb_newZ, ↓wb_newA, ↓wb_new, ↓wb_obj, ↓wb_sld, ↓wb_slen, ↓wb_goto, ↓wb_ifeq, ↓wb_iceq, ↓wb_ifne, ↓wb_icne, ↓wb_iflt, ↓wb_iclt, ↓wb_ifge, ↓wb_icge, ↓wb_ifgt, ↓wb_icgt, ↓wb_ifle, ↓wb_icle, ↓wb_ifnull, ↓wb_ifnonnull, ↓wb_ret, ↓wb_iret, ↓wb_lret, ↓wb_aret, ↓wb_zret, ↓wb_tsw0, ↓wb_tsw1, ↓wb_lsw0, ↓wb_lsw1, ↓wb_calls0, ↓wb_calls1, ↓wb_callv1, ↓wb_calls2, ↓wb_callv2, ↓wb_calls3, ↓wb_callv3, ↓wb_callv4, ↓wb_callv5, ↓wb_callv6, oB_some, ldI_z, ldI_s, ldL_z, ldL_s, ldR_z, ldR_s, ls1_z, ls1_1n, ls1_1i, ls1_1r, ls1_1l, ls1_s, ls2_z, ls2_1n, ls2_1i, ls2_1r, ls2_1l, ls2_s, List.length_cons, List.length_nil, Nat.reduceAdd, Nat.reduceLT, Nat.reduceLeDiff, Nat.reduceDiv, Nat.reduceMod, Int.reduceToNat, Int.reduceAdd, Nat.zero_add, true_and, Option.toList_some, Option.toList_none, List.cons_append, List.nil_append, true_or, or_true, and_true, false_or, or_false, Int.reduceEq, Int.reduceLT, Int.reduceLE, Int.reduceNeg, not_true_eq_false, not_false_eq_true, Bool.and_eq_true, Bool.or_eq_true, decide_eq_true_eq, ↓reduceIte, b2i_0, b2i_01, b2i_01c, Nat.add_left_cancel_iff, Nat.add_eq_left, Nat.left_eq_add, Nat.reduceEqDiff, false_and, and_false, Bool.false_eq_true, Bool.true_eq_false, ↓wr_iadd, ↓wr_isub, ↓wr_imul, wr_id, ↓wl_28_39, ↓wl_28_40, sk_c sk1, sk_r3 sk1, sk_c4 sk1, sk_r0 sk1, sk_a1 sk1, sk_r1 sk1, sk_a2 sk1, isO_setI, k1']
      exact S3
  -- the first part
  have sk0 : SK k (setI h k 11 (-1)) := by rw [SK_setI]; exact sk
  have fr0 : FR k k h (setI h k 11 (-1)) := FR_I FR_rf (by omega) (by omega)
  have z11 : hI (setI h k 11 (-1)) k 11 = -1 := hI_eq
  have z12 : hI (setI h k 11 (-1)) k 12 = 0 := by rw [hI_ne2 (by omega)]; exact rr
  have zo : ∀ j, ¬ j = 11 → hI (setI h k 11 (-1)) k j = hI h k j := fun j hj => hI_ne2 hj
  have he0 : hI (setI h k 11 (-1)) (c + 3) p = E p := by rw [hI_ne (by omega)]; exact he
  have nN0 : ∀ j, j < 8 → hI (setI h k 11 (-1)) (k + 1) j = sN s j := fun j hj => by rw [hI_ne (by omega)]; exact nN j hj
  have nL0 : ∀ j, j < 12 → hI (setI h k 11 (-1)) (k + 2) j = sL s j := fun j hj => by rw [hI_ne (by omega)]; exact nL j hj
  rw [wc_28]
  cases hE : hasE (K p) with
  | true =>
    have k78 := hhE.mp hE
    have ev := evE hE
    obtain ⟨v0, s8, l3⟩ := exF_s ev
    have l0 := andI_255 (shrI (E p) 8)
    have pw := fun (Q : Option AV → Hp → Prop) => kc_workOut (sc := sc) (Q := Q) sk0 ev ier
    have S2 := seg2 (woH k (setI h k 11 (-1)) (E p)) (xV (hI (setI h k 11 (-1)) (k + 1)) (hI (setI h k 11 (-1)) (k + 2)) (E p)) (FR_tr fr0 woH_FR) (fun j j1 j2 => by rw [woH_o j1 j2]; exact zo j j1) (by rw [woH_c hE (by omega) l3 z11]; exact rpV_cg nN0) (by rw [woH_r (by omega) l3 z12, wR_cg nN0, if_neg k78]) (by unfold vV; rw [if_neg k78]; exact xV_cg ev nN0 nL0)
    simp (maxSteps := 2000000) (disch := omega) only [↓wb_const, ↓wb_lconst, ↓wb_null, ↓wb_iload, ↓wb_lload, ↓wb_aload, ↓wb_istore, ↓wb_lstore, ↓wb_astore, ↓wb_iinc, ↓wb_iand, ↓wb_ior, ↓wb_ishr, ↓wb_idiv, ↓wb_irem, ↓wb_ladd, ↓wb_lsub, ↓wb_land, ↓wb_lor, ↓wb_lxor, ↓wb_lneg, ↓wb_lushr, ↓wb_lshl, ↓wb_l2i, ↓wb_lcmp, ↓wb_dupI, ↓wb_dupR, ↓wb_dup2, ↓wb_popI, ↓wb_popR, ↓wb_getI, ↓wb_getL, ↓wb_getR, ↓wb_putI, ↓wb_putZ, ↓wb_putL, ↓wb_putR, ↓wb_iaload, ↓wb_laload, ↓wb_zaload, ↓wb_aaload, ↓wb_iastore, ↓wb_lastore, ↓wb_zastore, ↓wb_aastore, ↓wb_alen, ↓wb_newI, ↓wb_newL, ↓wb_newZ, ↓wb_newA, ↓wb_new, ↓wb_obj, ↓wb_sld, ↓wb_slen, ↓wb_goto, ↓wb_ifeq, ↓wb_iceq, ↓wb_ifne, ↓wb_icne, ↓wb_iflt, ↓wb_iclt, ↓wb_ifge, ↓wb_icge, ↓wb_ifgt, ↓wb_icgt, ↓wb_ifle, ↓wb_icle, ↓wb_ifnull, ↓wb_ifnonnull, ↓wb_ret, ↓wb_iret, ↓wb_lret, ↓wb_aret, ↓wb_zret, ↓wb_tsw0, ↓wb_tsw1, ↓wb_lsw0, ↓wb_lsw1, ↓wb_calls0, ↓wb_calls1, ↓wb_callv1, ↓wb_calls2, ↓wb_callv2, ↓wb_calls3, ↓wb_callv3, ↓wb_callv4, ↓wb_callv5, ↓wb_callv6, oB_some, ldI_z, ldI_s, ldL_z, ldL_s, ldR_z, ldR_s, ls1_z, ls1_1n, ls1_1i, ls1_1r, ls1_1l, ls1_s, ls2_z, ls2_1n, ls2_1i, ls2_1r, ls2_1l, ls2_s, List.length_cons, List.length_nil, Nat.reduceAdd, Nat.reduceLT, Nat.reduceLeDiff, Nat.reduceDiv, Nat.reduceMod, Int.reduceToNat, Int.reduceAdd, Nat.zero_add, true_and, Option.toList_some, Option.toList_none, List.cons_append, List.nil_append, true_or, or_true, and_true, false_or, or_false, Int.reduceEq, Int.reduceLT, Int.reduceLE, Int.reduceNeg, not_true_eq_false, not_false_eq_true, Bool.and_eq_true, Bool.or_eq_true, decide_eq_true_eq, ↓reduceIte, b2i_0, b2i_01, b2i_01c, Nat.add_left_cancel_iff, Nat.add_eq_left, Nat.left_eq_add, Nat.reduceEqDiff, false_and, and_false, Bool.false_eq_true, Bool.true_eq_false, ↓wr_iadd, ↓wr_isub, ↓wr_imul, wr_id, ↓wl_28_0, sk_c sk, sp_c sp, sp_r0 sp, sp_a1 sp, sp_r1 sp, sp_a2 sp, sp_r2 sp, sp_a3 sp, sk_r3 sk, sk_c4 sk, sk_r0 sk, sk_a1 sk, sk_r1 sk, sk_a2 sk, sp_c11 sp, sp_w0 sp, sp_a12 sp, sp_w1 sp, sp_a13 sp, hl, ra, b2, hk, hx, he0, Int.toNat_natCast, ↓cc_hasE, hE, b2i_t, isO_setI, hR_setI, inA_setI, Int.reduceEq, ↓pw]
    exact S2
  | false =>
    have k78 : K p = 7 ∨ K p = 8 := Classical.byContradiction fun q => by rw [hhE.mpr q] at hE; exact absurd hE (by decide)
    have S2 := seg2 (setI h k 11 (-1)) 0 fr0 (fun j j1 j2 => zo j j1) (by rw [z11]; unfold rpV rrF; rw [if_neg (fun q => by rw [hE] at q; exact absurd q.1 (by decide)), if_neg (by omega)]) (by rw [z12, if_pos k78, if_neg (by decide)]) (by unfold vV; rw [if_pos k78])
    simp (maxSteps := 2000000) (disch := omega) only [↓wb_const, ↓wb_lconst, ↓wb_null, ↓wb_iload, ↓wb_lload, ↓wb_aload, ↓wb_istore, ↓wb_lstore, ↓wb_astore, ↓wb_iinc, ↓wb_iand, ↓wb_ior, ↓wb_ishr, ↓wb_idiv, ↓wb_irem, ↓wb_ladd, ↓wb_lsub, ↓wb_land, ↓wb_lor, ↓wb_lxor, ↓wb_lneg, ↓wb_lushr, ↓wb_lshl, ↓wb_l2i, ↓wb_lcmp, ↓wb_dupI, ↓wb_dupR, ↓wb_dup2, ↓wb_popI, ↓wb_popR, ↓wb_getI, ↓wb_getL, ↓wb_getR, ↓wb_putI, ↓wb_putZ, ↓wb_putL, ↓wb_putR, ↓wb_iaload, ↓wb_laload, ↓wb_zaload, ↓wb_aaload, ↓wb_iastore, ↓wb_lastore, ↓wb_zastore, ↓wb_aastore, ↓wb_alen, ↓wb_newI, ↓wb_newL, ↓wb_newZ, ↓wb_newA, ↓wb_new, ↓wb_obj, ↓wb_sld, ↓wb_slen, ↓wb_goto, ↓wb_ifeq, ↓wb_iceq, ↓wb_ifne, ↓wb_icne, ↓wb_iflt, ↓wb_iclt, ↓wb_ifge, ↓wb_icge, ↓wb_ifgt, ↓wb_icgt, ↓wb_ifle, ↓wb_icle, ↓wb_ifnull, ↓wb_ifnonnull, ↓wb_ret, ↓wb_iret, ↓wb_lret, ↓wb_aret, ↓wb_zret, ↓wb_tsw0, ↓wb_tsw1, ↓wb_lsw0, ↓wb_lsw1, ↓wb_calls0, ↓wb_calls1, ↓wb_callv1, ↓wb_calls2, ↓wb_callv2, ↓wb_calls3, ↓wb_callv3, ↓wb_callv4, ↓wb_callv5, ↓wb_callv6, oB_some, ldI_z, ldI_s, ldL_z, ldL_s, ldR_z, ldR_s, ls1_z, ls1_1n, ls1_1i, ls1_1r, ls1_1l, ls1_s, ls2_z, ls2_1n, ls2_1i, ls2_1r, ls2_1l, ls2_s, List.length_cons, List.length_nil, Nat.reduceAdd, Nat.reduceLT, Nat.reduceLeDiff, Nat.reduceDiv, Nat.reduceMod, Int.reduceToNat, Int.reduceAdd, Nat.zero_add, true_and, Option.toList_some, Option.toList_none, List.cons_append, List.nil_append, true_or, or_true, and_true, false_or, or_false, Int.reduceEq, Int.reduceLT, Int.reduceLE, Int.reduceNeg, not_true_eq_false, not_false_eq_true, Bool.and_eq_true, Bool.or_eq_true, decide_eq_true_eq, ↓reduceIte, b2i_0, b2i_01, b2i_01c, Nat.add_left_cancel_iff, Nat.add_eq_left, Nat.left_eq_add, Nat.reduceEqDiff, false_and, and_false, Bool.false_eq_true, Bool.true_eq_false, ↓wr_iadd, ↓wr_isub, ↓wr_imul, wr_id, ↓wl_28_0, ↓wl_28_30, sk_c sk, sp_c sp, sp_r0 sp, sp_a1 sp, sp_r1 sp, sp_a2 sp, sp_r2 sp, sp_a3 sp, sk_r3 sk, sk_c4 sk, sk_r0 sk, sk_a1 sk, sk_r1 sk, sk_a2 sk, sp_c11 sp, sp_w0 sp, sp_a12 sp, sp_w1 sp, sp_a13 sp, hl, ra, b2, hk, hx, Int.toNat_natCast, ↓cc_hasE, hE, b2i_f, isO_setI, hR_setI, inA_setI]
    exact S2
