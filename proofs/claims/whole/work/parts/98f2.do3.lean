theorem kd_31 {sc : Scr} {c k n d p : Nat} {h : Hp} {Q : Option AV → Hp → Prop} {K X E : Int → Int} {s : St} {w : Int} (sp : SP c h) (sk : SK k h) (dj : c + 19 < k ∨ k + 9 < c) (hl : hR h k 4 = c) (hwy : hR h k 5 = c + 11) (ro : RKo k h K X E s) (hp : sP s = p) (p60 : p < 60) (kd : K p = 0 ∨ K p = 1 ∨ K p = 2 ∨ K p = 3 ∨ K p = 5 ∨ K p = 7 ∨ K p = 8) (x0 : K p = 0 → 0 ≤ X p ∧ X p < 8) (hu31 : K p = 1 → 0 ≤ X p ∧ X p < 2147483648) (evE : hasE (K p) = true → exF (E p) = true) (n8 : hI h (c + 8) p = nmL (K p) (E p)) (n9 : hI h (c + 9) p = nmR (K p) (E p)) (n10 : hI h (c + 10) p = nmP (K p) (X p)) (ga : hI h (c + 12) p = e60 (yes_ K X n p)) (gs : hI h (c + 13) p = if K p = 3 ∨ K p = 5 then e60 (no_ K n p) else e60 (yes_ K X n p)) (ra : hI h k 6 = p) (hd : hI h k 7 = d) (d1 : d ≤ 100000) (t0 : 0 ≤ sT s) (t1 : sT s ≤ 100000) (c4 : sC s ≤ 400) (xb : 0 ≤ X p ∧ X p ≤ 803) (x1 : K p = 1 → remI (X p) 4 < 3) (nN : ∀ j, j < 8 → hI h (k + 1) j = sN s j) (f11 : hI h k 11 = rpV (sN s) (K p) (E p)) (f12 : hI h k 12 = if (if K p = 7 ∨ K p = 8 then false else wR (sN s) (E p)) = true then 1 else 0) (hw : w = vV (sN s) (sL s) (K p) (E p)) (hQ : ∀ h2, FR k (k + 9) h h2 → RK k h2 K X E (sx K X E (yes_ K X n) (no_ K n) s) → hI h2 k 7 = d + 1 → hI h2 k 8 = hI h k 8 → hI h2 k 10 = vV (sN s) (sL s) (K p) (E p) → Q none h2) : WB sc 28 (BL 28 31) [some (aR k), some (aI p), some (aI (K p)), some (aI (X p)), none] [aI w, aR k] h Q := by
  have d4 := div4 (x := X p) (by omega) (by omega)
  have m4 := rem4 (x := X p) (by omega) (by omega)
  have s2 := shr2 (x := X p) (by omega) (by omega)
  have a3 := and3 (x := X p) (by omega) (by omega)
  -- behind number and cell
  have seg3 : ∀ (h3 : Hp) (cell : Int), FR k k h h3 → (∀ j, ¬ j = 10 → ¬ j = 12 → hI h3 k j = hI h k j) → hI h3 k 10 = vV (sN s) (sL s) (K p) (E p) → (hI h3 k 12 = if vR (sN s) (K p) (X p) (E p) = true then 1 else 0) → (K p = 1 → vR (sN s) (K p) (X p) (E p) = false → cell = 4 * remI (X p) 4 + plV (sN s) (K p) (X p) ∧ 0 ≤ cell ∧ cell < 12) → WB sc 28 (BL 28 49) [some (aR k), some (aI p), some (aI (K p)), some (aI (X p)), some (aI cell)] [] h3 Q := by
    intro h3 cell fr fo g10 g12 hc
    refine kd_49 (FR_sp fr sp) (FR_sk fr sk) dj (by rw [fr.2.2.1]; exact hl) (by rw [fr.2.2.1]; exact hwy) (RKo_cg (fun d d0 d9 _ => (fr.2.2.2 (k + d) (by omega)).1) (fo _ (by omega) (by omega)) ro) hp p60 kd x0 hu31 evE (by rw [FR_i fr (by omega)]; exact n8) (by rw [FR_i fr (by omega)]; exact n9) (by rw [FR_i fr (by omega)]; exact n10) (n := n) (d := d) (by rw [FR_i fr (by omega)]; exact ga) (by rw [FR_i fr (by omega)]; exact gs) (by rw [fo _ (by omega) (by omega)]; exact ra) (by rw [fo _ (by omega) (by omega)]; exact hd) d1 t0 t1 c4 g10 (by rw [fo _ (by omega) (by omega)]; exact f11) g12 hc (fun h6 fr6 rk6 d6 f6 n6 => ?_)
    exact hQ h6 (FR_tr (FR_wd fr (by omega) (by omega)) fr6) rk6 d6 (by rw [f6, fo _ (by omega) (by omega)]) n6
  clear hQ
  have fr2 : FR k k h (setI h k 10 w) := FR_I FR_rf (by omega) (by omega)
  have fo2 : ∀ j, ¬ j = 10 → ¬ j = 12 → hI (setI h k 10 w) k j = hI h k j := fun j j1 j3 => hI_ne2 j1
  have g10 : hI (setI h k 10 w) k 10 = vV (sN s) (sL s) (K p) (E p) := by rw [hI_eq]; exact hw
  have g12 : hI (setI h k 10 w) k 12 = if (if K p = 7 ∨ K p = 8 then false else wR (sN s) (E p)) = true then 1 else 0 := by rw [hI_ne2 (by omega)]; exact f12
  rw [bl_28_31]
  by_cases k1 : K p = 1
  · have k78 : ¬ (K p = 7 ∨ K p = 8) := by omega
    rw [if_neg k78] at g12
    have sk2 := FR_sk fr2 sk
    have nm2 : opV (hI (setI h k 10 w) (k + 1)) (shrI (X p) 2) = plV (sN s) (K p) (X p) := by
      unfold plV
      rw [if_pos k1, d4, ← s2]
      exact opV_cg (by omega) (fun j hj => by rw [FR_i fr2 (by omega)]; exact nN j hj)
    have pcs := fun (Q : Option AV → Hp → Prop) => kc_cellStored (sc := sc) (Q := Q) (u := X p) sk2 (by omega) (by omega)
    rw [show (if shrI (X p) 2 < 8 then hI (setI h k 10 w) (k + 1) (shrI (X p) 2).toNat else shrI (X p) 2 - 150) = opV (hI (setI h k 10 w) (k + 1)) (shrI (X p) 2) from rfl, nm2, a3, ← m4] at pcs
    have x1' := x1 k1
    have m0 : 0 ≤ remI (X p) 4 := by omega
    have vr0 : vR (sN s) (K p) (X p) (E p) = (wR (sN s) (E p) || (decide (plV (sN s) (K p) (X p) < 0) || decide (3 < plV (sN s) (K p) (X p)))) := by unfold vR; rw [if_neg k78]
    generalize hpl : plV (sN s) (K p) (X p) = pl at *
    by_cases c : 0 ≤ pl ∧ pl < 4
    · have ec : cellF (remI (X p) 4) pl = remI (X p) 4 * 4 + pl := cellF_t ⟨m0, x1'⟩ c
      rw [ec] at pcs
      have vr1 : vR (sN s) (K p) (X p) (E p) = wR (sN s) (E p) := by
        rw [vr0, decide_eq_false (by omega : ¬ pl < 0), decide_eq_false (by omega : ¬ 3 < pl)]; simp
      have S3 := seg3 (setI h k 10 w) (remI (X p) 4 * 4 + pl) fr2 fo2 g10 (by rw [vr1]; exact g12) (fun _ _ => ⟨by omega, by omega, by omega⟩)
      have c2 : (remI (X p) 4 * 4 + pl < 0) = False := by simp; omega
      have c3 : (0 ≤ remI (X p) 4 * 4 + pl) = True := by simp; omega
      clear seg3
      rw [k1] at S3 ⊢
      simp (maxSteps := 2000000) (disch := omega) only [↓wb_const, ↓wb_lconst, ↓wb_null, ↓wb_iload, ↓wb_lload, ↓wb_aload, ↓wb_istore, ↓wb_lstore, ↓wb_astore, ↓wb_iinc, ↓wb_iand, ↓wb_ior, ↓wb_ishr, ↓wb_idiv, ↓wb_irem, ↓wb_ladd, ↓wb_lsub, ↓wb_land, ↓wb_lor, ↓wb_lxor, ↓wb_lneg, ↓wb_lushr, ↓wb_lshl, ↓wb_l2i, ↓wb_lcmp, ↓wb_dupI, ↓wb_dupR, ↓wb_dup2, ↓wb_popI, ↓wb_popR, ↓wb_getI, ↓wb_getL, ↓wb_getR, ↓wb_putI, ↓wb_putZ, ↓wb_putL, ↓wb_putR, ↓wb_iaload, ↓wb_laload, ↓wb_zaload, ↓wb_aaload, ↓wb_iastore, ↓wb_lastore, ↓wb_zastore, ↓wb_aastore, ↓wb_alen, ↓wb_newI, ↓wb_newL, ↓wb_newZ, ↓wb_newA, ↓wb_new, ↓wb_obj, ↓wb_sld, ↓wb_slen, ↓wb_goto, ↓wb_ifeq, ↓wb_iceq, ↓wb_ifne, ↓wb_icne, ↓wb_iflt, ↓wb_iclt, ↓wb_ifge, ↓wb_icge, ↓wb_ifgt, ↓wb_icgt, ↓wb_ifle, ↓wb_icle, ↓wb_ifnull, ↓wb_ifnonnull, ↓wb_ret, ↓wb_iret, ↓wb_lret, ↓wb_aret, ↓wb_zret, ↓wb_tsw0, ↓wb_tsw1, ↓wb_lsw0, ↓wb_lsw1, ↓wb_calls0, ↓wb_calls1, ↓wb_callv1, ↓wb_calls2, ↓wb_callv2, ↓wb_calls3, ↓wb_callv3, ↓wb_callv4, ↓wb_callv5, ↓wb_callv6, oB_some, ldI_z, ldI_s, ldL_z, ldL_s, ldR_z, ldR_s, ls1_z, ls1_1n, ls1_1i, ls1_1r, ls1_1l, ls1_s, ls2_z, ls2_1n, ls2_1i, ls2_1r, ls2_1l, ls2_s, List.length_cons, List.length_nil, Nat.reduceAdd, Nat.reduceLT, Nat.reduceLeDiff, Nat.reduceDiv, Nat.reduceMod, Int.reduceToNat, Int.reduceAdd, Nat.zero_add, true_and, Option.toList_some, Option.toList_none, List.cons_append, List.nil_append, true_or, or_true, and_true, false_or, or_false, Int.reduceEq, Int.reduceLT, Int.reduceLE, Int.reduceNeg, not_true_eq_false, not_false_eq_true, Bool.and_eq_true, Bool.or_eq_true, decide_eq_true_eq, ↓reduceIte, b2i_0, b2i_01, b2i_01c, Nat.add_left_cancel_iff, Nat.add_eq_left, Nat.left_eq_add, Nat.reduceEqDiff, false_and, and_false, Bool.false_eq_true, Bool.true_eq_false, ↓wr_iadd, ↓wr_isub, ↓wr_imul, wr_id, ↓wl_28_40, sk_c sk, sk_r3 sk, sk_c4 sk, sk_r0 sk, sk_a1 sk, sk_r1 sk, sk_a2 sk, isO_setI, ↓pcs, c2, c3, Int.reduceEq]
      exact S3
    · have ec : cellF (remI (X p) 4) pl = -1 := cellF_f c
      rw [ec] at pcs
      have vr1 : vR (sN s) (K p) (X p) (E p) = true := by
        rw [vr0]
        have : (decide (pl < 0) || decide (3 < pl)) = true := by simp; omega
        rw [this, Bool.or_true]
      have S3 := seg3 (setI (setI h k 10 w) k 12 1) (-1) (FR_I fr2 (by omega) (by omega)) (fun j j1 j3 => by rw [hI_ne2 j3]; exact fo2 j j1 j3) (by rw [hI_ne2 (by omega)]; exact g10) (by rw [hI_eq, vr1, if_pos rfl]) (fun _ q => by rw [vr1] at q; exact absurd q (by decide))
      clear seg3
      rw [k1] at S3 ⊢
      simp (maxSteps := 2000000) (disch := omega) only [↓wb_const, ↓wb_lconst, ↓wb_null, ↓wb_iload, ↓wb_lload, ↓wb_aload, ↓wb_istore, ↓wb_lstore, ↓wb_astore, ↓wb_iinc, ↓wb_iand, ↓wb_ior, ↓wb_ishr, ↓wb_idiv, ↓wb_irem, ↓wb_ladd, ↓wb_lsub, ↓wb_land, ↓wb_lor, ↓wb_lxor, ↓wb_lneg, ↓wb_lushr, ↓wb_lshl, ↓wb_l2i, ↓wb_lcmp, ↓wb_dupI, ↓wb_dupR, ↓wb_dup2, ↓wb_popI, ↓wb_popR, ↓wb_getI, ↓wb_getL, ↓wb_getR, ↓wb_putI, ↓wb_putZ, ↓wb_putL, ↓wb_putR, ↓wb_iaload, ↓wb_laload, ↓wb_zaload, ↓wb_aaload, ↓wb_iastore, ↓wb_lastore, ↓wb_zastore, ↓wb_aastore, ↓wb_alen, ↓wb_newI, ↓wb_newL, ↓wb_newZ, ↓wb_newA, ↓wb_new, ↓wb_obj, ↓wb_sld, ↓wb_slen, ↓wb_goto, ↓wb_ifeq, ↓wb_iceq, ↓wb_ifne, ↓wb_icne, ↓wb_iflt, ↓wb_iclt, ↓wb_ifge, ↓wb_icge, ↓wb_ifgt, ↓wb_icgt, ↓wb_ifle, ↓wb_icle, ↓wb_ifnull, ↓wb_ifnonnull, ↓wb_ret, ↓wb_iret, ↓wb_lret, ↓wb_aret, ↓wb_zret, ↓wb_tsw0, ↓wb_tsw1, ↓wb_lsw0, ↓wb_lsw1, ↓wb_calls0, ↓wb_calls1, ↓wb_callv1, ↓wb_calls2, ↓wb_callv2, ↓wb_calls3, ↓wb_callv3, ↓wb_callv4, ↓wb_callv5, ↓wb_callv6, oB_some, ldI_z, ldI_s, ldL_z, ldL_s, ldR_z, ldR_s, ls1_z, ls1_1n, ls1_1i, ls1_1r, ls1_1l, ls1_s, ls2_z, ls2_1n, ls2_1i, ls2_1r, ls2_1l, ls2_s, List.length_cons, List.length_nil, Nat.reduceAdd, Nat.reduceLT, Nat.reduceLeDiff, Nat.reduceDiv, Nat.reduceMod, Int.reduceToNat, Int.reduceAdd, Nat.zero_add, true_and, Option.toList_some, Option.toList_none, List.cons_append, List.nil_append, true_or, or_true, and_true, false_or, or_false, Int.reduceEq, Int.reduceLT, Int.reduceLE, Int.reduceNeg, not_true_eq_false, not_false_eq_true, Bool.and_eq_true, Bool.or_eq_true, decide_eq_true_eq, ↓reduceIte, b2i_0, b2i_01, b2i_01c, Nat.add_left_cancel_iff, Nat.add_eq_left, Nat.left_eq_add, Nat.reduceEqDiff, false_and, and_false, Bool.false_eq_true, Bool.true_eq_false, ↓wr_iadd, ↓wr_isub, ↓wr_imul, wr_id, ↓wl_28_40, sk_c sk, sk_r3 sk, sk_c4 sk, sk_r0 sk, sk_a1 sk, sk_r1 sk, sk_a2 sk, isO_setI, ↓pcs, Int.reduceEq, Int.reduceLT]
      exact S3
  · have vr1 : vR (sN s) (K p) (X p) (E p) = (if K p = 7 ∨ K p = 8 then false else wR (sN s) (E p)) := by
      unfold vR plV
      rw [if_neg k1]
      simp
    have S3 := seg3 (setI h k 10 w) (-1) fr2 fo2 g10 (by rw [vr1]; exact g12) (fun q => absurd q k1)
    have k1' : (K p = 1) = False := eq_false k1
    clear seg3
    simp (maxSteps := 2000000) (disch := omega) only [↓wb_const, ↓wb_lconst, ↓wb_null, ↓wb_iload, ↓wb_lload, ↓wb_aload, ↓wb_istore, ↓wb_lstore, ↓wb_astore, ↓wb_iinc, ↓wb_iand, ↓wb_ior, ↓wb_ishr, ↓wb_idiv, ↓wb_irem, ↓wb_ladd, ↓wb_lsub, ↓wb_land, ↓wb_lor, ↓wb_lxor, ↓wb_lneg, ↓wb_lushr, ↓wb_lshl, ↓wb_l2i, ↓wb_lcmp, ↓wb_dupI, ↓wb_dupR, ↓wb_dup2, ↓wb_popI, ↓wb_popR, ↓wb_getI, ↓wb_getL, ↓wb_getR, ↓wb_putI, ↓wb_putZ, ↓wb_putL, ↓wb_putR, ↓wb_iaload, ↓wb_laload, ↓wb_zaload, ↓wb_aaload, ↓wb_iastore, ↓wb_lastore, ↓wb_zastore, ↓wb_aastore, ↓wb_alen, ↓wb_newI, ↓wb_newL, ↓wb_newZ, ↓wb_newA, ↓wb_new, ↓wb_obj, ↓wb_sld, ↓wb_slen, ↓wb_goto, ↓wb_ifeq, ↓wb_iceq, ↓wb_ifne, ↓wb_icne, ↓wb_iflt, ↓wb_iclt, ↓wb_ifge, ↓wb_icge, ↓wb_ifgt, ↓wb_icgt, ↓wb_ifle, ↓wb_icle, ↓wb_ifnull, ↓wb_ifnonnull, ↓wb_ret, ↓wb_iret, ↓wb_lret, ↓wb_aret, ↓wb_zret, ↓wb_tsw0, ↓wb_tsw1, ↓wb_lsw0, ↓wb_lsw1, ↓wb_calls0, ↓wb_calls1, ↓wb_callv1, ↓wb_calls2, ↓wb_callv2, ↓wb_calls3, ↓wb_callv3, ↓wb_callv4, ↓wb_callv5, ↓wb_callv6, oB_some, ldI_z, ldI_s, ldL_z, ldL_s, ldR_z, ldR_s, ls1_z, ls1_1n, ls1_1i, ls1_1r, ls1_1l, ls1_s, ls2_z, ls2_1n, ls2_1i, ls2_1r, ls2_1l, ls2_s, List.length_cons, List.length_nil, Nat.reduceAdd, Nat.reduceLT, Nat.reduceLeDiff, Nat.reduceDiv, Nat.reduceMod, Int.reduceToNat, Int.reduceAdd, Nat.zero_add, true_and, Option.toList_some, Option.toList_none, List.cons_append, List.nil_append, true_or, or_true, and_true, false_or, or_false, Int.reduceEq, Int.reduceLT, Int.reduceLE, Int.reduceNeg, not_true_eq_false, not_false_eq_true, Bool.and_eq_true, Bool.or_eq_true, decide_eq_true_eq, ↓reduceIte, b2i_0, b2i_01, b2i_01c, Nat.add_left_cancel_iff, Nat.add_eq_left, Nat.left_eq_add, Nat.reduceEqDiff, false_and, and_false, Bool.false_eq_true, Bool.true_eq_false, ↓wr_iadd, ↓wr_isub, ↓wr_imul, wr_id, ↓wl_28_39, ↓wl_28_40, sk_c sk, sk_r3 sk, sk_c4 sk, sk_r0 sk, sk_a1 sk, sk_r1 sk, sk_a2 sk, isO_setI, k1']
    exact S3
theorem kc_do {sc : Scr} {c k n d : Nat} {h : Hp} {Q : Option AV → Hp → Prop} {K X E : Int → Int} {s : St} (pi : PI c h n) (hwh : stk (cK c h) n = []) (wo : WO c h n) (sk : SK k h) (dj : c + 19 < k ∨ k + 9 < c) (hl : hR h k 4 = c) (hwy : hR h k 5 = c + 11) (rk : RK k h K X E s) (hf : sF s = 0) (hst : stm K n (sP s) = true) (aK : agr n K (cK c h)) (aX : agr n X (cX c h)) (aE : agr n E (cE c h)) (wf : WF K X E n) (hd : hI h k 7 = d) (d1 : d ≤ 100000) (t0 : 0 ≤ sT s) (t1 : sT s ≤ 100000) (c4 : sC s ≤ 400) (hQ : ∀ h2, FR k (k + 9) h h2 → RK k h2 K X E (sx K X E (yes_ K X n) (no_ K n) s) → hI h2 k 7 = d + 1 → hI h2 k 8 = hI h k 8 → hI h2 k 10 = vV (sN s) (sL s) (K (sP s)) (E (sP s)) → Q none h2) : WC sc 28 [aR k] h Q := by
  obtain ⟨p, hp⟩ : ∃ p : Nat, sP s = p := ⟨(sP s).toNat, by have := (stm_n hst).1; omega⟩
  rw [hp] at hst hQ
  have pn := stm_lt hst
  have n60 := pi.2.2.1
  have p60 : p < 60 := by omega
  have sp := pi.1
  have kd := stm_kind wf hst
  have hhE := hasE_k kd
  have hk : hI h (c + 1) p = K p := (aK p (by omega) (by omega)).symm
  have hx : hI h (c + 2) p = X p := (aX p (by omega) (by omega)).symm
  have he : hI h (c + 3) p = E p := (aE p (by omega) (by omega)).symm
  obtain ⟨-, -, -, -, -, -, prow⟩ := pi
  obtain ⟨-, -, -, -, n8, n9, n10, ixr, ier⟩ := prow p pn
  rw [← aK p (by omega) (by omega), ← aE p (by omega) (by omega)] at n8 n9
  rw [← aK p (by omega) (by omega), ← aX p (by omega) (by omega)] at n10
  rw [← aX p (by omega) (by omega)] at ixr
  rw [← aE p (by omega) (by omega)] at ier
  have xb := WF_x wf pn ixr
  have evE : hasE (K p) = true → exF (E p) = true := fun q => WF_ex wf pn q
  obtain ⟨ra, rr, ro⟩ := rk
  rw [hp] at ra
  rw [hf] at rr
  have ra : hI h k 6 = p := by rw [ra]; unfold e60; rw [if_neg (by omega)]
  obtain ⟨w12, w13, -, -⟩ := wo.2.2 p pn
  have hstc : stm (cK c h) n p = true := by rw [← stm_cg aK]; exact hst
  have wfc : WF (cK c h) (cX c h) (cE c h) n := WF_cg aK aX aE wf
  have ga : hI h (c + 12) p = e60 (yes_ K X n p) := by rw [w12, gA_y hstc, yes_fn aK aX (WF_WFb wf)]
  have gs : hI h (c + 13) p = if K p = 3 ∨ K p = 5 then e60 (no_ K n p) else e60 (yes_ K X n p) := by rw [w13, gS_y wfc hstc, yes_fn aK aX (WF_WFb wf), no_fn aK (WF_WFb wf), ← aK p (by omega) (by omega)]
  have b2 : (0 ≤ (p : Int) ∧ (p : Int) < 60) = True := by simp; omega
  have nN : ∀ j, j < 8 → hI h (k + 1) j = sN s j := ro.2.1
  have nL : ∀ j, j < 12 → hI h (k + 2) j = sL s j := ro.2.2.1
  have x1 : K p = 1 → remI (X p) 4 < 3 := fun q => by
    have := (wf p pn).2
    rw [q] at this
    exact (rt_1 this).2.1
  have x0 : K p = 0 → 0 ≤ X p ∧ X p < 8 := fun q => by
    have := (wf p pn).2
    rw [q] at this
    exact ⟨(rt_0 this).1, (rt_0 this).2.1⟩
  have seg2 : ∀ (h1 : Hp) (w : Int), FR k k h h1 → (∀ j, ¬ j = 11 → ¬ j = 12 → hI h1 k j = hI h k j) → hI h1 k 11 = rpV (sN s) (K p) (E p) → (hI h1 k 12 = if (if K p = 7 ∨ K p = 8 then false else wR (sN s) (E p)) = true then 1 else 0) → w = vV (sN s) (sL s) (K p) (E p) → WB sc 28 (BL 28 31) [some (aR k), some (aI p), some (aI (K p)), some (aI (X p)), none] [aI w, aR k] h1 Q := by
    intro h1 w fr fo f11 f12 hw
    refine kd_31 (FR_sp fr sp) (FR_sk fr sk) dj (by rw [fr.2.2.1]; exact hl) (by rw [fr.2.2.1]; exact hwy) (RKo_cg (fun d d0 d9 _ => (fr.2.2.2 (k + d) (by omega)).1) (fo _ (by omega) (by omega)) ro) hp p60 kd x0 (fun _ => by omega) evE (by rw [FR_i fr (by omega)]; exact n8) (by rw [FR_i fr (by omega)]; exact n9) (by rw [FR_i fr (by omega)]; exact n10) (n := n) (d := d) (by rw [FR_i fr (by omega)]; exact ga) (by rw [FR_i fr (by omega)]; exact gs) (by rw [fo _ (by omega) (by omega)]; exact ra) (by rw [fo _ (by omega) (by omega)]; exact hd) d1 t0 t1 c4 xb x1 (fun j hj => by rw [FR_i fr (by omega)]; exact nN j hj) f11 f12 hw (fun h6 fr6 rk6 d6 f6 n6 => ?_)
    exact hQ h6 (FR_tr (FR_wd fr (by omega) (by omega)) fr6) rk6 d6 (by rw [f6, fo _ (by omega) (by omega)]) n6
  clear hQ
  -- the first part
  have sk0 : SK k (setI h k 11 (-1)) := by rw [SK_setI]; exact sk
  have fr0 : FR k k h (setI h k 11 (-1)) := FR_I FR_rf (by omega) (by omega)
  have z11 : hI (setI h k 11 (-1)) k 11 = -1 := hI_eq
  have z12 : hI (setI h k 11 (-1)) k 12 = 0 := by rw [hI_ne2 (by omega)]; exact rr
  have zo : ∀ j, ¬ j = 11 → hI (setI h k 11 (-1)) k j = hI h k j := fun j hj => hI_ne2 hj
  have he0 : hI (setI h k 11 (-1)) (c + 3) p = E p := by rw [hI_ne (by omega)]; exact he
  have nN0 : ∀ j, j < 8 → hI (setI h k 11 (-1)) (k + 1) j = sN s j := fun j hj => by rw [hI_ne (by omega)]; exact nN j hj
  have nL0 : ∀ j, j < 12 → hI (setI h k 11 (-1)) (k + 2) j = sL s j := fun j hj => by rw [hI_ne (by omega)]; exact nL j hj
  rw [wc_28]
  cases hE : hasE (K p) with
  | true =>
    have k78 := hhE.mp hE
    have ev := evE hE
    obtain ⟨v0, s8, l3⟩ := exF_s ev
    have l0 := andI_255 (shrI (E p) 8)
    have pw := fun (Q : Option AV → Hp → Prop) => kc_workOut (sc := sc) (Q := Q) sk0 ev ier
    have S2 := seg2 (woH k (setI h k 11 (-1)) (E p)) (xV (hI (setI h k 11 (-1)) (k + 1)) (hI (setI h k 11 (-1)) (k + 2)) (E p)) (FR_tr fr0 woH_FR) (fun j j1 j2 => by rw [woH_o j1 j2]; exact zo j j1) (by rw [woH_c hE (by omega) l3 z11]; exact rpV_cg nN0) (by rw [woH_r (by omega) l3 z12, wR_cg nN0, if_neg k78]) (by unfold vV; rw [if_neg k78]; exact xV_cg ev nN0 nL0)
    clear seg2
    simp (maxSteps := 2000000) (disch := omega) only [↓wb_const, ↓wb_lconst, ↓wb_null, ↓wb_iload, ↓wb_lload, ↓wb_aload, ↓wb_istore, ↓wb_lstore, ↓wb_astore, ↓wb_iinc, ↓wb_iand, ↓wb_ior, ↓wb_ishr, ↓wb_idiv, ↓wb_irem, ↓wb_ladd, ↓wb_lsub, ↓wb_land, ↓wb_lor, ↓wb_lxor, ↓wb_lneg, ↓wb_lushr, ↓wb_lshl, ↓wb_l2i, ↓wb_lcmp, ↓wb_dupI, ↓wb_dupR, ↓wb_dup2, ↓wb_popI, ↓wb_popR, ↓wb_getI, ↓wb_getL, ↓wb_getR, ↓wb_putI, ↓wb_putZ, ↓wb_putL, ↓wb_putR, ↓wb_iaload, ↓wb_laload, ↓wb_zaload, ↓wb_aaload, ↓wb_iastore, ↓wb_lastore, ↓wb_zastore, ↓wb_aastore, ↓wb_alen, ↓wb_newI, ↓wb_newL, ↓wb_newZ, ↓wb_newA, ↓wb_new, ↓wb_obj, ↓wb_sld, ↓wb_slen, ↓wb_goto, ↓wb_ifeq, ↓wb_iceq, ↓wb_ifne, ↓wb_icne, ↓wb_iflt, ↓wb_iclt, ↓wb_ifge, ↓wb_icge, ↓wb_ifgt, ↓wb_icgt, ↓wb_ifle, ↓wb_icle, ↓wb_ifnull, ↓wb_ifnonnull, ↓wb_ret, ↓wb_iret, ↓wb_lret, ↓wb_aret, ↓wb_zret, ↓wb_tsw0, ↓wb_tsw1, ↓wb_lsw0, ↓wb_lsw1, ↓wb_calls0, ↓wb_calls1, ↓wb_callv1, ↓wb_calls2, ↓wb_callv2, ↓wb_calls3, ↓wb_callv3, ↓wb_callv4, ↓wb_callv5, ↓wb_callv6, oB_some, ldI_z, ldI_s, ldL_z, ldL_s, ldR_z, ldR_s, ls1_z, ls1_1n, ls1_1i, ls1_1r, ls1_1l, ls1_s, ls2_z, ls2_1n, ls2_1i, ls2_1r, ls2_1l, ls2_s, List.length_cons, List.length_nil, Nat.reduceAdd, Nat.reduceLT, Nat.reduceLeDiff, Nat.reduceDiv, Nat.reduceMod, Int.reduceToNat, Int.reduceAdd, Nat.zero_add, true_and, Option.toList_some, Option.toList_none, List.cons_append, List.nil_append, true_or, or_true, and_true, false_or, or_false, Int.reduceEq, Int.reduceLT, Int.reduceLE, Int.reduceNeg, not_true_eq_false, not_false_eq_true, Bool.and_eq_true, Bool.or_eq_true, decide_eq_true_eq, ↓reduceIte, b2i_0, b2i_01, b2i_01c, Nat.add_left_cancel_iff, Nat.add_eq_left, Nat.left_eq_add, Nat.reduceEqDiff, false_and, and_false, Bool.false_eq_true, Bool.true_eq_false, ↓wr_iadd, ↓wr_isub, ↓wr_imul, wr_id, ↓wl_28_0, sk_c sk, sp_c sp, sp_r0 sp, sp_a1 sp, sp_r1 sp, sp_a2 sp, sp_r2 sp, sp_a3 sp, sk_r3 sk, sk_c4 sk, sk_r0 sk, sk_a1 sk, sk_r1 sk, sk_a2 sk, sp_c11 sp, sp_w0 sp, sp_a12 sp, sp_w1 sp, sp_a13 sp, hl, ra, b2, hk, hx, he0, Int.toNat_natCast, ↓cc_hasE, hE, b2i_t, isO_setI, hR_setI, inA_setI, Int.reduceEq, ↓pw]
    exact S2
  | false =>
    have k78 : K p = 7 ∨ K p = 8 := Classical.byContradiction fun q => by rw [hhE.mpr q] at hE; exact absurd hE (by decide)
    have er : rrF (K p) (E p) = -1 := by unfold rrF; rw [if_neg (fun q => by rw [hE] at q; exact absurd q.1 (by decide))]
    have S2 := seg2 (setI h k 11 (-1)) 0 fr0 (fun j j1 j2 => zo j j1) (by rw [z11]; unfold rpV; rw [er, if_neg (by omega)]) (by rw [z12, if_pos k78, if_neg (by decide)]) (by unfold vV; rw [if_pos k78])
    clear seg2
    simp (maxSteps := 2000000) (disch := omega) only [↓wb_const, ↓wb_lconst, ↓wb_null, ↓wb_iload, ↓wb_lload, ↓wb_aload, ↓wb_istore, ↓wb_lstore, ↓wb_astore, ↓wb_iinc, ↓wb_iand, ↓wb_ior, ↓wb_ishr, ↓wb_idiv, ↓wb_irem, ↓wb_ladd, ↓wb_lsub, ↓wb_land, ↓wb_lor, ↓wb_lxor, ↓wb_lneg, ↓wb_lushr, ↓wb_lshl, ↓wb_l2i, ↓wb_lcmp, ↓wb_dupI, ↓wb_dupR, ↓wb_dup2, ↓wb_popI, ↓wb_popR, ↓wb_getI, ↓wb_getL, ↓wb_getR, ↓wb_putI, ↓wb_putZ, ↓wb_putL, ↓wb_putR, ↓wb_iaload, ↓wb_laload, ↓wb_zaload, ↓wb_aaload, ↓wb_iastore, ↓wb_lastore, ↓wb_zastore, ↓wb_aastore, ↓wb_alen, ↓wb_newI, ↓wb_newL, ↓wb_newZ, ↓wb_newA, ↓wb_new, ↓wb_obj, ↓wb_sld, ↓wb_slen, ↓wb_goto, ↓wb_ifeq, ↓wb_iceq, ↓wb_ifne, ↓wb_icne, ↓wb_iflt, ↓wb_iclt, ↓wb_ifge, ↓wb_icge, ↓wb_ifgt, ↓wb_icgt, ↓wb_ifle, ↓wb_icle, ↓wb_ifnull, ↓wb_ifnonnull, ↓wb_ret, ↓wb_iret, ↓wb_lret, ↓wb_aret, ↓wb_zret, ↓wb_tsw0, ↓wb_tsw1, ↓wb_lsw0, ↓wb_lsw1, ↓wb_calls0, ↓wb_calls1, ↓wb_callv1, ↓wb_calls2, ↓wb_callv2, ↓wb_calls3, ↓wb_callv3, ↓wb_callv4, ↓wb_callv5, ↓wb_callv6, oB_some, ldI_z, ldI_s, ldL_z, ldL_s, ldR_z, ldR_s, ls1_z, ls1_1n, ls1_1i, ls1_1r, ls1_1l, ls1_s, ls2_z, ls2_1n, ls2_1i, ls2_1r, ls2_1l, ls2_s, List.length_cons, List.length_nil, Nat.reduceAdd, Nat.reduceLT, Nat.reduceLeDiff, Nat.reduceDiv, Nat.reduceMod, Int.reduceToNat, Int.reduceAdd, Nat.zero_add, true_and, Option.toList_some, Option.toList_none, List.cons_append, List.nil_append, true_or, or_true, and_true, false_or, or_false, Int.reduceEq, Int.reduceLT, Int.reduceLE, Int.reduceNeg, not_true_eq_false, not_false_eq_true, Bool.and_eq_true, Bool.or_eq_true, decide_eq_true_eq, ↓reduceIte, b2i_0, b2i_01, b2i_01c, Nat.add_left_cancel_iff, Nat.add_eq_left, Nat.left_eq_add, Nat.reduceEqDiff, false_and, and_false, Bool.false_eq_true, Bool.true_eq_false, ↓wr_iadd, ↓wr_isub, ↓wr_imul, wr_id, ↓wl_28_0, ↓wl_28_30, sk_c sk, sp_c sp, sp_r0 sp, sp_a1 sp, sp_r1 sp, sp_a2 sp, sp_r2 sp, sp_a3 sp, sk_r3 sk, sk_c4 sk, sk_r0 sk, sk_a1 sk, sk_r1 sk, sk_a2 sk, sp_c11 sp, sp_w0 sp, sp_a12 sp, sp_w1 sp, sp_a13 sp, hl, ra, b2, hk, hx, Int.toNat_natCast, ↓cc_hasE, hE, b2i_f, isO_setI, hR_setI, inA_setI]
    exact S2
