/-- behind the note, not refused -/
theorem kd_67 {sc : Scr} {c k p n : Nat} {h : Hp} {Q : Option AV → Hp → Prop} {K X E : Int → Int} {s : St} {cell : Int} (sp : SP c h) (sk : SK k h) (dj : c + 19 < k ∨ k + 9 < c) (hwy : hR h k 5 = c + 11) (r : RKo k h K X E (ntS s (K p) (E p))) (hp : sP s = p) (p60 : p < 60) (hv : vR (sN s) (K p) (X p) (E p) = false) (hk : K p = 0 ∨ K p = 1 ∨ K p = 2 ∨ K p = 3 ∨ K p = 5 ∨ K p = 7 ∨ K p = 8) (hu0 : K p = 0 → 0 ≤ X p ∧ X p < 8) (hcell : K p = 1 → cell = 4 * remI (X p) 4 + plV (sN s) (K p) (X p) ∧ 0 ≤ cell ∧ cell < 12) (hw : hI h k 10 = vV (sN s) (sL s) (K p) (E p)) (hf : hI h k 12 = 0) (t0 : 0 ≤ sT s) (t1 : sT s ≤ 100000) (c4 : sC s ≤ 400) (ga : hI h (c + 12) p = e60 (yes_ K X n p)) (gs : hI h (c + 13) p = if K p = 3 ∨ K p = 5 then e60 (no_ K n p) else e60 (yes_ K X n p)) (hQ : ∀ h2, FR k (k + 9) h h2 → RK k h2 K X E (sx K X E (yes_ K X n) (no_ K n) s) → hI h2 k 7 = hI h k 7 → hI h2 k 8 = hI h k 8 → hI h2 k 10 = vV (sN s) (sL s) (K p) (E p) → Q none h2) : WB sc 28 (BL 28 67) [some (aR k), some (aI p), some (aI (K p)), some (aI (X p)), some (aI cell)] [] h Q := by
  obtain ⟨e1, e2, e3, e4, e5, e6, e7⟩ := ntS_e (s := s) (k := K p) (v := E p)
  have hz : hI h (k + 4) 5 = sC (ntS s (K p) (E p)) := r.1.2
  have hz0 : 0 ≤ hI h (k + 4) 5 := by rw [hz]; omega
  have hz1 : hI h (k + 4) 5 ≤ 400 := by rw [hz, e7]; split <;> omega
  -- the end
  have fin : ∀ (h5 : Hp) (t2 : St) (x2 x3 x4 : Option AV), FR k (k + 9) h h5 → (∀ j, ¬ j = 9 → hI h5 k j = hI h k j) → RKo k h5 K X E t2 → sx K X E (yes_ K X n) (no_ K n) s = ((if (K p = 3 ∨ K p = 5) ∧ vV (sN s) (sL s) (K p) (E p) = 0 then no_ K n p else yes_ K X n p, 0, sT t2, sC t2), sN t2, sL t2, sD t2, sR t2, sQ t2, sS t2, sH t2) → WB sc 28 (BL 28 99) [some (aR k), some (aI p), x2, x3, x4] [] h5 Q := by
    intro h5 t2 x2 x3 x4 fr fo r5 es
    rw [kd_at (FR_sp fr sp) (FR_sk fr sk) (by rw [fr.2.2.1]; exact hwy) p60, fo _ (by omega), hw, FR_i fr (y := c + 12) (by omega), FR_i fr (y := c + 13) (by omega), ga, gs]
    refine hQ _ (FR_I fr (by omega) (by omega)) ?_ ?_ ?_ ?_
    · refine ⟨?_, ?_, ?_⟩
      · rw [hI_eq, es]
        show _ = e60 (if (K p = 3 ∨ K p = 5) ∧ vV (sN s) (sL s) (K p) (E p) = 0 then no_ K n p else yes_ K X n p)
        by_cases z : vV (sN s) (sL s) (K p) (E p) = 0
        · rw [if_neg (fun q => q z)]
          by_cases k35 : K p = 3 ∨ K p = 5
          · rw [if_pos k35, if_pos ⟨k35, z⟩]
          · rw [if_neg k35, if_neg (fun q => k35 q.1)]
        · rw [if_pos z, if_neg (fun q => z q.2)]
      · rw [hI_ne2 (by omega), fo _ (by omega), es]; exact hf
      · rw [es]
        exact RKo_cg (fun d d0 d9 _ => row_ne (by omega)) (hI_ne2 (by omega)) r5
    · rw [hI_ne2 (by omega), fo _ (by omega)]
    · rw [hI_ne2 (by omega), fo _ (by omega)]
    · rw [hI_ne2 (by omega), fo _ (by omega)]; exact hw
  have es0 : sx K X E (yes_ K X n) (no_ K n) s = stp s (K p) (X p) (E p) (yes_ K X n p) (no_ K n p) := by unfold sx; rw [hp]
  rw [es0] at fin
  unfold stp at fin
  rw [hv] at fin
  simp only [Bool.false_eq_true, ↓reduceIte] at fin
  have n35 : K p = 0 ∨ K p = 1 ∨ K p = 2 → ¬ ((K p = 3 ∨ K p = 5) ∧ vV (sN s) (sL s) (K p) (E p) = 0) := fun y z => by have := z.1; omega
  rw [bl_28_67]
  by_cases k0 : K p = 0
  · obtain ⟨u0, u8⟩ := hu0 k0
    have bu : (0 ≤ X p ∧ X p < 8) = True := by simp; omega
    have f1 := fin (setI (setI h (k + 1) (X p).toNat (vV (sN s) (sL s) (K p) (E p))) (k + 8) (X p).toNat (hI h (k + 4) 5 - 1)) _ (some (aI (K p))) (some (aI (X p))) (some (aI cell)) (FR_I (FR_I FR_rf (by omega) (by omega)) (by omega) (by omega)) (fun j hj => by rw [hI_ne (by omega), hI_ne (by omega)]) (RKo_set (y := yes_ K X n p) r hp u0 u8) (by rw [if_pos k0, if_neg (n35 (Or.inl k0))]; rfl)
    have sk1 : SK k (setI h (k + 1) (X p).toNat (vV (sN s) (sL s) (K p) (E p))) := by rw [SK_setI]; exact sk
    have w4 : hI (setI h (k + 1) (X p).toNat (vV (sN s) (sL s) (K p) (E p))) (k + 4) 5 = hI h (k + 4) 5 := hI_ne (by omega)
    have pn := fun (Q : Option AV → Hp → Prop) => sc_noteSet (sc := sc) (Q := Q) (nm := X p) sk1 u0 u8 (by rw [w4]; exact hz0) (by rw [w4]; exact hz1)
    rw [w4] at pn
    rw [k0] at f1 hw ⊢
    rw [k0] at pn
    simp (maxSteps := 2000000) (disch := omega) only [↓wb_const, ↓wb_lconst, ↓wb_null, ↓wb_iload, ↓wb_lload, ↓wb_aload, ↓wb_istore, ↓wb_lstore, ↓wb_astore, ↓wb_iinc, ↓wb_iand, ↓wb_ior, ↓wb_ishr, ↓wb_idiv, ↓wb_irem, ↓wb_ladd, ↓wb_lsub, ↓wb_land, ↓wb_lor, ↓wb_lxor, ↓wb_lneg, ↓wb_lushr, ↓wb_lshl, ↓wb_l2i, ↓wb_lcmp, ↓wb_dupI, ↓wb_dupR, ↓wb_dup2, ↓wb_popI, ↓wb_popR, ↓wb_getI, ↓wb_getL, ↓wb_getR, ↓wb_putI, ↓wb_putZ, ↓wb_putL, ↓wb_putR, ↓wb_iaload, ↓wb_laload, ↓wb_zaload, ↓wb_aaload, ↓wb_iastore, ↓wb_lastore, ↓wb_zastore, ↓wb_aastore, ↓wb_alen, ↓wb_newI, ↓wb_newL, ↓wb_newZ, ↓wb_newA, ↓wb_new, ↓wb_obj, ↓wb_sld, ↓wb_slen, ↓wb_goto, ↓wb_ifeq, ↓wb_iceq, ↓wb_ifne, ↓wb_icne, ↓wb_iflt, ↓wb_iclt, ↓wb_ifge, ↓wb_icge, ↓wb_ifgt, ↓wb_icgt, ↓wb_ifle, ↓wb_icle, ↓wb_ifnull, ↓wb_ifnonnull, ↓wb_ret, ↓wb_iret, ↓wb_lret, ↓wb_aret, ↓wb_zret, ↓wb_tsw0, ↓wb_tsw1, ↓wb_lsw0, ↓wb_lsw1, ↓wb_calls0, ↓wb_calls1, ↓wb_callv1, ↓wb_calls2, ↓wb_callv2, ↓wb_calls3, ↓wb_callv3, ↓wb_callv4, ↓wb_callv5, ↓wb_callv6, oB_some, ldI_z, ldI_s, ldL_z, ldL_s, ldR_z, ldR_s, ls1_z, ls1_1n, ls1_1i, ls1_1r, ls1_1l, ls1_s, ls2_z, ls2_1n, ls2_1i, ls2_1r, ls2_1l, ls2_s, List.length_cons, List.length_nil, Nat.reduceAdd, Nat.reduceLT, Nat.reduceLeDiff, Nat.reduceDiv, Nat.reduceMod, Int.reduceToNat, Int.reduceAdd, Nat.zero_add, true_and, Option.toList_some, Option.toList_none, List.cons_append, List.nil_append, true_or, or_true, and_true, false_or, or_false, Int.reduceEq, Int.reduceLT, Int.reduceLE, Int.reduceNeg, not_true_eq_false, not_false_eq_true, Bool.and_eq_true, Bool.or_eq_true, decide_eq_true_eq, ↓reduceIte, b2i_0, b2i_01, b2i_01c, Nat.add_left_cancel_iff, Nat.add_eq_left, Nat.left_eq_add, Nat.reduceEqDiff, false_and, and_false, Bool.false_eq_true, Bool.true_eq_false, ↓wr_iadd, ↓wr_isub, ↓wr_imul, wr_id, sk_c sk, sp_c sp, sp_r0 sp, sp_a1 sp, sp_r1 sp, sp_a2 sp, sp_r2 sp, sp_a3 sp, sk_r3 sk, sk_c4 sk, sk_r0 sk, sk_a1 sk, sk_r1 sk, sk_a2 sk, sp_c11 sp, sp_w0 sp, sp_a12 sp, sp_w1 sp, sp_a13 sp, hw, bu, ↓pn, isO_setI, hR_setI]
    exact f1
  · by_cases k1 : K p = 1
    · obtain ⟨ce, c0, c12⟩ := hcell k1
      have bu : (0 ≤ cell ∧ cell < 12) = True := by simp; omega
      have f1 := fin (setI (setI h (k + 2) cell.toNat (vV (sN s) (sL s) (K p) (E p))) (k + 9) cell.toNat (hI h (k + 4) 5 - 1)) _ (some (aI (K p))) (some (aI (X p))) (some (aI cell)) (FR_I (FR_I FR_rf (by omega) (by omega)) (by omega) (by omega)) (fun j hj => by rw [hI_ne (by omega), hI_ne (by omega)]) (RKo_sto (y := yes_ K X n p) r c0 c12) (by rw [if_neg k0, if_pos k1, if_neg (n35 (Or.inr (Or.inl k1))), ← ce]; rfl)
      have sk1 : SK k (setI h (k + 2) cell.toNat (vV (sN s) (sL s) (K p) (E p))) := by rw [SK_setI]; exact sk
      have w4 : hI (setI h (k + 2) cell.toNat (vV (sN s) (sL s) (K p) (E p))) (k + 4) 5 = hI h (k + 4) 5 := hI_ne (by omega)
      have pn := fun (Q : Option AV → Hp → Prop) => sc_noteStored (sc := sc) (Q := Q) (nm := cell) sk1 c0 c12 (by rw [w4]; exact hz0) (by rw [w4]; exact hz1)
      rw [w4] at pn
      rw [k1] at f1 hw ⊢
      rw [k1] at pn
      simp (maxSteps := 2000000) (disch := omega) only [↓wb_const, ↓wb_lconst, ↓wb_null, ↓wb_iload, ↓wb_lload, ↓wb_aload, ↓wb_istore, ↓wb_lstore, ↓wb_astore, ↓wb_iinc, ↓wb_iand, ↓wb_ior, ↓wb_ishr, ↓wb_idiv, ↓wb_irem, ↓wb_ladd, ↓wb_lsub, ↓wb_land, ↓wb_lor, ↓wb_lxor, ↓wb_lneg, ↓wb_lushr, ↓wb_lshl, ↓wb_l2i, ↓wb_lcmp, ↓wb_dupI, ↓wb_dupR, ↓wb_dup2, ↓wb_popI, ↓wb_popR, ↓wb_getI, ↓wb_getL, ↓wb_getR, ↓wb_putI, ↓wb_putZ, ↓wb_putL, ↓wb_putR, ↓wb_iaload, ↓wb_laload, ↓wb_zaload, ↓wb_aaload, ↓wb_iastore, ↓wb_lastore, ↓wb_zastore, ↓wb_aastore, ↓wb_alen, ↓wb_newI, ↓wb_newL, ↓wb_newZ, ↓wb_newA, ↓wb_new, ↓wb_obj, ↓wb_sld, ↓wb_slen, ↓wb_goto, ↓wb_ifeq, ↓wb_iceq, ↓wb_ifne, ↓wb_icne, ↓wb_iflt, ↓wb_iclt, ↓wb_ifge, ↓wb_icge, ↓wb_ifgt, ↓wb_icgt, ↓wb_ifle, ↓wb_icle, ↓wb_ifnull, ↓wb_ifnonnull, ↓wb_ret, ↓wb_iret, ↓wb_lret, ↓wb_aret, ↓wb_zret, ↓wb_tsw0, ↓wb_tsw1, ↓wb_lsw0, ↓wb_lsw1, ↓wb_calls0, ↓wb_calls1, ↓wb_callv1, ↓wb_calls2, ↓wb_callv2, ↓wb_calls3, ↓wb_callv3, ↓wb_callv4, ↓wb_callv5, ↓wb_callv6, oB_some, ldI_z, ldI_s, ldL_z, ldL_s, ldR_z, ldR_s, ls1_z, ls1_1n, ls1_1i, ls1_1r, ls1_1l, ls1_s, ls2_z, ls2_1n, ls2_1i, ls2_1r, ls2_1l, ls2_s, List.length_cons, List.length_nil, Nat.reduceAdd, Nat.reduceLT, Nat.reduceLeDiff, Nat.reduceDiv, Nat.reduceMod, Int.reduceToNat, Int.reduceAdd, Nat.zero_add, true_and, Option.toList_some, Option.toList_none, List.cons_append, List.nil_append, true_or, or_true, and_true, false_or, or_false, Int.reduceEq, Int.reduceLT, Int.reduceLE, Int.reduceNeg, not_true_eq_false, not_false_eq_true, Bool.and_eq_true, Bool.or_eq_true, decide_eq_true_eq, ↓reduceIte, b2i_0, b2i_01, b2i_01c, Nat.add_left_cancel_iff, Nat.add_eq_left, Nat.left_eq_add, Nat.reduceEqDiff, false_and, and_false, Bool.false_eq_true, Bool.true_eq_false, ↓wr_iadd, ↓wr_isub, ↓wr_imul, wr_id, ↓wl_28_80, sk_c sk, sp_c sp, sp_r0 sp, sp_a1 sp, sp_r1 sp, sp_a2 sp, sp_r2 sp, sp_a3 sp, sk_r3 sk, sk_c4 sk, sk_r0 sk, sk_a1 sk, sk_r1 sk, sk_a2 sk, sp_c11 sp, sp_w0 sp, sp_a12 sp, sp_w1 sp, sp_a13 sp, hw, bu, ↓pn, isO_setI, hR_setI, Int.reduceEq]
      exact f1
    · by_cases k2 : K p = 2
      · obtain ⟨tn, htn⟩ : ∃ tn : Nat, sT s = tn := ⟨(sT s).toNat, by omega⟩
        have htn2 : sT (ntS s (K p) (E p)) = tn := by rw [e3]; exact htn
        have ht : hI h k 9 = tn := by rw [r.1.1]; exact htn2
        have f1 := fin (setI (if tn < 300 then setI h (k + 3) tn (vV (sN s) (sL s) (K p) (E p)) else h) k 9 ((tn : Int) + 1)) _ (some (aI (K p))) (some (aI (X p))) (some (aI cell)) (by
          refine FR_I ?_ (by omega) (by omega)
          split
          · exact FR_I FR_rf (by omega) (by omega)
          · exact FR_rf) (fun j hj => by
          rw [hI_ne2 hj]
          split
          · rw [hI_ne (by omega)]
          · rfl) (RKo_tel (y := yes_ K X n p) r htn2) (by rw [if_neg k0, if_neg k1, if_pos k2, if_neg (n35 (Or.inr (Or.inr k2)))]; rfl)
        have pt := fun (Q : Option AV → Hp → Prop) => kc_tellNumber (sc := sc) (Q := Q) sk ht (by omega)
        rw [hw] at pt
        rw [k2] at f1 pt ⊢
        simp (maxSteps := 2000000) (disch := omega) only [↓wb_const, ↓wb_lconst, ↓wb_null, ↓wb_iload, ↓wb_lload, ↓wb_aload, ↓wb_istore, ↓wb_lstore, ↓wb_astore, ↓wb_iinc, ↓wb_iand, ↓wb_ior, ↓wb_ishr, ↓wb_idiv, ↓wb_irem, ↓wb_ladd, ↓wb_lsub, ↓wb_land, ↓wb_lor, ↓wb_lxor, ↓wb_lneg, ↓wb_lushr, ↓wb_lshl, ↓wb_l2i, ↓wb_lcmp, ↓wb_dupI, ↓wb_dupR, ↓wb_dup2, ↓wb_popI, ↓wb_popR, ↓wb_getI, ↓wb_getL, ↓wb_getR, ↓wb_putI, ↓wb_putZ, ↓wb_putL, ↓wb_putR, ↓wb_iaload, ↓wb_laload, ↓wb_zaload, ↓wb_aaload, ↓wb_iastore, ↓wb_lastore, ↓wb_zastore, ↓wb_aastore, ↓wb_alen, ↓wb_newI, ↓wb_newL, ↓wb_newZ, ↓wb_newA, ↓wb_new, ↓wb_obj, ↓wb_sld, ↓wb_slen, ↓wb_goto, ↓wb_ifeq, ↓wb_iceq, ↓wb_ifne, ↓wb_icne, ↓wb_iflt, ↓wb_iclt, ↓wb_ifge, ↓wb_icge, ↓wb_ifgt, ↓wb_icgt, ↓wb_ifle, ↓wb_icle, ↓wb_ifnull, ↓wb_ifnonnull, ↓wb_ret, ↓wb_iret, ↓wb_lret, ↓wb_aret, ↓wb_zret, ↓wb_tsw0, ↓wb_tsw1, ↓wb_lsw0, ↓wb_lsw1, ↓wb_calls0, ↓wb_calls1, ↓wb_callv1, ↓wb_calls2, ↓wb_callv2, ↓wb_calls3, ↓wb_callv3, ↓wb_callv4, ↓wb_callv5, ↓wb_callv6, oB_some, ldI_z, ldI_s, ldL_z, ldL_s, ldR_z, ldR_s, ls1_z, ls1_1n, ls1_1i, ls1_1r, ls1_1l, ls1_s, ls2_z, ls2_1n, ls2_1i, ls2_1r, ls2_1l, ls2_s, List.length_cons, List.length_nil, Nat.reduceAdd, Nat.reduceLT, Nat.reduceLeDiff, Nat.reduceDiv, Nat.reduceMod, Int.reduceToNat, Int.reduceAdd, Nat.zero_add, true_and, Option.toList_some, Option.toList_none, List.cons_append, List.nil_append, true_or, or_true, and_true, false_or, or_false, Int.reduceEq, Int.reduceLT, Int.reduceLE, Int.reduceNeg, not_true_eq_false, not_false_eq_true, Bool.and_eq_true, Bool.or_eq_true, decide_eq_true_eq, ↓reduceIte, b2i_0, b2i_01, b2i_01c, Nat.add_left_cancel_iff, Nat.add_eq_left, Nat.left_eq_add, Nat.reduceEqDiff, false_and, and_false, Bool.false_eq_true, Bool.true_eq_false, ↓wr_iadd, ↓wr_isub, ↓wr_imul, wr_id, ↓wl_28_80, ↓wl_28_94, sk_c sk, sp_c sp, sp_r0 sp, sp_a1 sp, sp_r1 sp, sp_a2 sp, sp_r2 sp, sp_a3 sp, sk_r3 sk, sk_c4 sk, sk_r0 sk, sk_a1 sk, sk_r1 sk, sk_a2 sk, sp_c11 sp, sp_w0 sp, sp_a12 sp, sp_w1 sp, sp_a13 sp, ↓pt, Int.reduceEq]
        exact f1
      · have f1 := fin h _ (some (aI (K p))) (some (aI (X p))) (some (aI cell)) FR_rf (fun j hj => rfl) r (by rw [if_neg k0, if_neg k1, if_neg k2])
        have k0' : (K p = 0) = False := eq_false k0
        have k1' : (K p = 1) = False := eq_false k1
        have k2' : (K p = 2) = False := eq_false k2
        simp (maxSteps := 2000000) (disch := omega) only [↓wb_const, ↓wb_lconst, ↓wb_null, ↓wb_iload, ↓wb_lload, ↓wb_aload, ↓wb_istore, ↓wb_lstore, ↓wb_astore, ↓wb_iinc, ↓wb_iand, ↓wb_ior, ↓wb_ishr, ↓wb_idiv, ↓wb_irem, ↓wb_ladd, ↓wb_lsub, ↓wb_land, ↓wb_lor, ↓wb_lxor, ↓wb_lneg, ↓wb_lushr, ↓wb_lshl, ↓wb_l2i, ↓wb_lcmp, ↓wb_dupI, ↓wb_dupR, ↓wb_dup2, ↓wb_popI, ↓wb_popR, ↓wb_getI, ↓wb_getL, ↓wb_getR, ↓wb_putI, ↓wb_putZ, ↓wb_putL, ↓wb_putR, ↓wb_iaload, ↓wb_laload, ↓wb_zaload, ↓wb_aaload, ↓wb_iastore, ↓wb_lastore, ↓wb_zastore, ↓wb_aastore, ↓wb_alen, ↓wb_newI, ↓wb_newL, ↓wb_newZ, ↓wb_newA, ↓wb_new, ↓wb_obj, ↓wb_sld, ↓wb_slen, ↓wb_goto, ↓wb_ifeq, ↓wb_iceq, ↓wb_ifne, ↓wb_icne, ↓wb_iflt, ↓wb_iclt, ↓wb_ifge, ↓wb_icge, ↓wb_ifgt, ↓wb_icgt, ↓wb_ifle, ↓wb_icle, ↓wb_ifnull, ↓wb_ifnonnull, ↓wb_ret, ↓wb_iret, ↓wb_lret, ↓wb_aret, ↓wb_zret, ↓wb_tsw0, ↓wb_tsw1, ↓wb_lsw0, ↓wb_lsw1, ↓wb_calls0, ↓wb_calls1, ↓wb_callv1, ↓wb_calls2, ↓wb_callv2, ↓wb_calls3, ↓wb_callv3, ↓wb_callv4, ↓wb_callv5, ↓wb_callv6, oB_some, ldI_z, ldI_s, ldL_z, ldL_s, ldR_z, ldR_s, ls1_z, ls1_1n, ls1_1i, ls1_1r, ls1_1l, ls1_s, ls2_z, ls2_1n, ls2_1i, ls2_1r, ls2_1l, ls2_s, List.length_cons, List.length_nil, Nat.reduceAdd, Nat.reduceLT, Nat.reduceLeDiff, Nat.reduceDiv, Nat.reduceMod, Int.reduceToNat, Int.reduceAdd, Nat.zero_add, true_and, Option.toList_some, Option.toList_none, List.cons_append, List.nil_append, true_or, or_true, and_true, false_or, or_false, Int.reduceEq, Int.reduceLT, Int.reduceLE, Int.reduceNeg, not_true_eq_false, not_false_eq_true, Bool.and_eq_true, Bool.or_eq_true, decide_eq_true_eq, ↓reduceIte, b2i_0, b2i_01, b2i_01c, Nat.add_left_cancel_iff, Nat.add_eq_left, Nat.left_eq_add, Nat.reduceEqDiff, false_and, and_false, Bool.false_eq_true, Bool.true_eq_false, ↓wr_iadd, ↓wr_isub, ↓wr_imul, wr_id, ↓wl_28_80, ↓wl_28_94, sk_c sk, sp_c sp, sp_r0 sp, sp_a1 sp, sp_r1 sp, sp_a2 sp, sp_r2 sp, sp_a3 sp, sk_r3 sk, sk_c4 sk, sk_r0 sk, sk_a1 sk, sk_r1 sk, sk_a2 sk, sp_c11 sp, sp_w0 sp, sp_a12 sp, sp_w1 sp, sp_a13 sp, k0', k1', k2']
        exact f1
