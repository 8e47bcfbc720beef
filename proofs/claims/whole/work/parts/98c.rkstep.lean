/-! ===== what a step writes behind the note ===== -/
theorem RKo_set {k p : Nat} {h : Hp} {K X E : Int → Int} {s : St} {y w : Int} (r : RKo k h K X E (ntS s (K p) (E p))) (hp : sP s = p) (u0 : 0 ≤ X p) (u8 : X p < 8) : RKo k (setI (setI h (k + 1) (X p).toNat w) (k + 8) (X p).toNat (hI h (k + 4) 5 - 1)) K X E ((y, 0, sT (ntS s (K p) (E p)), sC (ntS s (K p) (E p))), up1 (sN (ntS s (K p) (E p))) (X p).toNat w, sL (ntS s (K p) (E p)), sD (ntS s (K p) (E p)), sR (ntS s (K p) (E p)), sQ (ntS s (K p) (E p)), sS (ntS s (K p) (E p)), if sC s < 400 then up1 (sH (ntS s (K p) (E p))) (sC s) 1 else sH (ntS s (K p) (E p))) := by
  have hz : sC s < 400 → sC (ntS s (K p) (E p)) = sC s + 1 ∧ sR (ntS s (K p) (E p)) (sC s) = p ∧ sH (ntS s (K p) (E p)) (sC s) = 0 := by
    intro z
    rw [ntS_t z]
    refine ⟨rfl, ?_, ?_⟩
    · show up1 (sR s) (sC s) (sP s) (sC s) = _; rw [up1_eq, hp]
    · show up1 (sH s) (sC s) 0 (sC s) = _; rw [up1_eq]
  have hz2 : ¬ sC s < 400 → sC (ntS s (K p) (E p)) = sC s := fun z => by rw [ntS_f z]
  generalize ntS s (K p) (E p) = t at *
  obtain ⟨⟨r1, r2⟩, r3, r4, r5, r6, r7, r8⟩ := r
  refine ⟨⟨?_, ?_⟩, fun j hj => ?_, fun j hj => ?_, fun j h1 h2 => ?_, fun j hj => ?_, fun c4 => ⟨fun nm hn => ?_, fun m hm => ?_⟩, fun j hj m => ?_⟩
  · rw [row_ne (by omega), row_ne (by omega)]; exact r1
  · rw [row_ne (by omega), row_ne (by omega)]; exact r2
  · rw [row_ne (by omega), row_set]
    show _ = up1 (sN t) _ _ j
    unfold up1
    by_cases e : j = (X p).toNat
    · rw [if_pos e, if_pos e]
    · rw [if_neg e, if_neg e]; exact r3 j hj
  · rw [row_ne (by omega), row_ne (by omega)]; exact r4 j hj
  · rw [row_ne (by omega), row_ne (by omega)]; exact r5 j h1 h2
  · rw [row_ne (by omega), row_ne (by omega)]; exact r6 j hj
  · have c4 : sC t < 400 := c4
    have z : sC s < 400 := Classical.byContradiction fun z => by have := hz2 z; omega
    obtain ⟨e1, e2, e3⟩ := hz z
    rw [if_pos z]
    show LT (srN (sR t) (up1 (sH t) (sC s) 1) X nm) (sC t) _
    rw [row_set, r2]
    by_cases e : nm = (X p).toNat
    · rw [e, up1_eq, e1, show ((sC s + 1 : Nat) : Int) - 1 = (sC s : Int) by omega]
      refine LT_s1 ⟨?_, ?_⟩
      · rw [up1_eq]; decide
      · rw [e2]; omega
    · rw [up1_ne e, row_ne (by omega)]
      intro m
      rw [(r7 c4).1 nm hn m]
      refine lt1_cg (fun i hi => ?_)
      unfold srN
      by_cases ei : i = sC s
      · rw [ei, e3, e2]
        constructor
        · exact fun q => absurd rfl q.1
        · exact fun q => by have := q.2; omega
      · rw [up1_ne ei]
  · have c4 : sC t < 400 := c4
    rw [row_ne (by omega), row_ne (by omega)]
    exact (r7 c4).2 m hm
  · rw [row_ne (by omega), row_ne (by omega)]
    have hj : j < sC t := hj
    rw [r8 j hj m]
    show _ ↔ SrR K X E (sR t) (sQ t) (sS t) (if sC s < 400 then up1 (sH t) (sC s) 1 else sH t) j m
    refine (SrR_cg (fun i hi => ⟨rfl, rfl⟩) (fun i hi => ⟨rfl, ?_⟩)).symm
    by_cases z : sC s < 400
    · rw [if_pos z, up1_ne (by have := (hz z).1; omega)]
    · rw [if_neg z]
theorem RKo_sto {k p : Nat} {h : Hp} {K X E : Int → Int} {s : St} {y w cell : Int} (r : RKo k h K X E (ntS s (K p) (E p))) (u0 : 0 ≤ cell) (u8 : cell < 12) : RKo k (setI (setI h (k + 2) cell.toNat w) (k + 9) cell.toNat (hI h (k + 4) 5 - 1)) K X E ((y, 0, sT (ntS s (K p) (E p)), sC (ntS s (K p) (E p))), sN (ntS s (K p) (E p)), up1 (sL (ntS s (K p) (E p))) cell.toNat w, sD (ntS s (K p) (E p)), sR (ntS s (K p) (E p)), sQ (ntS s (K p) (E p)), if sC s < 400 then up1 (sS (ntS s (K p) (E p))) (sC s) cell else sS (ntS s (K p) (E p)), sH (ntS s (K p) (E p))) := by
  have hz : sC s < 400 → sC (ntS s (K p) (E p)) = sC s + 1 ∧ sS (ntS s (K p) (E p)) (sC s) = -1 := by
    intro z
    rw [ntS_t z]
    refine ⟨rfl, ?_⟩
    show up1 (sS s) (sC s) (-1) (sC s) = _; rw [up1_eq]
  have hz2 : ¬ sC s < 400 → sC (ntS s (K p) (E p)) = sC s := fun z => by rw [ntS_f z]
  generalize ntS s (K p) (E p) = t at *
  obtain ⟨⟨r1, r2⟩, r3, r4, r5, r6, r7, r8⟩ := r
  refine ⟨⟨?_, ?_⟩, fun j hj => ?_, fun j hj => ?_, fun j h1 h2 => ?_, fun j hj => ?_, fun c4 => ⟨fun nm hn => ?_, fun m hm => ?_⟩, fun j hj m => ?_⟩
  · rw [row_ne (by omega), row_ne (by omega)]; exact r1
  · rw [row_ne (by omega), row_ne (by omega)]; exact r2
  · rw [row_ne (by omega), row_ne (by omega)]; exact r3 j hj
  · rw [row_ne (by omega), row_set]
    show _ = up1 (sL t) _ _ j
    unfold up1
    by_cases e : j = cell.toNat
    · rw [if_pos e, if_pos e]
    · rw [if_neg e, if_neg e]; exact r4 j hj
  · rw [row_ne (by omega), row_ne (by omega)]; exact r5 j h1 h2
  · rw [row_ne (by omega), row_ne (by omega)]; exact r6 j hj
  · have c4 : sC t < 400 := c4
    rw [row_ne (by omega), row_ne (by omega)]
    exact (r7 c4).1 nm hn
  · have c4 : sC t < 400 := c4
    have z : sC s < 400 := Classical.byContradiction fun z => by have := hz2 z; omega
    obtain ⟨e1, e2⟩ := hz z
    rw [if_pos z]
    show LT (fun i => up1 (sS t) (sC s) cell i = (m : Int)) (sC t) _
    rw [row_set, r2]
    by_cases e : m = cell.toNat
    · rw [e, up1_eq, e1, show ((sC s + 1 : Nat) : Int) - 1 = (sC s : Int) by omega]
      refine LT_s1 ?_
      rw [up1_eq]; omega
    · rw [up1_ne e, row_ne (by omega)]
      intro i0
      rw [(r7 c4).2 m hm i0]
      refine lt1_cg (fun i hi => ?_)
      by_cases ei : i = sC s
      · rw [ei, e2, up1_eq]
        constructor
        · intro q; omega
        · intro q; omega
      · rw [up1_ne ei]
  · rw [row_ne (by omega), row_ne (by omega)]
    have hj : j < sC t := hj
    rw [r8 j hj m]
    show _ ↔ SrR K X E (sR t) (sQ t) (if sC s < 400 then up1 (sS t) (sC s) cell else sS t) (sH t) j m
    refine (SrR_cg (fun i hi => ⟨rfl, rfl⟩) (fun i hi => ⟨?_, rfl⟩)).symm
    by_cases z : sC s < 400
    · rw [if_pos z, up1_ne (by have := (hz z).1; omega)]
    · rw [if_neg z]
theorem RKo_tel {k tn : Nat} {h : Hp} {K X E : Int → Int} {t : St} {y w : Int} (r : RKo k h K X E t) (ht : sT t = tn) : RKo k (setI (if tn < 300 then setI h (k + 3) tn w else h) k 9 ((tn : Int) + 1)) K X E ((y, 0, sT t + 1, sC t), sN t, sL t, (if sT t < 300 then up1 (sD t) (sT t).toNat w else sD t), sR t, sQ t, sS t, sH t) := by
  obtain ⟨⟨r1, r2⟩, r3, r4, r5, r6, r7, r8⟩ := r
  have o : ∀ y2, ¬ y2 = k → ¬ y2 = k + 3 → hI (setI (if tn < 300 then setI h (k + 3) tn w else h) k 9 ((tn : Int) + 1)) y2 = hI h y2 := by
    intro y2 n1 n2
    rw [row_ne n1]
    split
    · rw [row_ne n2]
    · rfl
  refine ⟨⟨?_, ?_⟩, fun j hj => ?_, fun j hj => ?_, fun j h1 h2 => ?_, fun j hj => ?_, fun c4 => ?_, fun j hj m => ?_⟩
  · rw [hI_eq]; show (tn : Int) + 1 = sT t + 1; omega
  · rw [o _ (by omega) (by omega)]; exact r2
  · rw [o _ (by omega) (by omega)]; exact r3 j hj
  · rw [o _ (by omega) (by omega)]; exact r4 j hj
  · have h1 : (j : Int) < sT t + 1 := h1
    rw [row_ne (by omega)]
    show _ = (if sT t < 300 then up1 (sD t) (sT t).toNat w else sD t) j
    by_cases c : tn < 300
    · rw [if_pos c, if_pos (by omega), row_set, ht, Int.toNat_natCast]
      unfold up1
      by_cases e : j = tn
      · rw [if_pos e, if_pos e]
      · rw [if_neg e, if_neg e]; exact r5 j (by omega) h2
    · rw [if_neg c, if_neg (by omega)]; exact r5 j (by omega) h2
  · rw [o _ (by omega) (by omega)]; exact r6 j hj
  · rw [o _ (by omega) (by omega), o _ (by omega) (by omega)]; exact r7 c4
  · rw [o _ (by omega) (by omega)]; exact r8 j hj m
theorem RKo_st {k : Nat} {h : Hp} {K X E : Int → Int} {t : St} {y f : Int} (r : RKo k h K X E t) : RKo k h K X E ((y, f, sT t, sC t), sN t, sL t, sD t, sR t, sQ t, sS t, sH t) := r
theorem kd_at {sc : Scr} {c k p : Nat} {h : Hp} {Q : Option AV → Hp → Prop} {x2 x3 x4 : Option AV} (sp : SP c h) (sk : SK k h) (hwy : hR h k 5 = c + 11) (hp : p < 60) : WB sc 28 (BL 28 99) [some (aR k), some (aI p), x2, x3, x4] [] h Q = Q none (setI h k 6 (if ¬ hI h k 10 = 0 then hI h (c + 12) p else hI h (c + 13) p)) := by
  have b2 : (0 ≤ (p : Int) ∧ (p : Int) < 60) = True := by simp; omega
  rw [bl_28_99]
  by_cases z : hI h k 10 = 0
  · rw [if_neg (fun q => q z)]
    simp (maxSteps := 2000000) (disch := omega) only [↓wb_const, ↓wb_lconst, ↓wb_null, ↓wb_iload, ↓wb_lload, ↓wb_aload, ↓wb_istore, ↓wb_lstore, ↓wb_astore, ↓wb_iinc, ↓wb_iand, ↓wb_ior, ↓wb_ishr, ↓wb_idiv, ↓wb_irem, ↓wb_ladd, ↓wb_lsub, ↓wb_land, ↓wb_lor, ↓wb_lxor, ↓wb_lneg, ↓wb_lushr, ↓wb_lshl, ↓wb_l2i, ↓wb_lcmp, ↓wb_dupI, ↓wb_dupR, ↓wb_dup2, ↓wb_popI, ↓wb_popR, ↓wb_getI, ↓wb_getL, ↓wb_getR, ↓wb_putI, ↓wb_putZ, ↓wb_putL, ↓wb_putR, ↓wb_iaload, ↓wb_laload, ↓wb_zaload, ↓wb_aaload, ↓wb_iastore, ↓wb_lastore, ↓wb_zastore, ↓wb_aastore, ↓wb_alen, ↓wb_newI, ↓wb_newL, ↓wb_newZ, ↓wb_newA, ↓wb_new, ↓wb_obj, ↓wb_sld, ↓wb_slen, ↓wb_goto, ↓wb_ifeq, ↓wb_iceq, ↓wb_ifne, ↓wb_icne, ↓wb_iflt, ↓wb_iclt, ↓wb_ifge, ↓wb_icge, ↓wb_ifgt, ↓wb_icgt, ↓wb_ifle, ↓wb_icle, ↓wb_ifnull, ↓wb_ifnonnull, ↓wb_ret, ↓wb_iret, ↓wb_lret, ↓wb_aret, ↓wb_zret, ↓wb_tsw0, ↓wb_tsw1, ↓wb_lsw0, ↓wb_lsw1, ↓wb_calls0, ↓wb_calls1, ↓wb_callv1, ↓wb_calls2, ↓wb_callv2, ↓wb_calls3, ↓wb_callv3, ↓wb_callv4, ↓wb_callv5, ↓wb_callv6, oB_some, ldI_z, ldI_s, ldL_z, ldL_s, ldR_z, ldR_s, ls1_z, ls1_1n, ls1_1i, ls1_1r, ls1_1l, ls1_s, ls2_z, ls2_1n, ls2_1i, ls2_1r, ls2_1l, ls2_s, List.length_cons, List.length_nil, Nat.reduceAdd, Nat.reduceLT, Nat.reduceLeDiff, Nat.reduceDiv, Nat.reduceMod, Int.reduceToNat, Int.reduceAdd, Nat.zero_add, true_and, Option.toList_some, Option.toList_none, List.cons_append, List.nil_append, true_or, or_true, and_true, false_or, or_false, Int.reduceEq, Int.reduceLT, Int.reduceLE, Int.reduceNeg, not_true_eq_false, not_false_eq_true, Bool.and_eq_true, Bool.or_eq_true, decide_eq_true_eq, ↓reduceIte, b2i_0, b2i_01, b2i_01c, Nat.add_left_cancel_iff, Nat.add_eq_left, Nat.left_eq_add, Nat.reduceEqDiff, false_and, and_false, Bool.false_eq_true, Bool.true_eq_false, ↓wr_iadd, ↓wr_isub, ↓wr_imul, wr_id, ↓wl_28_109, ↓wl_28_114, sk_c sk, sp_c sp, sp_r0 sp, sp_a1 sp, sp_r1 sp, sp_a2 sp, sp_r2 sp, sp_a3 sp, sk_r3 sk, sk_c4 sk, sk_r0 sk, sk_a1 sk, sk_r1 sk, sk_a2 sk, sp_c11 sp, sp_w0 sp, sp_a12 sp, sp_w1 sp, sp_a13 sp, hwy, z, b2, Int.toNat_natCast]
  · rw [if_pos z]
    simp (maxSteps := 2000000) (disch := omega) only [↓wb_const, ↓wb_lconst, ↓wb_null, ↓wb_iload, ↓wb_lload, ↓wb_aload, ↓wb_istore, ↓wb_lstore, ↓wb_astore, ↓wb_iinc, ↓wb_iand, ↓wb_ior, ↓wb_ishr, ↓wb_idiv, ↓wb_irem, ↓wb_ladd, ↓wb_lsub, ↓wb_land, ↓wb_lor, ↓wb_lxor, ↓wb_lneg, ↓wb_lushr, ↓wb_lshl, ↓wb_l2i, ↓wb_lcmp, ↓wb_dupI, ↓wb_dupR, ↓wb_dup2, ↓wb_popI, ↓wb_popR, ↓wb_getI, ↓wb_getL, ↓wb_getR, ↓wb_putI, ↓wb_putZ, ↓wb_putL, ↓wb_putR, ↓wb_iaload, ↓wb_laload, ↓wb_zaload, ↓wb_aaload, ↓wb_iastore, ↓wb_lastore, ↓wb_zastore, ↓wb_aastore, ↓wb_alen, ↓wb_newI, ↓wb_newL, ↓wb_newZ, ↓wb_newA, ↓wb_new, ↓wb_obj, ↓wb_sld, ↓wb_slen, ↓wb_goto, ↓wb_ifeq, ↓wb_iceq, ↓wb_ifne, ↓wb_icne, ↓wb_iflt, ↓wb_iclt, ↓wb_ifge, ↓wb_icge, ↓wb_ifgt, ↓wb_icgt, ↓wb_ifle, ↓wb_icle, ↓wb_ifnull, ↓wb_ifnonnull, ↓wb_ret, ↓wb_iret, ↓wb_lret, ↓wb_aret, ↓wb_zret, ↓wb_tsw0, ↓wb_tsw1, ↓wb_lsw0, ↓wb_lsw1, ↓wb_calls0, ↓wb_calls1, ↓wb_callv1, ↓wb_calls2, ↓wb_callv2, ↓wb_calls3, ↓wb_callv3, ↓wb_callv4, ↓wb_callv5, ↓wb_callv6, oB_some, ldI_z, ldI_s, ldL_z, ldL_s, ldR_z, ldR_s, ls1_z, ls1_1n, ls1_1i, ls1_1r, ls1_1l, ls1_s, ls2_z, ls2_1n, ls2_1i, ls2_1r, ls2_1l, ls2_s, List.length_cons, List.length_nil, Nat.reduceAdd, Nat.reduceLT, Nat.reduceLeDiff, Nat.reduceDiv, Nat.reduceMod, Int.reduceToNat, Int.reduceAdd, Nat.zero_add, true_and, Option.toList_some, Option.toList_none, List.cons_append, List.nil_append, true_or, or_true, and_true, false_or, or_false, Int.reduceEq, Int.reduceLT, Int.reduceLE, Int.reduceNeg, not_true_eq_false, not_false_eq_true, Bool.and_eq_true, Bool.or_eq_true, decide_eq_true_eq, ↓reduceIte, b2i_0, b2i_01, b2i_01c, Nat.add_left_cancel_iff, Nat.add_eq_left, Nat.left_eq_add, Nat.reduceEqDiff, false_and, and_false, Bool.false_eq_true, Bool.true_eq_false, ↓wr_iadd, ↓wr_isub, ↓wr_imul, wr_id, ↓wl_28_114, sk_c sk, sp_c sp, sp_r0 sp, sp_a1 sp, sp_r1 sp, sp_a2 sp, sp_r2 sp, sp_a3 sp, sk_r3 sk, sk_c4 sk, sk_r0 sk, sk_a1 sk, sk_r1 sk, sk_a2 sk, sp_c11 sp, sp_w0 sp, sp_a12 sp, sp_w1 sp, sp_a13 sp, hwy, z, b2, Int.toNat_natCast]
