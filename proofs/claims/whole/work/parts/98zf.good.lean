/-! ===== the law's run ends well ===== -/
theorem sim_0 {h1 h2 h3 h4 : Hp} (n1 : NX 2 h1 h2) (n3 : NB 16 36 h2 h3) (m : NM 26 h3 h4) (s0 : hS h1 ≤ 8) : Sim 2 26 51 h4 := by
  obtain ⟨⟨x1, x2, -⟩, slx, ki, i5, i6, l7, z2, z3⟩ := n1
  obtain ⟨b1, b2, b3, b4, b5, b6⟩ := n3
  obtain ⟨⟨y1, y2, y3⟩, sm, oz, dz, bz⟩ := m
  rw [x1] at b1 b3 b4 b5 b6
  have lo : ∀ y, y < 26 → hT h4 y = hT h2 y ∧ hI h4 y = hI h2 y ∧ hL h4 y = hL h2 y ∧ hR h4 y = hR h2 y := fun y hy => by
    obtain ⟨q1, q2, q3, q4⟩ := y3 y hy
    exact ⟨by rw [q1, b3, if_neg (by omega)], funext fun j => by rw [q2, b4, if_neg (by omega)], funext fun j => by rw [q3, b5, if_neg (by omega)], funext fun j => by rw [q4, b6, if_neg (by omega)]⟩
  have ki4 : KI 6 h4 := KI_below (fun y a b => ⟨(lo y (by omega)).1, (lo y (by omega)).2.2.2, (lo y (by omega)).2.1⟩) ki
  obtain ⟨-, -, -, k9, -, k5, kn, kc⟩ := ki4
  have o14 : hI h4 26 14 = 0 := oz 14
  have o10 : hI h4 26 10 = 0 := oz 10
  refine ⟨⟨SLX_loc (fun y a b => ⟨(lo y (by omega)).1, fun _ => (lo y (by omega)).2.2.2⟩) slx, sm, ⟨by omega, by omega, by omega⟩, ⟨0, oz 0, by rw [(lo 2 (by omega)).2.1]; exact i5, by omega, by rw [y1], by omega, fun g hg => by omega⟩, fun v => Or.inl (dz 20 v (by omega) (by omega) (by omega)), fun v => Or.inl (dz 13 v (by omega) (by omega) (by omega)), fun v => Or.inl (dz 12 v (by omega) (by omega) (by omega))⟩, fun j hj => ?_, fun j hj => ?_, fun p => ?_, ?_⟩
  · rw [(lo (2 + 2) (by omega)).2.1, z2 j, dz 5 j (by omega) (by omega) (by omega)]
  · rw [(lo (2 + 3) (by omega)).2.1, z3 j hj, bz j hj]
  · rw [(lo 2 (by omega)).2.2.1, l7, dz 13 p (by omega) (by omega) (by omega)]
    constructor
    · intro z; simp at z
    · rintro ⟨-, z⟩; exact absurd rfl z
  · refine ⟨Or.inl ⟨oz 6, by rw [(lo 2 (by omega)).2.1]; exact i6, o14, fun j _ => kn j, fun j _ => kc j⟩, ⟨⟨?_, ?_⟩, fun j hj => ?_, fun j hj => ?_, fun j h1 h2 => ?_, fun j hj => ?_, fun j hj => ?_⟩, ⟨?_, fun z => ?_⟩, by rw [o10]; omega⟩
    · show hI h4 6 9 = hI h4 26 10
      rw [k9, o10]
    · show hI h4 (6 + 4) 5 = ((hI h4 26 14).toNat : Int)
      rw [k5, o14]; rfl
    · show hI h4 (6 + 1) j = hI h4 (26 + 7) j
      rw [kn j, dz 7 j (by omega) (by omega) (by omega)]
    · show hI h4 (6 + 2) j = hI h4 (26 + 8) j
      rw [kc j, dz 8 j (by omega) (by omega) (by omega)]
    · have : (j : Int) < hI h4 26 10 := h1
      omega
    · have : j < (hI h4 26 14).toNat := hj
      omega
    · have : j < (hI h4 26 14).toNat := hj
      omega
    · show 0 ≤ hI h4 26 14 ∧ hI h4 26 14 ≤ 400
      omega
    · have : 0 < hI h4 26 14 := z
      omega
theorem law_good : LawGood := by
  intro sc hs hin
  have w : WB sc 177 (BL 177 0) [some (aR 1), none, none, none] [] h00 (fun r h9 => r = some (aI 1) ∧ hN h9 ≤ 600002 ∧ hS h9 ≤ 7302250) := by
    rw [bl_177_0, wb_new, wb_dupR, wb_callv1]
    have nb : NB 15 8 h00 (newH h00 (10 + 5) (Int.toNat 8)) := NB_new
    have hn0 : hN h00 = 2 := rfl
    have hs0 : hS h00 = 0 := rfl
    rw [hn0]
    generalize newH h00 (10 + 5) (Int.toNat 8) = h1 at *
    obtain ⟨m1, m2, m3, m4, m5, m6⟩ := nb
    rw [hn0] at m1 m3 m4 m5 m6
    rw [hs0] at m2
    refine ⟨⟨by simp, isO_of (n := 8) (by rw [m3, if_pos rfl])⟩, ?_⟩
    refine xx_init m1 (by rw [m3, if_pos rfl]) (fun j => by rw [m4, if_pos rfl]) (fun j => by rw [m5, if_pos rfl]) (by omega) (fun h2 nx => ?_)
    have hn2 : hN h2 = 26 := nx.1.1
    have nb2 : NB 16 36 h2 (newH h2 16 36) := NB_new
    have io : isO (newH h2 16 36) (hN h2) 6 = true := isO_of (n := 36) (by rw [nb2.2.2.1, if_pos rfl])
    simp (maxSteps := 2000000) (disch := omega) only [↓wb_const, ↓wb_lconst, ↓wb_null, ↓wb_iload, ↓wb_lload, ↓wb_aload, ↓wb_istore, ↓wb_lstore, ↓wb_astore, ↓wb_iinc, ↓wb_iand, ↓wb_ior, ↓wb_ishr, ↓wb_idiv, ↓wb_irem, ↓wb_ladd, ↓wb_lsub, ↓wb_land, ↓wb_lor, ↓wb_lxor, ↓wb_lneg, ↓wb_lushr, ↓wb_lshl, ↓wb_l2i, ↓wb_lcmp, ↓wb_dupI, ↓wb_dupR, ↓wb_dup2, ↓wb_popI, ↓wb_popR, ↓wb_getI, ↓wb_getL, ↓wb_getR, ↓wb_putI, ↓wb_putZ, ↓wb_putL, ↓wb_putR, ↓wb_iaload, ↓wb_laload, ↓wb_zaload, ↓wb_aaload, ↓wb_iastore, ↓wb_lastore, ↓wb_zastore, ↓wb_aastore, ↓wb_alen, ↓wb_newI, ↓wb_newL, ↓wb_newZ, ↓wb_newA, ↓wb_new, ↓wb_obj, ↓wb_sld, ↓wb_slen, ↓wb_goto, ↓wb_ifeq, ↓wb_iceq, ↓wb_ifne, ↓wb_icne, ↓wb_iflt, ↓wb_iclt, ↓wb_ifge, ↓wb_icge, ↓wb_ifgt, ↓wb_icgt, ↓wb_ifle, ↓wb_icle, ↓wb_ifnull, ↓wb_ifnonnull, ↓wb_ret, ↓wb_iret, ↓wb_lret, ↓wb_aret, ↓wb_zret, ↓wb_tsw0, ↓wb_tsw1, ↓wb_lsw0, ↓wb_lsw1, ↓wb_calls0, ↓wb_calls1, ↓wb_callv1, ↓wb_calls2, ↓wb_callv2, ↓wb_calls3, ↓wb_callv3, ↓wb_callv4, ↓wb_callv5, ↓wb_callv6, oB_some, ldI_z, ldI_s, ldL_z, ldL_s, ldR_z, ldR_s, ls1_z, ls1_1n, ls1_1i, ls1_1r, ls1_1l, ls1_s, ls2_z, ls2_1n, ls2_1i, ls2_1r, ls2_1l, ls2_s, List.length_cons, List.length_nil, Nat.reduceAdd, Nat.reduceLT, Nat.reduceLeDiff, Nat.reduceDiv, Nat.reduceMod, Int.reduceToNat, Int.reduceAdd, Nat.zero_add, true_and, Option.toList_some, Option.toList_none, List.cons_append, List.nil_append, true_or, or_true, and_true, false_or, or_false, Int.reduceEq, Int.reduceLT, Int.reduceLE, Int.reduceNeg, not_true_eq_false, not_false_eq_true, Bool.and_eq_true, Bool.or_eq_true, decide_eq_true_eq, ↓reduceIte, b2i_0, b2i_01, b2i_01c, Nat.add_left_cancel_iff, Nat.add_eq_left, Nat.left_eq_add, Nat.reduceEqDiff, false_and, and_false, Bool.false_eq_true, Bool.true_eq_false, ↓wr_iadd, ↓wr_isub, ↓wr_imul, wr_id, io]
    generalize newH h2 16 36 = h3 at *
    rw [hn2] at io ⊢
    have nb3 := nb2
    obtain ⟨p1, p2, p3, p4, p5, p6⟩ := nb2
    rw [hn2] at p1 p3 p4 p5 p6
    refine mm_init p1 (by rw [p3, if_pos rfl]) (fun j => by rw [p4, if_pos rfl]) (by omega) (fun h4 nm => ?_)
    have sim := sim_0 nx nb3 nm (by omega)
    have lp := lw_loop (sc := sc) (Q := fun r h9 => r = some (aI 1) ∧ hN h9 ≤ 600002 ∧ hS h9 ≤ 7302250) hs hin (fun h s => ⟨rfl, by obtain ⟨np, -, -, e3, e4, e5, -⟩ := s.1.2.2.2.1; omega, by obtain ⟨np, -, -, e3, e4, e5, -⟩ := s.1.2.2.2.1; omega⟩) sc.1 0 h4 (by omega) (by omega) sim
    simp (maxSteps := 2000000) (disch := omega) only [↓wb_const, ↓wb_lconst, ↓wb_null, ↓wb_iload, ↓wb_lload, ↓wb_aload, ↓wb_istore, ↓wb_lstore, ↓wb_astore, ↓wb_iinc, ↓wb_iand, ↓wb_ior, ↓wb_ishr, ↓wb_idiv, ↓wb_irem, ↓wb_ladd, ↓wb_lsub, ↓wb_land, ↓wb_lor, ↓wb_lxor, ↓wb_lneg, ↓wb_lushr, ↓wb_lshl, ↓wb_l2i, ↓wb_lcmp, ↓wb_dupI, ↓wb_dupR, ↓wb_dup2, ↓wb_popI, ↓wb_popR, ↓wb_getI, ↓wb_getL, ↓wb_getR, ↓wb_putI, ↓wb_putZ, ↓wb_putL, ↓wb_putR, ↓wb_iaload, ↓wb_laload, ↓wb_zaload, ↓wb_aaload, ↓wb_iastore, ↓wb_lastore, ↓wb_zastore, ↓wb_aastore, ↓wb_alen, ↓wb_newI, ↓wb_newL, ↓wb_newZ, ↓wb_newA, ↓wb_new, ↓wb_obj, ↓wb_sld, ↓wb_slen, ↓wb_goto, ↓wb_ifeq, ↓wb_iceq, ↓wb_ifne, ↓wb_icne, ↓wb_iflt, ↓wb_iclt, ↓wb_ifge, ↓wb_icge, ↓wb_ifgt, ↓wb_icgt, ↓wb_ifle, ↓wb_icle, ↓wb_ifnull, ↓wb_ifnonnull, ↓wb_ret, ↓wb_iret, ↓wb_lret, ↓wb_aret, ↓wb_zret, ↓wb_tsw0, ↓wb_tsw1, ↓wb_lsw0, ↓wb_lsw1, ↓wb_calls0, ↓wb_calls1, ↓wb_callv1, ↓wb_calls2, ↓wb_callv2, ↓wb_calls3, ↓wb_callv3, ↓wb_callv4, ↓wb_callv5, ↓wb_callv6, oB_some, ldI_z, ldI_s, ldL_z, ldL_s, ldR_z, ldR_s, ls1_z, ls1_1n, ls1_1i, ls1_1r, ls1_1l, ls1_s, ls2_z, ls2_1n, ls2_1i, ls2_1r, ls2_1l, ls2_s, List.length_cons, List.length_nil, Nat.reduceAdd, Nat.reduceLT, Nat.reduceLeDiff, Nat.reduceDiv, Nat.reduceMod, Int.reduceToNat, Int.reduceAdd, Nat.zero_add, true_and, Option.toList_some, Option.toList_none, List.cons_append, List.nil_append, true_or, or_true, and_true, false_or, or_false, Int.reduceEq, Int.reduceLT, Int.reduceLE, Int.reduceNeg, not_true_eq_false, not_false_eq_true, Bool.and_eq_true, Bool.or_eq_true, decide_eq_true_eq, ↓reduceIte, b2i_0, b2i_01, b2i_01c, Nat.add_left_cancel_iff, Nat.add_eq_left, Nat.left_eq_add, Nat.reduceEqDiff, false_and, and_false, Bool.false_eq_true, Bool.true_eq_false, ↓wr_iadd, ↓wr_isub, ↓wr_imul, wr_id]
    exact lp
  obtain ⟨n, r, h9, e, e1, e2, e3⟩ := w
  rw [e1] at e
  exact ⟨n, h9, e, e2, e3⟩
