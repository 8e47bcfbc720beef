/-! ===== one call on both sides: program, line ===== -/
theorem cmd_program {sc : Scr} {x o pb : Nat} {h : Hp} (sim : Sim x o pb h) : CMD sc 75 112 [] x o pb h := by
  obtain ⟨sa, ss, sb, sh, sr⟩ := sim
  have sim : Sim x o pb h := ⟨sa, ss, sb, sh, sr⟩
  have sx := sa.1
  have sm := sa.2.1
  obtain ⟨g1, g2, g3⟩ := sa.2.2.1
  obtain ⟨np, e1, e2, e3, e4, e5, e6⟩ := sa.2.2.2.1
  have b20 := sa.2.2.2.2.1
  have b13 := sa.2.2.2.2.2.1
  have b12 := sa.2.2.2.2.2.2
  unfold CMD
  rw [wc_75]
  by_cases c16 : np = 16
  · have c1 : ((np : Int) < 16) = False := by simp; omega
    simp (maxSteps := 2000000) (disch := omega) only [↓wb_const, ↓wb_lconst, ↓wb_null, ↓wb_iload, ↓wb_lload, ↓wb_aload, ↓wb_istore, ↓wb_lstore, ↓wb_astore, ↓wb_iinc, ↓wb_iand, ↓wb_ior, ↓wb_ishr, ↓wb_idiv, ↓wb_irem, ↓wb_ladd, ↓wb_lsub, ↓wb_land, ↓wb_lor, ↓wb_lxor, ↓wb_lneg, ↓wb_lushr, ↓wb_lshl, ↓wb_l2i, ↓wb_lcmp, ↓wb_dupI, ↓wb_dupR, ↓wb_dup2, ↓wb_popI, ↓wb_popR, ↓wb_getI, ↓wb_getL, ↓wb_getR, ↓wb_putI, ↓wb_putZ, ↓wb_putL, ↓wb_putR, ↓wb_iaload, ↓wb_laload, ↓wb_zaload, ↓wb_aaload, ↓wb_iastore, ↓wb_lastore, ↓wb_zastore, ↓wb_aastore, ↓wb_alen, ↓wb_newI, ↓wb_newL, ↓wb_newZ, ↓wb_newA, ↓wb_new, ↓wb_obj, ↓wb_sld, ↓wb_slen, ↓wb_goto, ↓wb_ifeq, ↓wb_iceq, ↓wb_ifne, ↓wb_icne, ↓wb_iflt, ↓wb_iclt, ↓wb_ifge, ↓wb_icge, ↓wb_ifgt, ↓wb_icgt, ↓wb_ifle, ↓wb_icle, ↓wb_ifnull, ↓wb_ifnonnull, ↓wb_ret, ↓wb_iret, ↓wb_lret, ↓wb_aret, ↓wb_zret, ↓wb_tsw0, ↓wb_tsw1, ↓wb_lsw0, ↓wb_lsw1, ↓wb_calls0, ↓wb_calls1, ↓wb_callv1, ↓wb_calls2, ↓wb_callv2, ↓wb_calls3, ↓wb_callv3, ↓wb_callv4, ↓wb_callv5, ↓wb_callv6, oB_some, ldI_z, ldI_s, ldL_z, ldL_s, ldR_z, ldR_s, ls1_z, ls1_1n, ls1_1i, ls1_1r, ls1_1l, ls1_s, ls2_z, ls2_1n, ls2_1i, ls2_1r, ls2_1l, ls2_s, List.length_cons, List.length_nil, Nat.reduceAdd, Nat.reduceLT, Nat.reduceLeDiff, Nat.reduceDiv, Nat.reduceMod, Int.reduceToNat, Int.reduceAdd, Nat.zero_add, true_and, Option.toList_some, Option.toList_none, List.cons_append, List.nil_append, true_or, or_true, and_true, false_or, or_false, Int.reduceEq, Int.reduceLT, Int.reduceLE, Int.reduceNeg, not_true_eq_false, not_false_eq_true, Bool.and_eq_true, Bool.or_eq_true, decide_eq_true_eq, ↓reduceIte, b2i_0, b2i_01, b2i_01c, Nat.add_left_cancel_iff, Nat.add_eq_left, Nat.left_eq_add, Nat.reduceEqDiff, false_and, and_false, Bool.false_eq_true, Bool.true_eq_false, ↓wr_iadd, ↓wr_isub, ↓wr_imul, wr_id, ↓wl_75_0, sx_c sx, sx_r0 sx, sx_a1 sx, e2, c1]
    rw [mc_program sm (by omega) (by omega), if_pos (by show hI h o 0 = 16; omega)]
    exact ⟨_, rfl, rfl, sim⟩
  · have c1 : ((np : Int) < 16) = True := by simp; omega
    have nb : NB 12 15 h (newH h 12 15) := NB_new
    have io : isO (newH h 12 15) (hN h) 2 = true := isO_of (n := 15) (by rw [nb.2.2.1, if_pos rfl])
    simp (maxSteps := 2000000) (disch := omega) only [↓wb_const, ↓wb_lconst, ↓wb_null, ↓wb_iload, ↓wb_lload, ↓wb_aload, ↓wb_istore, ↓wb_lstore, ↓wb_astore, ↓wb_iinc, ↓wb_iand, ↓wb_ior, ↓wb_ishr, ↓wb_idiv, ↓wb_irem, ↓wb_ladd, ↓wb_lsub, ↓wb_land, ↓wb_lor, ↓wb_lxor, ↓wb_lneg, ↓wb_lushr, ↓wb_lshl, ↓wb_l2i, ↓wb_lcmp, ↓wb_dupI, ↓wb_dupR, ↓wb_dup2, ↓wb_popI, ↓wb_popR, ↓wb_getI, ↓wb_getL, ↓wb_getR, ↓wb_putI, ↓wb_putZ, ↓wb_putL, ↓wb_putR, ↓wb_iaload, ↓wb_laload, ↓wb_zaload, ↓wb_aaload, ↓wb_iastore, ↓wb_lastore, ↓wb_zastore, ↓wb_aastore, ↓wb_alen, ↓wb_newI, ↓wb_newL, ↓wb_newZ, ↓wb_newA, ↓wb_new, ↓wb_obj, ↓wb_sld, ↓wb_slen, ↓wb_goto, ↓wb_ifeq, ↓wb_iceq, ↓wb_ifne, ↓wb_icne, ↓wb_iflt, ↓wb_iclt, ↓wb_ifge, ↓wb_icge, ↓wb_ifgt, ↓wb_icgt, ↓wb_ifle, ↓wb_icle, ↓wb_ifnull, ↓wb_ifnonnull, ↓wb_ret, ↓wb_iret, ↓wb_lret, ↓wb_aret, ↓wb_zret, ↓wb_tsw0, ↓wb_tsw1, ↓wb_lsw0, ↓wb_lsw1, ↓wb_calls0, ↓wb_calls1, ↓wb_callv1, ↓wb_calls2, ↓wb_callv2, ↓wb_calls3, ↓wb_callv3, ↓wb_callv4, ↓wb_callv5, ↓wb_callv6, oB_some, ldI_z, ldI_s, ldL_z, ldL_s, ldR_z, ldR_s, ls1_z, ls1_1n, ls1_1i, ls1_1r, ls1_1l, ls1_s, ls2_z, ls2_1n, ls2_1i, ls2_1r, ls2_1l, ls2_s, List.length_cons, List.length_nil, Nat.reduceAdd, Nat.reduceLT, Nat.reduceLeDiff, Nat.reduceDiv, Nat.reduceMod, Int.reduceToNat, Int.reduceAdd, Nat.zero_add, true_and, Option.toList_some, Option.toList_none, List.cons_append, List.nil_append, true_or, or_true, and_true, false_or, or_false, Int.reduceEq, Int.reduceLT, Int.reduceLE, Int.reduceNeg, not_true_eq_false, not_false_eq_true, Bool.and_eq_true, Bool.or_eq_true, decide_eq_true_eq, ↓reduceIte, b2i_0, b2i_01, b2i_01c, Nat.add_left_cancel_iff, Nat.add_eq_left, Nat.left_eq_add, Nat.reduceEqDiff, false_and, and_false, Bool.false_eq_true, Bool.true_eq_false, ↓wr_iadd, ↓wr_isub, ↓wr_imul, wr_id, ↓wl_75_0, ↓wl_75_6, sx_c sx, sx_r0 sx, sx_a1 sx, e2, c1, io]
    obtain ⟨d, hd⟩ : ∃ d, d = pb + 20 * np := ⟨_, rfl⟩
    rw [← hd] at e4
    rw [e4] at io ⊢
    generalize newH h 12 15 = h1 at *
    obtain ⟨m1, m2, m3, m4, m5, m6⟩ := nb
    rw [e4] at m1 m3 m4 m5 m6
    refine pp_init m1 (by rw [m3, if_pos rfl]) (fun j => by rw [m4, if_pos rfl]) (by omega) (fun h2 nP => ?_)
    obtain ⟨pi0, ci0⟩ := NP_pi nP
    obtain ⟨⟨x1, x2, x3⟩, spd, -⟩ := nP
    have lo : ∀ y, y < d → hT h2 y = hT h y ∧ hI h2 y = hI h y ∧ hL h2 y = hL h y ∧ hR h2 y = hR h y := fun y hy => by
      obtain ⟨q1, q2, q3, q4⟩ := x3 y hy
      exact ⟨by rw [q1, m3, if_neg (by omega)], funext fun j => by rw [q2, m4, if_neg (by omega)], funext fun j => by rw [q3, m5, if_neg (by omega)], funext fun j => by rw [q4, m6, if_neg (by omega)]⟩
    have sx2 : SLX x h2 := SLX_loc (fun y a b => ⟨(lo y (by omega)).1, fun _ => (lo y (by omega)).2.2.2⟩) sx
    have b1 : (0 ≤ (np : Int) ∧ (np : Int) < 16) = True := by simp; omega
    have hx5 : hI h2 x 5 = np := by rw [(lo x (by omega)).2.1]; exact e2
    have ens : (np : Int) + 1 - 1 = np := by omega
    have od : isO h2 d 2 = true := isO_of spd.1
    simp (maxSteps := 2000000) (disch := omega) only [↓wb_const, ↓wb_lconst, ↓wb_null, ↓wb_iload, ↓wb_lload, ↓wb_aload, ↓wb_istore, ↓wb_lstore, ↓wb_astore, ↓wb_iinc, ↓wb_iand, ↓wb_ior, ↓wb_ishr, ↓wb_idiv, ↓wb_irem, ↓wb_ladd, ↓wb_lsub, ↓wb_land, ↓wb_lor, ↓wb_lxor, ↓wb_lneg, ↓wb_lushr, ↓wb_lshl, ↓wb_l2i, ↓wb_lcmp, ↓wb_dupI, ↓wb_dupR, ↓wb_dup2, ↓wb_popI, ↓wb_popR, ↓wb_getI, ↓wb_getL, ↓wb_getR, ↓wb_putI, ↓wb_putZ, ↓wb_putL, ↓wb_putR, ↓wb_iaload, ↓wb_laload, ↓wb_zaload, ↓wb_aaload, ↓wb_iastore, ↓wb_lastore, ↓wb_zastore, ↓wb_aastore, ↓wb_alen, ↓wb_newI, ↓wb_newL, ↓wb_newZ, ↓wb_newA, ↓wb_new, ↓wb_obj, ↓wb_sld, ↓wb_slen, ↓wb_goto, ↓wb_ifeq, ↓wb_iceq, ↓wb_ifne, ↓wb_icne, ↓wb_iflt, ↓wb_iclt, ↓wb_ifge, ↓wb_icge, ↓wb_ifgt, ↓wb_icgt, ↓wb_ifle, ↓wb_icle, ↓wb_ifnull, ↓wb_ifnonnull, ↓wb_ret, ↓wb_iret, ↓wb_lret, ↓wb_aret, ↓wb_zret, ↓wb_tsw0, ↓wb_tsw1, ↓wb_lsw0, ↓wb_lsw1, ↓wb_calls0, ↓wb_calls1, ↓wb_callv1, ↓wb_calls2, ↓wb_callv2, ↓wb_calls3, ↓wb_callv3, ↓wb_callv4, ↓wb_callv5, ↓wb_callv6, oB_some, ldI_z, ldI_s, ldL_z, ldL_s, ldR_z, ldR_s, ls1_z, ls1_1n, ls1_1i, ls1_1r, ls1_1l, ls1_s, ls2_z, ls2_1n, ls2_1i, ls2_1r, ls2_1l, ls2_s, List.length_cons, List.length_nil, Nat.reduceAdd, Nat.reduceLT, Nat.reduceLeDiff, Nat.reduceDiv, Nat.reduceMod, Int.reduceToNat, Int.reduceAdd, Nat.zero_add, true_and, Option.toList_some, Option.toList_none, List.cons_append, List.nil_append, true_or, or_true, and_true, false_or, or_false, Int.reduceEq, Int.reduceLT, Int.reduceLE, Int.reduceNeg, not_true_eq_false, not_false_eq_true, Bool.and_eq_true, Bool.or_eq_true, decide_eq_true_eq, ↓reduceIte, b2i_0, b2i_01, b2i_01c, Nat.add_left_cancel_iff, Nat.add_eq_left, Nat.left_eq_add, Nat.reduceEqDiff, false_and, and_false, Bool.false_eq_true, Bool.true_eq_false, ↓wr_iadd, ↓wr_isub, ↓wr_imul, wr_id, sx_c sx2, sx_r0 sx2, sx_a1 sx2, od, b1, Int.toNat_natCast, hI_setR, hx5, isO_setR, isO_setI, hI_eq, ens]
    obtain ⟨h3, hh3⟩ : ∃ h3, setI (setR h2 (x + 1) np d) x 5 ((np : Int) + 1) = h3 := ⟨_, rfl⟩
    rw [hh3]
    -- the heap behind the class's call
    have T3 : hT h3 = hT h2 := by rw [← hh3, hT_setI, hT_setR]
    have L3 : hL h3 = hL h2 := by rw [← hh3, hL_setI, hL_setR]
    have R3 : ∀ y j, hR h3 y j = if y = x + 1 ∧ j = np then d else hR h2 y j := fun y j => by rw [← hh3, hR_setI, hR_setR]
    have I3 : ∀ y, ¬ y = x → hI h3 y = hI h2 y := fun y hy => by rw [← hh3, row_ne hy, hI_setR]
    have X3 : ∀ j, ¬ j = 5 → hI h3 x j = hI h2 x j := fun j hj => by rw [← hh3, hI_ne2 hj, hI_setR]
    have X35 : hI h3 x 5 = (np : Int) + 1 := by rw [← hh3, hI_eq]
    have N3 : hN h3 = d + 20 ∧ hS h3 = hS h2 := by rw [← hh3, hN_setI, hN_setR, hS_setI, hS_setR]; exact ⟨x1, rfl⟩
    clear hh3
    have sm3 : SM o h3 := SM_loc (fun y a b => by rw [T3, (lo y (by omega)).1]) (by funext j; rw [R3, if_neg (by omega), (lo o (by omega)).2.2.2]) sm
    have o0 : hI h3 o 0 = np := by rw [I3 o (by omega), (lo o (by omega)).2.1]; exact e1
    have ref := fun (Q : Option AV → Hp → Prop) => mc_program (sc := sc) (Q := Q) sm3 (by show 0 ≤ hI h3 o 0; omega) (by show hI h3 o 0 ≤ 16; omega)
    rw [ref, if_neg (by show ¬ hI h3 o 0 = 16; omega)]
    show ∃ a : Int, some (aI (np : Int)) = some (aI a) ∧ some (aI (hI h3 o 0)) = some (aI a) ∧ Sim x o pb (setI (setI h3 (o + 1) (hI h3 o 0).toNat 0) o 0 (hI h3 o 0 + 1))
    rw [o0, Int.toNat_natCast]
    refine ⟨np, rfl, rfl, ?_⟩
    obtain ⟨h4, hh4⟩ : ∃ h4, setI (setI h3 (o + 1) np 0) o 0 ((np : Int) + 1) = h4 := ⟨_, rfl⟩
    rw [hh4]
    have T4 : hT h4 = hT h3 ∧ hL h4 = hL h3 ∧ hR h4 = hR h3 ∧ hN h4 = hN h3 ∧ hS h4 = hS h3 := by rw [← hh4, hT_setI, hT_setI, hL_setI, hL_setI, hR_setI, hR_setI, hN_setI, hN_setI, hS_setI, hS_setI]; exact ⟨rfl, rfl, rfl, rfl, rfl⟩
    have I4 : ∀ y, ¬ y = o → ¬ y = o + 1 → hI h4 y = hI h3 y := fun y a b => by rw [← hh4, row_ne a, row_ne b]
    have O4 : ∀ j, ¬ j = 0 → hI h4 o j = hI h3 o j := fun j hj => by rw [← hh4, hI_ne2 hj, hI_ne (by omega)]
    have O40 : hI h4 o 0 = (np : Int) + 1 := by rw [← hh4, hI_eq]
    have M4 : ∀ j, ¬ j = np → hI h4 (o + 1) j = hI h3 (o + 1) j := fun j hj => by rw [← hh4, hI_ne (by omega), hI_ne2 hj]
    have M4n : hI h4 (o + 1) np = 0 := by rw [← hh4, hI_ne (by omega), hI_eq]
    clear hh4 ref
    have sm4 : SM o h4 := by rw [SM_same T4.1 T4.2.2.1]; exact sm3
    -- cells of no special role
    have all : ∀ y, y < d → ¬ y = o → ¬ y = o + 1 → ¬ y = x → hI h4 y = hI h y := fun y a b c e => by rw [I4 y b c, I3 y e, (lo y a).2.1]
    have tt : ∀ y, y < d → hT h4 y = hT h y := fun y a => by rw [T4.1, T3, (lo y a).1]
    have rr : ∀ y, y < d → ¬ y = x + 1 → hR h4 y = hR h y := fun y a b => by rw [T4.2.2.1]; funext j; rw [R3, if_neg (fun z => b z.1), (lo y a).2.2.2]
    have ll : ∀ y, y < d → hL h4 y = hL h y := fun y a => by rw [T4.2.1, L3, (lo y a).2.2.1]
    have oo : ∀ j, ¬ j = 0 → hI h4 o j = hI h o j := fun j hj => by rw [O4 j hj, I3 o (by omega), (lo o (by omega)).2.1]
    have mm : ∀ j, ¬ j = np → hI h4 (o + 1) j = hI h (o + 1) j := fun j hj => by rw [M4 j hj, I3 (o + 1) (by omega), (lo (o + 1) (by omega)).2.1]
    have hi4 : ∀ y, d ≤ y → hT h4 y = hT h2 y ∧ hR h4 y = hR h2 y ∧ hI h4 y = hI h2 y ∧ hL h4 y = hL h2 y := fun y a => ⟨by rw [T4.1, T3], by rw [T4.2.2.1]; funext j; rw [R3, if_neg (by omega)], by rw [I4 y (by omega) (by omega), I3 y (by omega)], by rw [T4.2.1, L3]⟩
    have rg : ∀ g, ¬ g = np → RG1 o g h h4 := fun g hg => ⟨mm g hg, fun y z a b _ _ => by rw [all y (by omega) (by omega) (by omega) (by omega)]⟩
    refine ⟨⟨?_, sm4, ⟨g1, g2, g3⟩, ⟨np + 1, by rw [O40]; omega, ?_, by omega, by rw [T4.2.2.2.1, N3.1]; omega, by rw [T4.2.2.2.2, N3.2]; omega, fun g hg => ?_⟩, ?_, ?_, ?_⟩, ?_, ?_, ?_, ?_⟩
    · exact SLX_loc (fun y a b => ⟨tt y (by omega), fun nb => rr y (by omega) nb⟩) sx
    · rw [I4 x (by omega) (by omega), X35]; omega
    · by_cases eg : g = np
      · subst eg
        obtain ⟨q1, q2, q3, q4⟩ := PI_loc (h2 := h4) (fun y a b => hi4 y a) pi0
        rw [hd] at q1
        refine ⟨0, ?_, ⟨sm4, ⟨by omega, by omega⟩, ?_, by omega, fun q hq => by omega, fun q hq => by omega⟩, q1, ?_, fun q a b => by omega, fun q a b => by omega, fun q a b => by omega⟩
        · rw [T4.2.2.1, R3, if_pos ⟨rfl, rfl⟩, hd]
        · show hI h4 (o + 1) ((g : Int).toNat) = ((0 : Nat) : Int); rw [Int.toNat_natCast]; exact M4n
        · rw [← hd]; exact CI_hi (fun y a b => ⟨(hi4 y a).2.2.1, (hi4 y a).2.2.2⟩) ci0
      · obtain ⟨n, gp⟩ := e6 g (by omega)
        refine ⟨n, GP_loc gp ?_ sm4 (rg g eg) (fun y a b => ⟨tt y (by omega), rr y (by omega) (by omega), all y (by omega) (by omega) (by omega) (by omega), ll y (by omega)⟩)⟩
        rw [T4.2.2.1, R3, if_neg (fun z => eg z.2), (lo (x + 1) (by omega)).2.2.2]
    · intro v; rw [all (o + 20) (by omega) (by omega) (by omega) (by omega)]; exact b20 v
    · intro v; rw [all (o + 13) (by omega) (by omega) (by omega) (by omega)]; exact b13 v
    · intro v; rw [all (o + 12) (by omega) (by omega) (by omega) (by omega)]; exact b12 v
    · intro j hj; rw [all (x + 2) (by omega) (by omega) (by omega) (by omega), all (o + 5) (by omega) (by omega) (by omega) (by omega)]; exact ss j hj
    · intro j hj; rw [all (x + 3) (by omega) (by omega) (by omega) (by omega), all (o + 14) (by omega) (by omega) (by omega) (by omega)]; exact sb j hj
    · intro p; rw [ll x (by omega), all (o + 13) (by omega) (by omega) (by omega) (by omega)]; exact sh p
    · refine SRn_G sm4 (fun j hj => oo j (by omega)) (by rw [O40]; omega) ?_ (fun y a b => all y (by omega) (by omega) (by omega) (by omega)) (fun y a b => all y (by omega) (by omega) (by omega) (by omega)) (fun a b c => rg _ ?_) sr
      · rw [I4 x (by omega) (by omega), X3 6 (by omega), (lo x (by omega)).2.1]
      · obtain ⟨sr1, -⟩ := sr
        rcases sr1 with ⟨z, -⟩ | ⟨-, -, z, -⟩
        · omega
        · omega
