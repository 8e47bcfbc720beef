/-! ===== the reference: its constructor ===== -/
def mTy (i : Nat) : Nat × Nat := ([(1, 16), (1, 960), (1, 960), (1, 960), (1, 8), (1, 300), (1, 8), (1, 12), (1, 400), (1, 400), (1, 400), (3, 400), (3, 60), (1, 60), (1, 60), (1, 60), (1, 60), (3, 3600), (3, 3600), (3, 61), (3, 61), (1, 60), (1, 40000), (3, 400)] : List (Nat × Nat)).getD i (0, 0)
def mFd (i : Nat) : Nat := ([1, 2, 3, 4, 5, 11, 12, 13, 15, 16, 17, 18, 19, 20, 23, 24, 25, 27, 28, 29, 30, 31, 33, 35] : List Nat).getD i (100 + i)
theorem mFd_i : ∀ m, m < 24 → ∀ i, i < m → ¬ mFd i = mFd m := by decide +kernel
def mSz : Nat → Nat
  | 0 => 0
  | m + 1 => mSz m + (mTy m).2
def AM (o m : Nat) (h0 h : Hp) : Prop := hN h = o + 1 + m ∧ hS h = hS h0 + mSz m ∧ hT h o = (16, 36) ∧ (∀ j, hI h o j = 0) ∧ (∀ i, i < m → hT h (o + 1 + i) = mTy i) ∧ (∀ i, i < m → hR h o (mFd i) = o + 1 + i) ∧ (∀ i, i < m → ∀ j, hI h (o + 1 + i) j = 0) ∧ ∀ y, y < o → hT h y = hT h0 y ∧ hI h y = hI h0 y ∧ hL h y = hL h0 y ∧ hR h y = hR h0 y
theorem AM_s {o m t n f : Nat} {h0 h h2 : Hp} (m24 : m < 24) (a : AM o m h0 h) (na : NA o f t n h h2) (ef : f = mFd m) (et : (t, n) = mTy m) : AM o (m + 1) h0 h2 := by
  obtain ⟨a1, a2, a3, a4, a5, a6, a7, a8⟩ := a
  obtain ⟨n1, n2, n3, n4, n5, n6⟩ := na
  rw [a1] at n1 n3 n4 n5 n6
  have en : (mTy m).2 = n := by rw [← et]
  refine ⟨by omega, ?_, by rw [n3, if_neg (by omega)]; exact a3, fun j => by rw [n4, if_neg (by omega)]; exact a4 j, fun i hi => ?_, fun i hi => ?_, fun i hi j => ?_, fun y hy => ?_⟩
  · show hS h2 = hS h0 + (mSz m + (mTy m).2)
    rw [en]; omega
  · rw [n3]
    by_cases e : i = m
    · rw [if_pos (by omega), et, e]
    · rw [if_neg (by omega)]; exact a5 i (by omega)
  · rw [n6]
    by_cases e : i = m
    · rw [if_pos ⟨rfl, by rw [e, ef]⟩, e]
    · rw [if_neg (fun z => mFd_i m m24 i (by omega) (by rw [z.2, ef])), if_neg (by omega)]; exact a6 i (by omega)
  · rw [n4]
    by_cases e : i = m
    · rw [if_pos (by omega)]
    · rw [if_neg (by omega)]; exact a7 i (by omega) j
  · obtain ⟨b1, b2, b3, b4⟩ := a8 y hy
    refine ⟨by rw [n3, if_neg (by omega)]; exact b1, funext fun j => by rw [n4, if_neg (by omega), b2], funext fun j => by rw [n5, if_neg (by omega), b3], funext fun j => ?_⟩
    rw [n6, if_neg (by omega), if_neg (by omega), b4]
theorem AM_o {o m : Nat} {h0 h : Hp} (a : AM o m h0 h) : isO h o 6 = true := isO_of a.2.2.1
theorem AM_n {o m : Nat} {h0 h : Hp} (a : AM o m h0 h) : o < hN h := by rw [a.1]; omega
theorem AM_sm {o : Nat} {h0 h : Hp} (a : AM o 24 h0 h) : SM o h := by
  obtain ⟨-, -, a3, -, a5, a6, -, -⟩ := a
  exact ⟨a3, a5 0 (by omega), a5 1 (by omega), a5 2 (by omega), a5 3 (by omega), a5 4 (by omega), a5 5 (by omega), a5 6 (by omega), a5 7 (by omega), a5 8 (by omega), a5 9 (by omega), a5 10 (by omega), a5 11 (by omega), a5 12 (by omega), a5 13 (by omega), a5 14 (by omega), a5 15 (by omega), a5 16 (by omega), a5 17 (by omega), a5 18 (by omega), a5 19 (by omega), a5 20 (by omega), a5 21 (by omega), a5 22 (by omega), a5 23 (by omega), a6 0 (by omega), a6 1 (by omega), a6 2 (by omega), a6 3 (by omega), a6 4 (by omega), a6 5 (by omega), a6 6 (by omega), a6 7 (by omega), a6 8 (by omega), a6 9 (by omega), a6 10 (by omega), a6 11 (by omega), a6 12 (by omega), a6 13 (by omega), a6 14 (by omega), a6 15 (by omega), a6 16 (by omega), a6 17 (by omega), a6 18 (by omega), a6 19 (by omega), a6 20 (by omega), a6 21 (by omega), a6 22 (by omega), a6 23 (by omega)⟩
/-- the reference as it is made -/
def NM (o : Nat) (h0 h : Hp) : Prop := EX o (o + 25) 52906 h0 h ∧ SM o h ∧ (∀ j, hI h o j = 0) ∧ (∀ d j, 0 < d → d ≤ 24 → ¬ d = 14 → hI h (o + d) j = 0) ∧ ∀ j, j < 60 → hI h (o + 14) j = -1
theorem mm_init {sc : Scr} {o : Nat} {h : Hp} {Q : Option AV → Hp → Prop} (hn : hN h = o + 1) (ht : hT h o = (16, 36)) (hz : ∀ j, hI h o j = 0) (o2 : 2 ≤ o) (hQ : ∀ h2, NM o h h2 → Q none h2) : WC sc 110 [aR o] h Q := by
  rw [wc_110, bl_110_0]
  refine st_ob o2 ?_
  have a0 : AM o 0 h h := ⟨hn, rfl, ht, hz, fun i hi => by omega, fun i hi => by omega, fun i hi => by omega, fun y _ => ⟨rfl, rfl, rfl, rfl⟩⟩
  refine st_n1 (AM_o a0) (AM_n a0) o2 (by decide) (by decide) (fun g1 n1 => ?_)
  have a1 := AM_s (by omega) a0 n1 rfl rfl
  clear a0 n1
  refine st_n1 (AM_o a1) (AM_n a1) o2 (by decide) (by decide) (fun g2 n2 => ?_)
  have a2 := AM_s (by omega) a1 n2 rfl rfl
  clear a1 n2
  refine st_n1 (AM_o a2) (AM_n a2) o2 (by decide) (by decide) (fun g3 n3 => ?_)
  have a3 := AM_s (by omega) a2 n3 rfl rfl
  clear a2 n3
  refine st_n1 (AM_o a3) (AM_n a3) o2 (by decide) (by decide) (fun g4 n4 => ?_)
  have a4 := AM_s (by omega) a3 n4 rfl rfl
  clear a3 n4
  refine st_n1 (AM_o a4) (AM_n a4) o2 (by decide) (by decide) (fun g5 n5 => ?_)
  have a5 := AM_s (by omega) a4 n5 rfl rfl
  clear a4 n5
  refine st_n1 (AM_o a5) (AM_n a5) o2 (by decide) (by decide) (fun g6 n6 => ?_)
  have a6 := AM_s (by omega) a5 n6 rfl rfl
  clear a5 n6
  refine st_n1 (AM_o a6) (AM_n a6) o2 (by decide) (by decide) (fun g7 n7 => ?_)
  have a7 := AM_s (by omega) a6 n7 rfl rfl
  clear a6 n7
  refine st_n1 (AM_o a7) (AM_n a7) o2 (by decide) (by decide) (fun g8 n8 => ?_)
  have a8 := AM_s (by omega) a7 n8 rfl rfl
  clear a7 n8
  refine st_n1 (AM_o a8) (AM_n a8) o2 (by decide) (by decide) (fun g9 n9 => ?_)
  have a9 := AM_s (by omega) a8 n9 rfl rfl
  clear a8 n9
  refine st_n1 (AM_o a9) (AM_n a9) o2 (by decide) (by decide) (fun g10 n10 => ?_)
  have a10 := AM_s (by omega) a9 n10 rfl rfl
  clear a9 n10
  refine st_n1 (AM_o a10) (AM_n a10) o2 (by decide) (by decide) (fun g11 n11 => ?_)
  have a11 := AM_s (by omega) a10 n11 rfl rfl
  clear a10 n11
  refine st_n3 (AM_o a11) (AM_n a11) o2 (by decide) (by decide) (fun g12 n12 => ?_)
  have a12 := AM_s (by omega) a11 n12 rfl rfl
  clear a11 n12
  refine st_n3 (AM_o a12) (AM_n a12) o2 (by decide) (by decide) (fun g13 n13 => ?_)
  have a13 := AM_s (by omega) a12 n13 rfl rfl
  clear a12 n13
  refine st_n1 (AM_o a13) (AM_n a13) o2 (by decide) (by decide) (fun g14 n14 => ?_)
  have a14 := AM_s (by omega) a13 n14 rfl rfl
  clear a13 n14
  refine st_n1 (AM_o a14) (AM_n a14) o2 (by decide) (by decide) (fun g15 n15 => ?_)
  have a15 := AM_s (by omega) a14 n15 rfl rfl
  clear a14 n15
  refine st_n1 (AM_o a15) (AM_n a15) o2 (by decide) (by decide) (fun g16 n16 => ?_)
  have a16 := AM_s (by omega) a15 n16 rfl rfl
  clear a15 n16
  refine st_n1 (AM_o a16) (AM_n a16) o2 (by decide) (by decide) (fun g17 n17 => ?_)
  have a17 := AM_s (by omega) a16 n17 rfl rfl
  clear a16 n17
  refine st_n3 (AM_o a17) (AM_n a17) o2 (by decide) (by decide) (fun g18 n18 => ?_)
  have a18 := AM_s (by omega) a17 n18 rfl rfl
  clear a17 n18
  refine st_n3 (AM_o a18) (AM_n a18) o2 (by decide) (by decide) (fun g19 n19 => ?_)
  have a19 := AM_s (by omega) a18 n19 rfl rfl
  clear a18 n19
  refine st_n3 (AM_o a19) (AM_n a19) o2 (by decide) (by decide) (fun g20 n20 => ?_)
  have a20 := AM_s (by omega) a19 n20 rfl rfl
  clear a19 n20
  refine st_n3 (AM_o a20) (AM_n a20) o2 (by decide) (by decide) (fun g21 n21 => ?_)
  have a21 := AM_s (by omega) a20 n21 rfl rfl
  clear a20 n21
  refine st_n1 (AM_o a21) (AM_n a21) o2 (by decide) (by decide) (fun g22 n22 => ?_)
  have a22 := AM_s (by omega) a21 n22 rfl rfl
  clear a21 n22
  refine st_n1 (AM_o a22) (AM_n a22) o2 (by decide) (by decide) (fun g23 n23 => ?_)
  have a23 := AM_s (by omega) a22 n23 rfl rfl
  clear a22 n23
  refine st_n3 (AM_o a23) (AM_n a23) o2 (by decide) (by decide) (fun g24 n24 => ?_)
  have a24 := AM_s (by omega) a23 n24 rfl rfl
  clear a23 n24
  have sm := AM_sm a24
  have fin : ∀ (h2 : Hp), FR (o + 14) (o + 14) g24 h2 → (∀ j, j < 60 → hI h2 (o + 14) j = -1) → Q none h2 := by
    intro h2 fr hr
    obtain ⟨a1, a2, a3, a4, a5, a6, a7, a8⟩ := a24
    refine hQ h2 ⟨⟨?_, ?_, fun y hy => ?_⟩, FR_sm fr sm, fun j => ?_, fun d j d0 d1 d2 => ?_, hr⟩
    · unfold hN at a1 ⊢; rw [fr.1]; exact a1
    · unfold hS at a2 ⊢; rw [fr.1]; exact a2
    · obtain ⟨b1, b2, b3, b4⟩ := a8 y hy
      exact ⟨by rw [fr.2.1, b1], by rw [(fr.2.2.2 y (by omega)).1, b2], by rw [(fr.2.2.2 y (by omega)).2, b3], by rw [fr.2.2.1, b4]⟩
    · rw [FR_i fr (by omega)]; exact a4 j
    · rw [FR_i fr (by omega)]
      have := a7 (d - 1) (by omega) j
      rw [show o + 1 + (d - 1) = o + d by omega] at this
      exact this
  clear hQ
  have loop : ∀ (f i : Nat) (h1 : Hp), 60 - i = f → i ≤ 60 → FR (o + 14) (o + 14) g24 h1 → (∀ j, j < i → hI h1 (o + 14) j = -1) → WB sc 110 (BL 110 100) [some (aR o), some (aI i)] [] h1 Q := by
    intro f
    induction f with
    | zero =>
      intro i h1 hf hi fr hr
      have fi := fin h1 fr (fun j hj => hr j (by omega))
      have c1 : ((60 : Int) ≤ (i : Int)) = True := by simp; omega
      rw [bl_110_100]
      simp (maxSteps := 2000000) (disch := omega) only [↓wb_const, ↓wb_lconst, ↓wb_null, ↓wb_iload, ↓wb_lload, ↓wb_aload, ↓wb_istore, ↓wb_lstore, ↓wb_astore, ↓wb_iinc, ↓wb_iand, ↓wb_ior, ↓wb_ishr, ↓wb_idiv, ↓wb_irem, ↓wb_ladd, ↓wb_lsub, ↓wb_land, ↓wb_lor, ↓wb_lxor, ↓wb_lneg, ↓wb_lushr, ↓wb_lshl, ↓wb_l2i, ↓wb_lcmp, ↓wb_dupI, ↓wb_dupR, ↓wb_dup2, ↓wb_popI, ↓wb_popR, ↓wb_getI, ↓wb_getL, ↓wb_getR, ↓wb_putI, ↓wb_putZ, ↓wb_putL, ↓wb_putR, ↓wb_iaload, ↓wb_laload, ↓wb_zaload, ↓wb_aaload, ↓wb_iastore, ↓wb_lastore, ↓wb_zastore, ↓wb_aastore, ↓wb_alen, ↓wb_newI, ↓wb_newL, ↓wb_newZ, ↓wb_newA, ↓wb_new, ↓wb_obj, ↓wb_sld, ↓wb_slen, ↓wb_goto, ↓wb_ifeq, ↓wb_iceq, ↓wb_ifne, ↓wb_icne, ↓wb_iflt, ↓wb_iclt, ↓wb_ifge, ↓wb_icge, ↓wb_ifgt, ↓wb_icgt, ↓wb_ifle, ↓wb_icle, ↓wb_ifnull, ↓wb_ifnonnull, ↓wb_ret, ↓wb_iret, ↓wb_lret, ↓wb_aret, ↓wb_zret, ↓wb_tsw0, ↓wb_tsw1, ↓wb_lsw0, ↓wb_lsw1, ↓wb_calls0, ↓wb_calls1, ↓wb_callv1, ↓wb_calls2, ↓wb_callv2, ↓wb_calls3, ↓wb_callv3, ↓wb_callv4, ↓wb_callv5, ↓wb_callv6, oB_some, ldI_z, ldI_s, ldL_z, ldL_s, ldR_z, ldR_s, ls1_z, ls1_1n, ls1_1i, ls1_1r, ls1_1l, ls1_s, ls2_z, ls2_1n, ls2_1i, ls2_1r, ls2_1l, ls2_s, List.length_cons, List.length_nil, Nat.reduceAdd, Nat.reduceLT, Nat.reduceLeDiff, Nat.reduceDiv, Nat.reduceMod, Int.reduceToNat, Int.reduceAdd, Nat.zero_add, true_and, Option.toList_some, Option.toList_none, List.cons_append, List.nil_append, true_or, or_true, and_true, false_or, or_false, Int.reduceEq, Int.reduceLT, Int.reduceLE, Int.reduceNeg, not_true_eq_false, not_false_eq_true, Bool.and_eq_true, Bool.or_eq_true, decide_eq_true_eq, ↓reduceIte, b2i_0, b2i_01, b2i_01c, Nat.add_left_cancel_iff, Nat.add_eq_left, Nat.left_eq_add, Nat.reduceEqDiff, false_and, and_false, Bool.false_eq_true, Bool.true_eq_false, ↓wr_iadd, ↓wr_isub, ↓wr_imul, wr_id, ↓wl_110_110, c1]
      exact fi
    | succ f ih =>
      intro i h1 hf hi fr hr
      have c1 : ((60 : Int) ≤ (i : Int)) = False := by simp; omega
      have b1 : (0 ≤ (i : Int) ∧ (i : Int) < 60) = True := by simp; omega
      have cS : (i : Int) + 1 = ((i + 1 : Nat) : Int) := by omega
      have s1 := FR_sm fr sm
      have nx := ih (i + 1) (setI h1 (o + 14) i (-1)) (by omega) (by omega) (FR_I fr (by omega) (by omega)) (fun j hj => by
        by_cases e : j = i
        · rw [e, hI_eq]
        · rw [hI_ne2 e]; exact hr j (by omega))
      clear ih
      rw [bl_110_100]
      simp (maxSteps := 2000000) (disch := omega) only [↓wb_const, ↓wb_lconst, ↓wb_null, ↓wb_iload, ↓wb_lload, ↓wb_aload, ↓wb_istore, ↓wb_lstore, ↓wb_astore, ↓wb_iinc, ↓wb_iand, ↓wb_ior, ↓wb_ishr, ↓wb_idiv, ↓wb_irem, ↓wb_ladd, ↓wb_lsub, ↓wb_land, ↓wb_lor, ↓wb_lxor, ↓wb_lneg, ↓wb_lushr, ↓wb_lshl, ↓wb_l2i, ↓wb_lcmp, ↓wb_dupI, ↓wb_dupR, ↓wb_dup2, ↓wb_popI, ↓wb_popR, ↓wb_getI, ↓wb_getL, ↓wb_getR, ↓wb_putI, ↓wb_putZ, ↓wb_putL, ↓wb_putR, ↓wb_iaload, ↓wb_laload, ↓wb_zaload, ↓wb_aaload, ↓wb_iastore, ↓wb_lastore, ↓wb_zastore, ↓wb_aastore, ↓wb_alen, ↓wb_newI, ↓wb_newL, ↓wb_newZ, ↓wb_newA, ↓wb_new, ↓wb_obj, ↓wb_sld, ↓wb_slen, ↓wb_goto, ↓wb_ifeq, ↓wb_iceq, ↓wb_ifne, ↓wb_icne, ↓wb_iflt, ↓wb_iclt, ↓wb_ifge, ↓wb_icge, ↓wb_ifgt, ↓wb_icgt, ↓wb_ifle, ↓wb_icle, ↓wb_ifnull, ↓wb_ifnonnull, ↓wb_ret, ↓wb_iret, ↓wb_lret, ↓wb_aret, ↓wb_zret, ↓wb_tsw0, ↓wb_tsw1, ↓wb_lsw0, ↓wb_lsw1, ↓wb_calls0, ↓wb_calls1, ↓wb_callv1, ↓wb_calls2, ↓wb_callv2, ↓wb_calls3, ↓wb_callv3, ↓wb_callv4, ↓wb_callv5, ↓wb_callv6, oB_some, ldI_z, ldI_s, ldL_z, ldL_s, ldR_z, ldR_s, ls1_z, ls1_1n, ls1_1i, ls1_1r, ls1_1l, ls1_s, ls2_z, ls2_1n, ls2_1i, ls2_1r, ls2_1l, ls2_s, List.length_cons, List.length_nil, Nat.reduceAdd, Nat.reduceLT, Nat.reduceLeDiff, Nat.reduceDiv, Nat.reduceMod, Int.reduceToNat, Int.reduceAdd, Nat.zero_add, true_and, Option.toList_some, Option.toList_none, List.cons_append, List.nil_append, true_or, or_true, and_true, false_or, or_false, Int.reduceEq, Int.reduceLT, Int.reduceLE, Int.reduceNeg, not_true_eq_false, not_false_eq_true, Bool.and_eq_true, Bool.or_eq_true, decide_eq_true_eq, ↓reduceIte, b2i_0, b2i_01, b2i_01c, Nat.add_left_cancel_iff, Nat.add_eq_left, Nat.left_eq_add, Nat.reduceEqDiff, false_and, and_false, Bool.false_eq_true, Bool.true_eq_false, ↓wr_iadd, ↓wr_isub, ↓wr_imul, wr_id, sm_c s1, sm_r20 s1, sm_a14 s1, c1, b1, Int.toNat_natCast]
      rw [cS]
      exact nx
  have st := loop 60 0 g24 rfl (by omega) FR_rf (fun j hj => by omega)
  clear loop fin a24
  simp (maxSteps := 2000000) (disch := omega) only [↓wb_const, ↓wb_lconst, ↓wb_null, ↓wb_iload, ↓wb_lload, ↓wb_aload, ↓wb_istore, ↓wb_lstore, ↓wb_astore, ↓wb_iinc, ↓wb_iand, ↓wb_ior, ↓wb_ishr, ↓wb_idiv, ↓wb_irem, ↓wb_ladd, ↓wb_lsub, ↓wb_land, ↓wb_lor, ↓wb_lxor, ↓wb_lneg, ↓wb_lushr, ↓wb_lshl, ↓wb_l2i, ↓wb_lcmp, ↓wb_dupI, ↓wb_dupR, ↓wb_dup2, ↓wb_popI, ↓wb_popR, ↓wb_getI, ↓wb_getL, ↓wb_getR, ↓wb_putI, ↓wb_putZ, ↓wb_putL, ↓wb_putR, ↓wb_iaload, ↓wb_laload, ↓wb_zaload, ↓wb_aaload, ↓wb_iastore, ↓wb_lastore, ↓wb_zastore, ↓wb_aastore, ↓wb_alen, ↓wb_newI, ↓wb_newL, ↓wb_newZ, ↓wb_newA, ↓wb_new, ↓wb_obj, ↓wb_sld, ↓wb_slen, ↓wb_goto, ↓wb_ifeq, ↓wb_iceq, ↓wb_ifne, ↓wb_icne, ↓wb_iflt, ↓wb_iclt, ↓wb_ifge, ↓wb_icge, ↓wb_ifgt, ↓wb_icgt, ↓wb_ifle, ↓wb_icle, ↓wb_ifnull, ↓wb_ifnonnull, ↓wb_ret, ↓wb_iret, ↓wb_lret, ↓wb_aret, ↓wb_zret, ↓wb_tsw0, ↓wb_tsw1, ↓wb_lsw0, ↓wb_lsw1, ↓wb_calls0, ↓wb_calls1, ↓wb_callv1, ↓wb_calls2, ↓wb_callv2, ↓wb_calls3, ↓wb_callv3, ↓wb_callv4, ↓wb_callv5, ↓wb_callv6, oB_some, ldI_z, ldI_s, ldL_z, ldL_s, ldR_z, ldR_s, ls1_z, ls1_1n, ls1_1i, ls1_1r, ls1_1l, ls1_s, ls2_z, ls2_1n, ls2_1i, ls2_1r, ls2_1l, ls2_s, List.length_cons, List.length_nil, Nat.reduceAdd, Nat.reduceLT, Nat.reduceLeDiff, Nat.reduceDiv, Nat.reduceMod, Int.reduceToNat, Int.reduceAdd, Nat.zero_add, true_and, Option.toList_some, Option.toList_none, List.cons_append, List.nil_append, true_or, or_true, and_true, false_or, or_false, Int.reduceEq, Int.reduceLT, Int.reduceLE, Int.reduceNeg, not_true_eq_false, not_false_eq_true, Bool.and_eq_true, Bool.or_eq_true, decide_eq_true_eq, ↓reduceIte, b2i_0, b2i_01, b2i_01c, Nat.add_left_cancel_iff, Nat.add_eq_left, Nat.left_eq_add, Nat.reduceEqDiff, false_and, and_false, Bool.false_eq_true, Bool.true_eq_false, ↓wr_iadd, ↓wr_isub, ↓wr_imul, wr_id]
  exact st
