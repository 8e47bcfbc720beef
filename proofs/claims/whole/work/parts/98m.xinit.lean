/-! ===== the class: SliceLoom's shape and constructor ===== -/
def SLX (x : Nat) (h : Hp) : Prop := hT h x = (15, 8) ∧ hT h (x + 1) = (4, 16) ∧ hT h (x + 2) = (1, 8) ∧ hT h (x + 3) = (1, 60) ∧ (hR h x 0 = x + 1 ∧ hR h x 1 = x + 2 ∧ hR h x 2 = x + 3 ∧ hR h x 3 = x + 4 ∧ hR h x 4 = x + 14) ∧ SK (x + 4) h ∧ SK (x + 14) h
theorem sx_c {x : Nat} {h : Hp} (s : SLX x h) : isO h x 5 = true := isO_of s.1
theorem sx_r0 {x : Nat} {h : Hp} (s : SLX x h) : hR h x 0 = x + 1 := s.2.2.2.2.1.1
theorem sx_r1 {x : Nat} {h : Hp} (s : SLX x h) : hR h x 1 = x + 2 := s.2.2.2.2.1.2.1
theorem sx_r2 {x : Nat} {h : Hp} (s : SLX x h) : hR h x 2 = x + 3 := s.2.2.2.2.1.2.2.1
theorem sx_r3 {x : Nat} {h : Hp} (s : SLX x h) : hR h x 3 = x + 4 := s.2.2.2.2.1.2.2.2.1
theorem sx_r4 {x : Nat} {h : Hp} (s : SLX x h) : hR h x 4 = x + 14 := s.2.2.2.2.1.2.2.2.2
theorem sx_a1 {x : Nat} {h : Hp} (s : SLX x h) {i : Int} : inA h (x + 1) 4 i = (decide (0 ≤ i) && decide (i < 16)) := inA_of s.2.1
theorem sx_a2 {x : Nat} {h : Hp} (s : SLX x h) {i : Int} : inA h (x + 2) 1 i = (decide (0 ≤ i) && decide (i < 8)) := inA_of s.2.2.1
theorem sx_a3 {x : Nat} {h : Hp} (s : SLX x h) {i : Int} : inA h (x + 3) 1 i = (decide (0 ≤ i) && decide (i < 60)) := inA_of s.2.2.2.1
theorem sx_k1 {x : Nat} {h : Hp} (s : SLX x h) : SK (x + 4) h := s.2.2.2.2.2.1
theorem sx_k2 {x : Nat} {h : Hp} (s : SLX x h) : SK (x + 14) h := s.2.2.2.2.2.2
theorem sx_t2 {x : Nat} {h : Hp} (s : SLX x h) : hT h (x + 2) = (1, 8) := s.2.2.1
theorem sx_t3 {x : Nat} {h : Hp} (s : SLX x h) : hT h (x + 3) = (1, 60) := s.2.2.2.1
theorem SLX_same {x : Nat} {h h1 : Hp} (eT : hT h1 = hT h) (eR : hR h1 = hR h) : SLX x h1 = SLX x h := by unfold SLX; rw [eT, eR, SK_same eT eR, SK_same eT eR]
/-- a Machine as it is made -/
def KI (k : Nat) (h : Hp) : Prop := SK k h ∧ hI h k 6 = -1 ∧ hI h k 7 = 0 ∧ hI h k 9 = 0 ∧ hI h k 12 = 0 ∧ hI h (k + 4) 5 = 0 ∧ (∀ j, hI h (k + 1) j = 0) ∧ ∀ j, hI h (k + 2) j = 0
theorem SK_below {k : Nat} {h h2 : Hp} (e : ∀ y, k ≤ y → y < k + 10 → hT h2 y = hT h y ∧ hR h2 y = hR h y) (s : SK k h) : SK k h2 := by
  unfold SK
  rw [(e k (by omega) (by omega)).1, (e (k + 1) (by omega) (by omega)).1, (e (k + 2) (by omega) (by omega)).1, (e (k + 3) (by omega) (by omega)).1, (e (k + 4) (by omega) (by omega)).1, (e (k + 5) (by omega) (by omega)).1, (e (k + 6) (by omega) (by omega)).1, (e (k + 7) (by omega) (by omega)).1, (e (k + 8) (by omega) (by omega)).1, (e (k + 9) (by omega) (by omega)).1, (e k (by omega) (by omega)).2, (e (k + 4) (by omega) (by omega)).2]
  exact s
theorem KI_below {k : Nat} {h h2 : Hp} (e : ∀ y, k ≤ y → y < k + 10 → hT h2 y = hT h y ∧ hR h2 y = hR h y ∧ hI h2 y = hI h y) (s : KI k h) : KI k h2 := by
  unfold KI
  rw [(e k (by omega) (by omega)).2.2, (e (k + 1) (by omega) (by omega)).2.2, (e (k + 2) (by omega) (by omega)).2.2, (e (k + 4) (by omega) (by omega)).2.2]
  exact ⟨SK_below (fun y a b => ⟨(e y a b).1, (e y a b).2.1⟩) s.1, s.2⟩
theorem km_ki {sc : Scr} {k : Nat} {h : Hp} {Q : Option AV → Hp → Prop} (hn : hN h = k + 1) (ht : hT h k = (11, 13)) (hz : ∀ j, hI h k j = 0) (hzl : ∀ j, hL h k j = 0) (x2 : 2 ≤ k) (hQ : ∀ h2, EX k (k + 10) 2346 h h2 → KI k h2 → Q none h2) : WC sc 22 [aR k] h Q := by
  refine km_init hn ht hz hzl x2 (fun h2 e t0 t1 t2 t3 t4 t5 t6 t7 t8 t9 r0 r1 r2 r3 s0 s1 s2 s3 s4 i6 i7 i9 i12 i5 z1 z2 => ?_)
  exact hQ h2 e ⟨⟨t0, t1, t2, t3, t4, t5, t6, t7, t8, t9, r0, r1, r2, r3, s0, s1, s2, s3, s4⟩, i6, i7, i9, i12, i5, z1, z2⟩
/-- a SliceLoom as it is made -/
def NX (x : Nat) (h0 h : Hp) : Prop := EX x (x + 24) 4802 h0 h ∧ SLX x h ∧ KI (x + 4) h ∧ hI h x 5 = 0 ∧ hI h x 6 = -1 ∧ hL h x 7 = 0 ∧ (∀ j, hI h (x + 2) j = 0) ∧ ∀ j, j < 60 → hI h (x + 3) j = -1
theorem xx_init {sc : Scr} {x : Nat} {h : Hp} {Q : Option AV → Hp → Prop} (hn : hN h = x + 1) (ht : hT h x = (15, 8)) (hz : ∀ j, hI h x j = 0) (hzl : ∀ j, hL h x j = 0) (x2 : 2 ≤ x) (hQ : ∀ h2, NX x h h2 → Q none h2) : WC sc 74 [aR x] h Q := by
  rw [wc_74, bl_74_0]
  refine st_ob x2 ?_
  refine st_n4 (isO_of (n := 8) ht) (by omega) x2 (by decide) (by decide) (fun g1 n1 => ?_)
  obtain ⟨N1, S1, T1, I1, L1, R1⟩ := n1
  rw [hn] at N1 T1 I1 L1 R1
  simp only [Int.reduceToNat, Nat.reduceMod] at S1 T1 R1
  refine st_n1 (isO_of (n := 8) (by rw [T1, if_neg (by omega)]; exact ht)) (by omega) x2 (by decide) (by decide) (fun g2 n2 => ?_)
  obtain ⟨N2, S2, T2, I2, L2, R2⟩ := n2
  rw [N1] at N2 T2 I2 L2 R2
  simp only [Int.reduceToNat, Nat.reduceMod] at S2 T2 R2
  refine st_n1 (isO_of (n := 8) (by rw [T2, if_neg (by omega), T1, if_neg (by omega)]; exact ht)) (by omega) x2 (by decide) (by decide) (fun g3 n3 => ?_)
  obtain ⟨N3, S3, T3, I3, L3', R3⟩ := n3
  rw [N2] at N3 T3 I3 L3' R3
  simp only [Int.reduceToNat, Nat.reduceMod] at S3 T3 R3
  have tx3 : hT g3 x = (15, 8) := by rw [T3, if_neg (by omega), T2, if_neg (by omega), T1, if_neg (by omega)]; exact ht
  have t31 : hT g3 (x + 1) = (4, 16) := by rw [T3, if_neg (by omega), T2, if_neg (by omega), T1, if_pos rfl]
  have t32 : hT g3 (x + 2) = (1, 8) := by rw [T3, if_neg (by omega), T2, if_pos rfl]
  have t33 : hT g3 (x + 3) = (1, 60) := by rw [T3, if_pos rfl]
  have r30 : hR g3 x 0 = x + 1 := by rw [R3, if_neg (by omega), if_neg (by omega), R2, if_neg (by omega), if_neg (by omega), R1, if_pos ⟨rfl, rfl⟩]
  have r31 : hR g3 x 1 = x + 2 := by rw [R3, if_neg (by omega), if_neg (by omega), R2, if_pos ⟨rfl, rfl⟩]
  have r32 : hR g3 x 2 = x + 3 := by rw [R3, if_pos ⟨rfl, rfl⟩]
  have ix3 : ∀ j, hI g3 x j = 0 := fun j => by rw [I3, if_neg (by omega), I2, if_neg (by omega), I1, if_neg (by omega)]; exact hz j
  have lx3 : ∀ j, hL g3 x j = 0 := fun j => by rw [L3', if_neg (by omega), L2, if_neg (by omega), L1, if_neg (by omega)]; exact hzl j
  have i32 : ∀ j, hI g3 (x + 2) j = 0 := fun j => by rw [I3, if_neg (by omega), I2, if_pos rfl]
  have y3 : ∀ y, y < x → hT g3 y = hT h y ∧ hI g3 y = hI h y ∧ hL g3 y = hL h y ∧ hR g3 y = hR h y := fun y hy => ⟨by rw [T3, if_neg (by omega), T2, if_neg (by omega), T1, if_neg (by omega)], funext fun j => by rw [I3, if_neg (by omega), I2, if_neg (by omega), I1, if_neg (by omega)], funext fun j => by rw [L3', if_neg (by omega), L2, if_neg (by omega), L1, if_neg (by omega)], funext fun j => by rw [R3, if_neg (by omega), if_neg (by omega), R2, if_neg (by omega), if_neg (by omega), R1, if_neg (by omega), if_neg (by omega)]⟩
  have s3 : hS g3 = hS h + 84 := by omega
  clear T1 T2 T3 I1 I2 I3 L1 L2 L3' R1 R2 R3 S1 S2 S3 N1 N2
  have hN3 : hN g3 = x + 4 := N3
  -- the first Machine
  refine st_o rfl (by omega) (fun h1 nb => ?_)
  rw [hN3]
  obtain ⟨m1, m2, m3, m4, m5, m6⟩ := nb
  rw [hN3] at m1 m3 m4 m5 m6
  simp only [Int.reduceToNat] at m2
  refine km_ki m1 (by rw [m3, if_pos rfl]; rfl) (fun j => by rw [m4, if_pos rfl]) (fun j => by rw [m5, if_pos rfl]) (by omega) (fun h2 e ki => ?_)
  obtain ⟨e1, e2, e3⟩ := e
  have lo : ∀ y, y < x + 4 → hT h2 y = hT g3 y ∧ hI h2 y = hI g3 y ∧ hL h2 y = hL g3 y ∧ hR h2 y = hR g3 y := fun y hy => by
    obtain ⟨c1, c2, c3, c4⟩ := e3 y (by omega)
    exact ⟨by rw [c1, m3, if_neg (by omega)], funext fun j => by rw [c2, m4, if_neg (by omega)], funext fun j => by rw [c3, m5, if_neg (by omega)], funext fun j => by rw [c4, m6, if_neg (by omega)]⟩
  refine ⟨rfl, isO_of (n := 8) (by rw [(lo x (by omega)).1]; exact tx3), ?_⟩
  show WB sc 74 _ _ _ (setR h2 x 3 (x + 4)) Q
  have lo4 : ∀ y, y < x + 4 → hT (setR h2 x 3 (x + 4)) y = hT g3 y ∧ hI (setR h2 x 3 (x + 4)) y = hI g3 y ∧ hL (setR h2 x 3 (x + 4)) y = hL g3 y ∧ ∀ j, ¬ (y = x ∧ j = 3) → hR (setR h2 x 3 (x + 4)) y j = hR g3 y j := fun y hy => by
    obtain ⟨c1, c2, c3, c4⟩ := lo y hy
    exact ⟨by rw [hT_setR, c1], by rw [hI_setR, c2], by rw [hL_setR, c3], fun j nj => by rw [hR_setR, if_neg nj, c4]⟩
  have r43 : hR (setR h2 x 3 (x + 4)) x 3 = x + 4 := by rw [hR_setR, if_pos ⟨rfl, rfl⟩]
  have ki4 : KI (x + 4) (setR h2 x 3 (x + 4)) := KI_below (fun y a b => ⟨by rw [hT_setR], funext fun j => by rw [hR_setR, if_neg (by omega)], by rw [hI_setR]⟩) ki
  have N4 : hN (setR h2 x 3 (x + 4)) = x + 14 := by rw [hN_setR]; exact e1
  have S4 : hS (setR h2 x 3 (x + 4)) = hS h + 84 + 2359 := by rw [hS_setR]; omega
  generalize setR h2 x 3 (x + 4) = g4 at *
  clear lo e1 e2 e3 m1 m2 m3 m4 m5 m6 ki
  -- the second
  refine st_o rfl (by omega) (fun h3 nb => ?_)
  rw [N4]
  obtain ⟨m1, m2, m3, m4, m5, m6⟩ := nb
  rw [N4] at m1 m3 m4 m5 m6
  simp only [Int.reduceToNat] at m2
  refine km_ki m1 (by rw [m3, if_pos rfl]; rfl) (fun j => by rw [m4, if_pos rfl]) (fun j => by rw [m5, if_pos rfl]) (by omega) (fun h4 e ki => ?_)
  obtain ⟨e1, e2, e3⟩ := e
  have lo : ∀ y, y < x + 14 → hT h4 y = hT g4 y ∧ hI h4 y = hI g4 y ∧ hL h4 y = hL g4 y ∧ hR h4 y = hR g4 y := fun y hy => by
    obtain ⟨c1, c2, c3, c4⟩ := e3 y (by omega)
    exact ⟨by rw [c1, m3, if_neg (by omega)], funext fun j => by rw [c2, m4, if_neg (by omega)], funext fun j => by rw [c3, m5, if_neg (by omega)], funext fun j => by rw [c4, m6, if_neg (by omega)]⟩
  have ox : isO h4 x 5 = true := isO_of (n := 8) (by rw [(lo x (by omega)).1, (lo4 x (by omega)).1]; exact tx3)
  refine ⟨rfl, ox, ?_⟩
  show WB sc 74 _ _ _ (setR h4 x 4 (x + 14)) Q
  refine st_i (by rw [isO_setR]; exact ox) ?_
  show WB sc 74 _ _ _ (setI (setR h4 x 4 (x + 14)) x 6 (-1)) Q
  have lo5 : ∀ y, y < x + 14 → hT (setI (setR h4 x 4 (x + 14)) x 6 (-1)) y = hT g4 y ∧ (∀ j, ¬ (y = x ∧ j = 6) → hI (setI (setR h4 x 4 (x + 14)) x 6 (-1)) y j = hI g4 y j) ∧ hL (setI (setR h4 x 4 (x + 14)) x 6 (-1)) y = hL g4 y ∧ ∀ j, ¬ (y = x ∧ j = 4) → hR (setI (setR h4 x 4 (x + 14)) x 6 (-1)) y j = hR g4 y j := fun y hy => by
    obtain ⟨c1, c2, c3, c4⟩ := lo y hy
    exact ⟨by rw [hT_setI, hT_setR, c1], fun j nj => by rw [hI_setI, if_neg nj, hI_setR, c2], by rw [hL_setI, hL_setR, c3], fun j nj => by rw [hR_setI, hR_setR, if_neg nj, c4]⟩
  have r54 : hR (setI (setR h4 x 4 (x + 14)) x 6 (-1)) x 4 = x + 14 := by rw [hR_setI, hR_setR, if_pos ⟨rfl, rfl⟩]
  have i56 : hI (setI (setR h4 x 4 (x + 14)) x 6 (-1)) x 6 = -1 := hI_eq
  have ki5 : KI (x + 14) (setI (setR h4 x 4 (x + 14)) x 6 (-1)) := KI_below (fun y a b => ⟨by rw [hT_setI, hT_setR], funext fun j => by rw [hR_setI, hR_setR, if_neg (by omega)], funext fun j => by rw [hI_ne (by omega), hI_setR]⟩) ki
  have N5 : hN (setI (setR h4 x 4 (x + 14)) x 6 (-1)) = x + 24 := by rw [hN_setI, hN_setR]; exact e1
  have S5 : hS (setI (setR h4 x 4 (x + 14)) x 6 (-1)) = hS h + 4802 := by rw [hS_setI, hS_setR]; omega
  generalize setI (setR h4 x 4 (x + 14)) x 6 (-1) = g5 at *
  clear lo e1 e2 e3 m1 m2 m3 m4 m5 m6 ki ox
  have ki45 : KI (x + 4) g5 := KI_below (fun y a b => ⟨(lo5 y (by omega)).1, funext fun j => (lo5 y (by omega)).2.2.2 j (by omega), funext fun j => (lo5 y (by omega)).2.1 j (by omega)⟩) ki4
  have sx5 : SLX x g5 := by
    refine ⟨?_, ?_, ?_, ?_, ⟨?_, ?_, ?_, ?_, r54⟩, ki45.1, ki5.1⟩
    · rw [(lo5 x (by omega)).1, (lo4 x (by omega)).1]; exact tx3
    · rw [(lo5 (x + 1) (by omega)).1, (lo4 (x + 1) (by omega)).1]; exact t31
    · rw [(lo5 (x + 2) (by omega)).1, (lo4 (x + 2) (by omega)).1]; exact t32
    · rw [(lo5 (x + 3) (by omega)).1, (lo4 (x + 3) (by omega)).1]; exact t33
    · rw [(lo5 x (by omega)).2.2.2 _ (by omega), (lo4 x (by omega)).2.2.2 _ (by omega)]; exact r30
    · rw [(lo5 x (by omega)).2.2.2 _ (by omega), (lo4 x (by omega)).2.2.2 _ (by omega)]; exact r31
    · rw [(lo5 x (by omega)).2.2.2 _ (by omega), (lo4 x (by omega)).2.2.2 _ (by omega)]; exact r32
    · rw [(lo5 x (by omega)).2.2.2 _ (by omega)]; exact r43
  rw [wb_aload, ldR_z, oB_some]
  simp (maxSteps := 2000000) (disch := omega) only [↓wb_const, ↓wb_lconst, ↓wb_null, ↓wb_iload, ↓wb_lload, ↓wb_aload, ↓wb_istore, ↓wb_lstore, ↓wb_astore, ↓wb_iinc, ↓wb_iand, ↓wb_ior, ↓wb_ishr, ↓wb_idiv, ↓wb_irem, ↓wb_ladd, ↓wb_lsub, ↓wb_land, ↓wb_lor, ↓wb_lxor, ↓wb_lneg, ↓wb_lushr, ↓wb_lshl, ↓wb_l2i, ↓wb_lcmp, ↓wb_dupI, ↓wb_dupR, ↓wb_dup2, ↓wb_popI, ↓wb_popR, ↓wb_getI, ↓wb_getL, ↓wb_getR, ↓wb_putI, ↓wb_putZ, ↓wb_putL, ↓wb_putR, ↓wb_iaload, ↓wb_laload, ↓wb_zaload, ↓wb_aaload, ↓wb_iastore, ↓wb_lastore, ↓wb_zastore, ↓wb_aastore, ↓wb_alen, ↓wb_newI, ↓wb_newL, ↓wb_newZ, ↓wb_newA, ↓wb_new, ↓wb_obj, ↓wb_sld, ↓wb_slen, ↓wb_goto, ↓wb_ifeq, ↓wb_iceq, ↓wb_ifne, ↓wb_icne, ↓wb_iflt, ↓wb_iclt, ↓wb_ifge, ↓wb_icge, ↓wb_ifgt, ↓wb_icgt, ↓wb_ifle, ↓wb_icle, ↓wb_ifnull, ↓wb_ifnonnull, ↓wb_ret, ↓wb_iret, ↓wb_lret, ↓wb_aret, ↓wb_zret, ↓wb_tsw0, ↓wb_tsw1, ↓wb_lsw0, ↓wb_lsw1, ↓wb_calls0, ↓wb_calls1, ↓wb_callv1, ↓wb_calls2, ↓wb_callv2, ↓wb_calls3, ↓wb_callv3, ↓wb_callv4, ↓wb_callv5, ↓wb_callv6, oB_some, ldI_z, ldI_s, ldL_z, ldL_s, ldR_z, ldR_s, ls1_z, ls1_1n, ls1_1i, ls1_1r, ls1_1l, ls1_s, ls2_z, ls2_1n, ls2_1i, ls2_1r, ls2_1l, ls2_s, List.length_cons, List.length_nil, Nat.reduceAdd, Nat.reduceLT, Nat.reduceLeDiff, Nat.reduceDiv, Nat.reduceMod, Int.reduceToNat, Int.reduceAdd, Nat.zero_add, true_and, Option.toList_some, Option.toList_none, List.cons_append, List.nil_append, true_or, or_true, and_true, false_or, or_false, Int.reduceEq, Int.reduceLT, Int.reduceLE, Int.reduceNeg, not_true_eq_false, not_false_eq_true, Bool.and_eq_true, Bool.or_eq_true, decide_eq_true_eq, ↓reduceIte, b2i_0, b2i_01, b2i_01c, Nat.add_left_cancel_iff, Nat.add_eq_left, Nat.left_eq_add, Nat.reduceEqDiff, false_and, and_false, Bool.false_eq_true, Bool.true_eq_false, ↓wr_iadd, ↓wr_isub, ↓wr_imul, wr_id, sx_c sx5, sx_r2 sx5, sx_a3 sx5]
  refine cc_fillI (sx_t3 sx5) (by omega) (fun h6 fr6 _ row6 => ?_)
  simp (maxSteps := 2000000) (disch := omega) only [↓wb_const, ↓wb_lconst, ↓wb_null, ↓wb_iload, ↓wb_lload, ↓wb_aload, ↓wb_istore, ↓wb_lstore, ↓wb_astore, ↓wb_iinc, ↓wb_iand, ↓wb_ior, ↓wb_ishr, ↓wb_idiv, ↓wb_irem, ↓wb_ladd, ↓wb_lsub, ↓wb_land, ↓wb_lor, ↓wb_lxor, ↓wb_lneg, ↓wb_lushr, ↓wb_lshl, ↓wb_l2i, ↓wb_lcmp, ↓wb_dupI, ↓wb_dupR, ↓wb_dup2, ↓wb_popI, ↓wb_popR, ↓wb_getI, ↓wb_getL, ↓wb_getR, ↓wb_putI, ↓wb_putZ, ↓wb_putL, ↓wb_putR, ↓wb_iaload, ↓wb_laload, ↓wb_zaload, ↓wb_aaload, ↓wb_iastore, ↓wb_lastore, ↓wb_zastore, ↓wb_aastore, ↓wb_alen, ↓wb_newI, ↓wb_newL, ↓wb_newZ, ↓wb_newA, ↓wb_new, ↓wb_obj, ↓wb_sld, ↓wb_slen, ↓wb_goto, ↓wb_ifeq, ↓wb_iceq, ↓wb_ifne, ↓wb_icne, ↓wb_iflt, ↓wb_iclt, ↓wb_ifge, ↓wb_icge, ↓wb_ifgt, ↓wb_icgt, ↓wb_ifle, ↓wb_icle, ↓wb_ifnull, ↓wb_ifnonnull, ↓wb_ret, ↓wb_iret, ↓wb_lret, ↓wb_aret, ↓wb_zret, ↓wb_tsw0, ↓wb_tsw1, ↓wb_lsw0, ↓wb_lsw1, ↓wb_calls0, ↓wb_calls1, ↓wb_callv1, ↓wb_calls2, ↓wb_callv2, ↓wb_calls3, ↓wb_callv3, ↓wb_callv4, ↓wb_callv5, ↓wb_callv6, oB_some, ldI_z, ldI_s, ldL_z, ldL_s, ldR_z, ldR_s, ls1_z, ls1_1n, ls1_1i, ls1_1r, ls1_1l, ls1_s, ls2_z, ls2_1n, ls2_1i, ls2_1r, ls2_1l, ls2_s, List.length_cons, List.length_nil, Nat.reduceAdd, Nat.reduceLT, Nat.reduceLeDiff, Nat.reduceDiv, Nat.reduceMod, Int.reduceToNat, Int.reduceAdd, Nat.zero_add, true_and, Option.toList_some, Option.toList_none, List.cons_append, List.nil_append, true_or, or_true, and_true, false_or, or_false, Int.reduceEq, Int.reduceLT, Int.reduceLE, Int.reduceNeg, not_true_eq_false, not_false_eq_true, Bool.and_eq_true, Bool.or_eq_true, decide_eq_true_eq, ↓reduceIte, b2i_0, b2i_01, b2i_01c, Nat.add_left_cancel_iff, Nat.add_eq_left, Nat.left_eq_add, Nat.reduceEqDiff, false_and, and_false, Bool.false_eq_true, Bool.true_eq_false, ↓wr_iadd, ↓wr_isub, ↓wr_imul, wr_id]
  refine hQ h6 ⟨⟨?_, ?_, fun y hy => ?_⟩, ?_, ?_, ?_, ?_, ?_, fun j => ?_, fun j hj => ?_⟩
  · unfold hN; rw [fr6.1]; exact N5
  · unfold hS; rw [fr6.1]; exact S5
  · obtain ⟨c1, c2, c3, c4⟩ := y3 y hy
    obtain ⟨d1, d2, d3, d4⟩ := lo4 y (by omega)
    obtain ⟨f1, f2, f3, f4⟩ := lo5 y (by omega)
    refine ⟨by rw [fr6.2.1, f1, d1, c1], ?_, ?_, ?_⟩
    · rw [(fr6.2.2.2 y (by omega)).1]; funext j; rw [f2 j (by omega), d2, c2]
    · rw [(fr6.2.2.2 y (by omega)).2, f3, d3, c3]
    · rw [fr6.2.2.1]; funext j; rw [f4 j (by omega), d4 j (by omega), c4]
  · rw [SLX_same fr6.2.1 fr6.2.2.1]; exact sx5
  · exact KI_below (fun y a b => ⟨by rw [fr6.2.1], by rw [fr6.2.2.1], (fr6.2.2.2 y (by omega)).1⟩) ki45
  · rw [FR_i fr6 (by omega), (lo5 x (by omega)).2.1 _ (by omega), (lo4 x (by omega)).2.1]; exact ix3 5
  · rw [FR_i fr6 (by omega)]; exact i56
  · rw [FR_l fr6 (by omega), (lo5 x (by omega)).2.2.1, (lo4 x (by omega)).2.2.1]; exact lx3 7
  · rw [FR_i fr6 (by omega), (lo5 (x + 2) (by omega)).2.1 _ (by omega), (lo4 (x + 2) (by omega)).2.1]; exact i32 j
  · rw [row6, if_pos hj]
