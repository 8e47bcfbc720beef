/-! ===== one call on both sides: trace, traced ===== -/
theorem Tr_cg {S S2 : Nat → Nat → Prop} {i : Nat} (hl : ∀ k j, S k j → j < k) (h : ∀ j, j ≤ i → ∀ m, S j m ↔ S2 j m) (hl2 : ∀ j, j ≤ i → ∀ m, S2 j m → m < j) {m : Nat} : Tr S i m ↔ Tr S2 i m := by
  have fwd : ∀ (a m : Nat), TrN S i a m → m ≤ i ∧ TrN S2 i a m := by
    intro a
    induction a with
    | zero => intro m z; exact ⟨Nat.le_of_eq z, z⟩
    | succ a ih =>
      rintro m ⟨k, z1, z2⟩
      obtain ⟨b1, b2⟩ := ih k z1
      have := hl k m z2
      exact ⟨by omega, k, b2, (h k b1 m).mp z2⟩
  have bwd : ∀ (a m : Nat), TrN S2 i a m → m ≤ i ∧ TrN S i a m := by
    intro a
    induction a with
    | zero => intro m z; exact ⟨Nat.le_of_eq z, z⟩
    | succ a ih =>
      rintro m ⟨k, z1, z2⟩
      obtain ⟨b1, b2⟩ := ih k z1
      have := hl2 k b1 m z2
      exact ⟨by omega, k, b2, (h k b1 m).mpr z2⟩
  constructor
  · rintro ⟨a, z⟩; exact ⟨a, (fwd a m z).2⟩
  · rintro ⟨a, z⟩; exact ⟨a, (bwd a m z).2⟩
theorem Sim_mark {x o pb : Nat} {h h2 : Hp} (fr : FR (x + 11) (x + 11) h h2) (s : Sim x o pb h) : Sim x o pb h2 := by
  obtain ⟨sa, ss, sb, sh, sr⟩ := s
  obtain ⟨g1, g2, g3⟩ := sa.2.2.1
  have saf : SAF x o pb h h2 := ⟨fr.1, fr.2.1, fr.2.2.1, ⟨FR_i fr (by omega), FR_i fr (by omega)⟩, fun y a b => (fr.2.2.2 y (by omega)).1, fun y a b => (fr.2.2.2 y (by omega)).1, fun g n p c => CI_FR fr (by omega) c, fun v => by rw [FR_i fr (by omega)]; exact sa.2.2.2.2.1 v, fun v => by rw [FR_i fr (by omega)]; exact sa.2.2.2.2.2.1 v, fun v => by rw [FR_i fr (by omega)]; exact sa.2.2.2.2.2.2 v⟩
  refine ⟨SA_F saf sa, ?_, ?_, ?_, ?_⟩
  · intro j hj; rw [FR_i fr (by omega), FR_i fr (by omega)]; exact ss j hj
  · intro j hj; rw [FR_i fr (by omega), FR_i fr (by omega)]; exact sb j hj
  · intro p; rw [FR_l fr (by omega), FR_i fr (by omega)]; exact sh p
  · exact SRn_F fr.2.1 fr.2.2.1 (fun j _ => FR_i fr (by omega)) (FR_i fr (by omega)) (fun y a b => (fr.2.2.2 y (by omega)).1) (fun y a b _ => (fr.2.2.2 y (by omega)).1) sr (vw_eq (FR_i fr (by omega)) (FR_i fr (by omega)) (fun y a b => (fr.2.2.2 y (by omega)).1))
theorem SrR_lt {K X E : Int → Int} {R RP S H : Nat → Int} {k j : Nat} (h : SrR K X E R RP S H k j) : j < k := by
  rcases h with ⟨_, _, _, z⟩ | ⟨_, z⟩
  · exact z.1
  · exact z.1
/-- the class's marks are the reference's traces -/
theorem xc_mark {sc : Scr} {x o pb : Nat} {h : Hp} {Q : Option AV → Hp → Prop} {i : Int} (sim : Sim x o pb h) (yes : ∀ n h1 h2, 0 ≤ i → i < hI h o 14 → A5 o h (hI h o 7) n → CQ pb h h1 → FR (x + 11) (x + 11) h1 h2 → (∀ m, m < (hI h o 14).toNat → hI h2 (x + 11) m = pI (Tr (SrcO o h (hI h o 7) n) i.toNat m)) → (∀ j, j < (hI h o 14).toNat → 0 ≤ hI h (o + 9) j ∧ hI h (o + 9) j < 60) → Q (some (aI 1)) h2) (no : ¬ (0 ≤ i ∧ i < hI h o 14) → Q (some (aI 0)) h) : WC sc 109 [aR x, aI i] h Q := by
  obtain ⟨sa, ss, sb, sh, sr⟩ := sim
  have sim : Sim x o pb h := ⟨sa, ss, sb, sh, sr⟩
  have sx := sa.1
  have sk := sx_k1 sx
  obtain ⟨g1, g2, g3⟩ := sa.2.2.1
  obtain ⟨⟨z0, z4⟩, ez⟩ := SRn_sz sr
  obtain ⟨sr1, ks, rs, -⟩ := sr
  have ps := fun (Q : Option AV → Hp → Prop) => sc_isStep (sc := sc) (Q := Q) (i := i) sk
  rw [ez] at ps
  rw [wc_109]
  by_cases ci : 0 ≤ i ∧ i < hI h o 14
  · rw [decide_eq_true ci] at ps
    obtain ⟨n, a5, hst⟩ := rs.2 (show 0 < hI h o 14 by omega)
    have a5 : A5 o h (hI h o 7) n := a5
    have hst : ∀ j : Nat, (j : Int) < hI h o 14 → stm (mK o h (hI h o 7)) n (hI h (o + 9) j) = true := hst
    have x6 : hI h x 6 = hI h o 7 := by
      rcases sr1 with ⟨-, -, z, -⟩ | ⟨-, z, -⟩
      · omega
      · exact z
    generalize hrp : hI h o 7 = rp at *
    obtain ⟨gn, rfl⟩ : ∃ gn : Nat, rp = gn := ⟨rp.toNat, by have := a5.1.1; omega⟩
    simp (maxSteps := 2000000) (disch := omega) only [↓wb_const, ↓wb_lconst, ↓wb_null, ↓wb_iload, ↓wb_lload, ↓wb_aload, ↓wb_istore, ↓wb_lstore, ↓wb_astore, ↓wb_iinc, ↓wb_iand, ↓wb_ior, ↓wb_ishr, ↓wb_idiv, ↓wb_irem, ↓wb_ladd, ↓wb_lsub, ↓wb_land, ↓wb_lor, ↓wb_lxor, ↓wb_lneg, ↓wb_lushr, ↓wb_lshl, ↓wb_l2i, ↓wb_lcmp, ↓wb_dupI, ↓wb_dupR, ↓wb_dup2, ↓wb_popI, ↓wb_popR, ↓wb_getI, ↓wb_getL, ↓wb_getR, ↓wb_putI, ↓wb_putZ, ↓wb_putL, ↓wb_putR, ↓wb_iaload, ↓wb_laload, ↓wb_zaload, ↓wb_aaload, ↓wb_iastore, ↓wb_lastore, ↓wb_zastore, ↓wb_aastore, ↓wb_alen, ↓wb_newI, ↓wb_newL, ↓wb_newZ, ↓wb_newA, ↓wb_new, ↓wb_obj, ↓wb_sld, ↓wb_slen, ↓wb_goto, ↓wb_ifeq, ↓wb_iceq, ↓wb_ifne, ↓wb_icne, ↓wb_iflt, ↓wb_iclt, ↓wb_ifge, ↓wb_icge, ↓wb_ifgt, ↓wb_icgt, ↓wb_ifle, ↓wb_icle, ↓wb_ifnull, ↓wb_ifnonnull, ↓wb_ret, ↓wb_iret, ↓wb_lret, ↓wb_aret, ↓wb_zret, ↓wb_tsw0, ↓wb_tsw1, ↓wb_lsw0, ↓wb_lsw1, ↓wb_calls0, ↓wb_calls1, ↓wb_callv1, ↓wb_calls2, ↓wb_callv2, ↓wb_calls3, ↓wb_callv3, ↓wb_callv4, ↓wb_callv5, ↓wb_callv6, oB_some, ldI_z, ldI_s, ldL_z, ldL_s, ldR_z, ldR_s, ls1_z, ls1_1n, ls1_1i, ls1_1r, ls1_1l, ls1_s, ls2_z, ls2_1n, ls2_1i, ls2_1r, ls2_1l, ls2_s, List.length_cons, List.length_nil, Nat.reduceAdd, Nat.reduceLT, Nat.reduceLeDiff, Nat.reduceDiv, Nat.reduceMod, Int.reduceToNat, Int.reduceAdd, Nat.zero_add, true_and, Option.toList_some, Option.toList_none, List.cons_append, List.nil_append, true_or, or_true, and_true, false_or, or_false, Int.reduceEq, Int.reduceLT, Int.reduceLE, Int.reduceNeg, not_true_eq_false, not_false_eq_true, Bool.and_eq_true, Bool.or_eq_true, decide_eq_true_eq, ↓reduceIte, b2i_0, b2i_01, b2i_01c, Nat.add_left_cancel_iff, Nat.add_eq_left, Nat.left_eq_add, Nat.reduceEqDiff, false_and, and_false, Bool.false_eq_true, Bool.true_eq_false, ↓wr_iadd, ↓wr_isub, ↓wr_imul, wr_id, ↓wl_109_0, sx_c sx, sx_r3 sx, sk_c sk, sk_r3 sk, sk_c4 sk, x6]
    refine xc_wAt sa (fun m a5b gp hwc => ?_) (fun na => absurd a5 (na n))
    have em := (A5_u a5.1.1 gp a5).symm
    subst em
    rw [Int.toNat_natCast] at gp hwc ⊢
    clear a5b
    have n60 := gp.2.2.1.2.2.1
    have sp := gp.2.2.1.1
    have n0 : (pb + 20 * gn = 0) = False := by simp; omega
    simp (maxSteps := 2000000) (disch := omega) only [↓wb_const, ↓wb_lconst, ↓wb_null, ↓wb_iload, ↓wb_lload, ↓wb_aload, ↓wb_istore, ↓wb_lstore, ↓wb_astore, ↓wb_iinc, ↓wb_iand, ↓wb_ior, ↓wb_ishr, ↓wb_idiv, ↓wb_irem, ↓wb_ladd, ↓wb_lsub, ↓wb_land, ↓wb_lor, ↓wb_lxor, ↓wb_lneg, ↓wb_lushr, ↓wb_lshl, ↓wb_l2i, ↓wb_lcmp, ↓wb_dupI, ↓wb_dupR, ↓wb_dup2, ↓wb_popI, ↓wb_popR, ↓wb_getI, ↓wb_getL, ↓wb_getR, ↓wb_putI, ↓wb_putZ, ↓wb_putL, ↓wb_putR, ↓wb_iaload, ↓wb_laload, ↓wb_zaload, ↓wb_aaload, ↓wb_iastore, ↓wb_lastore, ↓wb_zastore, ↓wb_aastore, ↓wb_alen, ↓wb_newI, ↓wb_newL, ↓wb_newZ, ↓wb_newA, ↓wb_new, ↓wb_obj, ↓wb_sld, ↓wb_slen, ↓wb_goto, ↓wb_ifeq, ↓wb_iceq, ↓wb_ifne, ↓wb_icne, ↓wb_iflt, ↓wb_iclt, ↓wb_ifge, ↓wb_icge, ↓wb_ifgt, ↓wb_icgt, ↓wb_ifle, ↓wb_icle, ↓wb_ifnull, ↓wb_ifnonnull, ↓wb_ret, ↓wb_iret, ↓wb_lret, ↓wb_aret, ↓wb_zret, ↓wb_tsw0, ↓wb_tsw1, ↓wb_lsw0, ↓wb_lsw1, ↓wb_calls0, ↓wb_calls1, ↓wb_callv1, ↓wb_calls2, ↓wb_callv2, ↓wb_calls3, ↓wb_callv3, ↓wb_callv4, ↓wb_callv5, ↓wb_callv6, oB_some, ldI_z, ldI_s, ldL_z, ldL_s, ldR_z, ldR_s, ls1_z, ls1_1n, ls1_1i, ls1_1r, ls1_1l, ls1_s, ls2_z, ls2_1n, ls2_1i, ls2_1r, ls2_1l, ls2_s, List.length_cons, List.length_nil, Nat.reduceAdd, Nat.reduceLT, Nat.reduceLeDiff, Nat.reduceDiv, Nat.reduceMod, Int.reduceToNat, Int.reduceAdd, Nat.zero_add, true_and, Option.toList_some, Option.toList_none, List.cons_append, List.nil_append, true_or, or_true, and_true, false_or, or_false, Int.reduceEq, Int.reduceLT, Int.reduceLE, Int.reduceNeg, not_true_eq_false, not_false_eq_true, Bool.and_eq_true, Bool.or_eq_true, decide_eq_true_eq, ↓reduceIte, b2i_0, b2i_01, b2i_01c, Nat.add_left_cancel_iff, Nat.add_eq_left, Nat.left_eq_add, Nat.reduceEqDiff, false_and, and_false, Bool.false_eq_true, Bool.true_eq_false, ↓wr_iadd, ↓wr_isub, ↓wr_imul, wr_id, ↓wl_109_15, sx_c sx, sx_r3 sx, sk_c sk, sk_r3 sk, sk_c4 sk, sp_c sp, sp_r11 sp, sp_c16 sp, sp_h1 sp, sp_a18 sp, n0, ↓ps, b2i_t, Int.reduceEq]
    refine pc_upH gp.2.2.1 hwc gp.2.2.2.1 (fun h1 fr1 ho ci1 => ?_)
    have cq := CQ_one fr1 gp.2.2.1 ci1
    have sp1 := FR_sp fr1 sp
    have sk1 := FR_sk fr1 sk
    have hm := (HO_m (x := x) (o := o) (pb := pb) (g := (gn : Int)) (by omega) (by rw [Int.toNat_natCast]; exact gp) (by rw [Int.toNat_natCast]; exact fr1) (by rw [Int.toNat_natCast]; exact ho)).1
    rw [Int.toNat_natCast] at hm
    have lo1 : ∀ y, y < pb → hI h1 y = hI h y := fun y hy => (fr1.2.2.2 y (by omega)).1
    obtain ⟨zn, hzn⟩ : ∃ zn : Nat, hI h o 14 = zn := ⟨(hI h o 14).toNat, by omega⟩
    have hz1 : hI h1 (x + 4 + 4) 5 = zn := by rw [lo1 _ (by omega), ez]; exact hzn
    have hR1 : ∀ j, j < zn → hI h1 (x + 4 + 5) j = hI h (o + 9) j := fun j hj => by
      rw [lo1 _ (by omega)]
      exact ks.2.2.2.2.1 j (by show j < (hI h o 14).toNat; omega)
    have hrec : ∀ j, j < zn → 0 ≤ hI h (o + 9) j ∧ hI h (o + 9) j < m := fun j hj => by
      have := (stm_n (hst j (by omega))).1
      exact this
    have hsr : ∀ j, j < zn → ∀ q : Nat, (∃ t, t < 3 ∧ hI h1 (x + 4 + 6) (3 * j + t) = (q : Int)) ↔ SrR (mK o h gn) (mX o h gn) (mE o h gn) (hI h (o + 9)) (hI h (o + 10)) (hI h (o + 11)) (hI h (o + 12)) j q := fun j hj q => by
      rw [lo1 _ (by omega)]
      exact ks.2.2.2.2.2 j (by show j < (hI h o 14).toNat; omega) q
    obtain ⟨inn, rfl⟩ : ∃ inn : Nat, i = inn := ⟨i.toNat, by omega⟩
    simp (maxSteps := 2000000) (disch := omega) only [↓wb_const, ↓wb_lconst, ↓wb_null, ↓wb_iload, ↓wb_lload, ↓wb_aload, ↓wb_istore, ↓wb_lstore, ↓wb_astore, ↓wb_iinc, ↓wb_iand, ↓wb_ior, ↓wb_ishr, ↓wb_idiv, ↓wb_irem, ↓wb_ladd, ↓wb_lsub, ↓wb_land, ↓wb_lor, ↓wb_lxor, ↓wb_lneg, ↓wb_lushr, ↓wb_lshl, ↓wb_l2i, ↓wb_lcmp, ↓wb_dupI, ↓wb_dupR, ↓wb_dup2, ↓wb_popI, ↓wb_popR, ↓wb_getI, ↓wb_getL, ↓wb_getR, ↓wb_putI, ↓wb_putZ, ↓wb_putL, ↓wb_putR, ↓wb_iaload, ↓wb_laload, ↓wb_zaload, ↓wb_aaload, ↓wb_iastore, ↓wb_lastore, ↓wb_zastore, ↓wb_aastore, ↓wb_alen, ↓wb_newI, ↓wb_newL, ↓wb_newZ, ↓wb_newA, ↓wb_new, ↓wb_obj, ↓wb_sld, ↓wb_slen, ↓wb_goto, ↓wb_ifeq, ↓wb_iceq, ↓wb_ifne, ↓wb_icne, ↓wb_iflt, ↓wb_iclt, ↓wb_ifge, ↓wb_icge, ↓wb_ifgt, ↓wb_icgt, ↓wb_ifle, ↓wb_icle, ↓wb_ifnull, ↓wb_ifnonnull, ↓wb_ret, ↓wb_iret, ↓wb_lret, ↓wb_aret, ↓wb_zret, ↓wb_tsw0, ↓wb_tsw1, ↓wb_lsw0, ↓wb_lsw1, ↓wb_calls0, ↓wb_calls1, ↓wb_callv1, ↓wb_calls2, ↓wb_callv2, ↓wb_calls3, ↓wb_callv3, ↓wb_callv4, ↓wb_callv5, ↓wb_callv6, oB_some, ldI_z, ldI_s, ldL_z, ldL_s, ldR_z, ldR_s, ls1_z, ls1_1n, ls1_1i, ls1_1r, ls1_1l, ls1_s, ls2_z, ls2_1n, ls2_1i, ls2_1r, ls2_1l, ls2_s, List.length_cons, List.length_nil, Nat.reduceAdd, Nat.reduceLT, Nat.reduceLeDiff, Nat.reduceDiv, Nat.reduceMod, Int.reduceToNat, Int.reduceAdd, Nat.zero_add, true_and, Option.toList_some, Option.toList_none, List.cons_append, List.nil_append, true_or, or_true, and_true, false_or, or_false, Int.reduceEq, Int.reduceLT, Int.reduceLE, Int.reduceNeg, not_true_eq_false, not_false_eq_true, Bool.and_eq_true, Bool.or_eq_true, decide_eq_true_eq, ↓reduceIte, b2i_0, b2i_01, b2i_01c, Nat.add_left_cancel_iff, Nat.add_eq_left, Nat.left_eq_add, Nat.reduceEqDiff, false_and, and_false, Bool.false_eq_true, Bool.true_eq_false, ↓wr_iadd, ↓wr_isub, ↓wr_imul, wr_id, sx_c sx, sx_r3 sx, sk_c sk1, sk_r3 sk1, sk_c4 sk1, sp_c sp1, sp_r11 sp1, sp_c16 sp1, sp_h1 sp1, sp_a18 sp1]
    refine sc_markFrom (c := pb + 20 * gn) (z := zn) sp1 sk1 (by omega) hz1 (by omega) (by omega) (fun j hj => by rw [hR1 j hj]; have := hrec j hj; omega) (fun j t hj ht => ?_) (fun h2 fr2 mk => ?_)
    · by_cases neg : hI h1 (x + 4 + 6) (3 * j + t) < 0
      · omega
      · have e : hI h1 (x + 4 + 6) (3 * j + t) = ((hI h1 (x + 4 + 6) (3 * j + t)).toNat : Int) := by omega
        have := SrR_lt ((hsr j hj _).mp ⟨t, ht, e⟩)
        omega
    · have tr : ∀ q, q < zn → (Tr (SrcC (x + 4) (pb + 20 * gn) h1) inn q ↔ Tr (SrcO o h gn m) inn q) := by
        intro q hq
        have src : ∀ j, j ≤ inn → ∀ q : Nat, SrcO o h gn m j q ↔ SrcC (x + 4) (pb + 20 * gn) h1 j q := by
          intro j hj q
          have hjz : j < zn := by omega
          unfold SrcC SrcO Src
          rw [hsr j hjz q]
          have third : lt1 (fun a => DC (mK o h gn) (mX o h gn) m (hI h (o + 9) j) (hI h (o + 9) a)) j q ↔ lt1 (fun a => (hL h1 (pb + 20 * gn + 18) (hI h1 (x + 4 + 5) j).toNat).getLsbD (hI h1 (x + 4 + 5) a).toNat = true) j q := lt1_cg (fun a ha => by
            rw [hR1 j hjz, hR1 a (by omega)]
            have r1 := hrec j hjz
            have r2 := hrec a (by omega)
            rw [(hm (hI h (o + 9) j).toNat (by omega) (hI h (o + 9) a).toNat).2, show (((hI h (o + 9) j).toNat : Nat) : Int) = hI h (o + 9) j by omega, show (((hI h (o + 9) a).toNat : Nat) : Int) = hI h (o + 9) a by omega]
            exact ⟨fun z => ⟨by omega, z⟩, fun z => z.2⟩)
          unfold SrR
          constructor
          · rintro (z | z | z)
            · exact Or.inl (Or.inl z)
            · exact Or.inl (Or.inr z)
            · exact Or.inr (third.mp z)
          · rintro ((z | z) | z)
            · exact Or.inl z
            · exact Or.inr (Or.inl z)
            · exact Or.inr (Or.inr (third.mpr z))
        exact (Tr_cg (fun k j z => Src_lt z) src (fun j hj a z => Src_lt ((src j hj a).mpr z))).symm
      have fin := yes m h1 h2 (by omega) ci.2 a5 cq fr2 (fun q hq => by rw [mk q (by omega), Int.toNat_natCast]; exact pI_cg (tr q (by omega))) (fun j hj => by have := hrec j (by omega); omega)
      simp (maxSteps := 2000000) (disch := omega) only [↓wb_const, ↓wb_lconst, ↓wb_null, ↓wb_iload, ↓wb_lload, ↓wb_aload, ↓wb_istore, ↓wb_lstore, ↓wb_astore, ↓wb_iinc, ↓wb_iand, ↓wb_ior, ↓wb_ishr, ↓wb_idiv, ↓wb_irem, ↓wb_ladd, ↓wb_lsub, ↓wb_land, ↓wb_lor, ↓wb_lxor, ↓wb_lneg, ↓wb_lushr, ↓wb_lshl, ↓wb_l2i, ↓wb_lcmp, ↓wb_dupI, ↓wb_dupR, ↓wb_dup2, ↓wb_popI, ↓wb_popR, ↓wb_getI, ↓wb_getL, ↓wb_getR, ↓wb_putI, ↓wb_putZ, ↓wb_putL, ↓wb_putR, ↓wb_iaload, ↓wb_laload, ↓wb_zaload, ↓wb_aaload, ↓wb_iastore, ↓wb_lastore, ↓wb_zastore, ↓wb_aastore, ↓wb_alen, ↓wb_newI, ↓wb_newL, ↓wb_newZ, ↓wb_newA, ↓wb_new, ↓wb_obj, ↓wb_sld, ↓wb_slen, ↓wb_goto, ↓wb_ifeq, ↓wb_iceq, ↓wb_ifne, ↓wb_icne, ↓wb_iflt, ↓wb_iclt, ↓wb_ifge, ↓wb_icge, ↓wb_ifgt, ↓wb_icgt, ↓wb_ifle, ↓wb_icle, ↓wb_ifnull, ↓wb_ifnonnull, ↓wb_ret, ↓wb_iret, ↓wb_lret, ↓wb_aret, ↓wb_zret, ↓wb_tsw0, ↓wb_tsw1, ↓wb_lsw0, ↓wb_lsw1, ↓wb_calls0, ↓wb_calls1, ↓wb_callv1, ↓wb_calls2, ↓wb_callv2, ↓wb_calls3, ↓wb_callv3, ↓wb_callv4, ↓wb_callv5, ↓wb_callv6, oB_some, ldI_z, ldI_s, ldL_z, ldL_s, ldR_z, ldR_s, ls1_z, ls1_1n, ls1_1i, ls1_1r, ls1_1l, ls1_s, ls2_z, ls2_1n, ls2_1i, ls2_1r, ls2_1l, ls2_s, List.length_cons, List.length_nil, Nat.reduceAdd, Nat.reduceLT, Nat.reduceLeDiff, Nat.reduceDiv, Nat.reduceMod, Int.reduceToNat, Int.reduceAdd, Nat.zero_add, true_and, Option.toList_some, Option.toList_none, List.cons_append, List.nil_append, true_or, or_true, and_true, false_or, or_false, Int.reduceEq, Int.reduceLT, Int.reduceLE, Int.reduceNeg, not_true_eq_false, not_false_eq_true, Bool.and_eq_true, Bool.or_eq_true, decide_eq_true_eq, ↓reduceIte, b2i_0, b2i_01, b2i_01c, Nat.add_left_cancel_iff, Nat.add_eq_left, Nat.left_eq_add, Nat.reduceEqDiff, false_and, and_false, Bool.false_eq_true, Bool.true_eq_false, ↓wr_iadd, ↓wr_isub, ↓wr_imul, wr_id]
      exact fin
  · rw [decide_eq_false ci] at ps
    have fin := no ci
    simp (maxSteps := 2000000) (disch := omega) only [↓wb_const, ↓wb_lconst, ↓wb_null, ↓wb_iload, ↓wb_lload, ↓wb_aload, ↓wb_istore, ↓wb_lstore, ↓wb_astore, ↓wb_iinc, ↓wb_iand, ↓wb_ior, ↓wb_ishr, ↓wb_idiv, ↓wb_irem, ↓wb_ladd, ↓wb_lsub, ↓wb_land, ↓wb_lor, ↓wb_lxor, ↓wb_lneg, ↓wb_lushr, ↓wb_lshl, ↓wb_l2i, ↓wb_lcmp, ↓wb_dupI, ↓wb_dupR, ↓wb_dup2, ↓wb_popI, ↓wb_popR, ↓wb_getI, ↓wb_getL, ↓wb_getR, ↓wb_putI, ↓wb_putZ, ↓wb_putL, ↓wb_putR, ↓wb_iaload, ↓wb_laload, ↓wb_zaload, ↓wb_aaload, ↓wb_iastore, ↓wb_lastore, ↓wb_zastore, ↓wb_aastore, ↓wb_alen, ↓wb_newI, ↓wb_newL, ↓wb_newZ, ↓wb_newA, ↓wb_new, ↓wb_obj, ↓wb_sld, ↓wb_slen, ↓wb_goto, ↓wb_ifeq, ↓wb_iceq, ↓wb_ifne, ↓wb_icne, ↓wb_iflt, ↓wb_iclt, ↓wb_ifge, ↓wb_icge, ↓wb_ifgt, ↓wb_icgt, ↓wb_ifle, ↓wb_icle, ↓wb_ifnull, ↓wb_ifnonnull, ↓wb_ret, ↓wb_iret, ↓wb_lret, ↓wb_aret, ↓wb_zret, ↓wb_tsw0, ↓wb_tsw1, ↓wb_lsw0, ↓wb_lsw1, ↓wb_calls0, ↓wb_calls1, ↓wb_callv1, ↓wb_calls2, ↓wb_callv2, ↓wb_calls3, ↓wb_callv3, ↓wb_callv4, ↓wb_callv5, ↓wb_callv6, oB_some, ldI_z, ldI_s, ldL_z, ldL_s, ldR_z, ldR_s, ls1_z, ls1_1n, ls1_1i, ls1_1r, ls1_1l, ls1_s, ls2_z, ls2_1n, ls2_1i, ls2_1r, ls2_1l, ls2_s, List.length_cons, List.length_nil, Nat.reduceAdd, Nat.reduceLT, Nat.reduceLeDiff, Nat.reduceDiv, Nat.reduceMod, Int.reduceToNat, Int.reduceAdd, Nat.zero_add, true_and, Option.toList_some, Option.toList_none, List.cons_append, List.nil_append, true_or, or_true, and_true, false_or, or_false, Int.reduceEq, Int.reduceLT, Int.reduceLE, Int.reduceNeg, not_true_eq_false, not_false_eq_true, Bool.and_eq_true, Bool.or_eq_true, decide_eq_true_eq, ↓reduceIte, b2i_0, b2i_01, b2i_01c, Nat.add_left_cancel_iff, Nat.add_eq_left, Nat.left_eq_add, Nat.reduceEqDiff, false_and, and_false, Bool.false_eq_true, Bool.true_eq_false, ↓wr_iadd, ↓wr_isub, ↓wr_imul, wr_id, ↓wl_109_0, sx_c sx, sx_r3 sx, sk_c sk, sk_r3 sk, sk_c4 sk]
    refine xc_wAt sa (fun m a5b gp hwc => ?_) (fun na => ?_)
    · have n0 : (pb + 20 * (hI h x 6).toNat = 0) = False := by simp; omega
      simp (maxSteps := 2000000) (disch := omega) only [↓wb_const, ↓wb_lconst, ↓wb_null, ↓wb_iload, ↓wb_lload, ↓wb_aload, ↓wb_istore, ↓wb_lstore, ↓wb_astore, ↓wb_iinc, ↓wb_iand, ↓wb_ior, ↓wb_ishr, ↓wb_idiv, ↓wb_irem, ↓wb_ladd, ↓wb_lsub, ↓wb_land, ↓wb_lor, ↓wb_lxor, ↓wb_lneg, ↓wb_lushr, ↓wb_lshl, ↓wb_l2i, ↓wb_lcmp, ↓wb_dupI, ↓wb_dupR, ↓wb_dup2, ↓wb_popI, ↓wb_popR, ↓wb_getI, ↓wb_getL, ↓wb_getR, ↓wb_putI, ↓wb_putZ, ↓wb_putL, ↓wb_putR, ↓wb_iaload, ↓wb_laload, ↓wb_zaload, ↓wb_aaload, ↓wb_iastore, ↓wb_lastore, ↓wb_zastore, ↓wb_aastore, ↓wb_alen, ↓wb_newI, ↓wb_newL, ↓wb_newZ, ↓wb_newA, ↓wb_new, ↓wb_obj, ↓wb_sld, ↓wb_slen, ↓wb_goto, ↓wb_ifeq, ↓wb_iceq, ↓wb_ifne, ↓wb_icne, ↓wb_iflt, ↓wb_iclt, ↓wb_ifge, ↓wb_icge, ↓wb_ifgt, ↓wb_icgt, ↓wb_ifle, ↓wb_icle, ↓wb_ifnull, ↓wb_ifnonnull, ↓wb_ret, ↓wb_iret, ↓wb_lret, ↓wb_aret, ↓wb_zret, ↓wb_tsw0, ↓wb_tsw1, ↓wb_lsw0, ↓wb_lsw1, ↓wb_calls0, ↓wb_calls1, ↓wb_callv1, ↓wb_calls2, ↓wb_callv2, ↓wb_calls3, ↓wb_callv3, ↓wb_callv4, ↓wb_callv5, ↓wb_callv6, oB_some, ldI_z, ldI_s, ldL_z, ldL_s, ldR_z, ldR_s, ls1_z, ls1_1n, ls1_1i, ls1_1r, ls1_1l, ls1_s, ls2_z, ls2_1n, ls2_1i, ls2_1r, ls2_1l, ls2_s, List.length_cons, List.length_nil, Nat.reduceAdd, Nat.reduceLT, Nat.reduceLeDiff, Nat.reduceDiv, Nat.reduceMod, Int.reduceToNat, Int.reduceAdd, Nat.zero_add, true_and, Option.toList_some, Option.toList_none, List.cons_append, List.nil_append, true_or, or_true, and_true, false_or, or_false, Int.reduceEq, Int.reduceLT, Int.reduceLE, Int.reduceNeg, not_true_eq_false, not_false_eq_true, Bool.and_eq_true, Bool.or_eq_true, decide_eq_true_eq, ↓reduceIte, b2i_0, b2i_01, b2i_01c, Nat.add_left_cancel_iff, Nat.add_eq_left, Nat.left_eq_add, Nat.reduceEqDiff, false_and, and_false, Bool.false_eq_true, Bool.true_eq_false, ↓wr_iadd, ↓wr_isub, ↓wr_imul, wr_id, ↓wl_109_13, sx_c sx, sx_r3 sx, sk_c sk, sk_r3 sk, sk_c4 sk, n0, ↓ps, b2i_f]
      exact fin
    · simp (maxSteps := 2000000) (disch := omega) only [↓wb_const, ↓wb_lconst, ↓wb_null, ↓wb_iload, ↓wb_lload, ↓wb_aload, ↓wb_istore, ↓wb_lstore, ↓wb_astore, ↓wb_iinc, ↓wb_iand, ↓wb_ior, ↓wb_ishr, ↓wb_idiv, ↓wb_irem, ↓wb_ladd, ↓wb_lsub, ↓wb_land, ↓wb_lor, ↓wb_lxor, ↓wb_lneg, ↓wb_lushr, ↓wb_lshl, ↓wb_l2i, ↓wb_lcmp, ↓wb_dupI, ↓wb_dupR, ↓wb_dup2, ↓wb_popI, ↓wb_popR, ↓wb_getI, ↓wb_getL, ↓wb_getR, ↓wb_putI, ↓wb_putZ, ↓wb_putL, ↓wb_putR, ↓wb_iaload, ↓wb_laload, ↓wb_zaload, ↓wb_aaload, ↓wb_iastore, ↓wb_lastore, ↓wb_zastore, ↓wb_aastore, ↓wb_alen, ↓wb_newI, ↓wb_newL, ↓wb_newZ, ↓wb_newA, ↓wb_new, ↓wb_obj, ↓wb_sld, ↓wb_slen, ↓wb_goto, ↓wb_ifeq, ↓wb_iceq, ↓wb_ifne, ↓wb_icne, ↓wb_iflt, ↓wb_iclt, ↓wb_ifge, ↓wb_icge, ↓wb_ifgt, ↓wb_icgt, ↓wb_ifle, ↓wb_icle, ↓wb_ifnull, ↓wb_ifnonnull, ↓wb_ret, ↓wb_iret, ↓wb_lret, ↓wb_aret, ↓wb_zret, ↓wb_tsw0, ↓wb_tsw1, ↓wb_lsw0, ↓wb_lsw1, ↓wb_calls0, ↓wb_calls1, ↓wb_callv1, ↓wb_calls2, ↓wb_callv2, ↓wb_calls3, ↓wb_callv3, ↓wb_callv4, ↓wb_callv5, ↓wb_callv6, oB_some, ldI_z, ldI_s, ldL_z, ldL_s, ldR_z, ldR_s, ls1_z, ls1_1n, ls1_1i, ls1_1r, ls1_1l, ls1_s, ls2_z, ls2_1n, ls2_1i, ls2_1r, ls2_1l, ls2_s, List.length_cons, List.length_nil, Nat.reduceAdd, Nat.reduceLT, Nat.reduceLeDiff, Nat.reduceDiv, Nat.reduceMod, Int.reduceToNat, Int.reduceAdd, Nat.zero_add, true_and, Option.toList_some, Option.toList_none, List.cons_append, List.nil_append, true_or, or_true, and_true, false_or, or_false, Int.reduceEq, Int.reduceLT, Int.reduceLE, Int.reduceNeg, not_true_eq_false, not_false_eq_true, Bool.and_eq_true, Bool.or_eq_true, decide_eq_true_eq, ↓reduceIte, b2i_0, b2i_01, b2i_01c, Nat.add_left_cancel_iff, Nat.add_eq_left, Nat.left_eq_add, Nat.reduceEqDiff, false_and, and_false, Bool.false_eq_true, Bool.true_eq_false, ↓wr_iadd, ↓wr_isub, ↓wr_imul, wr_id, ↓wl_109_13]
      exact fin
theorem cmd_trace {sc : Scr} {x o pb : Nat} {h : Hp} (sim : Sim x o pb h) (i : Int) : CMD sc 98 171 [aI i] x o pb h := by
  have sa := sim.1
  have sx := sa.1
  obtain ⟨g1, g2, g3⟩ := sa.2.2.1
  have rs := sim.2.2.2.2.2.2.1
  unfold CMD
  rw [wc_98]
  simp (maxSteps := 2000000) (disch := omega) only [↓wb_const, ↓wb_lconst, ↓wb_null, ↓wb_iload, ↓wb_lload, ↓wb_aload, ↓wb_istore, ↓wb_lstore, ↓wb_astore, ↓wb_iinc, ↓wb_iand, ↓wb_ior, ↓wb_ishr, ↓wb_idiv, ↓wb_irem, ↓wb_ladd, ↓wb_lsub, ↓wb_land, ↓wb_lor, ↓wb_lxor, ↓wb_lneg, ↓wb_lushr, ↓wb_lshl, ↓wb_l2i, ↓wb_lcmp, ↓wb_dupI, ↓wb_dupR, ↓wb_dup2, ↓wb_popI, ↓wb_popR, ↓wb_getI, ↓wb_getL, ↓wb_getR, ↓wb_putI, ↓wb_putZ, ↓wb_putL, ↓wb_putR, ↓wb_iaload, ↓wb_laload, ↓wb_zaload, ↓wb_aaload, ↓wb_iastore, ↓wb_lastore, ↓wb_zastore, ↓wb_aastore, ↓wb_alen, ↓wb_newI, ↓wb_newL, ↓wb_newZ, ↓wb_newA, ↓wb_new, ↓wb_obj, ↓wb_sld, ↓wb_slen, ↓wb_goto, ↓wb_ifeq, ↓wb_iceq, ↓wb_ifne, ↓wb_icne, ↓wb_iflt, ↓wb_iclt, ↓wb_ifge, ↓wb_icge, ↓wb_ifgt, ↓wb_icgt, ↓wb_ifle, ↓wb_icle, ↓wb_ifnull, ↓wb_ifnonnull, ↓wb_ret, ↓wb_iret, ↓wb_lret, ↓wb_aret, ↓wb_zret, ↓wb_tsw0, ↓wb_tsw1, ↓wb_lsw0, ↓wb_lsw1, ↓wb_calls0, ↓wb_calls1, ↓wb_callv1, ↓wb_calls2, ↓wb_callv2, ↓wb_calls3, ↓wb_callv3, ↓wb_callv4, ↓wb_callv5, ↓wb_callv6, oB_some, ldI_z, ldI_s, ldL_z, ldL_s, ldR_z, ldR_s, ls1_z, ls1_1n, ls1_1i, ls1_1r, ls1_1l, ls1_s, ls2_z, ls2_1n, ls2_1i, ls2_1r, ls2_1l, ls2_s, List.length_cons, List.length_nil, Nat.reduceAdd, Nat.reduceLT, Nat.reduceLeDiff, Nat.reduceDiv, Nat.reduceMod, Int.reduceToNat, Int.reduceAdd, Nat.zero_add, true_and, Option.toList_some, Option.toList_none, List.cons_append, List.nil_append, true_or, or_true, and_true, false_or, or_false, Int.reduceEq, Int.reduceLT, Int.reduceLE, Int.reduceNeg, not_true_eq_false, not_false_eq_true, Bool.and_eq_true, Bool.or_eq_true, decide_eq_true_eq, ↓reduceIte, b2i_0, b2i_01, b2i_01c, Nat.add_left_cancel_iff, Nat.add_eq_left, Nat.left_eq_add, Nat.reduceEqDiff, false_and, and_false, Bool.false_eq_true, Bool.true_eq_false, ↓wr_iadd, ↓wr_isub, ↓wr_imul, wr_id, ↓wl_98_0, sx_c sx, sx_r3 sx]
  refine xc_mark sim (fun n h1 h2 i0 i1 a5 cq fr mk rec => ?_) (fun ni => ?_)
  · have sim2 := Sim_mark fr (Sim_CQ cq sim)
    have sa2 := sim2.1
    have sx2 := sa2.1
    have sk2 := sx_k1 sx2
    obtain ⟨⟨z0, z4⟩, ez⟩ := SRn_sz sim2.2.2.2.2
    have ro : ∀ y, o ≤ y → y ≤ o + 24 → hI h2 y = hI h y := fun y a b => by rw [(fr.2.2.2 y (by omega)).1, (cq.2.2.2.1 y (by omega)).1]
    have e14 : hI h2 o 14 = hI h o 14 := by rw [ro o (by omega) (by omega)]
    have hR2 : ∀ j, j < (hI h o 14).toNat → hI h2 (x + 4 + 5) j = hI h (o + 9) j := fun j hj => by
      have := sim2.2.2.2.2.2.1.2.2.2.2.1 j (by show j < (hI h2 o 14).toNat; rw [e14]; exact hj)
      rw [this]
      show hI h2 (o + 9) j = _
      rw [ro (o + 9) (by omega) (by omega)]
    rw [e14] at ez z0 z4
    simp (maxSteps := 2000000) (disch := omega) only [↓wb_const, ↓wb_lconst, ↓wb_null, ↓wb_iload, ↓wb_lload, ↓wb_aload, ↓wb_istore, ↓wb_lstore, ↓wb_astore, ↓wb_iinc, ↓wb_iand, ↓wb_ior, ↓wb_ishr, ↓wb_idiv, ↓wb_irem, ↓wb_ladd, ↓wb_lsub, ↓wb_land, ↓wb_lor, ↓wb_lxor, ↓wb_lneg, ↓wb_lushr, ↓wb_lshl, ↓wb_l2i, ↓wb_lcmp, ↓wb_dupI, ↓wb_dupR, ↓wb_dup2, ↓wb_popI, ↓wb_popR, ↓wb_getI, ↓wb_getL, ↓wb_getR, ↓wb_putI, ↓wb_putZ, ↓wb_putL, ↓wb_putR, ↓wb_iaload, ↓wb_laload, ↓wb_zaload, ↓wb_aaload, ↓wb_iastore, ↓wb_lastore, ↓wb_zastore, ↓wb_aastore, ↓wb_alen, ↓wb_newI, ↓wb_newL, ↓wb_newZ, ↓wb_newA, ↓wb_new, ↓wb_obj, ↓wb_sld, ↓wb_slen, ↓wb_goto, ↓wb_ifeq, ↓wb_iceq, ↓wb_ifne, ↓wb_icne, ↓wb_iflt, ↓wb_iclt, ↓wb_ifge, ↓wb_icge, ↓wb_ifgt, ↓wb_icgt, ↓wb_ifle, ↓wb_icle, ↓wb_ifnull, ↓wb_ifnonnull, ↓wb_ret, ↓wb_iret, ↓wb_lret, ↓wb_aret, ↓wb_zret, ↓wb_tsw0, ↓wb_tsw1, ↓wb_lsw0, ↓wb_lsw1, ↓wb_calls0, ↓wb_calls1, ↓wb_callv1, ↓wb_calls2, ↓wb_callv2, ↓wb_calls3, ↓wb_callv3, ↓wb_callv4, ↓wb_callv5, ↓wb_callv6, oB_some, ldI_z, ldI_s, ldL_z, ldL_s, ldR_z, ldR_s, ls1_z, ls1_1n, ls1_1i, ls1_1r, ls1_1l, ls1_s, ls2_z, ls2_1n, ls2_1i, ls2_1r, ls2_1l, ls2_s, List.length_cons, List.length_nil, Nat.reduceAdd, Nat.reduceLT, Nat.reduceLeDiff, Nat.reduceDiv, Nat.reduceMod, Int.reduceToNat, Int.reduceAdd, Nat.zero_add, true_and, Option.toList_some, Option.toList_none, List.cons_append, List.nil_append, true_or, or_true, and_true, false_or, or_false, Int.reduceEq, Int.reduceLT, Int.reduceLE, Int.reduceNeg, not_true_eq_false, not_false_eq_true, Bool.and_eq_true, Bool.or_eq_true, decide_eq_true_eq, ↓reduceIte, b2i_0, b2i_01, b2i_01c, Nat.add_left_cancel_iff, Nat.add_eq_left, Nat.left_eq_add, Nat.reduceEqDiff, false_and, and_false, Bool.false_eq_true, Bool.true_eq_false, ↓wr_iadd, ↓wr_isub, ↓wr_imul, wr_id, ↓wl_98_6, sx_c sx2, sx_r3 sx2, sk_c sk2, sk_r3 sk2, sk_c4 sk2, Int.reduceEq]
    refine sc_markedStatements (z := (hI h o 14).toNat) sk2 (by rw [ez]; omega) (by omega) (fun j hj => by rw [hR2 j hj]; exact rec j hj) (fun w hw => ?_)
    have pt := fun (Q : Option AV → Hp → Prop) => xc_take (sc := sc) (Q := Q) (w := w) sx2
    simp (maxSteps := 2000000) (disch := omega) only [↓wb_const, ↓wb_lconst, ↓wb_null, ↓wb_iload, ↓wb_lload, ↓wb_aload, ↓wb_istore, ↓wb_lstore, ↓wb_astore, ↓wb_iinc, ↓wb_iand, ↓wb_ior, ↓wb_ishr, ↓wb_idiv, ↓wb_irem, ↓wb_ladd, ↓wb_lsub, ↓wb_land, ↓wb_lor, ↓wb_lxor, ↓wb_lneg, ↓wb_lushr, ↓wb_lshl, ↓wb_l2i, ↓wb_lcmp, ↓wb_dupI, ↓wb_dupR, ↓wb_dup2, ↓wb_popI, ↓wb_popR, ↓wb_getI, ↓wb_getL, ↓wb_getR, ↓wb_putI, ↓wb_putZ, ↓wb_putL, ↓wb_putR, ↓wb_iaload, ↓wb_laload, ↓wb_zaload, ↓wb_aaload, ↓wb_iastore, ↓wb_lastore, ↓wb_zastore, ↓wb_aastore, ↓wb_alen, ↓wb_newI, ↓wb_newL, ↓wb_newZ, ↓wb_newA, ↓wb_new, ↓wb_obj, ↓wb_sld, ↓wb_slen, ↓wb_goto, ↓wb_ifeq, ↓wb_iceq, ↓wb_ifne, ↓wb_icne, ↓wb_iflt, ↓wb_iclt, ↓wb_ifge, ↓wb_icge, ↓wb_ifgt, ↓wb_icgt, ↓wb_ifle, ↓wb_icle, ↓wb_ifnull, ↓wb_ifnonnull, ↓wb_ret, ↓wb_iret, ↓wb_lret, ↓wb_aret, ↓wb_zret, ↓wb_tsw0, ↓wb_tsw1, ↓wb_lsw0, ↓wb_lsw1, ↓wb_calls0, ↓wb_calls1, ↓wb_callv1, ↓wb_calls2, ↓wb_callv2, ↓wb_calls3, ↓wb_callv3, ↓wb_callv4, ↓wb_callv5, ↓wb_callv6, oB_some, ldI_z, ldI_s, ldL_z, ldL_s, ldR_z, ldR_s, ls1_z, ls1_1n, ls1_1i, ls1_1r, ls1_1l, ls1_s, ls2_z, ls2_1n, ls2_1i, ls2_1r, ls2_1l, ls2_s, List.length_cons, List.length_nil, Nat.reduceAdd, Nat.reduceLT, Nat.reduceLeDiff, Nat.reduceDiv, Nat.reduceMod, Int.reduceToNat, Int.reduceAdd, Nat.zero_add, true_and, Option.toList_some, Option.toList_none, List.cons_append, List.nil_append, true_or, or_true, and_true, false_or, or_false, Int.reduceEq, Int.reduceLT, Int.reduceLE, Int.reduceNeg, not_true_eq_false, not_false_eq_true, Bool.and_eq_true, Bool.or_eq_true, decide_eq_true_eq, ↓reduceIte, b2i_0, b2i_01, b2i_01c, Nat.add_left_cancel_iff, Nat.add_eq_left, Nat.left_eq_add, Nat.reduceEqDiff, false_and, and_false, Bool.false_eq_true, Bool.true_eq_false, ↓wr_iadd, ↓wr_isub, ↓wr_imul, wr_id, sx_c sx2, sx_r3 sx2, sk_c sk2, sk_r3 sk2, sk_c4 sk2, ↓pt]
    have slt : ∀ k j, SrcO o h (hI h o 7) n k j → j < k := fun k j z => Src_lt z
    have hw2 : ∀ p, w.getLsbD p = true ↔ p < 60 ∧ (fun p : Nat => ∃ j, Tr (SrcO o h (hI h o 7) n) i.toNat j ∧ hI h (o + 9) j = (p : Int)) p := fun p => by
      rw [hw p]
      constructor
      · rintro ⟨j, a, b, c⟩
        rw [hR2 j a] at c
        have := rec j a
        refine ⟨by omega, j, Classical.byContradiction fun z => b ?_, c⟩
        rw [show x + 4 + 7 = x + 11 by omega, mk j a, pI_f z]
      · rintro ⟨a, j, b, c⟩
        have jl := Tr_le slt b
        have jz : j < (hI h o 14).toNat := by omega
        refine ⟨j, jz, ?_, by rw [hR2 j jz]; exact c⟩
        rw [show x + 4 + 7 = x + 11 by omega, mk j jz, pI_t b]; decide
    have ro3 : ∀ y, o ≤ y → y ≤ o + 24 → hI (setL h2 x 7 w) y = hI h y := fun y a b => by rw [hI_setL]; exact ro y a b
    have t1 := Sim1_L (w := w) sim2
    have k := mK_rows (o := o) (fun y a b => ro3 y (by omega) (by omega)) (hI h o 7)
    have es : SrcO o (setL h2 x 7 w) (hI h o 7) = SrcO o h (hI h o 7) := by
      unfold SrcO
      rw [k.1, k.2.1, k.2.2]
      show (fun n => Src _ _ _ _ (hI (setL h2 x 7 w) (o + 9)) (hI (setL h2 x 7 w) (o + 10)) (hI (setL h2 x 7 w) (o + 11)) (hI (setL h2 x 7 w) (o + 12))) = fun n => Src _ _ _ _ (hI h (o + 9)) (hI h (o + 10)) (hI h (o + 11)) (hI h (o + 12))
      rw [ro3 (o + 9) (by omega) (by omega), ro3 (o + 10) (by omega) (by omega), ro3 (o + 11) (by omega) (by omega), ro3 (o + 12) (by omega) (by omega)]
    have f7 : hI (setL h2 x 7 w) o 7 = hI h o 7 := by rw [ro3 o (by omega) (by omega)]
    have f14 : hI (setL h2 x 7 w) o 14 = hI h o 14 := by rw [ro3 o (by omega) (by omega)]
    have f9 : hI (setL h2 x 7 w) (o + 9) = hI h (o + 9) := ro3 (o + 9) (by omega) (by omega)
    refine mc_trace (SA_rg t1.1) t1.2.2.2.2.2.1 (fun m h3 _ _ a5b fh b20 b13 rows => ?_) (fun ni => ?_)
    · have em : m = n := by
        have p := a5b.2.1.2.2.1
        have q := a5.2.1.2.2.1
        rw [f7] at p
        have p : hI (setL h2 x 7 w) (o + 1) (hI h o 7).toNat = m := p
        have q : hI h (o + 1) (hI h o 7).toNat = n := q
        rw [ro3 (o + 1) (by omega) (by omega)] at p
        omega
      subst em
      rw [f7, f9, es] at rows ⊢
      exact ⟨_, rfl, by rw [pcw_card hw2], Sim_hand sim2 fh b20 b13 hw2 rows⟩
    · rw [f14] at ni; exact absurd ⟨i0, i1⟩ ni
  · simp (maxSteps := 2000000) (disch := omega) only [↓wb_const, ↓wb_lconst, ↓wb_null, ↓wb_iload, ↓wb_lload, ↓wb_aload, ↓wb_istore, ↓wb_lstore, ↓wb_astore, ↓wb_iinc, ↓wb_iand, ↓wb_ior, ↓wb_ishr, ↓wb_idiv, ↓wb_irem, ↓wb_ladd, ↓wb_lsub, ↓wb_land, ↓wb_lor, ↓wb_lxor, ↓wb_lneg, ↓wb_lushr, ↓wb_lshl, ↓wb_l2i, ↓wb_lcmp, ↓wb_dupI, ↓wb_dupR, ↓wb_dup2, ↓wb_popI, ↓wb_popR, ↓wb_getI, ↓wb_getL, ↓wb_getR, ↓wb_putI, ↓wb_putZ, ↓wb_putL, ↓wb_putR, ↓wb_iaload, ↓wb_laload, ↓wb_zaload, ↓wb_aaload, ↓wb_iastore, ↓wb_lastore, ↓wb_zastore, ↓wb_aastore, ↓wb_alen, ↓wb_newI, ↓wb_newL, ↓wb_newZ, ↓wb_newA, ↓wb_new, ↓wb_obj, ↓wb_sld, ↓wb_slen, ↓wb_goto, ↓wb_ifeq, ↓wb_iceq, ↓wb_ifne, ↓wb_icne, ↓wb_iflt, ↓wb_iclt, ↓wb_ifge, ↓wb_icge, ↓wb_ifgt, ↓wb_icgt, ↓wb_ifle, ↓wb_icle, ↓wb_ifnull, ↓wb_ifnonnull, ↓wb_ret, ↓wb_iret, ↓wb_lret, ↓wb_aret, ↓wb_zret, ↓wb_tsw0, ↓wb_tsw1, ↓wb_lsw0, ↓wb_lsw1, ↓wb_calls0, ↓wb_calls1, ↓wb_callv1, ↓wb_calls2, ↓wb_callv2, ↓wb_calls3, ↓wb_callv3, ↓wb_callv4, ↓wb_callv5, ↓wb_callv6, oB_some, ldI_z, ldI_s, ldL_z, ldL_s, ldR_z, ldR_s, ls1_z, ls1_1n, ls1_1i, ls1_1r, ls1_1l, ls1_s, ls2_z, ls2_1n, ls2_1i, ls2_1r, ls2_1l, ls2_s, List.length_cons, List.length_nil, Nat.reduceAdd, Nat.reduceLT, Nat.reduceLeDiff, Nat.reduceDiv, Nat.reduceMod, Int.reduceToNat, Int.reduceAdd, Nat.zero_add, true_and, Option.toList_some, Option.toList_none, List.cons_append, List.nil_append, true_or, or_true, and_true, false_or, or_false, Int.reduceEq, Int.reduceLT, Int.reduceLE, Int.reduceNeg, not_true_eq_false, not_false_eq_true, Bool.and_eq_true, Bool.or_eq_true, decide_eq_true_eq, ↓reduceIte, b2i_0, b2i_01, b2i_01c, Nat.add_left_cancel_iff, Nat.add_eq_left, Nat.left_eq_add, Nat.reduceEqDiff, false_and, and_false, Bool.false_eq_true, Bool.true_eq_false, ↓wr_iadd, ↓wr_isub, ↓wr_imul, wr_id]
    refine mc_trace (SA_rg sa) rs (fun m h3 a b _ _ _ _ _ => absurd ⟨a, b⟩ ni) (fun _ => ⟨_, rfl, rfl, sim⟩)
theorem cmd_traced {sc : Scr} {x o pb : Nat} {h : Hp} (sim : Sim x o pb h) (i j : Int) : CMD sc 99 172 [aI i, aI j] x o pb h := by
  have sa := sim.1
  have sx := sa.1
  have sk := sx_k1 sx
  obtain ⟨g1, g2, g3⟩ := sa.2.2.1
  have rs := sim.2.2.2.2.2.2.1
  obtain ⟨⟨z0, z4⟩, ez⟩ := SRn_sz sim.2.2.2.2
  have ps := fun (Q : Option AV → Hp → Prop) => sc_isStep (sc := sc) (Q := Q) (i := j) sk
  rw [ez] at ps
  unfold CMD
  rw [wc_99]
  by_cases cj : 0 ≤ j ∧ j < hI h o 14
  · rw [decide_eq_true cj] at ps
    simp (maxSteps := 2000000) (disch := omega) only [↓wb_const, ↓wb_lconst, ↓wb_null, ↓wb_iload, ↓wb_lload, ↓wb_aload, ↓wb_istore, ↓wb_lstore, ↓wb_astore, ↓wb_iinc, ↓wb_iand, ↓wb_ior, ↓wb_ishr, ↓wb_idiv, ↓wb_irem, ↓wb_ladd, ↓wb_lsub, ↓wb_land, ↓wb_lor, ↓wb_lxor, ↓wb_lneg, ↓wb_lushr, ↓wb_lshl, ↓wb_l2i, ↓wb_lcmp, ↓wb_dupI, ↓wb_dupR, ↓wb_dup2, ↓wb_popI, ↓wb_popR, ↓wb_getI, ↓wb_getL, ↓wb_getR, ↓wb_putI, ↓wb_putZ, ↓wb_putL, ↓wb_putR, ↓wb_iaload, ↓wb_laload, ↓wb_zaload, ↓wb_aaload, ↓wb_iastore, ↓wb_lastore, ↓wb_zastore, ↓wb_aastore, ↓wb_alen, ↓wb_newI, ↓wb_newL, ↓wb_newZ, ↓wb_newA, ↓wb_new, ↓wb_obj, ↓wb_sld, ↓wb_slen, ↓wb_goto, ↓wb_ifeq, ↓wb_iceq, ↓wb_ifne, ↓wb_icne, ↓wb_iflt, ↓wb_iclt, ↓wb_ifge, ↓wb_icge, ↓wb_ifgt, ↓wb_icgt, ↓wb_ifle, ↓wb_icle, ↓wb_ifnull, ↓wb_ifnonnull, ↓wb_ret, ↓wb_iret, ↓wb_lret, ↓wb_aret, ↓wb_zret, ↓wb_tsw0, ↓wb_tsw1, ↓wb_lsw0, ↓wb_lsw1, ↓wb_calls0, ↓wb_calls1, ↓wb_callv1, ↓wb_calls2, ↓wb_callv2, ↓wb_calls3, ↓wb_callv3, ↓wb_callv4, ↓wb_callv5, ↓wb_callv6, oB_some, ldI_z, ldI_s, ldL_z, ldL_s, ldR_z, ldR_s, ls1_z, ls1_1n, ls1_1i, ls1_1r, ls1_1l, ls1_s, ls2_z, ls2_1n, ls2_1i, ls2_1r, ls2_1l, ls2_s, List.length_cons, List.length_nil, Nat.reduceAdd, Nat.reduceLT, Nat.reduceLeDiff, Nat.reduceDiv, Nat.reduceMod, Int.reduceToNat, Int.reduceAdd, Nat.zero_add, true_and, Option.toList_some, Option.toList_none, List.cons_append, List.nil_append, true_or, or_true, and_true, false_or, or_false, Int.reduceEq, Int.reduceLT, Int.reduceLE, Int.reduceNeg, not_true_eq_false, not_false_eq_true, Bool.and_eq_true, Bool.or_eq_true, decide_eq_true_eq, ↓reduceIte, b2i_0, b2i_01, b2i_01c, Nat.add_left_cancel_iff, Nat.add_eq_left, Nat.left_eq_add, Nat.reduceEqDiff, false_and, and_false, Bool.false_eq_true, Bool.true_eq_false, ↓wr_iadd, ↓wr_isub, ↓wr_imul, wr_id, ↓wl_99_0, sx_c sx, sx_r3 sx, sk_c sk, sk_r3 sk, sk_c4 sk, sk_s2 sk, sk_a7 sk, ↓ps, b2i_t, Int.reduceEq]
    refine xc_mark sim (fun n h1 h2 i0 i1 a5 cq fr mk rec => ?_) (fun ni => ?_)
    · have sim2 := Sim_mark fr (Sim_CQ cq sim)
      have sa2 := sim2.1
      have sx2 := sa2.1
      have sk2 := sx_k1 sx2
      have ro : ∀ y, o ≤ y → y ≤ o + 24 → hI h2 y = hI h y := fun y a b => by rw [(fr.2.2.2 y (by omega)).1, (cq.2.2.2.1 y (by omega)).1]
      have bj : (0 ≤ j ∧ j < 400) = True := by simp; omega
      have mj := mk j.toNat (by omega)
      have k := mK_rows (o := o) (fun y a b => ro y (by omega) (by omega)) (hI h o 7)
      have es : SrcO o h2 (hI h o 7) = SrcO o h (hI h o 7) := by
        unfold SrcO
        rw [k.1, k.2.1, k.2.2]
        show (fun n => Src _ _ _ _ (hI h2 (o + 9)) (hI h2 (o + 10)) (hI h2 (o + 11)) (hI h2 (o + 12))) = fun n => Src _ _ _ _ (hI h (o + 9)) (hI h (o + 10)) (hI h (o + 11)) (hI h (o + 12))
        rw [ro (o + 9) (by omega) (by omega), ro (o + 10) (by omega) (by omega), ro (o + 11) (by omega) (by omega), ro (o + 12) (by omega) (by omega)]
      have f7 : hI h2 o 7 = hI h o 7 := by rw [ro o (by omega) (by omega)]
      have f14 : hI h2 o 14 = hI h o 14 := by rw [ro o (by omega) (by omega)]
      have ref : ∀ a : Int, a = pI (Tr (SrcO o h (hI h o 7) n) i.toNat j.toNat) → WC sc 172 [aR o, aI i, aI j] h2 fun r2 h3 => ∃ a_1 : Int, some (aI a) = some (aI a_1) ∧ r2 = some (aI a_1) ∧ Sim x o pb h3 := by
        intro a ha
        refine mc_traced (SA_rg sa2) sim2.2.2.2.2.2.2.1 (fun m h3 _ _ _ _ a5b fs b20 => ?_) (fun ni => ?_)
        · have em : m = n := by
            have p := a5b.2.1.2.2.1
            have q := a5.2.1.2.2.1
            rw [f7] at p
            have p : hI h2 (o + 1) (hI h o 7).toNat = m := p
            have q : hI h (o + 1) (hI h o 7).toNat = n := q
            rw [ro (o + 1) (by omega) (by omega)] at p
            omega
          subst em
          rw [f7, es]
          exact ⟨a, rfl, by rw [ha], Sim_FS fs b20 sim2⟩
        · rw [f14] at ni; exact absurd ⟨⟨i0, i1⟩, cj⟩ ni
      by_cases t : Tr (SrcO o h (hI h o 7) n) i.toNat j.toNat
      · rw [pI_t t] at mj
        have f := ref 1 (by rw [pI_t t])
        have mj : hI h2 (x + 4 + 7) j.toNat = 1 := mj
        simp (maxSteps := 2000000) (disch := omega) only [↓wb_const, ↓wb_lconst, ↓wb_null, ↓wb_iload, ↓wb_lload, ↓wb_aload, ↓wb_istore, ↓wb_lstore, ↓wb_astore, ↓wb_iinc, ↓wb_iand, ↓wb_ior, ↓wb_ishr, ↓wb_idiv, ↓wb_irem, ↓wb_ladd, ↓wb_lsub, ↓wb_land, ↓wb_lor, ↓wb_lxor, ↓wb_lneg, ↓wb_lushr, ↓wb_lshl, ↓wb_l2i, ↓wb_lcmp, ↓wb_dupI, ↓wb_dupR, ↓wb_dup2, ↓wb_popI, ↓wb_popR, ↓wb_getI, ↓wb_getL, ↓wb_getR, ↓wb_putI, ↓wb_putZ, ↓wb_putL, ↓wb_putR, ↓wb_iaload, ↓wb_laload, ↓wb_zaload, ↓wb_aaload, ↓wb_iastore, ↓wb_lastore, ↓wb_zastore, ↓wb_aastore, ↓wb_alen, ↓wb_newI, ↓wb_newL, ↓wb_newZ, ↓wb_newA, ↓wb_new, ↓wb_obj, ↓wb_sld, ↓wb_slen, ↓wb_goto, ↓wb_ifeq, ↓wb_iceq, ↓wb_ifne, ↓wb_icne, ↓wb_iflt, ↓wb_iclt, ↓wb_ifge, ↓wb_icge, ↓wb_ifgt, ↓wb_icgt, ↓wb_ifle, ↓wb_icle, ↓wb_ifnull, ↓wb_ifnonnull, ↓wb_ret, ↓wb_iret, ↓wb_lret, ↓wb_aret, ↓wb_zret, ↓wb_tsw0, ↓wb_tsw1, ↓wb_lsw0, ↓wb_lsw1, ↓wb_calls0, ↓wb_calls1, ↓wb_callv1, ↓wb_calls2, ↓wb_callv2, ↓wb_calls3, ↓wb_callv3, ↓wb_callv4, ↓wb_callv5, ↓wb_callv6, oB_some, ldI_z, ldI_s, ldL_z, ldL_s, ldR_z, ldR_s, ls1_z, ls1_1n, ls1_1i, ls1_1r, ls1_1l, ls1_s, ls2_z, ls2_1n, ls2_1i, ls2_1r, ls2_1l, ls2_s, List.length_cons, List.length_nil, Nat.reduceAdd, Nat.reduceLT, Nat.reduceLeDiff, Nat.reduceDiv, Nat.reduceMod, Int.reduceToNat, Int.reduceAdd, Nat.zero_add, true_and, Option.toList_some, Option.toList_none, List.cons_append, List.nil_append, true_or, or_true, and_true, false_or, or_false, Int.reduceEq, Int.reduceLT, Int.reduceLE, Int.reduceNeg, not_true_eq_false, not_false_eq_true, Bool.and_eq_true, Bool.or_eq_true, decide_eq_true_eq, ↓reduceIte, b2i_0, b2i_01, b2i_01c, Nat.add_left_cancel_iff, Nat.add_eq_left, Nat.left_eq_add, Nat.reduceEqDiff, false_and, and_false, Bool.false_eq_true, Bool.true_eq_false, ↓wr_iadd, ↓wr_isub, ↓wr_imul, wr_id, ↓wl_99_12, ↓wl_99_22, sx_c sx2, sx_r3 sx2, sk_c sk2, sk_r3 sk2, sk_c4 sk2, sk_s2 sk2, sk_a7 sk2, bj, mj, Int.reduceEq]
        exact f
      · rw [pI_f t] at mj
        have f := ref 0 (by rw [pI_f t])
        have mj : hI h2 (x + 4 + 7) j.toNat = 0 := mj
        simp (maxSteps := 2000000) (disch := omega) only [↓wb_const, ↓wb_lconst, ↓wb_null, ↓wb_iload, ↓wb_lload, ↓wb_aload, ↓wb_istore, ↓wb_lstore, ↓wb_astore, ↓wb_iinc, ↓wb_iand, ↓wb_ior, ↓wb_ishr, ↓wb_idiv, ↓wb_irem, ↓wb_ladd, ↓wb_lsub, ↓wb_land, ↓wb_lor, ↓wb_lxor, ↓wb_lneg, ↓wb_lushr, ↓wb_lshl, ↓wb_l2i, ↓wb_lcmp, ↓wb_dupI, ↓wb_dupR, ↓wb_dup2, ↓wb_popI, ↓wb_popR, ↓wb_getI, ↓wb_getL, ↓wb_getR, ↓wb_putI, ↓wb_putZ, ↓wb_putL, ↓wb_putR, ↓wb_iaload, ↓wb_laload, ↓wb_zaload, ↓wb_aaload, ↓wb_iastore, ↓wb_lastore, ↓wb_zastore, ↓wb_aastore, ↓wb_alen, ↓wb_newI, ↓wb_newL, ↓wb_newZ, ↓wb_newA, ↓wb_new, ↓wb_obj, ↓wb_sld, ↓wb_slen, ↓wb_goto, ↓wb_ifeq, ↓wb_iceq, ↓wb_ifne, ↓wb_icne, ↓wb_iflt, ↓wb_iclt, ↓wb_ifge, ↓wb_icge, ↓wb_ifgt, ↓wb_icgt, ↓wb_ifle, ↓wb_icle, ↓wb_ifnull, ↓wb_ifnonnull, ↓wb_ret, ↓wb_iret, ↓wb_lret, ↓wb_aret, ↓wb_zret, ↓wb_tsw0, ↓wb_tsw1, ↓wb_lsw0, ↓wb_lsw1, ↓wb_calls0, ↓wb_calls1, ↓wb_callv1, ↓wb_calls2, ↓wb_callv2, ↓wb_calls3, ↓wb_callv3, ↓wb_callv4, ↓wb_callv5, ↓wb_callv6, oB_some, ldI_z, ldI_s, ldL_z, ldL_s, ldR_z, ldR_s, ls1_z, ls1_1n, ls1_1i, ls1_1r, ls1_1l, ls1_s, ls2_z, ls2_1n, ls2_1i, ls2_1r, ls2_1l, ls2_s, List.length_cons, List.length_nil, Nat.reduceAdd, Nat.reduceLT, Nat.reduceLeDiff, Nat.reduceDiv, Nat.reduceMod, Int.reduceToNat, Int.reduceAdd, Nat.zero_add, true_and, Option.toList_some, Option.toList_none, List.cons_append, List.nil_append, true_or, or_true, and_true, false_or, or_false, Int.reduceEq, Int.reduceLT, Int.reduceLE, Int.reduceNeg, not_true_eq_false, not_false_eq_true, Bool.and_eq_true, Bool.or_eq_true, decide_eq_true_eq, ↓reduceIte, b2i_0, b2i_01, b2i_01c, Nat.add_left_cancel_iff, Nat.add_eq_left, Nat.left_eq_add, Nat.reduceEqDiff, false_and, and_false, Bool.false_eq_true, Bool.true_eq_false, ↓wr_iadd, ↓wr_isub, ↓wr_imul, wr_id, ↓wl_99_12, ↓wl_99_21, ↓wl_99_22, sx_c sx2, sx_r3 sx2, sk_c sk2, sk_r3 sk2, sk_c4 sk2, sk_s2 sk2, sk_a7 sk2, bj, mj, Int.reduceEq]
        exact f
    · simp (maxSteps := 2000000) (disch := omega) only [↓wb_const, ↓wb_lconst, ↓wb_null, ↓wb_iload, ↓wb_lload, ↓wb_aload, ↓wb_istore, ↓wb_lstore, ↓wb_astore, ↓wb_iinc, ↓wb_iand, ↓wb_ior, ↓wb_ishr, ↓wb_idiv, ↓wb_irem, ↓wb_ladd, ↓wb_lsub, ↓wb_land, ↓wb_lor, ↓wb_lxor, ↓wb_lneg, ↓wb_lushr, ↓wb_lshl, ↓wb_l2i, ↓wb_lcmp, ↓wb_dupI, ↓wb_dupR, ↓wb_dup2, ↓wb_popI, ↓wb_popR, ↓wb_getI, ↓wb_getL, ↓wb_getR, ↓wb_putI, ↓wb_putZ, ↓wb_putL, ↓wb_putR, ↓wb_iaload, ↓wb_laload, ↓wb_zaload, ↓wb_aaload, ↓wb_iastore, ↓wb_lastore, ↓wb_zastore, ↓wb_aastore, ↓wb_alen, ↓wb_newI, ↓wb_newL, ↓wb_newZ, ↓wb_newA, ↓wb_new, ↓wb_obj, ↓wb_sld, ↓wb_slen, ↓wb_goto, ↓wb_ifeq, ↓wb_iceq, ↓wb_ifne, ↓wb_icne, ↓wb_iflt, ↓wb_iclt, ↓wb_ifge, ↓wb_icge, ↓wb_ifgt, ↓wb_icgt, ↓wb_ifle, ↓wb_icle, ↓wb_ifnull, ↓wb_ifnonnull, ↓wb_ret, ↓wb_iret, ↓wb_lret, ↓wb_aret, ↓wb_zret, ↓wb_tsw0, ↓wb_tsw1, ↓wb_lsw0, ↓wb_lsw1, ↓wb_calls0, ↓wb_calls1, ↓wb_callv1, ↓wb_calls2, ↓wb_callv2, ↓wb_calls3, ↓wb_callv3, ↓wb_callv4, ↓wb_callv5, ↓wb_callv6, oB_some, ldI_z, ldI_s, ldL_z, ldL_s, ldR_z, ldR_s, ls1_z, ls1_1n, ls1_1i, ls1_1r, ls1_1l, ls1_s, ls2_z, ls2_1n, ls2_1i, ls2_1r, ls2_1l, ls2_s, List.length_cons, List.length_nil, Nat.reduceAdd, Nat.reduceLT, Nat.reduceLeDiff, Nat.reduceDiv, Nat.reduceMod, Int.reduceToNat, Int.reduceAdd, Nat.zero_add, true_and, Option.toList_some, Option.toList_none, List.cons_append, List.nil_append, true_or, or_true, and_true, false_or, or_false, Int.reduceEq, Int.reduceLT, Int.reduceLE, Int.reduceNeg, not_true_eq_false, not_false_eq_true, Bool.and_eq_true, Bool.or_eq_true, decide_eq_true_eq, ↓reduceIte, b2i_0, b2i_01, b2i_01c, Nat.add_left_cancel_iff, Nat.add_eq_left, Nat.left_eq_add, Nat.reduceEqDiff, false_and, and_false, Bool.false_eq_true, Bool.true_eq_false, ↓wr_iadd, ↓wr_isub, ↓wr_imul, wr_id, ↓wl_99_10]
      refine mc_traced (SA_rg sa) rs (fun m h3 a b _ _ _ _ _ => absurd ⟨a, b⟩ ni) (fun _ => ⟨_, rfl, rfl, sim⟩)
  · rw [decide_eq_false cj] at ps
    simp (maxSteps := 2000000) (disch := omega) only [↓wb_const, ↓wb_lconst, ↓wb_null, ↓wb_iload, ↓wb_lload, ↓wb_aload, ↓wb_istore, ↓wb_lstore, ↓wb_astore, ↓wb_iinc, ↓wb_iand, ↓wb_ior, ↓wb_ishr, ↓wb_idiv, ↓wb_irem, ↓wb_ladd, ↓wb_lsub, ↓wb_land, ↓wb_lor, ↓wb_lxor, ↓wb_lneg, ↓wb_lushr, ↓wb_lshl, ↓wb_l2i, ↓wb_lcmp, ↓wb_dupI, ↓wb_dupR, ↓wb_dup2, ↓wb_popI, ↓wb_popR, ↓wb_getI, ↓wb_getL, ↓wb_getR, ↓wb_putI, ↓wb_putZ, ↓wb_putL, ↓wb_putR, ↓wb_iaload, ↓wb_laload, ↓wb_zaload, ↓wb_aaload, ↓wb_iastore, ↓wb_lastore, ↓wb_zastore, ↓wb_aastore, ↓wb_alen, ↓wb_newI, ↓wb_newL, ↓wb_newZ, ↓wb_newA, ↓wb_new, ↓wb_obj, ↓wb_sld, ↓wb_slen, ↓wb_goto, ↓wb_ifeq, ↓wb_iceq, ↓wb_ifne, ↓wb_icne, ↓wb_iflt, ↓wb_iclt, ↓wb_ifge, ↓wb_icge, ↓wb_ifgt, ↓wb_icgt, ↓wb_ifle, ↓wb_icle, ↓wb_ifnull, ↓wb_ifnonnull, ↓wb_ret, ↓wb_iret, ↓wb_lret, ↓wb_aret, ↓wb_zret, ↓wb_tsw0, ↓wb_tsw1, ↓wb_lsw0, ↓wb_lsw1, ↓wb_calls0, ↓wb_calls1, ↓wb_callv1, ↓wb_calls2, ↓wb_callv2, ↓wb_calls3, ↓wb_callv3, ↓wb_callv4, ↓wb_callv5, ↓wb_callv6, oB_some, ldI_z, ldI_s, ldL_z, ldL_s, ldR_z, ldR_s, ls1_z, ls1_1n, ls1_1i, ls1_1r, ls1_1l, ls1_s, ls2_z, ls2_1n, ls2_1i, ls2_1r, ls2_1l, ls2_s, List.length_cons, List.length_nil, Nat.reduceAdd, Nat.reduceLT, Nat.reduceLeDiff, Nat.reduceDiv, Nat.reduceMod, Int.reduceToNat, Int.reduceAdd, Nat.zero_add, true_and, Option.toList_some, Option.toList_none, List.cons_append, List.nil_append, true_or, or_true, and_true, false_or, or_false, Int.reduceEq, Int.reduceLT, Int.reduceLE, Int.reduceNeg, not_true_eq_false, not_false_eq_true, Bool.and_eq_true, Bool.or_eq_true, decide_eq_true_eq, ↓reduceIte, b2i_0, b2i_01, b2i_01c, Nat.add_left_cancel_iff, Nat.add_eq_left, Nat.left_eq_add, Nat.reduceEqDiff, false_and, and_false, Bool.false_eq_true, Bool.true_eq_false, ↓wr_iadd, ↓wr_isub, ↓wr_imul, wr_id, ↓wl_99_0, ↓wl_99_10, sx_c sx, sx_r3 sx, sk_c sk, sk_r3 sk, sk_c4 sk, sk_s2 sk, sk_a7 sk, ↓ps, b2i_f]
    refine mc_traced (SA_rg sa) rs (fun m h3 _ _ a b _ _ _ => absurd ⟨a, b⟩ cj) (fun _ => ⟨_, rfl, rfl, sim⟩)
