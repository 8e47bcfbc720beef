/-! ===== one call on both sides: beside ===== -/
theorem WB_all {sc : Scr} {m : Nat} {c : List AI} {ls : ALS} {st : List AV} {h : Hp} {α : Type} (a0 : α) {Q : α → Option AV → Hp → Prop} (w : ∀ a, WB sc m c ls st h (Q a)) : WB sc m c ls st h (fun r h' => ∀ a, Q a r h') := by
  obtain ⟨n, r, h9, e, -⟩ := w a0
  refine ⟨n, r, h9, e, fun a => ?_⟩
  obtain ⟨n2, r2, h2, e2, q2⟩ := w a
  have a1 := run_add e n2
  have a2 := run_add e2 n
  rw [Nat.add_comm] at a2
  rw [a1] at a2
  cases a2
  exact q2
theorem WC_all {sc : Scr} {v : Nat} {as : List AV} {h : Hp} {α : Type} (a0 : α) {Q : α → Option AV → Hp → Prop} (w : ∀ a, WC sc v as h (Q a)) : WC sc v as h (fun r h' => ∀ a, Q a r h') := by
  have w0 := w a0
  unfold WC at *
  cases e : ent (mL v) as with
  | none => rw [e] at w0; exact w0
  | some l0 =>
    rw [oB_some]
    refine WB_all a0 (fun a => ?_)
    have := w a
    rw [e, oB_some] at this
    exact this
def cmpL : List Int → List Int → Int
  | [], [] => 0
  | [], _ :: _ => 1
  | _ :: _, [] => 2
  | a :: as, b :: bs => if a = b then cmpL as bs else 3
theorem bsE_s {a b : Int} {as bs : List Int} : ∀ k : Nat, bsE (a :: as) (b :: bs) (k + 1) = (decide (a = b) && bsE as bs k)
  | 0 => by
    show (true && decide (a = b)) = (decide (a = b) && true)
    rw [Bool.true_and, Bool.and_true]
  | k + 1 => by
    show (bsE (a :: as) (b :: bs) (k + 1) && decide ((a :: as).getD (k + 1) 0 = (b :: bs).getD (k + 1) 0)) = (decide (a = b) && (bsE as bs k && decide (as.getD k 0 = bs.getD k 0)))
    rw [bsE_s k, Bool.and_assoc]
    rfl
theorem bsd_cmp : ∀ La Lb : List Int, bsd La Lb = cmpL La Lb
  | [], [] => rfl
  | [], b :: bs => by
    unfold bsd
    rw [show min ([] : List Int).length (b :: bs).length = 0 by simp, show bsE [] (b :: bs) 0 = true from rfl, if_neg (by decide), if_neg (by simp), if_pos (by simp)]
    rfl
  | a :: as, [] => by
    unfold bsd
    rw [show min (a :: as).length ([] : List Int).length = 0 by simp, show bsE (a :: as) [] 0 = true from rfl, if_neg (by decide), if_neg (by simp), if_neg (by simp)]
    rfl
  | a :: as, b :: bs => by
    have ih := bsd_cmp as bs
    show _ = if a = b then cmpL as bs else 3
    unfold bsd at ih ⊢
    rw [show min (a :: as).length (b :: bs).length = min as.length bs.length + 1 by simp only [List.length_cons]; omega, bsE_s]
    by_cases e : a = b
    · rw [if_pos e, decide_eq_true e, Bool.true_and, ← ih]
      simp only [List.length_cons]
      by_cases c1 : as.length = bs.length
      · simp [c1]
      · by_cases c2 : as.length < bs.length
        · simp [c1, c2]
        · simp [c1, c2]
    · rw [if_neg e, decide_eq_false e, Bool.false_and, if_pos rfl]
theorem MR_oth {c k n fu d lo hi : Nat} {h h2 : Hp} {K X E : Int → Int} {s : St} (fr : FR lo hi h h2) (q1 : c + 19 < lo ∨ hi < c) (q2 : k + 9 < lo ∨ hi < k) (m : MR c k n fu h K X E d s) : MR c k n fu h2 K X E d s := by
  obtain ⟨m1, m2, m3, m4, m5, m6, ⟨r1, r2, ro⟩, i, hd, hf, dl⟩ := m
  refine ⟨FR_pi fr (by omega) m1, by rw [(FR_K fr (by omega)).1]; exact m2, WO_FR fr (by omega) m3, FR_sk fr m4, by rw [fr.2.2.1]; exact m5, by rw [fr.2.2.1]; exact m6, ⟨by rw [FR_i fr (by omega)]; exact r1, by rw [FR_i fr (by omega)]; exact r2, RKo_cg (fun d a b _ => (fr.2.2.2 (k + d) (by omega)).1) (FR_i fr (by omega)) ro⟩, i, by rw [FR_i fr (by omega)]; exact hd, by rw [FR_i fr (by omega)]; exact hf, dl⟩
theorem xc_cmp {sc : Scr} {x pb ca cb na nb fu : Nat} {h0 : Hp} {Q : Option AV → Hp → Prop} {Ka Xa Ea Kb Xb Eb : Int → Int} {p q : Int} {R : Int} {SF : St} {NF : Nat} (hx : x + 23 < pb) (x2 : 2 ≤ x) (hca : pb ≤ ca) (hcb : pb ≤ cb) (n6a : na ≤ 60) (n6b : nb ≤ 60) (f1 : fu ≤ 20000) (p0 : 0 ≤ p) (p1 : p < 60) (q0 : 0 ≤ q) (q1 : q < 60) (hQ : ∀ h2 d2 s2, MF x pb h0 h2 → SLX x h2 → MR cb (x + 4) nb fu h2 Kb Xb Eb d2 s2 → AG cb nb h2 Kb Xb Eb → itF (sx Kb Xb Eb (yes_ Kb Xb nb) (no_ Kb nb)) (fu - d2) s2 = SF → d2 + itN (sx Kb Xb Eb (yes_ Kb Xb nb) (no_ Kb nb)) (fu - d2) s2 = NF → Q (some (aI R)) h2) : ∀ (L : List Int) (i : Nat) (h : Hp) (da db : Nat) (sa sb : St) (y4 y5 : Option AV), itS (sx Ka Xa Ea (yes_ Ka Xa na) (no_ Ka na)) (seV Ka Xa Ea p) (fu - da) sa = L → i + L.length ≤ 20000 → SLX x h → MR ca (x + 14) na fu h Ka Xa Ea da sa → MR cb (x + 4) nb fu h Kb Xb Eb db sb → AG ca na h Ka Xa Ea → AG cb nb h Kb Xb Eb → MF x pb h0 h → itF (sx Kb Xb Eb (yes_ Kb Xb nb) (no_ Kb nb)) (fu - db) sb = SF → db + itN (sx Kb Xb Eb (yes_ Kb Xb nb) (no_ Kb nb)) (fu - db) sb = NF → cmpL L (itS (sx Kb Xb Eb (yes_ Kb Xb nb) (no_ Kb nb)) (seV Kb Xb Eb q) (fu - db) sb) = R → WB sc 108 (BL 108 2) [some (aR x), some (aI p), some (aI q), some (aI i), y4, y5] [] h Q := by
  intro L
  induction L with
  | nil =>
    intro i h da db sa sb y4 y5 eL il sxx ma mb aga agb mf eF eN eR
    have c1 : ((20000 : Int) < (i : Int)) = False := by simp; simp at il; omega
    have skb := sx_k2 sxx
    rw [bl_108_2]
    simp (maxSteps := 2000000) (disch := omega) only [↓wb_const, ↓wb_lconst, ↓wb_null, ↓wb_iload, ↓wb_lload, ↓wb_aload, ↓wb_istore, ↓wb_lstore, ↓wb_astore, ↓wb_iinc, ↓wb_iand, ↓wb_ior, ↓wb_ishr, ↓wb_idiv, ↓wb_irem, ↓wb_ladd, ↓wb_lsub, ↓wb_land, ↓wb_lor, ↓wb_lxor, ↓wb_lneg, ↓wb_lushr, ↓wb_lshl, ↓wb_l2i, ↓wb_lcmp, ↓wb_dupI, ↓wb_dupR, ↓wb_dup2, ↓wb_popI, ↓wb_popR, ↓wb_getI, ↓wb_getL, ↓wb_getR, ↓wb_putI, ↓wb_putZ, ↓wb_putL, ↓wb_putR, ↓wb_iaload, ↓wb_laload, ↓wb_zaload, ↓wb_aaload, ↓wb_iastore, ↓wb_lastore, ↓wb_zastore, ↓wb_aastore, ↓wb_alen, ↓wb_newI, ↓wb_newL, ↓wb_newZ, ↓wb_newA, ↓wb_new, ↓wb_obj, ↓wb_sld, ↓wb_slen, ↓wb_goto, ↓wb_ifeq, ↓wb_iceq, ↓wb_ifne, ↓wb_icne, ↓wb_iflt, ↓wb_iclt, ↓wb_ifge, ↓wb_icge, ↓wb_ifgt, ↓wb_icgt, ↓wb_ifle, ↓wb_icle, ↓wb_ifnull, ↓wb_ifnonnull, ↓wb_ret, ↓wb_iret, ↓wb_lret, ↓wb_aret, ↓wb_zret, ↓wb_tsw0, ↓wb_tsw1, ↓wb_lsw0, ↓wb_lsw1, ↓wb_calls0, ↓wb_calls1, ↓wb_callv1, ↓wb_calls2, ↓wb_callv2, ↓wb_calls3, ↓wb_callv3, ↓wb_callv4, ↓wb_callv5, ↓wb_callv6, oB_some, ldI_z, ldI_s, ldL_z, ldL_s, ldR_z, ldR_s, ls1_z, ls1_1n, ls1_1i, ls1_1r, ls1_1l, ls1_s, ls2_z, ls2_1n, ls2_1i, ls2_1r, ls2_1l, ls2_s, List.length_cons, List.length_nil, Nat.reduceAdd, Nat.reduceLT, Nat.reduceLeDiff, Nat.reduceDiv, Nat.reduceMod, Int.reduceToNat, Int.reduceAdd, Nat.zero_add, true_and, Option.toList_some, Option.toList_none, List.cons_append, List.nil_append, true_or, or_true, and_true, false_or, or_false, Int.reduceEq, Int.reduceLT, Int.reduceLE, Int.reduceNeg, not_true_eq_false, not_false_eq_true, Bool.and_eq_true, Bool.or_eq_true, decide_eq_true_eq, ↓reduceIte, b2i_0, b2i_01, b2i_01c, Nat.add_left_cancel_iff, Nat.add_eq_left, Nat.left_eq_add, Nat.reduceEqDiff, false_and, and_false, Bool.false_eq_true, Bool.true_eq_false, ↓wr_iadd, ↓wr_isub, ↓wr_imul, wr_id, sx_c sxx, sx_r4 sxx, sk_c skb, sx_r3 sxx, c1]
    refine kc_goOnTo p0 p1 (by omega) (by omega) n6a f1 aga ma (fun h2 d2 s2 v _ _ e _ _ _ => ?_) (fun h2 d2 s2 fr m2 _ _ _ => ?_)
    · rw [eL] at e; exact absurd e (by simp)
    · have sx2 : SLX x h2 := by rw [SLX_same fr.2.1 fr.2.2.1]; exact sxx
      have ska := sx_k1 sx2
      have mf2 := MF_tr mf (MF_FR (Or.inr rfl) hx fr)
      simp (maxSteps := 2000000) (disch := omega) only [↓wb_const, ↓wb_lconst, ↓wb_null, ↓wb_iload, ↓wb_lload, ↓wb_aload, ↓wb_istore, ↓wb_lstore, ↓wb_astore, ↓wb_iinc, ↓wb_iand, ↓wb_ior, ↓wb_ishr, ↓wb_idiv, ↓wb_irem, ↓wb_ladd, ↓wb_lsub, ↓wb_land, ↓wb_lor, ↓wb_lxor, ↓wb_lneg, ↓wb_lushr, ↓wb_lshl, ↓wb_l2i, ↓wb_lcmp, ↓wb_dupI, ↓wb_dupR, ↓wb_dup2, ↓wb_popI, ↓wb_popR, ↓wb_getI, ↓wb_getL, ↓wb_getR, ↓wb_putI, ↓wb_putZ, ↓wb_putL, ↓wb_putR, ↓wb_iaload, ↓wb_laload, ↓wb_zaload, ↓wb_aaload, ↓wb_iastore, ↓wb_lastore, ↓wb_zastore, ↓wb_aastore, ↓wb_alen, ↓wb_newI, ↓wb_newL, ↓wb_newZ, ↓wb_newA, ↓wb_new, ↓wb_obj, ↓wb_sld, ↓wb_slen, ↓wb_goto, ↓wb_ifeq, ↓wb_iceq, ↓wb_ifne, ↓wb_icne, ↓wb_iflt, ↓wb_iclt, ↓wb_ifge, ↓wb_icge, ↓wb_ifgt, ↓wb_icgt, ↓wb_ifle, ↓wb_icle, ↓wb_ifnull, ↓wb_ifnonnull, ↓wb_ret, ↓wb_iret, ↓wb_lret, ↓wb_aret, ↓wb_zret, ↓wb_tsw0, ↓wb_tsw1, ↓wb_lsw0, ↓wb_lsw1, ↓wb_calls0, ↓wb_calls1, ↓wb_callv1, ↓wb_calls2, ↓wb_callv2, ↓wb_calls3, ↓wb_callv3, ↓wb_callv4, ↓wb_callv5, ↓wb_callv6, oB_some, ldI_z, ldI_s, ldL_z, ldL_s, ldR_z, ldR_s, ls1_z, ls1_1n, ls1_1i, ls1_1r, ls1_1l, ls1_s, ls2_z, ls2_1n, ls2_1i, ls2_1r, ls2_1l, ls2_s, List.length_cons, List.length_nil, Nat.reduceAdd, Nat.reduceLT, Nat.reduceLeDiff, Nat.reduceDiv, Nat.reduceMod, Int.reduceToNat, Int.reduceAdd, Nat.zero_add, true_and, Option.toList_some, Option.toList_none, List.cons_append, List.nil_append, true_or, or_true, and_true, false_or, or_false, Int.reduceEq, Int.reduceLT, Int.reduceLE, Int.reduceNeg, not_true_eq_false, not_false_eq_true, Bool.and_eq_true, Bool.or_eq_true, decide_eq_true_eq, ↓reduceIte, b2i_0, b2i_01, b2i_01c, Nat.add_left_cancel_iff, Nat.add_eq_left, Nat.left_eq_add, Nat.reduceEqDiff, false_and, and_false, Bool.false_eq_true, Bool.true_eq_false, ↓wr_iadd, ↓wr_isub, ↓wr_imul, wr_id, sx_c sx2, sx_r4 sx2, sk_c ska, sx_r3 sx2]
      refine kc_goOnTo q0 q1 (by omega) (by omega) n6b f1 (AG_FR fr (by omega) agb) (MR_oth fr (by omega) (by omega) mb) (fun h3 d3 s3 v fr3 m3 e3 n3 f3 _ => ?_) (fun h3 d3 s3 fr3 m3 e3 n3 f3 => ?_)
      · rw [e3] at eR
        have sx3 : SLX x h3 := by rw [SLX_same fr3.2.1 fr3.2.2.1]; exact sx2
        have fin := hQ h3 d3 s3 (MF_tr mf2 (MF_FR (Or.inl rfl) hx fr3)) sx3 m3 (AG_FR fr3 (by omega) (AG_FR fr (by omega) agb)) (by rw [f3]; exact eF) (by rw [n3]; exact eN)
        rw [← eR] at fin
        have fin : Q (some (aI 1)) h3 := fin
        simp (maxSteps := 2000000) (disch := omega) only [↓wb_const, ↓wb_lconst, ↓wb_null, ↓wb_iload, ↓wb_lload, ↓wb_aload, ↓wb_istore, ↓wb_lstore, ↓wb_astore, ↓wb_iinc, ↓wb_iand, ↓wb_ior, ↓wb_ishr, ↓wb_idiv, ↓wb_irem, ↓wb_ladd, ↓wb_lsub, ↓wb_land, ↓wb_lor, ↓wb_lxor, ↓wb_lneg, ↓wb_lushr, ↓wb_lshl, ↓wb_l2i, ↓wb_lcmp, ↓wb_dupI, ↓wb_dupR, ↓wb_dup2, ↓wb_popI, ↓wb_popR, ↓wb_getI, ↓wb_getL, ↓wb_getR, ↓wb_putI, ↓wb_putZ, ↓wb_putL, ↓wb_putR, ↓wb_iaload, ↓wb_laload, ↓wb_zaload, ↓wb_aaload, ↓wb_iastore, ↓wb_lastore, ↓wb_zastore, ↓wb_aastore, ↓wb_alen, ↓wb_newI, ↓wb_newL, ↓wb_newZ, ↓wb_newA, ↓wb_new, ↓wb_obj, ↓wb_sld, ↓wb_slen, ↓wb_goto, ↓wb_ifeq, ↓wb_iceq, ↓wb_ifne, ↓wb_icne, ↓wb_iflt, ↓wb_iclt, ↓wb_ifge, ↓wb_icge, ↓wb_ifgt, ↓wb_icgt, ↓wb_ifle, ↓wb_icle, ↓wb_ifnull, ↓wb_ifnonnull, ↓wb_ret, ↓wb_iret, ↓wb_lret, ↓wb_aret, ↓wb_zret, ↓wb_tsw0, ↓wb_tsw1, ↓wb_lsw0, ↓wb_lsw1, ↓wb_calls0, ↓wb_calls1, ↓wb_callv1, ↓wb_calls2, ↓wb_callv2, ↓wb_calls3, ↓wb_callv3, ↓wb_callv4, ↓wb_callv5, ↓wb_callv6, oB_some, ldI_z, ldI_s, ldL_z, ldL_s, ldR_z, ldR_s, ls1_z, ls1_1n, ls1_1i, ls1_1r, ls1_1l, ls1_s, ls2_z, ls2_1n, ls2_1i, ls2_1r, ls2_1l, ls2_s, List.length_cons, List.length_nil, Nat.reduceAdd, Nat.reduceLT, Nat.reduceLeDiff, Nat.reduceDiv, Nat.reduceMod, Int.reduceToNat, Int.reduceAdd, Nat.zero_add, true_and, Option.toList_some, Option.toList_none, List.cons_append, List.nil_append, true_or, or_true, and_true, false_or, or_false, Int.reduceEq, Int.reduceLT, Int.reduceLE, Int.reduceNeg, not_true_eq_false, not_false_eq_true, Bool.and_eq_true, Bool.or_eq_true, decide_eq_true_eq, ↓reduceIte, b2i_0, b2i_01, b2i_01c, Nat.add_left_cancel_iff, Nat.add_eq_left, Nat.left_eq_add, Nat.reduceEqDiff, false_and, and_false, Bool.false_eq_true, Bool.true_eq_false, ↓wr_iadd, ↓wr_isub, ↓wr_imul, wr_id, ↓wl_108_22, Int.reduceEq]
        exact fin
      · rw [e3] at eR
        have sx3 : SLX x h3 := by rw [SLX_same fr3.2.1 fr3.2.2.1]; exact sx2
        have fin := hQ h3 d3 s3 (MF_tr mf2 (MF_FR (Or.inl rfl) hx fr3)) sx3 m3 (AG_FR fr3 (by omega) (AG_FR fr (by omega) agb)) (by rw [f3]; exact eF) (by rw [n3]; exact eN)
        rw [← eR] at fin
        have fin : Q (some (aI 0)) h3 := fin
        simp (maxSteps := 2000000) (disch := omega) only [↓wb_const, ↓wb_lconst, ↓wb_null, ↓wb_iload, ↓wb_lload, ↓wb_aload, ↓wb_istore, ↓wb_lstore, ↓wb_astore, ↓wb_iinc, ↓wb_iand, ↓wb_ior, ↓wb_ishr, ↓wb_idiv, ↓wb_irem, ↓wb_ladd, ↓wb_lsub, ↓wb_land, ↓wb_lor, ↓wb_lxor, ↓wb_lneg, ↓wb_lushr, ↓wb_lshl, ↓wb_l2i, ↓wb_lcmp, ↓wb_dupI, ↓wb_dupR, ↓wb_dup2, ↓wb_popI, ↓wb_popR, ↓wb_getI, ↓wb_getL, ↓wb_getR, ↓wb_putI, ↓wb_putZ, ↓wb_putL, ↓wb_putR, ↓wb_iaload, ↓wb_laload, ↓wb_zaload, ↓wb_aaload, ↓wb_iastore, ↓wb_lastore, ↓wb_zastore, ↓wb_aastore, ↓wb_alen, ↓wb_newI, ↓wb_newL, ↓wb_newZ, ↓wb_newA, ↓wb_new, ↓wb_obj, ↓wb_sld, ↓wb_slen, ↓wb_goto, ↓wb_ifeq, ↓wb_iceq, ↓wb_ifne, ↓wb_icne, ↓wb_iflt, ↓wb_iclt, ↓wb_ifge, ↓wb_icge, ↓wb_ifgt, ↓wb_icgt, ↓wb_ifle, ↓wb_icle, ↓wb_ifnull, ↓wb_ifnonnull, ↓wb_ret, ↓wb_iret, ↓wb_lret, ↓wb_aret, ↓wb_zret, ↓wb_tsw0, ↓wb_tsw1, ↓wb_lsw0, ↓wb_lsw1, ↓wb_calls0, ↓wb_calls1, ↓wb_callv1, ↓wb_calls2, ↓wb_callv2, ↓wb_calls3, ↓wb_callv3, ↓wb_callv4, ↓wb_callv5, ↓wb_callv6, oB_some, ldI_z, ldI_s, ldL_z, ldL_s, ldR_z, ldR_s, ls1_z, ls1_1n, ls1_1i, ls1_1r, ls1_1l, ls1_s, ls2_z, ls2_1n, ls2_1i, ls2_1r, ls2_1l, ls2_s, List.length_cons, List.length_nil, Nat.reduceAdd, Nat.reduceLT, Nat.reduceLeDiff, Nat.reduceDiv, Nat.reduceMod, Int.reduceToNat, Int.reduceAdd, Nat.zero_add, true_and, Option.toList_some, Option.toList_none, List.cons_append, List.nil_append, true_or, or_true, and_true, false_or, or_false, Int.reduceEq, Int.reduceLT, Int.reduceLE, Int.reduceNeg, not_true_eq_false, not_false_eq_true, Bool.and_eq_true, Bool.or_eq_true, decide_eq_true_eq, ↓reduceIte, b2i_0, b2i_01, b2i_01c, Nat.add_left_cancel_iff, Nat.add_eq_left, Nat.left_eq_add, Nat.reduceEqDiff, false_and, and_false, Bool.false_eq_true, Bool.true_eq_false, ↓wr_iadd, ↓wr_isub, ↓wr_imul, wr_id, ↓wl_108_21, ↓wl_108_22]
        exact fin
  | cons v0 L ih =>
    intro i h da db sa sb y4 y5 eL il sxx ma mb aga agb mf eF eN eR
    rw [List.length_cons] at il
    have c1 : ((20000 : Int) < (i : Int)) = False := by simp; omega
    have cS : (i : Int) + 1 = ((i + 1 : Nat) : Int) := by omega
    have skb := sx_k2 sxx
    rw [bl_108_2]
    simp (maxSteps := 2000000) (disch := omega) only [↓wb_const, ↓wb_lconst, ↓wb_null, ↓wb_iload, ↓wb_lload, ↓wb_aload, ↓wb_istore, ↓wb_lstore, ↓wb_astore, ↓wb_iinc, ↓wb_iand, ↓wb_ior, ↓wb_ishr, ↓wb_idiv, ↓wb_irem, ↓wb_ladd, ↓wb_lsub, ↓wb_land, ↓wb_lor, ↓wb_lxor, ↓wb_lneg, ↓wb_lushr, ↓wb_lshl, ↓wb_l2i, ↓wb_lcmp, ↓wb_dupI, ↓wb_dupR, ↓wb_dup2, ↓wb_popI, ↓wb_popR, ↓wb_getI, ↓wb_getL, ↓wb_getR, ↓wb_putI, ↓wb_putZ, ↓wb_putL, ↓wb_putR, ↓wb_iaload, ↓wb_laload, ↓wb_zaload, ↓wb_aaload, ↓wb_iastore, ↓wb_lastore, ↓wb_zastore, ↓wb_aastore, ↓wb_alen, ↓wb_newI, ↓wb_newL, ↓wb_newZ, ↓wb_newA, ↓wb_new, ↓wb_obj, ↓wb_sld, ↓wb_slen, ↓wb_goto, ↓wb_ifeq, ↓wb_iceq, ↓wb_ifne, ↓wb_icne, ↓wb_iflt, ↓wb_iclt, ↓wb_ifge, ↓wb_icge, ↓wb_ifgt, ↓wb_icgt, ↓wb_ifle, ↓wb_icle, ↓wb_ifnull, ↓wb_ifnonnull, ↓wb_ret, ↓wb_iret, ↓wb_lret, ↓wb_aret, ↓wb_zret, ↓wb_tsw0, ↓wb_tsw1, ↓wb_lsw0, ↓wb_lsw1, ↓wb_calls0, ↓wb_calls1, ↓wb_callv1, ↓wb_calls2, ↓wb_callv2, ↓wb_calls3, ↓wb_callv3, ↓wb_callv4, ↓wb_callv5, ↓wb_callv6, oB_some, ldI_z, ldI_s, ldL_z, ldL_s, ldR_z, ldR_s, ls1_z, ls1_1n, ls1_1i, ls1_1r, ls1_1l, ls1_s, ls2_z, ls2_1n, ls2_1i, ls2_1r, ls2_1l, ls2_s, List.length_cons, List.length_nil, Nat.reduceAdd, Nat.reduceLT, Nat.reduceLeDiff, Nat.reduceDiv, Nat.reduceMod, Int.reduceToNat, Int.reduceAdd, Nat.zero_add, true_and, Option.toList_some, Option.toList_none, List.cons_append, List.nil_append, true_or, or_true, and_true, false_or, or_false, Int.reduceEq, Int.reduceLT, Int.reduceLE, Int.reduceNeg, not_true_eq_false, not_false_eq_true, Bool.and_eq_true, Bool.or_eq_true, decide_eq_true_eq, ↓reduceIte, b2i_0, b2i_01, b2i_01c, Nat.add_left_cancel_iff, Nat.add_eq_left, Nat.left_eq_add, Nat.reduceEqDiff, false_and, and_false, Bool.false_eq_true, Bool.true_eq_false, ↓wr_iadd, ↓wr_isub, ↓wr_imul, wr_id, sx_c sxx, sx_r4 sxx, sk_c skb, sx_r3 sxx, c1]
    refine kc_goOnTo p0 p1 (by omega) (by omega) n6a f1 aga ma (fun h2 d2 s2 v fr m2 e _ _ nu => ?_) (fun h2 d2 s2 _ _ e _ _ => ?_)
    · rw [eL] at e
      have ev : v0 = v := (List.cons.inj e).1
      have eL2 := (List.cons.inj e).2
      subst ev
      have sx2 : SLX x h2 := by rw [SLX_same fr.2.1 fr.2.2.1]; exact sxx
      have ska := sx_k1 sx2
      have mf2 := MF_tr mf (MF_FR (Or.inr rfl) hx fr)
      have aga2 := AG_FR fr (by omega) aga
      have agb2 := AG_FR fr (by omega) agb
      simp (maxSteps := 2000000) (disch := omega) only [↓wb_const, ↓wb_lconst, ↓wb_null, ↓wb_iload, ↓wb_lload, ↓wb_aload, ↓wb_istore, ↓wb_lstore, ↓wb_astore, ↓wb_iinc, ↓wb_iand, ↓wb_ior, ↓wb_ishr, ↓wb_idiv, ↓wb_irem, ↓wb_ladd, ↓wb_lsub, ↓wb_land, ↓wb_lor, ↓wb_lxor, ↓wb_lneg, ↓wb_lushr, ↓wb_lshl, ↓wb_l2i, ↓wb_lcmp, ↓wb_dupI, ↓wb_dupR, ↓wb_dup2, ↓wb_popI, ↓wb_popR, ↓wb_getI, ↓wb_getL, ↓wb_getR, ↓wb_putI, ↓wb_putZ, ↓wb_putL, ↓wb_putR, ↓wb_iaload, ↓wb_laload, ↓wb_zaload, ↓wb_aaload, ↓wb_iastore, ↓wb_lastore, ↓wb_zastore, ↓wb_aastore, ↓wb_alen, ↓wb_newI, ↓wb_newL, ↓wb_newZ, ↓wb_newA, ↓wb_new, ↓wb_obj, ↓wb_sld, ↓wb_slen, ↓wb_goto, ↓wb_ifeq, ↓wb_iceq, ↓wb_ifne, ↓wb_icne, ↓wb_iflt, ↓wb_iclt, ↓wb_ifge, ↓wb_icge, ↓wb_ifgt, ↓wb_icgt, ↓wb_ifle, ↓wb_icle, ↓wb_ifnull, ↓wb_ifnonnull, ↓wb_ret, ↓wb_iret, ↓wb_lret, ↓wb_aret, ↓wb_zret, ↓wb_tsw0, ↓wb_tsw1, ↓wb_lsw0, ↓wb_lsw1, ↓wb_calls0, ↓wb_calls1, ↓wb_callv1, ↓wb_calls2, ↓wb_callv2, ↓wb_calls3, ↓wb_callv3, ↓wb_callv4, ↓wb_callv5, ↓wb_callv6, oB_some, ldI_z, ldI_s, ldL_z, ldL_s, ldR_z, ldR_s, ls1_z, ls1_1n, ls1_1i, ls1_1r, ls1_1l, ls1_s, ls2_z, ls2_1n, ls2_1i, ls2_1r, ls2_1l, ls2_s, List.length_cons, List.length_nil, Nat.reduceAdd, Nat.reduceLT, Nat.reduceLeDiff, Nat.reduceDiv, Nat.reduceMod, Int.reduceToNat, Int.reduceAdd, Nat.zero_add, true_and, Option.toList_some, Option.toList_none, List.cons_append, List.nil_append, true_or, or_true, and_true, false_or, or_false, Int.reduceEq, Int.reduceLT, Int.reduceLE, Int.reduceNeg, not_true_eq_false, not_false_eq_true, Bool.and_eq_true, Bool.or_eq_true, decide_eq_true_eq, ↓reduceIte, b2i_0, b2i_01, b2i_01c, Nat.add_left_cancel_iff, Nat.add_eq_left, Nat.left_eq_add, Nat.reduceEqDiff, false_and, and_false, Bool.false_eq_true, Bool.true_eq_false, ↓wr_iadd, ↓wr_isub, ↓wr_imul, wr_id, sx_c sx2, sx_r4 sx2, sk_c ska, sx_r3 sx2]
      refine kc_goOnTo q0 q1 (by omega) (by omega) n6b f1 agb2 (MR_oth fr (by omega) (by omega) mb) (fun h3 d3 s3 w fr3 m3 e3 n3 f3 nu3 => ?_) (fun h3 d3 s3 fr3 m3 e3 n3 f3 => ?_)
      · rw [e3] at eR
        have eR : (if v0 = w then cmpL L (itS (sx Kb Xb Eb (yes_ Kb Xb nb) (no_ Kb nb)) (seV Kb Xb Eb q) (fu - d3) s3) else 3) = R := eR
        have sx3 : SLX x h3 := by rw [SLX_same fr3.2.1 fr3.2.2.1]; exact sx2
        have ska3 := sx_k1 sx3
        have skb3 := sx_k2 sx3
        have mf3 := MF_tr mf2 (MF_FR (Or.inl rfl) hx fr3)
        have aga3 := AG_FR fr3 (by omega) aga2
        have agb3 := AG_FR fr3 (by omega) agb2
        have nu2 : hI h3 (x + 14) 10 = v0 := by rw [FR_i fr3 (by omega)]; exact nu
        by_cases ee : v0 = w
        · rw [if_pos ee] at eR
          have nx := ih (i + 1) h3 d2 d3 s2 s3 (some (aI 1)) (some (aI 1)) eL2.symm (by omega) sx3 (MR_oth fr3 (by omega) (by omega) m2) m3 aga3 agb3 mf3 (by rw [f3]; exact eF) (by rw [n3]; exact eN) eR
          clear ih
          have ee : (v0 = w) = True := eq_true ee
          simp (maxSteps := 2000000) (disch := omega) only [↓wb_const, ↓wb_lconst, ↓wb_null, ↓wb_iload, ↓wb_lload, ↓wb_aload, ↓wb_istore, ↓wb_lstore, ↓wb_astore, ↓wb_iinc, ↓wb_iand, ↓wb_ior, ↓wb_ishr, ↓wb_idiv, ↓wb_irem, ↓wb_ladd, ↓wb_lsub, ↓wb_land, ↓wb_lor, ↓wb_lxor, ↓wb_lneg, ↓wb_lushr, ↓wb_lshl, ↓wb_l2i, ↓wb_lcmp, ↓wb_dupI, ↓wb_dupR, ↓wb_dup2, ↓wb_popI, ↓wb_popR, ↓wb_getI, ↓wb_getL, ↓wb_getR, ↓wb_putI, ↓wb_putZ, ↓wb_putL, ↓wb_putR, ↓wb_iaload, ↓wb_laload, ↓wb_zaload, ↓wb_aaload, ↓wb_iastore, ↓wb_lastore, ↓wb_zastore, ↓wb_aastore, ↓wb_alen, ↓wb_newI, ↓wb_newL, ↓wb_newZ, ↓wb_newA, ↓wb_new, ↓wb_obj, ↓wb_sld, ↓wb_slen, ↓wb_goto, ↓wb_ifeq, ↓wb_iceq, ↓wb_ifne, ↓wb_icne, ↓wb_iflt, ↓wb_iclt, ↓wb_ifge, ↓wb_icge, ↓wb_ifgt, ↓wb_icgt, ↓wb_ifle, ↓wb_icle, ↓wb_ifnull, ↓wb_ifnonnull, ↓wb_ret, ↓wb_iret, ↓wb_lret, ↓wb_aret, ↓wb_zret, ↓wb_tsw0, ↓wb_tsw1, ↓wb_lsw0, ↓wb_lsw1, ↓wb_calls0, ↓wb_calls1, ↓wb_callv1, ↓wb_calls2, ↓wb_callv2, ↓wb_calls3, ↓wb_callv3, ↓wb_callv4, ↓wb_callv5, ↓wb_callv6, oB_some, ldI_z, ldI_s, ldL_z, ldL_s, ldR_z, ldR_s, ls1_z, ls1_1n, ls1_1i, ls1_1r, ls1_1l, ls1_s, ls2_z, ls2_1n, ls2_1i, ls2_1r, ls2_1l, ls2_s, List.length_cons, List.length_nil, Nat.reduceAdd, Nat.reduceLT, Nat.reduceLeDiff, Nat.reduceDiv, Nat.reduceMod, Int.reduceToNat, Int.reduceAdd, Nat.zero_add, true_and, Option.toList_some, Option.toList_none, List.cons_append, List.nil_append, true_or, or_true, and_true, false_or, or_false, Int.reduceEq, Int.reduceLT, Int.reduceLE, Int.reduceNeg, not_true_eq_false, not_false_eq_true, Bool.and_eq_true, Bool.or_eq_true, decide_eq_true_eq, ↓reduceIte, b2i_0, b2i_01, b2i_01c, Nat.add_left_cancel_iff, Nat.add_eq_left, Nat.left_eq_add, Nat.reduceEqDiff, false_and, and_false, Bool.false_eq_true, Bool.true_eq_false, ↓wr_iadd, ↓wr_isub, ↓wr_imul, wr_id, ↓wl_108_23, ↓wl_108_27, ↓wl_108_36, sx_c sx3, sx_r4 sx3, sk_c ska3, sx_r3 sx3, sx_c sx3, sx_r4 sx3, sk_c skb3, sx_r3 sx3, nu2, nu3, ee, Int.reduceEq]
          rw [cS]
          exact nx
        · rw [if_neg ee] at eR
          have fin := hQ h3 d3 s3 mf3 sx3 m3 agb3 (by rw [f3]; exact eF) (by rw [n3]; exact eN)
          rw [← eR] at fin
          clear ih
          have ee : (v0 = w) = False := eq_false ee
          simp (maxSteps := 2000000) (disch := omega) only [↓wb_const, ↓wb_lconst, ↓wb_null, ↓wb_iload, ↓wb_lload, ↓wb_aload, ↓wb_istore, ↓wb_lstore, ↓wb_astore, ↓wb_iinc, ↓wb_iand, ↓wb_ior, ↓wb_ishr, ↓wb_idiv, ↓wb_irem, ↓wb_ladd, ↓wb_lsub, ↓wb_land, ↓wb_lor, ↓wb_lxor, ↓wb_lneg, ↓wb_lushr, ↓wb_lshl, ↓wb_l2i, ↓wb_lcmp, ↓wb_dupI, ↓wb_dupR, ↓wb_dup2, ↓wb_popI, ↓wb_popR, ↓wb_getI, ↓wb_getL, ↓wb_getR, ↓wb_putI, ↓wb_putZ, ↓wb_putL, ↓wb_putR, ↓wb_iaload, ↓wb_laload, ↓wb_zaload, ↓wb_aaload, ↓wb_iastore, ↓wb_lastore, ↓wb_zastore, ↓wb_aastore, ↓wb_alen, ↓wb_newI, ↓wb_newL, ↓wb_newZ, ↓wb_newA, ↓wb_new, ↓wb_obj, ↓wb_sld, ↓wb_slen, ↓wb_goto, ↓wb_ifeq, ↓wb_iceq, ↓wb_ifne, ↓wb_icne, ↓wb_iflt, ↓wb_iclt, ↓wb_ifge, ↓wb_icge, ↓wb_ifgt, ↓wb_icgt, ↓wb_ifle, ↓wb_icle, ↓wb_ifnull, ↓wb_ifnonnull, ↓wb_ret, ↓wb_iret, ↓wb_lret, ↓wb_aret, ↓wb_zret, ↓wb_tsw0, ↓wb_tsw1, ↓wb_lsw0, ↓wb_lsw1, ↓wb_calls0, ↓wb_calls1, ↓wb_callv1, ↓wb_calls2, ↓wb_callv2, ↓wb_calls3, ↓wb_callv3, ↓wb_callv4, ↓wb_callv5, ↓wb_callv6, oB_some, ldI_z, ldI_s, ldL_z, ldL_s, ldR_z, ldR_s, ls1_z, ls1_1n, ls1_1i, ls1_1r, ls1_1l, ls1_s, ls2_z, ls2_1n, ls2_1i, ls2_1r, ls2_1l, ls2_s, List.length_cons, List.length_nil, Nat.reduceAdd, Nat.reduceLT, Nat.reduceLeDiff, Nat.reduceDiv, Nat.reduceMod, Int.reduceToNat, Int.reduceAdd, Nat.zero_add, true_and, Option.toList_some, Option.toList_none, List.cons_append, List.nil_append, true_or, or_true, and_true, false_or, or_false, Int.reduceEq, Int.reduceLT, Int.reduceLE, Int.reduceNeg, not_true_eq_false, not_false_eq_true, Bool.and_eq_true, Bool.or_eq_true, decide_eq_true_eq, ↓reduceIte, b2i_0, b2i_01, b2i_01c, Nat.add_left_cancel_iff, Nat.add_eq_left, Nat.left_eq_add, Nat.reduceEqDiff, false_and, and_false, Bool.false_eq_true, Bool.true_eq_false, ↓wr_iadd, ↓wr_isub, ↓wr_imul, wr_id, ↓wl_108_23, ↓wl_108_27, sx_c sx3, sx_r4 sx3, sk_c ska3, sx_r3 sx3, sx_c sx3, sx_r4 sx3, sk_c skb3, sx_r3 sx3, nu2, nu3, ee, Int.reduceEq]
          exact fin
      · rw [e3] at eR
        have sx3 : SLX x h3 := by rw [SLX_same fr3.2.1 fr3.2.2.1]; exact sx2
        have fin := hQ h3 d3 s3 (MF_tr mf2 (MF_FR (Or.inl rfl) hx fr3)) sx3 m3 (AG_FR fr3 (by omega) agb2) (by rw [f3]; exact eF) (by rw [n3]; exact eN)
        rw [← eR] at fin
        have fin : Q (some (aI 2)) h3 := fin
        clear ih
        simp (maxSteps := 2000000) (disch := omega) only [↓wb_const, ↓wb_lconst, ↓wb_null, ↓wb_iload, ↓wb_lload, ↓wb_aload, ↓wb_istore, ↓wb_lstore, ↓wb_astore, ↓wb_iinc, ↓wb_iand, ↓wb_ior, ↓wb_ishr, ↓wb_idiv, ↓wb_irem, ↓wb_ladd, ↓wb_lsub, ↓wb_land, ↓wb_lor, ↓wb_lxor, ↓wb_lneg, ↓wb_lushr, ↓wb_lshl, ↓wb_l2i, ↓wb_lcmp, ↓wb_dupI, ↓wb_dupR, ↓wb_dup2, ↓wb_popI, ↓wb_popR, ↓wb_getI, ↓wb_getL, ↓wb_getR, ↓wb_putI, ↓wb_putZ, ↓wb_putL, ↓wb_putR, ↓wb_iaload, ↓wb_laload, ↓wb_zaload, ↓wb_aaload, ↓wb_iastore, ↓wb_lastore, ↓wb_zastore, ↓wb_aastore, ↓wb_alen, ↓wb_newI, ↓wb_newL, ↓wb_newZ, ↓wb_newA, ↓wb_new, ↓wb_obj, ↓wb_sld, ↓wb_slen, ↓wb_goto, ↓wb_ifeq, ↓wb_iceq, ↓wb_ifne, ↓wb_icne, ↓wb_iflt, ↓wb_iclt, ↓wb_ifge, ↓wb_icge, ↓wb_ifgt, ↓wb_icgt, ↓wb_ifle, ↓wb_icle, ↓wb_ifnull, ↓wb_ifnonnull, ↓wb_ret, ↓wb_iret, ↓wb_lret, ↓wb_aret, ↓wb_zret, ↓wb_tsw0, ↓wb_tsw1, ↓wb_lsw0, ↓wb_lsw1, ↓wb_calls0, ↓wb_calls1, ↓wb_callv1, ↓wb_calls2, ↓wb_callv2, ↓wb_calls3, ↓wb_callv3, ↓wb_callv4, ↓wb_callv5, ↓wb_callv6, oB_some, ldI_z, ldI_s, ldL_z, ldL_s, ldR_z, ldR_s, ls1_z, ls1_1n, ls1_1i, ls1_1r, ls1_1l, ls1_s, ls2_z, ls2_1n, ls2_1i, ls2_1r, ls2_1l, ls2_s, List.length_cons, List.length_nil, Nat.reduceAdd, Nat.reduceLT, Nat.reduceLeDiff, Nat.reduceDiv, Nat.reduceMod, Int.reduceToNat, Int.reduceAdd, Nat.zero_add, true_and, Option.toList_some, Option.toList_none, List.cons_append, List.nil_append, true_or, or_true, and_true, false_or, or_false, Int.reduceEq, Int.reduceLT, Int.reduceLE, Int.reduceNeg, not_true_eq_false, not_false_eq_true, Bool.and_eq_true, Bool.or_eq_true, decide_eq_true_eq, ↓reduceIte, b2i_0, b2i_01, b2i_01c, Nat.add_left_cancel_iff, Nat.add_eq_left, Nat.left_eq_add, Nat.reduceEqDiff, false_and, and_false, Bool.false_eq_true, Bool.true_eq_false, ↓wr_iadd, ↓wr_isub, ↓wr_imul, wr_id, ↓wl_108_23, Int.reduceEq]
        exact fin
    · rw [eL] at e; exact absurd e (by simp)
