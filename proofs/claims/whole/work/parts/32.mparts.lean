/-! ===== the reference: parts, expressions, a line more ===== -/
theorem Hp_ext {h h1 : Hp} (a : h.1 = h1.1) (b : h.2.1 = h1.2.1) (c : h.2.2.1 = h1.2.2.1) (d : h.2.2.2.1 = h1.2.2.2.1) (e : h.2.2.2.2 = h1.2.2.2.2) : h = h1 := by
  obtain ⟨h, h2, h3, h4, h5⟩ := h
  obtain ⟨g, g2, g3, g4, g5⟩ := h1
  simp only at a b c d e
  subst a b c d e
  rfl
theorem setI_same {h : Hp} {x k : Nat} {v w : Int} : setI (setI h x k v) x k w = setI h x k w := by
  refine Hp_ext rfl rfl ?_ rfl rfl
  funext y j
  simp only [setI, hI, up2]
  split <;> simp_all
theorem setI_comm {h : Hp} {x k y j : Nat} {v w : Int} (ne : ¬ (x = y ∧ k = j)) : setI (setI h x k v) y j w = setI (setI h y j w) x k v := by
  refine Hp_ext rfl rfl ?_ rfl rfl
  funext z i
  simp only [setI, hI, up2]
  split
  · next a =>
    rw [if_neg (by rintro ⟨b1, b2⟩; exact ne ⟨by omega, by omega⟩)]
  · rfl
theorem setI_id {h : Hp} {x k : Nat} {v : Int} (e : hI h x k = v) : setI h x k v = h := by
  refine Hp_ext rfl rfl ?_ rfl rfl
  funext z i
  simp only [setI, up2]
  split
  · next a => rw [a.1, a.2, ← e]; rfl
  · rfl
/-- the last q of q .. p - 1 with P, or z -/
def lastP (P : Int → Bool) (p : Int) : Nat → Int → Int → Int
  | 0, _, z => z
  | f + 1, q, z => if q < p then lastP P p f (q + 1) (if P q = true then q else z) else z
/-- how many of q .. p - 1 have P, and c -/
def cntP (P : Int → Bool) (p : Int) : Nat → Int → Int → Int
  | 0, _, c => c
  | f + 1, q, c => if q < p then cntP P p f (q + 1) (if P q = true then c + 1 else c) else c
theorem lastP_le {P : Int → Bool} {p : Int} : ∀ {f : Nat} {q z : Int}, -1 ≤ z → z < q → 0 ≤ q → q ≤ p → -1 ≤ lastP P p f q z ∧ lastP P p f q z < p
  | 0, q, z, h1, h2, h0, h3 => ⟨h1, by unfold lastP; omega⟩
  | f + 1, q, z, h1, h2, h0, h3 => by
    unfold lastP
    split
    · refine lastP_le ?_ ?_ (by omega) (by omega)
      · split <;> omega
      · split <;> omega
    · omega
theorem cntP_le {P : Int → Bool} {p : Int} : ∀ {f : Nat} {q c : Int}, q ≤ p → c ≤ cntP P p f q c ∧ cntP P p f q c ≤ c + (p - q)
  | 0, q, c, h => by unfold cntP; omega
  | f + 1, q, c, h => by
    unfold cntP
    split
    · have := cntP_le (P := P) (p := p) (f := f) (q := q + 1) (c := if P q = true then c + 1 else c) (by omega)
      split at this <;> simp_all <;> omega
    · omega
/-- the IF or WHILE of an ELSE or CLOSE -/
def bgo (K : Int → Int) (n p : Int) : Int := lastP (fun q => bgn (K q) && (decide (clo K n q = p) || decide (els K n q = p))) p p.toNat 0 (-1)
theorem mc_beginOf {sc : Scr} {o : Nat} {h : Hp} {Q : Option AV → Hp → Prop} (s : SM o h) {g p n : Int} (g0 : 0 ≤ g) (g1 : g < 16) (p0 : 0 ≤ p) (hn : hI h (o + 1) g.toNat = n) (pn : p ≤ n) (n1 : n ≤ 60) : WC sc 118 [aR o, aI g, aI p] h Q = Q (some (aI (bgo (mK o h g) n p))) h := by
  have n0 : 0 ≤ n := by omega
  have loop : ∀ (f : Nat) (q z : Int), (p - q).toNat = f → 0 ≤ q → q ≤ p → WB sc 118 (BL 118 4) [some (aR o), some (aI g), some (aI p), some (aI z), some (aI q)] [] h Q = Q (some (aI (lastP (fun q => bgn (mK o h g q) && (decide (clo (mK o h g) n q = p) || decide (els (mK o h g) n q = p))) p f q z))) h := by
    intro f
    induction f with
    | zero =>
      intro q z hf q0 q1
      rw [bl_118_4]
      simp (disch := omega) only [↓wb_const, ↓wb_lconst, ↓wb_null, ↓wb_iload, ↓wb_lload, ↓wb_aload, ↓wb_istore, ↓wb_lstore, ↓wb_astore, ↓wb_iinc, ↓wb_iadd, ↓wb_isub, ↓wb_imul, ↓wb_iand, ↓wb_ior, ↓wb_ishr, ↓wb_idiv, ↓wb_irem, ↓wb_ladd, ↓wb_lsub, ↓wb_land, ↓wb_lor, ↓wb_lxor, ↓wb_lneg, ↓wb_lushr, ↓wb_lshl, ↓wb_l2i, ↓wb_lcmp, ↓wb_dupI, ↓wb_dupR, ↓wb_dup2, ↓wb_popI, ↓wb_popR, ↓wb_getI, ↓wb_getL, ↓wb_getR, ↓wb_putI, ↓wb_putZ, ↓wb_putL, ↓wb_putR, ↓wb_iaload, ↓wb_laload, ↓wb_zaload, ↓wb_aaload, ↓wb_iastore, ↓wb_lastore, ↓wb_zastore, ↓wb_aastore, ↓wb_alen, ↓wb_newI, ↓wb_newL, ↓wb_newZ, ↓wb_newA, ↓wb_new, ↓wb_obj, ↓wb_sld, ↓wb_slen, ↓wb_goto, ↓wb_ifeq, ↓wb_iceq, ↓wb_ifne, ↓wb_icne, ↓wb_iflt, ↓wb_iclt, ↓wb_ifge, ↓wb_icge, ↓wb_ifgt, ↓wb_icgt, ↓wb_ifle, ↓wb_icle, ↓wb_ifnull, ↓wb_ifnonnull, ↓wb_ret, ↓wb_iret, ↓wb_lret, ↓wb_aret, ↓wb_zret, ↓wb_tsw0, ↓wb_tsw1, ↓wb_lsw0, ↓wb_lsw1, ↓wb_calls0, ↓wb_calls1, ↓wb_callv1, ↓wb_calls2, ↓wb_callv2, ↓wb_calls3, ↓wb_callv3, ↓wb_callv4, ↓wb_callv5, ↓wb_callv6, oB_some, ldI_z, ldI_s, ldL_z, ldL_s, ldR_z, ldR_s, ls1_z, ls1_1n, ls1_1i, ls1_1r, ls1_1l, ls1_s, ls2_z, ls2_1n, ls2_1i, ls2_1r, ls2_1l, ls2_s, List.length_cons, List.length_nil, Nat.reduceAdd, Nat.reduceLT, Nat.reduceLeDiff, Nat.reduceDiv, Nat.reduceMod, Int.reduceToNat, Int.reduceAdd, Nat.zero_add, true_and, Option.toList_some, Option.toList_none, List.cons_append, List.nil_append, true_or, or_true, and_true, false_or, or_false, Int.reduceEq, Int.reduceLT, Int.reduceLE, Int.reduceNeg, not_true_eq_false, not_false_eq_true, Bool.and_eq_true, Bool.or_eq_true, decide_eq_true_eq, ↓reduceIte, wr_id, b2i_0, b2i_01, Bool.false_eq_true, Bool.true_eq_false, bl_118_31]
      rw [if_pos (by omega)]
      rfl
    | succ f ih =>
      intro q z hf q0 q1
      rw [bl_118_4]
      simp (disch := omega) only [↓wb_const, ↓wb_lconst, ↓wb_null, ↓wb_iload, ↓wb_lload, ↓wb_aload, ↓wb_istore, ↓wb_lstore, ↓wb_astore, ↓wb_iinc, ↓wb_iadd, ↓wb_isub, ↓wb_imul, ↓wb_iand, ↓wb_ior, ↓wb_ishr, ↓wb_idiv, ↓wb_irem, ↓wb_ladd, ↓wb_lsub, ↓wb_land, ↓wb_lor, ↓wb_lxor, ↓wb_lneg, ↓wb_lushr, ↓wb_lshl, ↓wb_l2i, ↓wb_lcmp, ↓wb_dupI, ↓wb_dupR, ↓wb_dup2, ↓wb_popI, ↓wb_popR, ↓wb_getI, ↓wb_getL, ↓wb_getR, ↓wb_putI, ↓wb_putZ, ↓wb_putL, ↓wb_putR, ↓wb_iaload, ↓wb_laload, ↓wb_zaload, ↓wb_aaload, ↓wb_iastore, ↓wb_lastore, ↓wb_zastore, ↓wb_aastore, ↓wb_alen, ↓wb_newI, ↓wb_newL, ↓wb_newZ, ↓wb_newA, ↓wb_new, ↓wb_obj, ↓wb_sld, ↓wb_slen, ↓wb_goto, ↓wb_ifeq, ↓wb_iceq, ↓wb_ifne, ↓wb_icne, ↓wb_iflt, ↓wb_iclt, ↓wb_ifge, ↓wb_icge, ↓wb_ifgt, ↓wb_icgt, ↓wb_ifle, ↓wb_icle, ↓wb_ifnull, ↓wb_ifnonnull, ↓wb_ret, ↓wb_iret, ↓wb_lret, ↓wb_aret, ↓wb_zret, ↓wb_tsw0, ↓wb_tsw1, ↓wb_lsw0, ↓wb_lsw1, ↓wb_calls0, ↓wb_calls1, ↓wb_callv1, ↓wb_calls2, ↓wb_callv2, ↓wb_calls3, ↓wb_callv3, ↓wb_callv4, ↓wb_callv5, ↓wb_callv6, oB_some, ldI_z, ldI_s, ldL_z, ldL_s, ldR_z, ldR_s, ls1_z, ls1_1n, ls1_1i, ls1_1r, ls1_1l, ls1_s, ls2_z, ls2_1n, ls2_1i, ls2_1r, ls2_1l, ls2_s, List.length_cons, List.length_nil, Nat.reduceAdd, Nat.reduceLT, Nat.reduceLeDiff, Nat.reduceDiv, Nat.reduceMod, Int.reduceToNat, Int.reduceAdd, Nat.zero_add, true_and, Option.toList_some, Option.toList_none, List.cons_append, List.nil_append, true_or, or_true, and_true, false_or, or_false, Int.reduceEq, Int.reduceLT, Int.reduceLE, Int.reduceNeg, not_true_eq_false, not_false_eq_true, Bool.and_eq_true, Bool.or_eq_true, decide_eq_true_eq, ↓reduceIte, wr_id, b2i_0, b2i_01, Bool.false_eq_true, Bool.true_eq_false, bl_118_27, bl_118_29, bl_118_31, sm_c s, sm_r1 s, sm_a1 s, sm_r2 s, sm_a2 s, hn, mc_begins s, mc_clo s g0 g1, mc_elseOf s g0 g1, ih]
      clear ih
      simp only [lastP, mK, show q < p by omega, show 0 ≤ 60 * g + q by omega, show 60 * g + q < 960 by omega, show ¬ p ≤ q by omega, true_and, ↓reduceIte]
      repeat' split
      all_goals first | rfl | (exfalso; omega) | simp_all
  rw [wc_118]
  simp (disch := omega) only [↓wb_const, ↓wb_lconst, ↓wb_null, ↓wb_iload, ↓wb_lload, ↓wb_aload, ↓wb_istore, ↓wb_lstore, ↓wb_astore, ↓wb_iinc, ↓wb_iadd, ↓wb_isub, ↓wb_imul, ↓wb_iand, ↓wb_ior, ↓wb_ishr, ↓wb_idiv, ↓wb_irem, ↓wb_ladd, ↓wb_lsub, ↓wb_land, ↓wb_lor, ↓wb_lxor, ↓wb_lneg, ↓wb_lushr, ↓wb_lshl, ↓wb_l2i, ↓wb_lcmp, ↓wb_dupI, ↓wb_dupR, ↓wb_dup2, ↓wb_popI, ↓wb_popR, ↓wb_getI, ↓wb_getL, ↓wb_getR, ↓wb_putI, ↓wb_putZ, ↓wb_putL, ↓wb_putR, ↓wb_iaload, ↓wb_laload, ↓wb_zaload, ↓wb_aaload, ↓wb_iastore, ↓wb_lastore, ↓wb_zastore, ↓wb_aastore, ↓wb_alen, ↓wb_newI, ↓wb_newL, ↓wb_newZ, ↓wb_newA, ↓wb_new, ↓wb_obj, ↓wb_sld, ↓wb_slen, ↓wb_goto, ↓wb_ifeq, ↓wb_iceq, ↓wb_ifne, ↓wb_icne, ↓wb_iflt, ↓wb_iclt, ↓wb_ifge, ↓wb_icge, ↓wb_ifgt, ↓wb_icgt, ↓wb_ifle, ↓wb_icle, ↓wb_ifnull, ↓wb_ifnonnull, ↓wb_ret, ↓wb_iret, ↓wb_lret, ↓wb_aret, ↓wb_zret, ↓wb_tsw0, ↓wb_tsw1, ↓wb_lsw0, ↓wb_lsw1, ↓wb_calls0, ↓wb_calls1, ↓wb_callv1, ↓wb_calls2, ↓wb_callv2, ↓wb_calls3, ↓wb_callv3, ↓wb_callv4, ↓wb_callv5, ↓wb_callv6, oB_some, ldI_z, ldI_s, ldL_z, ldL_s, ldR_z, ldR_s, ls1_z, ls1_1n, ls1_1i, ls1_1r, ls1_1l, ls1_s, ls2_z, ls2_1n, ls2_1i, ls2_1r, ls2_1l, ls2_s, List.length_cons, List.length_nil, Nat.reduceAdd, Nat.reduceLT, Nat.reduceLeDiff, Nat.reduceDiv, Nat.reduceMod, Int.reduceToNat, Int.reduceAdd, Nat.zero_add, true_and, Option.toList_some, Option.toList_none, List.cons_append, List.nil_append, true_or, or_true, and_true, false_or, or_false, Int.reduceEq, Int.reduceLT, Int.reduceLE, Int.reduceNeg, not_true_eq_false, not_false_eq_true, Bool.and_eq_true, Bool.or_eq_true, decide_eq_true_eq, ↓reduceIte, wr_id, b2i_0, b2i_01, Bool.false_eq_true, Bool.true_eq_false, bl_118_0]
  rw [loop p.toNat 0 (-1) (by omega) (by omega) (by omega)]
  rfl
/-- the reference's scratch: how many parts are open, and of them WHILES -/
def st2 (o : Nat) (h : Hp) (a b : Int) : Hp := setI (setI h o 21 a) o 22 b
theorem st2_a {o : Nat} {h : Hp} {a b c : Int} : setI (st2 o h a b) o 21 c = st2 o h c b := by unfold st2; rw [setI_comm (by omega), setI_same]
theorem st2_b {o : Nat} {h : Hp} {a b c : Int} : setI (st2 o h a b) o 22 c = st2 o h a c := by unfold st2; rw [setI_same]
theorem st2_ra {o : Nat} {h : Hp} {a b : Int} : hI (st2 o h a b) o 21 = a := by unfold st2; simp [hI_setI]
theorem st2_rb {o : Nat} {h : Hp} {a b : Int} : hI (st2 o h a b) o 22 = b := by unfold st2; simp [hI_setI]
theorem st2_r {o : Nat} {h : Hp} {a b : Int} {y j : Nat} (ne : ¬ (y = o ∧ (j = 21 ∨ j = 22))) : hI (st2 o h a b) y j = hI h y j := by
  unfold st2
  rw [hI_setI, if_neg (by omega), hI_setI, if_neg (by omega)]
theorem st2_R {o : Nat} {h : Hp} {a b : Int} : hR (st2 o h a b) = hR h := rfl
theorem st2_L {o : Nat} {h : Hp} {a b : Int} : hL (st2 o h a b) = hL h := rfl
theorem st2_T {o : Nat} {h : Hp} {a b : Int} : hT (st2 o h a b) = hT h := rfl
theorem st2_N {o : Nat} {h : Hp} {a b : Int} : hN (st2 o h a b) = hN h := rfl
theorem st2_S {o : Nat} {h : Hp} {a b : Int} : hS (st2 o h a b) = hS h := rfl
theorem st2_O {o : Nat} {h : Hp} {a b : Int} {y c : Nat} : isO (st2 o h a b) y c = isO h y c := rfl
theorem st2_A {o : Nat} {h : Hp} {a b i : Int} {y t : Nat} : inA (st2 o h a b) y t i = inA h y t i := rfl
theorem st2_M {o : Nat} {h : Hp} {a b : Int} : SM o (st2 o h a b) = SM o h := by unfold st2; rw [SM_setI, SM_setI]
theorem st2_K {o : Nat} {h : Hp} {a b g : Int} : mK o (st2 o h a b) g = mK o h g := by
  funext q
  unfold mK
  exact st2_r (by omega)
theorem st2_st2 {o : Nat} {h : Hp} {a b c d : Int} : st2 o (st2 o h a b) c d = st2 o h c d := by
  rw [show st2 o (st2 o h a b) c d = setI (setI (st2 o h a b) o 21 c) o 22 d from rfl, st2_a, st2_b]
def opP (K : Int → Int) (n q : Int) : Bool := bgn (K q) && decide (clo K n q = n)
def opW (K : Int → Int) (n q : Int) : Bool := opP K n q && decide (K q = 5)
/-- the latest open part, how many are open, and of them WHILES -/
def opn (K : Int → Int) (n : Int) : Int := lastP (opP K n) n n.toNat 0 (-1)
def opc (K : Int → Int) (n : Int) : Int := cntP (opP K n) n n.toNat 0 0
def opw (K : Int → Int) (n : Int) : Int := cntP (opW K n) n n.toNat 0 0
theorem mc_openPart {sc : Scr} {o : Nat} {h : Hp} {Q : Option AV → Hp → Prop} (s : SM o h) {g n : Int} (g0 : 0 ≤ g) (g1 : g < 16) (hn : hI h (o + 1) g.toNat = n) (n0 : 0 ≤ n) (n1 : n ≤ 60) : WC sc 119 [aR o, aI g] h Q = Q (some (aI (opn (mK o h g) n))) (st2 o h (opc (mK o h g) n) (opw (mK o h g) n)) := by
  have loop : ∀ (f : Nat) (q z a b : Int), (n - q).toNat = f → 0 ≤ q → q ≤ n → 0 ≤ a → a ≤ q → 0 ≤ b → b ≤ q → WB sc 119 (BL 119 10) [some (aR o), some (aI g), some (aI z), some (aI q)] [] (st2 o h a b) Q = Q (some (aI (lastP (opP (mK o h g) n) n f q z))) (st2 o h (cntP (opP (mK o h g) n) n f q a) (cntP (opW (mK o h g) n) n f q b)) := by
    intro f
    induction f with
    | zero =>
      intro q z a b hf q0 q1 a0 a1 b0 b1
      rw [bl_119_10]
      have s2 : SM o (st2 o h a b) := by rw [st2_M]; exact s
      have hn2 : hI (st2 o h a b) (o + 1) g.toNat = n := by rw [st2_r (by omega)]; exact hn
      simp (disch := omega) only [↓wb_const, ↓wb_lconst, ↓wb_null, ↓wb_iload, ↓wb_lload, ↓wb_aload, ↓wb_istore, ↓wb_lstore, ↓wb_astore, ↓wb_iinc, ↓wb_iadd, ↓wb_isub, ↓wb_imul, ↓wb_iand, ↓wb_ior, ↓wb_ishr, ↓wb_idiv, ↓wb_irem, ↓wb_ladd, ↓wb_lsub, ↓wb_land, ↓wb_lor, ↓wb_lxor, ↓wb_lneg, ↓wb_lushr, ↓wb_lshl, ↓wb_l2i, ↓wb_lcmp, ↓wb_dupI, ↓wb_dupR, ↓wb_dup2, ↓wb_popI, ↓wb_popR, ↓wb_getI, ↓wb_getL, ↓wb_getR, ↓wb_putI, ↓wb_putZ, ↓wb_putL, ↓wb_putR, ↓wb_iaload, ↓wb_laload, ↓wb_zaload, ↓wb_aaload, ↓wb_iastore, ↓wb_lastore, ↓wb_zastore, ↓wb_aastore, ↓wb_alen, ↓wb_newI, ↓wb_newL, ↓wb_newZ, ↓wb_newA, ↓wb_new, ↓wb_obj, ↓wb_sld, ↓wb_slen, ↓wb_goto, ↓wb_ifeq, ↓wb_iceq, ↓wb_ifne, ↓wb_icne, ↓wb_iflt, ↓wb_iclt, ↓wb_ifge, ↓wb_icge, ↓wb_ifgt, ↓wb_icgt, ↓wb_ifle, ↓wb_icle, ↓wb_ifnull, ↓wb_ifnonnull, ↓wb_ret, ↓wb_iret, ↓wb_lret, ↓wb_aret, ↓wb_zret, ↓wb_tsw0, ↓wb_tsw1, ↓wb_lsw0, ↓wb_lsw1, ↓wb_calls0, ↓wb_calls1, ↓wb_callv1, ↓wb_calls2, ↓wb_callv2, ↓wb_calls3, ↓wb_callv3, ↓wb_callv4, ↓wb_callv5, ↓wb_callv6, oB_some, ldI_z, ldI_s, ldL_z, ldL_s, ldR_z, ldR_s, ls1_z, ls1_1n, ls1_1i, ls1_1r, ls1_1l, ls1_s, ls2_z, ls2_1n, ls2_1i, ls2_1r, ls2_1l, ls2_s, List.length_cons, List.length_nil, Nat.reduceAdd, Nat.reduceLT, Nat.reduceLeDiff, Nat.reduceDiv, Nat.reduceMod, Int.reduceToNat, Int.reduceAdd, Nat.zero_add, true_and, Option.toList_some, Option.toList_none, List.cons_append, List.nil_append, true_or, or_true, and_true, false_or, or_false, Int.reduceEq, Int.reduceLT, Int.reduceLE, Int.reduceNeg, not_true_eq_false, not_false_eq_true, Bool.and_eq_true, Bool.or_eq_true, decide_eq_true_eq, ↓reduceIte, wr_id, b2i_0, b2i_01, Bool.false_eq_true, Bool.true_eq_false, bl_119_61, sm_c s2, sm_r1 s2, sm_a1 s2, st2_r, hn]
      rw [if_pos (by omega)]
      simp [lastP, cntP, g0, g1]
    | succ f ih =>
      intro q z a b hf q0 q1 a0 a1 b0 b1
      rw [bl_119_10]
      have s2 : SM o (st2 o h a b) := by rw [st2_M]; exact s
      have hn2 : hI (st2 o h a b) (o + 1) g.toNat = n := by rw [st2_r (by omega)]; exact hn
      simp (disch := omega) only [↓wb_const, ↓wb_lconst, ↓wb_null, ↓wb_iload, ↓wb_lload, ↓wb_aload, ↓wb_istore, ↓wb_lstore, ↓wb_astore, ↓wb_iinc, ↓wb_iadd, ↓wb_isub, ↓wb_imul, ↓wb_iand, ↓wb_ior, ↓wb_ishr, ↓wb_idiv, ↓wb_irem, ↓wb_ladd, ↓wb_lsub, ↓wb_land, ↓wb_lor, ↓wb_lxor, ↓wb_lneg, ↓wb_lushr, ↓wb_lshl, ↓wb_l2i, ↓wb_lcmp, ↓wb_dupI, ↓wb_dupR, ↓wb_dup2, ↓wb_popI, ↓wb_popR, ↓wb_getI, ↓wb_getL, ↓wb_getR, ↓wb_putI, ↓wb_putZ, ↓wb_putL, ↓wb_putR, ↓wb_iaload, ↓wb_laload, ↓wb_zaload, ↓wb_aaload, ↓wb_iastore, ↓wb_lastore, ↓wb_zastore, ↓wb_aastore, ↓wb_alen, ↓wb_newI, ↓wb_newL, ↓wb_newZ, ↓wb_newA, ↓wb_new, ↓wb_obj, ↓wb_sld, ↓wb_slen, ↓wb_goto, ↓wb_ifeq, ↓wb_iceq, ↓wb_ifne, ↓wb_icne, ↓wb_iflt, ↓wb_iclt, ↓wb_ifge, ↓wb_icge, ↓wb_ifgt, ↓wb_icgt, ↓wb_ifle, ↓wb_icle, ↓wb_ifnull, ↓wb_ifnonnull, ↓wb_ret, ↓wb_iret, ↓wb_lret, ↓wb_aret, ↓wb_zret, ↓wb_tsw0, ↓wb_tsw1, ↓wb_lsw0, ↓wb_lsw1, ↓wb_calls0, ↓wb_calls1, ↓wb_callv1, ↓wb_calls2, ↓wb_callv2, ↓wb_calls3, ↓wb_callv3, ↓wb_callv4, ↓wb_callv5, ↓wb_callv6, oB_some, ldI_z, ldI_s, ldL_z, ldL_s, ldR_z, ldR_s, ls1_z, ls1_1n, ls1_1i, ls1_1r, ls1_1l, ls1_s, ls2_z, ls2_1n, ls2_1i, ls2_1r, ls2_1l, ls2_s, List.length_cons, List.length_nil, Nat.reduceAdd, Nat.reduceLT, Nat.reduceLeDiff, Nat.reduceDiv, Nat.reduceMod, Int.reduceToNat, Int.reduceAdd, Nat.zero_add, true_and, Option.toList_some, Option.toList_none, List.cons_append, List.nil_append, true_or, or_true, and_true, false_or, or_false, Int.reduceEq, Int.reduceLT, Int.reduceLE, Int.reduceNeg, not_true_eq_false, not_false_eq_true, Bool.and_eq_true, Bool.or_eq_true, decide_eq_true_eq, ↓reduceIte, wr_id, b2i_0, b2i_01, Bool.false_eq_true, Bool.true_eq_false, bl_119_56, bl_119_57, bl_119_59, bl_119_61, sm_c s2, sm_r1 s2, sm_a1 s2, sm_r2 s2, sm_a2 s2, st2_ra, st2_rb, st2_a, st2_b, st2_r, st2_O, st2_A, st2_R, sm_c s, sm_r1 s, sm_a1 s, sm_r2 s, sm_a2 s, hn, st2_K, mc_begins s2, mc_clo (n := n) s2 g0 g1, ih]
      clear ih
      simp only [lastP, cntP, opP, opW, mK, g0, g1, show q < n by omega, show 0 ≤ 60 * g + q by omega, show 60 * g + q < 960 by omega, show ¬ n ≤ q by omega, true_and, ↓reduceIte]
      repeat' split
      all_goals first | rfl | (exfalso; omega) | simp_all
  rw [wc_119]
  simp (disch := omega) only [↓wb_const, ↓wb_lconst, ↓wb_null, ↓wb_iload, ↓wb_lload, ↓wb_aload, ↓wb_istore, ↓wb_lstore, ↓wb_astore, ↓wb_iinc, ↓wb_iadd, ↓wb_isub, ↓wb_imul, ↓wb_iand, ↓wb_ior, ↓wb_ishr, ↓wb_idiv, ↓wb_irem, ↓wb_ladd, ↓wb_lsub, ↓wb_land, ↓wb_lor, ↓wb_lxor, ↓wb_lneg, ↓wb_lushr, ↓wb_lshl, ↓wb_l2i, ↓wb_lcmp, ↓wb_dupI, ↓wb_dupR, ↓wb_dup2, ↓wb_popI, ↓wb_popR, ↓wb_getI, ↓wb_getL, ↓wb_getR, ↓wb_putI, ↓wb_putZ, ↓wb_putL, ↓wb_putR, ↓wb_iaload, ↓wb_laload, ↓wb_zaload, ↓wb_aaload, ↓wb_iastore, ↓wb_lastore, ↓wb_zastore, ↓wb_aastore, ↓wb_alen, ↓wb_newI, ↓wb_newL, ↓wb_newZ, ↓wb_newA, ↓wb_new, ↓wb_obj, ↓wb_sld, ↓wb_slen, ↓wb_goto, ↓wb_ifeq, ↓wb_iceq, ↓wb_ifne, ↓wb_icne, ↓wb_iflt, ↓wb_iclt, ↓wb_ifge, ↓wb_icge, ↓wb_ifgt, ↓wb_icgt, ↓wb_ifle, ↓wb_icle, ↓wb_ifnull, ↓wb_ifnonnull, ↓wb_ret, ↓wb_iret, ↓wb_lret, ↓wb_aret, ↓wb_zret, ↓wb_tsw0, ↓wb_tsw1, ↓wb_lsw0, ↓wb_lsw1, ↓wb_calls0, ↓wb_calls1, ↓wb_callv1, ↓wb_calls2, ↓wb_callv2, ↓wb_calls3, ↓wb_callv3, ↓wb_callv4, ↓wb_callv5, ↓wb_callv6, oB_some, ldI_z, ldI_s, ldL_z, ldL_s, ldR_z, ldR_s, ls1_z, ls1_1n, ls1_1i, ls1_1r, ls1_1l, ls1_s, ls2_z, ls2_1n, ls2_1i, ls2_1r, ls2_1l, ls2_s, List.length_cons, List.length_nil, Nat.reduceAdd, Nat.reduceLT, Nat.reduceLeDiff, Nat.reduceDiv, Nat.reduceMod, Int.reduceToNat, Int.reduceAdd, Nat.zero_add, true_and, Option.toList_some, Option.toList_none, List.cons_append, List.nil_append, true_or, or_true, and_true, false_or, or_false, Int.reduceEq, Int.reduceLT, Int.reduceLE, Int.reduceNeg, not_true_eq_false, not_false_eq_true, Bool.and_eq_true, Bool.or_eq_true, decide_eq_true_eq, ↓reduceIte, wr_id, b2i_0, b2i_01, Bool.false_eq_true, Bool.true_eq_false, bl_119_0, sm_c s, isO_setI]
  have e0 : setI (setI h o 21 0) o 22 0 = st2 o h 0 0 := rfl
  rw [e0, loop n.toNat 0 (-1) 0 0 (by omega) (by omega) (by omega) (by omega) (by omega) (by omega) (by omega)]
  rfl
