/-! ===== the class: walking outwards, what is behind, sets of lines ===== -/
theorem oEqT {x y : Int} (h : x = y) : (x = y) = True := eq_true h
theorem oEqF {x y : Int} (h : ¬ x = y) : (x = y) = False := eq_false h
theorem oLtT {x y : Int} (h : x < y) : (x < y) = True := eq_true h
theorem oLtF {x y : Int} (h : ¬ x < y) : (x < y) = False := eq_false h
theorem oLeT {x y : Int} (h : x ≤ y) : (x ≤ y) = True := eq_true h
theorem oLeF {x y : Int} (h : ¬ x ≤ y) : (x ≤ y) = False := eq_false h
theorem PI_sp {c : Nat} {h : Hp} {n : Nat} (p : PI c h n) : SP c h := p.1
theorem PI_n {c : Nat} {h : Hp} {n : Nat} (p : PI c h n) : hI h c 12 = n := p.2.1
theorem PI_60 {c : Nat} {h : Hp} {n : Nat} (p : PI c h n) : n ≤ 60 := p.2.2.1
theorem PI_wf {c : Nat} {h : Hp} {n : Nat} (p : PI c h n) : WF (cK c h) (cX c h) (cE c h) n := p.2.2.2.1
theorem PI_op {c : Nat} {h : Hp} {n : Nat} (p : PI c h n) : hI h c 13 = hdI (stk (cK c h) n) := p.2.2.2.2.1
theorem PI_oc {c : Nat} {h : Hp} {n : Nat} (p : PI c h n) : hI h c 14 = (stk (cK c h) n).length := p.2.2.2.2.2.1
theorem PI_ar {c : Nat} {h : Hp} {n q : Nat} (p : PI c h n) (hq : q < n) : hI h (c + 4) q = hdI (stk (cK c h) q) := (p.2.2.2.2.2.2 q hq).1
theorem PI_dp {c : Nat} {h : Hp} {n q : Nat} (p : PI c h n) (hq : q < n) : hI h (c + 5) q = (stk (cK c h) q).length := (p.2.2.2.2.2.2 q hq).2.1
theorem PI_cl {c : Nat} {h : Hp} {n q : Nat} (p : PI c h n) (hq : q < n) : hI h (c + 6) q = clC (cK c h) n q := (p.2.2.2.2.2.2 q hq).2.2.1
theorem PI_el {c : Nat} {h : Hp} {n q : Nat} (p : PI c h n) (hq : q < n) : hI h (c + 7) q = elC (cK c h) n q := (p.2.2.2.2.2.2 q hq).2.2.2.1
theorem PI_nl {c : Nat} {h : Hp} {n q : Nat} (p : PI c h n) (hq : q < n) : hI h (c + 8) q = nmL (cK c h q) (cE c h q) := (p.2.2.2.2.2.2 q hq).2.2.2.2.1
theorem PI_nr {c : Nat} {h : Hp} {n q : Nat} (p : PI c h n) (hq : q < n) : hI h (c + 9) q = nmR (cK c h q) (cE c h q) := (p.2.2.2.2.2.2 q hq).2.2.2.2.2.1
theorem PI_np {c : Nat} {h : Hp} {n q : Nat} (p : PI c h n) (hq : q < n) : hI h (c + 10) q = nmP (cK c h q) (cX c h q) := (p.2.2.2.2.2.2 q hq).2.2.2.2.2.2.1
theorem PI_x {c : Nat} {h : Hp} {n q : Nat} (p : PI c h n) (hq : q < n) : inR (cX c h q) := (p.2.2.2.2.2.2 q hq).2.2.2.2.2.2.2.1
theorem PI_e {c : Nat} {h : Hp} {n q : Nat} (p : PI c h n) (hq : q < n) : inR (cE c h q) := (p.2.2.2.2.2.2 q hq).2.2.2.2.2.2.2.2
theorem cK_n {c : Nat} {h : Hp} {b : Nat} : hI h (c + 1) b = cK c h b := by unfold cK; rw [Int.toNat_natCast]
theorem cX_n {c : Nat} {h : Hp} {b : Nat} : hI h (c + 2) b = cX c h b := by unfold cX; rw [Int.toNat_natCast]
theorem cE_n {c : Nat} {h : Hp} {b : Nat} : hI h (c + 3) b = cE c h b := by unfold cE; rw [Int.toNat_natCast]
theorem stk_12 {K X E : Int → Int} {n : Nat} (w : WF K X E n) : ∀ q : Nat, q ≤ n → (stk K q).length ≤ 12
  | 0, _ => by show 0 ≤ 12; decide
  | q + 1, h => by
    have ih := stk_12 w q (by omega)
    by_cases h1 : bgn (K q) = true
    · rw [stk_b h1]
      have r := (w q (by omega)).2
      have hk : opc K q < 12 := by
        simp only [bgn, Bool.or_eq_true, decide_eq_true_eq] at h1
        rcases h1 with h1 | h1
        · rw [h1] at r; exact (rt_3 r).2.2
        · rw [h1] at r; exact (rt_5 r).2.2
      rw [opc_len (SV_le (WF_SV w) (by omega))] at hk
      simp only [List.length_cons]
      omega
    · by_cases h2 : K q = 6
      · rw [stk_6 h2, List.length_tail]
        omega
      · rw [stk_o h1 h2]; exact ih
/-- how many of the innermost WHILES, so many at most, are in A -/
def wcF (K : Int → Int) (A : Nat → Bool) (most : Int) : List Nat → Int → Int → Int
  | [], _, c => c
  | b :: t, m, c => if m < most then (if K b = 5 then wcF K A most t (m + 1) (if A b = true then c + 1 else c) else wcF K A most t m c) else c
theorem pc_whilesAround {sc : Scr} {c : Nat} {h : Hp} {Q : Option AV → Hp → Prop} {n : Nat} (pi : PI c h n) {most : Int} {w : BitVec 64} {q : Nat} (hq : q ≤ n) {part : Int} (hp : part = hdI (stk (cK c h) q)) : WC sc 47 [aR c, aI part, aI most, aL w] h Q = Q (some (aI (wcF (cK c h) (fun b => w.getLsbD b) most (stk (cK c h) q) 0 0))) h := by
  have sp := PI_sp pi
  have n60 := PI_60 pi
  have loop : ∀ (l : List Nat) (q : Nat) (i m k y : Int), l = stk (cK c h) q → q ≤ n → 0 ≤ i → i + l.length ≤ 12 → 0 ≤ m → m ≤ i → 0 ≤ k → k ≤ i → y = hdI l → WB sc 47 (BL 47 8) [some (aR c), some (aI part), some (aI most), some (aL w), none, some (aI m), some (aI k), some (aI y), some (aI i)] [] h Q = Q (some (aI (wcF (cK c h) (fun b => w.getLsbD b) most l m k))) h := by
    intro l
    induction l with
    | nil =>
      intro q i m k y hl hq i0 i1 m0 m1 k0 k1 hy
      rw [hy, bl_47_8]
      have hd : hdI [] = -1 := rfl
      rw [hd]
      simp (maxSteps := 2000000) (disch := omega) only [↓wb_const, ↓wb_lconst, ↓wb_null, ↓wb_iload, ↓wb_lload, ↓wb_aload, ↓wb_istore, ↓wb_lstore, ↓wb_astore, ↓wb_iinc, ↓wb_iand, ↓wb_ior, ↓wb_ishr, ↓wb_idiv, ↓wb_irem, ↓wb_ladd, ↓wb_lsub, ↓wb_land, ↓wb_lor, ↓wb_lxor, ↓wb_lneg, ↓wb_lushr, ↓wb_lshl, ↓wb_l2i, ↓wb_lcmp, ↓wb_dupI, ↓wb_dupR, ↓wb_dup2, ↓wb_popI, ↓wb_popR, ↓wb_getI, ↓wb_getL, ↓wb_getR, ↓wb_putI, ↓wb_putZ, ↓wb_putL, ↓wb_putR, ↓wb_iaload, ↓wb_laload, ↓wb_zaload, ↓wb_aaload, ↓wb_iastore, ↓wb_lastore, ↓wb_zastore, ↓wb_aastore, ↓wb_alen, ↓wb_newI, ↓wb_newL, ↓wb_newZ, ↓wb_newA, ↓wb_new, ↓wb_obj, ↓wb_sld, ↓wb_slen, ↓wb_goto, ↓wb_ifeq, ↓wb_iceq, ↓wb_ifne, ↓wb_icne, ↓wb_iflt, ↓wb_iclt, ↓wb_ifge, ↓wb_icge, ↓wb_ifgt, ↓wb_icgt, ↓wb_ifle, ↓wb_icle, ↓wb_ifnull, ↓wb_ifnonnull, ↓wb_ret, ↓wb_iret, ↓wb_lret, ↓wb_aret, ↓wb_zret, ↓wb_tsw0, ↓wb_tsw1, ↓wb_lsw0, ↓wb_lsw1, ↓wb_calls0, ↓wb_calls1, ↓wb_callv1, ↓wb_calls2, ↓wb_callv2, ↓wb_calls3, ↓wb_callv3, ↓wb_callv4, ↓wb_callv5, ↓wb_callv6, oB_some, ldI_z, ldI_s, ldL_z, ldL_s, ldR_z, ldR_s, ls1_z, ls1_1n, ls1_1i, ls1_1r, ls1_1l, ls1_s, ls2_z, ls2_1n, ls2_1i, ls2_1r, ls2_1l, ls2_s, List.length_cons, List.length_nil, Nat.reduceAdd, Nat.reduceLT, Nat.reduceLeDiff, Nat.reduceDiv, Nat.reduceMod, Int.reduceToNat, Int.reduceAdd, Nat.zero_add, true_and, Option.toList_some, Option.toList_none, List.cons_append, List.nil_append, true_or, or_true, and_true, false_or, or_false, Int.reduceEq, Int.reduceLT, Int.reduceLE, Int.reduceNeg, not_true_eq_false, not_false_eq_true, Bool.and_eq_true, Bool.or_eq_true, decide_eq_true_eq, ↓reduceIte, b2i_0, b2i_01, Nat.add_left_cancel_iff, Nat.add_eq_left, Nat.left_eq_add, Nat.reduceEqDiff, false_and, and_false, Bool.false_eq_true, Bool.true_eq_false, ↓wr_iadd, ↓wr_isub, ↓wr_imul, wr_id, ↓wl_47_40]
      repeat' (first | split | refine (andT (by omega)).trans ?_)
      all_goals rfl
    | cons b t ih =>
      intro q i m k y hl hq i0 i1 m0 m1 k0 k1 hy
      have hb : b ∈ stk (cK c h) q := by rw [← hl]; exact List.mem_cons_self
      have hbq := stk_lt hb
      have ht := stk_hd hl.symm
      have hd : hdI (b :: t) = (b : Int) := rfl
      rw [hy, hd, bl_47_8]
      simp only [List.length_cons] at i1
      have b1 : (0 ≤ (b : Int) ∧ (b : Int) < 60) = True := by simp; omega
      have ha := PI_ar pi (show b < n by omega)
      rw [← ht] at ha
      have hi : i < 12 := by omega
      have ih1 := fun (m k : Int) (a1 : 0 ≤ m) (a2 : m ≤ i + 1) (a3 : 0 ≤ k) (a4 : k ≤ i + 1) => ih b (i + 1) m k (hdI t) ht (by omega) (by omega) (by omega) a1 a2 a3 a4 rfl
      simp (maxSteps := 2000000) (disch := omega) only [↓wb_const, ↓wb_lconst, ↓wb_null, ↓wb_iload, ↓wb_lload, ↓wb_aload, ↓wb_istore, ↓wb_lstore, ↓wb_astore, ↓wb_iinc, ↓wb_iand, ↓wb_ior, ↓wb_ishr, ↓wb_idiv, ↓wb_irem, ↓wb_ladd, ↓wb_lsub, ↓wb_land, ↓wb_lor, ↓wb_lxor, ↓wb_lneg, ↓wb_lushr, ↓wb_lshl, ↓wb_l2i, ↓wb_lcmp, ↓wb_dupI, ↓wb_dupR, ↓wb_dup2, ↓wb_popI, ↓wb_popR, ↓wb_getI, ↓wb_getL, ↓wb_getR, ↓wb_putI, ↓wb_putZ, ↓wb_putL, ↓wb_putR, ↓wb_iaload, ↓wb_laload, ↓wb_zaload, ↓wb_aaload, ↓wb_iastore, ↓wb_lastore, ↓wb_zastore, ↓wb_aastore, ↓wb_alen, ↓wb_newI, ↓wb_newL, ↓wb_newZ, ↓wb_newA, ↓wb_new, ↓wb_obj, ↓wb_sld, ↓wb_slen, ↓wb_goto, ↓wb_ifeq, ↓wb_iceq, ↓wb_ifne, ↓wb_icne, ↓wb_iflt, ↓wb_iclt, ↓wb_ifge, ↓wb_icge, ↓wb_ifgt, ↓wb_icgt, ↓wb_ifle, ↓wb_icle, ↓wb_ifnull, ↓wb_ifnonnull, ↓wb_ret, ↓wb_iret, ↓wb_lret, ↓wb_aret, ↓wb_zret, ↓wb_tsw0, ↓wb_tsw1, ↓wb_lsw0, ↓wb_lsw1, ↓wb_calls0, ↓wb_calls1, ↓wb_callv1, ↓wb_calls2, ↓wb_callv2, ↓wb_calls3, ↓wb_callv3, ↓wb_callv4, ↓wb_callv5, ↓wb_callv6, oB_some, ldI_z, ldI_s, ldL_z, ldL_s, ldR_z, ldR_s, ls1_z, ls1_1n, ls1_1i, ls1_1r, ls1_1l, ls1_s, ls2_z, ls2_1n, ls2_1i, ls2_1r, ls2_1l, ls2_s, List.length_cons, List.length_nil, Nat.reduceAdd, Nat.reduceLT, Nat.reduceLeDiff, Nat.reduceDiv, Nat.reduceMod, Int.reduceToNat, Int.reduceAdd, Nat.zero_add, true_and, Option.toList_some, Option.toList_none, List.cons_append, List.nil_append, true_or, or_true, and_true, false_or, or_false, Int.reduceEq, Int.reduceLT, Int.reduceLE, Int.reduceNeg, not_true_eq_false, not_false_eq_true, Bool.and_eq_true, Bool.or_eq_true, decide_eq_true_eq, ↓reduceIte, b2i_0, b2i_01, Nat.add_left_cancel_iff, Nat.add_eq_left, Nat.left_eq_add, Nat.reduceEqDiff, false_and, and_false, Bool.false_eq_true, Bool.true_eq_false, ↓wr_iadd, ↓wr_isub, ↓wr_imul, wr_id, ↓wl_47_30, ↓wl_47_31, ↓wl_47_33, ↓wl_47_40, sp_c sp, sp_r0 sp, sp_a1 sp, sp_r3 sp, sp_a4 sp, cK_n (c := c), ha, ↓cc_holds, ih1, oEqT, oEqF, oLtT, oLtF, oLeT, oLeF, Int.toNat_natCast, ite_self]
      clear ih ih1
      simp only [wcF]
      repeat' (first | split | refine (andT (by omega)).trans ?_)
      all_goals first | rfl | (exfalso; omega) | (simp_all; done)
  rw [wc_47]
  simp (maxSteps := 2000000) (disch := omega) only [↓wb_const, ↓wb_lconst, ↓wb_null, ↓wb_iload, ↓wb_lload, ↓wb_aload, ↓wb_istore, ↓wb_lstore, ↓wb_astore, ↓wb_iinc, ↓wb_iand, ↓wb_ior, ↓wb_ishr, ↓wb_idiv, ↓wb_irem, ↓wb_ladd, ↓wb_lsub, ↓wb_land, ↓wb_lor, ↓wb_lxor, ↓wb_lneg, ↓wb_lushr, ↓wb_lshl, ↓wb_l2i, ↓wb_lcmp, ↓wb_dupI, ↓wb_dupR, ↓wb_dup2, ↓wb_popI, ↓wb_popR, ↓wb_getI, ↓wb_getL, ↓wb_getR, ↓wb_putI, ↓wb_putZ, ↓wb_putL, ↓wb_putR, ↓wb_iaload, ↓wb_laload, ↓wb_zaload, ↓wb_aaload, ↓wb_iastore, ↓wb_lastore, ↓wb_zastore, ↓wb_aastore, ↓wb_alen, ↓wb_newI, ↓wb_newL, ↓wb_newZ, ↓wb_newA, ↓wb_new, ↓wb_obj, ↓wb_sld, ↓wb_slen, ↓wb_goto, ↓wb_ifeq, ↓wb_iceq, ↓wb_ifne, ↓wb_icne, ↓wb_iflt, ↓wb_iclt, ↓wb_ifge, ↓wb_icge, ↓wb_ifgt, ↓wb_icgt, ↓wb_ifle, ↓wb_icle, ↓wb_ifnull, ↓wb_ifnonnull, ↓wb_ret, ↓wb_iret, ↓wb_lret, ↓wb_aret, ↓wb_zret, ↓wb_tsw0, ↓wb_tsw1, ↓wb_lsw0, ↓wb_lsw1, ↓wb_calls0, ↓wb_calls1, ↓wb_callv1, ↓wb_calls2, ↓wb_callv2, ↓wb_calls3, ↓wb_callv3, ↓wb_callv4, ↓wb_callv5, ↓wb_callv6, oB_some, ldI_z, ldI_s, ldL_z, ldL_s, ldR_z, ldR_s, ls1_z, ls1_1n, ls1_1i, ls1_1r, ls1_1l, ls1_s, ls2_z, ls2_1n, ls2_1i, ls2_1r, ls2_1l, ls2_s, List.length_cons, List.length_nil, Nat.reduceAdd, Nat.reduceLT, Nat.reduceLeDiff, Nat.reduceDiv, Nat.reduceMod, Int.reduceToNat, Int.reduceAdd, Nat.zero_add, true_and, Option.toList_some, Option.toList_none, List.cons_append, List.nil_append, true_or, or_true, and_true, false_or, or_false, Int.reduceEq, Int.reduceLT, Int.reduceLE, Int.reduceNeg, not_true_eq_false, not_false_eq_true, Bool.and_eq_true, Bool.or_eq_true, decide_eq_true_eq, ↓reduceIte, b2i_0, b2i_01, Nat.add_left_cancel_iff, Nat.add_eq_left, Nat.left_eq_add, Nat.reduceEqDiff, false_and, and_false, Bool.false_eq_true, Bool.true_eq_false, ↓wr_iadd, ↓wr_isub, ↓wr_imul, wr_id, ↓wl_47_0]
  exact loop _ q 0 0 0 part rfl hq (by omega) (by have := stk_12 (PI_wf pi) q hq; omega) (by omega) (by omega) (by omega) (by omega) hp
/-- the part at which the x-th WHILE is met, or -1 -/
def wlF (K : Int → Int) (x : Int) : List Nat → Int → Int
  | [], _ => -1
  | b :: t, m => if (if K b = 5 then m + 1 else m) = x then (b : Int) else wlF K x t (if K b = 5 then m + 1 else m)
theorem pc_whileLeft {sc : Scr} {c : Nat} {h : Hp} {Q : Option AV → Hp → Prop} {n : Nat} (pi : PI c h n) {p : Nat} (hp : p < n) : WC sc 48 [aR c, aI p] h Q = Q (some (aI (wlF (cK c h) (cX c h p) (stk (cK c h) p) 0))) h := by
  have sp := PI_sp pi
  have n60 := PI_60 pi
  have bp : (0 ≤ (p : Int) ∧ (p : Int) < 60) = True := by simp; omega
  have loop : ∀ (l : List Nat) (q : Nat) (i m y : Int), l = stk (cK c h) q → q ≤ n → 0 ≤ i → i + l.length ≤ 12 → 0 ≤ m → m ≤ i → y = hdI l → WB sc 48 (BL 48 9) [some (aR c), some (aI p), some (aI y), some (aI m), some (aI i)] [] h Q = Q (some (aI (wlF (cK c h) (cX c h p) l m))) h := by
    intro l
    induction l with
    | nil =>
      intro q i m y hl hq i0 i1 m0 m1 hy
      rw [hy, bl_48_9]
      have hd : hdI [] = -1 := rfl
      rw [hd]
      simp (maxSteps := 2000000) (disch := omega) only [↓wb_const, ↓wb_lconst, ↓wb_null, ↓wb_iload, ↓wb_lload, ↓wb_aload, ↓wb_istore, ↓wb_lstore, ↓wb_astore, ↓wb_iinc, ↓wb_iand, ↓wb_ior, ↓wb_ishr, ↓wb_idiv, ↓wb_irem, ↓wb_ladd, ↓wb_lsub, ↓wb_land, ↓wb_lor, ↓wb_lxor, ↓wb_lneg, ↓wb_lushr, ↓wb_lshl, ↓wb_l2i, ↓wb_lcmp, ↓wb_dupI, ↓wb_dupR, ↓wb_dup2, ↓wb_popI, ↓wb_popR, ↓wb_getI, ↓wb_getL, ↓wb_getR, ↓wb_putI, ↓wb_putZ, ↓wb_putL, ↓wb_putR, ↓wb_iaload, ↓wb_laload, ↓wb_zaload, ↓wb_aaload, ↓wb_iastore, ↓wb_lastore, ↓wb_zastore, ↓wb_aastore, ↓wb_alen, ↓wb_newI, ↓wb_newL, ↓wb_newZ, ↓wb_newA, ↓wb_new, ↓wb_obj, ↓wb_sld, ↓wb_slen, ↓wb_goto, ↓wb_ifeq, ↓wb_iceq, ↓wb_ifne, ↓wb_icne, ↓wb_iflt, ↓wb_iclt, ↓wb_ifge, ↓wb_icge, ↓wb_ifgt, ↓wb_icgt, ↓wb_ifle, ↓wb_icle, ↓wb_ifnull, ↓wb_ifnonnull, ↓wb_ret, ↓wb_iret, ↓wb_lret, ↓wb_aret, ↓wb_zret, ↓wb_tsw0, ↓wb_tsw1, ↓wb_lsw0, ↓wb_lsw1, ↓wb_calls0, ↓wb_calls1, ↓wb_callv1, ↓wb_calls2, ↓wb_callv2, ↓wb_calls3, ↓wb_callv3, ↓wb_callv4, ↓wb_callv5, ↓wb_callv6, oB_some, ldI_z, ldI_s, ldL_z, ldL_s, ldR_z, ldR_s, ls1_z, ls1_1n, ls1_1i, ls1_1r, ls1_1l, ls1_s, ls2_z, ls2_1n, ls2_1i, ls2_1r, ls2_1l, ls2_s, List.length_cons, List.length_nil, Nat.reduceAdd, Nat.reduceLT, Nat.reduceLeDiff, Nat.reduceDiv, Nat.reduceMod, Int.reduceToNat, Int.reduceAdd, Nat.zero_add, true_and, Option.toList_some, Option.toList_none, List.cons_append, List.nil_append, true_or, or_true, and_true, false_or, or_false, Int.reduceEq, Int.reduceLT, Int.reduceLE, Int.reduceNeg, not_true_eq_false, not_false_eq_true, Bool.and_eq_true, Bool.or_eq_true, decide_eq_true_eq, ↓reduceIte, b2i_0, b2i_01, Nat.add_left_cancel_iff, Nat.add_eq_left, Nat.left_eq_add, Nat.reduceEqDiff, false_and, and_false, Bool.false_eq_true, Bool.true_eq_false, ↓wr_iadd, ↓wr_isub, ↓wr_imul, wr_id, ↓wl_48_41]
      repeat' (first | split | refine (andT (by omega)).trans ?_)
      all_goals rfl
    | cons b t ih =>
      intro q i m y hl hq i0 i1 m0 m1 hy
      have hb : b ∈ stk (cK c h) q := by rw [← hl]; exact List.mem_cons_self
      have hbq := stk_lt hb
      have ht := stk_hd hl.symm
      have hd : hdI (b :: t) = (b : Int) := rfl
      rw [hy, hd, bl_48_9]
      simp only [List.length_cons] at i1
      have b1 : (0 ≤ (b : Int) ∧ (b : Int) < 60) = True := by simp; omega
      have ha := PI_ar pi (show b < n by omega)
      rw [← ht] at ha
      have hi : i < 12 := by omega
      have ih1 := fun (m : Int) (a1 : 0 ≤ m) (a2 : m ≤ i + 1) => ih b (i + 1) m (hdI t) ht (by omega) (by omega) (by omega) a1 a2 rfl
      simp (maxSteps := 2000000) (disch := omega) only [↓wb_const, ↓wb_lconst, ↓wb_null, ↓wb_iload, ↓wb_lload, ↓wb_aload, ↓wb_istore, ↓wb_lstore, ↓wb_astore, ↓wb_iinc, ↓wb_iand, ↓wb_ior, ↓wb_ishr, ↓wb_idiv, ↓wb_irem, ↓wb_ladd, ↓wb_lsub, ↓wb_land, ↓wb_lor, ↓wb_lxor, ↓wb_lneg, ↓wb_lushr, ↓wb_lshl, ↓wb_l2i, ↓wb_lcmp, ↓wb_dupI, ↓wb_dupR, ↓wb_dup2, ↓wb_popI, ↓wb_popR, ↓wb_getI, ↓wb_getL, ↓wb_getR, ↓wb_putI, ↓wb_putZ, ↓wb_putL, ↓wb_putR, ↓wb_iaload, ↓wb_laload, ↓wb_zaload, ↓wb_aaload, ↓wb_iastore, ↓wb_lastore, ↓wb_zastore, ↓wb_aastore, ↓wb_alen, ↓wb_newI, ↓wb_newL, ↓wb_newZ, ↓wb_newA, ↓wb_new, ↓wb_obj, ↓wb_sld, ↓wb_slen, ↓wb_goto, ↓wb_ifeq, ↓wb_iceq, ↓wb_ifne, ↓wb_icne, ↓wb_iflt, ↓wb_iclt, ↓wb_ifge, ↓wb_icge, ↓wb_ifgt, ↓wb_icgt, ↓wb_ifle, ↓wb_icle, ↓wb_ifnull, ↓wb_ifnonnull, ↓wb_ret, ↓wb_iret, ↓wb_lret, ↓wb_aret, ↓wb_zret, ↓wb_tsw0, ↓wb_tsw1, ↓wb_lsw0, ↓wb_lsw1, ↓wb_calls0, ↓wb_calls1, ↓wb_callv1, ↓wb_calls2, ↓wb_callv2, ↓wb_calls3, ↓wb_callv3, ↓wb_callv4, ↓wb_callv5, ↓wb_callv6, oB_some, ldI_z, ldI_s, ldL_z, ldL_s, ldR_z, ldR_s, ls1_z, ls1_1n, ls1_1i, ls1_1r, ls1_1l, ls1_s, ls2_z, ls2_1n, ls2_1i, ls2_1r, ls2_1l, ls2_s, List.length_cons, List.length_nil, Nat.reduceAdd, Nat.reduceLT, Nat.reduceLeDiff, Nat.reduceDiv, Nat.reduceMod, Int.reduceToNat, Int.reduceAdd, Nat.zero_add, true_and, Option.toList_some, Option.toList_none, List.cons_append, List.nil_append, true_or, or_true, and_true, false_or, or_false, Int.reduceEq, Int.reduceLT, Int.reduceLE, Int.reduceNeg, not_true_eq_false, not_false_eq_true, Bool.and_eq_true, Bool.or_eq_true, decide_eq_true_eq, ↓reduceIte, b2i_0, b2i_01, Nat.add_left_cancel_iff, Nat.add_eq_left, Nat.left_eq_add, Nat.reduceEqDiff, false_and, and_false, Bool.false_eq_true, Bool.true_eq_false, ↓wr_iadd, ↓wr_isub, ↓wr_imul, wr_id, ↓wl_48_23, ↓wl_48_24, ↓wl_48_34, ↓wl_48_41, sp_c sp, sp_r3 sp, sp_a4 sp, sp_r0 sp, sp_a1 sp, sp_r1 sp, sp_a2 sp, cK_n (c := c), cX_n (c := c), ha, ih1, oEqT, oEqF, oLtT, oLtF, oLeT, oLeF, Int.toNat_natCast, ite_self]
      clear ih ih1
      simp only [wlF]
      repeat' (first | split | refine (andT (by omega)).trans ?_)
      all_goals first | rfl | (exfalso; omega) | (simp_all; done)
  rw [wc_48]
  have ha := PI_ar pi hp
  simp (maxSteps := 2000000) (disch := omega) only [↓wb_const, ↓wb_lconst, ↓wb_null, ↓wb_iload, ↓wb_lload, ↓wb_aload, ↓wb_istore, ↓wb_lstore, ↓wb_astore, ↓wb_iinc, ↓wb_iand, ↓wb_ior, ↓wb_ishr, ↓wb_idiv, ↓wb_irem, ↓wb_ladd, ↓wb_lsub, ↓wb_land, ↓wb_lor, ↓wb_lxor, ↓wb_lneg, ↓wb_lushr, ↓wb_lshl, ↓wb_l2i, ↓wb_lcmp, ↓wb_dupI, ↓wb_dupR, ↓wb_dup2, ↓wb_popI, ↓wb_popR, ↓wb_getI, ↓wb_getL, ↓wb_getR, ↓wb_putI, ↓wb_putZ, ↓wb_putL, ↓wb_putR, ↓wb_iaload, ↓wb_laload, ↓wb_zaload, ↓wb_aaload, ↓wb_iastore, ↓wb_lastore, ↓wb_zastore, ↓wb_aastore, ↓wb_alen, ↓wb_newI, ↓wb_newL, ↓wb_newZ, ↓wb_newA, ↓wb_new, ↓wb_obj, ↓wb_sld, ↓wb_slen, ↓wb_goto, ↓wb_ifeq, ↓wb_iceq, ↓wb_ifne, ↓wb_icne, ↓wb_iflt, ↓wb_iclt, ↓wb_ifge, ↓wb_icge, ↓wb_ifgt, ↓wb_icgt, ↓wb_ifle, ↓wb_icle, ↓wb_ifnull, ↓wb_ifnonnull, ↓wb_ret, ↓wb_iret, ↓wb_lret, ↓wb_aret, ↓wb_zret, ↓wb_tsw0, ↓wb_tsw1, ↓wb_lsw0, ↓wb_lsw1, ↓wb_calls0, ↓wb_calls1, ↓wb_callv1, ↓wb_calls2, ↓wb_callv2, ↓wb_calls3, ↓wb_callv3, ↓wb_callv4, ↓wb_callv5, ↓wb_callv6, oB_some, ldI_z, ldI_s, ldL_z, ldL_s, ldR_z, ldR_s, ls1_z, ls1_1n, ls1_1i, ls1_1r, ls1_1l, ls1_s, ls2_z, ls2_1n, ls2_1i, ls2_1r, ls2_1l, ls2_s, List.length_cons, List.length_nil, Nat.reduceAdd, Nat.reduceLT, Nat.reduceLeDiff, Nat.reduceDiv, Nat.reduceMod, Int.reduceToNat, Int.reduceAdd, Nat.zero_add, true_and, Option.toList_some, Option.toList_none, List.cons_append, List.nil_append, true_or, or_true, and_true, false_or, or_false, Int.reduceEq, Int.reduceLT, Int.reduceLE, Int.reduceNeg, not_true_eq_false, not_false_eq_true, Bool.and_eq_true, Bool.or_eq_true, decide_eq_true_eq, ↓reduceIte, b2i_0, b2i_01, Nat.add_left_cancel_iff, Nat.add_eq_left, Nat.left_eq_add, Nat.reduceEqDiff, false_and, and_false, Bool.false_eq_true, Bool.true_eq_false, ↓wr_iadd, ↓wr_isub, ↓wr_imul, wr_id, ↓wl_48_0, sp_c sp, sp_r3 sp, sp_a4 sp, sp_r0 sp, sp_a1 sp, sp_r1 sp, sp_a2 sp, bp, Int.toNat_natCast, ha]
  exact loop _ p 0 0 _ rfl (by omega) (by omega) (by have := stk_12 (PI_wf pi) p (by omega); omega) (by omega) (by omega) rfl
