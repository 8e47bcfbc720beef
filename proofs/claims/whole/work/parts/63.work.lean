/-! ===== a work list of bits ===== -/
theorem bv_not {x : BitVec 64} {i : Nat} : (x ^^^ BitVec.ofInt 64 (-1)).getLsbD i = (decide (i < 64) && !x.getLsbD i) := by
  have e : BitVec.ofInt 64 (-1) = BitVec.allOnes 64 := by decide +kernel
  rw [BitVec.getLsbD_xor, e, BitVec.getLsbD_allOnes]
  by_cases h : i < 64
  · simp [h]
  · have : x.getLsbD i = false := BitVec.getLsbD_of_ge _ _ (by omega)
    simp [h, this]
def WI (m : Nat) (S0 : Nat → Prop) (nx : Nat → BitVec 64) (bl seen todo : BitVec 64) (k : Nat) : Prop :=
  (∀ i, S0 i → seen.getLsbD i = true) ∧ (∀ i, seen.getLsbD i = true → LF S0 (fun q u => bl.getLsbD q = false ∧ (nx q).getLsbD u = true) i) ∧ (∀ i, todo.getLsbD i = true → seen.getLsbD i = true ∧ bl.getLsbD i = false) ∧ (∀ q, seen.getLsbD q = true → bl.getLsbD q = false → todo.getLsbD q = false → ∀ u, (nx q).getLsbD u = true → seen.getLsbD u = true) ∧ k ≤ ctN (fun i => seen.getLsbD i && (!bl.getLsbD i && !todo.getLsbD i)) 60 ∧ (∀ i, seen.getLsbD i = true → i < m)
theorem ctN_sub {p q : Nat → Bool} : ∀ {n : Nat}, (∀ k, k < n → p k = true → q k = true) → ctN p n ≤ ctN q n
  | 0, _ => Nat.le_refl _
  | n + 1, h => by
    show ctN p n + _ ≤ ctN q n + _
    have ih := ctN_sub (n := n) (fun k hk => h k (by omega))
    have := h n (by omega)
    cases hp : p n with
    | false => simp; omega
    | true => rw [this hp]; simp; omega
theorem ctN_lt {p q : Nat → Bool} {i : Nat} : ∀ {n : Nat}, (∀ k, k < n → p k = true → q k = true) → i < n → p i = false → q i = true → ctN p n + 1 ≤ ctN q n
  | 0, _, hi, _, _ => by omega
  | n + 1, h, hi, h1, h2 => by
    show ctN p n + _ + 1 ≤ ctN q n + _
    by_cases e : i = n
    · subst e
      rw [h1, h2]
      have := ctN_sub (p := p) (q := q) (n := i) (fun k hk => h k (by omega))
      simp
      omega
    · have ih := ctN_lt (n := n) (fun k hk => h k (by omega)) (by omega) h1 h2
      have := h n (by omega)
      cases hp : p n with
      | false => simp; omega
      | true => rw [this hp]; simp; omega
theorem ctN_le (p : Nat → Bool) : ∀ n, ctN p n ≤ n
  | 0 => Nat.le_refl _
  | n + 1 => by
    show ctN p n + _ ≤ n + 1
    have := ctN_le p n
    split <;> omega
theorem ctN_all {p : Nat → Bool} : ∀ {n : Nat}, n ≤ ctN p n → ∀ k, k < n → p k = true
  | 0, _, k, hk => by omega
  | n + 1, h, k, hk => by
    have h : n + 1 ≤ ctN p n + (if p n = true then 1 else 0) := h
    have := ctN_le p n
    have hp : p n = true := by
      cases e : p n with
      | true => rfl
      | false => rw [e] at h; simp at h; omega
    rw [hp] at h
    simp at h
    by_cases e : k = n
    · rw [e]; exact hp
    · exact ctN_all (n := n) h k (by omega)
theorem WI_step {m : Nat} {S0 : Nat → Prop} {nx : Nat → BitVec 64} {bl seen todo : BitVec 64} {k q : Nat} (m60 : m ≤ 60) (w : WI m S0 nx bl seen todo k) (hq : todo.getLsbD q = true) (q64 : q < 64) (ql : ∀ j, j < q → todo.getLsbD j = false) (nx60 : ∀ q u, q < m → (nx q).getLsbD u = true → u < m) : WI m S0 nx bl (seen ||| (nx q &&& (seen ^^^ BitVec.ofInt 64 (-1)))) ((todo &&& (todo - BitVec.ofInt 64 1)) ||| (nx q &&& (seen ^^^ BitVec.ofInt 64 (-1)) &&& (bl ^^^ BitVec.ofInt 64 (-1)))) (k + 1) := by
  obtain ⟨w1, w2, w3, w4, w5, w6⟩ := w
  obtain ⟨q1, q2⟩ := w3 q hq
  have q60 := w6 q q1
  have lt64 : ∀ {i : Nat}, (nx q).getLsbD i = true → i < 64 := fun {i} h => by have := nx60 q i q60 h; omega
  have es : ∀ i, (seen ||| (nx q &&& (seen ^^^ BitVec.ofInt 64 (-1)))).getLsbD i = (seen.getLsbD i || (nx q).getLsbD i) := by
    intro i
    rw [BitVec.getLsbD_or, BitVec.getLsbD_and, bv_not]
    cases hn : (nx q).getLsbD i with
    | false => simp
    | true =>
      have := lt64 hn
      cases seen.getLsbD i <;> simp [this]
  have et : ∀ i, ((todo &&& (todo - BitVec.ofInt 64 1)) ||| (nx q &&& (seen ^^^ BitVec.ofInt 64 (-1)) &&& (bl ^^^ BitVec.ofInt 64 (-1)))).getLsbD i = ((todo.getLsbD i && decide (¬ i = q)) || ((nx q).getLsbD i && (!seen.getLsbD i && !bl.getLsbD i))) := by
    intro i
    rw [BitVec.getLsbD_or, drop_low q64 hq ql, BitVec.getLsbD_and, BitVec.getLsbD_and, bv_not, bv_not]
    cases hn : (nx q).getLsbD i with
    | false => simp
    | true =>
      have := lt64 hn
      simp [this]
  unfold WI
  simp only [es, et]
  refine ⟨fun i hi => ?_, fun i hi => ?_, fun i hi => ?_, fun p h1 h2 h3 u hu => ?_, ?_, fun i hi => ?_⟩
  · rw [w1 i hi]; rfl
  · rcases Bool.or_eq_true _ _ ▸ hi with h | h
    · exact w2 i h
    · exact LF_s (w2 q q1) ⟨q2, h⟩
  · rcases Bool.or_eq_true _ _ ▸ hi with h | h
    · have h := (Bool.and_eq_true _ _ ▸ h).1
      have := w3 i h
      rw [this.1]; exact ⟨rfl, this.2⟩
    · simp only [Bool.and_eq_true, Bool.not_eq_true'] at h
      rw [h.1]
      exact ⟨by simp, h.2.2⟩
  · by_cases e : p = q
    · subst e
      rw [hu]; simp
    · have hp : seen.getLsbD p = true ∧ todo.getLsbD p = false := by
        cases hs : seen.getLsbD p with
        | true =>
          refine ⟨rfl, ?_⟩
          cases ht : todo.getLsbD p with
          | false => rfl
          | true => rw [ht] at h3; simp [e] at h3
        | false =>
          exfalso
          rw [hs] at h1 h3
          simp only [Bool.false_or] at h1
          rw [h1, h2] at h3
          simp at h3
      rw [w4 p hp.1 h2 hp.2 u hu]; rfl
  · refine Nat.le_trans (Nat.succ_le_succ w5) (ctN_lt (i := q) (fun j hj h => ?_) (by omega) ?_ ?_)
    · simp only [Bool.and_eq_true, Bool.not_eq_true'] at h
      simp [h.1, h.2.1, h.2.2]
    · simp [hq]
    · simp [q1, q2]
  · rcases Bool.or_eq_true _ _ ▸ hi with h | h
    · exact w6 i h
    · exact nx60 q i q60 h
theorem WI_end {m : Nat} {S0 : Nat → Prop} {nx : Nat → BitVec 64} {bl seen : BitVec 64} {k : Nat} (w : WI m S0 nx bl seen 0#64 k) (i : Nat) : seen.getLsbD i = true ↔ LF S0 (fun q u => bl.getLsbD q = false ∧ (nx q).getLsbD u = true) i := by
  obtain ⟨w1, w2, w3, w4, w5, w6⟩ := w
  refine ⟨w2 i, fun h => ?_⟩
  exact h (fun i => seen.getLsbD i = true) w1 (fun q u h1 h2 => w4 q h1 h2.1 (by rw [BitVec.getLsbD_zero]) u h2.2)
theorem WI_60 {m : Nat} {S0 : Nat → Prop} {nx : Nat → BitVec 64} {bl seen todo : BitVec 64} {k : Nat} (m60 : m ≤ 60) (w : WI m S0 nx bl seen todo k) (hk : 60 ≤ k) : todo = 0#64 := by
  obtain ⟨w1, w2, w3, w4, w5, w6⟩ := w
  apply bv_ext
  intro i
  rw [BitVec.getLsbD_zero]
  cases ht : todo.getLsbD i with
  | false => rfl
  | true =>
    exfalso
    have h1 := w6 i (w3 i ht).1
    have := ctN_all (Nat.le_trans hk w5) i (by omega)
    rw [ht] at this
    simp at this
theorem WI_0 {m : Nat} {S0 : Nat → Prop} {nx : Nat → BitVec 64} {bl seen todo : BitVec 64} (h0 : ∀ i, seen.getLsbD i = true ↔ S0 i) (ht : ∀ i, todo.getLsbD i = (seen.getLsbD i && !bl.getLsbD i)) (h60 : ∀ i, seen.getLsbD i = true → i < m) : WI m S0 nx bl seen todo 0 := by
  refine ⟨fun i hi => (h0 i).mpr hi, fun i hi => LF_0 ((h0 i).mp hi), fun i hi => ?_, fun q h1 h2 h3 => ?_, Nat.zero_le _, h60⟩
  · rw [ht] at hi
    simpa using hi
  · rw [ht, h1, h2] at h3
    simp at h3
/-! ===== the class: Ways.reach ===== -/
theorem pc_reach {sc : Scr} {c : Nat} {h : Hp} {Q : Option AV → Hp → Prop} (sp : SP c h) {p m : Nat} (m60 : m ≤ 60) (hp : p < m) {bl : BitVec 64} (nx60 : ∀ q u, q < m → (hL h (c + 15) q).getLsbD u = true → u < m) (hQ : ∀ w : BitVec 64, (∀ i, w.getLsbD i = true ↔ LF (fun u => (hL h (c + 15) p).getLsbD u = true) (fun q u => bl.getLsbD q = false ∧ (hL h (c + 15) q).getLsbD u = true) i) → Q (some (aL w)) h) : WC sc 72 [aR (c + 11), aI p, aL bl] h Q := by
  have b1 : (0 ≤ (p : Int) ∧ (p : Int) < 60) = True := by simp; omega
  have loop : ∀ (f k : Nat) (seen todo : BitVec 64) (x8 x9 : Option AV), k + f = 60 → WI m (fun u => (hL h (c + 15) p).getLsbD u = true) (fun q => hL h (c + 15) q) bl seen todo k → (x9 = none ∨ ∃ z, x9 = some (aL z)) → WB sc 72 (BL 72 13) [some (aR (c + 11)), some (aI p), some (aL bl), none, some (aL seen), none, some (aL todo), none, some (aI k), x8, x9, none] [] h Q := by
    intro f
    induction f with
    | zero =>
      intro k seen todo x8 x9 hk w hx
      have e := WI_60 m60 w (by omega)
      subst e
      rw [bl_72_13]
      simp (maxSteps := 2000000) (disch := omega) only [↓wb_const, ↓wb_lconst, ↓wb_null, ↓wb_iload, ↓wb_lload, ↓wb_aload, ↓wb_istore, ↓wb_lstore, ↓wb_astore, ↓wb_iinc, ↓wb_iand, ↓wb_ior, ↓wb_ishr, ↓wb_idiv, ↓wb_irem, ↓wb_ladd, ↓wb_lsub, ↓wb_land, ↓wb_lor, ↓wb_lxor, ↓wb_lneg, ↓wb_lushr, ↓wb_lshl, ↓wb_l2i, ↓wb_lcmp, ↓wb_dupI, ↓wb_dupR, ↓wb_dup2, ↓wb_popI, ↓wb_popR, ↓wb_getI, ↓wb_getL, ↓wb_getR, ↓wb_putI, ↓wb_putZ, ↓wb_putL, ↓wb_putR, ↓wb_iaload, ↓wb_laload, ↓wb_zaload, ↓wb_aaload, ↓wb_iastore, ↓wb_lastore, ↓wb_zastore, ↓wb_aastore, ↓wb_alen, ↓wb_newI, ↓wb_newL, ↓wb_newZ, ↓wb_newA, ↓wb_new, ↓wb_obj, ↓wb_sld, ↓wb_slen, ↓wb_goto, ↓wb_ifeq, ↓wb_iceq, ↓wb_ifne, ↓wb_icne, ↓wb_iflt, ↓wb_iclt, ↓wb_ifge, ↓wb_icge, ↓wb_ifgt, ↓wb_icgt, ↓wb_ifle, ↓wb_icle, ↓wb_ifnull, ↓wb_ifnonnull, ↓wb_ret, ↓wb_iret, ↓wb_lret, ↓wb_aret, ↓wb_zret, ↓wb_tsw0, ↓wb_tsw1, ↓wb_lsw0, ↓wb_lsw1, ↓wb_calls0, ↓wb_calls1, ↓wb_callv1, ↓wb_calls2, ↓wb_callv2, ↓wb_calls3, ↓wb_callv3, ↓wb_callv4, ↓wb_callv5, ↓wb_callv6, oB_some, ldI_z, ldI_s, ldL_z, ldL_s, ldR_z, ldR_s, ls1_z, ls1_1n, ls1_1i, ls1_1r, ls1_1l, ls1_s, ls2_z, ls2_1n, ls2_1i, ls2_1r, ls2_1l, ls2_s, List.length_cons, List.length_nil, Nat.reduceAdd, Nat.reduceLT, Nat.reduceLeDiff, Nat.reduceDiv, Nat.reduceMod, Int.reduceToNat, Int.reduceAdd, Nat.zero_add, true_and, Option.toList_some, Option.toList_none, List.cons_append, List.nil_append, true_or, or_true, and_true, false_or, or_false, Int.reduceEq, Int.reduceLT, Int.reduceLE, Int.reduceNeg, not_true_eq_false, not_false_eq_true, Bool.and_eq_true, Bool.or_eq_true, decide_eq_true_eq, ↓reduceIte, b2i_0, b2i_01, b2i_01c, Nat.add_left_cancel_iff, Nat.add_eq_left, Nat.left_eq_add, Nat.reduceEqDiff, false_and, and_false, Bool.false_eq_true, Bool.true_eq_false, ↓wr_iadd, ↓wr_isub, ↓wr_imul, wr_id, ↓wl_72_50]
      rw [if_pos (by omega)]
      exact hQ seen (fun i => WI_end w i)
    | succ f ih =>
      intro k seen todo x8 x9 hk w hx
      rw [bl_72_13]
      have c1 : ¬ (60 : Int) ≤ k := by omega
      by_cases ht : todo = 0#64
      · subst ht
        simp (maxSteps := 2000000) (disch := omega) only [↓wb_const, ↓wb_lconst, ↓wb_null, ↓wb_iload, ↓wb_lload, ↓wb_aload, ↓wb_istore, ↓wb_lstore, ↓wb_astore, ↓wb_iinc, ↓wb_iand, ↓wb_ior, ↓wb_ishr, ↓wb_idiv, ↓wb_irem, ↓wb_ladd, ↓wb_lsub, ↓wb_land, ↓wb_lor, ↓wb_lxor, ↓wb_lneg, ↓wb_lushr, ↓wb_lshl, ↓wb_l2i, ↓wb_lcmp, ↓wb_dupI, ↓wb_dupR, ↓wb_dup2, ↓wb_popI, ↓wb_popR, ↓wb_getI, ↓wb_getL, ↓wb_getR, ↓wb_putI, ↓wb_putZ, ↓wb_putL, ↓wb_putR, ↓wb_iaload, ↓wb_laload, ↓wb_zaload, ↓wb_aaload, ↓wb_iastore, ↓wb_lastore, ↓wb_zastore, ↓wb_aastore, ↓wb_alen, ↓wb_newI, ↓wb_newL, ↓wb_newZ, ↓wb_newA, ↓wb_new, ↓wb_obj, ↓wb_sld, ↓wb_slen, ↓wb_goto, ↓wb_ifeq, ↓wb_iceq, ↓wb_ifne, ↓wb_icne, ↓wb_iflt, ↓wb_iclt, ↓wb_ifge, ↓wb_icge, ↓wb_ifgt, ↓wb_icgt, ↓wb_ifle, ↓wb_icle, ↓wb_ifnull, ↓wb_ifnonnull, ↓wb_ret, ↓wb_iret, ↓wb_lret, ↓wb_aret, ↓wb_zret, ↓wb_tsw0, ↓wb_tsw1, ↓wb_lsw0, ↓wb_lsw1, ↓wb_calls0, ↓wb_calls1, ↓wb_callv1, ↓wb_calls2, ↓wb_callv2, ↓wb_calls3, ↓wb_callv3, ↓wb_callv4, ↓wb_callv5, ↓wb_callv6, oB_some, ldI_z, ldI_s, ldL_z, ldL_s, ldR_z, ldR_s, ls1_z, ls1_1n, ls1_1i, ls1_1r, ls1_1l, ls1_s, ls2_z, ls2_1n, ls2_1i, ls2_1r, ls2_1l, ls2_s, List.length_cons, List.length_nil, Nat.reduceAdd, Nat.reduceLT, Nat.reduceLeDiff, Nat.reduceDiv, Nat.reduceMod, Int.reduceToNat, Int.reduceAdd, Nat.zero_add, true_and, Option.toList_some, Option.toList_none, List.cons_append, List.nil_append, true_or, or_true, and_true, false_or, or_false, Int.reduceEq, Int.reduceLT, Int.reduceLE, Int.reduceNeg, not_true_eq_false, not_false_eq_true, Bool.and_eq_true, Bool.or_eq_true, decide_eq_true_eq, ↓reduceIte, b2i_0, b2i_01, b2i_01c, Nat.add_left_cancel_iff, Nat.add_eq_left, Nat.left_eq_add, Nat.reduceEqDiff, false_and, and_false, Bool.false_eq_true, Bool.true_eq_false, ↓wr_iadd, ↓wr_isub, ↓wr_imul, wr_id, ↓wl_72_50, c1, lc0]
        exact hQ seen (fun i => WI_end w i)
      · obtain ⟨q, q64, q1, q2⟩ := bv_nz ht
        have hq60 := w.2.2.2.2.2 q (w.2.2.1 q q1).1
        have b2 : (0 ≤ (q : Int) ∧ (q : Int) < 60) = True := by simp; omega
        have hs := ih (k + 1) _ _ (some (aI q)) (some (aL (hL h (c + 15) q &&& (seen ^^^ BitVec.ofInt 64 (-1))))) (by omega) (WI_step m60 w q1 q64 q2 nx60) (Or.inr ⟨_, rfl⟩)
        rw [show ((k + 1 : Nat) : Int) = (k : Int) + 1 by omega] at hs
        rcases hx with rfl | ⟨z, rfl⟩
        · simp (maxSteps := 2000000) (disch := omega) only [↓wb_const, ↓wb_lconst, ↓wb_null, ↓wb_iload, ↓wb_lload, ↓wb_aload, ↓wb_istore, ↓wb_lstore, ↓wb_astore, ↓wb_iinc, ↓wb_iand, ↓wb_ior, ↓wb_ishr, ↓wb_idiv, ↓wb_irem, ↓wb_ladd, ↓wb_lsub, ↓wb_land, ↓wb_lor, ↓wb_lxor, ↓wb_lneg, ↓wb_lushr, ↓wb_lshl, ↓wb_l2i, ↓wb_lcmp, ↓wb_dupI, ↓wb_dupR, ↓wb_dup2, ↓wb_popI, ↓wb_popR, ↓wb_getI, ↓wb_getL, ↓wb_getR, ↓wb_putI, ↓wb_putZ, ↓wb_putL, ↓wb_putR, ↓wb_iaload, ↓wb_laload, ↓wb_zaload, ↓wb_aaload, ↓wb_iastore, ↓wb_lastore, ↓wb_zastore, ↓wb_aastore, ↓wb_alen, ↓wb_newI, ↓wb_newL, ↓wb_newZ, ↓wb_newA, ↓wb_new, ↓wb_obj, ↓wb_sld, ↓wb_slen, ↓wb_goto, ↓wb_ifeq, ↓wb_iceq, ↓wb_ifne, ↓wb_icne, ↓wb_iflt, ↓wb_iclt, ↓wb_ifge, ↓wb_icge, ↓wb_ifgt, ↓wb_icgt, ↓wb_ifle, ↓wb_icle, ↓wb_ifnull, ↓wb_ifnonnull, ↓wb_ret, ↓wb_iret, ↓wb_lret, ↓wb_aret, ↓wb_zret, ↓wb_tsw0, ↓wb_tsw1, ↓wb_lsw0, ↓wb_lsw1, ↓wb_calls0, ↓wb_calls1, ↓wb_callv1, ↓wb_calls2, ↓wb_callv2, ↓wb_calls3, ↓wb_callv3, ↓wb_callv4, ↓wb_callv5, ↓wb_callv6, oB_some, ldI_z, ldI_s, ldL_z, ldL_s, ldR_z, ldR_s, ls1_z, ls1_1n, ls1_1i, ls1_1r, ls1_1l, ls1_s, ls2_z, ls2_1n, ls2_1i, ls2_1r, ls2_1l, ls2_s, List.length_cons, List.length_nil, Nat.reduceAdd, Nat.reduceLT, Nat.reduceLeDiff, Nat.reduceDiv, Nat.reduceMod, Int.reduceToNat, Int.reduceAdd, Nat.zero_add, true_and, Option.toList_some, Option.toList_none, List.cons_append, List.nil_append, true_or, or_true, and_true, false_or, or_false, Int.reduceEq, Int.reduceLT, Int.reduceLE, Int.reduceNeg, not_true_eq_false, not_false_eq_true, Bool.and_eq_true, Bool.or_eq_true, decide_eq_true_eq, ↓reduceIte, b2i_0, b2i_01, b2i_01c, Nat.add_left_cancel_iff, Nat.add_eq_left, Nat.left_eq_add, Nat.reduceEqDiff, false_and, and_false, Bool.false_eq_true, Bool.true_eq_false, ↓wr_iadd, ↓wr_isub, ↓wr_imul, wr_id, ↓wl_72_50, sp_c11 sp, sp_w3 sp, sp_a15 sp, c1, lc0, ht, ↓cc_lowest q64 q1 q2, b2, Int.toNat_natCast]
          exact hs
        · simp (maxSteps := 2000000) (disch := omega) only [↓wb_const, ↓wb_lconst, ↓wb_null, ↓wb_iload, ↓wb_lload, ↓wb_aload, ↓wb_istore, ↓wb_lstore, ↓wb_astore, ↓wb_iinc, ↓wb_iand, ↓wb_ior, ↓wb_ishr, ↓wb_idiv, ↓wb_irem, ↓wb_ladd, ↓wb_lsub, ↓wb_land, ↓wb_lor, ↓wb_lxor, ↓wb_lneg, ↓wb_lushr, ↓wb_lshl, ↓wb_l2i, ↓wb_lcmp, ↓wb_dupI, ↓wb_dupR, ↓wb_dup2, ↓wb_popI, ↓wb_popR, ↓wb_getI, ↓wb_getL, ↓wb_getR, ↓wb_putI, ↓wb_putZ, ↓wb_putL, ↓wb_putR, ↓wb_iaload, ↓wb_laload, ↓wb_zaload, ↓wb_aaload, ↓wb_iastore, ↓wb_lastore, ↓wb_zastore, ↓wb_aastore, ↓wb_alen, ↓wb_newI, ↓wb_newL, ↓wb_newZ, ↓wb_newA, ↓wb_new, ↓wb_obj, ↓wb_sld, ↓wb_slen, ↓wb_goto, ↓wb_ifeq, ↓wb_iceq, ↓wb_ifne, ↓wb_icne, ↓wb_iflt, ↓wb_iclt, ↓wb_ifge, ↓wb_icge, ↓wb_ifgt, ↓wb_icgt, ↓wb_ifle, ↓wb_icle, ↓wb_ifnull, ↓wb_ifnonnull, ↓wb_ret, ↓wb_iret, ↓wb_lret, ↓wb_aret, ↓wb_zret, ↓wb_tsw0, ↓wb_tsw1, ↓wb_lsw0, ↓wb_lsw1, ↓wb_calls0, ↓wb_calls1, ↓wb_callv1, ↓wb_calls2, ↓wb_callv2, ↓wb_calls3, ↓wb_callv3, ↓wb_callv4, ↓wb_callv5, ↓wb_callv6, oB_some, ldI_z, ldI_s, ldL_z, ldL_s, ldR_z, ldR_s, ls1_z, ls1_1n, ls1_1i, ls1_1r, ls1_1l, ls1_s, ls2_z, ls2_1n, ls2_1i, ls2_1r, ls2_1l, ls2_s, List.length_cons, List.length_nil, Nat.reduceAdd, Nat.reduceLT, Nat.reduceLeDiff, Nat.reduceDiv, Nat.reduceMod, Int.reduceToNat, Int.reduceAdd, Nat.zero_add, true_and, Option.toList_some, Option.toList_none, List.cons_append, List.nil_append, true_or, or_true, and_true, false_or, or_false, Int.reduceEq, Int.reduceLT, Int.reduceLE, Int.reduceNeg, not_true_eq_false, not_false_eq_true, Bool.and_eq_true, Bool.or_eq_true, decide_eq_true_eq, ↓reduceIte, b2i_0, b2i_01, b2i_01c, Nat.add_left_cancel_iff, Nat.add_eq_left, Nat.left_eq_add, Nat.reduceEqDiff, false_and, and_false, Bool.false_eq_true, Bool.true_eq_false, ↓wr_iadd, ↓wr_isub, ↓wr_imul, wr_id, ↓wl_72_50, sp_c11 sp, sp_w3 sp, sp_a15 sp, c1, lc0, ht, ↓cc_lowest q64 q1 q2, b2, Int.toNat_natCast]
          exact hs
  rw [wc_72]
  simp (maxSteps := 2000000) (disch := omega) only [↓wb_const, ↓wb_lconst, ↓wb_null, ↓wb_iload, ↓wb_lload, ↓wb_aload, ↓wb_istore, ↓wb_lstore, ↓wb_astore, ↓wb_iinc, ↓wb_iand, ↓wb_ior, ↓wb_ishr, ↓wb_idiv, ↓wb_irem, ↓wb_ladd, ↓wb_lsub, ↓wb_land, ↓wb_lor, ↓wb_lxor, ↓wb_lneg, ↓wb_lushr, ↓wb_lshl, ↓wb_l2i, ↓wb_lcmp, ↓wb_dupI, ↓wb_dupR, ↓wb_dup2, ↓wb_popI, ↓wb_popR, ↓wb_getI, ↓wb_getL, ↓wb_getR, ↓wb_putI, ↓wb_putZ, ↓wb_putL, ↓wb_putR, ↓wb_iaload, ↓wb_laload, ↓wb_zaload, ↓wb_aaload, ↓wb_iastore, ↓wb_lastore, ↓wb_zastore, ↓wb_aastore, ↓wb_alen, ↓wb_newI, ↓wb_newL, ↓wb_newZ, ↓wb_newA, ↓wb_new, ↓wb_obj, ↓wb_sld, ↓wb_slen, ↓wb_goto, ↓wb_ifeq, ↓wb_iceq, ↓wb_ifne, ↓wb_icne, ↓wb_iflt, ↓wb_iclt, ↓wb_ifge, ↓wb_icge, ↓wb_ifgt, ↓wb_icgt, ↓wb_ifle, ↓wb_icle, ↓wb_ifnull, ↓wb_ifnonnull, ↓wb_ret, ↓wb_iret, ↓wb_lret, ↓wb_aret, ↓wb_zret, ↓wb_tsw0, ↓wb_tsw1, ↓wb_lsw0, ↓wb_lsw1, ↓wb_calls0, ↓wb_calls1, ↓wb_callv1, ↓wb_calls2, ↓wb_callv2, ↓wb_calls3, ↓wb_callv3, ↓wb_callv4, ↓wb_callv5, ↓wb_callv6, oB_some, ldI_z, ldI_s, ldL_z, ldL_s, ldR_z, ldR_s, ls1_z, ls1_1n, ls1_1i, ls1_1r, ls1_1l, ls1_s, ls2_z, ls2_1n, ls2_1i, ls2_1r, ls2_1l, ls2_s, List.length_cons, List.length_nil, Nat.reduceAdd, Nat.reduceLT, Nat.reduceLeDiff, Nat.reduceDiv, Nat.reduceMod, Int.reduceToNat, Int.reduceAdd, Nat.zero_add, true_and, Option.toList_some, Option.toList_none, List.cons_append, List.nil_append, true_or, or_true, and_true, false_or, or_false, Int.reduceEq, Int.reduceLT, Int.reduceLE, Int.reduceNeg, not_true_eq_false, not_false_eq_true, Bool.and_eq_true, Bool.or_eq_true, decide_eq_true_eq, ↓reduceIte, b2i_0, b2i_01, b2i_01c, Nat.add_left_cancel_iff, Nat.add_eq_left, Nat.left_eq_add, Nat.reduceEqDiff, false_and, and_false, Bool.false_eq_true, Bool.true_eq_false, ↓wr_iadd, ↓wr_isub, ↓wr_imul, wr_id, ↓wl_72_0, sp_c11 sp, sp_w3 sp, sp_a15 sp, b1, Int.toNat_natCast]
  refine loop 60 0 _ _ none none (by omega) (WI_0 (fun i => Iff.rfl) (fun i => ?_) (fun i hi => nx60 p i hp hi)) (Or.inl rfl)
  rw [BitVec.getLsbD_and, bv_not]
  by_cases h64 : i < 64
  · simp [h64]
  · have : (hL h (c + 15) p).getLsbD i = false := BitVec.getLsbD_of_ge _ _ (by omega)
    simp [this]
