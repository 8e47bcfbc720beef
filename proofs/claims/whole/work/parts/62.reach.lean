/-! ===== what is reached ===== -/
/-- the least set that has what S0 has and is closed under st -/
def LF {α : Type} (S0 : α → Prop) (st : α → α → Prop) (v : α) : Prop := ∀ S : α → Prop, (∀ u, S0 u → S u) → (∀ q u, S q → st q u → S u) → S v
theorem LF_0 {α : Type} {S0 : α → Prop} {st : α → α → Prop} {v : α} (h : S0 v) : LF S0 st v := fun _ a _ => a v h
theorem LF_s {α : Type} {S0 : α → Prop} {st : α → α → Prop} {q v : α} (h : LF S0 st q) (g : st q v) : LF S0 st v := fun S a b => b q v (h S a b) g
theorem LF_mono {α : Type} {S0 T0 : α → Prop} {st tt : α → α → Prop} {v : α} (a : ∀ u, S0 u → T0 u) (b : ∀ q u, st q u → tt q u) (h : LF S0 st v) : LF T0 tt v := h (LF T0 tt) (fun u q => LF_0 (a u q)) (fun q u q1 q2 => LF_s q1 (b q u q2))
/-- a WAY from q to u -/
def wy (Y N : Int → Int) (q u : Int) : Prop := (u = Y q ∨ u = N q) ∧ 0 ≤ u
/-- a row of WAYS leads from t to v, between them none with B -/
def Rch (Y N : Int → Int) (B : Int → Prop) (t v : Int) : Prop := LF (fun u => wy Y N t u) (fun q u => ¬ B q ∧ wy Y N q u) v
/-! ===== bits, the lowest ===== -/
theorem bv_ext {x y : BitVec 64} (h : ∀ i : Nat, x.getLsbD i = y.getLsbD i) : x = y := BitVec.eq_of_getLsbD_eq fun i _ => h i
theorem bv_nz {x : BitVec 64} (h : ¬ x = 0#64) : ∃ k : Nat, k < 64 ∧ x.getLsbD k = true ∧ ∀ j, j < k → x.getLsbD j = false := by
  have ex : ∃ k : Nat, k < 64 ∧ x.getLsbD k = true := by
    refine Classical.byContradiction fun q => h ?_
    apply bv_ext
    intro i
    rw [BitVec.getLsbD_zero]
    by_cases hi : i < 64
    · cases hx : x.getLsbD i with
      | false => rfl
      | true => exact absurd ⟨i, hi, hx⟩ q
    · exact BitVec.getLsbD_of_ge _ _ (by omega)
  have key : ∀ (m : Nat), (∃ k : Nat, k < m ∧ x.getLsbD k = true) → ∃ k : Nat, k < m ∧ x.getLsbD k = true ∧ ∀ j, j < k → x.getLsbD j = false := by
    intro m
    induction m with
    | zero => rintro ⟨k, hk, -⟩; omega
    | succ m ih =>
      rintro ⟨k, hk, hx⟩
      by_cases e : ∃ k : Nat, k < m ∧ x.getLsbD k = true
      · obtain ⟨j, a, b, d⟩ := ih e
        exact ⟨j, by omega, b, d⟩
      · refine ⟨k, hk, hx, fun j hj => ?_⟩
        cases hb : x.getLsbD j with
        | false => rfl
        | true => exact absurd ⟨j, by omega, hb⟩ e
  exact key 64 ex
theorem tp_sub (k : Nat) (hk : k < 64) : pcw (BitVec.twoPow 64 k - 1#64) = k := by
  have h : ∀ k : Nat, k < 64 → pcw (BitVec.twoPow 64 k - 1#64) = k := by decide +kernel
  exact h k hk
/-- x &&& -x is the lowest bit -/
theorem low_bit {x : BitVec 64} {k : Nat} (hk : k < 64) (h1 : x.getLsbD k = true) (h2 : ∀ j, j < k → x.getLsbD j = false) : x &&& -x = BitVec.twoPow 64 k := by
  -- x = 2^k * (2 m + 1)
  have hx : x.toNat % 2 ^ (k + 1) = 2 ^ k := by
    apply Nat.eq_of_testBit_eq
    intro i
    rw [Nat.testBit_mod_two_pow, Nat.testBit_two_pow]
    by_cases hi : i < k
    · have := h2 i hi
      have e : x.toNat.testBit i = false := this
      have ne : ¬ k = i := by omega
      simp [e, ne]
    · by_cases e : i = k
      · subst e
        have e2 : x.toNat.testBit i = true := h1
        simp [e2]
      · have a1 : ¬ i < k + 1 := by omega
        have a2 : ¬ k = i := by omega
        simp [a1, a2]
  apply bv_ext
  intro i
  rw [BitVec.getLsbD_and, BitVec.getLsbD_twoPow]
  by_cases hi : i < 64
  · have hn : (-x).toNat = 2 ^ 64 - x.toNat := by
      rw [BitVec.toNat_neg]
      have hp : 0 < x.toNat := by
        rcases Nat.eq_zero_or_pos x.toNat with z | z
        · rw [z] at hx
          have := Nat.two_pow_pos k
          simp at hx
          omega
        · exact z
      have := x.isLt
      exact Nat.mod_eq_of_lt (by omega)
    -- -x = 2^k + 2^(k+1) * (2^(63-k) - 1 - m)
    obtain ⟨m, hm⟩ : ∃ m, x.toNat = 2 ^ k + 2 ^ (k + 1) * m := ⟨x.toNat / 2 ^ (k + 1), by have := Nat.mod_add_div x.toNat (2 ^ (k + 1)); omega⟩
    obtain ⟨d, hd⟩ : ∃ d, 63 = k + d := ⟨63 - k, by omega⟩
    have h64 : 2 ^ 64 = 2 ^ (k + 1) * 2 ^ d := by rw [← Nat.pow_add]; congr 1; omega
    have hml : m < 2 ^ d := by
      have h3 := x.isLt
      rw [h64, hm] at h3
      have h4 : 2 ^ (k + 1) * m < 2 ^ (k + 1) * 2 ^ d := by omega
      exact Nat.lt_of_mul_lt_mul_left h4
    have hneg : (-x).toNat = 2 ^ k + 2 ^ (k + 1) * (2 ^ d - 1 - m) := by
      rw [hn, hm, h64]
      have e1 : 2 ^ (k + 1) * 2 ^ d = 2 ^ (k + 1) * (2 ^ d - 1 - m) + 2 ^ (k + 1) * (m + 1) := by
        rw [← Nat.mul_add]; congr 1; omega
      rw [e1, Nat.mul_add]
      have e2 : 2 ^ (k + 1) * 1 = 2 ^ k + 2 ^ k := by rw [Nat.pow_succ]; omega
      omega
    have tb : ∀ (a i : Nat), (2 ^ k + 2 ^ (k + 1) * a).testBit i = if i < k + 1 then decide (i = k) else a.testBit (i - (k + 1)) := by
      intro a i
      rw [Nat.add_comm, Nat.testBit_two_pow_mul_add _ (by rw [Nat.pow_succ]; have := Nat.two_pow_pos k; omega)]
      split
      · rw [Nat.testBit_two_pow]
        by_cases e : k = i
        · simp [e]
        · have : ¬ i = k := by omega
          simp [e, this]
      · rfl
    have g1 : x.getLsbD i = if i < k + 1 then decide (i = k) else m.testBit (i - (k + 1)) := by
      show x.toNat.testBit i = _
      rw [hm]; exact tb m i
    have g2 : (-x).getLsbD i = if i < k + 1 then decide (i = k) else (2 ^ d - 1 - m).testBit (i - (k + 1)) := by
      show (-x).toNat.testBit i = _
      rw [hneg]; exact tb _ i
    rw [g1, g2]
    by_cases hk1 : i < k + 1
    · rw [if_pos hk1, if_pos hk1]
      by_cases e : i = k
      · subst e; simp [hi]
      · have : ¬ k = i := by omega
        simp [e, this]
    · rw [if_neg hk1, if_neg hk1]
      have hc : (2 ^ d - 1 - m).testBit (i - (k + 1)) = (decide (i - (k + 1) < d) && !m.testBit (i - (k + 1))) := by
        rw [show 2 ^ d - 1 - m = 2 ^ d - (m + 1) by omega]
        exact Nat.testBit_two_pow_sub_succ hml _
      rw [hc]
      have : ¬ k = i := by omega
      simp [this]
      intro a _
      exact a
  · have e1 : x.getLsbD i = false := BitVec.getLsbD_of_ge _ _ (by omega)
    have : ¬ k = i := by omega
    simp [e1, this]
theorem cc_lowest {sc : Scr} {h : Hp} {Q : Option AV → Hp → Prop} {x : BitVec 64} {k : Nat} (hk : k < 64) (h1 : x.getLsbD k = true) (h2 : ∀ j, j < k → x.getLsbD j = false) : WC sc 2 [aL x] h Q = Q (some (aI k)) h := by
  rw [wc_2]
  simp (maxSteps := 2000000) (disch := omega) only [↓wb_const, ↓wb_lconst, ↓wb_null, ↓wb_iload, ↓wb_lload, ↓wb_aload, ↓wb_istore, ↓wb_lstore, ↓wb_astore, ↓wb_iinc, ↓wb_iand, ↓wb_ior, ↓wb_ishr, ↓wb_idiv, ↓wb_irem, ↓wb_ladd, ↓wb_lsub, ↓wb_land, ↓wb_lor, ↓wb_lxor, ↓wb_lneg, ↓wb_lushr, ↓wb_lshl, ↓wb_l2i, ↓wb_lcmp, ↓wb_dupI, ↓wb_dupR, ↓wb_dup2, ↓wb_popI, ↓wb_popR, ↓wb_getI, ↓wb_getL, ↓wb_getR, ↓wb_putI, ↓wb_putZ, ↓wb_putL, ↓wb_putR, ↓wb_iaload, ↓wb_laload, ↓wb_zaload, ↓wb_aaload, ↓wb_iastore, ↓wb_lastore, ↓wb_zastore, ↓wb_aastore, ↓wb_alen, ↓wb_newI, ↓wb_newL, ↓wb_newZ, ↓wb_newA, ↓wb_new, ↓wb_obj, ↓wb_sld, ↓wb_slen, ↓wb_goto, ↓wb_ifeq, ↓wb_iceq, ↓wb_ifne, ↓wb_icne, ↓wb_iflt, ↓wb_iclt, ↓wb_ifge, ↓wb_icge, ↓wb_ifgt, ↓wb_icgt, ↓wb_ifle, ↓wb_icle, ↓wb_ifnull, ↓wb_ifnonnull, ↓wb_ret, ↓wb_iret, ↓wb_lret, ↓wb_aret, ↓wb_zret, ↓wb_tsw0, ↓wb_tsw1, ↓wb_lsw0, ↓wb_lsw1, ↓wb_calls0, ↓wb_calls1, ↓wb_callv1, ↓wb_calls2, ↓wb_callv2, ↓wb_calls3, ↓wb_callv3, ↓wb_callv4, ↓wb_callv5, ↓wb_callv6, oB_some, ldI_z, ldI_s, ldL_z, ldL_s, ldR_z, ldR_s, ls1_z, ls1_1n, ls1_1i, ls1_1r, ls1_1l, ls1_s, ls2_z, ls2_1n, ls2_1i, ls2_1r, ls2_1l, ls2_s, List.length_cons, List.length_nil, Nat.reduceAdd, Nat.reduceLT, Nat.reduceLeDiff, Nat.reduceDiv, Nat.reduceMod, Int.reduceToNat, Int.reduceAdd, Nat.zero_add, true_and, Option.toList_some, Option.toList_none, List.cons_append, List.nil_append, true_or, or_true, and_true, false_or, or_false, Int.reduceEq, Int.reduceLT, Int.reduceLE, Int.reduceNeg, not_true_eq_false, not_false_eq_true, Bool.and_eq_true, Bool.or_eq_true, decide_eq_true_eq, ↓reduceIte, b2i_0, b2i_01, b2i_01c, Nat.add_left_cancel_iff, Nat.add_eq_left, Nat.left_eq_add, Nat.reduceEqDiff, false_and, and_false, Bool.false_eq_true, Bool.true_eq_false, ↓wr_iadd, ↓wr_isub, ↓wr_imul, wr_id, ↓wl_2_0, low_bit hk h1 h2, ↓cc_bitCount]
  rw [show BitVec.ofInt 64 1 = 1#64 from rfl, tp_sub k hk]
/-- x &&& (x - 1) drops the lowest bit -/
theorem drop_low {x : BitVec 64} {k : Nat} (hk : k < 64) (h1 : x.getLsbD k = true) (h2 : ∀ j, j < k → x.getLsbD j = false) (i : Nat) : (x &&& (x - BitVec.ofInt 64 1)).getLsbD i = (x.getLsbD i && decide (¬ i = k)) := by
  have hx : x.toNat % 2 ^ (k + 1) = 2 ^ k := by
    apply Nat.eq_of_testBit_eq
    intro i
    rw [Nat.testBit_mod_two_pow, Nat.testBit_two_pow]
    by_cases hi : i < k
    · have := h2 i hi
      have e : x.toNat.testBit i = false := this
      have ne : ¬ k = i := by omega
      simp [e, ne]
    · by_cases e : i = k
      · subst e
        have e2 : x.toNat.testBit i = true := h1
        simp [e2]
      · have a1 : ¬ i < k + 1 := by omega
        have a2 : ¬ k = i := by omega
        simp [a1, a2]
  obtain ⟨m, hm⟩ : ∃ m, x.toNat = 2 ^ k + 2 ^ (k + 1) * m := ⟨x.toNat / 2 ^ (k + 1), by have := Nat.mod_add_div x.toNat (2 ^ (k + 1)); omega⟩
  have hp := Nat.two_pow_pos k
  have hs : (x - BitVec.ofInt 64 1).toNat = (2 ^ k - 1) + 2 ^ (k + 1) * m := by
    rw [BitVec.toNat_sub]
    show (2 ^ 64 - 1 + x.toNat) % 2 ^ 64 = _
    have := x.isLt
    omega
  have tb : ∀ (b i : Nat), b < 2 ^ (k + 1) → (b + 2 ^ (k + 1) * m).testBit i = if i < k + 1 then b.testBit i else m.testBit (i - (k + 1)) := by
    intro b i hb
    rw [Nat.add_comm, Nat.testBit_two_pow_mul_add _ hb]
  have hl : 2 ^ k < 2 ^ (k + 1) := by rw [Nat.pow_succ]; omega
  rw [BitVec.getLsbD_and]
  have g1 : x.getLsbD i = if i < k + 1 then (2 ^ k).testBit i else m.testBit (i - (k + 1)) := by
    show x.toNat.testBit i = _
    rw [hm]; exact tb _ i hl
  have g2 : (x - BitVec.ofInt 64 1).getLsbD i = if i < k + 1 then (2 ^ k - 1).testBit i else m.testBit (i - (k + 1)) := by
    show (x - BitVec.ofInt 64 1).toNat.testBit i = _
    rw [hs]; exact tb _ i (by omega)
  rw [g1, g2]
  by_cases hk1 : i < k + 1
  · rw [if_pos hk1, if_pos hk1, Nat.testBit_two_pow, Nat.testBit_two_pow_sub_one]
    by_cases e : i = k
    · subst e; simp
    · have : ¬ k = i := by omega
      simp [this]
  · rw [if_neg hk1, if_neg hk1]
    have : ¬ i = k := by omega
    simp [this]
