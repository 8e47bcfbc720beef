/-! ===== bits ===== -/
theorem lc0 {x : BitVec 64} : (lcmpA x (BitVec.ofInt 64 0) = 0) = (x = 0#64) := by
  apply propext
  have e : lcmpA x (BitVec.ofInt 64 0) = 0 ↔ lg_cmp (l64 x) (l64 (BitVec.ofInt 64 0)) = 0 := by
    unfold lcmpA
    constructor
    · intro q
      apply Int32.toInt_inj.mp
      rw [q]; rfl
    · intro q
      rw [q]; rfl
  rw [e, lg_cmp_eq]
  constructor
  · intro q
    have := congrArg Int64.toBitVec q
    exact this
  · intro q
    rw [q]; rfl
theorem lceq {x y : BitVec 64} : (lcmpA x y = 0) = (x = y) := by
  apply propext
  have e : lcmpA x y = 0 ↔ lg_cmp (l64 x) (l64 y) = 0 := by
    unfold lcmpA
    constructor
    · intro q
      apply Int32.toInt_inj.mp
      rw [q]; rfl
    · intro q
      rw [q]; rfl
  rw [e, lg_cmp_eq]
  constructor
  · intro q
    have := congrArg Int64.toBitVec q
    exact this
  · intro q
    rw [q]
theorem lsr_c : ∀ k : Nat, k < 64 → (i32 (k : Int)).toInt64.toUInt64 &&& Int64.toUInt64 63 = UInt64.ofNat k := by decide +kernel
theorem lsr_nat {w : BitVec 64} {p : Int} (p0 : 0 ≤ p) (p1 : p < 64) : (lushr w p).toNat = w.toNat / 2 ^ p.toNat := by
  obtain ⟨k, rfl⟩ : ∃ k : Nat, p = (k : Int) := ⟨p.toNat, by omega⟩
  have hk : k < 64 := by omega
  unfold lushr
  rw [lsr_c k hk]
  show ((l64 w).toUInt64 >>> UInt64.ofNat k).toNat = _
  have h1 : (UInt64.ofNat k).toNat = k := by
    show (BitVec.ofNat 64 k).toNat = k
    rw [BitVec.toNat_ofNat, Nat.mod_eq_of_lt (by omega)]
  rw [UInt64.toNat_shiftRight, h1, Nat.mod_eq_of_lt hk, Nat.shiftRight_eq_div_pow, Int.toNat_natCast]
  rfl
theorem lsr_bv {w : BitVec 64} {p : Int} (p0 : 0 ≤ p) (p1 : p < 64) : lushr w p = w >>> p.toNat := by
  apply BitVec.eq_of_toNat_eq
  rw [lsr_nat p0 p1, BitVec.toNat_ushiftRight, Nat.shiftRight_eq_div_pow]
def bit1 (p : Int) : BitVec 64 := lshl (BitVec.ofInt 64 1) p
theorem bit1_c : ∀ k : Nat, k < 64 → lshl (BitVec.ofInt 64 1) (k : Int) = BitVec.twoPow 64 k := by decide +kernel
theorem bit1_get {p : Int} (p0 : 0 ≤ p) (p1 : p < 64) (i : Nat) : (bit1 p).getLsbD i = decide ((i : Int) = p) := by
  obtain ⟨k, rfl⟩ : ∃ k : Nat, p = (k : Int) := ⟨p.toNat, by omega⟩
  have hk : k < 64 := by omega
  unfold bit1
  rw [bit1_c k hk, BitVec.getLsbD_twoPow]
  by_cases e : k = i
  · subst e; simp [hk]
  · have e2 : ¬ ((i : Int) = (k : Int)) := by omega
    simp [e, e2]
theorem holds_c {w : BitVec 64} {p : Int} (p0 : 0 ≤ p) (p1 : p < 64) : (lushr w p &&& BitVec.ofInt 64 1 = 0#64) = (w.getLsbD p.toNat = false) := by
  apply propext
  rw [lsr_bv p0 p1]
  show w >>> p.toNat &&& 1#64 = 0#64 ↔ _
  constructor
  · intro h
    have t := congrArg (fun x => x.getLsbD 0) h
    simpa using t
  · intro h
    apply BitVec.eq_of_getLsbD_eq
    intro i hi
    cases i with
    | zero => simp [h]
    | succ i => simp
theorem cc_one {sc : Scr} {h : Hp} {Q : Option AV → Hp → Prop} {p : Int} : WC sc 0 [aI p] h Q = Q (some (aL (bit1 p))) h := by
  rw [wc_0]
  simp (maxSteps := 2000000) (disch := omega) only [↓wb_const, ↓wb_lconst, ↓wb_null, ↓wb_iload, ↓wb_lload, ↓wb_aload, ↓wb_istore, ↓wb_lstore, ↓wb_astore, ↓wb_iinc, ↓wb_iand, ↓wb_ior, ↓wb_ishr, ↓wb_idiv, ↓wb_irem, ↓wb_ladd, ↓wb_lsub, ↓wb_land, ↓wb_lor, ↓wb_lxor, ↓wb_lneg, ↓wb_lushr, ↓wb_lshl, ↓wb_l2i, ↓wb_lcmp, ↓wb_dupI, ↓wb_dupR, ↓wb_dup2, ↓wb_popI, ↓wb_popR, ↓wb_getI, ↓wb_getL, ↓wb_getR, ↓wb_putI, ↓wb_putZ, ↓wb_putL, ↓wb_putR, ↓wb_iaload, ↓wb_laload, ↓wb_zaload, ↓wb_aaload, ↓wb_iastore, ↓wb_lastore, ↓wb_zastore, ↓wb_aastore, ↓wb_alen, ↓wb_newI, ↓wb_newL, ↓wb_newZ, ↓wb_newA, ↓wb_new, ↓wb_obj, ↓wb_sld, ↓wb_slen, ↓wb_goto, ↓wb_ifeq, ↓wb_iceq, ↓wb_ifne, ↓wb_icne, ↓wb_iflt, ↓wb_iclt, ↓wb_ifge, ↓wb_icge, ↓wb_ifgt, ↓wb_icgt, ↓wb_ifle, ↓wb_icle, ↓wb_ifnull, ↓wb_ifnonnull, ↓wb_ret, ↓wb_iret, ↓wb_lret, ↓wb_aret, ↓wb_zret, ↓wb_tsw0, ↓wb_tsw1, ↓wb_lsw0, ↓wb_lsw1, ↓wb_calls0, ↓wb_calls1, ↓wb_callv1, ↓wb_calls2, ↓wb_callv2, ↓wb_calls3, ↓wb_callv3, ↓wb_callv4, ↓wb_callv5, ↓wb_callv6, oB_some, ldI_z, ldI_s, ldL_z, ldL_s, ldR_z, ldR_s, ls1_z, ls1_1n, ls1_1i, ls1_1r, ls1_1l, ls1_s, ls2_z, ls2_1n, ls2_1i, ls2_1r, ls2_1l, ls2_s, List.length_cons, List.length_nil, Nat.reduceAdd, Nat.reduceLT, Nat.reduceLeDiff, Nat.reduceDiv, Nat.reduceMod, Int.reduceToNat, Int.reduceAdd, Nat.zero_add, true_and, Option.toList_some, Option.toList_none, List.cons_append, List.nil_append, true_or, or_true, and_true, false_or, or_false, Int.reduceEq, Int.reduceLT, Int.reduceLE, Int.reduceNeg, not_true_eq_false, not_false_eq_true, Bool.and_eq_true, Bool.or_eq_true, decide_eq_true_eq, ↓reduceIte, b2i_0, b2i_01, Nat.add_left_cancel_iff, Nat.add_eq_left, Nat.left_eq_add, Nat.reduceEqDiff, false_and, and_false, Bool.false_eq_true, Bool.true_eq_false, ↓wr_iadd, ↓wr_isub, ↓wr_imul, wr_id, ↓wl_0_0]
  rfl
theorem cc_holds {sc : Scr} {h : Hp} {Q : Option AV → Hp → Prop} {w : BitVec 64} {p : Int} (p0 : 0 ≤ p) (p1 : p < 64) : WC sc 1 [aL w, aI p] h Q = Q (some (aI (b2i (w.getLsbD p.toNat)))) h := by
  rw [wc_1]
  simp (maxSteps := 2000000) (disch := omega) only [↓wb_const, ↓wb_lconst, ↓wb_null, ↓wb_iload, ↓wb_lload, ↓wb_aload, ↓wb_istore, ↓wb_lstore, ↓wb_astore, ↓wb_iinc, ↓wb_iand, ↓wb_ior, ↓wb_ishr, ↓wb_idiv, ↓wb_irem, ↓wb_ladd, ↓wb_lsub, ↓wb_land, ↓wb_lor, ↓wb_lxor, ↓wb_lneg, ↓wb_lushr, ↓wb_lshl, ↓wb_l2i, ↓wb_lcmp, ↓wb_dupI, ↓wb_dupR, ↓wb_dup2, ↓wb_popI, ↓wb_popR, ↓wb_getI, ↓wb_getL, ↓wb_getR, ↓wb_putI, ↓wb_putZ, ↓wb_putL, ↓wb_putR, ↓wb_iaload, ↓wb_laload, ↓wb_zaload, ↓wb_aaload, ↓wb_iastore, ↓wb_lastore, ↓wb_zastore, ↓wb_aastore, ↓wb_alen, ↓wb_newI, ↓wb_newL, ↓wb_newZ, ↓wb_newA, ↓wb_new, ↓wb_obj, ↓wb_sld, ↓wb_slen, ↓wb_goto, ↓wb_ifeq, ↓wb_iceq, ↓wb_ifne, ↓wb_icne, ↓wb_iflt, ↓wb_iclt, ↓wb_ifge, ↓wb_icge, ↓wb_ifgt, ↓wb_icgt, ↓wb_ifle, ↓wb_icle, ↓wb_ifnull, ↓wb_ifnonnull, ↓wb_ret, ↓wb_iret, ↓wb_lret, ↓wb_aret, ↓wb_zret, ↓wb_tsw0, ↓wb_tsw1, ↓wb_lsw0, ↓wb_lsw1, ↓wb_calls0, ↓wb_calls1, ↓wb_callv1, ↓wb_calls2, ↓wb_callv2, ↓wb_calls3, ↓wb_callv3, ↓wb_callv4, ↓wb_callv5, ↓wb_callv6, oB_some, ldI_z, ldI_s, ldL_z, ldL_s, ldR_z, ldR_s, ls1_z, ls1_1n, ls1_1i, ls1_1r, ls1_1l, ls1_s, ls2_z, ls2_1n, ls2_1i, ls2_1r, ls2_1l, ls2_s, List.length_cons, List.length_nil, Nat.reduceAdd, Nat.reduceLT, Nat.reduceLeDiff, Nat.reduceDiv, Nat.reduceMod, Int.reduceToNat, Int.reduceAdd, Nat.zero_add, true_and, Option.toList_some, Option.toList_none, List.cons_append, List.nil_append, true_or, or_true, and_true, false_or, or_false, Int.reduceEq, Int.reduceLT, Int.reduceLE, Int.reduceNeg, not_true_eq_false, not_false_eq_true, Bool.and_eq_true, Bool.or_eq_true, decide_eq_true_eq, ↓reduceIte, b2i_0, b2i_01, Nat.add_left_cancel_iff, Nat.add_eq_left, Nat.left_eq_add, Nat.reduceEqDiff, false_and, and_false, Bool.false_eq_true, Bool.true_eq_false, ↓wr_iadd, ↓wr_isub, ↓wr_imul, wr_id, ↓wl_1_0, ↓wl_1_10, ↓wl_1_11, lc0, holds_c]
  cases w.getLsbD p.toNat <;> simp [b2i]
/-! how many bits: the JDK's own way -/
def ctN (p : Nat → Bool) : Nat → Nat
  | 0 => 0
  | n + 1 => ctN p n + (if p n = true then 1 else 0)
theorem ctN_split (p : Nat → Bool) (m : Nat) : ∀ n, ctN p (m + n) = ctN p m + ctN (fun k => p (m + k)) n
  | 0 => rfl
  | n + 1 => by
    show ctN p (m + n) + _ = ctN p m + (ctN (fun k => p (m + k)) n + _)
    rw [ctN_split p m n, Nat.add_assoc]
    rfl
theorem ctN_cong {p q : Nat → Bool} : ∀ {n : Nat}, (∀ k, k < n → p k = q k) → ctN p n = ctN q n
  | 0, _ => rfl
  | n + 1, h => by
    show ctN p n + _ = ctN q n + _
    rw [ctN_cong (fun k hk => h k (by omega)), h n (by omega)]
def msk (m : Nat) : Nat → Nat
  | 0 => 0
  | k + 1 => m + 256 * msk m k
theorem land8 {a b m n : Nat} (hb : b < 256) (hn : n < 256) : (b + 256 * a) &&& (n + 256 * m) = (b &&& n) + 256 * (a &&& m) := by
  have e1 : ((b + 256 * a) &&& (n + 256 * m)) % 2 ^ 8 = b &&& n := by
    rw [Nat.and_mod_two_pow]
    congr 1
    · show (b + 256 * a) % 256 = b; omega
    · show (n + 256 * m) % 256 = n; omega
  have e2 : ((b + 256 * a) &&& (n + 256 * m)) / 2 ^ 8 = a &&& m := by
    rw [Nat.and_div_two_pow]
    congr 1
    · show (b + 256 * a) / 256 = a; omega
    · show (n + 256 * m) / 256 = m; omega
  have := Nat.mod_add_div ((b + 256 * a) &&& (n + 256 * m)) (2 ^ 8)
  rw [e1, e2] at this
  exact this.symm
/-- of a byte: the three steps -/
def by1 (b : Nat) : Nat := b - ((b / 2) &&& 85)
def by2 (b : Nat) : Nat := (b &&& 51) + ((b / 4) &&& 51)
def by3 (b : Nat) : Nat := (b + b / 16) &&& 15
theorem by_1 : ∀ b, b < 256 → ((b / 2) &&& 85) ≤ b ∧ by1 b < 256 ∧ ((b / 2 + 128) &&& 85) = ((b / 2) &&& 85) := by decide +kernel
theorem by_2 : ∀ b, b < 256 → by2 (by1 b) < 69 ∧ by2 (by1 b) % 16 < 5 ∧ by2 (by1 b) / 16 < 5 := by decide +kernel
theorem by_2m : ∀ b, b < 256 → ∀ c, c < 4 → ((b / 4 + 64 * c) &&& 51) = ((b / 4) &&& 51) := by decide +kernel
theorem by_2s : ∀ b, b < 256 → (b &&& 51) + ((b / 4) &&& 51) < 256 := by decide +kernel
theorem by_3m : ∀ b, b < 69 → ∀ c, c < 5 → ((b + b / 16 + 16 * c) &&& 15) = by3 b := by decide +kernel
theorem by_c : ∀ b, b < 256 → by3 (by2 (by1 b)) = ctN (fun i => b.testBit i) 8 ∧ by3 (by2 (by1 b)) ≤ 8 := by decide +kernel
def dg (f : Nat → Nat) : Nat → Nat → Nat
  | 0, _ => 0
  | k + 1, x => f (x % 256) + 256 * dg f k (x / 256)
theorem st1 : ∀ (k x : Nat), x < 256 ^ k → ((x / 2) &&& msk 85 k) ≤ x ∧ x - ((x / 2) &&& msk 85 k) = dg by1 k x
  | 0, x, h => by
    have : x = 0 := by simpa using h
    subst this; exact ⟨by simp [msk], rfl⟩
  | k + 1, x, h => by
    have hx : x / 256 < 256 ^ k := by rw [Nat.pow_succ] at h; omega
    obtain ⟨i1, i2⟩ := st1 k (x / 256) hx
    have hb : x % 256 < 256 := by omega
    obtain ⟨b1, b2, b3⟩ := by_1 (x % 256) hb
    have e : x / 2 = (x % 256 / 2 + 128 * (x / 256 % 2)) + 256 * (x / 256 / 2) := by omega
    have e2 : (x / 2) &&& msk 85 (k + 1) = ((x % 256 / 2) &&& 85) + 256 * ((x / 256 / 2) &&& msk 85 k) := by
      show (x / 2) &&& (85 + 256 * msk 85 k) = _
      rw [e, land8 (by omega) (by omega)]
      congr 1
      rcases (by omega : x / 256 % 2 = 0 ∨ x / 256 % 2 = 1) with q | q
      · rw [q]; rfl
      · rw [q]; exact b3
    rw [e2]
    generalize hu : (x % 256 / 2) &&& 85 = u at *
    generalize hv : (x / 256 / 2) &&& msk 85 k = v at *
    refine ⟨by omega, ?_⟩
    show _ = by1 (x % 256) + 256 * dg by1 k (x / 256)
    rw [← i2]
    unfold by1
    rw [hu]
    omega
theorem st2_ : ∀ (k x : Nat), x < 256 ^ k → (dg by1 k x &&& msk 51 k) + ((dg by1 k x / 4) &&& msk 51 k) = dg (fun b => by2 (by1 b)) k x
  | 0, x, h => by show (0 &&& 0) + (0 / 4 &&& 0) = 0; decide
  | k + 1, x, h => by
    have hx : x / 256 < 256 ^ k := by rw [Nat.pow_succ] at h; omega
    have ih := st2_ k (x / 256) hx
    have hb : x % 256 < 256 := by omega
    obtain ⟨b1, b2, b3⟩ := by_1 (x % 256) hb
    show ((by1 (x % 256) + 256 * dg by1 k (x / 256)) &&& (51 + 256 * msk 51 k)) + (((by1 (x % 256) + 256 * dg by1 k (x / 256)) / 4) &&& (51 + 256 * msk 51 k)) = by2 (by1 (x % 256)) + 256 * dg (fun b => by2 (by1 b)) k (x / 256)
    rw [← ih]
    generalize dg by1 k (x / 256) = y
    generalize by1 (x % 256) = b at *
    rw [land8 (by omega) (by omega)]
    have e : (b + 256 * y) / 4 = (b / 4 + 64 * (y % 4)) + 256 * (y / 4) := by omega
    rw [e, land8 (by omega) (by omega), by_2m b b2 (y % 4) (by omega)]
    unfold by2
    omega
theorem st3_ : ∀ (k x : Nat), x < 256 ^ k → ((dg (fun b => by2 (by1 b)) k x + dg (fun b => by2 (by1 b)) k x / 16) &&& msk 15 k) = dg (fun b => by3 (by2 (by1 b))) k x ∧ dg (fun b => by2 (by1 b)) k x % 16 < 5
  | 0, x, h => ⟨by show (0 + 0 / 16 &&& 0) = 0; decide, by show 0 % 16 < 5; decide⟩
  | k + 1, x, h => by
    have hx : x / 256 < 256 ^ k := by rw [Nat.pow_succ] at h; omega
    obtain ⟨ih, i2⟩ := st3_ k (x / 256) hx
    have hb : x % 256 < 256 := by omega
    obtain ⟨b1, b2, b3⟩ := by_2 (x % 256) hb
    show (((by2 (by1 (x % 256)) + 256 * dg (fun b => by2 (by1 b)) k (x / 256)) + (by2 (by1 (x % 256)) + 256 * dg (fun b => by2 (by1 b)) k (x / 256)) / 16) &&& (15 + 256 * msk 15 k)) = by3 (by2 (by1 (x % 256))) + 256 * dg (fun b => by3 (by2 (by1 b))) k (x / 256) ∧ (by2 (by1 (x % 256)) + 256 * dg (fun b => by2 (by1 b)) k (x / 256)) % 16 < 5
    rw [← ih]
    generalize dg (fun b => by2 (by1 b)) k (x / 256) = y at *
    generalize by2 (by1 (x % 256)) = b at *
    refine ⟨?_, by omega⟩
    have e : b + 256 * y + (b + 256 * y) / 16 = (b + b / 16 + 16 * (y % 16)) + 256 * (y + y / 16) := by omega
    rw [e, land8 (by omega) (by omega), by_3m b b1 (y % 16) i2]
theorem tb8 (x i : Nat) : x.testBit (8 + i) = (x / 256).testBit i := by
  rw [Nat.add_comm, Nat.testBit_add]
theorem ct8 : ∀ (k x : Nat), dg (fun b => by3 (by2 (by1 b))) k x = dg (fun b => ctN (fun i => b.testBit i) 8) k x
  | 0, x => rfl
  | k + 1, x => by
    show by3 _ + 256 * _ = ctN _ 8 + 256 * _
    rw [ct8 k, (by_c (x % 256) (by omega)).1]
def dgs (f : Nat → Nat) : Nat → Nat → Nat
  | 0, _ => 0
  | k + 1, x => f (x % 256) + dgs f k (x / 256)
theorem ctd : ∀ (k x : Nat), ctN (fun i => x.testBit i) (8 * k) = dgs (fun b => by3 (by2 (by1 b))) k x
  | 0, x => rfl
  | k + 1, x => by
    rw [show 8 * (k + 1) = 8 + 8 * k by omega, ctN_split]
    show _ = by3 _ + dgs _ k (x / 256)
    rw [← ctd k (x / 256), (by_c (x % 256) (by omega)).1]
    congr 1
    · apply ctN_cong
      intro i hi
      show x.testBit i = (x % 2 ^ 8).testBit i
      rw [Nat.testBit_mod_two_pow]; simp [hi]
    · apply ctN_cong
      intro i hi
      exact tb8 x i
theorem dvl {A B y m : Nat} (hA : A < m) (e : y = A + m * B) : y / m = B := by
  subst e
  rw [Nat.add_mul_div_left _ _ (by omega), Nat.div_eq_of_lt hA]; omega
theorem fold8 {a b c d e f g i : Nat} (ha : a ≤ 8) (hb : b ≤ 8) (hc : c ≤ 8) (hd : d ≤ 8) (he : e ≤ 8) (hf : f ≤ 8) (hg : g ≤ 8) (hi : i ≤ 8) {x y z w : Nat} (hx : x = a + 256 * (b + 256 * (c + 256 * (d + 256 * (e + 256 * (f + 256 * (g + 256 * (i + 256 * 0)))))))) (hy : y = x + x / 256) (hz : z = y + y / 65536) (hw : w = z + z / 4294967296) : w % 128 = a + (b + (c + (d + (e + (f + (g + (i + 0)))))))  ∧ w < 1152921504606846976 ∧ z < 1152921504606846976 ∧ y < 1152921504606846976 := by
  have e1 := dvl (by omega : a < 256) hx
  have e2 : y = (a + b + 256 * (b + c)) + 65536 * ((c + d) + 256 * ((d + e) + 256 * ((e + f) + 256 * ((f + g) + 256 * ((g + i) + 256 * i))))) := by
    rw [hy, e1, hx]
    clear hy hz hw e1 hx
    omega
  have e3 := dvl (by clear hy hz hw e1 hx e2; omega : a + b + 256 * (b + c) < 65536) e2
  have e4 : z = (a + b + (c + d) + 256 * (b + c + (d + e)) + 65536 * (c + d + (e + f)) + 16777216 * (d + e + (f + g))) + 4294967296 * ((e + f + (g + i)) + 256 * ((f + g + i) + 256 * ((g + i) + 256 * i))) := by
    rw [hz, e3, e2]
    clear hy hz hw e1 hx e2 e3
    omega
  have e5 := dvl (by clear hy hz hw e1 hx e2 e3 e4; omega : a + b + (c + d) + 256 * (b + c + (d + e)) + 65536 * (c + d + (e + f)) + 16777216 * (d + e + (f + g)) < 4294967296) e4
  have e6 : w = (a + b + (c + d) + (e + f + (g + i))) + 128 * (2 * (b + c + (d + e) + (f + g + i)) + 512 * (c + d + (e + f) + (g + i)) + 131072 * (d + e + (f + g) + i) + 33554432 * ((e + f + (g + i)) + 256 * ((f + g + i) + 256 * ((g + i) + 256 * i)))) := by
    rw [hw, e5, e4]
    clear hy hz hw e1 hx e2 e3 e4 e5
    omega
  refine ⟨?_, ?_, ?_, ?_⟩
  · generalize (2 * (b + c + (d + e) + (f + g + i)) + 512 * (c + d + (e + f) + (g + i)) + 131072 * (d + e + (f + g) + i) + 33554432 * ((e + f + (g + i)) + 256 * ((f + g + i) + 256 * ((g + i) + 256 * i)))) = T at e6
    clear hy hz hw e1 hx e2 e3 e4 e5
    omega
  · rw [e6]
    clear hy hz hw e1 hx e2 e3 e4 e5 e6
    omega
  · rw [e4]
    clear hy hz hw e1 hx e2 e3 e4 e5 e6
    omega
  · rw [e2]
    clear hy hz hw e1 hx e2 e3 e4 e5 e6
    omega
def pcw (w : BitVec 64) : Nat := ctN (fun i => w.getLsbD i) 64
theorem and127 (y : Int32) : (y &&& i32 127).toInt = ((y.toBitVec.toNat % 128 : Nat) : Int) := by
  have e : (y &&& i32 127).toBitVec.toNat = y.toBitVec.toNat % 128 := by
    rw [Int32.toBitVec_and, BitVec.toNat_and]
    exact Nat.and_two_pow_sub_one_eq_mod _ 7
  show (y &&& i32 127).toBitVec.toInt = _
  rw [BitVec.toInt_eq_toNat_of_lt (by rw [e]; omega), e]
theorem bc_end (b : BitVec 64) : andI (l2i b) 127 = ((b.toNat % 128 : Nat) : Int) := by
  unfold andI l2i
  rw [toInt_i32, and127]
  have e : (l64 b).toInt32.toBitVec = b.setWidth 32 := by
    rw [Int64.toBitVec_toInt32, BitVec.signExtend_eq_setWidth_of_le _ (by decide)]
    rfl
  rw [e, BitVec.toNat_setWidth]
  congr 1
  omega
theorem mk85 : (BitVec.ofInt 64 6148914691236517205).toNat = msk 85 8 := by decide +kernel
theorem mk51 : (BitVec.ofInt 64 3689348814741910323).toNat = msk 51 8 := by decide +kernel
theorem mk15 : (BitVec.ofInt 64 1085102592571150095).toNat = msk 15 8 := by decide +kernel
theorem bc_pure {w b1 b2 b3 b4 b5 b6 : BitVec 64} (e1 : w - (lushr w 1 &&& BitVec.ofInt 64 6148914691236517205) = b1) (e2 : (b1 &&& BitVec.ofInt 64 3689348814741910323) + (lushr b1 2 &&& BitVec.ofInt 64 3689348814741910323) = b2) (e3 : (b2 + lushr b2 4) &&& BitVec.ofInt 64 1085102592571150095 = b3) (e4 : b3 + lushr b3 8 = b4) (e5 : b4 + lushr b4 16 = b5) (e6 : b5 + lushr b5 32 = b6) : andI (l2i b6) 127 = (pcw w : Int) := by
  have hw : w.toNat < 256 ^ 8 := w.isLt
  obtain ⟨s1, s2⟩ := st1 8 w.toNat hw
  have s3 := st2_ 8 w.toNat hw
  have s4 := (st3_ 8 w.toNat hw).1
  have n1 : b1.toNat = dg by1 8 w.toNat := by
    rw [← e1, BitVec.toNat_sub, BitVec.toNat_and, lsr_nat (by omega) (by omega), mk85]
    rw [← s2]
    show (2 ^ 64 - (w.toNat / 2 &&& msk 85 8) + w.toNat) % 2 ^ 64 = w.toNat - (w.toNat / 2 &&& msk 85 8)
    generalize (w.toNat / 2 &&& msk 85 8) = v at *
    have := w.isLt
    omega
  have m51 : msk 51 8 = 3689348814741910323 := by decide +kernel
  have n2 : b2.toNat = dg (fun b => by2 (by1 b)) 8 w.toNat := by
    rw [← e2, BitVec.toNat_add, BitVec.toNat_and, BitVec.toNat_and, lsr_nat (by omega) (by omega), mk51, n1]
    show ((dg by1 8 w.toNat &&& msk 51 8) + (dg by1 8 w.toNat / 4 &&& msk 51 8)) % 2 ^ 64 = _
    rw [s3]
    refine Nat.mod_eq_of_lt ?_
    rw [← s3]
    have a1 := Nat.and_le_right (n := dg by1 8 w.toNat) (m := msk 51 8)
    have a2 := Nat.and_le_right (n := dg by1 8 w.toNat / 4) (m := msk 51 8)
    omega
  have l2 : b2.toNat ≤ 7378697629483820646 := by
    rw [n2, ← s3]
    have a1 := Nat.and_le_right (n := dg by1 8 w.toNat) (m := msk 51 8)
    have a2 := Nat.and_le_right (n := dg by1 8 w.toNat / 4) (m := msk 51 8)
    omega
  have n3 : b3.toNat = dg (fun b => by3 (by2 (by1 b))) 8 w.toNat := by
    rw [← e3, BitVec.toNat_and, BitVec.toNat_add, lsr_nat (by omega) (by omega), mk15, ← s4]
    show (b2.toNat + b2.toNat / 16) % 2 ^ 64 &&& msk 15 8 = _
    rw [Nat.mod_eq_of_lt (by omega), n2]
  have hp : (pcw w) = dgs (fun b => by3 (by2 (by1 b))) 8 w.toNat := by
    rw [← ctd 8 w.toNat]
    rfl
  have n4 : b4.toNat = b3.toNat + b3.toNat / 256 := by
    have l3 : b3.toNat ≤ 1085102592571150095 := by
      rw [n3, ← s4]
      exact Nat.le_trans (Nat.and_le_right) (by decide +kernel)
    rw [← e4, BitVec.toNat_add, lsr_nat (by omega) (by omega)]
    show (b3.toNat + b3.toNat / 256) % 2 ^ 64 = _
    omega
  have f := fold8 (by_c (w.toNat % 256) (by omega)).2 (by_c (w.toNat / 256 % 256) (by omega)).2 (by_c (w.toNat / 256 / 256 % 256) (by omega)).2 (by_c (w.toNat / 256 / 256 / 256 % 256) (by omega)).2 (by_c (w.toNat / 256 / 256 / 256 / 256 % 256) (by omega)).2 (by_c (w.toNat / 256 / 256 / 256 / 256 / 256 % 256) (by omega)).2 (by_c (w.toNat / 256 / 256 / 256 / 256 / 256 / 256 % 256) (by omega)).2 (by_c (w.toNat / 256 / 256 / 256 / 256 / 256 / 256 / 256 % 256) (by omega)).2 (x := b3.toNat) n3 n4 rfl rfl
  obtain ⟨f1, f2, f3, f4⟩ := f
  have n5 : b5.toNat = b4.toNat + b4.toNat / 65536 := by
    rw [← e5, BitVec.toNat_add, lsr_nat (by omega) (by omega)]
    show (b4.toNat + b4.toNat / 65536) % 2 ^ 64 = _
    omega
  have n6 : b6.toNat = b5.toNat + b5.toNat / 4294967296 := by
    rw [← e6, BitVec.toNat_add, lsr_nat (by omega) (by omega), n5]
    show (_ + _ / 4294967296) % 2 ^ 64 = _
    omega
  rw [bc_end, n6, n5, f1, hp]
  rfl
theorem cc_bitCount {sc : Scr} {h : Hp} {Q : Option AV → Hp → Prop} {w : BitVec 64} : WC sc 174 [aL w] h Q = Q (some (aI (pcw w))) h := by
  rw [wc_174]
  simp (maxSteps := 2000000) (disch := omega) only [↓wb_const, ↓wb_lconst, ↓wb_null, ↓wb_iload, ↓wb_lload, ↓wb_aload, ↓wb_istore, ↓wb_lstore, ↓wb_astore, ↓wb_iinc, ↓wb_iand, ↓wb_ior, ↓wb_ishr, ↓wb_idiv, ↓wb_irem, ↓wb_ladd, ↓wb_lsub, ↓wb_land, ↓wb_lor, ↓wb_lxor, ↓wb_lneg, ↓wb_lushr, ↓wb_lshl, ↓wb_l2i, ↓wb_lcmp, ↓wb_dupI, ↓wb_dupR, ↓wb_dup2, ↓wb_popI, ↓wb_popR, ↓wb_getI, ↓wb_getL, ↓wb_getR, ↓wb_putI, ↓wb_putZ, ↓wb_putL, ↓wb_putR, ↓wb_iaload, ↓wb_laload, ↓wb_zaload, ↓wb_aaload, ↓wb_iastore, ↓wb_lastore, ↓wb_zastore, ↓wb_aastore, ↓wb_alen, ↓wb_newI, ↓wb_newL, ↓wb_newZ, ↓wb_newA, ↓wb_new, ↓wb_obj, ↓wb_sld, ↓wb_slen, ↓wb_goto, ↓wb_ifeq, ↓wb_iceq, ↓wb_ifne, ↓wb_icne, ↓wb_iflt, ↓wb_iclt, ↓wb_ifge, ↓wb_icge, ↓wb_ifgt, ↓wb_icgt, ↓wb_ifle, ↓wb_icle, ↓wb_ifnull, ↓wb_ifnonnull, ↓wb_ret, ↓wb_iret, ↓wb_lret, ↓wb_aret, ↓wb_zret, ↓wb_tsw0, ↓wb_tsw1, ↓wb_lsw0, ↓wb_lsw1, ↓wb_calls0, ↓wb_calls1, ↓wb_callv1, ↓wb_calls2, ↓wb_callv2, ↓wb_calls3, ↓wb_callv3, ↓wb_callv4, ↓wb_callv5, ↓wb_callv6, oB_some, ldI_z, ldI_s, ldL_z, ldL_s, ldR_z, ldR_s, ls1_z, ls1_1n, ls1_1i, ls1_1r, ls1_1l, ls1_s, ls2_z, ls2_1n, ls2_1i, ls2_1r, ls2_1l, ls2_s, List.length_cons, List.length_nil, Nat.reduceAdd, Nat.reduceLT, Nat.reduceLeDiff, Nat.reduceDiv, Nat.reduceMod, Int.reduceToNat, Int.reduceAdd, Nat.zero_add, true_and, Option.toList_some, Option.toList_none, List.cons_append, List.nil_append, true_or, or_true, and_true, false_or, or_false, Int.reduceEq, Int.reduceLT, Int.reduceLE, Int.reduceNeg, not_true_eq_false, not_false_eq_true, Bool.and_eq_true, Bool.or_eq_true, decide_eq_true_eq, ↓reduceIte, b2i_0, b2i_01, Nat.add_left_cancel_iff, Nat.add_eq_left, Nat.left_eq_add, Nat.reduceEqDiff, false_and, and_false, Bool.false_eq_true, Bool.true_eq_false, ↓wr_iadd, ↓wr_isub, ↓wr_imul, wr_id, ↓wl_174_0]
  rw [bc_pure rfl rfl rfl rfl rfl rfl]
