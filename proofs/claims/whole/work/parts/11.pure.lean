/-! ===== one instruction of the small machine in the large one: those that leave the heap alone ===== -/
def AA (base : Nat) : Nat → Prop := fun q => base ≤ q
def NS (U : State) : Prop := (∀ e ∈ nlist, va_Nw (.methodLinkNest (cnm e.1) e.2.1 (mY e.2.2.1) (cnm e.2.2.2)) U) ∧ va_AO RX4 U
def Cx (p : Program) (R : Room) (s : State) (m : MethodId) (args : Array Value) (meth : Method) (c : Code) (D : va_G) (cA : Nat → ClassId) (base mu : Nat) : Prop :=
  p.tables.exec = Jvm.exec ∧ c.code = mB mu ∧ c.maxLocals = mL mu ∧ s.vm.findClass (cnm (mC mu)) = some m.cls ∧ (∀ w ∈ wAll, w.before args s = true) ∧ va_K D clz (tysA cA) s ∧ NS s ∧ meth.sig.returnType = mR mu ∧ meth.locks = false ∧ (isInit mu = true → meth.name = "<init>") ∧ base ≤ s.heap.size ∧ mF mu ≤ R.frames ∧ mO mu ≤ R.locals
def Pt3 (D : va_G) (cA : Nat → ClassId) (base b : Nat) (ad : Nat → Nat) (s : State) (h : Hp) (H : Heap) (locs : List Loc) : Prop := HI h ∧ va_P D clz (img cA ad b h) H ∧ va_D (AA base) (img cA ad b h) ∧ va_S (AA base) s.heap H locs
def Nx (p : Program) (l : Launch) (e : Env) (R : Room) (s : State) (m : MethodId) (args : Array Value) (below : List Frame) (meth : Method) (c : Code) (Q : State → Prop) (b mu pc : Nat) (ls : ALS) (st : List AV) (ad : Nat → Nat) (H : Heap) (locs : List Loc) (cells slots : Nat) : Prop :=
  ∀ lsC, lv_has lsC (mL mu) (lpr ad b 0 ls) → W p l e R s m args below meth c H locs cells slots Q (F0 m pc lsC (st.map (rl ad b)))
theorem i32_add (x y : Int) : i32 (wr (x + y)) = i32 x + i32 y := by rw [i32_wr]; exact Int32.ofInt_add x y
theorem i32_sub (x y : Int) : i32 (wr (x - y)) = i32 x - i32 y := by rw [i32_wr]; exact Int32.ofInt_sub x y
theorem i32_mul (x y : Int) : i32 (wr (x * y)) = i32 x * i32 y := by rw [i32_wr]; exact Int32.ofInt_mul x y
theorem l64_l (z : Int64) : l64 z.toBitVec = z := rfl
theorem lpr_get {ad : Nat → Nat} {b a n : Nat} {ls : ALS} {lsC : Array Slot} {v : AV} (hl : lv_has lsC n (lpr ad b 0 ls)) (h : ls[a]? = some (some v)) : lsC[a]? = some (.val (rl ad b v)) := by
  have := hl.2.2 (a, rl ad b v) (mem_lpr.mpr ⟨a, v, h, by simp⟩)
  exact this
theorem okL_get {h : Hp} {ls : ALS} {a : Nat} {v : AV} (ho : okL h ls) (hv : ls[a]? = some (some v)) : okV h v := ho v (List.mem_of_getElem? hv)
theorem ldI_some {ls : ALS} {a : Nat} {x : Int} (h : ldI ls a = some x) : ls[a]? = some (some (.inl x)) := by
  unfold ldI at h; split at h
  · next q => cases h; exact q
  · cases h
theorem ldL_some {ls : ALS} {a : Nat} {x : BitVec 64} (h : ldL ls a = some x) : ls[a]? = some (some (aL x)) := by
  unfold ldL at h; split at h
  · next q => cases h; exact q
  · cases h
theorem ldR_some {ls : ALS} {a : Nat} {x : Nat} (h : ldR ls a = some x) : ls[a]? = some (some (aR x)) := by
  unfold ldR at h; split at h
  · next q => cases h; exact q
  · cases h
theorem rl_cat {ad : Nat → Nat} {b : Nat} {v : AV} : (rl ad b v).category = 2 ↔ isLong v := by
  rcases v with x | x | x
  · exact ⟨fun h => (by cases h), fun ⟨y, h⟩ => (by cases h)⟩
  · exact ⟨fun _ => ⟨x, rfl⟩, fun _ => rfl⟩
  · refine ⟨fun h => ?_, fun ⟨y, h⟩ => (by cases h)⟩
    have h : (va_rf (rf ad b x)).category = 2 := h
    cases hr : rf ad b x with
    | none => rw [hr] at h; cases h
    | some y => rw [hr] at h; cases h
theorem rl_cat1 {ad : Nat → Nat} {b : Nat} {v : AV} (h : cat1 v = true) : (rl ad b v).category = 1 := by
  rcases v with x | x | x
  · rfl
  · cases h
  · show (va_rf (rf ad b x)).category = 1
    cases rf ad b x <;> rfl
theorem lpr_ls1 {ad : Nat → Nat} {b n a : Nat} {ls : ALS} {w : AV} {lsC : Array Slot} (h : lv_has lsC n ((a, rl ad b w) :: (lpr ad b 0 ls).filter (fun q => !(q.1 == a) && !(q.1 + 1 == a && q.2.category == 2)))) : lv_has lsC n (lpr ad b 0 (ls1 ls a w)) := by
  refine ⟨h.1, h.2.1, fun q hq => ?_⟩
  obtain ⟨k, v, h1, rfl⟩ := mem_lpr.mp hq
  rcases ls1_get h1 with ⟨rfl, rfl⟩ | ⟨e1, e2, e3⟩
  · simp only [Nat.zero_add]
    exact h.2.2 (k, rl ad b v) List.mem_cons_self
  · refine h.2.2 _ (List.mem_cons_of_mem _ (List.mem_filter.mpr ⟨mem_lpr.mpr ⟨k, v, e2, rfl⟩, ?_⟩))
    simp only [Nat.zero_add, Bool.and_eq_true, Bool.not_eq_true', beq_eq_false_iff_ne, Bool.and_eq_false_iff]
    refine ⟨e1, ?_⟩
    by_cases hk : k + 1 = a
    · exact Or.inr fun hc => e3 ⟨hk, rl_cat.mp hc⟩
    · exact Or.inl hk
theorem lpr_ls2 {ad : Nat → Nat} {b n a : Nat} {ls : ALS} {w : AV} {lsC : Array Slot} (hl : a + 1 < ls.length) (h : lv_has lsC n ((a, rl ad b w) :: (lpr ad b 0 ls).filter (fun q => !(q.1 == a) && (!(q.1 == a + 1) && !(q.1 + 1 == a && q.2.category == 2))))) : lv_has lsC n (lpr ad b 0 (ls2 ls a w)) := by
  refine ⟨h.1, h.2.1, fun q hq => ?_⟩
  obtain ⟨k, v, h1, rfl⟩ := mem_lpr.mp hq
  rcases ls2_get hl h1 with ⟨rfl, rfl⟩ | ⟨e1, e0, e2, e3⟩
  · simp only [Nat.zero_add]
    exact h.2.2 (k, rl ad b v) List.mem_cons_self
  · refine h.2.2 _ (List.mem_cons_of_mem _ (List.mem_filter.mpr ⟨mem_lpr.mpr ⟨k, v, e2, rfl⟩, ?_⟩))
    simp only [Nat.zero_add, Bool.and_eq_true, Bool.not_eq_true', beq_eq_false_iff_ne, Bool.and_eq_false_iff]
    refine ⟨e1, e0, ?_⟩
    by_cases hk : k + 1 = a
    · exact Or.inr fun hc => e3 ⟨hk, rl_cat.mp hc⟩
    · exact Or.inl hk
theorem okL_ls1 {h : Hp} {ls : ALS} {a : Nat} {w : AV} (ho : okL h ls) (hw : okV h w) : okL h (ls1 ls a w) := by
  intro v hv
  obtain ⟨k, hk⟩ := List.getElem?_of_mem hv
  rcases ls1_get hk with ⟨-, rfl⟩ | ⟨-, e2, -⟩
  · exact hw
  · exact okL_get ho e2
theorem okL_ls2 {h : Hp} {ls : ALS} {a : Nat} {w : AV} (hl : a + 1 < ls.length) (ho : okL h ls) (hw : okV h w) : okL h (ls2 ls a w) := by
  intro v hv
  obtain ⟨k, hk⟩ := List.getElem?_of_mem hv
  rcases ls2_get hl hk with ⟨-, rfl⟩ | ⟨-, -, e2, -⟩
  · exact hw
  · exact okL_get ho e2
theorem lidx_spec {ins : Instr} {ln a : Nat} {f : Nat → Instr} {g : Fin 4 → Instr} (h : lidx ins ln a f g = true) : (ins = f a ∧ ln = 2) ∨ ∃ q : a < 4, ins = g ⟨a, q⟩ ∧ ln = 1 := by
  unfold lidx at h
  rw [Bool.or_eq_true] at h
  rcases h with h | h
  · left; simpa using h
  · right
    split at h
    · next q => exact ⟨q, by simpa using h⟩
    · cases h
theorem mem_wF {w : Cond} (h : w ∈ wF) : w ∈ wAll := List.mem_append_left _ h
theorem mem_wM {w : Cond} (h : w ∈ wM) : w ∈ wAll := List.mem_append_right _ (List.mem_append_left _ h)
theorem mem_wO {w : Cond} (h : w ∈ wO) : w ∈ wAll := List.mem_append_right _ (List.mem_append_right _ (List.mem_append_left _ h))
theorem mem_wP {w : Cond} (h : w ∈ wP) : w ∈ wAll := List.mem_append_right _ (List.mem_append_right _ (List.mem_append_right _ (List.mem_append_left _ h)))
theorem mem_wC {w : Cond} (h : w ∈ wC) : w ∈ wAll := List.mem_append_right _ (List.mem_append_right _ (List.mem_append_right _ (List.mem_append_right _ (List.mem_append_left _ h))))
theorem mem_wK {w : Cond} (h : w ∈ wK) : w ∈ wAll := List.mem_append_right _ (List.mem_append_right _ (List.mem_append_right _ (List.mem_append_right _ (List.mem_append_right _ (List.mem_append_left _ h)))))
theorem mem_wJ {w : Cond} (h : w ∈ wJ) : w ∈ wAll := List.mem_append_right _ (List.mem_append_right _ (List.mem_append_right _ (List.mem_append_right _ (List.mem_append_right _ (List.mem_append_right _ (List.mem_append_left _ h))))))
theorem mem_wI {w : Cond} (h : w ∈ wI) : w ∈ wAll := List.mem_append_right _ (List.mem_append_right _ (List.mem_append_right _ (List.mem_append_right _ (List.mem_append_right _ (List.mem_append_right _ (List.mem_append_right _ (List.mem_append_left _ h)))))))
theorem mem_wS {w : Cond} (h : w ∈ wS) : w ∈ wAll := List.mem_append_right _ (List.mem_append_right _ (List.mem_append_right _ (List.mem_append_right _ (List.mem_append_right _ (List.mem_append_right _ (List.mem_append_right _ (List.mem_append_right _ (List.mem_append_left _ h))))))))
theorem mem_wV {w : Cond} (h : w ∈ wV) : w ∈ wAll := List.mem_append_right _ (List.mem_append_right _ (List.mem_append_right _ (List.mem_append_right _ (List.mem_append_right _ (List.mem_append_right _ (List.mem_append_right _ (List.mem_append_right _ (List.mem_append_right _ (List.mem_append_left _ h)))))))))
theorem mem_wD {w : Cond} (h : w ∈ wD) : w ∈ wAll := List.mem_append_right _ (List.mem_append_right _ (List.mem_append_right _ (List.mem_append_right _ (List.mem_append_right _ (List.mem_append_right _ (List.mem_append_right _ (List.mem_append_right _ (List.mem_append_right _ (List.mem_append_right _ (List.mem_append_left _ h))))))))))
theorem mem_wZ {w : Cond} (h : w ∈ wZ) : w ∈ wAll := List.mem_append_right _ (List.mem_append_right _ (List.mem_append_right _ (List.mem_append_right _ (List.mem_append_right _ (List.mem_append_right _ (List.mem_append_right _ (List.mem_append_right _ (List.mem_append_right _ (List.mem_append_right _ (List.mem_append_right _ (List.mem_append_left _ h)))))))))))
theorem mem_wN {w : Cond} (h : w ∈ wN) : w ∈ wAll := List.mem_append_right _ (List.mem_append_right _ (List.mem_append_right _ (List.mem_append_right _ (List.mem_append_right _ (List.mem_append_right _ (List.mem_append_right _ (List.mem_append_right _ (List.mem_append_right _ (List.mem_append_right _ (List.mem_append_right _ (List.mem_append_right _ (List.mem_append_left _ h))))))))))))
theorem mem_wA {w : Cond} (h : w ∈ wA) : w ∈ wAll := List.mem_append_right _ (List.mem_append_right _ (List.mem_append_right _ (List.mem_append_right _ (List.mem_append_right _ (List.mem_append_right _ (List.mem_append_right _ (List.mem_append_right _ (List.mem_append_right _ (List.mem_append_right _ (List.mem_append_right _ (List.mem_append_right _ (List.mem_append_right _ (List.mem_append_left _ h)))))))))))))
theorem mem_wL0 {w : Cond} (h : w ∈ wL0) : w ∈ wAll := List.mem_append_right _ (List.mem_append_right _ (List.mem_append_right _ (List.mem_append_right _ (List.mem_append_right _ (List.mem_append_right _ (List.mem_append_right _ (List.mem_append_right _ (List.mem_append_right _ (List.mem_append_right _ (List.mem_append_right _ (List.mem_append_right _ (List.mem_append_right _ (List.mem_append_right _ (List.mem_append_left _ h))))))))))))))
theorem mem_wL1 {w : Cond} (h : w ∈ wL1) : w ∈ wAll := List.mem_append_right _ (List.mem_append_right _ (List.mem_append_right _ (List.mem_append_right _ (List.mem_append_right _ (List.mem_append_right _ (List.mem_append_right _ (List.mem_append_right _ (List.mem_append_right _ (List.mem_append_right _ (List.mem_append_right _ (List.mem_append_right _ (List.mem_append_right _ (List.mem_append_right _ (List.mem_append_right _ (List.mem_append_left _ h)))))))))))))))
theorem mem_wL2 {w : Cond} (h : w ∈ wL2) : w ∈ wAll := List.mem_append_right _ (List.mem_append_right _ (List.mem_append_right _ (List.mem_append_right _ (List.mem_append_right _ (List.mem_append_right _ (List.mem_append_right _ (List.mem_append_right _ (List.mem_append_right _ (List.mem_append_right _ (List.mem_append_right _ (List.mem_append_right _ (List.mem_append_right _ (List.mem_append_right _ (List.mem_append_right _ (List.mem_append_right _ (List.mem_append_left _ h))))))))))))))))
theorem mem_wL3 {w : Cond} (h : w ∈ wL3) : w ∈ wAll := List.mem_append_right _ (List.mem_append_right _ (List.mem_append_right _ (List.mem_append_right _ (List.mem_append_right _ (List.mem_append_right _ (List.mem_append_right _ (List.mem_append_right _ (List.mem_append_right _ (List.mem_append_right _ (List.mem_append_right _ (List.mem_append_right _ (List.mem_append_right _ (List.mem_append_right _ (List.mem_append_right _ (List.mem_append_right _ (List.mem_append_right _ (List.mem_append_left _ h)))))))))))))))))
theorem mem_wL4 {w : Cond} (h : w ∈ wL4) : w ∈ wAll := List.mem_append_right _ (List.mem_append_right _ (List.mem_append_right _ (List.mem_append_right _ (List.mem_append_right _ (List.mem_append_right _ (List.mem_append_right _ (List.mem_append_right _ (List.mem_append_right _ (List.mem_append_right _ (List.mem_append_right _ (List.mem_append_right _ (List.mem_append_right _ (List.mem_append_right _ (List.mem_append_right _ (List.mem_append_right _ (List.mem_append_right _ (List.mem_append_right _ (List.mem_append_left _ h))))))))))))))))))
theorem mem_wL5 {w : Cond} (h : w ∈ wL5) : w ∈ wAll := List.mem_append_right _ (List.mem_append_right _ (List.mem_append_right _ (List.mem_append_right _ (List.mem_append_right _ (List.mem_append_right _ (List.mem_append_right _ (List.mem_append_right _ (List.mem_append_right _ (List.mem_append_right _ (List.mem_append_right _ (List.mem_append_right _ (List.mem_append_right _ (List.mem_append_right _ (List.mem_append_right _ (List.mem_append_right _ (List.mem_append_right _ (List.mem_append_right _ (List.mem_append_right _ (List.mem_append_left _ h)))))))))))))))))))
theorem mem_wL6 {w : Cond} (h : w ∈ wL6) : w ∈ wAll := List.mem_append_right _ (List.mem_append_right _ (List.mem_append_right _ (List.mem_append_right _ (List.mem_append_right _ (List.mem_append_right _ (List.mem_append_right _ (List.mem_append_right _ (List.mem_append_right _ (List.mem_append_right _ (List.mem_append_right _ (List.mem_append_right _ (List.mem_append_right _ (List.mem_append_right _ (List.mem_append_right _ (List.mem_append_right _ (List.mem_append_right _ (List.mem_append_right _ (List.mem_append_right _ (List.mem_append_right _ (h))))))))))))))))))))
section PureOps
variable {p : Program} {l : Launch} {e : Env} {R : Room} {s : State} {m : MethodId} {args : Array Value} {below : List Frame} {meth : Method} {c : Code} {Q : State → Prop} {D : va_G} {cA : Nat → ClassId} {base b mu : Nat} {sc : Scr}
variable {pc ln a : Nat} {b2 : Int} {L : List Nat} {ins : Instr} {ls ls9 : ALS} {st st9 : List AV} {h h1 : Hp} {ad : Nat → Nat} {H : Heap} {locs : List Loc} {cells slots : Nat}
theorem s1_0 (C : Cx p R s m args meth c D cA base mu) (hlen : ls.length = mL mu) (hd : decode (mB mu) pc = .ok (ins, ln)) (ho : okT mu (pcsT mu) pc ins ln 0 a b2 L = true) (hs : sem1 sc 0 a b2 ls st h = some (ls9, st9, h1)) (okl : okL h ls) (oks : okS h st) : h1 = h ∧ (ls9.length = mL mu ∧ okL h ls9 ∧ okS h st9) ∧ (Nx p l e R s m args below meth c Q b mu (pc + ln) ls9 st9 ad H locs cells slots → Nx p l e R s m args below meth c Q b mu pc ls st ad H locs cells slots) := by
  cases hs
  have ho : (-2147483648 ≤ b2 ∧ b2 < 2147483648) ∧ ((((ins = .iconst b2 ∧ ln = 1) ∨ ((ins = .bipush b2 ∧ ln = 2) ∧ (-128 ≤ b2 ∧ b2 < 128))) ∨ ((ins = .sipush b2 ∧ ln = 3) ∧ (-32768 ≤ b2 ∧ b2 < 32768))) ∨ ((ins = .ldc a ∧ ln = 2) ∧ klist.contains (mC mu, a, b2) = true)) := by simpa only [okT, Bool.and_eq_true, Bool.or_eq_true, decide_eq_true_eq] using ho
  refine ⟨rfl, ⟨hlen, okl, okS_cons.mpr ⟨ho.1, oks⟩⟩, fun k lsC hl => ?_⟩
  have k := k lsC hl
  rcases ho.2 with ((⟨rfl, rfl⟩ | ⟨⟨rfl, rfl⟩, hb⟩) | ⟨⟨rfl, rfl⟩, hb⟩) | ⟨⟨rfl, rfl⟩, hb⟩
  · exact lv_iconst C.1 C.2.1 hd rfl k
  · refine lv_bipush (v := i32 b2) C.1 C.2.1 hd ?_ k
    rw [← Int32.toInt_inj, Int8.toInt_toInt32, i32_toInt ho.1, Int8.toInt_ofInt_of_le (by omega) (by omega)]
  · refine lv_sipush (v := i32 b2) C.1 C.2.1 hd ?_ k
    rw [← Int32.toInt_inj, Int16.toInt_toInt32, i32_toInt ho.1, Int16.toInt_ofInt_of_le (by omega) (by omega)]
  · refine lv_ldc (v := i32 b2) C.1 C.2.1 C.2.2.2.1 (C.2.2.2.2.1 _ ?_) hd k
    have hm : (mC mu, a, b2) ∈ klist := by simpa using hb
    exact mem_wK (List.mem_map.mpr ⟨_, hm, rfl⟩)
theorem s1_1 (C : Cx p R s m args meth c D cA base mu) (hlen : ls.length = mL mu) (hd : decode (mB mu) pc = .ok (ins, ln)) (ho : okT mu (pcsT mu) pc ins ln 1 a b2 L = true) (hs : sem1 sc 1 a b2 ls st h = some (ls9, st9, h1)) (okl : okL h ls) (oks : okS h st) : h1 = h ∧ (ls9.length = mL mu ∧ okL h ls9 ∧ okS h st9) ∧ (Nx p l e R s m args below meth c Q b mu (pc + ln) ls9 st9 ad H locs cells slots → Nx p l e R s m args below meth c Q b mu pc ls st ad H locs cells slots) := by
  cases hs
  have ho : ((ins = .lconst 0 ∧ ln = 1) ∧ b2 = 0) ∨ ((ins = .lconst 1 ∧ ln = 1) ∧ b2 = 1) ∨ ((ins = .ldc2_w a ∧ ln = 3) ∧ jlist.contains (mC mu, a, b2) = true) := by simpa only [okT, Bool.and_eq_true, Bool.or_eq_true, decide_eq_true_eq, or_assoc] using ho
  refine ⟨rfl, ⟨hlen, okl, okS_cons.mpr ⟨trivial, oks⟩⟩, fun k lsC hl => ?_⟩
  have k := k lsC hl
  rcases ho with ⟨⟨rfl, rfl⟩, rfl⟩ | ⟨⟨rfl, rfl⟩, rfl⟩ | ⟨⟨rfl, rfl⟩, hb⟩
  · exact lv_lconst C.1 C.2.1 hd rfl k
  · exact lv_lconst C.1 C.2.1 hd rfl k
  · refine lv_ldc2 (v := l64 (BitVec.ofInt 64 b2)) C.1 C.2.1 C.2.2.2.1 (C.2.2.2.2.1 _ ?_) hd k
    have hm : (mC mu, a, b2) ∈ jlist := by simpa using hb
    exact mem_wJ (List.mem_map.mpr ⟨_, hm, rfl⟩)
theorem s1_2 (C : Cx p R s m args meth c D cA base mu) (hlen : ls.length = mL mu) (hd : decode (mB mu) pc = .ok (ins, ln)) (ho : okT mu (pcsT mu) pc ins ln 2 a b2 L = true) (hs : sem1 sc 2 a b2 ls st h = some (ls9, st9, h1)) (hpos : 0 < hN h) (okl : okL h ls) (oks : okS h st) : h1 = h ∧ (ls9.length = mL mu ∧ okL h ls9 ∧ okS h st9) ∧ (Nx p l e R s m args below meth c Q b mu (pc + ln) ls9 st9 ad H locs cells slots → Nx p l e R s m args below meth c Q b mu pc ls st ad H locs cells slots) := by
  cases hs
  have ho : ins = .aconst_null ∧ ln = 1 := by simpa only [okT, Bool.and_eq_true, decide_eq_true_eq] using ho
  obtain ⟨rfl, rfl⟩ := ho
  refine ⟨rfl, ⟨hlen, okl, okS_cons.mpr ⟨?_, oks⟩⟩, fun k lsC hl => ?_⟩
  · show 0 < hN h
    exact hpos
  · exact lv_null C.1 C.2.1 hd (k lsC hl)
theorem s1_3 (C : Cx p R s m args meth c D cA base mu) (hlen : ls.length = mL mu) (hd : decode (mB mu) pc = .ok (ins, ln)) (ho : okT mu (pcsT mu) pc ins ln 3 a b2 L = true) (hs : sem1 sc 3 a b2 ls st h = some (ls9, st9, h1)) (okl : okL h ls) (oks : okS h st) : h1 = h ∧ (ls9.length = mL mu ∧ okL h ls9 ∧ okS h st9) ∧ (Nx p l e R s m args below meth c Q b mu (pc + ln) ls9 st9 ad H locs cells slots → Nx p l e R s m args below meth c Q b mu pc ls st ad H locs cells slots) := by
  have hs : (ldI ls a).map (fun x => (ls, .inl x :: st, h)) = some (ls9, st9, h1) := hs
  cases hq : ldI ls a with
  | none => rw [hq] at hs; cases hs
  | some x =>
    rw [hq] at hs
    cases hs
    have hg := ldI_some hq
    have ho := lidx_spec ho
    refine ⟨rfl, ⟨hlen, okl, okS_cons.mpr ⟨okL_get okl hg, oks⟩⟩, fun k lsC hl => ?_⟩
    have hc := lpr_get hl hg
    rcases ho with ⟨rfl, rfl⟩ | ⟨q, rfl, rfl⟩
    · exact lv_iload C.1 C.2.1 hd hc (k lsC hl)
    · exact lv_iload_n C.1 C.2.1 hd rfl hc (k lsC hl)
theorem s1_4 (C : Cx p R s m args meth c D cA base mu) (hlen : ls.length = mL mu) (hd : decode (mB mu) pc = .ok (ins, ln)) (ho : okT mu (pcsT mu) pc ins ln 4 a b2 L = true) (hs : sem1 sc 4 a b2 ls st h = some (ls9, st9, h1)) (okl : okL h ls) (oks : okS h st) : h1 = h ∧ (ls9.length = mL mu ∧ okL h ls9 ∧ okS h st9) ∧ (Nx p l e R s m args below meth c Q b mu (pc + ln) ls9 st9 ad H locs cells slots → Nx p l e R s m args below meth c Q b mu pc ls st ad H locs cells slots) := by
  have hs : (ldL ls a).map (fun x => (ls, aL x :: st, h)) = some (ls9, st9, h1) := hs
  cases hq : ldL ls a with
  | none => rw [hq] at hs; cases hs
  | some x =>
    rw [hq] at hs
    cases hs
    have hg := ldL_some hq
    have ho := lidx_spec ho
    refine ⟨rfl, ⟨hlen, okl, okS_cons.mpr ⟨okL_get okl hg, oks⟩⟩, fun k lsC hl => ?_⟩
    have hc := lpr_get hl hg
    rcases ho with ⟨rfl, rfl⟩ | ⟨q, rfl, rfl⟩
    · exact lv_lload C.1 C.2.1 hd hc (k lsC hl)
    · exact lv_lload_n C.1 C.2.1 hd rfl hc (k lsC hl)
theorem s1_5 (C : Cx p R s m args meth c D cA base mu) (hlen : ls.length = mL mu) (hd : decode (mB mu) pc = .ok (ins, ln)) (ho : okT mu (pcsT mu) pc ins ln 5 a b2 L = true) (hs : sem1 sc 5 a b2 ls st h = some (ls9, st9, h1)) (okl : okL h ls) (oks : okS h st) : h1 = h ∧ (ls9.length = mL mu ∧ okL h ls9 ∧ okS h st9) ∧ (Nx p l e R s m args below meth c Q b mu (pc + ln) ls9 st9 ad H locs cells slots → Nx p l e R s m args below meth c Q b mu pc ls st ad H locs cells slots) := by
  have hs : (ldR ls a).map (fun x => (ls, aR x :: st, h)) = some (ls9, st9, h1) := hs
  cases hq : ldR ls a with
  | none => rw [hq] at hs; cases hs
  | some x =>
    rw [hq] at hs
    cases hs
    have hg := ldR_some hq
    have ho := lidx_spec ho
    refine ⟨rfl, ⟨hlen, okl, okS_cons.mpr ⟨okL_get okl hg, oks⟩⟩, fun k lsC hl => ?_⟩
    have hc := lpr_get hl hg
    have k := k lsC hl
    have k : W p l e R s m args below meth c H locs cells slots Q (F0 m (pc + ln) lsC (va_rf (rf ad b x) :: st.map (rl ad b))) := k
    have hc : lsC[a]? = some (.val (va_rf (rf ad b x))) := hc
    cases hr : rf ad b x with
    | none =>
      rw [hr] at k hc
      rcases ho with ⟨rfl, rfl⟩ | ⟨q, rfl, rfl⟩
      · exact lv_aloadN C.1 C.2.1 hd hc k
      · exact lv_aload_nN C.1 C.2.1 hd rfl hc k
    | some y =>
      rw [hr] at k hc
      rcases ho with ⟨rfl, rfl⟩ | ⟨q, rfl, rfl⟩
      · exact lv_aload C.1 C.2.1 hd hc k
      · exact lv_aload_n C.1 C.2.1 hd rfl hc k
theorem s1_6 (C : Cx p R s m args meth c D cA base mu) (hlen : ls.length = mL mu) (hd : decode (mB mu) pc = .ok (ins, ln)) (ho : okT mu (pcsT mu) pc ins ln 6 a b2 L = true) (hs : sem1 sc 6 a b2 ls st h = some (ls9, st9, h1)) (okl : okL h ls) (oks : okS h st) : h1 = h ∧ (ls9.length = mL mu ∧ okL h ls9 ∧ okS h st9) ∧ (Nx p l e R s m args below meth c Q b mu (pc + ln) ls9 st9 ad H locs cells slots → Nx p l e R s m args below meth c Q b mu pc ls st ad H locs cells slots) := by
  simp only [sem1, opStI] at hs
  split at hs
  · next x r =>
    by_cases ha : a < ls.length
    · rw [if_pos ha] at hs
      simp only [Option.some.injEq, Prod.mk.injEq] at hs
      obtain ⟨e1, e2, e3⟩ := hs
      subst e1 e2 e3
      have ho := lidx_spec ho
      have ov := (okS_cons.mp oks)
      refine ⟨rfl, ⟨(ls1_len _ _ _).trans hlen, okL_ls1 okl ov.1, ov.2⟩, fun k lsC hl => ?_⟩
      rcases ho with ⟨rfl, rfl⟩ | ⟨q, rfl, rfl⟩
      · exact lv_istore C.1 C.2.1 hd hl (by rw [← hlen]; exact ha) rfl (fun ls' hl' => k ls' (lpr_ls1 (w := .inl x) hl'))
      · exact lv_istore_n C.1 C.2.1 hd rfl hl (by rw [← hlen]; exact ha) rfl (fun ls' hl' => k ls' (lpr_ls1 (w := .inl x) hl'))
    · rw [if_neg ha] at hs; cases hs
  · cases hs
theorem s1_7 (C : Cx p R s m args meth c D cA base mu) (hlen : ls.length = mL mu) (hd : decode (mB mu) pc = .ok (ins, ln)) (ho : okT mu (pcsT mu) pc ins ln 7 a b2 L = true) (hs : sem1 sc 7 a b2 ls st h = some (ls9, st9, h1)) (okl : okL h ls) (oks : okS h st) : h1 = h ∧ (ls9.length = mL mu ∧ okL h ls9 ∧ okS h st9) ∧ (Nx p l e R s m args below meth c Q b mu (pc + ln) ls9 st9 ad H locs cells slots → Nx p l e R s m args below meth c Q b mu pc ls st ad H locs cells slots) := by
  simp only [sem1, opStL] at hs
  split at hs
  · next x r =>
    by_cases ha : a + 1 < ls.length
    · rw [if_pos ha] at hs
      simp only [Option.some.injEq, Prod.mk.injEq] at hs
      obtain ⟨e1, e2, e3⟩ := hs
      subst e1 e2 e3
      have ho := lidx_spec ho
      have ov := (okS_cons.mp oks)
      refine ⟨rfl, ⟨(ls2_len _ _ _).trans hlen, okL_ls2 ha okl ov.1, ov.2⟩, fun k lsC hl => ?_⟩
      rcases ho with ⟨rfl, rfl⟩ | ⟨q, rfl, rfl⟩
      · exact lv_lstore C.1 C.2.1 hd hl (by rw [← hlen]; exact ha) rfl (fun ls' hl' => k ls' (lpr_ls2 (w := aL x) ha hl'))
      · exact lv_lstore_n C.1 C.2.1 hd rfl hl (by rw [← hlen]; exact ha) rfl (fun ls' hl' => k ls' (lpr_ls2 (w := aL x) ha hl'))
    · rw [if_neg ha] at hs; cases hs
  · cases hs
theorem s1_8 (C : Cx p R s m args meth c D cA base mu) (hlen : ls.length = mL mu) (hd : decode (mB mu) pc = .ok (ins, ln)) (ho : okT mu (pcsT mu) pc ins ln 8 a b2 L = true) (hs : sem1 sc 8 a b2 ls st h = some (ls9, st9, h1)) (okl : okL h ls) (oks : okS h st) : h1 = h ∧ (ls9.length = mL mu ∧ okL h ls9 ∧ okS h st9) ∧ (Nx p l e R s m args below meth c Q b mu (pc + ln) ls9 st9 ad H locs cells slots → Nx p l e R s m args below meth c Q b mu pc ls st ad H locs cells slots) := by
  simp only [sem1, opStR] at hs
  split at hs
  · next x r =>
    by_cases ha : a < ls.length
    · rw [if_pos ha] at hs
      simp only [Option.some.injEq, Prod.mk.injEq] at hs
      obtain ⟨e1, e2, e3⟩ := hs
      subst e1 e2 e3
      have ho := lidx_spec ho
      have ov := (okS_cons.mp oks)
      refine ⟨rfl, ⟨(ls1_len _ _ _).trans hlen, okL_ls1 okl ov.1, ov.2⟩, fun k lsC hl => ?_⟩
      have k2 : ∀ ls', lv_has ls' (mL mu) ((a, va_rf (rf ad b x)) :: (lpr ad b 0 ls).filter (fun q => !(q.1 == a) && !(q.1 + 1 == a && q.2.category == 2))) → W p l e R s m args below meth c H locs cells slots Q (F0 m (pc + ln) ls' (r.map (rl ad b))) := fun ls' hl' => k ls' (lpr_ls1 (w := aR x) hl')
      show W p l e R s m args below meth c H locs cells slots Q (F0 m pc lsC (va_rf (rf ad b x) :: r.map (rl ad b)))
      have hn : a < mL mu := by rw [← hlen]; exact ha
      cases hr : rf ad b x with
      | none =>
        rw [hr] at k2
        rcases ho with ⟨rfl, rfl⟩ | ⟨q, rfl, rfl⟩
        · exact lv_astoreN C.1 C.2.1 hd hl hn rfl k2
        · exact lv_astore_nN C.1 C.2.1 hd rfl hl hn rfl k2
      | some y =>
        rw [hr] at k2
        rcases ho with ⟨rfl, rfl⟩ | ⟨q, rfl, rfl⟩
        · exact lv_astore C.1 C.2.1 hd hl hn rfl k2
        · exact lv_astore_n C.1 C.2.1 hd rfl hl hn rfl k2
    · rw [if_neg ha] at hs; cases hs
  · cases hs
theorem s1_9 (C : Cx p R s m args meth c D cA base mu) (hlen : ls.length = mL mu) (hd : decode (mB mu) pc = .ok (ins, ln)) (ho : okT mu (pcsT mu) pc ins ln 9 a b2 L = true) (hs : sem1 sc 9 a b2 ls st h = some (ls9, st9, h1)) (okl : okL h ls) (oks : okS h st) : h1 = h ∧ (ls9.length = mL mu ∧ okL h ls9 ∧ okS h st9) ∧ (Nx p l e R s m args below meth c Q b mu (pc + ln) ls9 st9 ad H locs cells slots → Nx p l e R s m args below meth c Q b mu pc ls st ad H locs cells slots) := by
  have hs : opInc a b2 ls st h = some (ls9, st9, h1) := hs
  have ho : ins = .iinc a b2 ∧ ln = 3 := by simpa only [okT, Bool.and_eq_true, decide_eq_true_eq] using ho
  obtain ⟨rfl, rfl⟩ := ho
  unfold opInc at hs
  split at hs
  · next x hg =>
    cases hs
    refine ⟨rfl, ⟨(ls1_len _ _ _).trans hlen, okL_ls1 okl (inR_wr _), oks⟩, fun k lsC hl => ?_⟩
    obtain ⟨kk, hk⟩ := List.getElem?_of_mem (mem_lpr.mpr ⟨a, .inl x, hg, rfl⟩ : (0 + a, rl ad b (.inl x)) ∈ lpr ad b 0 ls)
    have hn : a < mL mu := by rw [← hlen]; exact (List.getElem?_eq_some_iff.mp hg).1
    exact lv_iinc (v := i32 (wr (x + b2))) (x := i32 x) C.1 C.2.1 hd hl (k := kk) (by rw [hk, Nat.zero_add]; rfl) (i32_add x b2).symm hn rfl (fun ls' hl' => k ls' (lpr_ls1 (w := .inl (wr (x + b2))) hl'))
  · cases hs
theorem s1_10 (C : Cx p R s m args meth c D cA base mu) (hlen : ls.length = mL mu) (hd : decode (mB mu) pc = .ok (ins, ln)) (ho : okT mu (pcsT mu) pc ins ln 10 a b2 L = true) (hs : sem1 sc 10 a b2 ls st h = some (ls9, st9, h1)) (okl : okL h ls) (oks : okS h st) : h1 = h ∧ (ls9.length = mL mu ∧ okL h ls9 ∧ okS h st9) ∧ (Nx p l e R s m args below meth c Q b mu (pc + ln) ls9 st9 ad H locs cells slots → Nx p l e R s m args below meth c Q b mu pc ls st ad H locs cells slots) := by
  have ho : ins = .iadd ∧ ln = 1 := by simpa only [okT, Bool.and_eq_true, decide_eq_true_eq] using ho
  obtain ⟨rfl, rfl⟩ := ho
  simp only [sem1, op2] at hs
  split at hs
  · next y x r =>
    cases hs
    have ov := okS_cons.mp oks
    have ov2 := okS_cons.mp ov.2
    refine ⟨rfl, ⟨hlen, okl, okS_cons.mpr ⟨inR_wr _, ov2.2⟩⟩, fun k lsC hl => ?_⟩
    refine lv_iadd (x := i32 x) (y := i32 y) C.1 C.2.1 hd ?_
    rw [← i32_add]
    exact k lsC hl
  · cases hs
theorem s1_11 (C : Cx p R s m args meth c D cA base mu) (hlen : ls.length = mL mu) (hd : decode (mB mu) pc = .ok (ins, ln)) (ho : okT mu (pcsT mu) pc ins ln 11 a b2 L = true) (hs : sem1 sc 11 a b2 ls st h = some (ls9, st9, h1)) (okl : okL h ls) (oks : okS h st) : h1 = h ∧ (ls9.length = mL mu ∧ okL h ls9 ∧ okS h st9) ∧ (Nx p l e R s m args below meth c Q b mu (pc + ln) ls9 st9 ad H locs cells slots → Nx p l e R s m args below meth c Q b mu pc ls st ad H locs cells slots) := by
  have ho : ins = .isub ∧ ln = 1 := by simpa only [okT, Bool.and_eq_true, decide_eq_true_eq] using ho
  obtain ⟨rfl, rfl⟩ := ho
  simp only [sem1, op2] at hs
  split at hs
  · next y x r =>
    cases hs
    have ov := okS_cons.mp oks
    have ov2 := okS_cons.mp ov.2
    refine ⟨rfl, ⟨hlen, okl, okS_cons.mpr ⟨inR_wr _, ov2.2⟩⟩, fun k lsC hl => ?_⟩
    refine lv_isub (x := i32 x) (y := i32 y) C.1 C.2.1 hd ?_
    rw [← i32_sub]
    exact k lsC hl
  · cases hs
theorem s1_12 (C : Cx p R s m args meth c D cA base mu) (hlen : ls.length = mL mu) (hd : decode (mB mu) pc = .ok (ins, ln)) (ho : okT mu (pcsT mu) pc ins ln 12 a b2 L = true) (hs : sem1 sc 12 a b2 ls st h = some (ls9, st9, h1)) (okl : okL h ls) (oks : okS h st) : h1 = h ∧ (ls9.length = mL mu ∧ okL h ls9 ∧ okS h st9) ∧ (Nx p l e R s m args below meth c Q b mu (pc + ln) ls9 st9 ad H locs cells slots → Nx p l e R s m args below meth c Q b mu pc ls st ad H locs cells slots) := by
  have ho : ins = .imul ∧ ln = 1 := by simpa only [okT, Bool.and_eq_true, decide_eq_true_eq] using ho
  obtain ⟨rfl, rfl⟩ := ho
  simp only [sem1, op2] at hs
  split at hs
  · next y x r =>
    cases hs
    have ov := okS_cons.mp oks
    have ov2 := okS_cons.mp ov.2
    refine ⟨rfl, ⟨hlen, okl, okS_cons.mpr ⟨inR_wr _, ov2.2⟩⟩, fun k lsC hl => ?_⟩
    refine lv_imul (x := i32 x) (y := i32 y) C.1 C.2.1 hd ?_
    rw [← i32_mul]
    exact k lsC hl
  · cases hs
theorem s1_15 (C : Cx p R s m args meth c D cA base mu) (hlen : ls.length = mL mu) (hd : decode (mB mu) pc = .ok (ins, ln)) (ho : okT mu (pcsT mu) pc ins ln 15 a b2 L = true) (hs : sem1 sc 15 a b2 ls st h = some (ls9, st9, h1)) (okl : okL h ls) (oks : okS h st) : h1 = h ∧ (ls9.length = mL mu ∧ okL h ls9 ∧ okS h st9) ∧ (Nx p l e R s m args below meth c Q b mu (pc + ln) ls9 st9 ad H locs cells slots → Nx p l e R s m args below meth c Q b mu pc ls st ad H locs cells slots) := by
  have ho : ins = .iand ∧ ln = 1 := by simpa only [okT, Bool.and_eq_true, decide_eq_true_eq] using ho
  obtain ⟨rfl, rfl⟩ := ho
  simp only [sem1, op2] at hs
  split at hs
  · next y x r =>
    cases hs
    have ov := okS_cons.mp oks
    have ov2 := okS_cons.mp ov.2
    refine ⟨rfl, ⟨hlen, okl, okS_cons.mpr ⟨inR_toInt _, ov2.2⟩⟩, fun k lsC hl => ?_⟩
    refine lv_iand (x := i32 x) (y := i32 y) C.1 C.2.1 hd ?_
    rw [← toInt_i32 (i32 x &&& i32 y)]
    exact k lsC hl
  · cases hs
theorem s1_16 (C : Cx p R s m args meth c D cA base mu) (hlen : ls.length = mL mu) (hd : decode (mB mu) pc = .ok (ins, ln)) (ho : okT mu (pcsT mu) pc ins ln 16 a b2 L = true) (hs : sem1 sc 16 a b2 ls st h = some (ls9, st9, h1)) (okl : okL h ls) (oks : okS h st) : h1 = h ∧ (ls9.length = mL mu ∧ okL h ls9 ∧ okS h st9) ∧ (Nx p l e R s m args below meth c Q b mu (pc + ln) ls9 st9 ad H locs cells slots → Nx p l e R s m args below meth c Q b mu pc ls st ad H locs cells slots) := by
  have ho : ins = .ior ∧ ln = 1 := by simpa only [okT, Bool.and_eq_true, decide_eq_true_eq] using ho
  obtain ⟨rfl, rfl⟩ := ho
  simp only [sem1, op2] at hs
  split at hs
  · next y x r =>
    cases hs
    have ov := okS_cons.mp oks
    have ov2 := okS_cons.mp ov.2
    refine ⟨rfl, ⟨hlen, okl, okS_cons.mpr ⟨inR_toInt _, ov2.2⟩⟩, fun k lsC hl => ?_⟩
    refine lv_ior (x := i32 x) (y := i32 y) C.1 C.2.1 hd ?_
    rw [← toInt_i32 (i32 x ||| i32 y)]
    exact k lsC hl
  · cases hs
theorem s1_17 (C : Cx p R s m args meth c D cA base mu) (hlen : ls.length = mL mu) (hd : decode (mB mu) pc = .ok (ins, ln)) (ho : okT mu (pcsT mu) pc ins ln 17 a b2 L = true) (hs : sem1 sc 17 a b2 ls st h = some (ls9, st9, h1)) (okl : okL h ls) (oks : okS h st) : h1 = h ∧ (ls9.length = mL mu ∧ okL h ls9 ∧ okS h st9) ∧ (Nx p l e R s m args below meth c Q b mu (pc + ln) ls9 st9 ad H locs cells slots → Nx p l e R s m args below meth c Q b mu pc ls st ad H locs cells slots) := by
  have ho : ins = .ishr ∧ ln = 1 := by simpa only [okT, Bool.and_eq_true, decide_eq_true_eq] using ho
  obtain ⟨rfl, rfl⟩ := ho
  simp only [sem1, op2] at hs
  split at hs
  · next y x r =>
    cases hs
    have ov := okS_cons.mp oks
    have ov2 := okS_cons.mp ov.2
    refine ⟨rfl, ⟨hlen, okl, okS_cons.mpr ⟨inR_toInt _, ov2.2⟩⟩, fun k lsC hl => ?_⟩
    refine lv_ishr (x := i32 x) (y := i32 y) C.1 C.2.1 hd ?_
    rw [← toInt_i32 (i32 x >>> (i32 y &&& 31))]
    exact k lsC hl
  · cases hs
theorem s1_13 (C : Cx p R s m args meth c D cA base mu) (hlen : ls.length = mL mu) (hd : decode (mB mu) pc = .ok (ins, ln)) (ho : okT mu (pcsT mu) pc ins ln 13 a b2 L = true) (hs : sem1 sc 13 a b2 ls st h = some (ls9, st9, h1)) (okl : okL h ls) (oks : okS h st) : h1 = h ∧ (ls9.length = mL mu ∧ okL h ls9 ∧ okS h st9) ∧ (Nx p l e R s m args below meth c Q b mu (pc + ln) ls9 st9 ad H locs cells slots → Nx p l e R s m args below meth c Q b mu pc ls st ad H locs cells slots) := by
  have ho : ins = .idiv ∧ ln = 1 := by simpa only [okT, Bool.and_eq_true, decide_eq_true_eq] using ho
  obtain ⟨rfl, rfl⟩ := ho
  simp only [sem1, op2] at hs
  split at hs
  · next y x r =>
    have ov := okS_cons.mp oks
    have ov2 := okS_cons.mp ov.2
    by_cases hy : y = 0
    · rw [if_pos hy] at hs; cases hs
    · rw [if_neg hy] at hs
      cases hs
      refine ⟨rfl, ⟨hlen, okl, okS_cons.mpr ⟨inR_toInt _, ov2.2⟩⟩, fun k lsC hl => ?_⟩
      refine lv_idiv (x := i32 x) (y := i32 y) C.1 C.2.1 hd (fun q => hy ((i32_eq0 ov.1).mp q)) ?_
      rw [← toInt_i32 (i32 x / i32 y)]
      exact k lsC hl
  · cases hs
theorem s1_14 (C : Cx p R s m args meth c D cA base mu) (hlen : ls.length = mL mu) (hd : decode (mB mu) pc = .ok (ins, ln)) (ho : okT mu (pcsT mu) pc ins ln 14 a b2 L = true) (hs : sem1 sc 14 a b2 ls st h = some (ls9, st9, h1)) (okl : okL h ls) (oks : okS h st) : h1 = h ∧ (ls9.length = mL mu ∧ okL h ls9 ∧ okS h st9) ∧ (Nx p l e R s m args below meth c Q b mu (pc + ln) ls9 st9 ad H locs cells slots → Nx p l e R s m args below meth c Q b mu pc ls st ad H locs cells slots) := by
  have ho : ins = .irem ∧ ln = 1 := by simpa only [okT, Bool.and_eq_true, decide_eq_true_eq] using ho
  obtain ⟨rfl, rfl⟩ := ho
  simp only [sem1, op2] at hs
  split at hs
  · next y x r =>
    have ov := okS_cons.mp oks
    have ov2 := okS_cons.mp ov.2
    by_cases hy : y = 0
    · rw [if_pos hy] at hs; cases hs
    · rw [if_neg hy] at hs
      cases hs
      refine ⟨rfl, ⟨hlen, okl, okS_cons.mpr ⟨inR_toInt _, ov2.2⟩⟩, fun k lsC hl => ?_⟩
      refine lv_irem (x := i32 x) (y := i32 y) C.1 C.2.1 hd (fun q => hy ((i32_eq0 ov.1).mp q)) ?_
      rw [← toInt_i32 (i32 x - i32 x / i32 y * i32 y)]
      exact k lsC hl
  · cases hs
theorem s1_18 (C : Cx p R s m args meth c D cA base mu) (hlen : ls.length = mL mu) (hd : decode (mB mu) pc = .ok (ins, ln)) (ho : okT mu (pcsT mu) pc ins ln 18 a b2 L = true) (hs : sem1 sc 18 a b2 ls st h = some (ls9, st9, h1)) (okl : okL h ls) (oks : okS h st) : h1 = h ∧ (ls9.length = mL mu ∧ okL h ls9 ∧ okS h st9) ∧ (Nx p l e R s m args below meth c Q b mu (pc + ln) ls9 st9 ad H locs cells slots → Nx p l e R s m args below meth c Q b mu pc ls st ad H locs cells slots) := by
  have ho : ins = .ladd ∧ ln = 1 := by simpa only [okT, Bool.and_eq_true, decide_eq_true_eq] using ho
  obtain ⟨rfl, rfl⟩ := ho
  simp only [sem1, op2L] at hs
  split at hs
  · next y x r =>
    cases hs
    have ov := okS_cons.mp oks
    have ov2 := okS_cons.mp ov.2
    refine ⟨rfl, ⟨hlen, okl, okS_cons.mpr ⟨trivial, ov2.2⟩⟩, fun k lsC hl => ?_⟩
    exact lv_ladd (x := l64 x) (y := l64 y) C.1 C.2.1 hd (k lsC hl)
  · cases hs
theorem s1_19 (C : Cx p R s m args meth c D cA base mu) (hlen : ls.length = mL mu) (hd : decode (mB mu) pc = .ok (ins, ln)) (ho : okT mu (pcsT mu) pc ins ln 19 a b2 L = true) (hs : sem1 sc 19 a b2 ls st h = some (ls9, st9, h1)) (okl : okL h ls) (oks : okS h st) : h1 = h ∧ (ls9.length = mL mu ∧ okL h ls9 ∧ okS h st9) ∧ (Nx p l e R s m args below meth c Q b mu (pc + ln) ls9 st9 ad H locs cells slots → Nx p l e R s m args below meth c Q b mu pc ls st ad H locs cells slots) := by
  have ho : ins = .lsub ∧ ln = 1 := by simpa only [okT, Bool.and_eq_true, decide_eq_true_eq] using ho
  obtain ⟨rfl, rfl⟩ := ho
  simp only [sem1, op2L] at hs
  split at hs
  · next y x r =>
    cases hs
    have ov := okS_cons.mp oks
    have ov2 := okS_cons.mp ov.2
    refine ⟨rfl, ⟨hlen, okl, okS_cons.mpr ⟨trivial, ov2.2⟩⟩, fun k lsC hl => ?_⟩
    exact lv_lsub (x := l64 x) (y := l64 y) C.1 C.2.1 hd (k lsC hl)
  · cases hs
theorem s1_20 (C : Cx p R s m args meth c D cA base mu) (hlen : ls.length = mL mu) (hd : decode (mB mu) pc = .ok (ins, ln)) (ho : okT mu (pcsT mu) pc ins ln 20 a b2 L = true) (hs : sem1 sc 20 a b2 ls st h = some (ls9, st9, h1)) (okl : okL h ls) (oks : okS h st) : h1 = h ∧ (ls9.length = mL mu ∧ okL h ls9 ∧ okS h st9) ∧ (Nx p l e R s m args below meth c Q b mu (pc + ln) ls9 st9 ad H locs cells slots → Nx p l e R s m args below meth c Q b mu pc ls st ad H locs cells slots) := by
  have ho : ins = .land ∧ ln = 1 := by simpa only [okT, Bool.and_eq_true, decide_eq_true_eq] using ho
  obtain ⟨rfl, rfl⟩ := ho
  simp only [sem1, op2L] at hs
  split at hs
  · next y x r =>
    cases hs
    have ov := okS_cons.mp oks
    have ov2 := okS_cons.mp ov.2
    refine ⟨rfl, ⟨hlen, okl, okS_cons.mpr ⟨trivial, ov2.2⟩⟩, fun k lsC hl => ?_⟩
    exact lv_land (x := l64 x) (y := l64 y) C.1 C.2.1 hd (k lsC hl)
  · cases hs
theorem s1_21 (C : Cx p R s m args meth c D cA base mu) (hlen : ls.length = mL mu) (hd : decode (mB mu) pc = .ok (ins, ln)) (ho : okT mu (pcsT mu) pc ins ln 21 a b2 L = true) (hs : sem1 sc 21 a b2 ls st h = some (ls9, st9, h1)) (okl : okL h ls) (oks : okS h st) : h1 = h ∧ (ls9.length = mL mu ∧ okL h ls9 ∧ okS h st9) ∧ (Nx p l e R s m args below meth c Q b mu (pc + ln) ls9 st9 ad H locs cells slots → Nx p l e R s m args below meth c Q b mu pc ls st ad H locs cells slots) := by
  have ho : ins = .lor ∧ ln = 1 := by simpa only [okT, Bool.and_eq_true, decide_eq_true_eq] using ho
  obtain ⟨rfl, rfl⟩ := ho
  simp only [sem1, op2L] at hs
  split at hs
  · next y x r =>
    cases hs
    have ov := okS_cons.mp oks
    have ov2 := okS_cons.mp ov.2
    refine ⟨rfl, ⟨hlen, okl, okS_cons.mpr ⟨trivial, ov2.2⟩⟩, fun k lsC hl => ?_⟩
    exact lv_lor (x := l64 x) (y := l64 y) C.1 C.2.1 hd (k lsC hl)
  · cases hs
theorem s1_22 (C : Cx p R s m args meth c D cA base mu) (hlen : ls.length = mL mu) (hd : decode (mB mu) pc = .ok (ins, ln)) (ho : okT mu (pcsT mu) pc ins ln 22 a b2 L = true) (hs : sem1 sc 22 a b2 ls st h = some (ls9, st9, h1)) (okl : okL h ls) (oks : okS h st) : h1 = h ∧ (ls9.length = mL mu ∧ okL h ls9 ∧ okS h st9) ∧ (Nx p l e R s m args below meth c Q b mu (pc + ln) ls9 st9 ad H locs cells slots → Nx p l e R s m args below meth c Q b mu pc ls st ad H locs cells slots) := by
  have ho : ins = .lxor ∧ ln = 1 := by simpa only [okT, Bool.and_eq_true, decide_eq_true_eq] using ho
  obtain ⟨rfl, rfl⟩ := ho
  simp only [sem1, op2L] at hs
  split at hs
  · next y x r =>
    cases hs
    have ov := okS_cons.mp oks
    have ov2 := okS_cons.mp ov.2
    refine ⟨rfl, ⟨hlen, okl, okS_cons.mpr ⟨trivial, ov2.2⟩⟩, fun k lsC hl => ?_⟩
    exact lv_lxor (x := l64 x) (y := l64 y) C.1 C.2.1 hd (k lsC hl)
  · cases hs
theorem s1_23 (C : Cx p R s m args meth c D cA base mu) (hlen : ls.length = mL mu) (hd : decode (mB mu) pc = .ok (ins, ln)) (ho : okT mu (pcsT mu) pc ins ln 23 a b2 L = true) (hs : sem1 sc 23 a b2 ls st h = some (ls9, st9, h1)) (okl : okL h ls) (oks : okS h st) : h1 = h ∧ (ls9.length = mL mu ∧ okL h ls9 ∧ okS h st9) ∧ (Nx p l e R s m args below meth c Q b mu (pc + ln) ls9 st9 ad H locs cells slots → Nx p l e R s m args below meth c Q b mu pc ls st ad H locs cells slots) := by
  have ho : ins = .lneg ∧ ln = 1 := by simpa only [okT, Bool.and_eq_true, decide_eq_true_eq] using ho
  obtain ⟨rfl, rfl⟩ := ho
  simp only [sem1, op1L] at hs
  split at hs
  · next x r =>
    cases hs
    have ov := okS_cons.mp oks
    refine ⟨rfl, ⟨hlen, okl, okS_cons.mpr ⟨trivial, ov.2⟩⟩, fun k lsC hl => ?_⟩
    exact lv_lneg (x := l64 x) C.1 C.2.1 hd (k lsC hl)
  · cases hs
theorem s1_24 (C : Cx p R s m args meth c D cA base mu) (hlen : ls.length = mL mu) (hd : decode (mB mu) pc = .ok (ins, ln)) (ho : okT mu (pcsT mu) pc ins ln 24 a b2 L = true) (hs : sem1 sc 24 a b2 ls st h = some (ls9, st9, h1)) (okl : okL h ls) (oks : okS h st) : h1 = h ∧ (ls9.length = mL mu ∧ okL h ls9 ∧ okS h st9) ∧ (Nx p l e R s m args below meth c Q b mu (pc + ln) ls9 st9 ad H locs cells slots → Nx p l e R s m args below meth c Q b mu pc ls st ad H locs cells slots) := by
  have ho : ins = .lushr ∧ ln = 1 := by simpa only [okT, Bool.and_eq_true, decide_eq_true_eq] using ho
  obtain ⟨rfl, rfl⟩ := ho
  simp only [sem1, opSh] at hs
  split at hs
  · next y x r =>
    cases hs
    have ov := okS_cons.mp oks
    have ov2 := okS_cons.mp ov.2
    refine ⟨rfl, ⟨hlen, okl, okS_cons.mpr ⟨trivial, ov2.2⟩⟩, fun k lsC hl => ?_⟩
    exact lv_lushr (x := l64 x) (y := i32 y) C.1 C.2.1 hd rfl (k lsC hl)
  · cases hs
theorem s1_25 (C : Cx p R s m args meth c D cA base mu) (hlen : ls.length = mL mu) (hd : decode (mB mu) pc = .ok (ins, ln)) (ho : okT mu (pcsT mu) pc ins ln 25 a b2 L = true) (hs : sem1 sc 25 a b2 ls st h = some (ls9, st9, h1)) (okl : okL h ls) (oks : okS h st) : h1 = h ∧ (ls9.length = mL mu ∧ okL h ls9 ∧ okS h st9) ∧ (Nx p l e R s m args below meth c Q b mu (pc + ln) ls9 st9 ad H locs cells slots → Nx p l e R s m args below meth c Q b mu pc ls st ad H locs cells slots) := by
  have ho : ins = .lshl ∧ ln = 1 := by simpa only [okT, Bool.and_eq_true, decide_eq_true_eq] using ho
  obtain ⟨rfl, rfl⟩ := ho
  simp only [sem1, opSh] at hs
  split at hs
  · next y x r =>
    cases hs
    have ov := okS_cons.mp oks
    have ov2 := okS_cons.mp ov.2
    refine ⟨rfl, ⟨hlen, okl, okS_cons.mpr ⟨trivial, ov2.2⟩⟩, fun k lsC hl => ?_⟩
    exact lv_lshl (x := l64 x) (y := i32 y) C.1 C.2.1 hd rfl (k lsC hl)
  · cases hs
theorem s1_26 (C : Cx p R s m args meth c D cA base mu) (hlen : ls.length = mL mu) (hd : decode (mB mu) pc = .ok (ins, ln)) (ho : okT mu (pcsT mu) pc ins ln 26 a b2 L = true) (hs : sem1 sc 26 a b2 ls st h = some (ls9, st9, h1)) (okl : okL h ls) (oks : okS h st) : h1 = h ∧ (ls9.length = mL mu ∧ okL h ls9 ∧ okS h st9) ∧ (Nx p l e R s m args below meth c Q b mu (pc + ln) ls9 st9 ad H locs cells slots → Nx p l e R s m args below meth c Q b mu pc ls st ad H locs cells slots) := by
  have ho : ins = .l2i ∧ ln = 1 := by simpa only [okT, Bool.and_eq_true, decide_eq_true_eq] using ho
  obtain ⟨rfl, rfl⟩ := ho
  simp only [sem1, op1L] at hs
  split at hs
  · next x r =>
    cases hs
    have ov := okS_cons.mp oks
    refine ⟨rfl, ⟨hlen, okl, okS_cons.mpr ⟨inR_toInt _, ov.2⟩⟩, fun k lsC hl => ?_⟩
    exact lv_l2i (x := l64 x) C.1 C.2.1 hd (toInt_i32 _).symm (k lsC hl)
  · cases hs
theorem s1_27 (C : Cx p R s m args meth c D cA base mu) (hlen : ls.length = mL mu) (hd : decode (mB mu) pc = .ok (ins, ln)) (ho : okT mu (pcsT mu) pc ins ln 27 a b2 L = true) (hs : sem1 sc 27 a b2 ls st h = some (ls9, st9, h1)) (okl : okL h ls) (oks : okS h st) : h1 = h ∧ (ls9.length = mL mu ∧ okL h ls9 ∧ okS h st9) ∧ (Nx p l e R s m args below meth c Q b mu (pc + ln) ls9 st9 ad H locs cells slots → Nx p l e R s m args below meth c Q b mu pc ls st ad H locs cells slots) := by
  have ho : ins = .lcmp ∧ ln = 1 := by simpa only [okT, Bool.and_eq_true, decide_eq_true_eq] using ho
  obtain ⟨rfl, rfl⟩ := ho
  simp only [sem1, op2L] at hs
  split at hs
  · next y x r =>
    cases hs
    have ov := okS_cons.mp oks
    have ov2 := okS_cons.mp ov.2
    refine ⟨rfl, ⟨hlen, okl, okS_cons.mpr ⟨inR_toInt _, ov2.2⟩⟩, fun k lsC hl => ?_⟩
    refine W.lcmp (x := l64 x) (y := l64 y) C.1 C.2.1 hd ?_
    rw [← toInt_i32 (lg_cmp (l64 x) (l64 y))]
    exact k lsC hl
  · cases hs
theorem s1_28 (C : Cx p R s m args meth c D cA base mu) (hlen : ls.length = mL mu) (hd : decode (mB mu) pc = .ok (ins, ln)) (ho : okT mu (pcsT mu) pc ins ln 28 a b2 L = true) (hs : sem1 sc 28 a b2 ls st h = some (ls9, st9, h1)) (okl : okL h ls) (oks : okS h st) : h1 = h ∧ (ls9.length = mL mu ∧ okL h ls9 ∧ okS h st9) ∧ (Nx p l e R s m args below meth c Q b mu (pc + ln) ls9 st9 ad H locs cells slots → Nx p l e R s m args below meth c Q b mu pc ls st ad H locs cells slots) := by
  have ho : ins = .dup ∧ ln = 1 := by simpa only [okT, Bool.and_eq_true, decide_eq_true_eq] using ho
  obtain ⟨rfl, rfl⟩ := ho
  simp only [sem1, opDup] at hs
  split at hs
  · next v r =>
    split at hs
    · next hv =>
      cases hs
      have ov := okS_cons.mp oks
      exact ⟨rfl, ⟨hlen, okl, okS_cons.mpr ⟨ov.1, oks⟩⟩, fun k lsC hl => lv_dup C.1 C.2.1 hd (rl_cat1 hv) (k lsC hl)⟩
    · cases hs
  · cases hs
theorem s1_29 (C : Cx p R s m args meth c D cA base mu) (hlen : ls.length = mL mu) (hd : decode (mB mu) pc = .ok (ins, ln)) (ho : okT mu (pcsT mu) pc ins ln 29 a b2 L = true) (hs : sem1 sc 29 a b2 ls st h = some (ls9, st9, h1)) (okl : okL h ls) (oks : okS h st) : h1 = h ∧ (ls9.length = mL mu ∧ okL h ls9 ∧ okS h st9) ∧ (Nx p l e R s m args below meth c Q b mu (pc + ln) ls9 st9 ad H locs cells slots → Nx p l e R s m args below meth c Q b mu pc ls st ad H locs cells slots) := by
  have ho : ins = .dup2 ∧ ln = 1 := by simpa only [okT, Bool.and_eq_true, decide_eq_true_eq] using ho
  obtain ⟨rfl, rfl⟩ := ho
  simp only [sem1, opDup2] at hs
  split at hs
  · next v w r =>
    split at hs
    · next hv =>
      cases hs
      rw [Bool.and_eq_true] at hv
      have ov := okS_cons.mp oks
      have ov2 := okS_cons.mp ov.2
      exact ⟨rfl, ⟨hlen, okl, okS_cons.mpr ⟨ov.1, okS_cons.mpr ⟨ov2.1, oks⟩⟩⟩, fun k lsC hl => lv_dup2_11 C.1 C.2.1 hd (rl_cat1 hv.1) (rl_cat1 hv.2) (k lsC hl)⟩
    · cases hs
  · cases hs
theorem s1_30 (C : Cx p R s m args meth c D cA base mu) (hlen : ls.length = mL mu) (hd : decode (mB mu) pc = .ok (ins, ln)) (ho : okT mu (pcsT mu) pc ins ln 30 a b2 L = true) (hs : sem1 sc 30 a b2 ls st h = some (ls9, st9, h1)) (okl : okL h ls) (oks : okS h st) : h1 = h ∧ (ls9.length = mL mu ∧ okL h ls9 ∧ okS h st9) ∧ (Nx p l e R s m args below meth c Q b mu (pc + ln) ls9 st9 ad H locs cells slots → Nx p l e R s m args below meth c Q b mu pc ls st ad H locs cells slots) := by
  have ho : ins = .pop ∧ ln = 1 := by simpa only [okT, Bool.and_eq_true, decide_eq_true_eq] using ho
  obtain ⟨rfl, rfl⟩ := ho
  simp only [sem1, opPop] at hs
  split at hs
  · next v r =>
    split at hs
    · next hv =>
      cases hs
      have ov := okS_cons.mp oks
      exact ⟨rfl, ⟨hlen, okl, ov.2⟩, fun k lsC hl => lv_pop C.1 C.2.1 hd (rl_cat1 hv) (k lsC hl)⟩
    · cases hs
  · cases hs
end PureOps
