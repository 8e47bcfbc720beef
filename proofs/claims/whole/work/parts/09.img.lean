/-! ===== the small machine's states in the large one ===== -/
theorem i32_toInt {x : Int} (h : inR x) : (i32 x).toInt = x := Int32.toInt_ofInt_of_le h.1 h.2
theorem toInt_i32 (z : Int32) : i32 z.toInt = z := Int32.ofInt_toInt z
theorem inR_toInt (z : Int32) : inR z.toInt := ⟨Int32.le_toInt z, Int32.toInt_lt z⟩
theorem i32_wr (x : Int) : i32 (wr x) = i32 x := by
  unfold wr
  split
  · rfl
  · unfold i32
    rw [← Int32.toInt_inj, Int32.toInt_ofInt, Int32.toInt_ofInt]
    exact Int.bmod_bmod
theorem inR_wr (x : Int) : inR (wr x) := by
  unfold wr
  split
  · next h => exact h
  · unfold inR
    have h1 := Int.le_bmod (x := x) (m := 4294967296) (by decide)
    have h2 := Int.bmod_lt (x := x) (m := 4294967296) (by decide)
    omega
theorem i32_eq {x y : Int} (hx : inR x) (hy : inR y) : i32 x = i32 y ↔ x = y := by
  rw [← Int32.toInt_inj, i32_toInt hx, i32_toInt hy]
theorem i32_lt {x y : Int} (hx : inR x) (hy : inR y) : i32 x < i32 y ↔ x < y := by
  rw [Int32.lt_iff_toInt_lt, i32_toInt hx, i32_toInt hy]
theorem i32_le {x y : Int} (hx : inR x) (hy : inR y) : i32 x ≤ i32 y ↔ x ≤ y := by
  rw [Int32.le_iff_toInt_le, i32_toInt hx, i32_toInt hy]
theorem i32_0 : i32 0 = 0 := by decide +kernel
theorem inR_0 : inR 0 := by unfold inR; omega
theorem i32_eq0 {x : Int} (hx : inR x) : i32 x = 0 ↔ x = 0 := by rw [← i32_0]; exact i32_eq hx inR_0
theorem i32_clamp {x : Int} (h : inR x) (h0 : 0 ≤ x) : (i32 x).toNatClampNeg = x.toNat := by
  show (i32 x).toInt.toNat = x.toNat
  rw [i32_toInt h]
theorem i32_nat {n : Nat} : i32 (n : Int) = Int32.ofNat n := by
  rw [← Int32.toInt_inj]
  unfold i32
  simp
/-- a reference's address -/
def rf (ad : Nat → Nat) (b x : Nat) : Option Nat := if x = 0 then none else if x = 1 then some b else some (ad x)
def rl (ad : Nat → Nat) (b : Nat) (v : AV) : Value := match v with
  | .inl x => .int (i32 x)
  | .inr (.inl x) => .long (l64 x)
  | .inr (.inr x) => va_rf (rf ad b x)
theorem rf_2 {ad : Nat → Nat} {b x : Nat} (h : 2 ≤ x) : rf ad b x = some (ad x) := by
  unfold rf; rw [if_neg (by omega), if_neg (by omega)]
theorem rl_2 {ad : Nat → Nat} {b x : Nat} (h : 2 ≤ x) : rl ad b (aR x) = .ref (ad x) := by
  show va_rf (rf ad b x) = _
  rw [rf_2 h]; rfl
def fval (ad : Nat → Nat) (b : Nat) (h : Hp) (x : Nat) (ty : FieldType) (k : Nat) : Value := match ty with
  | .int => .int (i32 (hI h x k))
  | .boolean => .int (i32 (hI h x k))
  | .long => .long (l64 (hL h x k))
  | _ => va_rf (rf ad b (hR h x k))
def imgE (cA : Nat → ClassId) (ad : Nat → Nat) (b : Nat) (h : Hp) (x : Nat) : va_E := match (hT h x).1 with
  | 1 => .inl (cA 1, (hT h x).2, .inl fun k => i32 (hI h x k))
  | 2 => .inl (cA 2, (hT h x).2, .inr (.inl fun k => l64 (hL h x k)))
  | 3 => .inl (cA 3, (hT h x).2, .inl fun k => i32 (hI h x k))
  | 4 => .inl (cA 4, (hT h x).2, .inr (.inr (.inr (.inr fun k => rf ad b (hR h x k)))))
  | t => .inr (t - 10, (List.range (nF (t - 10))).map fun k => fval ad b h x (fty (t - 10) k) k)
def img (cA : Nat → ClassId) (ad : Nat → Nat) (b : Nat) (h : Hp) : va_W := (List.range (hN h - 2)).map fun i => (ad (i + 2), imgE cA ad b h (i + 2))
def tysA (cA : Nat → ClassId) : List (ClassId × FieldType) := [(cA 1, .int), (cA 2, .long), (cA 3, .boolean), (cA 4, .object RX4)]
/-- what holds of every heap of the small machine -/
def HI (h : Hp) : Prop := 2 ≤ hN h ∧ (∀ x, x < 2 ∨ hN h ≤ x → (hT h x).1 = 0) ∧ (∀ x k, inR (hI h x k)) ∧ (∀ x k, hR h x k < hN h) ∧ ∀ x, (hT h x).2 ≤ 65536
def okV (h : Hp) (v : AV) : Prop := match v with
  | .inl x => inR x
  | .inr (.inl _) => True
  | .inr (.inr x) => x < hN h
def okS (h : Hp) (st : List AV) : Prop := ∀ v ∈ st, okV h v
def okL (h : Hp) (ls : ALS) : Prop := ∀ v, some v ∈ ls → okV h v
theorem okS_cons {h : Hp} {v : AV} {st : List AV} : okS h (v :: st) ↔ okV h v ∧ okS h st := List.forall_mem_cons
theorem okV.mono {h h1 : Hp} {v : AV} (hv : okV h v) (hn : hN h ≤ hN h1) : okV h1 v := by
  cases v with
  | inl x => exact hv
  | inr v => cases v with
    | inl x => trivial
    | inr x => exact Nat.lt_of_lt_of_le hv hn
theorem okS.mono {h h1 : Hp} {st : List AV} (hs : okS h st) (hn : hN h ≤ hN h1) : okS h1 st := fun v hv => (hs v hv).mono hn
theorem okL.mono {h h1 : Hp} {ls : ALS} (hs : okL h ls) (hn : hN h ≤ hN h1) : okL h1 ls := fun v hv => (hs v hv).mono hn
theorem img_at {cA : Nat → ClassId} {ad : Nat → Nat} {b : Nat} {h : Hp} {x : Nat} (h2 : 2 ≤ x) (hx : x < hN h) : (img cA ad b h)[x - 2]? = some (ad x, imgE cA ad b h x) := by
  unfold img
  rw [List.getElem?_map, List.getElem?_range (by omega)]
  simp only [Option.map_some]
  rw [show x - 2 + 2 = x by omega]
/-- kinds tell that a cell is there -/
theorem HI.cell {h : Hp} (hh : HI h) {x t : Nat} (ht : (hT h x).1 = t) (h0 : t ≠ 0) : 2 ≤ x ∧ x < hN h := by
  refine ⟨?_, ?_⟩
  · apply Nat.le_of_not_lt; intro q
    exact h0 (ht.symm.trans (hh.2.1 x (Or.inl q)))
  · apply Nat.lt_of_not_le; intro q
    exact h0 (ht.symm.trans (hh.2.1 x (Or.inr q)))
theorem imgE_o {cA : Nat → ClassId} {ad : Nat → Nat} {b : Nat} {h : Hp} {x ci : Nat} (ht : (hT h x).1 = 10 + ci) : imgE cA ad b h x = .inr (ci, (List.range (nF ci)).map fun k => fval ad b h x (fty ci k) k) := by
  unfold imgE
  rw [ht]
  split
  · omega
  · omega
  · omega
  · omega
  · rw [show 10 + ci - 10 = ci by omega]
/-- a heap that differs in one cell -/
theorem img_set {cA : Nat → ClassId} {ad : Nat → Nat} {b : Nat} {h h1 : Hp} {x : Nat} {e : va_E} (h2 : 2 ≤ x) (hx : x < hN h) (hn : hN h1 = hN h) (ho : ∀ y, y ≠ x → imgE cA ad b h1 y = imgE cA ad b h y) (he : imgE cA ad b h1 x = e) : (img cA ad b h).set (x - 2) (ad x, e) = img cA ad b h1 := by
  apply List.ext_getElem?
  intro k
  rw [List.getElem?_set]
  by_cases hk : x - 2 = k
  · subst hk
    rw [if_pos rfl, img_at h2 (by omega), he]
    rw [if_pos (by unfold img; simp; omega)]
  · rw [if_neg hk]
    by_cases hl : k + 2 < hN h
    · have e1 := img_at (cA := cA) (ad := ad) (b := b) (h := h) (x := k + 2) (by omega) hl
      have e2 := img_at (cA := cA) (ad := ad) (b := b) (h := h1) (x := k + 2) (by omega) (by omega)
      rw [show k + 2 - 2 = k by omega] at e1 e2
      rw [e1, e2, ho (k + 2) (by omega)]
    · rw [List.getElem?_eq_none (by unfold img; simp; omega), List.getElem?_eq_none (by unfold img; simp; omega)]
theorem rf_congr {ad ad1 : Nat → Nat} {b n x : Nat} (ha : ∀ y, y < n → ad1 y = ad y) (hx : x < n) : rf ad1 b x = rf ad b x := by
  unfold rf; rw [ha x hx]
theorem rl_congr {ad ad1 : Nat → Nat} {b : Nat} {h : Hp} {v : AV} (ha : ∀ y, y < hN h → ad1 y = ad y) (hv : okV h v) : rl ad1 b v = rl ad b v := by
  cases v with
  | inl x => rfl
  | inr v => cases v with
    | inl x => rfl
    | inr x => show va_rf _ = va_rf _; rw [rf_congr ha hv]
theorem rls_congr {ad ad1 : Nat → Nat} {b : Nat} {h : Hp} {st : List AV} (ha : ∀ y, y < hN h → ad1 y = ad y) (hv : okS h st) : st.map (rl ad1 b) = st.map (rl ad b) := List.map_congr_left fun v hm => rl_congr ha (hv v hm)
theorem imgE_congr {cA : Nat → ClassId} {ad ad1 : Nat → Nat} {b : Nat} {h : Hp} (hh : HI h) (ha : ∀ y, y < hN h → ad1 y = ad y) (x : Nat) : imgE cA ad1 b h x = imgE cA ad b h x := by
  have e : ∀ k, rf ad1 b (hR h x k) = rf ad b (hR h x k) := fun k => rf_congr ha (hh.2.2.2.1 x k)
  unfold imgE fval
  simp only [e]
theorem img_congr {cA : Nat → ClassId} {ad ad1 : Nat → Nat} {b : Nat} {h : Hp} (hh : HI h) (ha : ∀ y, y < hN h → ad1 y = ad y) : img cA ad1 b h = img cA ad b h := by
  unfold img
  apply List.map_congr_left
  intro i hi
  rw [imgE_congr hh ha, ha (i + 2) (by rw [List.mem_range] at hi; omega)]
/-- a heap with one cell more -/
theorem img_new {cA : Nat → ClassId} {ad : Nat → Nat} {b q : Nat} {h : Hp} {t n : Nat} {e : va_E} (hh : HI h) (he : imgE cA (fun y => if y = hN h then q else ad y) b (newH h t n) (hN h) = e) : img cA (fun y => if y = hN h then q else ad y) b (newH h t n) = img cA ad b h ++ [(q, e)] := by
  have hn : hN (newH h t n) - 2 = (hN h - 2) + 1 := by show hN h + 1 - 2 = _; have := hh.1; omega
  have h2 := hh.1
  conv => lhs; unfold img
  rw [hn, List.range_succ, List.map_append, List.map_singleton, show hN h - 2 + 2 = hN h by omega, he]
  simp only [if_pos]
  congr 1
  unfold img
  apply List.map_congr_left
  intro i hi
  rw [List.mem_range] at hi
  have hne : i + 2 ≠ hN h := by omega
  rw [if_neg hne]
  have e2 : imgE cA (fun y => if y = hN h then q else ad y) b (newH h t n) (i + 2) = imgE cA (fun y => if y = hN h then q else ad y) b h (i + 2) := by
    unfold imgE fval
    simp [newH, hT, hI, hL, hR, hne]
  rw [e2, imgE_congr hh (fun y hy => if_neg (by omega))]
/-- locals as the kit lists them -/
def lpr (ad : Nat → Nat) (b : Nat) : Nat → ALS → List (Nat × Value)
  | _, [] => []
  | i, none :: l => lpr ad b (i + 1) l
  | i, some v :: l => (i, rl ad b v) :: lpr ad b (i + 1) l
theorem mem_lpr {ad : Nat → Nat} {b : Nat} {q : Nat × Value} : ∀ {l : ALS} {i : Nat}, q ∈ lpr ad b i l ↔ ∃ (k : Nat) (v : AV), l[k]? = some (some v) ∧ q = (i + k, rl ad b v)
  | [], i => by simp [lpr]
  | none :: l, i => by
    rw [lpr, mem_lpr]
    constructor
    · rintro ⟨k, v, h1, h2⟩
      exact ⟨k + 1, v, by simpa using h1, by rw [h2]; simp; omega⟩
    · rintro ⟨k, v, h1, h2⟩
      cases k with
      | zero => simp at h1
      | succ k => exact ⟨k, v, by simpa using h1, by rw [h2]; simp; omega⟩
  | some w :: l, i => by
    rw [lpr, List.mem_cons, mem_lpr]
    constructor
    · rintro (h | ⟨k, v, h1, h2⟩)
      · exact ⟨0, w, by simp, by rw [h]; simp⟩
      · exact ⟨k + 1, v, by simpa using h1, by rw [h2]; simp; omega⟩
    · rintro ⟨k, v, h1, h2⟩
      cases k with
      | zero =>
        simp at h1
        exact Or.inl (by rw [h2, h1]; simp)
      | succ k => exact Or.inr ⟨k, v, by simpa using h1, by rw [h2]; simp; omega⟩
theorem lpr_congr {ad ad1 : Nat → Nat} {b : Nat} {h : Hp} (ha : ∀ y, y < hN h → ad1 y = ad y) : ∀ {l : ALS} {i : Nat}, okL h l → lpr ad1 b i l = lpr ad b i l
  | [], i, _ => rfl
  | none :: l, i, ho => by
    rw [lpr, lpr]
    exact lpr_congr ha fun v hv => ho v (List.mem_cons_of_mem _ hv)
  | some w :: l, i, ho => by
    rw [lpr, lpr, rl_congr ha (ho w List.mem_cons_self), lpr_congr ha fun v hv => ho v (List.mem_cons_of_mem _ hv)]
theorem ls1_len : ∀ (l : ALS) (i : Nat) (v : AV), (ls1 l i v).length = l.length
  | [], _, _ => rfl
  | a :: l, 0, v => by cases a with
    | none => rfl
    | some a => rcases a with a | a | a <;> rfl
  | a :: l, 1, v => by
    rcases a with _ | a | a | a <;> simp [ls1, ls1_len l 0 v]
  | a :: l, i + 2, v => by
    rcases a with _ | a | a | a <;> simp [ls1, ls1_len l (i + 1) v]
def isLong (v : AV) : Prop := ∃ x, v = aL x
theorem ls1_get : ∀ {l : ALS} {i j : Nat} {w v : AV}, (ls1 l i w)[j]? = some (some v) → (j = i ∧ v = w) ∨ (j ≠ i ∧ l[j]? = some (some v) ∧ ¬ (j + 1 = i ∧ isLong v))
  | [], i, j, w, v, h => by simp [ls1] at h
  | a :: l, 0, 0, w, v, h => by
    have h : (some (some w) : Option (Option AV)) = some (some v) := by rcases a with _ | a | a | a <;> exact h
    exact Or.inl ⟨rfl, (Option.some.inj (Option.some.inj h)).symm⟩
  | a :: l, 0, j + 1, w, v, h => by
    have h : l[j]? = some (some v) := by rcases a with _ | a | a | a <;> exact h
    exact Or.inr ⟨by omega, by simpa using h, by omega⟩
  | a :: l, 1, 0, w, v, h => by
    rcases a with _ | a | a | a
    · exact absurd (show (some none : Option (Option AV)) = some (some v) from h) (by simp)
    · have h : (some (some (.inl a)) : Option (Option AV)) = some (some v) := h
      cases h
      exact Or.inr ⟨by omega, by simp, by rintro ⟨-, x, hx⟩; cases hx⟩
    · exact absurd (show (some none : Option (Option AV)) = some (some v) from h) (by simp)
    · have h : (some (some (.inr (.inr a))) : Option (Option AV)) = some (some v) := h
      cases h
      exact Or.inr ⟨by omega, by simp, by rintro ⟨-, x, hx⟩; cases hx⟩
  | a :: l, 1, j + 1, w, v, h => by
    have h : (ls1 l 0 w)[j]? = some (some v) := by rcases a with _ | a | a | a <;> exact h
    rcases ls1_get h with ⟨h1, h2⟩ | ⟨h1, h2, h3⟩
    · exact Or.inl ⟨by omega, h2⟩
    · exact Or.inr ⟨by omega, by simpa using h2, by omega⟩
  | a :: l, i + 2, 0, w, v, h => by
    have h : (some a : Option (Option AV)) = some (some v) := by rcases a with _ | a | a | a <;> exact h
    exact Or.inr ⟨by omega, by simpa using h, by omega⟩
  | a :: l, i + 2, j + 1, w, v, h => by
    have h : (ls1 l (i + 1) w)[j]? = some (some v) := by rcases a with _ | a | a | a <;> exact h
    rcases ls1_get h with ⟨h1, h2⟩ | ⟨h1, h2, h3⟩
    · exact Or.inl ⟨by omega, h2⟩
    · exact Or.inr ⟨by omega, by simpa using h2, fun q => h3 ⟨by omega, q.2⟩⟩
theorem ls2_len : ∀ (l : ALS) (i : Nat) (v : AV), (ls2 l i v).length = l.length
  | [], _, _ => by simp [ls2]
  | [a], _, _ => by simp [ls2]
  | a :: c :: l, 0, v => by rcases a with _ | a | a | a <;> rfl
  | a :: c :: l, 1, v => by
    rcases a with _ | a | a | a <;> simp [ls2, ls2_len (c :: l) 0 v]
  | a :: c :: l, i + 2, v => by
    rcases a with _ | a | a | a <;> simp [ls2, ls2_len (c :: l) (i + 1) v]
theorem ls2_get : ∀ {l : ALS} {i j : Nat} {w v : AV}, i + 1 < l.length → (ls2 l i w)[j]? = some (some v) → (j = i ∧ v = w) ∨ (j ≠ i ∧ j ≠ i + 1 ∧ l[j]? = some (some v) ∧ ¬ (j + 1 = i ∧ isLong v))
  | [], i, j, w, v, hl, h => by simp at hl
  | [a], i, j, w, v, hl, h => by simp at hl
  | a :: c :: l, 0, 0, w, v, hl, h => by
    have h : (some (some w) : Option (Option AV)) = some (some v) := by rcases a with _ | a | a | a <;> exact h
    exact Or.inl ⟨rfl, (Option.some.inj (Option.some.inj h)).symm⟩
  | a :: c :: l, 0, 1, w, v, hl, h => by
    have h : (some none : Option (Option AV)) = some (some v) := by rcases a with _ | a | a | a <;> exact h
    exact absurd h (by simp)
  | a :: c :: l, 0, j + 2, w, v, hl, h => by
    have h : l[j]? = some (some v) := by rcases a with _ | a | a | a <;> exact h
    exact Or.inr ⟨by omega, by omega, by simpa using h, by omega⟩
  | a :: c :: l, 1, 0, w, v, hl, h => by
    rcases a with _ | a | a | a
    · exact absurd (show (some none : Option (Option AV)) = some (some v) from h) (by simp)
    · have h : (some (some (.inl a)) : Option (Option AV)) = some (some v) := h
      cases h
      exact Or.inr ⟨by omega, by omega, by simp, by rintro ⟨-, x, hx⟩; cases hx⟩
    · exact absurd (show (some none : Option (Option AV)) = some (some v) from h) (by simp)
    · have h : (some (some (.inr (.inr a))) : Option (Option AV)) = some (some v) := h
      cases h
      exact Or.inr ⟨by omega, by omega, by simp, by rintro ⟨-, x, hx⟩; cases hx⟩
  | a :: c :: l, 1, j + 1, w, v, hl, h => by
    have h : (ls2 (c :: l) 0 w)[j]? = some (some v) := by rcases a with _ | a | a | a <;> exact h
    rcases ls2_get (by simp at hl ⊢; omega) h with ⟨h1, h2⟩ | ⟨h1, h1', h2, h3⟩
    · exact Or.inl ⟨by omega, h2⟩
    · exact Or.inr ⟨by omega, by omega, by simpa using h2, by omega⟩
  | a :: c :: l, i + 2, 0, w, v, hl, h => by
    have h : (some a : Option (Option AV)) = some (some v) := by rcases a with _ | a | a | a <;> exact h
    exact Or.inr ⟨by omega, by omega, by simpa using h, by omega⟩
  | a :: c :: l, i + 2, j + 1, w, v, hl, h => by
    have h : (ls2 (c :: l) (i + 1) w)[j]? = some (some v) := by rcases a with _ | a | a | a <;> exact h
    rcases ls2_get (by simp at hl ⊢; omega) h with ⟨h1, h2⟩ | ⟨h1, h1', h2, h3⟩
    · exact Or.inl ⟨by omega, h2⟩
    · exact Or.inr ⟨by omega, by omega, by simpa using h2, fun q => h3 ⟨by omega, q.2⟩⟩
