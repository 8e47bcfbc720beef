/-! ===== the class's Machine shows a state of a RUN ===== -/
/-- v is the latest below i of which P holds, or no number of a step -/
def LT (P : Nat → Prop) (i : Nat) (v : Int) : Prop := ∀ m : Nat, v = (m : Int) ↔ lt1 P i m
theorem LT_s0 {P P2 : Nat → Prop} {i : Nat} {v : Int} (a : ∀ j, j < i → (P2 j ↔ P j)) (b : ¬ P2 i) (h : LT P i v) : LT P2 (i + 1) v := by
  intro m
  rw [h m]
  constructor
  · rintro ⟨x, y, z⟩
    refine ⟨by omega, (a m x).mpr y, fun k k1 k2 w => ?_⟩
    by_cases e : k = i
    · subst e; exact b w
    · exact z k k1 (by omega) ((a k (by omega)).mp w)
  · rintro ⟨x, y, z⟩
    have : ¬ m = i := fun e => b (e ▸ y)
    exact ⟨by omega, (a m (by omega)).mp y, fun k k1 k2 w => z k k1 (by omega) ((a k k2).mpr w)⟩
theorem LT_s1 {P : Nat → Prop} {i : Nat} (b : P i) : LT P (i + 1) (i : Int) := by
  intro m
  constructor
  · intro e
    have : i = m := by omega
    subst this
    exact ⟨by omega, b, fun k k1 k2 => by omega⟩
  · rintro ⟨x, y, z⟩
    by_cases e : m = i
    · rw [e]
    · exact absurd b (z i (by omega) (by omega))
/-- the steps from which step k has what it reads -/
def SrR (K X E : Int → Int) (R RP S H : Nat → Int) (k j : Nat) : Prop := (∃ nm : Nat, nm < 8 ∧ rdF (K (R k)) (X (R k)) (E (R k)) nm = true ∧ lt1 (srN R H X nm) k j) ∨ (0 ≤ RP k ∧ lt1 (fun m => S m = RP k) k j)
theorem SrR_cg {K X E : Int → Int} {R RP S H R2 RP2 S2 H2 : Nat → Int} {k j : Nat} (a : ∀ i, i ≤ k → R2 i = R i ∧ RP2 i = RP i) (b : ∀ i, i < k → S2 i = S i ∧ H2 i = H i) : SrR K X E R2 RP2 S2 H2 k j ↔ SrR K X E R RP S H k j := by
  unfold SrR
  rw [(a k (by omega)).1, (a k (by omega)).2]
  have e1 : ∀ nm : Int, lt1 (srN R2 H2 X nm) k j ↔ lt1 (srN R H X nm) k j := fun nm => lt1_cg (fun i hi => by unfold srN; rw [(a i (by omega)).1, (b i hi).2])
  have e2 : lt1 (fun m => S2 m = RP k) k j ↔ lt1 (fun m => S m = RP k) k j := lt1_cg (fun i hi => by rw [(b i hi).1])
  rw [e2]
  constructor
  · rintro (⟨nm, q1, q2, q3⟩ | q)
    · exact Or.inl ⟨nm, q1, q2, (e1 nm).mp q3⟩
    · exact Or.inr q
  · rintro (⟨nm, q1, q2, q3⟩ | q)
    · exact Or.inl ⟨nm, q1, q2, (e1 nm).mpr q3⟩
    · exact Or.inr q
/-- the Machine k shows state s, but for where it is and whether it was refused -/
def RKo (k : Nat) (h : Hp) (K X E : Int → Int) (s : St) : Prop := (hI h k 9 = sT s ∧ hI h (k + 4) 5 = sC s) ∧ (∀ j, j < 8 → hI h (k + 1) j = sN s j) ∧ (∀ j, j < 12 → hI h (k + 2) j = sL s j) ∧ (∀ j : Nat, (j : Int) < sT s → j < 300 → hI h (k + 3) j = sD s j) ∧ (∀ j, j < sC s → hI h (k + 5) j = sR s j) ∧ (sC s < 400 → (∀ nm : Nat, nm < 8 → LT (srN (sR s) (sH s) X nm) (sC s) (hI h (k + 8) nm)) ∧ ∀ m : Nat, m < 12 → LT (fun i => sS s i = (m : Int)) (sC s) (hI h (k + 9) m)) ∧ ∀ j, j < sC s → ∀ m : Nat, (∃ t, t < 3 ∧ hI h (k + 6) (3 * j + t) = (m : Int)) ↔ SrR K X E (sR s) (sQ s) (sS s) (sH s) j m
def RK (k : Nat) (h : Hp) (K X E : Int → Int) (s : St) : Prop := hI h k 6 = e60 (sP s) ∧ hI h k 12 = sF s ∧ RKo k h K X E s
theorem RKo_cg {k : Nat} {h h2 : Hp} {K X E : Int → Int} {s : St} (a : ∀ d, 0 < d → d ≤ 9 → ¬ d = 7 → hI h2 (k + d) = hI h (k + d)) (b : hI h2 k 9 = hI h k 9) (r : RKo k h K X E s) : RKo k h2 K X E s := by
  unfold RKo
  rw [a 4 (by omega) (by omega) (by omega), a 1 (by omega) (by omega) (by omega), a 2 (by omega) (by omega) (by omega), a 3 (by omega) (by omega) (by omega), a 5 (by omega) (by omega) (by omega), a 6 (by omega) (by omega) (by omega), a 8 (by omega) (by omega) (by omega), a 9 (by omega) (by omega) (by omega), b]
  exact r
theorem opV_cg {f g : Nat → Int} {x : Int} (x0 : 0 ≤ x) (a : ∀ j, j < 8 → f j = g j) : opV f x = opV g x := by
  unfold opV
  by_cases c : x < 8
  · rw [if_pos c, if_pos c, a _ (by omega)]
  · rw [if_neg c, if_neg c]
theorem wR_cg {f g : Nat → Int} {v : Int} (a : ∀ j, j < 8 → f j = g j) : wR f v = wR g v := by
  have := andI_255 v
  unfold wR
  rw [opV_cg (by omega) a]
theorem xV_cg {f g p q : Nat → Int} {v : Int} (ev : exF v = true) (a : ∀ j, j < 8 → f j = g j) (b : ∀ j, j < 12 → p j = q j) : xV f p v = xV g q v := by
  have h1 := andI_255 v
  have h2 := andI_255 (shrI v 8)
  unfold xV
  rw [wR_cg a, opV_cg (by omega) a, opV_cg (x := andI (shrI v 8) 255) (by omega) a]
  cases hw : wR g v with
  | true => rfl
  | false =>
    simp only [Bool.false_eq_true, ↓reduceIte]
    by_cases s8 : shrI v 16 = 8
    · rw [if_pos s8, if_pos s8]
      have l3 : andI (shrI v 8) 255 < 3 := by
        unfold exF at ev
        rw [if_neg (by omega), if_pos s8] at ev
        simp at ev
        exact ev.2.2.1
      unfold wR at hw
      rw [if_pos s8] at hw
      simp at hw
      exact b _ (by omega)
    · rw [if_neg s8, if_neg s8]
theorem rpV_cg {f g : Nat → Int} {k v : Int} (a : ∀ j, j < 8 → f j = g j) : rpV f k v = rpV g k v := by
  have h1 := andI_255 v
  unfold rpV
  rw [opV_cg (by omega) a]
theorem plV_cg {f g : Nat → Int} {k u : Int} (u0 : k = 1 → 0 ≤ divI u 4) (a : ∀ j, j < 8 → f j = g j) : plV f k u = plV g k u := by
  unfold plV
  by_cases c : k = 1
  · rw [if_pos c, if_pos c, opV_cg (u0 c) a]
  · rw [if_neg c, if_neg c]
theorem rpV_12 {f : Nat → Int} {k v : Int} (ev : hasE k = true → exF v = true) : -1 ≤ rpV f k v ∧ rpV f k v < 12 := by
  have h2 := andI_255 (shrI v 8)
  unfold rpV
  by_cases c : 0 ≤ rrF k v ∧ 0 ≤ opV f (andI v 255) ∧ opV f (andI v 255) ≤ 3
  · rw [if_pos c]
    have : rrF k v < 3 := by
      obtain ⟨c1, -⟩ := c
      unfold rrF at c1 ⊢
      by_cases d : hasE k = true ∧ shrI v 16 = 8
      · rw [if_pos d]
        have e := ev d.1
        unfold exF at e
        rw [if_neg (by omega), if_pos d.2] at e
        simp at e
        exact e.2.2.1
      · rw [if_neg d]; omega
    omega
  · rw [if_neg c]; omega
/-- the note -/
theorem ntS_t {s : St} {k v : Int} (z : sC s < 400) : ntS s k v = ((sP s, sF s, sT s, sC s + 1), sN s, sL s, sD s, up1 (sR s) (sC s) (sP s), up1 (sQ s) (sC s) (rpV (sN s) k v), up1 (sS s) (sC s) (-1), up1 (sH s) (sC s) 0) := if_pos z
theorem ntS_f {s : St} {k v : Int} (z : ¬ sC s < 400) : ntS s k v = s := if_neg z
theorem up1_ne {f : Nat → Int} {k j : Nat} {v : Int} (e : ¬ j = k) : up1 f k v j = f j := by unfold up1; rw [if_neg e]
theorem up1_eq {f : Nat → Int} {k : Nat} {v : Int} : up1 f k v k = v := by unfold up1; rw [if_pos rfl]
theorem nmO_8 {v : Int} : -1 ≤ nmO v ∧ nmO v < 8 := by unfold nmO; split <;> omega
theorem nm_8 {k u v : Int} : (-1 ≤ nmL k v ∧ nmL k v < 8) ∧ (-1 ≤ nmR k v ∧ nmR k v < 8) ∧ (-1 ≤ nmP k u ∧ nmP k u < 8) := by
  unfold nmL nmR nmP
  refine ⟨?_, ?_, ?_⟩
  · split
    · exact nmO_8
    · omega
  · split
    · exact nmO_8
    · omega
  · split
    · exact nmO_8
    · omega
