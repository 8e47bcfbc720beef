/-! ===== the reference: cut ===== -/
/-- only the rows of program np, the became row and the number of programs have changed -/
def FK (o np : Nat) (h h2 : Hp) : Prop := h2.1 = h.1 ∧ hT h2 = hT h ∧ hR h2 = hR h ∧ (∀ y, y < o ∨ o + 24 < y → hI h2 y = hI h y ∧ hL h2 y = hL h y) ∧ (∀ y, o + 4 < y → y ≤ o + 24 → ¬ y = o + 14 → hI h2 y = hI h y) ∧ (∀ j, ¬ j = 0 → hI h2 o j = hI h o j) ∧ (∀ j, ¬ j = np → hI h2 (o + 1) j = hI h (o + 1) j) ∧ ∀ y z, o + 2 ≤ y → y ≤ o + 4 → ¬ (60 * np ≤ z ∧ z < 60 * np + 60) → hI h2 y z = hI h y z
theorem FK_rf {o np : Nat} {h : Hp} : FK o np h h := ⟨rfl, rfl, rfl, fun _ _ => ⟨rfl, rfl⟩, fun _ _ _ _ => rfl, fun _ _ => rfl, fun _ _ => rfl, fun _ _ _ _ _ => rfl⟩
theorem FK_tr {o np : Nat} {h h2 h3 : Hp} (a : FK o np h h2) (b : FK o np h2 h3) : FK o np h h3 := by
  obtain ⟨a1, a2, a3, a4, a5, a6, a7, a8⟩ := a
  obtain ⟨b1, b2, b3, b4, b5, b6, b7, b8⟩ := b
  exact ⟨b1.trans a1, b2.trans a2, b3.trans a3, fun y q => ⟨(b4 y q).1.trans (a4 y q).1, (b4 y q).2.trans (a4 y q).2⟩, fun y q r s => (b5 y q r s).trans (a5 y q r s), fun j q => (b6 j q).trans (a6 j q), fun j q => (b7 j q).trans (a7 j q), fun y z q r s => (b8 y z q r s).trans (a8 y z q r s)⟩
theorem FK_set {o np x k : Nat} {h : Hp} {v : Int} (c : x = o + 14 ∨ (x = o ∧ k = 0) ∨ (x = o + 1 ∧ k = np) ∨ (o + 2 ≤ x ∧ x ≤ o + 4 ∧ 60 * np ≤ k ∧ k < 60 * np + 60)) : FK o np h (setI h x k v) := by
  refine ⟨h1_setI2, hT_setI, hR_setI, fun y q => ⟨row_ne (by omega), by rw [hL_setI]⟩, fun y q r s => row_ne (by omega), fun j q => ?_, fun j q => ?_, fun y z q r s => ?_⟩
  · rw [hI_setI, if_neg (by omega)]
  · rw [hI_setI, if_neg (by omega)]
  · rw [hI_setI, if_neg (by omega)]
theorem FK_put {o np m : Nat} {h : Hp} {k u v : Int} (hm : m < 60) : FK o np h (putH o h np m k u v) := by
  unfold putH
  have e : (60 * (np : Int) + (m : Int)).toNat = 60 * np + m := by omega
  rw [e, Int.toNat_natCast]
  exact FK_tr (FK_tr (FK_tr (FK_set (by omega)) (FK_set (by omega))) (FK_set (by omega))) (FK_set (by omega))
theorem FK_sm {o np : Nat} {h h2 : Hp} (a : FK o np h h2) (s : SM o h) : SM o h2 := by rw [SM_same a.2.1 a.2.2.1]; exact s
theorem FK_agr {o np : Nat} {h h2 : Hp} {g : Int} (a : FK o np h h2) (g0 : 0 ≤ g) (g1 : g < np) : agr 60 (mK o h2 g) (mK o h g) ∧ agr 60 (mX o h2 g) (mX o h g) ∧ agr 60 (mE o h2 g) (mE o h g) := by
  refine ⟨fun q a0 a1 => ?_, fun q a0 a1 => ?_, fun q a0 a1 => ?_⟩
  · exact a.2.2.2.2.2.2.2 _ _ (by omega) (by omega) (by omega)
  · exact a.2.2.2.2.2.2.2 _ _ (by omega) (by omega) (by omega)
  · exact a.2.2.2.2.2.2.2 _ _ (by omega) (by omega) (by omega)
theorem lvF_cg {K K2 : Int → Int} {n p : Int} {F : Int → Int} (h : agr n K K2) : ∀ (f : Nat) (q l c : Int), q < n → lvF K n p F f q l c = lvF K2 n p F f q l c
  | 0, _, _, _, _ => rfl
  | f + 1, q, l, c, hq => by
    unfold lvF
    by_cases a : 0 ≤ q ∧ 0 < l
    · rw [if_pos a, if_pos a, h q a.1 hq, clo_cg h a.1, lvF_cg h f _ _ _ (by omega), lvF_cg h f _ l c (by omega)]
    · rw [if_neg a, if_neg a]
/-- which lines a cut keeps -/
def kpF (K : Int → Int) (n : Int) (F : Nat → Int) (p : Nat) : Bool := if stm K n p = true then decide (0 ≤ F p) else decide (0 ≤ F (bgo K n p).toNat)
/-- how many below -/
def ck (P : Nat → Bool) : Nat → Nat
  | 0 => 0
  | p + 1 => ck P p + (if P p = true then 1 else 0)
theorem ck_t {P : Nat → Bool} {p : Nat} (h : P p = true) : ck P (p + 1) = ck P p + 1 := by show ck P p + (if P p = true then 1 else 0) = _; rw [if_pos h]
theorem ck_f {P : Nat → Bool} {p : Nat} (h : P p = false) : ck P (p + 1) = ck P p := by show ck P p + (if P p = true then 1 else 0) = _; rw [if_neg (by rw [h]; decide)]; rfl
theorem ck_le {P : Nat → Bool} : ∀ (p : Nat), ck P p ≤ p
  | 0 => Nat.le_refl _
  | p + 1 => by
    have := ck_le (P := P) p
    cases h : P p with
    | true => rw [ck_t h]; omega
    | false => rw [ck_f h]; omega
theorem ck_mono {P : Nat → Bool} {q : Nat} : ∀ (p : Nat), q ≤ p → ck P q ≤ ck P p
  | 0, h => by have : q = 0 := by omega
               rw [this]; exact Nat.le_refl _
  | p + 1, h => by
    by_cases e : q = p + 1
    · rw [e]; exact Nat.le_refl _
    · have := ck_mono (P := P) (q := q) p (by omega)
      cases h : P p with
      | true => rw [ck_t h]; omega
      | false => rw [ck_f h]; omega
theorem ck_lt {P : Nat → Bool} {q p : Nat} (h : P q = true) (l : q < p) : ck P q < ck P p := by
  have := ck_mono (P := P) (q := q + 1) p (by omega)
  rw [ck_t h] at this
  omega
def xxF (K X : Int → Int) (n : Int) (F : Nat → Int) (q : Nat) : Int := if K q = 7 then lvF K n q (fun r => F r.toNat) q ((q : Int) - 1) (X q) 0 else X q
/-- the rows of the cut program -/
def CR (o np : Nat) (h2 : Hp) (K X E : Int → Int) (P : Nat → Bool) (XX : Nat → Int) (n : Nat) (p : Nat) : Prop := hI h2 (o + 1) np = ck P (min p n) ∧ (∀ q, q < p → hI h2 (o + 14) q = if q < n ∧ P q = true then (ck P q : Int) else -1) ∧ ∀ q, q < p → q < n → P q = true → hI h2 (o + 2) (60 * np + ck P q) = K q ∧ hI h2 (o + 3) (60 * np + ck P q) = XX q ∧ hI h2 (o + 4) (60 * np + ck P q) = E q
theorem CR_no {o np : Nat} {h : Hp} {K X E : Int → Int} {P : Nat → Bool} {XX : Nat → Int} {n p : Nat} (c : CR o np h K X E P XX n p) (hp : n ≤ p ∨ P p = false) : CR o np (setI h (o + 14) p (-1)) K X E P XX n (p + 1) := by
  obtain ⟨c1, c2, c3⟩ := c
  refine ⟨?_, fun q hq => ?_, fun q h1 h2 h3 => ?_⟩
  · rw [hI_ne (by omega), c1]
    rcases hp with e | e
    · rw [show min (p + 1) n = min p n by omega]
    · by_cases l : p < n
      · rw [show min (p + 1) n = p + 1 by omega, show min p n = p by omega, ck_f e]
      · rw [show min (p + 1) n = min p n by omega]
  · by_cases e : q = p
    · rw [e, hI_eq, if_neg]
      rintro ⟨a, b⟩
      rcases hp with z | z
      · omega
      · rw [z] at b; exact absurd b (by decide)
    · rw [hI_ne2 e]; exact c2 q (by omega)
  · have e : ¬ q = p := by
      rintro rfl
      rcases hp with z | z
      · omega
      · rw [z] at h3; exact absurd h3 (by decide)
    rw [hI_ne (by omega), hI_ne (by omega), hI_ne (by omega)]
    exact c3 q (by omega) h2 h3
theorem CR_yes {o np : Nat} {h : Hp} {K X E : Int → Int} {P : Nat → Bool} {XX : Nat → Int} {n p : Nat} {k u v : Int} (c : CR o np h K X E P XX n p) (hp : p < n) (n60 : n ≤ 60) (e : P p = true) (hk : k = K p) (hu : u = XX p) (hv : v = E p) : CR o np (putH o (setI (setI h (o + 14) p (-1)) (o + 14) p (ck P p : Nat)) np (ck P p : Nat) k u v) K X E P XX n (p + 1) := by
  obtain ⟨c1, c2, c3⟩ := c
  have eT : (60 * (np : Int) + (ck P p : Nat)).toNat = 60 * np + ck P p := by omega
  unfold putH
  rw [eT, Int.toNat_natCast]
  refine ⟨?_, fun q hq => ?_, fun q h1 h2 h3 => ?_⟩
  · rw [hI_eq, show min (p + 1) n = p + 1 by omega, ck_t e]; omega
  · rw [hI_ne (by omega), hI_ne (by omega), hI_ne (by omega), hI_ne (by omega)]
    by_cases z : q = p
    · rw [z, hI_eq, if_pos ⟨hp, e⟩]
    · rw [hI_ne2 z, hI_ne2 z]; exact c2 q (by omega)
  · by_cases z : q = p
    · rw [z]
      refine ⟨?_, ?_, ?_⟩
      · rw [hI_ne (by omega), hI_ne (by omega), hI_ne (by omega), hI_eq, hk]
      · rw [hI_ne (by omega), hI_ne (by omega), hI_eq, hu]
      · rw [hI_ne (by omega), hI_eq, hv]
    · have := ck_lt (P := P) h3 (show q < p by omega)
      obtain ⟨y1, y2, y3⟩ := c3 q (by omega) h2 h3
      refine ⟨?_, ?_, ?_⟩
      · rw [hI_ne (by omega), hI_ne (by omega), hI_ne (by omega), hI_ne2 (by omega), hI_ne (by omega), hI_ne (by omega)]; exact y1
      · rw [hI_ne (by omega), hI_ne (by omega), hI_ne2 (by omega), hI_ne (by omega), hI_ne (by omega), hI_ne (by omega)]; exact y2
      · rw [hI_ne (by omega), hI_ne2 (by omega), hI_ne (by omega), hI_ne (by omega), hI_ne (by omega), hI_ne (by omega)]; exact y3
