/-! ===== the stack of open parts ===== -/
def stk (K : Int → Int) : Nat → List Nat
  | 0 => []
  | q + 1 => if bgn (K q) = true then q :: stk K q else if K q = 6 then (stk K q).tail else stk K q
def SV (K : Int → Int) (n : Nat) : Prop := ∀ q : Nat, q < n → K q = 6 → stk K q ≠ []
theorem bgn_6 {k : Int} (e : k = 6) : ¬ bgn k = true := by subst e; decide
theorem bgn_4 {k : Int} (e : k = 4) : ¬ bgn k = true := by subst e; decide
theorem stk_b {K : Int → Int} {q : Nat} (h : bgn (K q) = true) : stk K (q + 1) = q :: stk K q := by
  show (if bgn (K q) = true then _ else _) = _
  rw [if_pos h]
theorem stk_6 {K : Int → Int} {q : Nat} (h : K q = 6) : stk K (q + 1) = (stk K q).tail := by
  show (if bgn (K q) = true then _ else _) = _
  rw [if_neg (bgn_6 h), if_pos h]
theorem stk_o {K : Int → Int} {q : Nat} (h1 : ¬ bgn (K q) = true) (h : ¬ K q = 6) : stk K (q + 1) = stk K q := by
  show (if bgn (K q) = true then _ else _) = _
  rw [if_neg h1, if_neg h]
theorem stk_step {K : Int → Int} {q b : Nat} (h : b ∈ stk K (q + 1)) : b = q ∧ bgn (K q) = true ∨ b ∈ stk K q := by
  by_cases h1 : bgn (K q) = true
  · rw [stk_b h1] at h
    rcases List.mem_cons.mp h with e | e
    · exact Or.inl ⟨e, h1⟩
    · exact Or.inr e
  · by_cases h2 : K q = 6
    · rw [stk_6 h2] at h
      exact Or.inr (List.mem_of_mem_tail h)
    · rw [stk_o h1 h2] at h
      exact Or.inr h
theorem stk_lt {K : Int → Int} : ∀ {q b : Nat}, b ∈ stk K q → b < q
  | 0, b, h => by cases h
  | q + 1, b, h => by
    rcases stk_step h with ⟨e, -⟩ | e
    · omega
    · have := stk_lt e; omega
theorem stk_bgn {K : Int → Int} : ∀ {q b : Nat}, b ∈ stk K q → bgn (K b) = true
  | 0, b, h => by cases h
  | q + 1, b, h => by
    rcases stk_step h with ⟨e, k⟩ | e
    · rw [e]; exact k
    · exact stk_bgn e
theorem stk_mono {K : Int → Int} {r b : Nat} (hb : b < r) : ∀ {q : Nat}, b ∈ stk K q → r ≤ q → b ∈ stk K r
  | 0, h, _ => by cases h
  | q + 1, h, hr => by
    by_cases e : r = q + 1
    · rw [e]; exact h
    · rcases stk_step h with ⟨e2, -⟩ | e2
      · omega
      · exact stk_mono hb e2 (by omega)
theorem stk_suf {K : Int → Int} : ∀ {q b : Nat}, b ∈ stk K q → ∃ l, stk K q = l ++ b :: stk K b
  | 0, b, h => by cases h
  | q + 1, b, h => by
    by_cases h1 : bgn (K q) = true
    · rw [stk_b h1] at h ⊢
      rcases List.mem_cons.mp h with e | e
      · exact ⟨[], by rw [e]; rfl⟩
      · obtain ⟨l, hl⟩ := stk_suf e
        exact ⟨q :: l, by rw [hl]; rfl⟩
    · by_cases h2 : K q = 6
      · rw [stk_6 h2] at h ⊢
        obtain ⟨l, hl⟩ := stk_suf (List.mem_of_mem_tail h)
        rw [hl] at h ⊢
        cases l with
        | nil =>
          have := stk_lt (show b ∈ stk K b from h)
          omega
        | cons a l => exact ⟨l, rfl⟩
      · rw [stk_o h1 h2] at h ⊢
        exact stk_suf h
theorem stk_desc {K : Int → Int} : ∀ q : Nat, (stk K q).Pairwise (fun a b => b < a)
  | 0 => List.Pairwise.nil
  | q + 1 => by
    by_cases h1 : bgn (K q) = true
    · rw [stk_b h1]
      exact List.pairwise_cons.mpr ⟨fun b hb => stk_lt hb, stk_desc q⟩
    · by_cases h2 : K q = 6
      · rw [stk_6 h2]
        exact (stk_desc q).sublist (List.tail_sublist _)
      · rw [stk_o h1 h2]
        exact stk_desc q
theorem stk_hd {K : Int → Int} {q b : Nat} {t : List Nat} (h : stk K q = b :: t) : t = stk K b := by
  have hm : b ∈ stk K q := by rw [h]; exact List.mem_cons_self
  obtain ⟨l, hl⟩ := stk_suf hm
  cases l with
  | nil =>
    rw [h] at hl
    exact (List.cons.inj hl).2
  | cons a l =>
    have hd := stk_desc (K := K) q
    rw [h] at hl hd
    obtain ⟨e1, e2⟩ := List.cons.inj hl
    have m2 : b ∈ t := by rw [e2]; simp
    have := (List.pairwise_cons.mp hd).1 b m2
    omega
theorem stk_len {K : Int → Int} {n q : Nat} (sv : SV K n) (hq : q < n) : ((stk K (q + 1)).length : Int) = (stk K q).length + wgt (K q) := by
  unfold wgt
  by_cases h1 : bgn (K q) = true
  · rw [stk_b h1, if_pos h1]; simp
  · by_cases h2 : K q = 6
    · rw [stk_6 h2, if_neg h1, if_pos h2]
      have := sv q hq h2
      cases hs : stk K q with
      | nil => exact absurd hs this
      | cons a t => simp; omega
    · rw [stk_o h1 h2, if_neg h1, if_neg h2]; simp
theorem clF_stk {K : Int → Int} {n : Nat} (sv : SV K n) (c : Int) : ∀ (f q : Nat), n - q = f → q ≤ n → ∃ r : Nat, clF K n f q ((stk K q).length - c) = r ∧ q ≤ r ∧ r ≤ n ∧ (∀ r', q ≤ r' → r' < r → ¬ ((stk K (r' + 1)).length : Int) = c) ∧ (r < n → ((stk K (r + 1)).length : Int) = c)
  | 0, q, hf, hq => ⟨n, rfl, by omega, by omega, fun r' h1 h2 => by omega, fun h => by omega⟩
  | f + 1, q, hf, hq => by
    have hqn : q < n := by omega
    have hl := stk_len sv hqn
    unfold clF
    rw [if_pos (show (q : Int) < n by omega)]
    by_cases e : ((stk K q).length : Int) - c + wgt (K q) = 0
    · rw [if_pos e]
      exact ⟨q, rfl, by omega, by omega, fun r' h1 h2 => by omega, fun h => by omega⟩
    · rw [if_neg e]
      obtain ⟨r, e1, e2, e3, e4, e5⟩ := clF_stk sv c f (q + 1) (by omega) (by omega)
      refine ⟨r, ?_, by omega, e3, ?_, e5⟩
      · rw [← e1]
        congr 1
        omega
      · intro r' h1 h2
        by_cases hr : r' = q
        · subst hr; omega
        · exact e4 r' (by omega) h2
theorem clo_stk {K : Int → Int} {n p : Nat} (sv : SV K n) (hp : p < n) (hb : bgn (K p) = true) : ∃ r : Nat, clo K n p = r ∧ p < r ∧ r ≤ n ∧ (∀ r', p < r' → r' ≤ r → p ∈ stk K r') ∧ (r < n → K r = 6 ∧ stk K r = p :: stk K p) := by
  obtain ⟨r, e1, e2, e3, e4, e5⟩ := clF_stk sv ((stk K p).length) (n - p) p rfl (by omega)
  have e1 : clo K n p = r := by
    rw [← e1]
    unfold clo
    congr 1 <;> omega
  have h1 : stk K (p + 1) = p :: stk K p := stk_b hb
  have hpr : p < r := by
    by_cases e : r = p
    · subst e
      have := e5 hp
      rw [h1] at this
      simp at this
      omega
    · omega
  have hm : ∀ r', p < r' → r' ≤ r → p ∈ stk K r' := by
    intro r'
    induction r' with
    | zero => intro h; omega
    | succ r' ih =>
      intro ha hb2
      by_cases e : r' = p
      · subst e; rw [h1]; exact List.mem_cons_self
      · have hi := ih (by omega) (by omega)
        obtain ⟨l, hl⟩ := stk_suf hi
        by_cases g1 : bgn (K r') = true
        · rw [stk_b g1]; exact List.mem_cons_of_mem _ hi
        · by_cases g2 : K r' = 6
          · rw [stk_6 g2, hl]
            cases l with
            | nil =>
              exfalso
              have := e4 r' (by omega) (by omega)
              rw [stk_6 g2, hl] at this
              exact this rfl
            | cons a l => simp
          · rw [stk_o g1 g2]; exact hi
  refine ⟨r, e1, hpr, e3, hm, fun hr => ?_⟩
  have hl := stk_len sv hr
  obtain ⟨l, hs⟩ := stk_suf (hm r hpr (Nat.le_refl _))
  have h5 := e5 hr
  rw [h5, hs] at hl
  simp only [List.length_append, List.length_cons] at hl
  have hw : wgt (K r) = 1 ∨ wgt (K r) = 0 ∨ (wgt (K r) = -1 ∧ K r = 6) := by
    unfold wgt
    split
    · exact Or.inl rfl
    · split
      · next h => exact Or.inr (Or.inr ⟨rfl, h⟩)
      · exact Or.inr (Or.inl rfl)
  have hlen : l.length = 0 := by omega
  have hk : K r = 6 := by omega
  refine ⟨hk, ?_⟩
  rw [hs, List.eq_nil_of_length_eq_zero hlen]
  rfl
theorem mem_iff {K : Int → Int} {n b q : Nat} (sv : SV K n) (hq : q ≤ n) : b ∈ stk K q ↔ b < q ∧ bgn (K b) = true ∧ (q : Int) ≤ clo K n b := by
  constructor
  · intro h
    have h1 := stk_lt h
    have h2 := stk_bgn h
    refine ⟨h1, h2, ?_⟩
    obtain ⟨r, e1, e2, e3, e4, e5⟩ := clo_stk sv (by omega) h2
    rw [e1]
    by_cases hr : r < q
    · exfalso
      obtain ⟨k6, ks⟩ := e5 (by omega)
      have hm := stk_mono (show b < r + 1 by omega) h (by omega)
      rw [stk_6 k6, ks] at hm
      have := stk_lt (show b ∈ stk K b from hm)
      omega
    · omega
  · rintro ⟨h1, h2, h3⟩
    obtain ⟨r, e1, e2, e3, e4, e5⟩ := clo_stk sv (by omega) h2
    rw [e1] at h3
    exact e4 q h1 (by omega)
/-! scanning the lines for those of a falling row -/
def hdI (l : List Nat) : Int := match l with
  | [] => -1
  | a :: _ => (a : Int)
theorem lastP_spec {P : Int → Bool} {m : Nat} {z : Int} : ∀ (f q : Nat), m - q = f → (∃ r : Nat, lastP P m f q z = r ∧ q ≤ r ∧ r < m ∧ P r = true ∧ ∀ r' : Nat, r < r' → r' < m → ¬ P r' = true) ∨ (lastP P m f q z = z ∧ ∀ r : Nat, q ≤ r → r < m → ¬ P r = true) := by
  intro f
  induction f generalizing z with
  | zero =>
    intro q hf
    exact Or.inr ⟨rfl, fun r h1 h2 => by omega⟩
  | succ f ih =>
    intro q hf
    unfold lastP
    rw [if_pos (show (q : Int) < m by omega)]
    have ih := ih (z := if P q = true then (q : Int) else z) (q + 1) (by omega)
    rw [show ((q + 1 : Nat) : Int) = (q : Int) + 1 by omega] at ih
    rcases ih with ⟨r, e1, e2, e3, e4, e5⟩ | ⟨e1, e2⟩
    · exact Or.inl ⟨r, e1, by omega, e3, e4, e5⟩
    · by_cases hp : P q = true
      · refine Or.inl ⟨q, ?_, by omega, by omega, hp, fun r' h1 h2 => e2 r' (by omega) h2⟩
        rw [e1, if_pos hp]
      · refine Or.inr ⟨?_, fun r h1 h2 => ?_⟩
        · rw [e1, if_neg hp]
        · by_cases e : r = q
          · rw [e]; exact hp
          · exact e2 r (by omega) h2
theorem lastP_hd {P : Int → Bool} {m : Nat} {l : List Nat} (hd : l.Pairwise (fun a b => b < a)) (hm : ∀ q : Nat, q < m → (P q = true ↔ q ∈ l)) (hl : ∀ q, q ∈ l → q < m) : lastP P m m 0 (-1) = hdI l := by
  rcases lastP_spec (P := P) (m := m) (z := -1) m 0 (by omega) with ⟨r, e1, e2, e3, e4, e5⟩ | ⟨e1, e2⟩
  · rw [show ((0 : Nat) : Int) = 0 from rfl] at e1
    rw [e1]
    have hr := (hm r e3).mp e4
    cases l with
    | nil => cases hr
    | cons a t =>
      show (r : Int) = a
      rcases List.mem_cons.mp hr with e | e
      · rw [e]
      · exfalso
        have := (List.pairwise_cons.mp hd).1 r e
        have ha := hl a List.mem_cons_self
        exact e5 a this ha ((hm a ha).mpr List.mem_cons_self)
  · rw [show ((0 : Nat) : Int) = 0 from rfl] at e1
    rw [e1]
    cases l with
    | nil => rfl
    | cons a t =>
      exfalso
      have ha := hl a List.mem_cons_self
      exact e2 a (by omega) ha ((hm a ha).mpr List.mem_cons_self)
theorem cntP_ct {P : Int → Bool} {m : Nat} : ∀ (f q : Nat) (c : Int), m - q = f → q ≤ m → cntP P m f q c = c + ((ctN (fun k => P k) m : Nat) : Int) - ((ctN (fun k => P k) q : Nat) : Int) := by
  intro f
  induction f with
  | zero =>
    intro q c hf hq
    have : q = m := by omega
    subst this
    unfold cntP; omega
  | succ f ih =>
    intro q c hf hq
    unfold cntP
    rw [if_pos (show (q : Int) < m by omega)]
    have ih := ih (q + 1) (if P q = true then c + 1 else c) (by omega) (by omega)
    rw [show ((q + 1 : Nat) : Int) = (q : Int) + 1 by omega] at ih
    rw [ih]
    show _ + _ - ((ctN (fun k => P k) q + (if P q = true then 1 else 0) : Nat) : Int) = _
    split <;> omega
theorem ct_len : ∀ (m : Nat) (l : List Nat), l.Pairwise (fun a b => b < a) → (∀ q, q ∈ l → q < m) → ctN (fun k => decide (k ∈ l)) m = l.length
  | 0, l, hd, hl => by
    cases l with
    | nil => rfl
    | cons a t => have := hl a List.mem_cons_self; omega
  | m + 1, l, hd, hl => by
    show ctN _ m + _ = _
    by_cases hm : m ∈ l
    · cases l with
      | nil => cases hm
      | cons a t =>
        have hd2 := List.pairwise_cons.mp hd
        have ea : a = m := by
          rcases List.mem_cons.mp hm with e | e
          · exact e.symm
          · have := hd2.1 m e
            have := hl a List.mem_cons_self
            omega
        have e1 : ctN (fun k => decide (k ∈ a :: t)) m = ctN (fun k => decide (k ∈ t)) m := by
          apply ctN_cong
          intro k hk
          have : ¬ k = a := by omega
          simp [this]
        rw [e1, ct_len m t hd2.2 (fun q hq => by have := hd2.1 q hq; omega)]
        simp [hm]
    · rw [ct_len m l hd (fun q hq => by
        have := hl q hq
        have : ¬ q = m := fun e => hm (e ▸ hq)
        omega)]
      simp [hm]
theorem cnt_len {P : Int → Bool} {m : Nat} {l : List Nat} (hd : l.Pairwise (fun a b => b < a)) (hm : ∀ q : Nat, q < m → (P q = true ↔ q ∈ l)) (hl : ∀ q, q ∈ l → q < m) : cntP P m m 0 0 = l.length := by
  have h := cntP_ct (P := P) (m := m) m 0 0 (by omega) (by omega)
  rw [show ((0 : Nat) : Int) = 0 from rfl] at h
  rw [h, ← ct_len m l hd hl]
  have e : ctN (fun k : Nat => P (k : Int)) m = ctN (fun k => decide (k ∈ l)) m := by
    apply ctN_cong
    intro k hk
    have := hm k hk
    cases hp : P (k : Int) with
    | true => simp [this.mp hp]
    | false => 
      have : ¬ k ∈ l := fun q => by rw [this.mpr q] at hp; cases hp
      simp [this]
  rw [e]
  show (0 : Int) + _ - 0 = _
  omega
