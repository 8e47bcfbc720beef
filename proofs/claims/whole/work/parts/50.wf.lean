/-! ===== programs that are right line by line ===== -/
def WF (K X E : Int → Int) (n : Nat) : Prop := ∀ q : Nat, q < n → (0 ≤ K q ∧ K q ≤ 8) ∧ rtF K q (K q) (X q) (E q) = true
theorem rt_0 {K : Int → Int} {n u v : Int} (h : rtF K n 0 u v = true) : 0 ≤ u ∧ u < 8 ∧ exF v = true := by
  simp only [rtF, ↓reduceIte, Bool.and_eq_true, decide_eq_true_eq] at h
  exact h
theorem rt_1 {K : Int → Int} {n u v : Int} (h : rtF K n 1 u v = true) : 0 ≤ u ∧ remI u 4 < 3 ∧ opd (divI u 4) = true ∧ exF v = true := by
  simpa [rtF] using h
theorem rt_2 {K : Int → Int} {n u v : Int} (h : rtF K n 2 u v = true) : u = 0 ∧ exF v = true := by
  simpa [rtF] using h
theorem rt_3 {K : Int → Int} {n u v : Int} (h : rtF K n 3 u v = true) : u = 0 ∧ exF v = true ∧ opc K n < 12 := by
  simpa [rtF] using h
theorem rt_5 {K : Int → Int} {n u v : Int} (h : rtF K n 5 u v = true) : u = 0 ∧ exF v = true ∧ opc K n < 12 := by
  simpa [rtF] using h
theorem rt_4 {K : Int → Int} {n u v : Int} (h : rtF K n 4 u v = true) : u = 0 ∧ v = 0 ∧ 0 ≤ opn K n ∧ K (opn K n) = 3 ∧ els K n (opn K n) < 0 := by
  simpa [rtF] using h
theorem rt_6 {K : Int → Int} {n u v : Int} (h : rtF K n 6 u v = true) : u = 0 ∧ v = 0 ∧ 0 ≤ opn K n := by
  simpa [rtF] using h
theorem rt_7 {K : Int → Int} {n u v : Int} (h : rtF K n 7 u v = true) : 1 ≤ u ∧ u ≤ opw K n ∧ v = 0 := by
  simpa [rtF] using h
theorem rt_8 {K : Int → Int} {n u v : Int} (h : rtF K n 8 u v = true) : u = 0 ∧ v = 0 := by
  simpa [rtF] using h
theorem opP_iff {K : Int → Int} {n q : Nat} (sv : SV K n) (hq : q < n) : opP K n q = true ↔ q ∈ stk K n := by
  rw [mem_iff sv (Nat.le_refl _)]
  unfold opP
  simp only [Bool.and_eq_true, decide_eq_true_eq]
  have := clo_le (K := K) (n := n) (p := q) (by omega)
  constructor
  · rintro ⟨h1, h2⟩
    exact ⟨hq, h1, by omega⟩
  · rintro ⟨h1, h2, h3⟩
    exact ⟨h2, by omega⟩
theorem opn_hd {K : Int → Int} {n : Nat} (sv : SV K n) : opn K n = hdI (stk K n) := by
  unfold opn
  rw [Int.toNat_natCast]
  exact lastP_hd (stk_desc n) (fun q hq => opP_iff sv hq) (fun q hq => stk_lt hq)
theorem opc_len {K : Int → Int} {n : Nat} (sv : SV K n) : opc K n = (stk K n).length := by
  unfold opc
  rw [Int.toNat_natCast]
  exact cnt_len (stk_desc n) (fun q hq => opP_iff sv hq) (fun q hq => stk_lt hq)
def whl (K : Int → Int) (l : List Nat) : List Nat := l.filter (fun b => decide (K b = 5))
theorem opw_len {K : Int → Int} {n : Nat} (sv : SV K n) : opw K n = (whl K (stk K n)).length := by
  unfold opw
  rw [Int.toNat_natCast]
  refine cnt_len ((stk_desc n).sublist (List.filter_sublist)) (fun q hq => ?_) (fun q hq => stk_lt (List.mem_filter.mp hq).1)
  unfold opW
  rw [Bool.and_eq_true, opP_iff sv hq]
  unfold whl
  rw [List.mem_filter]
theorem dpt_len {K : Int → Int} {n p : Nat} (sv : SV K n) (hp : p ≤ n) : dpt K n p = (stk K p).length := by
  unfold dpt
  rw [Int.toNat_natCast]
  refine cnt_len (stk_desc p) (fun q hq => ?_) (fun q hq => stk_lt hq)
  rw [mem_iff sv hp]
  simp only [Bool.and_eq_true, decide_eq_true_eq]
  constructor
  · rintro ⟨h1, h2⟩
    exact ⟨hq, h1, h2⟩
  · rintro ⟨h1, h2, h3⟩
    exact ⟨h2, h3⟩
theorem SV_le {K : Int → Int} {n m : Nat} (sv : SV K n) (h : m ≤ n) : SV K m := fun q hq k => sv q (by omega) k
theorem WF_le {K X E : Int → Int} {n m : Nat} (w : WF K X E n) (h : m ≤ n) : WF K X E m := fun q hq => w q (by omega)
theorem hdI_nn {l : List Nat} (h : 0 ≤ hdI l) : ∃ a t, l = a :: t ∧ hdI l = (a : Int) := by
  cases l with
  | nil => exact absurd h (by decide)
  | cons a t => exact ⟨a, t, rfl, rfl⟩
theorem WF_SV {K X E : Int → Int} {n : Nat} (w : WF K X E n) : SV K n := by
  induction n with
  | zero => intro q hq; omega
  | succ n ih =>
    have ih := ih (WF_le w (by omega))
    intro q hq k6
    by_cases e : q = n
    · subst e
      have h := (w q hq).2
      rw [k6] at h
      have h := (rt_6 h).2.2
      rw [opn_hd ih] at h
      obtain ⟨a, t, e, -⟩ := hdI_nn h
      rw [e]; simp
    · exact ih q (by omega) k6
theorem clo_eq {K : Int → Int} {m r b : Nat} (sv : SV K m) (hr : r < m) (k6 : K r = 6) (hs : stk K r = b :: stk K b) : clo K m b = r := by
  have hb : b ∈ stk K r := by rw [hs]; exact List.mem_cons_self
  have h1 := (mem_iff sv (by omega)).mp hb
  have hn : ¬ b ∈ stk K (r + 1) := by
    rw [stk_6 k6, hs]
    intro q
    have := stk_lt (show b ∈ stk K b from q)
    omega
  rw [mem_iff sv (by omega)] at hn
  by_cases h : ((r + 1 : Nat) : Int) ≤ clo K m b
  · exact absurd ⟨by omega, h1.2.1, h⟩ hn
  · omega
theorem clo_open {K : Int → Int} {m b : Nat} (sv : SV K m) (h : b ∈ stk K m) : clo K m b = m := by
  have h1 := (mem_iff sv (Nat.le_refl _)).mp h
  have := clo_le (K := K) (n := m) (p := b) (by omega)
  omega
theorem elF_stk {K : Int → Int} {n c : Nat} (sv : SV K n) (hc : c ≤ n) (L : Int) : ∀ (f q : Nat), c - q = f → q ≤ c → (∃ r : Nat, elF K c f q ((stk K q).length - L) = r ∧ q ≤ r ∧ r < c ∧ (K r = 4 ∧ ((stk K r).length : Int) = L + 1) ∧ ∀ r' : Nat, q ≤ r' → r' < r → ¬ (K r' = 4 ∧ ((stk K r').length : Int) = L + 1)) ∨ (elF K c f q ((stk K q).length - L) = -1 ∧ ∀ r' : Nat, q ≤ r' → r' < c → ¬ (K r' = 4 ∧ ((stk K r').length : Int) = L + 1))
  | 0, q, hf, hq => Or.inr ⟨rfl, fun r' h1 h2 => by omega⟩
  | f + 1, q, hf, hq => by
    have hl := stk_len sv (show q < n by omega)
    have e4 : K q = 4 → wgt (K q) = 0 := fun e => by rw [e]; decide
    unfold elF
    rw [if_pos (show (q : Int) < c by omega)]
    by_cases e : ((stk K q).length : Int) - L + wgt (K q) = 1 ∧ K q = 4
    · rw [if_pos e]
      have := e4 e.2
      exact Or.inl ⟨q, rfl, by omega, by omega, ⟨e.2, by omega⟩, fun r' h1 h2 => by omega⟩
    · rw [if_neg e]
      have hn : ¬ (K q = 4 ∧ ((stk K q).length : Int) = L + 1) := by
        rintro ⟨a, b⟩
        have := e4 a
        exact e ⟨by omega, a⟩
      have ih := elF_stk sv hc L f (q + 1) (by omega) (by omega)
      rw [hl, show ((stk K q).length : Int) + wgt (K q) - L = ((stk K q).length : Int) - L + wgt (K q) by omega, show ((q + 1 : Nat) : Int) = (q : Int) + 1 by omega] at ih
      rcases ih with ⟨r, e1, e2, e3, e5, e6⟩ | ⟨e1, e2⟩
      · refine Or.inl ⟨r, e1, by omega, e3, e5, fun r' h1 h2 => ?_⟩
        by_cases hr : r' = q
        · rw [hr]; exact hn
        · exact e6 r' (by omega) h2
      · refine Or.inr ⟨e1, fun r' h1 h2 => ?_⟩
        by_cases hr : r' = q
        · rw [hr]; exact hn
        · exact e2 r' (by omega) h2
theorem els_stk {K : Int → Int} {n p : Nat} (sv : SV K n) (hp : p < n) (hb : bgn (K p) = true) : (∃ r : Nat, els K n p = r ∧ p < r ∧ (r : Int) < clo K n p ∧ (K r = 4 ∧ stk K r = p :: stk K p) ∧ ∀ r' : Nat, p < r' → r' < r → ¬ (K r' = 4 ∧ stk K r' = p :: stk K p)) ∨ (els K n p = -1 ∧ ∀ r' : Nat, p < r' → (r' : Int) < clo K n p → ¬ (K r' = 4 ∧ stk K r' = p :: stk K p)) := by
  obtain ⟨c, e1, e2, e3, e4, e5⟩ := clo_stk sv hp hb
  have hL : ∀ r : Nat, p < r → r ≤ c → (((stk K r).length : Int) = (stk K p).length + 1 ↔ stk K r = p :: stk K p) := by
    intro r h1 h2
    obtain ⟨l, hl⟩ := stk_suf (e4 r h1 h2)
    constructor
    · intro h
      rw [hl] at h ⊢
      simp only [List.length_append, List.length_cons] at h
      have : l.length = 0 := by omega
      rw [List.eq_nil_of_length_eq_zero this]
      rfl
    · intro h
      rw [h]; simp
  have hp4 : ¬ K p = 4 := fun e => bgn_4 e hb
  have hE : els K n p = elF K c (c - p) p ((stk K p).length - (stk K p).length) := by
    unfold els
    rw [e1]
    congr 1 <;> omega
  rw [hE, e1]
  rcases elF_stk sv e3 ((stk K p).length) (c - p) p rfl (by omega) with ⟨r, f1, f2, f3, f4, f5⟩ | ⟨f1, f2⟩
  · have hr : p < r := by
      by_cases e : r = p
      · rw [e] at f4; exact absurd f4.1 hp4
      · omega
    refine Or.inl ⟨r, f1, hr, by omega, ⟨f4.1, (hL r hr (by omega)).mp f4.2⟩, fun r' h1 h2 h3 => f5 r' (by omega) h2 ⟨h3.1, (hL r' h1 (by omega)).mpr h3.2⟩⟩
  · exact Or.inr ⟨f1, fun r' h1 h2 h3 => f2 r' (by omega) (by omega) ⟨h3.1, (hL r' h1 (by omega)).mpr h3.2⟩⟩
theorem lastP_one {P : Int → Bool} {m b : Nat} (hb : b < m) (hm : ∀ q : Nat, q < m → (P q = true ↔ q = b)) : lastP P m m 0 (-1) = b := by
  refine lastP_hd (l := [b]) (List.pairwise_singleton _ _) (fun q hq => ?_) (fun q hq => ?_)
  · rw [hm q hq]; simp
  · have : q = b := by simpa using hq
    omega
/-- of a CLOSE -/
theorem bgo_6 {K : Int → Int} {n p b : Nat} {t : List Nat} (sv : SV K n) (hp : p < n) (k6 : K p = 6) (hs : stk K p = b :: t) : bgo K n p = b ∧ clo K n b = p ∧ b < p ∧ bgn (K b) = true := by
  have ht := stk_hd hs
  rw [ht] at hs
  have hb : b ∈ stk K p := by rw [hs]; exact List.mem_cons_self
  have hc := clo_eq sv hp k6 hs
  refine ⟨?_, hc, stk_lt hb, stk_bgn hb⟩
  unfold bgo
  rw [Int.toNat_natCast]
  refine lastP_one (stk_lt hb) (fun q hq => ?_)
  simp only [Bool.and_eq_true, Bool.or_eq_true, decide_eq_true_eq]
  constructor
  · rintro ⟨h1, h2 | h2⟩
    · obtain ⟨c, e1, e2, e3, e4, e5⟩ := clo_stk sv (by omega : q < n) h1
      have : c = p := by omega
      subst this
      have := (e5 hp).2
      rw [hs] at this
      exact (List.cons.inj this).1.symm
    · rcases els_stk sv (by omega : q < n) h1 with ⟨r, e1, e2, e3, e4, e5⟩ | ⟨e1, -⟩
      · have : r = p := by omega
        subst this
        rw [k6] at e4
        exact absurd e4.1 (by decide)
      · omega
  · intro e
    rw [e]
    exact ⟨stk_bgn hb, Or.inl hc⟩
/-- of an ELSE that is right -/
theorem bgo_4 {K : Int → Int} {n p b : Nat} {t : List Nat} (sv : SV K n) (hp : p < n) (k4 : K p = 4) (hs : stk K p = b :: t) (ne : els K p b < 0) : bgo K n p = b ∧ els K n b = p ∧ b < p ∧ bgn (K b) = true ∧ (p : Int) < clo K n b := by
  have ht := stk_hd hs
  rw [ht] at hs
  have hb : b ∈ stk K p := by rw [hs]; exact List.mem_cons_self
  have hbp := stk_lt hb
  have svp := SV_le sv (show p ≤ n by omega)
  have hcp := clo_open svp hb
  have hno : ∀ r' : Nat, b < r' → r' < p → ¬ (K r' = 4 ∧ stk K r' = b :: stk K b) := by
    rcases els_stk svp hbp (stk_bgn hb) with ⟨r, e1, e2, e3, e4, e5⟩ | ⟨e1, e2⟩
    · omega
    · exact fun r' h1 h2 => e2 r' h1 (by omega)
  have hcn : (p : Int) < clo K n b := by
    have h1 := (mem_iff sv (by omega : p ≤ n)).mp hb
    obtain ⟨c, e1, e2, e3, e4, e5⟩ := clo_stk sv (by omega : b < n) (stk_bgn hb)
    by_cases e : c = p
    · subst e
      have := (e5 hp).1
      rw [k4] at this
      exact absurd this (by decide)
    · omega
  have he : els K n b = p := by
    rcases els_stk sv (by omega : b < n) (stk_bgn hb) with ⟨r, e1, e2, e3, e4, e5⟩ | ⟨e1, e2⟩
    · rw [e1]
      rcases Nat.lt_trichotomy r p with h | h | h
      · exact absurd e4 (hno r e2 h)
      · rw [h]
      · exact absurd ⟨k4, hs⟩ (e5 p hbp h)
    · exact absurd ⟨k4, hs⟩ (e2 p hbp hcn)
  refine ⟨?_, he, hbp, stk_bgn hb, hcn⟩
  unfold bgo
  rw [Int.toNat_natCast]
  refine lastP_one hbp (fun q hq => ?_)
  simp only [Bool.and_eq_true, Bool.or_eq_true, decide_eq_true_eq]
  constructor
  · rintro ⟨h1, h2 | h2⟩
    · obtain ⟨c, e1, e2, e3, e4, e5⟩ := clo_stk sv (by omega : q < n) h1
      have : c = p := by omega
      subst this
      have := (e5 hp).1
      rw [k4] at this
      exact absurd this (by decide)
    · rcases els_stk sv (by omega : q < n) h1 with ⟨r, e1, e2, e3, e4, e5⟩ | ⟨e1, -⟩
      · have : r = p := by omega
        subst this
        have := e4.2
        rw [hs] at this
        exact (List.cons.inj this).1.symm
      · omega
  · intro e
    rw [e]
    exact ⟨stk_bgn hb, Or.inr he⟩
/-- ELSE and CLOSE in a right program -/
theorem WF_46 {K X E : Int → Int} {n p : Nat} (w : WF K X E n) (hp : p < n) (h : K p = 4 ∨ K p = 6) : ∃ b : Nat, stk K p = b :: stk K b ∧ bgo K n p = b ∧ b < p ∧ bgn (K b) = true ∧ (K p = 6 → clo K n b = p) ∧ (K p = 4 → K b = 3 ∧ els K n b = p ∧ (p : Int) < clo K n b) := by
  have sv := WF_SV w
  have svp := SV_le sv (show p ≤ n by omega)
  have r := (w p hp).2
  rcases h with h | h
  · rw [h] at r
    obtain ⟨-, -, r1, r2, r3⟩ := rt_4 r
    rw [opn_hd svp] at r1 r2 r3
    obtain ⟨b, t, hs, e⟩ := hdI_nn r1
    rw [e] at r2 r3
    obtain ⟨g1, g2, g3, g4, g5⟩ := bgo_4 sv hp h hs r3
    refine ⟨b, by rw [hs, stk_hd hs], g1, g3, g4, fun q => ?_, fun _ => ⟨r2, g2, g5⟩⟩
    rw [h] at q
    exact absurd q (by decide)
  · rw [h] at r
    obtain ⟨-, -, r1⟩ := rt_6 r
    rw [opn_hd svp] at r1
    obtain ⟨b, t, hs, e⟩ := hdI_nn r1
    obtain ⟨g1, g2, g3, g4⟩ := bgo_6 sv hp h hs
    refine ⟨b, by rw [hs, stk_hd hs], g1, g3, g4, fun _ => g2, fun q => ?_⟩
    rw [h] at q
    exact absurd q (by decide)
theorem WF_WFb {K X E : Int → Int} {n : Nat} (w : WF K X E n) : WFb K n := by
  intro q q0 q1 h
  obtain ⟨p, rfl⟩ : ∃ p : Nat, q = (p : Int) := ⟨q.toNat, by omega⟩
  obtain ⟨b, h1, h2, h3, h4, h5, h6⟩ := WF_46 w (by omega) h
  rw [h2]
  refine ⟨by omega, by omega, fun k => ?_⟩
  have := (h6 k).2.2
  omega
