/-! ===== a cut program is right ===== -/
theorem whl_nil {K : Int → Int} : whl K [] = [] := rfl
theorem whl_t {K : Int → Int} {b : Nat} {t : List Nat} (h : K b = 5) : whl K (b :: t) = b :: whl K t := by unfold whl; rw [List.filter_cons, if_pos (by simpa using h)]
theorem whl_f {K : Int → Int} {b : Nat} {t : List Nat} (h : ¬ K b = 5) : whl K (b :: t) = whl K t := by unfold whl; rw [List.filter_cons, if_neg (by simpa using h)]
theorem wcF_min {K : Int → Int} {A : Nat → Bool} {most : Int} : ∀ (l : List Nat) (m k : Int), (∀ b, b ∈ l → K b = 5 → A b = true) → m ≤ most → wcF K A most l m k = k + min (most - m) ((whl K l).length : Int)
  | [], m, k, _, hm => by
    rw [whl_nil]
    show k = _
    simp only [List.length_nil]
    omega
  | b :: t, m, k, hA, hm => by
    unfold wcF
    by_cases c : m < most
    · rw [if_pos c]
      by_cases h5 : K b = 5
      · rw [if_pos h5, if_pos (hA b List.mem_cons_self h5), wcF_min t (m + 1) (k + 1) (fun x hx => hA x (List.mem_cons_of_mem _ hx)) (by omega), whl_t h5, List.length_cons]
        omega
      · rw [if_neg h5, wcF_min t m k (fun x hx => hA x (List.mem_cons_of_mem _ hx)) hm, whl_f h5]
    · rw [if_neg c]; omega
theorem lvF_min {K : Int → Int} {n p : Nat} {F : Int → Int} (sv : SV K n) (hp : p < n) (k6 : ¬ K p = 6) (hF : ∀ q : Nat, q ∈ stk K p → K q = 5 → 0 ≤ F q) : ∀ (f : Nat) (l : List Nat) (x c : Int), f ≤ p → l.Pairwise (fun a b => b < a) → (∀ q, q < f → (q ∈ l ↔ q ∈ stk K p)) → (∀ q, q ∈ l → q < f) → 0 ≤ x → lvF K n p F f ((f : Int) - 1) x c = c + min x ((whl K l).length : Int)
  | 0, l, x, c, _, _, _, hl, hx => by
    cases l with
    | nil =>
      rw [whl_nil]
      show c = _
      simp only [List.length_nil]
      omega
    | cons a t => have := hl a List.mem_cons_self; omega
  | f + 1, l, x, c, hf, hd, hm, hl, hx => by
    unfold lvF
    rw [show ((f + 1 : Nat) : Int) - 1 = (f : Int) by omega, show (f : Int) + -1 = (f : Int) - 1 by omega]
    by_cases x0 : 0 < x
    · rw [if_pos ⟨by omega, x0⟩]
      by_cases hfl : f ∈ l
      · have hfs := (hm f (by omega)).mp hfl
        have h1 := (mem_iff sv (show p ≤ n by omega)).mp hfs
        have hlt : (p : Int) < clo K n f := by
          obtain ⟨c, e1, e2, e3, e4, e5⟩ := clo_stk sv (show f < n by omega) h1.2.1
          by_cases e : c = p
          · subst e; exact absurd (e5 hp).1 k6
          · omega
        cases l with
        | nil => cases hfl
        | cons a t =>
          have hd2 := List.pairwise_cons.mp hd
          have ea : a = f := by
            rcases List.mem_cons.mp hfl with e | e
            · exact e.symm
            · have := hd2.1 f e
              have := hl a List.mem_cons_self
              omega
          subst ea
          have ih := fun x c => lvF_min sv hp k6 hF a t x c (by omega) hd2.2 (fun q hq => by
            rw [← hm q (by omega)]
            have : ¬ q = a := by omega
            simp [this]) (fun q hq => hd2.1 q hq)
          by_cases h5 : K a = 5
          · rw [if_pos ⟨h5, hlt⟩, if_pos (hF a hfs h5), ih _ _ (by omega), whl_t h5, List.length_cons]
            omega
          · rw [if_neg (fun z => h5 z.1), ih _ _ hx, whl_f h5]
      · have hns : ¬ f ∈ stk K p := fun q => hfl ((hm f (by omega)).mpr q)
        have hc : ¬ (K f = 5 ∧ (p : Int) < clo K n f) := by
          rintro ⟨h5, hlt⟩
          apply hns
          rw [mem_iff sv (show p ≤ n by omega)]
          exact ⟨by omega, by rw [h5]; decide, by omega⟩
        rw [if_neg hc]
        exact lvF_min sv hp k6 hF f l x c (by omega) hd (fun q hq => hm q (by omega)) (fun q hq => by
          have := hl q hq
          have : ¬ q = f := fun e => hfl (e ▸ hq)
          omega) hx
    · rw [if_neg (fun z => x0 z.2)]
      have : (0 : Int) ≤ ((whl K l).length : Int) := by omega
      omega
/-- a choice of lines that a cut may keep -/
def CC (K : Int → Int) (n : Nat) (P : Nat → Bool) : Prop := (∀ p b : Nat, p < n → (K p = 4 ∨ K p = 6) → stk K p = b :: stk K b → P p = P b) ∧ ∀ l b : Nat, stm K n l = true → P l = true → b ∈ stk K l → K b = 5 → P b = true
theorem ck_sur {P : Nat → Bool} : ∀ (q r : Nat), r < ck P q → ∃ p, p < q ∧ P p = true ∧ ck P p = r
  | 0, r, h => by exact absurd h (by show ¬ r < 0; omega)
  | q + 1, r, h => by
    cases e : P q with
    | true =>
      rw [ck_t e] at h
      by_cases z : r = ck P q
      · exact ⟨q, by omega, e, z.symm⟩
      · obtain ⟨p, a, b, c⟩ := ck_sur (P := P) q r (by omega)
        exact ⟨p, by omega, b, c⟩
    | false =>
      rw [ck_f e] at h
      obtain ⟨p, a, b, c⟩ := ck_sur (P := P) q r h
      exact ⟨p, by omega, b, c⟩
theorem ck_inj {P : Nat → Bool} {p q : Nat} (hp : P p = true) (hq : P q = true) (e : ck P p = ck P q) : p = q := by
  rcases Nat.lt_trichotomy p q with z | z | z
  · have := ck_lt hp z; omega
  · exact z
  · have := ck_lt hq z; omega
theorem fil_t {P : Nat → Bool} {b : Nat} {t : List Nat} (h : P b = true) : (b :: t).filter P = b :: t.filter P := by rw [List.filter_cons, if_pos h]
theorem fil_f {P : Nat → Bool} {b : Nat} {t : List Nat} (h : P b = false) : (b :: t).filter P = t.filter P := by rw [List.filter_cons, if_neg (by rw [h]; decide)]
theorem cut_stk {K X E K2 : Int → Int} {n : Nat} {P : Nat → Bool} (w : WF K X E n) (cc : CC K n P) : ∀ q : Nat, q ≤ n → (∀ p : Nat, p < q → P p = true → K2 (ck P p) = K p) → stk K2 (ck P q) = ((stk K q).filter P).map (ck P)
  | 0, _, _ => rfl
  | q + 1, hq, hk => by
    have ih := cut_stk w cc q (by omega) (fun p hp => hk p (by omega))
    have h6 : K q = 6 → ∃ b : Nat, stk K q = b :: stk K b ∧ P q = P b := fun k6 => by
      obtain ⟨b, g1, -⟩ := WF_46 w (show q < n by omega) (Or.inr k6)
      exact ⟨b, g1, cc.1 q b (by omega) (Or.inr k6) g1⟩
    cases e : P q with
    | true =>
      have ek := hk q (by omega) e
      rw [ck_t e]
      by_cases hb : bgn (K q) = true
      · rw [stk_b (K := K2) (by rw [ek]; exact hb), stk_b hb, fil_t e, List.map_cons, ih]
      · by_cases k6 : K q = 6
        · obtain ⟨b, g1, g2⟩ := h6 k6
          rw [e] at g2
          rw [stk_6 (K := K2) (by rw [ek]; exact k6), stk_6 k6, ih, g1, fil_t g2.symm, List.map_cons, List.tail_cons, List.tail_cons]
        · rw [stk_o (K := K2) (by rw [ek]; exact hb) (by rw [ek]; exact k6), stk_o hb k6, ih]
    | false =>
      rw [ck_f e, ih]
      by_cases hb : bgn (K q) = true
      · rw [stk_b hb, fil_f e]
      · by_cases k6 : K q = 6
        · obtain ⟨b, g1, g2⟩ := h6 k6
          rw [e] at g2
          rw [stk_6 k6, g1, fil_f g2.symm, List.tail_cons]
        · rw [stk_o hb k6]
theorem cut_SV {K X E K2 : Int → Int} {n q : Nat} {P : Nat → Bool} (w : WF K X E n) (cc : CC K n P) (hq : q ≤ n) (hk : ∀ p : Nat, p < q → P p = true → K2 (ck P p) = K p) : SV K2 (ck P q) := by
  intro r hr k6
  obtain ⟨p, a, b, rfl⟩ := ck_sur q r hr
  rw [hk p a b] at k6
  obtain ⟨c, g1, -⟩ := WF_46 w (show p < n by omega) (Or.inr k6)
  have := cc.1 p c (by omega) (Or.inr k6) g1
  rw [b] at this
  rw [cut_stk w cc p (by omega) (fun p2 h2 => hk p2 (by omega)), g1, fil_t this.symm, List.map_cons]
  exact List.cons_ne_nil _ _
theorem cut_whl {K K2 : Int → Int} {P : Nat → Bool} : ∀ l : List Nat, (∀ b, b ∈ l → (P b = true → K2 (ck P b) = K b) ∧ (K b = 5 → P b = true)) → (whl K2 ((l.filter P).map (ck P))).length = (whl K l).length
  | [], _ => rfl
  | b :: t, h => by
    have ih := cut_whl t (fun x hx => h x (List.mem_cons_of_mem _ hx))
    obtain ⟨h1, h2⟩ := h b List.mem_cons_self
    by_cases h5 : K b = 5
    · rw [fil_t (h2 h5), List.map_cons, whl_t (by rw [h1 (h2 h5)]; exact h5), whl_t h5, List.length_cons, List.length_cons, ih]
    · rw [whl_f h5]
      cases e : P b with
      | true => rw [fil_t e, List.map_cons, whl_f (by rw [h1 e]; exact h5), ih]
      | false => rw [fil_f e, ih]
theorem cut_rt {K X E K2 : Int → Int} {n q : Nat} {P : Nat → Bool} (w : WF K X E n) (cc : CC K n P) (hq : q < n) (hk : ∀ p : Nat, p < q → P p = true → K2 (ck P p) = K p) (hP : P q = true) : rtF K2 (ck P q) (K q) (X q) (E q) = true := by
  have sv := SV_le (WF_SV w) (show q ≤ n by omega)
  have sv2 := cut_SV w cc (show q ≤ n by omega) hk
  have es := cut_stk w cc q (by omega) hk
  obtain ⟨kr, r⟩ := w q hq
  have k9 : K q = 0 ∨ K q = 1 ∨ K q = 2 ∨ K q = 3 ∨ K q = 4 ∨ K q = 5 ∨ K q = 6 ∨ K q = 7 ∨ K q = 8 := by omega
  have len : opc K2 (ck P q) ≤ opc K q := by
    rw [opc_len sv2, opc_len sv, es, List.length_map]
    have := List.length_filter_le P (stk K q)
    omega
  rcases k9 with k | k | k | k | k | k | k | k | k
  · rw [k] at r ⊢
    exact r
  · rw [k] at r ⊢
    exact r
  · rw [k] at r ⊢
    exact r
  · rw [k] at r ⊢
    obtain ⟨a, b, c⟩ := rt_3 r
    simp [rtF, a, b]
    omega
  · rw [k] at r ⊢
    obtain ⟨a, b, c, d, f⟩ := rt_4 r
    obtain ⟨b0, g1, g2, g3, g4, -, g6⟩ := WF_46 w hq (Or.inl k)
    have pb := cc.1 q b0 hq (Or.inl k) g1
    rw [hP] at pb
    have e1 : opn K q = b0 := by rw [opn_hd sv, g1]; rfl
    have e2 : opn K2 (ck P q) = (ck P b0 : Nat) := by rw [opn_hd sv2, es, g1, fil_t pb.symm]; rfl
    rw [e1] at d f
    have kb := hk b0 g3 pb.symm
    have lt := ck_lt pb.symm g3
    have ne : els K2 (ck P q) (ck P b0 : Nat) < 0 := by
      rcases els_stk sv2 lt (by rw [kb]; exact g4) with ⟨r, f1, f2, f3, ⟨f4, f5⟩, -⟩ | ⟨f1, -⟩
      · exfalso
        have rl : r < ck P q := by
          have := clo_le (K := K2) (n := (ck P q : Nat)) (p := (ck P b0 : Nat)) (by omega)
          omega
        obtain ⟨r0, a1, a2, rfl⟩ := ck_sur q r rl
        rw [hk r0 a1 a2] at f4
        obtain ⟨b1, l1, -, l3, -⟩ := WF_46 w (show r0 < n by omega) (Or.inl f4)
        have pb1 := cc.1 r0 b1 (by omega) (Or.inl f4) l1
        rw [a2] at pb1
        rw [cut_stk w cc r0 (by omega) (fun p2 h2 => hk p2 (by omega)), l1, fil_t pb1.symm, List.map_cons] at f5
        have := ck_inj pb1.symm pb.symm (List.cons.inj f5).1
        subst this
        rcases els_stk sv g3 g4 with ⟨r, f1, -⟩ | ⟨-, f2⟩
        · omega
        · refine f2 r0 l3 ?_ ⟨f4, l1⟩
          rw [clo_open sv (by rw [g1]; exact List.mem_cons_self)]
          omega
      · omega
    simp [rtF, a, b, e2, kb, d, ne]
  · rw [k] at r ⊢
    obtain ⟨a, b, c⟩ := rt_5 r
    simp [rtF, a, b]
    omega
  · rw [k] at r ⊢
    obtain ⟨a, b, c⟩ := rt_6 r
    obtain ⟨b0, g1, -⟩ := WF_46 w hq (Or.inr k)
    have pb := cc.1 q b0 hq (Or.inr k) g1
    rw [hP] at pb
    have e2 : opn K2 (ck P q) = (ck P b0 : Nat) := by rw [opn_hd sv2, es, g1, fil_t pb.symm]; rfl
    simp [rtF, a, b, e2]
  · have ew : opw K2 (ck P q) = opw K q := by
      rw [opw_len sv2, opw_len sv, es, cut_whl]
      intro b hb
      have bl := stk_lt hb
      exact ⟨fun pb => hk b bl pb, fun k5 => cc.2 q b (stm_i (by omega) (by omega) (by rw [k]; decide) (by rw [k]; decide)) hP hb k5⟩
    rw [k] at r ⊢
    obtain ⟨a, b, c⟩ := rt_7 r
    simp [rtF, c, ew]
    omega
  · rw [k] at r ⊢
    exact r
theorem cut_WF {K X E K2 X2 E2 : Int → Int} {n : Nat} {P : Nat → Bool} (w : WF K X E n) (cc : CC K n P) (hk : ∀ p : Nat, p < n → P p = true → K2 (ck P p) = K p ∧ X2 (ck P p) = X p ∧ E2 (ck P p) = E p) : WF K2 X2 E2 (ck P n) := by
  intro r hr
  obtain ⟨p, a, b, rfl⟩ := ck_sur n r hr
  obtain ⟨e1, e2, e3⟩ := hk p a b
  rw [e1, e2, e3]
  exact ⟨(w p a).1, cut_rt w cc a (fun p2 h2 hp2 => (hk p2 (by omega) hp2).1) b⟩
/-- the slice's choice -/
theorem slice_CC {K X E : Int → Int} {n s : Nat} (w : WF K X E n) (hw : stk K n = []) (n60 : n ≤ 60) {P : Nat → Bool} (h1 : ∀ p : Nat, stm K n p = true → (P p = true ↔ Sl K X E n s p)) (h2 : ∀ p b : Nat, p < n → (K p = 4 ∨ K p = 6) → stk K p = b :: stk K b → P p = P b) : CC K n P := by
  refine ⟨h2, fun l b hl pl hb k5 => ?_⟩
  have sb : stm K n b = true := stm_i (by omega) (by have := stk_lt hb; have := stm_lt hl; omega) (by rw [k5]; decide) (by rw [k5]; decide)
  exact (h1 b sb).mpr (LF_tr ((h1 l hl).mp pl) (while_sl w hw n60 k5 l hl hb))
theorem xx_X {K X E : Int → Int} {n : Nat} {P : Nat → Bool} {F : Nat → Int} (w : WF K X E n) (cc : CC K n P) (hF : ∀ p : Nat, stm K n p = true → P p = true → 0 ≤ F p) {q : Nat} (hq : q < n) (hP : P q = true) : xxF K X n F q = X q := by
  unfold xxF
  by_cases k7 : K q = 7
  · rw [if_pos k7]
    have sv := WF_SV w
    have stq : stm K n q = true := stm_i (by omega) (by omega) (by rw [k7]; decide) (by rw [k7]; decide)
    have r := (w q hq).2
    rw [k7] at r
    obtain ⟨a, b, -⟩ := rt_7 r
    rw [opw_len (SV_le sv (show q ≤ n by omega))] at b
    rw [lvF_min (F := fun r => F r.toNat) sv hq (by omega) (fun b hb k5 => by
      rw [Int.toNat_natCast]
      have sb : stm K n b = true := stm_i (by omega) (by have := stk_lt hb; omega) (by rw [k5]; decide) (by rw [k5]; decide)
      exact hF b sb (cc.2 q b stq hP hb k5)) q (stk K q) (X q) 0 (Nat.le_refl _) (stk_desc q) (fun b hb => Iff.rfl) (fun b hb => stk_lt hb) (by omega)]
    omega
  · rw [if_neg k7]
