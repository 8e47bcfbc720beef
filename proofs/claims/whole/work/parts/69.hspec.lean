/-! ===== the class's rows say what the document has ===== -/
theorem e60_n {v : Int} {q : Nat} (hq : q < 60) (h : v = 60 ∨ ∃ r : Nat, v = r ∧ r < 60) : e60 v = q ↔ v = q := by
  unfold e60
  rcases h with e | ⟨r, e, hr⟩
  · rw [if_pos e]; omega
  · rw [if_neg (by omega)]
theorem e60_m {v : Int} (h : v = 60 ∨ ∃ r : Nat, v = r ∧ r < 60) : e60 v = -1 ↔ v = 60 := by
  unfold e60
  rcases h with e | ⟨r, e, hr⟩
  · rw [if_pos e]; omega
  · rw [if_neg (by omega)]; omega
theorem nb_get {v : Int} {i : Nat} (v1 : v < 64) : (nb v).getLsbD i = true ↔ v = i := by
  unfold nb
  by_cases v0 : 0 ≤ v
  · rw [if_pos v0, bit1_get v0 v1, decide_eq_true_eq]
    omega
  · rw [if_neg v0, bz]
    constructor
    · intro h; cases h
    · intro h; omega
theorem stm_lt {K : Int → Int} {n q : Nat} (h : stm K n q = true) : q < n := by have := (stm_n h).1; omega
/-- the next lines of a statement -/
theorem nx_wy {c : Nat} {h : Hp} {n : Nat} (pi : PI c h n) (hw : stk (cK c h) n = []) (wo : WO c h n) {q u : Nat} (hq : stm (cK c h) n q = true) : (hL h (c + 15) q).getLsbD u = true ↔ u < 60 ∧ wy (yes_ (cK c h) (cX c h) n) (no_ (cK c h) n) q u := by
  have wf := PI_wf pi
  have n60 := PI_60 pi
  obtain ⟨t1, t2, -⟩ := way_to wf hw hq
  have r := (wo.2.2 q (stm_lt hq)).2.2.2
  have y60 : yes_ (cK c h) (cX c h) n q = 60 ∨ ∃ r : Nat, yes_ (cK c h) (cX c h) n q = r ∧ r < 60 := by
    rcases t1 with e | ⟨z, e, e2⟩
    · exact Or.inl e
    · exact Or.inr ⟨z, e, by have := stm_lt e2; omega⟩
  have eA := gA_y (X := cX c h) hq
  have lA : gA (cK c h) (cX c h) n q < 64 := by rw [eA]; unfold e60; rcases y60 with e | ⟨z, e, e2⟩ <;> split <;> omega
  rw [r, BitVec.getLsbD_or, Bool.or_eq_true]
  unfold wy
  by_cases k : cK c h q = 3 ∨ cK c h q = 5
  · have eS := gS_y wf hq
    rw [if_pos k] at eS
    have z60 : no_ (cK c h) n q = 60 ∨ ∃ r : Nat, no_ (cK c h) n q = r ∧ r < 60 := by
      rcases t2 with e | e | ⟨z, e, e2⟩
      · rw [no_v wf hq k] at e
        have hp := (stm_n hq).1
        have hc := clo_le (K := cK c h) (n := n) (p := q) (by omega)
        have he := els_le (K := cK c h) (n := n) (p := q) (by omega) (by omega)
        have := bhd_le (K := cK c h) (n := n) (p := if 0 ≤ els (cK c h) n q then els (cK c h) n q else clo (cK c h) n q) (by omega) (WF_WFb wf) (by split <;> omega)
        omega
      · exact Or.inl e
      · exact Or.inr ⟨z, e, by have := stm_lt e2; omega⟩
    have lS : gS (cK c h) (cX c h) n q < 64 := by rw [eS]; unfold e60; rcases z60 with e | ⟨z, e, e2⟩ <;> split <;> omega
    rw [nb_get lA, nb_get lS, eA, eS]
    constructor
    · intro hh
      have hu : u < 60 := by
        rcases hh with e | e
        · unfold e60 at e; rcases y60 with z | ⟨z, z1, z2⟩ <;> split at e <;> omega
        · unfold e60 at e; rcases z60 with z | ⟨z, z1, z2⟩ <;> split at e <;> omega
      refine ⟨hu, ?_, by omega⟩
      rcases hh with e | e
      · exact Or.inl ((e60_n hu y60).mp e).symm
      · exact Or.inr ((e60_n hu z60).mp e).symm
    · rintro ⟨hu, e | e, -⟩
      · exact Or.inl ((e60_n hu y60).mpr e.symm)
      · exact Or.inr ((e60_n hu z60).mpr e.symm)
  · have eS := gS_y wf hq
    rw [if_neg k] at eS
    have lS : gS (cK c h) (cX c h) n q < 64 := by rw [eS, ← eA]; exact lA
    rw [nb_get lA, nb_get lS, eA, eS, no_n k]
    constructor
    · intro hh
      have hh : e60 (yes_ (cK c h) (cX c h) n q) = u := hh.elim id id
      have hu : u < 60 := by
        unfold e60 at hh; rcases y60 with z | ⟨z, z1, z2⟩ <;> split at hh <;> omega
      exact ⟨hu, Or.inl ((e60_n hu y60).mp hh).symm, by omega⟩
    · rintro ⟨hu, e | e, e0⟩
      · exact Or.inl ((e60_n hu y60).mpr e.symm)
      · omega
theorem nx_60 {c : Nat} {h : Hp} {n : Nat} (pi : PI c h n) (wo : WO c h n) {q u : Nat} (hq : q < n) (hu : (hL h (c + 15) q).getLsbD u = true) : u < n := by
  have r := wo.2.2 q hq
  have n60 := PI_60 pi
  have wfb := WF_WFb (PI_wf pi)
  have bl : ∀ z : Int, -1 ≤ z → e60 (bhd (cK c h) n z) < n := by
    intro z hz
    have := bhd_le (K := cK c h) (n := n) (p := z) (by omega) wfb hz
    unfold e60; split <;> omega
  have lA : gA (cK c h) (cX c h) n q < n := by
    unfold gA
    have := lcl_le (K := cK c h) (n := n) (p := q) (x := cX c h q) (by omega) (by omega)
    split
    · exact bl _ (by omega)
    · split
      · omega
      · exact bl _ (by omega)
  have lS : gS (cK c h) (cX c h) n q < n := by
    unfold gS
    have hc := clo_le (K := cK c h) (n := n) (p := q) (by omega)
    have he := els_le (K := cK c h) (n := n) (p := q) (by omega) (by omega)
    split
    · exact bl _ (by split <;> omega)
    · exact lA
  rw [r.2.2.2, BitVec.getLsbD_or, Bool.or_eq_true, nb_get (by omega), nb_get (by omega)] at hu
  omega
/-- reached, as the document has it -/
theorem RC_R {c : Nat} {h : Hp} {n : Nat} (pi : PI c h n) (hw : stk (cK c h) n = []) (wo : WO c h n) {t v : Nat} (ht : stm (cK c h) n t = true) (bl : BitVec 64) (B : Int → Prop) (hb : ∀ q : Nat, stm (cK c h) n q = true → (bl.getLsbD q = false ↔ ¬ B q)) : LF (fun u => (hL h (c + 15) t).getLsbD u = true) (fun q u => bl.getLsbD q = false ∧ (hL h (c + 15) q).getLsbD u = true) v ↔ v < 60 ∧ Rch (yes_ (cK c h) (cX c h) n) (no_ (cK c h) n) B t v := by
  have wf := PI_wf pi
  have n60 := PI_60 pi
  have tostm : ∀ q : Nat, stm (cK c h) n q = true → ∀ u : Int, wy (yes_ (cK c h) (cX c h) n) (no_ (cK c h) n) q u → u = 60 ∨ ∃ z : Nat, u = z ∧ stm (cK c h) n z = true := by
    intro q hq u hu
    obtain ⟨t1, t2, -⟩ := way_to wf hw hq
    obtain ⟨e | e, e0⟩ := hu
    · rw [e]; exact t1
    · rw [e] at e0 ⊢
      rcases t2 with z | z
      · omega
      · exact z
  constructor
  · intro hl
    have key := hl (fun v => (stm (cK c h) n v = true) ∧ Rch (yes_ (cK c h) (cX c h) n) (no_ (cK c h) n) B t v) (fun u hu => by
      obtain ⟨h1, h2⟩ := (nx_wy pi hw wo ht).mp hu
      refine ⟨?_, LF_0 h2⟩
      rcases tostm t ht u h2 with e | ⟨z, e, e2⟩
      · omega
      · have : u = z := by omega
        rw [this]; exact e2) (fun q u hq hu => by
      obtain ⟨h1, h2⟩ := (nx_wy pi hw wo hq.1).mp hu.2
      refine ⟨?_, LF_s hq.2 ⟨(hb q hq.1).mp hu.1, h2⟩⟩
      rcases tostm q hq.1 u h2 with e | ⟨z, e, e2⟩
      · omega
      · have : u = z := by omega
        rw [this]; exact e2)
    exact ⟨by have := stm_lt key.1; omega, key.2⟩
  · rintro ⟨hv, hr⟩
    have key := hr (fun w => w = 60 ∨ ∃ z : Nat, w = z ∧ stm (cK c h) n z = true ∧ LF (fun u => (hL h (c + 15) t).getLsbD u = true) (fun q u => bl.getLsbD q = false ∧ (hL h (c + 15) q).getLsbD u = true) z) (fun u hu => by
      rcases tostm t ht u hu with e | ⟨z, e, e2⟩
      · exact Or.inl e
      · refine Or.inr ⟨z, e, e2, LF_0 ?_⟩
        rw [e] at hu
        exact (nx_wy pi hw wo ht).mpr ⟨by have := stm_lt e2; omega, hu⟩) (fun q u hq hu => by
      rcases hq with e | ⟨z, e, e2, e3⟩
      · exfalso
        have hn : ¬ stm (cK c h) n 60 = true := fun s => by have := (stm_n s).1; omega
        have := way_n (X := cX c h) hn
        rw [e] at hu
        obtain ⟨-, a | a, a0⟩ := hu
        · omega
        · omega
      · subst e
        rcases tostm z e2 u hu.2 with e | ⟨y, f, f2⟩
        · exact Or.inl e
        · refine Or.inr ⟨y, f, f2, LF_s e3 ⟨(hb z e2).mpr hu.1, ?_⟩⟩
          have h2 := hu.2
          rw [f] at h2
          exact (nx_wy pi hw wo e2).mpr ⟨by have := stm_lt f2; omega, h2⟩)
    rcases key with e | ⟨z, e, -, e3⟩
    · omega
    · have : v = z := by omega
      rw [this]; exact e3
/-- the names read -/
theorem nmO_eq {v nm : Int} (a : 0 ≤ nm) (b : nm < 8) : nmO v = nm ↔ v = nm := by
  unfold nmO
  split <;> omega
theorem rd_name {k u v nm : Int} (a : 0 ≤ nm) (b : nm < 8) (hu : k = 1 → 0 ≤ u ∧ u < 2147483648) : (decide (nmL k v = nm) || (decide (nmR k v = nm) || decide (nmP k u = nm))) = rdF k u v nm := by
  have e1 : (nmL k v = nm) ↔ (hasE k = true ∧ ¬ shrI v 16 = 8) ∧ andI (shrI v 8) 255 = nm := by
    unfold nmL
    by_cases h : hasE k = true ∧ ¬ shrI v 16 = 8
    · rw [if_pos h, nmO_eq a b]; exact ⟨fun z => ⟨h, z⟩, fun z => z.2⟩
    · rw [if_neg h]; exact ⟨fun z => by omega, fun z => absurd z.1 h⟩
  have e2 : (nmR k v = nm) ↔ (hasE k = true ∧ ¬ shrI v 16 = 0) ∧ andI v 255 = nm := by
    unfold nmR
    by_cases h : hasE k = true ∧ ¬ shrI v 16 = 0
    · rw [if_pos h, nmO_eq a b]; exact ⟨fun z => ⟨h, z⟩, fun z => z.2⟩
    · rw [if_neg h]; exact ⟨fun z => by omega, fun z => absurd z.1 h⟩
  have e3 : (nmP k u = nm) ↔ k = 1 ∧ divI u 4 = nm := by
    unfold nmP
    by_cases h : k = 1
    · rw [if_pos h, nmO_eq a b, shr2 (hu h).1 (hu h).2, div4 (hu h).1 (hu h).2]; exact ⟨fun z => ⟨h, z⟩, fun z => z.2⟩
    · rw [if_neg h]; exact ⟨fun z => by omega, fun z => absurd z.1 h⟩
  rw [Bool.eq_iff_iff]
  unfold rdF
  simp only [Bool.or_eq_true, Bool.and_eq_true, decide_eq_true_eq, e1, e2, e3]
  constructor
  · rintro (⟨⟨h1, h2⟩, h3⟩ | ⟨⟨h1, h2⟩, h3⟩ | h)
    · exact Or.inl ⟨h1, Or.inl ⟨h2, h3⟩⟩
    · exact Or.inl ⟨h1, Or.inr ⟨h2, h3⟩⟩
    · exact Or.inr h
  · rintro (⟨h1, ⟨h2, h3⟩ | ⟨h2, h3⟩⟩ | h)
    · exact Or.inl ⟨⟨h1, h2⟩, h3⟩
    · exact Or.inr (Or.inl ⟨⟨h1, h2⟩, h3⟩)
    · exact Or.inr (Or.inr h)
theorem WF_ex {K X E : Int → Int} {n s : Nat} (w : WF K X E n) (hs : s < n) (hE : hasE (K s) = true) : exF (E s) = true := by
  have r := (w s hs).2
  simp only [hasE, Bool.or_eq_true, decide_eq_true_eq] at hE
  rcases hE with e | e | e | e | e
  all_goals rw [e] at r
  · exact (rt_0 r).2.2
  · exact (rt_1 r).2.2.2
  · exact (rt_2 r).2
  · exact (rt_3 r).2.1
  · exact (rt_5 r).2.1
theorem opd_c {v : Int} (h : opd v = true) : (0 ≤ v ∧ v < 8) ∨ (100 ≤ v ∧ v ≤ 200) := by
  simpa [opd] using h
theorem rd_C {c : Nat} {h : Hp} {n t s : Nat} (pi : PI c h n) (ht : t < n) (hs : s < n) (k : cK c h t = 0 ∨ cK c h t = 1) : rdC c h t s = rdA (cK c h) (cX c h) (cE c h) t s := by
  have wf := PI_wf pi
  unfold rdC rdA
  have rt := (wf t ht).2
  by_cases k0 : cK c h t = 0
  · rw [if_pos k0, if_pos k0, PI_nl pi hs, PI_nr pi hs, PI_np pi hs]
    rw [k0] at rt
    obtain ⟨x0, x1, -⟩ := rt_0 rt
    refine rd_name x0 x1 (fun e => ?_)
    have rs := (wf s hs).2
    rw [e] at rs
    exact ⟨(rt_1 rs).1, (PI_x pi hs).2⟩
  · have k1 : cK c h t = 1 := by omega
    rw [if_neg k0, if_neg k0]
    rw [k1] at rt
    obtain ⟨x0, x1, x2, -⟩ := rt_1 rt
    have xr := (PI_x pi ht).2
    have hd := div4 x0 xr
    have hm := rem4 x0 xr
    rw [hm] at x1
    rw [hd] at x2
    unfold rsF rrF
    rw [and3 x0 xr, shr2 x0 xr, hm, hd]
    have hx := opd_c x2
    cases hE : hasE (cK c h s) with
    | false =>
      have : ¬ ((-1 : Int) = cX c h t % 4) := by omega
      simp [this]
    | true =>
      have ex := WF_ex wf hs hE
      by_cases h8 : shrI (cE c h s) 16 = 8
      · have hop : opd (andI (cE c h s) 255) = true := by
          unfold exF at ex
          simp [h8] at ex
          exact ex.2.2
        have hc := opd_c hop
        generalize andI (cE c h s) 255 = b at *
        generalize andI (shrI (cE c h s) 8) 255 = a at *
        generalize cX c h t / 4 = d at *
        generalize cX c h t % 4 = e at *
        simp only [h8, decide_true, Bool.true_and, and_self, ↓reduceIte]
        rw [Bool.eq_iff_iff]
        simp only [Bool.and_eq_true, Bool.or_eq_true, decide_eq_true_eq, Bool.not_eq_true', decide_eq_false_iff_not]
        omega
      · have : ¬ ((-1 : Int) = cX c h t % 4) := by omega
        simp [h8, this]
theorem stm_k {K X E : Int → Int} {n t : Nat} (ht : t < n) (k4 : ¬ K t = 4) (k6 : ¬ K t = 6) : stm K n t = true := stm_i (by omega) (by omega) k4 k6
theorem ro_R {c : Nat} {h : Hp} {n t s : Nat} (pi : PI c h n) (hw : stk (cK c h) n = []) (wo : WO c h n) (ht : t < n) (hs : s < n) : roC c h n t s ↔ RO (cK c h) (cX c h) (cE c h) n s t := by
  unfold roC RO
  have n60 := PI_60 pi
  constructor
  · rintro ⟨k, h1, h2⟩
    have st : stm (cK c h) n t = true := stm_i (by omega) (by omega) (by omega) (by omega)
    have hb : ∀ q : Nat, stm (cK c h) n q = true → ((blC c h n t).getLsbD q = false ↔ ¬ blk (cK c h) (cX c h) t q) := by
      intro q hq
      have hqn := stm_lt hq
      unfold blC blk
      by_cases k0 : cK c h t = 0
      · rw [if_pos k0, bsF_get (by omega)]
        simp only [hqn, decide_true, Bool.true_and, decide_eq_false_iff_not, k0, true_and]
      · rw [if_neg k0, bz]
        simp [k0]
    obtain ⟨-, r2⟩ := (RC_R pi hw wo st (blC c h n t) (blk (cK c h) (cX c h) t) hb).mp h2
    refine ⟨k, st, ?_, by rw [← rd_C pi ht hs k]; exact h1, r2⟩
    have key := r2 (fun w => w = 60 ∨ stm (cK c h) n w = true) (fun u hu => by
      obtain ⟨t1, t2, -⟩ := way_to (PI_wf pi) hw st
      obtain ⟨e | e, e0⟩ := hu
      · rcases t1 with z | ⟨z, z1, z2⟩
        · exact Or.inl (by omega)
        · exact Or.inr (by rw [e, z1]; exact z2)
      · rcases t2 with z | z | ⟨z, z1, z2⟩
        · omega
        · exact Or.inl (by omega)
        · exact Or.inr (by rw [e, z1]; exact z2)) (fun q u hq hu => by
      rcases hq with e | e
      · exfalso
        have hn : ¬ stm (cK c h) n 60 = true := fun s => by have := (stm_n s).1; omega
        have := way_n (X := cX c h) hn
        rw [e] at hu
        obtain ⟨-, a | a, a0⟩ := hu <;> omega
      · obtain ⟨z, rfl⟩ : ∃ z : Nat, q = z := ⟨q.toNat, by have := (stm_n e).1; omega⟩
        obtain ⟨t1, t2, -⟩ := way_to (PI_wf pi) hw e
        obtain ⟨e | e, e0⟩ := hu.2
        · rcases t1 with z | ⟨z, z1, z2⟩
          · exact Or.inl (by omega)
          · exact Or.inr (by rw [e, z1]; exact z2)
        · rcases t2 with z | z | ⟨z, z1, z2⟩
          · omega
          · exact Or.inl (by omega)
          · exact Or.inr (by rw [e, z1]; exact z2))
    rcases key with e | e
    · omega
    · exact e
  · rintro ⟨k, st, ss, h1, h2⟩
    refine ⟨k, by rw [rd_C pi ht hs k]; exact h1, ?_⟩
    have hb : ∀ q : Nat, stm (cK c h) n q = true → ((blC c h n t).getLsbD q = false ↔ ¬ blk (cK c h) (cX c h) t q) := by
      intro q hq
      have hqn := stm_lt hq
      unfold blC blk
      by_cases k0 : cK c h t = 0
      · rw [if_pos k0, bsF_get (by omega)]
        simp only [hqn, decide_true, Bool.true_and, decide_eq_false_iff_not, k0, true_and]
      · rw [if_neg k0, bz]
        simp [k0]
    exact (RC_R pi hw wo st (blC c h n t) (blk (cK c h) (cX c h) t) hb).mpr ⟨by omega, h2⟩
