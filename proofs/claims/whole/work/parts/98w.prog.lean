/-! ===== programs that change ===== -/
theorem SP_loc {c : Nat} {h h2 : Hp} (g : ∀ y, c ≤ y → y ≤ c + 19 → hT h2 y = hT h y ∧ hR h2 y = hR h y) (s : SP c h) : SP c h2 := by
  unfold SP
  rw [(g c (by omega) (by omega)).1, (g (c + 1) (by omega) (by omega)).1, (g (c + 2) (by omega) (by omega)).1, (g (c + 3) (by omega) (by omega)).1, (g (c + 4) (by omega) (by omega)).1, (g (c + 5) (by omega) (by omega)).1, (g (c + 6) (by omega) (by omega)).1, (g (c + 7) (by omega) (by omega)).1, (g (c + 8) (by omega) (by omega)).1, (g (c + 9) (by omega) (by omega)).1, (g (c + 10) (by omega) (by omega)).1, (g (c + 11) (by omega) (by omega)).1, (g (c + 12) (by omega) (by omega)).1, (g (c + 13) (by omega) (by omega)).1, (g (c + 14) (by omega) (by omega)).1, (g (c + 15) (by omega) (by omega)).1, (g (c + 16) (by omega) (by omega)).1, (g (c + 17) (by omega) (by omega)).1, (g (c + 18) (by omega) (by omega)).1, (g (c + 19) (by omega) (by omega)).1, (g c (by omega) (by omega)).2, (g (c + 11) (by omega) (by omega)).2, (g (c + 16) (by omega) (by omega)).2]
  exact s
theorem PI_loc {c n : Nat} {h h2 : Hp} (g : ∀ y, c ≤ y → y ≤ c + 19 → hT h2 y = hT h y ∧ hR h2 y = hR h y ∧ hI h2 y = hI h y ∧ hL h2 y = hL h y) (p : PI c h n) : PI c h2 n ∧ cK c h2 = cK c h ∧ cX c h2 = cX c h ∧ cE c h2 = cE c h := by
  have e : ∀ y, c ≤ y → y ≤ c + 10 → hI h2 y = hI h y := fun y a b => (g y a (by omega)).2.2.1
  have eK : cK c h2 = cK c h := by funext z; show hI h2 (c + 1) _ = hI h (c + 1) _; rw [e (c + 1) (by omega) (by omega)]
  have eX : cX c h2 = cX c h := by funext z; show hI h2 (c + 2) _ = hI h (c + 2) _; rw [e (c + 2) (by omega) (by omega)]
  have eE : cE c h2 = cE c h := by funext z; show hI h2 (c + 3) _ = hI h (c + 3) _; rw [e (c + 3) (by omega) (by omega)]
  refine ⟨?_, eK, eX, eE⟩
  unfold PI
  rw [eK, eX, eE, e c (by omega) (by omega), e (c + 4) (by omega) (by omega), e (c + 5) (by omega) (by omega), e (c + 6) (by omega) (by omega), e (c + 7) (by omega) (by omega), e (c + 8) (by omega) (by omega), e (c + 9) (by omega) (by omega), e (c + 10) (by omega) (by omega)]
  exact ⟨SP_loc (fun y a b => ⟨(g y a b).1, (g y a b).2.1⟩) p.1, p.2⟩
theorem SLX_loc {x : Nat} {h h2 : Hp} (g : ∀ y, x ≤ y → y ≤ x + 23 → hT h2 y = hT h y ∧ (¬ y = x + 1 → hR h2 y = hR h y)) (s : SLX x h) : SLX x h2 := by
  unfold SLX
  rw [(g x (by omega) (by omega)).1, (g (x + 1) (by omega) (by omega)).1, (g (x + 2) (by omega) (by omega)).1, (g (x + 3) (by omega) (by omega)).1, (g x (by omega) (by omega)).2 (by omega)]
  obtain ⟨a1, a2, a3, a4, a5, a6, a7⟩ := s
  exact ⟨a1, a2, a3, a4, a5, SK_below (fun y a b => ⟨(g y (by omega) (by omega)).1, (g y (by omega) (by omega)).2 (by omega)⟩) a6, SK_below (fun y a b => ⟨(g y (by omega) (by omega)).1, (g y (by omega) (by omega)).2 (by omega)⟩) a7⟩
theorem SM_loc {o : Nat} {h h2 : Hp} (g : ∀ y, o ≤ y → y ≤ o + 24 → hT h2 y = hT h y) (r : hR h2 o = hR h o) (s : SM o h) : SM o h2 := by
  unfold SM
  rw [g o (by omega) (by omega), g (o + 1) (by omega) (by omega), g (o + 2) (by omega) (by omega), g (o + 3) (by omega) (by omega), g (o + 4) (by omega) (by omega), g (o + 5) (by omega) (by omega), g (o + 6) (by omega) (by omega), g (o + 7) (by omega) (by omega), g (o + 8) (by omega) (by omega), g (o + 9) (by omega) (by omega), g (o + 10) (by omega) (by omega), g (o + 11) (by omega) (by omega), g (o + 12) (by omega) (by omega), g (o + 13) (by omega) (by omega), g (o + 14) (by omega) (by omega), g (o + 15) (by omega) (by omega), g (o + 16) (by omega) (by omega), g (o + 17) (by omega) (by omega), g (o + 18) (by omega) (by omega), g (o + 19) (by omega) (by omega), g (o + 20) (by omega) (by omega), g (o + 21) (by omega) (by omega), g (o + 22) (by omega) (by omega), g (o + 23) (by omega) (by omega), g (o + 24) (by omega) (by omega), r]
  exact s
/-- the reference's rows of program g are the same -/
def RG1 (o g : Nat) (h h2 : Hp) : Prop := hI h2 (o + 1) g = hI h (o + 1) g ∧ ∀ y z, o + 2 ≤ y → y ≤ o + 4 → 60 * g ≤ z → z < 60 * g + 60 → hI h2 y z = hI h y z
theorem RG1_agr {o g : Nat} {h h2 : Hp} (r : RG1 o g h h2) : agr 60 (mK o h2 g) (mK o h g) ∧ agr 60 (mX o h2 g) (mX o h g) ∧ agr 60 (mE o h2 g) (mE o h g) := by
  refine ⟨fun q a b => ?_, fun q a b => ?_, fun q a b => ?_⟩
  · exact r.2 (o + 2) _ (by omega) (by omega) (by omega) (by omega)
  · exact r.2 (o + 3) _ (by omega) (by omega) (by omega) (by omega)
  · exact r.2 (o + 4) _ (by omega) (by omega) (by omega) (by omega)
theorem agr_sym {n : Int} {K K2 : Int → Int} (h : agr n K K2) : agr n K2 K := fun q a b => (h q a b).symm
theorem agr_tr {n : Int} {K K2 K3 : Int → Int} (h : agr n K K2) (h2 : agr n K2 K3) : agr n K K3 := fun q a b => (h q a b).trans (h2 q a b)
theorem agr_60 {n : Nat} {K K2 : Int → Int} (n60 : n ≤ 60) (h : agr 60 K K2) : agr n K K2 := fun q a b => h q a (by omega)
theorem PM_loc {o g n : Nat} {h h2 : Hp} (sm : SM o h2) (r : RG1 o g h h2) (p : PM o h g n) : PM o h2 g n := by
  obtain ⟨-, p2, p3, p4, p5, p6⟩ := p
  obtain ⟨a1, a2, a3⟩ := RG1_agr r
  refine ⟨sm, p2, ?_, p4, WF_cg (agr_60 p4 (agr_sym a1)) (agr_60 p4 (agr_sym a2)) (agr_60 p4 (agr_sym a3)) p5, fun q hq => ?_⟩
  · show hI h2 (o + 1) ((g : Int).toNat) = n
    rw [Int.toNat_natCast, r.1]
    have : hI h (o + 1) ((g : Int).toNat) = n := p3
    rw [Int.toNat_natCast] at this
    exact this
  · rw [a2 q (by omega) (by omega), a3 q (by omega) (by omega)]; exact p6 q hq
theorem GP_loc {x o pb g n : Nat} {h h2 : Hp} (gp : GP x o pb h g n) (hr : hR h2 (x + 1) g = hR h (x + 1) g) (sm : SM o h2) (r : RG1 o g h h2) (ce : ∀ y, pb + 20 * g ≤ y → y ≤ pb + 20 * g + 19 → hT h2 y = hT h y ∧ hR h2 y = hR h y ∧ hI h2 y = hI h y ∧ hL h2 y = hL h y) : GP x o pb h2 g n := by
  obtain ⟨p1, p2, p3, p4, p5, p6, p7⟩ := gp
  obtain ⟨a1, a2, a3⟩ := RG1_agr r
  obtain ⟨q1, q2, q3, q4⟩ := PI_loc ce p3
  have n60 := p3.2.2.1
  refine ⟨by rw [hr]; exact p1, PM_loc sm r p2, q1, CI_hi (fun y a b => ⟨(ce y a b).2.2.1, (ce y a b).2.2.2⟩) p4, ?_, ?_, ?_⟩
  · rw [q2]; exact agr_tr (agr_60 n60 a1) p5
  · rw [q3]; exact agr_tr (agr_60 n60 a2) p6
  · rw [q4]; exact agr_tr (agr_60 n60 a3) p7
theorem srN_cg {R H : Nat → Int} {X X2 : Int → Int} {nm : Int} {j : Nat} (e : X2 (R j) = X (R j)) : srN R H X2 nm j ↔ srN R H X nm j := by unfold srN; rw [e]
theorem RKs_cg {k : Nat} {h : Hp} {K X E K2 X2 E2 : Int → Int} {s : St} (hk : ∀ j, j < sC s → K2 (sR s j) = K (sR s j) ∧ X2 (sR s j) = X (sR s j) ∧ E2 (sR s j) = E (sR s j)) (r : RKs k h K X E s) : RKs k h K2 X2 E2 s := by
  obtain ⟨r1, r2, r3, r4, r5, r6⟩ := r
  refine ⟨r1, r2, r3, r4, r5, fun j hj m => ?_⟩
  rw [r6 j hj m]
  unfold SrR
  obtain ⟨e1, e2, e3⟩ := hk j hj
  rw [e1, e2, e3]
  have e4 : ∀ nm : Int, lt1 (srN (sR s) (sH s) X nm) j m ↔ lt1 (srN (sR s) (sH s) X2 nm) j m := fun nm => lt1_cg (fun i hi => (srN_cg (hk i (by omega)).2.1).symm)
  constructor
  · rintro (⟨nm, q1, q2, q3⟩ | q)
    · exact Or.inl ⟨nm, q1, q2, (e4 nm).mp q3⟩
    · exact Or.inr q
  · rintro (⟨nm, q1, q2, q3⟩ | q)
    · exact Or.inl ⟨nm, q1, q2, (e4 nm).mpr q3⟩
    · exact Or.inr q
/-- the run's part stays, programs may change where it did not run -/
theorem SRn_G {x o : Nat} {h h2 : Hp} (sm : SM o h2) (e1 : ∀ j, j = 6 ∨ j = 7 ∨ j = 8 ∨ j = 9 ∨ j = 10 ∨ j = 14 → hI h2 o j = hI h o j) (e0 : hI h o 0 ≤ hI h2 o 0) (e2 : hI h2 x 6 = hI h x 6) (e3 : ∀ y, x + 4 ≤ y → y ≤ x + 10 → hI h2 y = hI h y) (e4 : ∀ y, o + 6 ≤ y → y ≤ o + 12 → hI h2 y = hI h y) (er : hI h o 6 = 1 → 0 ≤ hI h o 7 → 0 < hI h o 14 → RG1 o (hI h o 7).toNat h h2) (s : SRn x o h) : SRn x o h2 := by
  obtain ⟨s1, s2, s3, s4⟩ := s
  have hv := vw_eq (o := o) (h := h) (h2 := h2) (e1 10 (by omega)) (e1 14 (by omega)) e4
  have ks : ∀ K X E, RKs (x + 4) h K X E (vw o h 0) → RKs (x + 4) h2 K X E (vw o h2 0) := by
    intro K X E r
    rw [hv]
    unfold RKs at r ⊢
    rw [e3 (x + 4) (by omega) (by omega), e3 (x + 4 + 4) (by omega) (by omega), e3 (x + 4 + 1) (by omega) (by omega), e3 (x + 4 + 2) (by omega) (by omega), e3 (x + 4 + 3) (by omega) (by omega), e3 (x + 4 + 5) (by omega) (by omega), e3 (x + 4 + 6) (by omega) (by omega)]
    exact r
  have hrun : 0 < hI h o 14 → hI h o 6 = 1 ∧ 0 ≤ hI h o 7 := by
    intro z
    rcases s1 with ⟨-, -, a, -⟩ | ⟨a, -, b, -⟩
    · omega
    · exact ⟨a, b.1⟩
  have rs := s3
  refine ⟨?_, ?_, ?_, ?_⟩
  · rw [e1 6 (by omega), e1 14 (by omega), e1 7 (by omega), e1 9 (by omega), e1 8 (by omega), e2, e3 (x + 4) (by omega) (by omega), e3 (x + 5) (by omega) (by omega), e3 (x + 6) (by omega) (by omega)]
    rcases s1 with a | ⟨a, b, c, d⟩
    · exact Or.inl a
    · exact Or.inr ⟨a, b, ⟨c.1, by omega⟩, d⟩
  · rw [e1 7 (by omega)]
    refine ks _ _ _ (RKs_cg (fun j hj => ?_) s2)
    have hj : j < (hI h o 14).toNat := hj
    have z : 0 < hI h o 14 := by omega
    obtain ⟨r6, r7⟩ := hrun z
    have rg := er r6 r7 z
    obtain ⟨a1, a2, a3⟩ := RG1_agr rg
    rw [show (((hI h o 7).toNat : Nat) : Int) = hI h o 7 by omega] at a1 a2 a3
    obtain ⟨n, a5, hs⟩ := rs.2 z
    have b := (stm_n (hs j (by omega))).1
    have n60 := a5.2.1.2.2.2.1
    show mK o h2 (hI h o 7) (hI h (o + 9) j) = mK o h (hI h o 7) (hI h (o + 9) j) ∧ mX o h2 (hI h o 7) (hI h (o + 9) j) = mX o h (hI h o 7) (hI h (o + 9) j) ∧ mE o h2 (hI h o 7) (hI h (o + 9) j) = mE o h (hI h o 7) (hI h (o + 9) j)
    have b : 0 ≤ hI h (o + 9) j ∧ hI h (o + 9) j < n := b
    exact ⟨a1 _ b.1 (by omega), a2 _ b.1 (by omega), a3 _ b.1 (by omega)⟩
  · unfold RS
    rw [e1 14 (by omega), e1 7 (by omega), e4 (o + 9) (by omega) (by omega)]
    refine ⟨rs.1, fun z => ?_⟩
    obtain ⟨r6, r7⟩ := hrun z
    have rg := er r6 r7 z
    obtain ⟨a1, a2, a3⟩ := RG1_agr rg
    obtain ⟨n, ⟨b1, b2, b3⟩, hs⟩ := rs.2 z
    have n60 := b2.2.2.2.1
    have pm2 : PM o h2 (((hI h o 7).toNat : Nat) : Int) n := PM_loc sm rg (by rw [show (((hI h o 7).toNat : Nat) : Int) = hI h o 7 by omega]; exact b2)
    rw [show (((hI h o 7).toNat : Nat) : Int) = hI h o 7 by omega] at a1 a2 a3 pm2
    refine ⟨n, ⟨⟨b1.1, by omega⟩, pm2, ?_⟩, fun j hj => ?_⟩
    · rw [stk_cg n (agr_60 n60 a1)]; exact b3
    · rw [stm_cg (agr_60 n60 a1)]; exact hs j hj
  · rw [e1 10 (by omega)]; exact s4
