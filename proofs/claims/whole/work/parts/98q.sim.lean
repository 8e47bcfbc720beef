/-! ===== the class and the reference show the same ===== -/
/-- program g, of n lines, on both sides -/
def GP (x o pb : Nat) (h : Hp) (g n : Nat) : Prop := hR h (x + 1) g = pb + 20 * g ∧ PM o h g n ∧ PI (pb + 20 * g) h n ∧ CI (pb + 20 * g) h n ∧ agr n (mK o h g) (cK (pb + 20 * g) h) ∧ agr n (mX o h g) (cX (pb + 20 * g) h) ∧ agr n (mE o h g) (cE (pb + 20 * g) h)
def SA (x o pb : Nat) (h : Hp) : Prop := SLX x h ∧ SM o h ∧ (2 ≤ x ∧ x + 24 ≤ o ∧ o + 24 < pb) ∧ (∃ np : Nat, hI h o 0 = np ∧ hI h x 5 = np ∧ np ≤ 16 ∧ hN h = pb + 20 * np ∧ hS h ≤ 200000 + 2000 * np ∧ ∀ g, g < np → ∃ n, GP x o pb h g n) ∧ B01 o h 20 ∧ B01 o h 13 ∧ B01 o h 12
theorem SA_rg {x o pb : Nat} {h : Hp} (s : SA x o pb h) : RG o h := by
  obtain ⟨-, sm, -, ⟨np, e1, e2, e3, -, -, e4⟩, b1, b2, -⟩ := s
  refine ⟨sm, ⟨by omega, by omega⟩, fun g g0 g1 => ?_, b1, b2⟩
  obtain ⟨n, gp⟩ := e4 g.toNat (by omega)
  refine ⟨n, ?_⟩
  have := gp.2.1
  rw [show ((g.toNat : Nat) : Int) = g by omega] at this
  exact this
/-- what must stay so that SA stays -/
def SAF (x o pb : Nat) (h h2 : Hp) : Prop := h2.1 = h.1 ∧ hT h2 = hT h ∧ hR h2 = hR h ∧ (hI h2 o 0 = hI h o 0 ∧ hI h2 x 5 = hI h x 5) ∧ (∀ y, o < y → y < o + 5 → hI h2 y = hI h y) ∧ (∀ y, pb ≤ y → (y - pb) % 20 ≤ 10 → hI h2 y = hI h y) ∧ (∀ g n, PI (pb + 20 * g) h n → CI (pb + 20 * g) h n → CI (pb + 20 * g) h2 n) ∧ B01 o h2 20 ∧ B01 o h2 13 ∧ B01 o h2 12
theorem PI_rows {c n : Nat} {h h2 : Hp} (eT : hT h2 = hT h) (eR : hR h2 = hR h) (e : ∀ y, c ≤ y → y ≤ c + 10 → hI h2 y = hI h y) (p : PI c h n) : PI c h2 n ∧ cK c h2 = cK c h ∧ cX c h2 = cX c h ∧ cE c h2 = cE c h := by
  have eK : cK c h2 = cK c h := by funext z; show hI h2 (c + 1) _ = hI h (c + 1) _; rw [e (c + 1) (by omega) (by omega)]
  have eX : cX c h2 = cX c h := by funext z; show hI h2 (c + 2) _ = hI h (c + 2) _; rw [e (c + 2) (by omega) (by omega)]
  have eE : cE c h2 = cE c h := by funext z; show hI h2 (c + 3) _ = hI h (c + 3) _; rw [e (c + 3) (by omega) (by omega)]
  refine ⟨?_, eK, eX, eE⟩
  unfold PI
  rw [eK, eX, eE, e c (by omega) (by omega), e (c + 4) (by omega) (by omega), e (c + 5) (by omega) (by omega), e (c + 6) (by omega) (by omega), e (c + 7) (by omega) (by omega), e (c + 8) (by omega) (by omega), e (c + 9) (by omega) (by omega), e (c + 10) (by omega) (by omega), SP_same eT eR]
  exact p
theorem mK_rows {o : Nat} {h h2 : Hp} (e : ∀ y, o < y → y < o + 5 → hI h2 y = hI h y) (g : Int) : mK o h2 g = mK o h g ∧ mX o h2 g = mX o h g ∧ mE o h2 g = mE o h g := by
  refine ⟨?_, ?_, ?_⟩
  · funext z; show hI h2 (o + 2) _ = hI h (o + 2) _; rw [e (o + 2) (by omega) (by omega)]
  · funext z; show hI h2 (o + 3) _ = hI h (o + 3) _; rw [e (o + 3) (by omega) (by omega)]
  · funext z; show hI h2 (o + 4) _ = hI h (o + 4) _; rw [e (o + 4) (by omega) (by omega)]
theorem PM_rows {o : Nat} {h h2 : Hp} {g : Int} {n : Nat} (eT : hT h2 = hT h) (eR : hR h2 = hR h) (e : ∀ y, o < y → y < o + 5 → hI h2 y = hI h y) : PM o h2 g n = PM o h g n := by
  obtain ⟨e1, e2, e3⟩ := mK_rows e g
  unfold PM
  rw [e1, e2, e3, e (o + 1) (by omega) (by omega), SM_same eT eR]
theorem GP_F {x o pb g n : Nat} {h h2 : Hp} (f : SAF x o pb h h2) (p : GP x o pb h g n) : GP x o pb h2 g n := by
  obtain ⟨f1, f2, f3, f4, f5, f6, f7, -⟩ := f
  obtain ⟨p1, p2, p3, p4, p5, p6, p7⟩ := p
  obtain ⟨q1, q2, q3, q4⟩ := PI_rows f2 f3 (c := pb + 20 * g) (n := n) (fun y a b => f6 y (by omega) (by omega)) p3
  obtain ⟨e1, e2, e3⟩ := mK_rows f5 (g : Int)
  refine ⟨by rw [f3]; exact p1, by rw [PM_rows f2 f3 f5]; exact p2, q1, f7 g n p3 p4, ?_, ?_, ?_⟩
  · rw [e1, q2]; exact p5
  · rw [e2, q3]; exact p6
  · rw [e3, q4]; exact p7
theorem SA_F {x o pb : Nat} {h h2 : Hp} (f : SAF x o pb h h2) (s : SA x o pb h) : SA x o pb h2 := by
  have f0 := f
  obtain ⟨f1, f2, f3, ⟨f4, f4'⟩, f5, f6, f7, f8, f9, f10⟩ := f
  obtain ⟨s1, s2, s3, ⟨np, e1, e2, e3, e4, e5, e6⟩, -, -, -⟩ := s
  refine ⟨by rw [SLX_same f2 f3]; exact s1, by rw [SM_same f2 f3]; exact s2, s3, ⟨np, by rw [f4]; exact e1, by rw [f4']; exact e2, e3, by unfold hN at e4 ⊢; rw [f1]; exact e4, by unfold hS at e5 ⊢; rw [f1]; exact e5, fun g hg => ?_⟩, f8, f9, f10⟩
  obtain ⟨n, gp⟩ := e6 g hg
  exact ⟨n, GP_F f0 gp⟩
theorem CI_hi {c n : Nat} {h h2 : Hp} (g : ∀ y, c ≤ y → y ≤ c + 19 → hI h2 y = hI h y ∧ hL h2 y = hL h y) (p : CI c h n) : CI c h2 n := by
  have e1 : cK c h2 = cK c h := by funext z; show hI h2 (c + 1) _ = hI h (c + 1) _; rw [(g (c + 1) (by omega) (by omega)).1]
  have e2 : cX c h2 = cX c h := by funext z; show hI h2 (c + 2) _ = hI h (c + 2) _; rw [(g (c + 2) (by omega) (by omega)).1]
  have e3 : cE c h2 = cE c h := by funext z; show hI h2 (c + 3) _ = hI h (c + 3) _; rw [(g (c + 3) (by omega) (by omega)).1]
  unfold CI WO HO WR
  rw [e1, e2, e3, (g (c + 11) (by omega) (by omega)).1, (g (c + 16) (by omega) (by omega)).1, (g (c + 12) (by omega) (by omega)).1, (g (c + 13) (by omega) (by omega)).1, (g (c + 14) (by omega) (by omega)).1, (g (c + 15) (by omega) (by omega)).2, (g (c + 17) (by omega) (by omega)).2, (g (c + 18) (by omega) (by omega)).2]
  exact p
/-- only caches of programs have changed, and rightly -/
def CQ (pb : Nat) (h h2 : Hp) : Prop := h2.1 = h.1 ∧ hT h2 = hT h ∧ hR h2 = hR h ∧ (∀ y, y < pb ∨ (y - pb) % 20 ≤ 10 → hI h2 y = hI h y ∧ hL h2 y = hL h y) ∧ ∀ g n, PI (pb + 20 * g) h n → CI (pb + 20 * g) h n → CI (pb + 20 * g) h2 n
theorem CQ_rf {pb : Nat} {h : Hp} : CQ pb h h := ⟨rfl, rfl, rfl, fun _ _ => ⟨rfl, rfl⟩, fun _ _ _ z => z⟩
theorem CQ_one {pb g n : Nat} {h h2 : Hp} (fr : FR (pb + 20 * g + 11) (pb + 20 * g + 19) h h2) (pi : PI (pb + 20 * g) h n) (ci : CI (pb + 20 * g) h2 n) : CQ pb h h2 := by
  refine ⟨fr.1, fr.2.1, fr.2.2.1, fun y q => fr.2.2.2 y (by omega), fun g2 m pm cm => ?_⟩
  by_cases e : g2 = g
  · subst e
    have : m = n := by have := PI_n pm; have := PI_n pi; omega
    subst this
    exact ci
  · exact CI_hi (fun y a b => fr.2.2.2 y (by omega)) cm
theorem CQ_saf {x o pb : Nat} {h h2 : Hp} (c : CQ pb h h2) (s : SA x o pb h) : SAF x o pb h h2 := by
  obtain ⟨c1, c2, c3, c4, c5⟩ := c
  obtain ⟨-, -, ⟨s1, s2, s3⟩, -, b1, b2, b3⟩ := s
  refine ⟨c1, c2, c3, ⟨by rw [(c4 o (by omega)).1], by rw [(c4 x (by omega)).1]⟩, fun y a b => (c4 y (by omega)).1, fun y a b => (c4 y (by omega)).1, c5, ?_, ?_, ?_⟩
  · intro v; rw [(c4 (o + 20) (by omega)).1]; exact b1 v
  · intro v; rw [(c4 (o + 13) (by omega)).1]; exact b2 v
  · intro v; rw [(c4 (o + 12) (by omega)).1]; exact b3 v
/-- the reference's scratch and hand have changed -/
theorem FH_saf {x o pb : Nat} {h h2 : Hp} (f : FH o h h2) (b20 : B01 o h2 20) (b13 : B01 o h2 13) (s : SA x o pb h) : SAF x o pb h h2 := by
  obtain ⟨f1, f2, f3, f4, f5, f6⟩ := f
  obtain ⟨-, -, ⟨s1, s2, s3⟩, -, b1, b2, b3⟩ := s
  refine ⟨f1, f2, f3, ⟨f6 0 (by omega), by rw [(f4 x (by omega)).1]⟩, fun y a b => f5 y (by omega) (by omega) (by omega), fun y a b => (f4 y (by omega)).1, fun g n p c => CI_hi (fun y a b => f4 y (by omega)) c, b20, b13, ?_⟩
  intro v; rw [f5 (o + 12) (by omega) (by omega) (by omega)]; exact b3 v
theorem FS_saf {x o pb : Nat} {h h2 : Hp} (f : FS o h h2) (b20 : B01 o h2 20) (s : SA x o pb h) : SAF x o pb h h2 := FH_saf (FH_FS f) b20 (fun v => by rw [FS_r f (by omega) (by omega)]; exact s.2.2.2.2.2.1 v) s
theorem setL_saf {x o pb : Nat} {h : Hp} {w : BitVec 64} (s : SA x o pb h) : SAF x o pb h (setL h x 7 w) := by
  obtain ⟨-, -, ⟨s1, s2, s3⟩, -, b1, b2, b3⟩ := s
  refine ⟨h1_setL, hT_setL, hR_setL, ⟨by rw [hI_setL], by rw [hI_setL]⟩, fun y a b => by rw [hI_setL], fun y a b => by rw [hI_setL], fun g n p c => CI_hi (fun y a b => ⟨by rw [hI_setL], ?_⟩) c, fun v => by rw [hI_setL]; exact b1 v, fun v => by rw [hI_setL]; exact b2 v, fun v => by rw [hI_setL]; exact b3 v⟩
  funext j; rw [hL_setL, if_neg (by omega)]
/-- the record's part of RKo that stays when a RUN is over -/
def RKs (k : Nat) (h : Hp) (K X E : Int → Int) (s : St) : Prop := (hI h k 9 = sT s ∧ hI h (k + 4) 5 = sC s) ∧ (∀ j, j < 8 → hI h (k + 1) j = sN s j) ∧ (∀ j, j < 12 → hI h (k + 2) j = sL s j) ∧ (∀ j : Nat, (j : Int) < sT s → j < 300 → hI h (k + 3) j = sD s j) ∧ (∀ j, j < sC s → hI h (k + 5) j = sR s j) ∧ ∀ j, j < sC s → ∀ m : Nat, (∃ t, t < 3 ∧ hI h (k + 6) (3 * j + t) = (m : Int)) ↔ SrR K X E (sR s) (sQ s) (sS s) (sH s) j m
theorem RKo_s {k : Nat} {h : Hp} {K X E : Int → Int} {s : St} (r : RKo k h K X E s) : RKs k h K X E s := ⟨r.1, r.2.1, r.2.2.1, r.2.2.2.1, r.2.2.2.2.1, r.2.2.2.2.2.2⟩
def SRn (x o : Nat) (h : Hp) : Prop := ((hI h o 6 = 0 ∧ hI h x 6 = -1 ∧ hI h o 14 = 0 ∧ (∀ j, j < 8 → hI h (x + 5) j = 0) ∧ ∀ j, j < 12 → hI h (x + 6) j = 0) ∨ (hI h o 6 = 1 ∧ hI h x 6 = hI h o 7 ∧ (0 ≤ hI h o 7 ∧ hI h o 7 < hI h o 0) ∧ hI h (x + 4) 6 = hI h o 9 ∧ hI h (x + 4) 7 = hI h o 8)) ∧ RKs (x + 4) h (mK o h (hI h o 7)) (mX o h (hI h o 7)) (mE o h (hI h o 7)) (vw o h 0) ∧ RS o h ∧ 0 ≤ hI h o 10
def SS (x o : Nat) (h : Hp) : Prop := ∀ j, j < 8 → hI h (x + 2) j = hI h (o + 5) j
def SB (x o : Nat) (h : Hp) : Prop := ∀ j, j < 60 → hI h (x + 3) j = hI h (o + 14) j
def SH (x o : Nat) (h : Hp) : Prop := ∀ p, (hL h x 7).getLsbD p = true ↔ p < 60 ∧ ¬ hI h (o + 13) p = 0
def Sim (x o pb : Nat) (h : Hp) : Prop := SA x o pb h ∧ SS x o h ∧ SB x o h ∧ SH x o h ∧ SRn x o h
/-- the run's part stays -/
theorem SRn_F {x o : Nat} {h h2 : Hp} (eT : hT h2 = hT h) (eR : hR h2 = hR h) (e1 : ∀ j, j = 0 ∨ j = 6 ∨ j = 7 ∨ j = 8 ∨ j = 9 ∨ j = 10 ∨ j = 14 → hI h2 o j = hI h o j) (e2 : hI h2 x 6 = hI h x 6) (e3 : ∀ y, x + 4 ≤ y → y ≤ x + 10 → hI h2 y = hI h y) (e4 : ∀ y, o < y → y ≤ o + 12 → ¬ y = o + 5 → hI h2 y = hI h y) (s : SRn x o h) : vw o h2 0 = ((0, hI h2 o 32, hI h o 10, (hI h o 14).toNat), hI h (o + 7), hI h (o + 8), hI h (o + 6), hI h (o + 9), hI h (o + 10), hI h (o + 11), hI h (o + 12)) → SRn x o h2 := by
  intro hv
  obtain ⟨s1, s2, s3, s4⟩ := s
  obtain ⟨k1, k2, k3⟩ := mK_rows (fun y a b => e4 y a (by omega) (by omega)) (hI h o 7)
  have ks : ∀ K X E, RKs (x + 4) h K X E (vw o h 0) → RKs (x + 4) h2 K X E (vw o h2 0) := by
    intro K X E r
    rw [hv]
    unfold RKs at r ⊢
    rw [e3 (x + 4) (by omega) (by omega), e3 (x + 4 + 4) (by omega) (by omega), e3 (x + 4 + 1) (by omega) (by omega), e3 (x + 4 + 2) (by omega) (by omega), e3 (x + 4 + 3) (by omega) (by omega), e3 (x + 4 + 5) (by omega) (by omega), e3 (x + 4 + 6) (by omega) (by omega)]
    exact r
  refine ⟨?_, ?_, ?_, ?_⟩
  · rw [e1 6 (by omega), e1 14 (by omega), e1 7 (by omega), e1 0 (by omega), e1 9 (by omega), e1 8 (by omega), e2, e3 (x + 4) (by omega) (by omega), e3 (x + 5) (by omega) (by omega), e3 (x + 6) (by omega) (by omega)]
    exact s1
  · rw [e1 7 (by omega), k1, k2, k3]
    exact ks _ _ _ s2
  · unfold RS A5 at s3 ⊢
    rw [e1 14 (by omega), e1 7 (by omega), e1 0 (by omega), k1, e4 (o + 9) (by omega) (by omega) (by omega)]
    refine ⟨s3.1, fun z => ?_⟩
    obtain ⟨n, ⟨a1, a2, a3⟩, a4⟩ := s3.2 z
    exact ⟨n, ⟨a1, by rw [PM_rows eT eR (fun y a b => e4 y a (by omega) (by omega))]; exact a2, a3⟩, a4⟩
  · rw [e1 10 (by omega)]; exact s4
theorem vw_eq {o : Nat} {h h2 : Hp} (e1 : hI h2 o 10 = hI h o 10) (e2 : hI h2 o 14 = hI h o 14) (e4 : ∀ y, o + 6 ≤ y → y ≤ o + 12 → hI h2 y = hI h y) : vw o h2 0 = ((0, hI h2 o 32, hI h o 10, (hI h o 14).toNat), hI h (o + 7), hI h (o + 8), hI h (o + 6), hI h (o + 9), hI h (o + 10), hI h (o + 11), hI h (o + 12)) := by
  unfold vw
  rw [e1, e2, e4 (o + 7) (by omega) (by omega), e4 (o + 8) (by omega) (by omega), e4 (o + 6) (by omega) (by omega), e4 (o + 9) (by omega) (by omega), e4 (o + 10) (by omega) (by omega), e4 (o + 11) (by omega) (by omega), e4 (o + 12) (by omega) (by omega)]
theorem Sim_CQ {x o pb : Nat} {h h2 : Hp} (c : CQ pb h h2) (s : Sim x o pb h) : Sim x o pb h2 := by
  obtain ⟨sa, ss, sb, sh, sr⟩ := s
  have saf := CQ_saf c sa
  obtain ⟨c1, c2, c3, c4, c5⟩ := c
  obtain ⟨g1, g2, g3⟩ := sa.2.2.1
  have lo : ∀ y, y < pb → hI h2 y = hI h y := fun y hy => (c4 y (Or.inl hy)).1
  refine ⟨SA_F saf sa, ?_, ?_, ?_, ?_⟩
  · intro j hj; rw [lo (x + 2) (by omega), lo (o + 5) (by omega)]; exact ss j hj
  · intro j hj; rw [lo (x + 3) (by omega), lo (o + 14) (by omega)]; exact sb j hj
  · intro p; rw [(c4 x (by omega)).2, lo (o + 13) (by omega)]; exact sh p
  · exact SRn_F c2 c3 (fun j _ => by rw [lo o (by omega)]) (by rw [lo x (by omega)]) (fun y a b => lo y (by omega)) (fun y a b _ => lo y (by omega)) sr (vw_eq (by rw [lo o (by omega)]) (by rw [lo o (by omega)]) (fun y a b => lo y (by omega)))
/-- all but the hand -/
def Sim1 (x o pb : Nat) (h : Hp) : Prop := SA x o pb h ∧ SS x o h ∧ SB x o h ∧ SRn x o h
theorem Sim1_FH {x o pb : Nat} {h h2 : Hp} (f : FH o h h2) (b20 : B01 o h2 20) (b13 : B01 o h2 13) (s : Sim1 x o pb h) : Sim1 x o pb h2 := by
  obtain ⟨sa, ss, sb, sr⟩ := s
  have saf := FH_saf f b20 b13 sa
  obtain ⟨f1, f2, f3, f4, f5, f6⟩ := f
  obtain ⟨g1, g2, g3⟩ := sa.2.2.1
  refine ⟨SA_F saf sa, ?_, ?_, ?_⟩
  · intro j hj; rw [(f4 (x + 2) (by omega)).1, f5 (o + 5) (by omega) (by omega) (by omega)]; exact ss j hj
  · intro j hj; rw [(f4 (x + 3) (by omega)).1, f5 (o + 14) (by omega) (by omega) (by omega)]; exact sb j hj
  · exact SRn_F f2 f3 (fun j _ => f6 j (by omega)) (by rw [(f4 x (by omega)).1]) (fun y a b => (f4 y (by omega)).1) (fun y a b _ => f5 y (by omega) (by omega) (by omega)) sr (vw_eq (f6 10 (by omega)) (f6 14 (by omega)) (fun y a b => f5 y (by omega) (by omega) (by omega)))
theorem Sim_FS {x o pb : Nat} {h h2 : Hp} (f : FS o h h2) (b20 : B01 o h2 20) (s : Sim x o pb h) : Sim x o pb h2 := by
  obtain ⟨sa, ss, sb, sh, sr⟩ := s
  have b13 : B01 o h2 13 := fun v => by rw [FS_r f (by omega) (by omega)]; exact sa.2.2.2.2.2.1 v
  obtain ⟨t1, t2, t3, t4⟩ := Sim1_FH (FH_FS f) b20 b13 ⟨sa, ss, sb, sr⟩
  refine ⟨t1, t2, t3, ?_, t4⟩
  obtain ⟨g1, g2, g3⟩ := sa.2.2.1
  intro p; rw [(f.2.2.2.1 x (by omega)).2, FS_r f (by omega) (by omega)]; exact sh p
theorem Sim1_L {x o pb : Nat} {h : Hp} {w : BitVec 64} (s : Sim x o pb h) : Sim1 x o pb (setL h x 7 w) := by
  obtain ⟨sa, ss, sb, sh, sr⟩ := s
  refine ⟨SA_F (setL_saf sa) sa, ?_, ?_, ?_⟩
  · intro j hj; rw [hI_setL]; exact ss j hj
  · intro j hj; rw [hI_setL]; exact sb j hj
  · exact SRn_F hT_setL hR_setL (fun j _ => by rw [hI_setL]) (by rw [hI_setL]) (fun y a b => by rw [hI_setL]) (fun y a b _ => by rw [hI_setL]) sr (vw_eq (by rw [hI_setL]) (by rw [hI_setL]) (fun y a b => by rw [hI_setL]))
/-- the hand is set on both sides -/
theorem Sim_hand {x o pb : Nat} {h h2 : Hp} {w : BitVec 64} {P : Nat → Prop} (s : Sim x o pb h) (f : FH o (setL h x 7 w) h2) (b20 : B01 o h2 20) (b13 : B01 o h2 13) (hw : ∀ i, w.getLsbD i = true ↔ i < 60 ∧ P i) (hr : ∀ p, p < 60 → hI h2 (o + 13) p = pI (P p)) : Sim x o pb h2 := by
  obtain ⟨t1, t2, t3, t4⟩ := Sim1_FH f b20 b13 (Sim1_L (w := w) s)
  obtain ⟨g1, g2, g3⟩ := s.1.2.2.1
  refine ⟨t1, t2, t3, ?_, t4⟩
  intro p
  rw [(f.2.2.2.1 x (by omega)).2, hL_setL, if_pos ⟨rfl, rfl⟩, hw p]
  constructor
  · rintro ⟨a, b⟩
    refine ⟨a, ?_⟩
    rw [hr p a, pI_t b]; decide
  · rintro ⟨a, b⟩
    refine ⟨a, Classical.byContradiction fun z => b ?_⟩
    rw [hr p a, pI_f z]
theorem pcw_card {w : BitVec 64} {P : Nat → Prop} (hw : ∀ i, w.getLsbD i = true ↔ i < 60 ∧ P i) : pcw w = card P := by
  unfold pcw card
  have e0 : ctN (fun i => w.getLsbD i) 64 = ctN (fun i => w.getLsbD i) 60 + ctN (fun k => w.getLsbD (60 + k)) 4 := ctN_split (fun i => w.getLsbD i) 60 4
  rw [e0]
  have e1 : ctN (fun i => w.getLsbD i) 60 = ctN (fun i => dcl (P i)) 60 := ctN_cong (fun k hk => by
    cases hb : w.getLsbD k with
    | true => exact (dcl_t.mpr ((hw k).mp hb).2).symm
    | false => exact (dcl_f.mpr (fun z => by rw [(hw k).mpr ⟨hk, z⟩] at hb; exact absurd hb (by decide))).symm)
  have e2 : ctN (fun k => w.getLsbD (60 + k)) 4 = ctN (fun _ => false) 4 := ctN_cong (fun k hk => by
    cases hb : w.getLsbD (60 + k) with
    | false => rfl
    | true => have := ((hw _).mp hb).1; omega)
  rw [e1, e2]
  rfl
