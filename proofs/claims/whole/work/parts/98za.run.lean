/-! ===== one call on both sides: run ===== -/
theorem stp_RC {s : St} {k u v y m : Int} : sR (stp s k u v y m) = sR (ntS s k v) ∧ sC (stp s k u v y m) = sC (ntS s k v) := by
  cases hv : vR (sN s) k u v with
  | true => rw [stp_R hv]; exact ⟨rfl, rfl⟩
  | false =>
    unfold stp
    rw [hv]
    simp only [Bool.false_eq_true, ↓reduceIte]
    by_cases k0 : k = 0
    · rw [if_pos k0]; exact ⟨rfl, rfl⟩
    · rw [if_neg k0]
      by_cases k1 : k = 1
      · rw [if_pos k1]; exact ⟨rfl, rfl⟩
      · rw [if_neg k1]
        by_cases k2 : k = 2
        · rw [if_pos k2]; exact ⟨rfl, rfl⟩
        · rw [if_neg k2]; exact ⟨rfl, rfl⟩
def REC (K : Int → Int) (n : Nat) (s : St) : Prop := ∀ j, j < sC s → stm K n (sR s j) = true
theorem REC_st {K X E Y N : Int → Int} {n : Nat} {s : St} (st : stm K n (sP s) = true) (r : REC K n s) : REC K n (sx K X E Y N s) := by
  intro j hj
  unfold sx at hj ⊢
  rw [stp_RC.1]
  rw [stp_RC.2] at hj
  by_cases z : sC s < 400
  · rw [ntS_t z] at hj ⊢
    show stm K n (up1 (sR s) (sC s) (sP s) j) = true
    have hj : j < sC s + 1 := hj
    by_cases e : j = sC s
    · rw [e, up1_eq]; exact st
    · rw [up1_ne e]; exact r j (by omega)
  · rw [ntS_f z] at hj ⊢
    exact r j hj
theorem itF_REC {K X E : Int → Int} {n : Nat} (w : WF K X E n) (hw : stk K n = []) : ∀ (m d : Nat) (s : St), IV K n d s → REC K n s → REC K n (itF (sx K X E (yes_ K X n) (no_ K n)) m s)
  | 0, d, s, _, r => r
  | m + 1, d, s, i, r => by
    by_cases a : act s
    · rw [itF_t a]
      obtain ⟨st, i2⟩ := IV_st w hw a i
      exact itF_REC w hw m (d + 1) _ i2 (REC_st st r)
    · rw [itF_f a]; exact r
/-- only Machines and caches have changed -/
def MF (x pb : Nat) (h h2 : Hp) : Prop := h2.1 = h.1 ∧ hT h2 = hT h ∧ (∀ y j, ¬ ((y = x + 4 ∨ y = x + 14) ∧ (j = 4 ∨ j = 5)) → hR h2 y j = hR h y j) ∧ (∀ y, ¬ (x + 4 ≤ y ∧ y ≤ x + 23) → y < pb ∨ (y - pb) % 20 ≤ 10 → hI h2 y = hI h y ∧ hL h2 y = hL h y) ∧ ∀ g n, PI (pb + 20 * g) h n → CI (pb + 20 * g) h n → PI (pb + 20 * g) h2 n ∧ CI (pb + 20 * g) h2 n
theorem MF_tr {x pb : Nat} {h h2 h3 : Hp} (a : MF x pb h h2) (b : MF x pb h2 h3) : MF x pb h h3 := ⟨b.1.trans a.1, b.2.1.trans a.2.1, fun y j q => (b.2.2.1 y j q).trans (a.2.2.1 y j q), fun y q r => ⟨(b.2.2.2.1 y q r).1.trans (a.2.2.2.1 y q r).1, (b.2.2.2.1 y q r).2.trans (a.2.2.2.1 y q r).2⟩, fun g n p c => by
  obtain ⟨p2, c2⟩ := a.2.2.2.2 g n p c
  exact b.2.2.2.2 g n p2 c2⟩
theorem MF_FR {x pb k : Nat} {h h2 : Hp} (hk : k = x + 4 ∨ k = x + 14) (hx : x + 23 < pb) (fr : FR k (k + 9) h h2) : MF x pb h h2 := ⟨fr.1, fr.2.1, fun y j _ => by rw [fr.2.2.1], fun y q _ => fr.2.2.2 y (by omega), fun g n p c => ⟨FR_pi fr (by omega) p, CI_FR fr (by omega) c⟩⟩
theorem HO_rows {c n : Nat} {h h2 : Hp} (e1 : cK c h2 = cK c h) (e2 : cX c h2 = cX c h) (e3 : cE c h2 = cE c h) (g : ∀ y, c + 16 ≤ y → y ≤ c + 18 → hI h2 y = hI h y ∧ hL h2 y = hL h y) (p : HO c h n) : HO c h2 n := by
  unfold HO
  rw [e1, e2, e3, (g (c + 16) (by omega) (by omega)).1, (g (c + 17) (by omega) (by omega)).2, (g (c + 18) (by omega) (by omega)).2]
  exact p
theorem MF_FM {x pb k g n : Nat} {h h2 : Hp} (hk : k = x + 4 ∨ k = x + 14) (hx : x + 23 < pb) (fm : FM k (FMA k (pb + 20 * g)) h h2) (pi : PI (pb + 20 * g) h n) (wo : WO (pb + 20 * g) h2 n) : MF x pb h h2 := by
  refine ⟨fm.1, fm.2.1, fun y j q => fm.2.2.1 y j (by rintro ⟨a, b⟩; exact q ⟨by rw [a]; omega, b⟩), fun y q r => fm.2.2.2 y (fun z => by unfold FMA at z; omega), fun g2 m p c => ?_⟩
  have p2 := FM_pi fm (c := pb + 20 * g2) (by omega) (fun y a b z => by unfold FMA at z; omega) p
  refine ⟨p2, ?_⟩
  by_cases e : g2 = g
  · subst e
    have em : m = n := by have := PI_n p; have := PI_n pi; omega
    subst em
    obtain ⟨c1, c2, c3, c4⟩ := c
    have i16 : hI h2 (pb + 20 * g2 + 16) 3 = hI h (pb + 20 * g2 + 16) 3 := FM_i fm (fun z => by unfold FMA at z; omega)
    refine ⟨by rw [wo.1]; omega, by rw [i16]; exact c2, fun _ => wo, fun z => ?_⟩
    rw [i16] at z
    exact HO_rows (by funext q; exact FM_i fm (fun z => by unfold FMA at z; omega)) (by funext q; exact FM_i fm (fun z => by unfold FMA at z; omega)) (by funext q; exact FM_i fm (fun z => by unfold FMA at z; omega)) (fun y a b => fm.2.2.2 y (fun z => by unfold FMA at z; omega)) (c4 z)
  · exact CI_hi (fun y a b => fm.2.2.2 y (fun z => by unfold FMA at z; omega)) c
theorem SA_MF {x o pb : Nat} {h h2 : Hp} (m : MF x pb h h2) (s : SA x o pb h) : SA x o pb h2 := by
  obtain ⟨m1, m2, m3, m4, m5⟩ := m
  obtain ⟨sx, sm, ⟨g1, g2, g3⟩, ⟨np, e1, e2, e3, e4, e5, e6⟩, b1, b2, b3⟩ := s
  have sm2 : SM o h2 := SM_loc (fun y a b => by rw [m2]) (by funext j; exact m3 o j (by omega)) sm
  have ro : ∀ y, o ≤ y → y ≤ o + 24 → hI h2 y = hI h y := fun y a b => (m4 y (by omega) (by omega)).1
  refine ⟨?_, sm2, ⟨g1, g2, g3⟩, ⟨np, by rw [ro o (by omega) (by omega)]; exact e1, by rw [(m4 x (by omega) (by omega)).1]; exact e2, e3, by unfold hN at e4 ⊢; rw [m1]; exact e4, by unfold hS at e5 ⊢; rw [m1]; exact e5, fun g hg => ?_⟩, fun v => by rw [ro (o + 20) (by omega) (by omega)]; exact b1 v, fun v => by rw [ro (o + 13) (by omega) (by omega)]; exact b2 v, fun v => by rw [ro (o + 12) (by omega) (by omega)]; exact b3 v⟩
  · obtain ⟨a1, a2, a3, a4, ⟨a5, a6, a7, a8, a9⟩, k1, k2⟩ := sx
    have kk : ∀ k, SK k h → k = x + 4 ∨ k = x + 14 → SK k h2 := fun k s hk => by
      unfold SK
      rw [m2, m3 k 0 (by omega), m3 k 1 (by omega), m3 k 2 (by omega), m3 k 3 (by omega), m3 (k + 4) 0 (by omega), m3 (k + 4) 1 (by omega), m3 (k + 4) 2 (by omega), m3 (k + 4) 3 (by omega), m3 (k + 4) 4 (by omega)]
      exact s
    unfold SLX
    rw [m2, m3 x 0 (by omega), m3 x 1 (by omega), m3 x 2 (by omega), m3 x 3 (by omega), m3 x 4 (by omega)]
    exact ⟨a1, a2, a3, a4, ⟨a5, a6, a7, a8, a9⟩, kk _ k1 (Or.inl rfl), kk _ k2 (Or.inr rfl)⟩
  · obtain ⟨n, p1, p2, p3, p4, p5, p6, p7⟩ := e6 g hg
    obtain ⟨q1, q2⟩ := m5 g n p3 p4
    obtain ⟨k1, k2, k3⟩ := mK_rows (o := o) (fun y a b => ro y (by omega) (by omega)) (g : Int)
    have c1 : cK (pb + 20 * g) h2 = cK (pb + 20 * g) h := by funext z; show hI h2 _ _ = hI h _ _; rw [(m4 (pb + 20 * g + 1) (by omega) (by omega)).1]
    have c2 : cX (pb + 20 * g) h2 = cX (pb + 20 * g) h := by funext z; show hI h2 _ _ = hI h _ _; rw [(m4 (pb + 20 * g + 2) (by omega) (by omega)).1]
    have c3 : cE (pb + 20 * g) h2 = cE (pb + 20 * g) h := by funext z; show hI h2 _ _ = hI h _ _; rw [(m4 (pb + 20 * g + 3) (by omega) (by omega)).1]
    refine ⟨n, by rw [m3 (x + 1) g (by omega)]; exact p1, PM_loc sm2 ⟨by rw [ro (o + 1) (by omega) (by omega)], fun y z a b _ _ => by rw [ro y (by omega) (by omega)]⟩ p2, q1, q2, by rw [k1, c1]; exact p5, by rw [k2, c2]; exact p6, by rw [k3, c3]; exact p7⟩
theorem MF_re {x o pb : Nat} {h h2 : Hp} (m : MF x pb h h2) (s : SA x o pb h) : ∀ y, o ≤ y → y ≤ o + 24 → hI h2 y = hI h y := by
  obtain ⟨g1, g2, g3⟩ := s.2.2.1
  exact fun y a b => (m.2.2.2.1 y (by omega) (by omega)).1
theorem xc_begin {sc : Scr} {x o pb k gn n fu : Nat} {h : Hp} {Q : Option AV → Hp → Prop} (nm0 pl0 td0 rs0 rp0 sp0 hs0 : Nat → Int) (hk : k = x + 4 ∨ k = x + 14) (sa : SA x o pb h) (ss : SS x o h) (a5 : A5 o h gn n) (gp : GP x o pb h gn n) (hQ : ∀ h2, FM k (FMA k (pb + 20 * gn)) h h2 → WO (pb + 20 * gn) h2 n → MF x pb h h2 → MR (pb + 20 * gn) k n fu h2 (mK o h gn) (mX o h gn) (mE o h gn) 0 (s0F (bhd (mK o h gn) n (-1)) (hI h (o + 5)) nm0 pl0 td0 rs0 rp0 sp0 hs0) → AG (pb + 20 * gn) n h2 (mK o h gn) (mX o h gn) (mE o h gn) → Q none h2) : WC sc 23 [aR k, aR (pb + 20 * gn), aI fu, aR (x + 2)] h Q := by
  have sx := sa.1
  obtain ⟨g1, g2, g3⟩ := sa.2.2.1
  obtain ⟨p1, ⟨-, -, -, n60, wf, -⟩, pi, ci, aK, aX, aE⟩ := gp
  have hwc : stk (cK (pb + 20 * gn) h) n = [] := by rw [← stk_cg n aK]; exact a5.2.2
  have sk : SK k h := by rcases hk with e | e <;> rw [e]; exact sx_k1 sx; exact sx_k2 sx
  refine kc_begin pi hwc ci.2.2.1 sk (by omega) (by omega) (sx_t2 sx) (by omega) (fun h2 fm r4 r5 wo ia id ifu it ir iz nm ce ls lt => ?_)
  have mf := MF_FM hk (by omega) fm pi wo
  have eK : cK (pb + 20 * gn) h2 = cK (pb + 20 * gn) h := by funext z; exact FM_i fm (fun z => by unfold FMA at z; omega)
  have eX : cX (pb + 20 * gn) h2 = cX (pb + 20 * gn) h := by funext z; exact FM_i fm (fun z => by unfold FMA at z; omega)
  have eE : cE (pb + 20 * gn) h2 = cE (pb + 20 * gn) h := by funext z; exact FM_i fm (fun z => by unfold FMA at z; omega)
  refine hQ h2 fm wo mf ⟨FM_pi fm (by omega) (fun y a b z => by unfold FMA at z; omega) pi, by rw [eK]; exact hwc, wo, FM_sk fm (by omega) sk, r4, r5, ⟨?_, ir, ⟨it, iz⟩, fun j hj => ?_, fun j hj => ?_, fun j h1 _ => ?_, fun j hj => absurd hj (Nat.not_lt_zero j), fun _ => ⟨fun q hq m => ?_, fun q hq m => ?_⟩, fun j hj => absurd hj (Nat.not_lt_zero j)⟩, ⟨?_, by show (0 : Int) ≤ 0; omega, by show (0 : Int) ≤ _; omega, by show 0 ≤ 400; omega, Or.inl rfl⟩, id, ifu, by omega⟩ ⟨by rw [eK]; exact aK, by rw [eX]; exact aX, by rw [eE]; exact aE, wf, a5.2.2⟩
  · rw [ia]
    show e60 (bhd (cK (pb + 20 * gn) h) n (-1)) = e60 (bhd (mK o h gn) n (-1))
    rw [bhd_cg aK (WF_WFb wf) (by omega)]
  · rw [nm j hj]
    show hI h (x + 2) j = if j < 8 then hI h (o + 5) j else nm0 j
    rw [if_pos hj]; exact ss j hj
  · rw [ce j hj]
    show (0 : Int) = if j < 12 then 0 else pl0 j
    rw [if_pos hj]
  · have : (j : Int) < 0 := h1
    omega
  · rw [ls q hq]
    constructor
    · intro z; omega
    · rintro ⟨z, -⟩; exact absurd z (Nat.not_lt_zero m)
  · rw [lt q hq]
    constructor
    · intro z; omega
    · rintro ⟨z, -⟩; exact absurd z (Nat.not_lt_zero m)
  · show bhd (mK o h gn) n (-1) = 60 ∨ stm (mK o h gn) n (bhd (mK o h gn) n (-1)) = true
    rcases bhd_sp wf a5.2.2 (r := -1) (by omega) with e | ⟨q, e, st, -⟩
    · exact Or.inl e
    · right; rw [e]; exact st
theorem FG_saf {x o pb : Nat} {h h2 : Hp} (f : FG o h h2) (b12 : B01 o h2 12) (s : SA x o pb h) : SAF x o pb h h2 := by
  obtain ⟨f1, f2, f3, f4, f5, f6⟩ := f
  obtain ⟨-, -, ⟨s1, s2, s3⟩, -, b1, b2, b3⟩ := s
  refine ⟨f1, f2, f3, ⟨f6, by rw [(f4 x (by omega)).1]⟩, fun y a b => f5 y (by omega), fun y a b => (f4 y (by omega)).1, fun g n p c => CI_hi (fun y a b => f4 y (by omega)) c, ?_, ?_, b12⟩
  · intro v; rw [f5 (o + 20) (by omega)]; exact b1 v
  · intro v; rw [f5 (o + 13) (by omega)]; exact b2 v
theorem x6_saf {x o pb : Nat} {h : Hp} {v : Int} (s : SA x o pb h) : SAF x o pb h (setI h x 6 v) := by
  obtain ⟨-, -, ⟨s1, s2, s3⟩, -, b1, b2, b3⟩ := s
  refine ⟨h1_setI2, hT_setI, hR_setI, ⟨hI_ne (by omega), hI_ne2 (by omega)⟩, fun z a b => row_ne (by omega), fun z a b => row_ne (by omega), fun g n p c => CI_hi (fun z a b => ⟨row_ne (by omega), by rw [hL_setI]⟩) c, ?_, ?_, ?_⟩
  · intro w; rw [hI_ne (by omega)]; exact b1 w
  · intro w; rw [hI_ne (by omega)]; exact b2 w
  · intro w; rw [hI_ne (by omega)]; exact b3 w
theorem MR_out {c k n fu d : Nat} {h : Hp} {K X E : Int → Int} {s : St} (n60 : n ≤ 60) (m : MR c k n fu h K X E d s) : (if ¬ hI h k 12 = 0 then 1 else if hI h k 6 = -1 then 0 else 2 : Int) = outC s := by
  obtain ⟨-, -, -, -, -, -, ⟨r1, r2, -⟩, ⟨i1, -⟩, -⟩ := m
  unfold outC
  rw [r1, r2]
  by_cases f : sF s = 0
  · have nf : ¬ ¬ sF s = 0 := fun z => z f
    simp only [if_neg nf]
    rcases i1 with e | e
    · have e2 : e60 (sP s) = -1 := by unfold e60; rw [if_pos e]
      rw [if_pos e2, if_pos e]
    · have := (stm_n e).1
      have ne : ¬ sP s = 60 := by omega
      have e2 : ¬ e60 (sP s) = -1 := by unfold e60; rw [if_neg ne]; omega
      rw [if_neg e2, if_neg ne]
  · simp only [if_pos f]
/-- behind a RUN of the reference both sides show it -/
theorem run_Sim {x o pb gn n fu : Nat} {h h1 h2 : Hp} {s1 : St} {w : Int} (sa1 : SA x o pb h1) (ss1 : SS x o h1) (sb1 : SB x o h1) (sh1 : SH x o h1) (a5 : A5 o h1 gn n) (x6 : hI h1 x 6 = gn) (rk : RK (x + 4) h1 (mK o h1 gn) (mX o h1 gn) (mE o h1 gn) s1) (dn : hI h1 (x + 4) 7 = itN (sxo o h gn n) fu (s0o o h gn n)) (rec : REC (mK o h1 gn) n s1) (f2 : FG o h1 h2) (rp : RunP o h gn n fu w h2 s1) : Sim x o pb h2 := by
  obtain ⟨-, es, hv, f6, f7, f8, f9, b12, -, hst, t0, c4, c0⟩ := rp
  obtain ⟨g1, g2, g3⟩ := sa1.2.2.1
  have saf := FG_saf f2 b12 sa1
  obtain ⟨k1, k2, k3⟩ := FG_K (g := (gn : Int)) f2
  obtain ⟨q1, q2, q3, q4, q5, q6⟩ := f2
  have lo : ∀ y, y < o ∨ o + 24 < y → hI h2 y = hI h1 y := fun y a => (q4 y a).1
  refine ⟨SA_F saf sa1, ?_, ?_, ?_, ?_⟩
  · intro j hj; rw [lo (x + 2) (by omega), q5 (o + 5) (by omega)]; exact ss1 j hj
  · intro j hj; rw [lo (x + 3) (by omega), q5 (o + 14) (by omega)]; exact sb1 j hj
  · intro p; rw [(q4 x (by omega)).2, q5 (o + 13) (by omega)]; exact sh1 p
  · obtain ⟨r1, r2, ro⟩ := rk
    have ro2 : RKo (x + 4) h2 (mK o h1 gn) (mX o h1 gn) (mE o h1 gn) s1 := RKo_cg (fun d a b _ => lo _ (by omega)) (by rw [lo (x + 4) (by omega)]) ro
    refine ⟨Or.inr ⟨f6, by rw [f7, lo x (by omega)]; exact x6, by rw [f7, q6]; exact a5.1, by rw [f9, lo (x + 4) (by omega)]; exact r1, by rw [f8, lo (x + 4) (by omega)]; exact dn⟩, ?_, ⟨?_, fun z => ?_⟩, ?_⟩
    · rw [f7, k1, k2, k3]
      have := RKo_s ro2
      rw [← hv] at this
      exact this
    · have e : (hI h2 o 14).toNat = sC s1 := by rw [← hv]; rfl
      show 0 ≤ hI h2 o 14 ∧ hI h2 o 14 ≤ 400
      omega
    · show ∃ m : Nat, A5 o h2 (hI h2 o 7) m ∧ ∀ j : Nat, (j : Int) < hI h2 o 14 → stm (mK o h2 (hI h2 o 7)) m (hI h2 (o + 9) j) = true
      rw [f7, k1]
      have e : (hI h2 o 14).toNat = sC s1 := by rw [← hv]; rfl
      have er : hI h2 (o + 9) = sR s1 := by rw [← hv]; rfl
      refine ⟨n, ⟨by rw [q6]; exact a5.1, FG_pm ⟨q1, q2, q3, q4, q5, q6⟩ a5.2.1, by rw [k1]; exact a5.2.2⟩, fun j hj => ?_⟩
      rw [er]
      exact rec j (by omega)
    · have e : hI h2 o 10 = sT s1 := by rw [← hv]; rfl
      rw [e]; exact t0.1
theorem ref_same {o : Nat} {h h1 : Hp} {g : Int} {n : Nat} (r : ∀ y, o ≤ y → y ≤ o + 24 → hI h1 y = hI h y) : (mK o h1 g = mK o h g ∧ mX o h1 g = mX o h g ∧ mE o h1 g = mE o h g) ∧ sxo o h1 g n = sxo o h g n ∧ s0o o h1 g n = s0o o h g n := by
  have k := mK_rows (o := o) (fun y a b => r y (by omega) (by omega)) g
  refine ⟨k, ?_, ?_⟩
  · unfold sxo; rw [k.1, k.2.1, k.2.2]
  · unfold s0o
    rw [k.1, r (o + 5) (by omega) (by omega), r (o + 7) (by omega) (by omega), r (o + 8) (by omega) (by omega), r (o + 6) (by omega) (by omega), r (o + 9) (by omega) (by omega), r (o + 10) (by omega) (by omega), r (o + 11) (by omega) (by omega), r (o + 12) (by omega) (by omega)]
theorem SA_A5 {x o pb : Nat} {h h1 : Hp} {g : Int} {n : Nat} (sa1 : SA x o pb h1) (r : ∀ y, o ≤ y → y ≤ o + 24 → hI h1 y = hI h y) (a : A5 o h g n) : A5 o h1 g n := by
  obtain ⟨a1, a2, a3⟩ := a
  have k := (mK_rows (o := o) (fun y a b => r y (by omega) (by omega)) g).1
  refine ⟨by rw [r o (by omega) (by omega)]; exact a1, ?_, by rw [k]; exact a3⟩
  have := PM_loc (g := g.toNat) sa1.2.1 (h := h) ⟨by rw [r (o + 1) (by omega) (by omega)], fun y z a b _ _ => by rw [r y (by omega) (by omega)]⟩ (by rw [show ((g.toNat : Nat) : Int) = g by omega]; exact a2)
  rw [show ((g.toNat : Nat) : Int) = g by omega] at this
  exact this
theorem cmd_run {sc : Scr} {x o pb : Nat} {h : Hp} (sim : Sim x o pb h) (g f : Int) : CMD sc 80 162 [aI g, aI f] x o pb h := by
  obtain ⟨sa, ss, sb, sh, sr⟩ := sim
  have sim : Sim x o pb h := ⟨sa, ss, sb, sh, sr⟩
  have sxx := sa.1
  obtain ⟨g1, g2, g3⟩ := sa.2.2.1
  have noFS : ∀ h2, FO o h h2 → Sim x o pb h2 := fun h2 fo => Sim_FS (FO_FS fo) (fun v => by rw [fo.2.2.2.2.1 (o + 20) (by omega)]; exact sa.2.2.2.2.1 v) sim
  unfold CMD
  rw [wc_80]
  simp (maxSteps := 2000000) (disch := omega) only [↓wb_const, ↓wb_lconst, ↓wb_null, ↓wb_iload, ↓wb_lload, ↓wb_aload, ↓wb_istore, ↓wb_lstore, ↓wb_astore, ↓wb_iinc, ↓wb_iand, ↓wb_ior, ↓wb_ishr, ↓wb_idiv, ↓wb_irem, ↓wb_ladd, ↓wb_lsub, ↓wb_land, ↓wb_lor, ↓wb_lxor, ↓wb_lneg, ↓wb_lushr, ↓wb_lshl, ↓wb_l2i, ↓wb_lcmp, ↓wb_dupI, ↓wb_dupR, ↓wb_dup2, ↓wb_popI, ↓wb_popR, ↓wb_getI, ↓wb_getL, ↓wb_getR, ↓wb_putI, ↓wb_putZ, ↓wb_putL, ↓wb_putR, ↓wb_iaload, ↓wb_laload, ↓wb_zaload, ↓wb_aaload, ↓wb_iastore, ↓wb_lastore, ↓wb_zastore, ↓wb_aastore, ↓wb_alen, ↓wb_newI, ↓wb_newL, ↓wb_newZ, ↓wb_newA, ↓wb_new, ↓wb_obj, ↓wb_sld, ↓wb_slen, ↓wb_goto, ↓wb_ifeq, ↓wb_iceq, ↓wb_ifne, ↓wb_icne, ↓wb_iflt, ↓wb_iclt, ↓wb_ifge, ↓wb_icge, ↓wb_ifgt, ↓wb_icgt, ↓wb_ifle, ↓wb_icle, ↓wb_ifnull, ↓wb_ifnonnull, ↓wb_ret, ↓wb_iret, ↓wb_lret, ↓wb_aret, ↓wb_zret, ↓wb_tsw0, ↓wb_tsw1, ↓wb_lsw0, ↓wb_lsw1, ↓wb_calls0, ↓wb_calls1, ↓wb_callv1, ↓wb_calls2, ↓wb_callv2, ↓wb_calls3, ↓wb_callv3, ↓wb_callv4, ↓wb_callv5, ↓wb_callv6, oB_some, ldI_z, ldI_s, ldL_z, ldL_s, ldR_z, ldR_s, ls1_z, ls1_1n, ls1_1i, ls1_1r, ls1_1l, ls1_s, ls2_z, ls2_1n, ls2_1i, ls2_1r, ls2_1l, ls2_s, List.length_cons, List.length_nil, Nat.reduceAdd, Nat.reduceLT, Nat.reduceLeDiff, Nat.reduceDiv, Nat.reduceMod, Int.reduceToNat, Int.reduceAdd, Nat.zero_add, true_and, Option.toList_some, Option.toList_none, List.cons_append, List.nil_append, true_or, or_true, and_true, false_or, or_false, Int.reduceEq, Int.reduceLT, Int.reduceLE, Int.reduceNeg, not_true_eq_false, not_false_eq_true, Bool.and_eq_true, Bool.or_eq_true, decide_eq_true_eq, ↓reduceIte, b2i_0, b2i_01, b2i_01c, Nat.add_left_cancel_iff, Nat.add_eq_left, Nat.left_eq_add, Nat.reduceEqDiff, false_and, and_false, Bool.false_eq_true, Bool.true_eq_false, ↓wr_iadd, ↓wr_isub, ↓wr_imul, wr_id, ↓wl_80_0, sx_c sxx, sx_r3 sxx, sx_r1 sxx, sx_a2 sxx]
  refine xc_wAt sa (fun n a5 gp hw => ?_) (fun na => ?_)
  · obtain ⟨gn, rfl⟩ : ∃ gn : Nat, g = gn := ⟨g.toNat, by have := a5.1.1; omega⟩
    rw [Int.toNat_natCast] at gp hw ⊢
    have n60 := gp.2.2.1.2.2.1
    have n0 : (pb + 20 * gn = 0) = False := by simp; omega
    have pf := fun (Q : Option AV → Hp → Prop) => xc_isFuel (sc := sc) (h := h) (Q := Q) (f := f)
    by_cases cf : 0 ≤ f ∧ f ≤ 20000
    · obtain ⟨fu, rfl⟩ : ∃ fu : Nat, f = fu := ⟨f.toNat, by omega⟩
      rw [decide_eq_true cf] at pf
      have sk := sx_k1 sxx
      simp (maxSteps := 2000000) (disch := omega) only [↓wb_const, ↓wb_lconst, ↓wb_null, ↓wb_iload, ↓wb_lload, ↓wb_aload, ↓wb_istore, ↓wb_lstore, ↓wb_astore, ↓wb_iinc, ↓wb_iand, ↓wb_ior, ↓wb_ishr, ↓wb_idiv, ↓wb_irem, ↓wb_ladd, ↓wb_lsub, ↓wb_land, ↓wb_lor, ↓wb_lxor, ↓wb_lneg, ↓wb_lushr, ↓wb_lshl, ↓wb_l2i, ↓wb_lcmp, ↓wb_dupI, ↓wb_dupR, ↓wb_dup2, ↓wb_popI, ↓wb_popR, ↓wb_getI, ↓wb_getL, ↓wb_getR, ↓wb_putI, ↓wb_putZ, ↓wb_putL, ↓wb_putR, ↓wb_iaload, ↓wb_laload, ↓wb_zaload, ↓wb_aaload, ↓wb_iastore, ↓wb_lastore, ↓wb_zastore, ↓wb_aastore, ↓wb_alen, ↓wb_newI, ↓wb_newL, ↓wb_newZ, ↓wb_newA, ↓wb_new, ↓wb_obj, ↓wb_sld, ↓wb_slen, ↓wb_goto, ↓wb_ifeq, ↓wb_iceq, ↓wb_ifne, ↓wb_icne, ↓wb_iflt, ↓wb_iclt, ↓wb_ifge, ↓wb_icge, ↓wb_ifgt, ↓wb_icgt, ↓wb_ifle, ↓wb_icle, ↓wb_ifnull, ↓wb_ifnonnull, ↓wb_ret, ↓wb_iret, ↓wb_lret, ↓wb_aret, ↓wb_zret, ↓wb_tsw0, ↓wb_tsw1, ↓wb_lsw0, ↓wb_lsw1, ↓wb_calls0, ↓wb_calls1, ↓wb_callv1, ↓wb_calls2, ↓wb_callv2, ↓wb_calls3, ↓wb_callv3, ↓wb_callv4, ↓wb_callv5, ↓wb_callv6, oB_some, ldI_z, ldI_s, ldL_z, ldL_s, ldR_z, ldR_s, ls1_z, ls1_1n, ls1_1i, ls1_1r, ls1_1l, ls1_s, ls2_z, ls2_1n, ls2_1i, ls2_1r, ls2_1l, ls2_s, List.length_cons, List.length_nil, Nat.reduceAdd, Nat.reduceLT, Nat.reduceLeDiff, Nat.reduceDiv, Nat.reduceMod, Int.reduceToNat, Int.reduceAdd, Nat.zero_add, true_and, Option.toList_some, Option.toList_none, List.cons_append, List.nil_append, true_or, or_true, and_true, false_or, or_false, Int.reduceEq, Int.reduceLT, Int.reduceLE, Int.reduceNeg, not_true_eq_false, not_false_eq_true, Bool.and_eq_true, Bool.or_eq_true, decide_eq_true_eq, ↓reduceIte, b2i_0, b2i_01, b2i_01c, Nat.add_left_cancel_iff, Nat.add_eq_left, Nat.left_eq_add, Nat.reduceEqDiff, false_and, and_false, Bool.false_eq_true, Bool.true_eq_false, ↓wr_iadd, ↓wr_isub, ↓wr_imul, wr_id, ↓wl_80_11, sx_c sxx, sx_r3 sxx, sx_r1 sxx, sx_a2 sxx, sk_c sk, n0, ↓pf, b2i_t, Int.reduceEq, isO_setI, hR_setI]
      -- the number of the program that runs
      have safa := x6_saf (v := (gn : Int)) sa
      have saa : SA x o pb (setI h x 6 gn) := SA_F safa sa
      have reA : ∀ y, o ≤ y → y ≤ o + 24 → hI (setI h x 6 gn) y = hI h y := fun y a b => row_ne (by omega)
      have ssa : SS x o (setI h x 6 gn) := fun j hj => by rw [hI_ne (by omega), hI_ne (by omega)]; exact ss j hj
      have a5a : A5 o (setI h x 6 gn) gn n := SA_A5 saa reA a5
      have gpa := GP_F safa gp
      have x6a : hI (setI h x 6 gn) x 6 = gn := hI_eq
      have lo3 : ∀ y, ¬ y = x → hI (setI h x 6 gn) y = hI h y := fun y a => row_ne a
      have lL : hL (setI h x 6 gn) = hL h := hL_setI
      generalize setI h x 6 gn = ha at *
      refine xc_begin (hI ha (o + 7)) (hI ha (o + 8)) (hI ha (o + 6)) (hI ha (o + 9)) (hI ha (o + 10)) (hI ha (o + 11)) (hI ha (o + 12)) (Or.inl rfl) saa ssa a5a gpa (fun hb fm wo mfb mr ag => ?_)
      rw [show s0F (bhd (mK o ha gn) n (-1)) (hI ha (o + 5)) (hI ha (o + 7)) (hI ha (o + 8)) (hI ha (o + 6)) (hI ha (o + 9)) (hI ha (o + 10)) (hI ha (o + 11)) (hI ha (o + 12)) = s0o o ha gn n from rfl] at mr
      have sab := SA_MF mfb saa
      have sxb := sab.1
      have skb := sx_k1 sxb
      simp (maxSteps := 2000000) (disch := omega) only [↓wb_const, ↓wb_lconst, ↓wb_null, ↓wb_iload, ↓wb_lload, ↓wb_aload, ↓wb_istore, ↓wb_lstore, ↓wb_astore, ↓wb_iinc, ↓wb_iand, ↓wb_ior, ↓wb_ishr, ↓wb_idiv, ↓wb_irem, ↓wb_ladd, ↓wb_lsub, ↓wb_land, ↓wb_lor, ↓wb_lxor, ↓wb_lneg, ↓wb_lushr, ↓wb_lshl, ↓wb_l2i, ↓wb_lcmp, ↓wb_dupI, ↓wb_dupR, ↓wb_dup2, ↓wb_popI, ↓wb_popR, ↓wb_getI, ↓wb_getL, ↓wb_getR, ↓wb_putI, ↓wb_putZ, ↓wb_putL, ↓wb_putR, ↓wb_iaload, ↓wb_laload, ↓wb_zaload, ↓wb_aaload, ↓wb_iastore, ↓wb_lastore, ↓wb_zastore, ↓wb_aastore, ↓wb_alen, ↓wb_newI, ↓wb_newL, ↓wb_newZ, ↓wb_newA, ↓wb_new, ↓wb_obj, ↓wb_sld, ↓wb_slen, ↓wb_goto, ↓wb_ifeq, ↓wb_iceq, ↓wb_ifne, ↓wb_icne, ↓wb_iflt, ↓wb_iclt, ↓wb_ifge, ↓wb_icge, ↓wb_ifgt, ↓wb_icgt, ↓wb_ifle, ↓wb_icle, ↓wb_ifnull, ↓wb_ifnonnull, ↓wb_ret, ↓wb_iret, ↓wb_lret, ↓wb_aret, ↓wb_zret, ↓wb_tsw0, ↓wb_tsw1, ↓wb_lsw0, ↓wb_lsw1, ↓wb_calls0, ↓wb_calls1, ↓wb_callv1, ↓wb_calls2, ↓wb_callv2, ↓wb_calls3, ↓wb_callv3, ↓wb_callv4, ↓wb_callv5, ↓wb_callv6, oB_some, ldI_z, ldI_s, ldL_z, ldL_s, ldR_z, ldR_s, ls1_z, ls1_1n, ls1_1i, ls1_1r, ls1_1l, ls1_s, ls2_z, ls2_1n, ls2_1i, ls2_1r, ls2_1l, ls2_s, List.length_cons, List.length_nil, Nat.reduceAdd, Nat.reduceLT, Nat.reduceLeDiff, Nat.reduceDiv, Nat.reduceMod, Int.reduceToNat, Int.reduceAdd, Nat.zero_add, true_and, Option.toList_some, Option.toList_none, List.cons_append, List.nil_append, true_or, or_true, and_true, false_or, or_false, Int.reduceEq, Int.reduceLT, Int.reduceLE, Int.reduceNeg, not_true_eq_false, not_false_eq_true, Bool.and_eq_true, Bool.or_eq_true, decide_eq_true_eq, ↓reduceIte, b2i_0, b2i_01, b2i_01c, Nat.add_left_cancel_iff, Nat.add_eq_left, Nat.left_eq_add, Nat.reduceEqDiff, false_and, and_false, Bool.false_eq_true, Bool.true_eq_false, ↓wr_iadd, ↓wr_isub, ↓wr_imul, wr_id, sx_c sxb, sx_r3 sxb, sx_r1 sxb, sx_a2 sxb, sk_c skb]
      refine kc_finish (by omega) (by omega) n60 (by omega) ag mr (fun hc frc mrc => ?_)
      have mfc := MF_FR (pb := pb) (Or.inl rfl) (by omega) frc
      have mf := MF_tr mfb mfc
      have sac := SA_MF mf saa
      have sxc := sac.1
      have skc := sx_k1 sxc
      have po := fun (Q : Option AV → Hp → Prop) => kc_outcome (sc := sc) (Q := Q) skc
      rw [MR_out n60 mrc] at po
      simp (maxSteps := 2000000) (disch := omega) only [↓wb_const, ↓wb_lconst, ↓wb_null, ↓wb_iload, ↓wb_lload, ↓wb_aload, ↓wb_istore, ↓wb_lstore, ↓wb_astore, ↓wb_iinc, ↓wb_iand, ↓wb_ior, ↓wb_ishr, ↓wb_idiv, ↓wb_irem, ↓wb_ladd, ↓wb_lsub, ↓wb_land, ↓wb_lor, ↓wb_lxor, ↓wb_lneg, ↓wb_lushr, ↓wb_lshl, ↓wb_l2i, ↓wb_lcmp, ↓wb_dupI, ↓wb_dupR, ↓wb_dup2, ↓wb_popI, ↓wb_popR, ↓wb_getI, ↓wb_getL, ↓wb_getR, ↓wb_putI, ↓wb_putZ, ↓wb_putL, ↓wb_putR, ↓wb_iaload, ↓wb_laload, ↓wb_zaload, ↓wb_aaload, ↓wb_iastore, ↓wb_lastore, ↓wb_zastore, ↓wb_aastore, ↓wb_alen, ↓wb_newI, ↓wb_newL, ↓wb_newZ, ↓wb_newA, ↓wb_new, ↓wb_obj, ↓wb_sld, ↓wb_slen, ↓wb_goto, ↓wb_ifeq, ↓wb_iceq, ↓wb_ifne, ↓wb_icne, ↓wb_iflt, ↓wb_iclt, ↓wb_ifge, ↓wb_icge, ↓wb_ifgt, ↓wb_icgt, ↓wb_ifle, ↓wb_icle, ↓wb_ifnull, ↓wb_ifnonnull, ↓wb_ret, ↓wb_iret, ↓wb_lret, ↓wb_aret, ↓wb_zret, ↓wb_tsw0, ↓wb_tsw1, ↓wb_lsw0, ↓wb_lsw1, ↓wb_calls0, ↓wb_calls1, ↓wb_callv1, ↓wb_calls2, ↓wb_callv2, ↓wb_calls3, ↓wb_callv3, ↓wb_callv4, ↓wb_callv5, ↓wb_callv6, oB_some, ldI_z, ldI_s, ldL_z, ldL_s, ldR_z, ldR_s, ls1_z, ls1_1n, ls1_1i, ls1_1r, ls1_1l, ls1_s, ls2_z, ls2_1n, ls2_1i, ls2_1r, ls2_1l, ls2_s, List.length_cons, List.length_nil, Nat.reduceAdd, Nat.reduceLT, Nat.reduceLeDiff, Nat.reduceDiv, Nat.reduceMod, Int.reduceToNat, Int.reduceAdd, Nat.zero_add, true_and, Option.toList_some, Option.toList_none, List.cons_append, List.nil_append, true_or, or_true, and_true, false_or, or_false, Int.reduceEq, Int.reduceLT, Int.reduceLE, Int.reduceNeg, not_true_eq_false, not_false_eq_true, Bool.and_eq_true, Bool.or_eq_true, decide_eq_true_eq, ↓reduceIte, b2i_0, b2i_01, b2i_01c, Nat.add_left_cancel_iff, Nat.add_eq_left, Nat.left_eq_add, Nat.reduceEqDiff, false_and, and_false, Bool.false_eq_true, Bool.true_eq_false, ↓wr_iadd, ↓wr_isub, ↓wr_imul, wr_id, sx_c sxc, sx_r3 sxc, sx_r1 sxc, sx_a2 sxc, sk_c skc, ↓po]
      have reC := MF_re mf saa
      have reH : ∀ y, o ≤ y → y ≤ o + 24 → hI hc y = hI h y := fun y a b => by rw [reC y a b, reA y a b]
      obtain ⟨⟨k1, k2, k3⟩, es, e0⟩ := ref_same (g := (gn : Int)) (n := n) reC
      rw [show sx (mK o ha gn) (mX o ha gn) (mE o ha gn) (yes_ (mK o ha gn) (mX o ha gn) n) (no_ (mK o ha gn) n) = sxo o ha gn n from rfl, ← es, ← e0, ← k1, ← k2, ← k3] at mrc
      have a5c : A5 o hc gn n := SA_A5 sac reC a5a
      refine mc_run (SA_rg sac) sac.2.2.2.2.2.2 (fun m h2 s1 a7 rp => ?_) (fun h2 na _ => absurd ⟨a5c, cf⟩ (na n))
      have em : m = n := PM_u a7.1.2.1 a5c.2.1
      subst em
      rw [Int.toNat_natCast] at rp
      have es1 : s1 = itF (sxo o hc gn m) fu (s0o o hc gn m) := rp.2.1
      rw [Nat.zero_add, Nat.sub_zero] at mrc
      rw [← es1] at mrc
      have ee : itF (sx (mK o ha gn) (mX o ha gn) (mE o ha gn) (yes_ (mK o ha gn) (mX o ha gn) m) (no_ (mK o ha gn) m)) (fu - 0) (s0o o ha gn m) = s1 := by
        rw [es1, es, e0]; rfl
      refine ⟨outC s1, by rw [ee], rfl, ?_⟩
      obtain ⟨-, -, -, -, -, -, rk, -, dn, -, -⟩ := mrc
      refine run_Sim (fu := fu) (w := -1) sac ?_ ?_ ?_ a5c ?_ rk dn ?_ rp.1 rp
      · intro j hj; rw [(mf.2.2.2.1 (x + 2) (by omega) (by omega)).1, reC (o + 5) (by omega) (by omega)]; exact ssa j hj
      · intro j hj; rw [(mf.2.2.2.1 (x + 3) (by omega) (by omega)).1, reC (o + 14) (by omega) (by omega), lo3 (x + 3) (by omega), lo3 (o + 14) (by omega)]; exact sb j hj
      · intro p; rw [(mf.2.2.2.1 x (by omega) (by omega)).2, reC (o + 13) (by omega) (by omega), lL, lo3 (o + 13) (by omega)]; exact sh p
      · rw [(mf.2.2.2.1 x (by omega) (by omega)).1]; exact x6a
      · rw [es1]
        have wf := a5c.2.1.2.2.2.2.1
        refine itF_REC wf a5c.2.2 fu 0 _ ?_ (fun j hj => absurd hj (Nat.not_lt_zero j))
        refine ⟨?_, by show (0 : Int) ≤ 0; omega, by show (0 : Int) ≤ _; omega, by show 0 ≤ 400; omega, Or.inl rfl⟩
        show bhd (mK o hc gn) m (-1) = 60 ∨ stm (mK o hc gn) m (bhd (mK o hc gn) m (-1)) = true
        rcases bhd_sp wf a5c.2.2 (r := -1) (by omega) with e | ⟨q, e, st, -⟩
        · exact Or.inl e
        · right; rw [e]; exact st
    · rw [decide_eq_false cf] at pf
      simp (maxSteps := 2000000) (disch := omega) only [↓wb_const, ↓wb_lconst, ↓wb_null, ↓wb_iload, ↓wb_lload, ↓wb_aload, ↓wb_istore, ↓wb_lstore, ↓wb_astore, ↓wb_iinc, ↓wb_iand, ↓wb_ior, ↓wb_ishr, ↓wb_idiv, ↓wb_irem, ↓wb_ladd, ↓wb_lsub, ↓wb_land, ↓wb_lor, ↓wb_lxor, ↓wb_lneg, ↓wb_lushr, ↓wb_lshl, ↓wb_l2i, ↓wb_lcmp, ↓wb_dupI, ↓wb_dupR, ↓wb_dup2, ↓wb_popI, ↓wb_popR, ↓wb_getI, ↓wb_getL, ↓wb_getR, ↓wb_putI, ↓wb_putZ, ↓wb_putL, ↓wb_putR, ↓wb_iaload, ↓wb_laload, ↓wb_zaload, ↓wb_aaload, ↓wb_iastore, ↓wb_lastore, ↓wb_zastore, ↓wb_aastore, ↓wb_alen, ↓wb_newI, ↓wb_newL, ↓wb_newZ, ↓wb_newA, ↓wb_new, ↓wb_obj, ↓wb_sld, ↓wb_slen, ↓wb_goto, ↓wb_ifeq, ↓wb_iceq, ↓wb_ifne, ↓wb_icne, ↓wb_iflt, ↓wb_iclt, ↓wb_ifge, ↓wb_icge, ↓wb_ifgt, ↓wb_icgt, ↓wb_ifle, ↓wb_icle, ↓wb_ifnull, ↓wb_ifnonnull, ↓wb_ret, ↓wb_iret, ↓wb_lret, ↓wb_aret, ↓wb_zret, ↓wb_tsw0, ↓wb_tsw1, ↓wb_lsw0, ↓wb_lsw1, ↓wb_calls0, ↓wb_calls1, ↓wb_callv1, ↓wb_calls2, ↓wb_callv2, ↓wb_calls3, ↓wb_callv3, ↓wb_callv4, ↓wb_callv5, ↓wb_callv6, oB_some, ldI_z, ldI_s, ldL_z, ldL_s, ldR_z, ldR_s, ls1_z, ls1_1n, ls1_1i, ls1_1r, ls1_1l, ls1_s, ls2_z, ls2_1n, ls2_1i, ls2_1r, ls2_1l, ls2_s, List.length_cons, List.length_nil, Nat.reduceAdd, Nat.reduceLT, Nat.reduceLeDiff, Nat.reduceDiv, Nat.reduceMod, Int.reduceToNat, Int.reduceAdd, Nat.zero_add, true_and, Option.toList_some, Option.toList_none, List.cons_append, List.nil_append, true_or, or_true, and_true, false_or, or_false, Int.reduceEq, Int.reduceLT, Int.reduceLE, Int.reduceNeg, not_true_eq_false, not_false_eq_true, Bool.and_eq_true, Bool.or_eq_true, decide_eq_true_eq, ↓reduceIte, b2i_0, b2i_01, b2i_01c, Nat.add_left_cancel_iff, Nat.add_eq_left, Nat.left_eq_add, Nat.reduceEqDiff, false_and, and_false, Bool.false_eq_true, Bool.true_eq_false, ↓wr_iadd, ↓wr_isub, ↓wr_imul, wr_id, ↓wl_80_9, sx_c sxx, sx_r3 sxx, sx_r1 sxx, sx_a2 sxx, n0, ↓pf, b2i_f]
      refine mc_run (SA_rg sa) sa.2.2.2.2.2.2 (fun m h2 s1 a7 _ => absurd a7.2 cf) (fun h2 _ fo => ⟨_, rfl, rfl, noFS h2 fo⟩)
  · simp (maxSteps := 2000000) (disch := omega) only [↓wb_const, ↓wb_lconst, ↓wb_null, ↓wb_iload, ↓wb_lload, ↓wb_aload, ↓wb_istore, ↓wb_lstore, ↓wb_astore, ↓wb_iinc, ↓wb_iand, ↓wb_ior, ↓wb_ishr, ↓wb_idiv, ↓wb_irem, ↓wb_ladd, ↓wb_lsub, ↓wb_land, ↓wb_lor, ↓wb_lxor, ↓wb_lneg, ↓wb_lushr, ↓wb_lshl, ↓wb_l2i, ↓wb_lcmp, ↓wb_dupI, ↓wb_dupR, ↓wb_dup2, ↓wb_popI, ↓wb_popR, ↓wb_getI, ↓wb_getL, ↓wb_getR, ↓wb_putI, ↓wb_putZ, ↓wb_putL, ↓wb_putR, ↓wb_iaload, ↓wb_laload, ↓wb_zaload, ↓wb_aaload, ↓wb_iastore, ↓wb_lastore, ↓wb_zastore, ↓wb_aastore, ↓wb_alen, ↓wb_newI, ↓wb_newL, ↓wb_newZ, ↓wb_newA, ↓wb_new, ↓wb_obj, ↓wb_sld, ↓wb_slen, ↓wb_goto, ↓wb_ifeq, ↓wb_iceq, ↓wb_ifne, ↓wb_icne, ↓wb_iflt, ↓wb_iclt, ↓wb_ifge, ↓wb_icge, ↓wb_ifgt, ↓wb_icgt, ↓wb_ifle, ↓wb_icle, ↓wb_ifnull, ↓wb_ifnonnull, ↓wb_ret, ↓wb_iret, ↓wb_lret, ↓wb_aret, ↓wb_zret, ↓wb_tsw0, ↓wb_tsw1, ↓wb_lsw0, ↓wb_lsw1, ↓wb_calls0, ↓wb_calls1, ↓wb_callv1, ↓wb_calls2, ↓wb_callv2, ↓wb_calls3, ↓wb_callv3, ↓wb_callv4, ↓wb_callv5, ↓wb_callv6, oB_some, ldI_z, ldI_s, ldL_z, ldL_s, ldR_z, ldR_s, ls1_z, ls1_1n, ls1_1i, ls1_1r, ls1_1l, ls1_s, ls2_z, ls2_1n, ls2_1i, ls2_1r, ls2_1l, ls2_s, List.length_cons, List.length_nil, Nat.reduceAdd, Nat.reduceLT, Nat.reduceLeDiff, Nat.reduceDiv, Nat.reduceMod, Int.reduceToNat, Int.reduceAdd, Nat.zero_add, true_and, Option.toList_some, Option.toList_none, List.cons_append, List.nil_append, true_or, or_true, and_true, false_or, or_false, Int.reduceEq, Int.reduceLT, Int.reduceLE, Int.reduceNeg, not_true_eq_false, not_false_eq_true, Bool.and_eq_true, Bool.or_eq_true, decide_eq_true_eq, ↓reduceIte, b2i_0, b2i_01, b2i_01c, Nat.add_left_cancel_iff, Nat.add_eq_left, Nat.left_eq_add, Nat.reduceEqDiff, false_and, and_false, Bool.false_eq_true, Bool.true_eq_false, ↓wr_iadd, ↓wr_isub, ↓wr_imul, wr_id, ↓wl_80_9]
    refine mc_run (SA_rg sa) sa.2.2.2.2.2.2 (fun m h2 s1 a7 _ => absurd a7.1 (na m)) (fun h2 _ fo => ⟨_, rfl, rfl, noFS h2 fo⟩)
