/-! ===== the class: Program's constructor ===== -/
def AR (w m : Nat) (h0 h : Hp) : Prop := hN h = w + 1 + m ∧ hS h = hS h0 + 60 * m ∧ hT h w = (12, 15) ∧ (∀ j, hI h w j = 0) ∧ (∀ i, i < m → hT h (w + 1 + i) = (1, 60)) ∧ (∀ i, i < m → hR h w i = w + 1 + i) ∧ ∀ y, y < w → hT h y = hT h0 y ∧ hI h y = hI h0 y ∧ hL h y = hL h0 y ∧ hR h y = hR h0 y
theorem AR_s {w m : Nat} {h0 h h2 : Hp} (a : AR w m h0 h) (n : NA w m 1 60 h h2) : AR w (m + 1) h0 h2 := by
  obtain ⟨a1, a2, a3, a4, a5, a6, a7⟩ := a
  obtain ⟨n1, n2, n3, n4, n5, n6⟩ := n
  rw [a1] at n1 n3 n4 n5 n6
  refine ⟨by omega, by omega, by rw [n3, if_neg (by omega)]; exact a3, fun j => by rw [n4, if_neg (by omega)]; exact a4 j, fun i hi => ?_, fun i hi => ?_, fun y hy => ?_⟩
  · rw [n3]
    by_cases e : i = m
    · rw [if_pos (by omega)]
    · rw [if_neg (by omega)]; exact a5 i (by omega)
  · rw [n6]
    by_cases e : i = m
    · rw [if_pos ⟨rfl, e⟩, e]
    · rw [if_neg (fun z => e z.2), if_neg (by omega)]; exact a6 i (by omega)
  · obtain ⟨b1, b2, b3, b4⟩ := a7 y hy
    refine ⟨by rw [n3, if_neg (by omega)]; exact b1, funext fun j => by rw [n4, if_neg (by omega), b2], funext fun j => by rw [n5, if_neg (by omega), b3], funext fun j => ?_⟩
    rw [n6, if_neg (by omega), if_neg (by omega), b4]
theorem AR_o {w m : Nat} {h0 h : Hp} (a : AR w m h0 h) : isO h w 2 = true := isO_of a.2.2.1
theorem AR_n {w m : Nat} {h0 h : Hp} (a : AR w m h0 h) : w < hN h := by rw [a.1]; omega
/-- behind Ways -/
def AW (w : Nat) (h0 h : Hp) : Prop := hN h = w + 16 ∧ hS h = hS h0 + 846 ∧ hT h w = (12, 15) ∧ (∀ j, hI h w j = 0) ∧ (∀ i, i < 10 → hT h (w + 1 + i) = (1, 60)) ∧ (∀ i, i < 10 → hR h w i = w + 1 + i) ∧ (∀ y, y < w → hT h y = hT h0 y ∧ hI h y = hI h0 y ∧ hL h y = hL h0 y ∧ hR h y = hR h0 y) ∧ hR h w 10 = w + 11 ∧ (hT h (w + 11) = (14, 6) ∧ hT h (w + 12) = (1, 60) ∧ hT h (w + 13) = (1, 60) ∧ hT h (w + 14) = (1, 60) ∧ hT h (w + 15) = (2, 60)) ∧ (hR h (w + 11) 0 = w + 12 ∧ hR h (w + 11) 1 = w + 13 ∧ hR h (w + 11) 2 = w + 14 ∧ hR h (w + 11) 3 = w + 15) ∧ hI h (w + 11) 5 = -1
theorem AW_mk {w : Nat} {h0 h h1 h2 : Hp} (a : AR w 10 h0 h) (n : NB 14 6 h h1) (e : EX (w + 11) (w + 16) 240 h1 h2) (t0 : hT h2 (w + 11) = (14, 6)) (t1 : hT h2 (w + 12) = (1, 60)) (t2 : hT h2 (w + 13) = (1, 60)) (t3 : hT h2 (w + 14) = (1, 60)) (t4 : hT h2 (w + 15) = (2, 60)) (r0 : hR h2 (w + 11) 0 = w + 12) (r1 : hR h2 (w + 11) 1 = w + 13) (r2 : hR h2 (w + 11) 2 = w + 14) (r3 : hR h2 (w + 11) 3 = w + 15) (i5 : hI h2 (w + 11) 5 = -1) : AW w h0 (setR h2 w 10 (w + 11)) := by
  obtain ⟨a1, a2, a3, a4, a5, a6, a7⟩ := a
  obtain ⟨n1, n2, n3, n4, n5, n6⟩ := n
  obtain ⟨e1, e2, e3⟩ := e
  rw [a1] at n1 n3 n4 n5 n6
  refine ⟨?_, ?_, ?_, fun j => ?_, fun i hi => ?_, fun i hi => ?_, fun y hy => ?_, ?_, ⟨?_, ?_, ?_, ?_, ?_⟩, ⟨?_, ?_, ?_, ?_⟩, ?_⟩
  · rw [hN_setR]; exact e1
  · rw [hS_setR]; omega
  · rw [hT_setR, (e3 w (by omega)).1, n3, if_neg (by omega)]; exact a3
  · rw [hI_setR, (e3 w (by omega)).2.1, n4, if_neg (by omega)]; exact a4 j
  · rw [hT_setR, (e3 (w + 1 + i) (by omega)).1, n3, if_neg (by omega)]; exact a5 i hi
  · rw [hR_setR, if_neg (by omega), (e3 w (by omega)).2.2.2, n6, if_neg (by omega)]; exact a6 i hi
  · obtain ⟨b1, b2, b3, b4⟩ := a7 y hy
    obtain ⟨c1, c2, c3, c4⟩ := e3 y (by omega)
    refine ⟨by rw [hT_setR, c1, n3, if_neg (by omega)]; exact b1, funext fun j => by rw [hI_setR, c2, n4, if_neg (by omega), b2], funext fun j => by rw [hL_setR, c3, n5, if_neg (by omega), b3], funext fun j => ?_⟩
    rw [hR_setR, if_neg (by omega), c4, n6, if_neg (by omega), b4]
  · rw [hR_setR, if_pos ⟨rfl, rfl⟩]
  · rw [hT_setR]; exact t0
  · rw [hT_setR]; exact t1
  · rw [hT_setR]; exact t2
  · rw [hT_setR]; exact t3
  · rw [hT_setR]; exact t4
  · rw [hR_setR, if_neg (by omega)]; exact r0
  · rw [hR_setR, if_neg (by omega)]; exact r1
  · rw [hR_setR, if_neg (by omega)]; exact r2
  · rw [hR_setR, if_neg (by omega)]; exact r3
  · rw [hI_setR]; exact i5
/-- a new Program -/
def NP (w : Nat) (h0 h : Hp) : Prop := EX w (w + 20) 1030 h0 h ∧ SP w h ∧ hI h w 12 = 0 ∧ hI h w 13 = -1 ∧ hI h w 14 = 0 ∧ hI h (w + 11) 5 = -1 ∧ hI h (w + 16) 3 = -1
theorem NP_mk {w : Nat} {h0 h h1 h2 : Hp} (a : AW w h0 h) (n : NB 10 4 h h1) (e : EX (w + 16) (w + 20) 180 h1 h2) (t0 : hT h2 (w + 16) = (10, 4)) (t1 : hT h2 (w + 17) = (2, 60)) (t2 : hT h2 (w + 18) = (2, 60)) (t3 : hT h2 (w + 19) = (2, 60)) (r0 : hR h2 (w + 16) 0 = w + 17) (r1 : hR h2 (w + 16) 1 = w + 18) (r2 : hR h2 (w + 16) 2 = w + 19) (i3 : hI h2 (w + 16) 3 = -1) : isO h2 w 2 = true ∧ NP w h0 (setI (setR h2 w 11 (w + 16)) w 13 (-1)) := by
  obtain ⟨a1, a2, a3, a4, a5, a6, a7, a8, ⟨a9, a10, a11, a12, a13⟩, ⟨a14, a15, a16, a17⟩, a18⟩ := a
  obtain ⟨n1, n2, n3, n4, n5, n6⟩ := n
  obtain ⟨e1, e2, e3⟩ := e
  rw [a1] at n1 n3 n4 n5 n6
  have tt : ∀ y, y < w + 16 → hT (setI (setR h2 w 11 (w + 16)) w 13 (-1)) y = hT h y := fun y hy => by rw [hT_setI, hT_setR, (e3 y hy).1, n3, if_neg (by omega)]
  have rr : ∀ y j, y < w + 16 → ¬ (y = w ∧ j = 11) → hR (setI (setR h2 w 11 (w + 16)) w 13 (-1)) y j = hR h y j := fun y j hy nj => by rw [hR_setI, hR_setR, if_neg nj, (e3 y hy).2.2.2, n6, if_neg (by omega)]
  have ii : ∀ y j, y < w + 16 → ¬ (y = w ∧ j = 13) → hI (setI (setR h2 w 11 (w + 16)) w 13 (-1)) y j = hI h y j := fun y j hy nj => by rw [hI_setI, if_neg nj, hI_setR, (e3 y hy).2.1, n4, if_neg (by omega)]
  have t5 : ∀ i, i < 10 → hT (setI (setR h2 w 11 (w + 16)) w 13 (-1)) (w + (1 + i)) = (1, 60) := fun i hi => by rw [tt _ (by omega), show w + (1 + i) = w + 1 + i by omega]; exact a5 i hi
  have r5 : ∀ i, i < 10 → hR (setI (setR h2 w 11 (w + 16)) w 13 (-1)) w i = w + (1 + i) := fun i hi => by rw [rr _ _ (by omega) (by omega), a6 i hi]; omega
  refine ⟨?_, ⟨?_, ?_, fun y hy => ?_⟩, ?_, ?_, ?_, ?_, ?_, ?_⟩
  · refine isO_of (n := 15) ?_
    rw [(e3 w (by omega)).1, n3, if_neg (by omega)]; exact a3
  · rw [hN_setI, hN_setR]; exact e1
  · rw [hS_setI, hS_setR]; omega
  · obtain ⟨b1, b2, b3, b4⟩ := a7 y hy
    refine ⟨by rw [tt _ (by omega)]; exact b1, funext fun j => by rw [ii _ _ (by omega) (by omega), b2], funext fun j => ?_, funext fun j => by rw [rr _ _ (by omega) (by omega), b4]⟩
    rw [hL_setI, hL_setR, (e3 y (by omega)).2.2.1, n5, if_neg (by omega), b3]
  · refine ⟨by rw [tt _ (by omega)]; exact a3, t5 0 (by omega), t5 1 (by omega), t5 2 (by omega), t5 3 (by omega), t5 4 (by omega), t5 5 (by omega), t5 6 (by omega), t5 7 (by omega), t5 8 (by omega), t5 9 (by omega), by rw [tt _ (by omega)]; exact a9, by rw [tt _ (by omega)]; exact a10, by rw [tt _ (by omega)]; exact a11, by rw [tt _ (by omega)]; exact a12, by rw [tt _ (by omega)]; exact a13, ?_, ?_, ?_, ?_, r5 0 (by omega), r5 1 (by omega), r5 2 (by omega), r5 3 (by omega), r5 4 (by omega), r5 5 (by omega), r5 6 (by omega), r5 7 (by omega), r5 8 (by omega), r5 9 (by omega), by rw [rr _ _ (by omega) (by omega)]; exact a8, ?_, by rw [rr _ _ (by omega) (by omega)]; exact a14, by rw [rr _ _ (by omega) (by omega)]; exact a15, by rw [rr _ _ (by omega) (by omega)]; exact a16, by rw [rr _ _ (by omega) (by omega)]; exact a17, ?_, ?_, ?_⟩
    · rw [hT_setI, hT_setR]; exact t0
    · rw [hT_setI, hT_setR]; exact t1
    · rw [hT_setI, hT_setR]; exact t2
    · rw [hT_setI, hT_setR]; exact t3
    · rw [hR_setI, hR_setR, if_pos ⟨rfl, rfl⟩]
    · rw [hR_setI, hR_setR, if_neg (by omega)]; exact r0
    · rw [hR_setI, hR_setR, if_neg (by omega)]; exact r1
    · rw [hR_setI, hR_setR, if_neg (by omega)]; exact r2
  · rw [ii _ _ (by omega) (by omega)]; exact a4 12
  · rw [hI_eq]
  · rw [ii _ _ (by omega) (by omega)]; exact a4 14
  · rw [ii _ _ (by omega) (by omega)]; exact a18
  · rw [hI_ne (by omega), hI_setR]; exact i3
theorem pp_init {sc : Scr} {w : Nat} {h : Hp} {Q : Option AV → Hp → Prop} (hn : hN h = w + 1) (ht : hT h w = (12, 15)) (hz : ∀ j, hI h w j = 0) (x2 : 2 ≤ w) (hQ : ∀ h2, NP w h h2 → Q none h2) : WC sc 35 [aR w] h Q := by
  rw [wc_35, bl_35_0]
  refine st_ob x2 ?_
  have a0 : AR w 0 h h := ⟨hn, rfl, ht, hz, fun i hi => by omega, fun i hi => by omega, fun y _ => ⟨rfl, rfl, rfl, rfl⟩⟩
  refine st_n1 (AR_o a0) (AR_n a0) x2 (by decide) (by decide) (fun g1 n1 => ?_)
  have a1 := AR_s a0 n1
  refine st_n1 (AR_o a1) (AR_n a1) x2 (by decide) (by decide) (fun g2 n2 => ?_)
  have a2 := AR_s a1 n2
  refine st_n1 (AR_o a2) (AR_n a2) x2 (by decide) (by decide) (fun g3 n3 => ?_)
  have a3 := AR_s a2 n3
  refine st_n1 (AR_o a3) (AR_n a3) x2 (by decide) (by decide) (fun g4 n4 => ?_)
  have a4 := AR_s a3 n4
  refine st_n1 (AR_o a4) (AR_n a4) x2 (by decide) (by decide) (fun g5 n5 => ?_)
  have a5 := AR_s a4 n5
  refine st_n1 (AR_o a5) (AR_n a5) x2 (by decide) (by decide) (fun g6 n6 => ?_)
  have a6 := AR_s a5 n6
  refine st_n1 (AR_o a6) (AR_n a6) x2 (by decide) (by decide) (fun g7 n7 => ?_)
  have a7 := AR_s a6 n7
  refine st_n1 (AR_o a7) (AR_n a7) x2 (by decide) (by decide) (fun g8 n8 => ?_)
  have a8 := AR_s a7 n8
  refine st_n1 (AR_o a8) (AR_n a8) x2 (by decide) (by decide) (fun g9 n9 => ?_)
  have a9 := AR_s a8 n9
  refine st_n1 (AR_o a9) (AR_n a9) x2 (by decide) (by decide) (fun g10 n10 => ?_)
  have a10 : AR w 10 h g10 := AR_s a9 n10
  clear n1 n2 n3 n4 n5 n6 n7 n8 n9 n10 a0 a1 a2 a3 a4 a5 a6 a7 a8 a9
  have hN10 : hN g10 = w + 11 := a10.1
  refine st_o rfl (by rw [hN10]; omega) (fun h1 nb => ?_)
  rw [hN10]
  have nb' : NB 14 6 g10 h1 := nb
  obtain ⟨m1, m2, m3, m4, m5, m6⟩ := nb
  rw [hN10] at m1 m3 m4 m5
  refine pw_init m1 (by rw [m3, if_pos rfl]; rfl) (fun j => by rw [m4, if_pos rfl]) (fun j => by rw [m5, if_pos rfl]) (by omega) (fun h2 e t0 t1 t2 t3 t4 r0 r1 r2 r3 i4 i5 => ?_)
  have ow : isO h2 w 2 = true := isO_of (n := 15) (by rw [(e.2.2 w (by omega)).1, m3, if_neg (by omega)]; exact a10.2.2.1)
  refine ⟨rfl, ow, ?_⟩
  have aw := AW_mk a10 nb' e t0 t1 t2 t3 t4 r0 r1 r2 r3 i5
  show WB sc 35 _ _ _ (setR h2 w 10 (w + 11)) Q
  generalize setR h2 w 10 (w + 11) = g11 at *
  clear nb' m1 m2 m3 m4 m5 m6 e t0 t1 t2 t3 t4 r0 r1 r2 r3 i4 i5 ow a10 hN10
  have hN11 : hN g11 = w + 16 := aw.1
  refine st_o rfl (by rw [hN11]; omega) (fun h3 nb => ?_)
  rw [hN11]
  have nb' : NB 10 4 g11 h3 := nb
  obtain ⟨m1, m2, m3, m4, m5, m6⟩ := nb
  rw [hN11] at m1 m3 m4 m5
  refine ph_init m1 (by rw [m3, if_pos rfl]; rfl) (fun j => by rw [m4, if_pos rfl]) (fun j => by rw [m5, if_pos rfl]) (by omega) (fun h4 e t0 t1 t2 t3 r0 r1 r2 i3 => ?_)
  obtain ⟨ow, np⟩ := NP_mk aw nb' e t0 t1 t2 t3 r0 r1 r2 i3
  refine ⟨rfl, ow, ?_⟩
  show WB sc 35 _ _ _ (setR h4 w 11 (w + 16)) Q
  refine st_i ?_ ?_
  · rw [isO_setR]; exact ow
  · exact st_r (hQ _ np)
