/-! ===== constructors ===== -/
/-- an array made, and a field of x that shows it -/
def NA (x j t n : Nat) (h h2 : Hp) : Prop := hN h2 = hN h + 1 ∧ hS h2 = hS h + n ∧ (∀ y, hT h2 y = if y = hN h then (t, n) else hT h y) ∧ (∀ y k, hI h2 y k = if y = hN h then 0 else hI h y k) ∧ (∀ y k, hL h2 y k = if y = hN h then 0 else hL h y k) ∧ ∀ y k, hR h2 y k = if y = x ∧ k = j then hN h else if y = hN h then 0 else hR h y k
/-- an object made -/
def NB (t n : Nat) (h h2 : Hp) : Prop := hN h2 = hN h + 1 ∧ hS h2 = hS h + n ∧ (∀ y, hT h2 y = if y = hN h then (t, n) else hT h y) ∧ (∀ y k, hI h2 y k = if y = hN h then 0 else hI h y k) ∧ (∀ y k, hL h2 y k = if y = hN h then 0 else hL h y k) ∧ ∀ y k, hR h2 y k = if y = hN h then 0 else hR h y k
/-- below a nothing has changed; the next cell is b -/
def EX (a b s : Nat) (h h2 : Hp) : Prop := hN h2 = b ∧ hS h2 = hS h + s ∧ ∀ y, y < a → hT h2 y = hT h y ∧ hI h2 y = hI h y ∧ hL h2 y = hL h y ∧ hR h2 y = hR h y
theorem NB_new {h : Hp} {t n : Nat} : NB t n h (newH h t n) := ⟨rfl, rfl, fun _ => rfl, fun _ _ => rfl, fun _ _ => rfl, fun _ _ => rfl⟩
theorem st_ob {sc : Scr} {m : Nat} {c : List AI} {ls : ALS} {h : Hp} {Q : Option AV → Hp → Prop} {x : Nat} (h2 : 2 ≤ x) (k : WB sc m c (some (aR x) :: ls) [] h Q) : WB sc m ((5, 0, 0, []) :: (52, 0, 0, []) :: c) (some (aR x) :: ls) [] h Q := by
  rw [wb_aload, ldR_z, oB_some, wb_obj]
  refine ⟨?_, k⟩
  have : ¬ x = 0 := by omega
  have : ¬ x = 1 := by omega
  simp [*]
theorem st_n1 {sc : Scr} {m a a0 : Nat} {n : Int} {c : List AI} {ls : ALS} {h : Hp} {Q : Option AV → Hp → Prop} {x : Nat} (ho : isO h x (a / 64) = true) (hx : x < hN h) (h2 : 2 ≤ x) (n0 : 0 ≤ n) (n1 : n ≤ 65536) (k : ∀ h2, NA x (a % 64) 1 n.toNat h h2 → WB sc m c (some (aR x) :: ls) [] h2 Q) : WB sc m ((5, 0, 0, []) :: (0, a0, n, []) :: (47, 0, 0, []) :: (37, a, 0, []) :: c) (some (aR x) :: ls) [] h Q := by
  rw [wb_aload, ldR_z, oB_some, wb_const, wb_newI]
  refine ⟨by simp [n0, n1], ?_⟩
  rw [wb_putR]
  refine ⟨?_, k _ ⟨rfl, rfl, fun _ => rfl, fun _ _ => rfl, fun _ _ => rfl, fun _ _ => rfl⟩⟩
  have e1 : isO (newH h 1 n.toNat) x (a / 64) = true := by
    unfold isO at ho ⊢
    rw [NB_new.2.2.1 x, if_neg (by omega)]
    exact ho
  have e2 : (hN h == 1) = false := by
    have : ¬ hN h = 1 := by omega
    simpa using this
  rw [e1, e2]
  rfl
theorem st_n2 {sc : Scr} {m a a0 : Nat} {n : Int} {c : List AI} {ls : ALS} {h : Hp} {Q : Option AV → Hp → Prop} {x : Nat} (ho : isO h x (a / 64) = true) (hx : x < hN h) (h2 : 2 ≤ x) (n0 : 0 ≤ n) (n1 : n ≤ 65536) (k : ∀ h2, NA x (a % 64) 2 n.toNat h h2 → WB sc m c (some (aR x) :: ls) [] h2 Q) : WB sc m ((5, 0, 0, []) :: (0, a0, n, []) :: (48, 0, 0, []) :: (37, a, 0, []) :: c) (some (aR x) :: ls) [] h Q := by
  rw [wb_aload, ldR_z, oB_some, wb_const, wb_newL]
  refine ⟨by simp [n0, n1], ?_⟩
  rw [wb_putR]
  refine ⟨?_, k _ ⟨rfl, rfl, fun _ => rfl, fun _ _ => rfl, fun _ _ => rfl, fun _ _ => rfl⟩⟩
  have e1 : isO (newH h 2 n.toNat) x (a / 64) = true := by
    unfold isO at ho ⊢
    rw [NB_new.2.2.1 x, if_neg (by omega)]
    exact ho
  have e2 : (hN h == 1) = false := by
    have : ¬ hN h = 1 := by omega
    simpa using this
  rw [e1, e2]
  rfl
theorem st_n3 {sc : Scr} {m a a0 : Nat} {n : Int} {c : List AI} {ls : ALS} {h : Hp} {Q : Option AV → Hp → Prop} {x : Nat} (ho : isO h x (a / 64) = true) (hx : x < hN h) (h2 : 2 ≤ x) (n0 : 0 ≤ n) (n1 : n ≤ 65536) (k : ∀ h2, NA x (a % 64) 3 n.toNat h h2 → WB sc m c (some (aR x) :: ls) [] h2 Q) : WB sc m ((5, 0, 0, []) :: (0, a0, n, []) :: (49, 0, 0, []) :: (37, a, 0, []) :: c) (some (aR x) :: ls) [] h Q := by
  rw [wb_aload, ldR_z, oB_some, wb_const, wb_newZ]
  refine ⟨by simp [n0, n1], ?_⟩
  rw [wb_putR]
  refine ⟨?_, k _ ⟨rfl, rfl, fun _ => rfl, fun _ _ => rfl, fun _ _ => rfl, fun _ _ => rfl⟩⟩
  have e1 : isO (newH h 3 n.toNat) x (a / 64) = true := by
    unfold isO at ho ⊢
    rw [NB_new.2.2.1 x, if_neg (by omega)]
    exact ho
  have e2 : (hN h == 1) = false := by
    have : ¬ hN h = 1 := by omega
    simpa using this
  rw [e1, e2]
  rfl
theorem st_n4 {sc : Scr} {m a a0 : Nat} {n : Int} {c : List AI} {ls : ALS} {h : Hp} {Q : Option AV → Hp → Prop} {x : Nat} (ho : isO h x (a / 64) = true) (hx : x < hN h) (h2 : 2 ≤ x) (n0 : 0 ≤ n) (n1 : n ≤ 65536) (k : ∀ h2, NA x (a % 64) 4 n.toNat h h2 → WB sc m c (some (aR x) :: ls) [] h2 Q) : WB sc m ((5, 0, 0, []) :: (0, a0, n, []) :: (50, 0, 0, []) :: (37, a, 0, []) :: c) (some (aR x) :: ls) [] h Q := by
  rw [wb_aload, ldR_z, oB_some, wb_const, wb_newA]
  refine ⟨by simp [n0, n1], ?_⟩
  rw [wb_putR]
  refine ⟨?_, k _ ⟨rfl, rfl, fun _ => rfl, fun _ _ => rfl, fun _ _ => rfl, fun _ _ => rfl⟩⟩
  have e1 : isO (newH h 4 n.toNat) x (a / 64) = true := by
    unfold isO at ho ⊢
    rw [NB_new.2.2.1 x, if_neg (by omega)]
    exact ho
  have e2 : (hN h == 1) = false := by
    have : ¬ hN h = 1 := by omega
    simpa using this
  rw [e1, e2]
  rfl
theorem st_o {sc : Scr} {m a v cls ci : Nat} {fl : Int} {c : List AI} {ls : ALS} {h : Hp} {Q : Option AV → Hp → Prop} {x : Nat} (hc : cls = ci) (hN2 : 2 ≤ hN h) (k : ∀ h1, NB (10 + cls) fl.toNat h h1 → WC sc v [aR (hN h)] h1 fun r h2 => r = none ∧ isO h2 x (a / 64) = true ∧ WB sc m c (some (aR x) :: ls) [] (setR h2 x (a % 64) (hN h)) Q) : WB sc m ((5, 0, 0, []) :: (51, cls, fl, []) :: (28, 0, 0, []) :: (68, v, 1, [ci]) :: (37, a, 0, []) :: c) (some (aR x) :: ls) [] h Q := by
  rw [wb_aload, ldR_z, oB_some, wb_new, wb_dupR, wb_callv1]
  refine ⟨⟨by simp, ?_⟩, ?_⟩
  · unfold isO
    rw [NB_new.2.2.1 (hN h), if_pos rfl, hc]
    simp
  · refine WC_mono (k _ NB_new) (fun r h2 q => ?_)
    obtain ⟨q1, q2, q3⟩ := q
    rw [q1]
    show WB sc m ((37, a, 0, []) :: c) (some (aR x) :: ls) [aR (hN h), aR x] h2 Q
    rw [wb_putR]
    have e2 : (hN h == 1) = false := by
      have : ¬ hN h = 1 := by omega
      simpa using this
    rw [q2, e2]
    exact ⟨rfl, q3⟩
theorem st_i {sc : Scr} {m a a0 : Nat} {n : Int} {c : List AI} {ls : ALS} {h : Hp} {Q : Option AV → Hp → Prop} {x : Nat} (ho : isO h x (a / 64) = true) (k : WB sc m c (some (aR x) :: ls) [] (setI h x (a % 64) n) Q) : WB sc m ((5, 0, 0, []) :: (0, a0, n, []) :: (34, a, 0, []) :: c) (some (aR x) :: ls) [] h Q := by
  rw [wb_aload, ldR_z, oB_some, wb_const, wb_putI]
  exact ⟨ho, k⟩
theorem st_r {sc : Scr} {m : Nat} {c : List AI} {ls : ALS} {h : Hp} {Q : Option AV → Hp → Prop} (k : Q none h) : WB sc m ((60, 0, 0, []) :: c) ls [] h Q := by
  rw [wb_ret]
  exact k
theorem pw_init {sc : Scr} {w : Nat} {h : Hp} {Q : Option AV → Hp → Prop} (hn : hN h = w + 1) (ht : hT h w = (14, 6)) (hz : ∀ j, hI h w j = 0) (hzl : ∀ j, hL h w j = 0) (x2 : 2 ≤ w) (hQ : ∀ h2, EX (w) (w + 5) 240 h h2 → hT h2 (w) = (14, 6) → hT h2 (w + 1) = (1, 60) → hT h2 (w + 2) = (1, 60) → hT h2 (w + 3) = (1, 60) → hT h2 (w + 4) = (2, 60) → hR h2 (w) 0 = w + 1 → hR h2 (w) 1 = w + 2 → hR h2 (w) 2 = w + 3 → hR h2 (w) 3 = w + 4 → hI h2 (w) 4 = -1 → hI h2 (w) 5 = -1 → Q none h2) : WC sc 69 [aR w] h Q := by
  rw [wc_69, bl_69_0]
  refine st_ob x2 ?_
  have o0 : isO h w 4 = true := isO_of ht
  refine st_n1 o0 (by rw [hn]; omega) x2 (by decide) (by decide) (fun g1 n1 => ?_)
  obtain ⟨N1, S1, T1, I1, L1, R1⟩ := n1
  rw [hn] at N1 T1 I1 L1 R1
  simp only [Int.reduceToNat, Nat.reduceMod] at S1 T1 R1
  have o1 : isO g1 w 4 = true := by unfold isO at o0 ⊢; rw [T1, if_neg (by omega)]; exact o0
  refine st_n1 o1 (by rw [N1]; omega) x2 (by decide) (by decide) (fun g2 n2 => ?_)
  obtain ⟨N2, S2, T2, I2, L2, R2⟩ := n2
  rw [N1] at N2 T2 I2 L2 R2
  simp only [Int.reduceToNat, Nat.reduceMod] at S2 T2 R2
  have o2 : isO g2 w 4 = true := by unfold isO at o1 ⊢; rw [T2, if_neg (by omega)]; exact o1
  refine st_n1 o2 (by rw [N2]; omega) x2 (by decide) (by decide) (fun g3 n3 => ?_)
  obtain ⟨N3, S3, T3, I3, L3, R3⟩ := n3
  rw [N2] at N3 T3 I3 L3 R3
  simp only [Int.reduceToNat, Nat.reduceMod] at S3 T3 R3
  have o3 : isO g3 w 4 = true := by unfold isO at o2 ⊢; rw [T3, if_neg (by omega)]; exact o2
  refine st_n2 o3 (by rw [N3]; omega) x2 (by decide) (by decide) (fun g4 n4 => ?_)
  obtain ⟨N4, S4, T4, I4, L4, R4⟩ := n4
  rw [N3] at N4 T4 I4 L4 R4
  simp only [Int.reduceToNat, Nat.reduceMod] at S4 T4 R4
  have o4 : isO g4 w 4 = true := by unfold isO at o3 ⊢; rw [T4, if_neg (by omega)]; exact o3
  refine st_i o4 ?_
  obtain ⟨g5, hh5⟩ : ∃ g5, setI g4 w 4 (-1) = g5 := ⟨_, rfl⟩
  have I5 : ∀ y i, hI g5 y i = if y = w ∧ i = 4 then -1 else hI g4 y i := fun y i => by rw [← hh5]; exact hI_setI
  have P5 : hT g5 = hT g4 ∧ hL g5 = hL g4 ∧ hR g5 = hR g4 ∧ hN g5 = hN g4 ∧ hS g5 = hS g4 := by rw [← hh5]; exact ⟨hT_setI, hL_setI, hR_setI, hN_setI, hS_setI⟩
  have N5 : hN g5 = w + 5 := by rw [P5.2.2.2.1]; exact N4
  have o5 : isO g5 w 4 = true := by unfold isO at o4 ⊢; rw [P5.1]; exact o4
  first | rw [hh5] | rw [show _ = _ from hh5]
  refine st_i o5 ?_
  obtain ⟨g6, hh6⟩ : ∃ g6, setI g5 w 5 (-1) = g6 := ⟨_, rfl⟩
  have I6 : ∀ y i, hI g6 y i = if y = w ∧ i = 5 then -1 else hI g5 y i := fun y i => by rw [← hh6]; exact hI_setI
  have P6 : hT g6 = hT g5 ∧ hL g6 = hL g5 ∧ hR g6 = hR g5 ∧ hN g6 = hN g5 ∧ hS g6 = hS g5 := by rw [← hh6]; exact ⟨hT_setI, hL_setI, hR_setI, hN_setI, hS_setI⟩
  have N6 : hN g6 = w + 5 := by rw [P6.2.2.2.1]; exact N5
  have o6 : isO g6 w 4 = true := by unfold isO at o5 ⊢; rw [P6.1]; exact o5
  first | rw [hh6] | rw [show _ = _ from hh6]
  exact st_r (hQ g6 ⟨N6, by rw [P6.2.2.2.2, P5.2.2.2.2, S4, S3, S2, S1]; (try omega), fun y hy => ⟨by rw [P6.1, P5.1, T4, if_neg (by omega), T3, if_neg (by omega), T2, if_neg (by omega), T1, if_neg (by omega)], funext fun j => by rw [I6, if_neg (by omega), I5, if_neg (by omega), I4, if_neg (by omega), I3, if_neg (by omega), I2, if_neg (by omega), I1, if_neg (by omega)], funext fun j => by rw [P6.2.1, P5.2.1, L4, if_neg (by omega), L3, if_neg (by omega), L2, if_neg (by omega), L1, if_neg (by omega)], funext fun j => by rw [P6.2.2.1, P5.2.2.1, R4, if_neg (by omega), if_neg (by omega), R3, if_neg (by omega), if_neg (by omega), R2, if_neg (by omega), if_neg (by omega), R1, if_neg (by omega), if_neg (by omega)]⟩⟩
    (by rw [P6.1, P5.1, T4, if_neg (by omega), T3, if_neg (by omega), T2, if_neg (by omega), T1, if_neg (by omega)]; exact ht)
    (by rw [P6.1, P5.1, T4, if_neg (by omega), T3, if_neg (by omega), T2, if_neg (by omega), T1, if_pos rfl])
    (by rw [P6.1, P5.1, T4, if_neg (by omega), T3, if_neg (by omega), T2, if_pos rfl])
    (by rw [P6.1, P5.1, T4, if_neg (by omega), T3, if_pos rfl])
    (by rw [P6.1, P5.1, T4, if_pos rfl])
    (by rw [P6.2.2.1, P5.2.2.1, R4, if_neg (by omega), if_neg (by omega), R3, if_neg (by omega), if_neg (by omega), R2, if_neg (by omega), if_neg (by omega), R1, if_pos (And.intro rfl rfl)])
    (by rw [P6.2.2.1, P5.2.2.1, R4, if_neg (by omega), if_neg (by omega), R3, if_neg (by omega), if_neg (by omega), R2, if_pos (And.intro rfl rfl)])
    (by rw [P6.2.2.1, P5.2.2.1, R4, if_neg (by omega), if_neg (by omega), R3, if_pos (And.intro rfl rfl)])
    (by rw [P6.2.2.1, P5.2.2.1, R4, if_pos (And.intro rfl rfl)])
    (by rw [I6, if_neg (by omega), I5, if_pos (And.intro rfl rfl)])
    (by rw [I6, if_pos (And.intro rfl rfl)]))
theorem ph_init {sc : Scr} {w : Nat} {h : Hp} {Q : Option AV → Hp → Prop} (hn : hN h = w + 1) (ht : hT h w = (10, 4)) (hz : ∀ j, hI h w j = 0) (hzl : ∀ j, hL h w j = 0) (x2 : 2 ≤ w) (hQ : ∀ h2, EX (w) (w + 4) 180 h h2 → hT h2 (w) = (10, 4) → hT h2 (w + 1) = (2, 60) → hT h2 (w + 2) = (2, 60) → hT h2 (w + 3) = (2, 60) → hR h2 (w) 0 = w + 1 → hR h2 (w) 1 = w + 2 → hR h2 (w) 2 = w + 3 → hI h2 (w) 3 = -1 → Q none h2) : WC sc 12 [aR w] h Q := by
  rw [wc_12, bl_12_0]
  refine st_ob x2 ?_
  have o0 : isO h w 0 = true := isO_of ht
  refine st_n2 o0 (by rw [hn]; omega) x2 (by decide) (by decide) (fun g1 n1 => ?_)
  obtain ⟨N1, S1, T1, I1, L1, R1⟩ := n1
  rw [hn] at N1 T1 I1 L1 R1
  simp only [Int.reduceToNat, Nat.reduceMod] at S1 T1 R1
  have o1 : isO g1 w 0 = true := by unfold isO at o0 ⊢; rw [T1, if_neg (by omega)]; exact o0
  refine st_n2 o1 (by rw [N1]; omega) x2 (by decide) (by decide) (fun g2 n2 => ?_)
  obtain ⟨N2, S2, T2, I2, L2, R2⟩ := n2
  rw [N1] at N2 T2 I2 L2 R2
  simp only [Int.reduceToNat, Nat.reduceMod] at S2 T2 R2
  have o2 : isO g2 w 0 = true := by unfold isO at o1 ⊢; rw [T2, if_neg (by omega)]; exact o1
  refine st_n2 o2 (by rw [N2]; omega) x2 (by decide) (by decide) (fun g3 n3 => ?_)
  obtain ⟨N3, S3, T3, I3, L3, R3⟩ := n3
  rw [N2] at N3 T3 I3 L3 R3
  simp only [Int.reduceToNat, Nat.reduceMod] at S3 T3 R3
  have o3 : isO g3 w 0 = true := by unfold isO at o2 ⊢; rw [T3, if_neg (by omega)]; exact o2
  refine st_i o3 ?_
  obtain ⟨g4, hh4⟩ : ∃ g4, setI g3 w 3 (-1) = g4 := ⟨_, rfl⟩
  have I4 : ∀ y i, hI g4 y i = if y = w ∧ i = 3 then -1 else hI g3 y i := fun y i => by rw [← hh4]; exact hI_setI
  have P4 : hT g4 = hT g3 ∧ hL g4 = hL g3 ∧ hR g4 = hR g3 ∧ hN g4 = hN g3 ∧ hS g4 = hS g3 := by rw [← hh4]; exact ⟨hT_setI, hL_setI, hR_setI, hN_setI, hS_setI⟩
  have N4 : hN g4 = w + 4 := by rw [P4.2.2.2.1]; exact N3
  have o4 : isO g4 w 0 = true := by unfold isO at o3 ⊢; rw [P4.1]; exact o3
  first | rw [hh4] | rw [show _ = _ from hh4]
  exact st_r (hQ g4 ⟨N4, by rw [P4.2.2.2.2, S3, S2, S1]; (try omega), fun y hy => ⟨by rw [P4.1, T3, if_neg (by omega), T2, if_neg (by omega), T1, if_neg (by omega)], funext fun j => by rw [I4, if_neg (by omega), I3, if_neg (by omega), I2, if_neg (by omega), I1, if_neg (by omega)], funext fun j => by rw [P4.2.1, L3, if_neg (by omega), L2, if_neg (by omega), L1, if_neg (by omega)], funext fun j => by rw [P4.2.2.1, R3, if_neg (by omega), if_neg (by omega), R2, if_neg (by omega), if_neg (by omega), R1, if_neg (by omega), if_neg (by omega)]⟩⟩
    (by rw [P4.1, T3, if_neg (by omega), T2, if_neg (by omega), T1, if_neg (by omega)]; exact ht)
    (by rw [P4.1, T3, if_neg (by omega), T2, if_neg (by omega), T1, if_pos rfl])
    (by rw [P4.1, T3, if_neg (by omega), T2, if_pos rfl])
    (by rw [P4.1, T3, if_pos rfl])
    (by rw [P4.2.2.1, R3, if_neg (by omega), if_neg (by omega), R2, if_neg (by omega), if_neg (by omega), R1, if_pos (And.intro rfl rfl)])
    (by rw [P4.2.2.1, R3, if_neg (by omega), if_neg (by omega), R2, if_pos (And.intro rfl rfl)])
    (by rw [P4.2.2.1, R3, if_pos (And.intro rfl rfl)])
    (by rw [I4, if_pos (And.intro rfl rfl)]))
theorem ks_init {sc : Scr} {w : Nat} {h : Hp} {Q : Option AV → Hp → Prop} (hn : hN h = w + 1) (ht : hT h w = (13, 6)) (hz : ∀ j, hI h w j = 0) (hzl : ∀ j, hL h w j = 0) (x2 : 2 ≤ w) (hQ : ∀ h2, EX (w) (w + 6) 2020 h h2 → hT h2 (w) = (13, 6) → hT h2 (w + 1) = (1, 400) → hT h2 (w + 2) = (1, 1200) → hT h2 (w + 3) = (3, 400) → hT h2 (w + 4) = (1, 8) → hT h2 (w + 5) = (1, 12) → hR h2 (w) 0 = w + 1 → hR h2 (w) 1 = w + 2 → hR h2 (w) 2 = w + 3 → hR h2 (w) 3 = w + 4 → hR h2 (w) 4 = w + 5 → hI h2 (w) 5 = 0 → Q none h2) : WC sc 58 [aR w] h Q := by
  rw [wc_58, bl_58_0]
  refine st_ob x2 ?_
  have o0 : isO h w 3 = true := isO_of ht
  refine st_n1 o0 (by rw [hn]; omega) x2 (by decide) (by decide) (fun g1 n1 => ?_)
  obtain ⟨N1, S1, T1, I1, L1, R1⟩ := n1
  rw [hn] at N1 T1 I1 L1 R1
  simp only [Int.reduceToNat, Nat.reduceMod] at S1 T1 R1
  have o1 : isO g1 w 3 = true := by unfold isO at o0 ⊢; rw [T1, if_neg (by omega)]; exact o0
  refine st_n1 o1 (by rw [N1]; omega) x2 (by decide) (by decide) (fun g2 n2 => ?_)
  obtain ⟨N2, S2, T2, I2, L2, R2⟩ := n2
  rw [N1] at N2 T2 I2 L2 R2
  simp only [Int.reduceToNat, Nat.reduceMod] at S2 T2 R2
  have o2 : isO g2 w 3 = true := by unfold isO at o1 ⊢; rw [T2, if_neg (by omega)]; exact o1
  refine st_n3 o2 (by rw [N2]; omega) x2 (by decide) (by decide) (fun g3 n3 => ?_)
  obtain ⟨N3, S3, T3, I3, L3, R3⟩ := n3
  rw [N2] at N3 T3 I3 L3 R3
  simp only [Int.reduceToNat, Nat.reduceMod] at S3 T3 R3
  have o3 : isO g3 w 3 = true := by unfold isO at o2 ⊢; rw [T3, if_neg (by omega)]; exact o2
  refine st_n1 o3 (by rw [N3]; omega) x2 (by decide) (by decide) (fun g4 n4 => ?_)
  obtain ⟨N4, S4, T4, I4, L4, R4⟩ := n4
  rw [N3] at N4 T4 I4 L4 R4
  simp only [Int.reduceToNat, Nat.reduceMod] at S4 T4 R4
  have o4 : isO g4 w 3 = true := by unfold isO at o3 ⊢; rw [T4, if_neg (by omega)]; exact o3
  refine st_n1 o4 (by rw [N4]; omega) x2 (by decide) (by decide) (fun g5 n5 => ?_)
  obtain ⟨N5, S5, T5, I5, L5, R5⟩ := n5
  rw [N4] at N5 T5 I5 L5 R5
  simp only [Int.reduceToNat, Nat.reduceMod] at S5 T5 R5
  have o5 : isO g5 w 3 = true := by unfold isO at o4 ⊢; rw [T5, if_neg (by omega)]; exact o4
  exact st_r (hQ g5 ⟨N5, by rw [S5, S4, S3, S2, S1]; (try omega), fun y hy => ⟨by rw [T5, if_neg (by omega), T4, if_neg (by omega), T3, if_neg (by omega), T2, if_neg (by omega), T1, if_neg (by omega)], funext fun j => by rw [I5, if_neg (by omega), I4, if_neg (by omega), I3, if_neg (by omega), I2, if_neg (by omega), I1, if_neg (by omega)], funext fun j => by rw [L5, if_neg (by omega), L4, if_neg (by omega), L3, if_neg (by omega), L2, if_neg (by omega), L1, if_neg (by omega)], funext fun j => by rw [R5, if_neg (by omega), if_neg (by omega), R4, if_neg (by omega), if_neg (by omega), R3, if_neg (by omega), if_neg (by omega), R2, if_neg (by omega), if_neg (by omega), R1, if_neg (by omega), if_neg (by omega)]⟩⟩
    (by rw [T5, if_neg (by omega), T4, if_neg (by omega), T3, if_neg (by omega), T2, if_neg (by omega), T1, if_neg (by omega)]; exact ht)
    (by rw [T5, if_neg (by omega), T4, if_neg (by omega), T3, if_neg (by omega), T2, if_neg (by omega), T1, if_pos rfl])
    (by rw [T5, if_neg (by omega), T4, if_neg (by omega), T3, if_neg (by omega), T2, if_pos rfl])
    (by rw [T5, if_neg (by omega), T4, if_neg (by omega), T3, if_pos rfl])
    (by rw [T5, if_neg (by omega), T4, if_pos rfl])
    (by rw [T5, if_pos rfl])
    (by rw [R5, if_neg (by omega), if_neg (by omega), R4, if_neg (by omega), if_neg (by omega), R3, if_neg (by omega), if_neg (by omega), R2, if_neg (by omega), if_neg (by omega), R1, if_pos (And.intro rfl rfl)])
    (by rw [R5, if_neg (by omega), if_neg (by omega), R4, if_neg (by omega), if_neg (by omega), R3, if_neg (by omega), if_neg (by omega), R2, if_pos (And.intro rfl rfl)])
    (by rw [R5, if_neg (by omega), if_neg (by omega), R4, if_neg (by omega), if_neg (by omega), R3, if_pos (And.intro rfl rfl)])
    (by rw [R5, if_neg (by omega), if_neg (by omega), R4, if_pos (And.intro rfl rfl)])
    (by rw [R5, if_pos (And.intro rfl rfl)])
    (by rw [I5, if_neg (by omega), I4, if_neg (by omega), I3, if_neg (by omega), I2, if_neg (by omega), I1, if_neg (by omega)]; exact hz _))
theorem km_init {sc : Scr} {w : Nat} {h : Hp} {Q : Option AV → Hp → Prop} (hn : hN h = w + 1) (ht : hT h w = (11, 13)) (hz : ∀ j, hI h w j = 0) (hzl : ∀ j, hL h w j = 0) (x2 : 2 ≤ w) (hQ : ∀ h2, EX (w) (w + 10) 2346 h h2 → hT h2 (w) = (11, 13) → hT h2 (w + 1) = (1, 8) → hT h2 (w + 2) = (1, 12) → hT h2 (w + 3) = (1, 300) → hT h2 (w + 4) = (13, 6) → hT h2 (w + 5) = (1, 400) → hT h2 (w + 6) = (1, 1200) → hT h2 (w + 7) = (3, 400) → hT h2 (w + 8) = (1, 8) → hT h2 (w + 9) = (1, 12) → hR h2 (w) 0 = w + 1 → hR h2 (w) 1 = w + 2 → hR h2 (w) 2 = w + 3 → hR h2 (w) 3 = w + 4 → hR h2 (w + 4) 0 = w + 5 → hR h2 (w + 4) 1 = w + 6 → hR h2 (w + 4) 2 = w + 7 → hR h2 (w + 4) 3 = w + 8 → hR h2 (w + 4) 4 = w + 9 → hI h2 (w) 6 = -1 → hI h2 (w) 7 = 0 → hI h2 (w) 9 = 0 → hI h2 (w) 12 = 0 → hI h2 (w + 4) 5 = 0 → (∀ j, hI h2 (w + 1) j = 0) → (∀ j, hI h2 (w + 2) j = 0) → Q none h2) : WC sc 22 [aR w] h Q := by
  rw [wc_22, bl_22_0]
  refine st_ob x2 ?_
  have o0 : isO h w 1 = true := isO_of ht
  refine st_n1 o0 (by rw [hn]; omega) x2 (by decide) (by decide) (fun g1 n1 => ?_)
  obtain ⟨N1, S1, T1, I1, L1, R1⟩ := n1
  rw [hn] at N1 T1 I1 L1 R1
  simp only [Int.reduceToNat, Nat.reduceMod] at S1 T1 R1
  have o1 : isO g1 w 1 = true := by unfold isO at o0 ⊢; rw [T1, if_neg (by omega)]; exact o0
  refine st_n1 o1 (by rw [N1]; omega) x2 (by decide) (by decide) (fun g2 n2 => ?_)
  obtain ⟨N2, S2, T2, I2, L2, R2⟩ := n2
  rw [N1] at N2 T2 I2 L2 R2
  simp only [Int.reduceToNat, Nat.reduceMod] at S2 T2 R2
  have o2 : isO g2 w 1 = true := by unfold isO at o1 ⊢; rw [T2, if_neg (by omega)]; exact o1
  refine st_n1 o2 (by rw [N2]; omega) x2 (by decide) (by decide) (fun g3 n3 => ?_)
  obtain ⟨N3, S3, T3, I3, L3, R3⟩ := n3
  rw [N2] at N3 T3 I3 L3 R3
  simp only [Int.reduceToNat, Nat.reduceMod] at S3 T3 R3
  have o3 : isO g3 w 1 = true := by unfold isO at o2 ⊢; rw [T3, if_neg (by omega)]; exact o2
  refine st_o rfl (by rw [N3]; omega) (fun g4 n4 => ?_)
  obtain ⟨N4, S4, T4, I4, L4, R4⟩ := n4
  rw [N3] at N4 T4 I4 L4 R4 ⊢
  simp only [Int.reduceToNat, Nat.reduceAdd] at S4 T4
  refine ks_init N4 (by rw [T4, if_pos rfl]) (fun j => by rw [I4, if_pos rfl]) (fun j => by rw [L4, if_pos rfl]) (by omega) (fun g5 e5 w5_0 w5_1 w5_2 w5_3 w5_4 w5_5 w5_6 w5_7 w5_8 w5_9 w5_10 w5_11 => ?_)
  obtain ⟨N5, S5, E5⟩ := e5
  have o5 : isO g5 w 1 = true := by unfold isO at o3 ⊢; rw [(E5 _ (by omega)).1, T4, if_neg (by omega)]; exact o3
  refine ⟨rfl, o5, ?_⟩
  obtain ⟨g6, hh6⟩ : ∃ g6, setR g5 w 3 (w + 4) = g6 := ⟨_, rfl⟩
  have R6 : ∀ y i, hR g6 y i = if y = w ∧ i = 3 then w + 4 else hR g5 y i := fun y i => by rw [← hh6]; exact hR_setR
  have P6 : hT g6 = hT g5 ∧ hI g6 = hI g5 ∧ hL g6 = hL g5 ∧ hN g6 = hN g5 ∧ hS g6 = hS g5 := by rw [← hh6]; exact ⟨hT_setR, hI_setR, hL_setR, hN_setR, hS_setR⟩
  have N6 : hN g6 = w + 10 := by rw [P6.2.2.2.1, N5]
  have o6 : isO g6 w 1 = true := by unfold isO at o5 ⊢; rw [P6.1]; exact o5
  first | rw [hh6] | rw [show _ = _ from hh6]
  refine st_i o6 ?_
  obtain ⟨g7, hh7⟩ : ∃ g7, setI g6 w 6 (-1) = g7 := ⟨_, rfl⟩
  have I7 : ∀ y i, hI g7 y i = if y = w ∧ i = 6 then -1 else hI g6 y i := fun y i => by rw [← hh7]; exact hI_setI
  have P7 : hT g7 = hT g6 ∧ hL g7 = hL g6 ∧ hR g7 = hR g6 ∧ hN g7 = hN g6 ∧ hS g7 = hS g6 := by rw [← hh7]; exact ⟨hT_setI, hL_setI, hR_setI, hN_setI, hS_setI⟩
  have N7 : hN g7 = w + 10 := by rw [P7.2.2.2.1]; exact N6
  have o7 : isO g7 w 1 = true := by unfold isO at o6 ⊢; rw [P7.1]; exact o6
  first | rw [hh7] | rw [show _ = _ from hh7]
  refine st_i o7 ?_
  obtain ⟨g8, hh8⟩ : ∃ g8, setI g7 w 11 (-1) = g8 := ⟨_, rfl⟩
  have I8 : ∀ y i, hI g8 y i = if y = w ∧ i = 11 then -1 else hI g7 y i := fun y i => by rw [← hh8]; exact hI_setI
  have P8 : hT g8 = hT g7 ∧ hL g8 = hL g7 ∧ hR g8 = hR g7 ∧ hN g8 = hN g7 ∧ hS g8 = hS g7 := by rw [← hh8]; exact ⟨hT_setI, hL_setI, hR_setI, hN_setI, hS_setI⟩
  have N8 : hN g8 = w + 10 := by rw [P8.2.2.2.1]; exact N7
  have o8 : isO g8 w 1 = true := by unfold isO at o7 ⊢; rw [P8.1]; exact o7
  first | rw [hh8] | rw [show _ = _ from hh8]
  exact st_r (hQ g8 ⟨N8, by rw [P8.2.2.2.2, P7.2.2.2.2, P6.2.2.2.2, S5, S4, S3, S2, S1]; (try omega), fun y hy => ⟨by rw [P8.1, P7.1, P6.1, (E5 _ (by omega)).1, T4, if_neg (by omega), T3, if_neg (by omega), T2, if_neg (by omega), T1, if_neg (by omega)], funext fun j => by rw [I8, if_neg (by omega), I7, if_neg (by omega), P6.2.1, (E5 _ (by omega)).2.1, I4, if_neg (by omega), I3, if_neg (by omega), I2, if_neg (by omega), I1, if_neg (by omega)], funext fun j => by rw [P8.2.1, P7.2.1, P6.2.2.1, (E5 _ (by omega)).2.2.1, L4, if_neg (by omega), L3, if_neg (by omega), L2, if_neg (by omega), L1, if_neg (by omega)], funext fun j => by rw [P8.2.2.1, P7.2.2.1, R6, if_neg (by omega), (E5 _ (by omega)).2.2.2, R4, if_neg (by omega), R3, if_neg (by omega), if_neg (by omega), R2, if_neg (by omega), if_neg (by omega), R1, if_neg (by omega), if_neg (by omega)]⟩⟩
    (by rw [P8.1, P7.1, P6.1, (E5 _ (by omega)).1, T4, if_neg (by omega), T3, if_neg (by omega), T2, if_neg (by omega), T1, if_neg (by omega)]; exact ht)
    (by rw [P8.1, P7.1, P6.1, (E5 _ (by omega)).1, T4, if_neg (by omega), T3, if_neg (by omega), T2, if_neg (by omega), T1, if_pos rfl])
    (by rw [P8.1, P7.1, P6.1, (E5 _ (by omega)).1, T4, if_neg (by omega), T3, if_neg (by omega), T2, if_pos rfl])
    (by rw [P8.1, P7.1, P6.1, (E5 _ (by omega)).1, T4, if_neg (by omega), T3, if_pos rfl])
    (by rw [P8.1, P7.1, P6.1]; exact w5_0)
    (by rw [P8.1, P7.1, P6.1]; exact w5_1)
    (by rw [P8.1, P7.1, P6.1]; exact w5_2)
    (by rw [P8.1, P7.1, P6.1]; exact w5_3)
    (by rw [P8.1, P7.1, P6.1]; exact w5_4)
    (by rw [P8.1, P7.1, P6.1]; exact w5_5)
    (by rw [P8.2.2.1, P7.2.2.1, R6, if_neg (by omega), (E5 _ (by omega)).2.2.2, R4, if_neg (by omega), R3, if_neg (by omega), if_neg (by omega), R2, if_neg (by omega), if_neg (by omega), R1, if_pos (And.intro rfl rfl)])
    (by rw [P8.2.2.1, P7.2.2.1, R6, if_neg (by omega), (E5 _ (by omega)).2.2.2, R4, if_neg (by omega), R3, if_neg (by omega), if_neg (by omega), R2, if_pos (And.intro rfl rfl)])
    (by rw [P8.2.2.1, P7.2.2.1, R6, if_neg (by omega), (E5 _ (by omega)).2.2.2, R4, if_neg (by omega), R3, if_pos (And.intro rfl rfl)])
    (by rw [P8.2.2.1, P7.2.2.1, R6, if_pos (And.intro rfl rfl)])
    (by rw [P8.2.2.1, P7.2.2.1, R6, if_neg (by omega)]; exact w5_6)
    (by rw [P8.2.2.1, P7.2.2.1, R6, if_neg (by omega)]; exact w5_7)
    (by rw [P8.2.2.1, P7.2.2.1, R6, if_neg (by omega)]; exact w5_8)
    (by rw [P8.2.2.1, P7.2.2.1, R6, if_neg (by omega)]; exact w5_9)
    (by rw [P8.2.2.1, P7.2.2.1, R6, if_neg (by omega)]; exact w5_10)
    (by rw [I8, if_neg (by omega), I7, if_pos (And.intro rfl rfl)])
    (by rw [I8, if_neg (by omega), I7, if_neg (by omega), P6.2.1, (E5 _ (by omega)).2.1, I4, if_neg (by omega), I3, if_neg (by omega), I2, if_neg (by omega), I1, if_neg (by omega)]; exact hz _)
    (by rw [I8, if_neg (by omega), I7, if_neg (by omega), P6.2.1, (E5 _ (by omega)).2.1, I4, if_neg (by omega), I3, if_neg (by omega), I2, if_neg (by omega), I1, if_neg (by omega)]; exact hz _)
    (by rw [I8, if_neg (by omega), I7, if_neg (by omega), P6.2.1, (E5 _ (by omega)).2.1, I4, if_neg (by omega), I3, if_neg (by omega), I2, if_neg (by omega), I1, if_neg (by omega)]; exact hz _)
    (by rw [I8, if_neg (by omega), I7, if_neg (by omega), P6.2.1]; exact w5_11)
    (fun j => by rw [I8, if_neg (by omega), I7, if_neg (by omega), P6.2.1, (E5 _ (by omega)).2.1, I4, if_neg (by omega), I3, if_neg (by omega), I2, if_neg (by omega), I1, if_pos rfl])
    (fun j => by rw [I8, if_neg (by omega), I7, if_neg (by omega), P6.2.1, (E5 _ (by omega)).2.1, I4, if_neg (by omega), I3, if_neg (by omega), I2, if_pos rfl]))
