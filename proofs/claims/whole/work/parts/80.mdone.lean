/-! ===== the reference: done ===== -/
/-- behind the note -/
def ntHH (o : Nat) (h : Hp) (rc p : Nat) (z : Int) : Hp := if rc < 400 then ntH o h rc p z else h
theorem ntHH_FD {o : Nat} {h : Hp} {rc p : Nat} {z : Int} : FD o h (ntHH o h rc p z) := by
  unfold ntHH
  split
  · unfold ntH
    exact FD_tr (FD_tr (FD_tr (FD_tr (FD_c (by omega)) (FD_c (by omega))) (FD_c (by omega))) (FD_c (by omega))) (FD_f (by omega))
  · exact FD_rf
theorem ntHH_f {o j : Nat} {h : Hp} {rc p : Nat} {z : Int} (hj : ¬ j = 14) : hI (ntHH o h rc p z) o j = hI h o j := by
  unfold ntHH
  split
  · unfold ntH
    rw [hI_ne2 hj, hI_ne (by omega), hI_ne (by omega), hI_ne (by omega), hI_ne (by omega)]
  · rfl
theorem ntHH_14 {o : Nat} {h : Hp} {rc p : Nat} {z : Int} (hr : hI h o 14 = rc) (r4 : rc ≤ 400) : hI (ntHH o h rc p z) o 14 = (if rc < 400 then (rc : Int) + 1 else 400) := by
  unfold ntHH
  split
  · unfold ntH
    rw [hI_eq]
  · rw [hr]; omega
theorem ntHH_vw {o : Nat} {h : Hp} {rc p : Nat} {k v : Int} (hr : hI h o 14 = rc) : vw o (ntHH o h rc p (rpV (hI h (o + 7)) k v)) p = ntS (vw o h p) k v := by
  have hc : sC (vw o h p) = rc := by show (hI h o 14).toNat = rc; rw [hr]; rfl
  unfold ntS
  rw [hc]
  unfold ntHH
  by_cases e : rc < 400
  · rw [if_pos e, if_pos e]
    unfold ntH vw sP sF sT sN sL sD sR sQ sS sH
    simp only [Int.toNat_natCast]
    rw [hI_eq, hI_ne2 (by omega), hI_ne (by omega), hI_ne (by omega), hI_ne (by omega), hI_ne (by omega), hI_ne2 (by omega), hI_ne (by omega), hI_ne (by omega), hI_ne (by omega), hI_ne (by omega)]
    rw [row_ne (by omega), row_ne (by omega), row_ne (by omega), row_ne (by omega), row_ne (by omega)]
    rw [row_ne (by omega), row_ne (by omega), row_ne (by omega), row_ne (by omega), row_ne (by omega)]
    rw [row_ne (by omega), row_ne (by omega), row_ne (by omega), row_ne (by omega), row_ne (by omega)]
    rw [row_ne (by omega), row_ne (by omega), row_ne (by omega), row_ne (by omega), row_set]
    rw [row_ne (by omega), row_ne (by omega), row_ne (by omega), row_set, row_ne (by omega)]
    rw [row_ne (by omega), row_ne (by omega), row_set, row_ne (by omega), row_ne (by omega)]
    rw [row_ne (by omega), row_set, row_ne (by omega), row_ne (by omega), row_ne (by omega)]
    rw [show ((rc : Int) + 1).toNat = rc + 1 by omega]
  · rw [if_neg e, if_neg e]
theorem rpF_v {o : Nat} {h : Hp} {i : Int} : rpF o h i = rpV (hI h (o + 7)) (hI h (o + 2) i.toNat) (hI h (o + 4) i.toNat) := rfl
/-- the numbers seen -/
def seH (o : Nat) (h : Hp) (p w v : Int) : Hp := if p = w then setI (setI h (o + 23) (hI h o 34).toNat v) o 34 (hI h o 34 + 1) else h
theorem seH_FD {o : Nat} {h : Hp} {p w v : Int} : FD o h (seH o h p w v) := by
  unfold seH
  split
  · exact FD_tr (FD_c (by omega)) (FD_f (by omega))
  · exact FD_rf
theorem seH_f {o j : Nat} {h : Hp} {p w v : Int} (hj : ¬ j = 34) : hI (seH o h p w v) o j = hI h o j := by
  unfold seH
  split
  · rw [hI_ne2 hj, hI_ne (by omega)]
  · rfl
theorem seH_r {o y : Nat} {h : Hp} {p w v : Int} (hy : ¬ y = o) (hy2 : ¬ y = o + 23) : hI (seH o h p w v) y = hI h y := by
  unfold seH
  split
  · rw [row_ne hy, row_ne hy2]
  · rfl
theorem seH_vw {o : Nat} {h : Hp} {p w v : Int} {q : Int} : vw o (seH o h p w v) q = vw o h q := by
  unfold vw
  rw [seH_f (by omega), seH_f (by omega), seH_f (by omega), seH_r (by omega) (by omega), seH_r (by omega) (by omega), seH_r (by omega) (by omega), seH_r (by omega) (by omega), seH_r (by omega) (by omega), seH_r (by omega) (by omega), seH_r (by omega) (by omega)]
theorem dnT_c {o : Nat} {h : Hp} {k u v pl : Int} {rc : Nat} {nt : Bool} {P : Hp → Prop} (a : P (setI (setI h (o + 7) u.toNat v) (o + 12) rc (orI (hI h (o + 12) rc) (b2i nt)))) (b : ∀ z, P (setI (setI h (o + 8) (4 * remI u 4 + pl).toNat v) (o + 11) rc z)) (c : P (setI (setI h (o + 6) (hI h o 10).toNat v) o 10 (hI h o 10 + 1))) (d : P (setI h o 10 (hI h o 10 + 1))) (e : P h) : P (dnT o h k u v pl rc nt) := by
  unfold dnT
  by_cases k0 : k = 0
  · rw [if_pos k0]; exact a
  · rw [if_neg k0]
    by_cases k1 : k = 1
    · rw [if_pos k1]; exact b _
    · rw [if_neg k1]
      by_cases k2 : k = 2
      · rw [if_pos k2]
        by_cases t : hI h o 10 < 300
        · rw [if_pos t]; exact c
        · rw [if_neg t]; exact d
      · rw [if_neg k2]; exact e
theorem dnT_FD {o : Nat} {h : Hp} {k u v pl : Int} {rc : Nat} {nt : Bool} : FD o h (dnT o h k u v pl rc nt) := by
  refine dnT_c (P := fun z => FD o h z) ?_ (fun z => ?_) ?_ ?_ FD_rf
  · exact FD_tr (FD_c (by omega)) (FD_c (by omega))
  · exact FD_tr (FD_c (by omega)) (FD_c (by omega))
  · exact FD_tr (FD_c (by omega)) (FD_f (by omega))
  · exact FD_f (by omega)
theorem dnT_f {o j : Nat} {h : Hp} {k u v pl : Int} {rc : Nat} {nt : Bool} (hj : ¬ j = 10) : hI (dnT o h k u v pl rc nt) o j = hI h o j := by
  refine dnT_c (P := fun z => hI z o j = hI h o j) ?_ (fun z => ?_) ?_ ?_ rfl
  · rw [hI_ne (by omega), hI_ne (by omega)]
  · rw [hI_ne (by omega), hI_ne (by omega)]
  · rw [hI_ne2 hj, hI_ne (by omega)]
  · rw [hI_ne2 hj]
theorem dnT_23 {o : Nat} {h : Hp} {k u v pl : Int} {rc : Nat} {nt : Bool} : hI (dnT o h k u v pl rc nt) (o + 23) = hI h (o + 23) := by
  refine dnT_c (P := fun z => hI z (o + 23) = hI h (o + 23)) ?_ (fun z => ?_) ?_ ?_ rfl
  · rw [row_ne (by omega), row_ne (by omega)]
  · rw [row_ne (by omega), row_ne (by omega)]
  · rw [row_ne (by omega), row_ne (by omega)]
  · rw [row_ne (by omega)]
theorem dnT_12 {o : Nat} {h : Hp} {k u v pl : Int} {rc : Nat} {nt : Bool} (b : B01 o h 12) : B01 o (dnT o h k u v pl rc nt) 12 := by
  intro j
  refine dnT_c (P := fun z => hI z (o + 12) j = 0 ∨ hI z (o + 12) j = 1) ?_ (fun z => ?_) ?_ ?_ (b j)
  · rw [hI_setI]
    split
    · rw [orI_b (b rc) b2i_01']; split <;> simp
    · rw [hI_ne (by omega)]; exact b j
  · rw [hI_ne (by omega), hI_ne (by omega)]; exact b j
  · rw [hI_ne (by omega), hI_ne (by omega)]; exact b j
  · rw [hI_ne (by omega)]; exact b j
/-- the step's end, as a state -/
theorem dnT_vw {o : Nat} {h : Hp} {k u v y m : Int} {p : Int} {rc ri : Nat} {nt : Bool} {s : St} (hs : vw o h p = ntS s k v) (hf : hI h o 32 = 0) (hc : sC s = rc) (hnt : nt = decide (rc < 400)) (hri : ri = if rc < 400 then rc else 399) (b12 : B01 o h 12) (hv : vR (sN s) k u v = false) : vw o (dnT o h k u (vV (sN s) (sL s) k v) (plV (sN s) k u) ri nt) (if (k = 3 ∨ k = 5) ∧ vV (sN s) (sL s) k v = 0 then m else y) = stp s k u v y m := by
  have e0 := hs
  unfold stp
  rw [← hs]
  generalize hvv : vV (sN s) (sL s) k v = w
  generalize hpp : plV (sN s) k u = pl
  rw [hv, hc]
  simp only [Bool.false_eq_true, ↓reduceIte]
  have hh : up1 (hI h (o + 12)) ri (orI (hI h (o + 12) ri) (b2i nt)) = if rc < 400 then up1 (hI h (o + 12)) rc 1 else hI h (o + 12) := by
    have eo := orI_b (b12 ri) (b2i_01' (b := nt))
    by_cases e : rc < 400
    · rw [if_pos e] at hri ⊢
      rw [hri, ← hri, eo, hnt, decide_eq_true e]
      simp [b2i]
    · rw [if_neg e]
      apply up1_id
      rw [eo, hnt, decide_eq_false e]
      rcases b12 ri with z | z <;> simp [z, b2i]
  have hS : ∀ z : Int, up1 (hI h (o + 11)) ri (if nt = true then z else hI h (o + 11) ri) = if rc < 400 then up1 (hI h (o + 11)) rc z else hI h (o + 11) := by
    intro z
    by_cases e : rc < 400
    · rw [if_pos e] at hri ⊢
      rw [hnt, decide_eq_true e, hri]; simp
    · rw [if_neg e, hnt, decide_eq_false e]
      exact up1_id rfl
  unfold dnT
  by_cases k0 : k = 0
  · have e35 : (if (k = 3 ∨ k = 5) ∧ w = 0 then m else y) = y := if_neg (fun z => by omega)
    rw [if_pos k0, if_pos k0, e35]
    unfold vw sT sC sN sL sD sR sQ sS sH
    simp only
    rw [hI_ne (by omega), hI_ne (by omega), hf, hI_ne (by omega), hI_ne (by omega), hI_ne (by omega), hI_ne (by omega)]
    rw [row_ne (by omega), row_set, row_ne (by omega), row_ne (by omega), row_ne (by omega), row_ne (by omega), row_ne (by omega), row_ne (by omega), row_ne (by omega), row_ne (by omega), row_ne (by omega), row_ne (by omega), row_set, row_ne (by omega), hh]
  · rw [if_neg k0, if_neg k0]
    by_cases k1 : k = 1
    · have e35 : (if (k = 3 ∨ k = 5) ∧ w = 0 then m else y) = y := if_neg (fun z => by omega)
      rw [if_pos k1, if_pos k1, e35]
      unfold vw sT sC sN sL sD sR sQ sS sH
      simp only
      rw [hI_ne (by omega), hI_ne (by omega), hf, hI_ne (by omega), hI_ne (by omega), hI_ne (by omega), hI_ne (by omega)]
      rw [row_ne (by omega), row_ne (by omega), row_ne (by omega), row_set, row_ne (by omega), row_ne (by omega), row_ne (by omega), row_ne (by omega), row_ne (by omega), row_ne (by omega), row_set, row_ne (by omega), row_ne (by omega), row_ne (by omega), hS]
    · rw [if_neg k1, if_neg k1]
      by_cases k2 : k = 2
      · have e35 : (if (k = 3 ∨ k = 5) ∧ w = 0 then m else y) = y := if_neg (fun z => by omega)
        rw [if_pos k2, if_pos k2, e35]
        have et : sT (vw o h p) = hI h o 10 := rfl
        rw [et]
        by_cases t3 : hI h o 10 < 300
        · rw [if_pos t3, if_pos t3]
          unfold vw sC sN sL sD sR sQ sS sH
          simp only
          rw [hI_ne2 (by omega), hI_ne (by omega), hf, hI_eq, hI_ne2 (by omega), hI_ne (by omega)]
          rw [row_ne (by omega), row_ne (by omega), row_ne (by omega), row_ne (by omega), row_ne (by omega), row_set, row_ne (by omega), row_ne (by omega), row_ne (by omega), row_ne (by omega), row_ne (by omega), row_ne (by omega), row_ne (by omega), row_ne (by omega)]
        · rw [if_neg t3, if_neg t3]
          unfold vw sC sN sL sD sR sQ sS sH
          simp only
          rw [hI_ne2 (by omega), hf, hI_eq, hI_ne2 (by omega)]
          rw [row_ne (by omega), row_ne (by omega), row_ne (by omega), row_ne (by omega), row_ne (by omega), row_ne (by omega), row_ne (by omega)]
      · rw [if_neg k2, if_neg k2]
        unfold vw sT sC sN sL sD sR sQ sS sH
        simp only
        rw [hf]
