/-! ===== the class: Machine.doStatement ===== -/
theorem exF_s {v : Int} (h : exF v = true) : 0 ≤ v ∧ shrI v 16 ≤ 8 ∧ (shrI v 16 = 8 → andI (shrI v 8) 255 < 3) := by
  unfold exF at h
  simp only [Bool.and_eq_true, decide_eq_true_eq] at h
  obtain ⟨h1, h2, h3⟩ := h
  refine ⟨h1, h2, fun s8 => ?_⟩
  rw [if_neg (by omega), if_pos s8] at h3
  simp at h3
  exact h3.1
theorem kc_workOut {sc : Scr} {k : Nat} {h : Hp} {Q : Option AV → Hp → Prop} (sk : SK k h) {v : Int} (ev : exF v = true) (vr : inR v) : WC sc 32 [aR k, aI v] h Q = Q (some (aI (xV (hI h (k + 1)) (hI h (k + 2)) v))) (woH k h v) := by
  obtain ⟨v0, s8, l3⟩ := exF_s ev
  have e := shr16 v0 (by have := vr.2; omega)
  by_cases c : shrI v 16 = 8
  · exact kc_workOut8 sk c (l3 c)
  · exact kc_workOutN sk (by omega) (by omega)
theorem woH_FR {k : Nat} {h : Hp} {v : Int} : FR k k h (woH k h v) := by
  unfold woH
  split
  · split
    · exact FR_I (FR_I FR_rf (by omega) (by omega)) (by omega) (by omega)
    · exact FR_I FR_rf (by omega) (by omega)
  · split
    · exact FR_I FR_rf (by omega) (by omega)
    · exact FR_rf
theorem woH_o {k j : Nat} {h : Hp} {v : Int} (a : ¬ j = 11) (b : ¬ j = 12) : hI (woH k h v) k j = hI h k j := by
  unfold woH
  split
  · split
    · rw [hI_ne2 b, hI_ne2 a]
    · rw [hI_ne2 a]
  · split
    · rw [hI_ne2 b]
    · rfl
theorem woH_c {k : Nat} {h : Hp} {kd v : Int} (hE : hasE kd = true) (v0 : 0 ≤ andI (shrI v 8) 255) (l3 : shrI v 16 = 8 → andI (shrI v 8) 255 < 3) (z : hI h k 11 = -1) : hI (woH k h v) k 11 = rpV (hI h (k + 1)) kd v := by
  unfold woH rpV rrF
  by_cases s8 : shrI v 16 = 8
  · rw [if_pos s8, if_pos ⟨hE, s8⟩]
    have l3 := l3 s8
    generalize andI (shrI v 8) 255 = r at *
    generalize opV (hI h (k + 1)) (andI v 255) = i at *
    unfold cellF
    by_cases c : 0 ≤ i ∧ i < 4
    · have n0 : ¬ r * 4 + i < 0 := by omega
      rw [if_pos ⟨⟨v0, l3⟩, c⟩, if_neg n0, hI_eq, if_pos ⟨v0, c.1, by omega⟩]
      omega
    · have n0 : (-1 : Int) < 0 := by omega
      rw [if_neg (fun q => c q.2), if_pos n0, hI_ne2 (by omega), hI_eq, if_neg (fun q => c ⟨q.2.1, by omega⟩)]
  · rw [if_neg s8, if_neg (fun q => s8 q.2), if_neg (by omega)]
    split
    · rw [hI_ne2 (by omega)]; exact z
    · exact z
theorem woH_r {k : Nat} {h : Hp} {v : Int} (v0 : 0 ≤ andI (shrI v 8) 255) (l3 : shrI v 16 = 8 → andI (shrI v 8) 255 < 3) (z : hI h k 12 = 0) : hI (woH k h v) k 12 = if wR (hI h (k + 1)) v = true then 1 else 0 := by
  unfold woH wR
  by_cases s8 : shrI v 16 = 8
  · rw [if_pos s8, if_pos s8]
    have l3 := l3 s8
    generalize andI (shrI v 8) 255 = r at *
    generalize opV (hI h (k + 1)) (andI v 255) = i at *
    unfold cellF
    by_cases c : 0 ≤ i ∧ i < 4
    · have n0 : ¬ r * 4 + i < 0 := by omega
      have w : (decide (i < 0) || decide (3 < i)) = false := by simp; omega
      rw [if_pos ⟨⟨v0, l3⟩, c⟩, if_neg n0, hI_ne2 (by omega), w, z, if_neg (by decide)]
    · have n0 : (-1 : Int) < 0 := by omega
      have w : (decide (i < 0) || decide (3 < i)) = true := by simp; omega
      rw [if_neg (fun q => c q.2), if_pos n0, hI_eq, w, if_pos rfl]
  · rw [if_neg s8, if_neg s8]
    by_cases c : (shrI v 16 = 4 ∨ shrI v 16 = 5) ∧ opV (hI h (k + 1)) (andI v 255) = 0
    · have w : ((decide (shrI v 16 = 4) || decide (shrI v 16 = 5)) && decide (opV (hI h (k + 1)) (andI v 255) = 0)) = true := by simpa using c
      rw [if_pos c, hI_eq, w, if_pos rfl]
    · have w : ((decide (shrI v 16 = 4) || decide (shrI v 16 = 5)) && decide (opV (hI h (k + 1)) (andI v 255) = 0)) = false := by
        cases hb : ((decide (shrI v 16 = 4) || decide (shrI v 16 = 5)) && decide (opV (hI h (k + 1)) (andI v 255) = 0)) with
        | false => rfl
        | true => exact absurd (by simpa using hb) c
      rw [if_neg c, z, w, if_neg (by decide)]
