/-! ===== the class: Machine.doStatement ===== -/
theorem exF_s {v : Int} (h : exF v = true) : 0 ≤ v ∧ shrI v 16 ≤ 8 ∧ (shrI v 16 = 8 → andI (shrI v 8) 255 < 3) := by
  unfold exF at h
  simp only [Bool.and_eq_true, decide_eq_true_eq] at h
  obtain ⟨h1, h2, h3⟩ := h
  refine ⟨h1, h2, fun s8 => ?_⟩
  rw [if_neg (by omega), if_pos s8] at h3
  simp at h3
  exact h3.1
theorem kc_workOut {sc : Scr} {k : Nat} {h : Hp} {Q : Option AV → Hp → Prop} (sk : SK k h) {v : Int} (ev : exF v = true) (vr : inR v) : WC sc 32 [aR k, aI v] h Q = Q (some (aI (xV (hI h (k + 1)) (hI h (k + 2)) v))) (woH k h v) := by
  obtain ⟨v0, s8, l3⟩ := exF_s ev
  have e := shr16 v0 (by have := vr.2; omega)
  by_cases c : shrI v 16 = 8
  · exact kc_workOut8 sk c (l3 c)
  · exact kc_workOutN sk (by omega) (by omega)
theorem woH_FR {k : Nat} {h : Hp} {v : Int} : FR k k h (woH k h v) := by
  unfold woH
  split
  · split
    · exact FR_I (FR_I FR_rf (by omega) (by omega)) (by omega) (by omega)
    · exact FR_I FR_rf (by omega) (by omega)
  · split
    · exact FR_I FR_rf (by omega) (by omega)
    · exact FR_rf
theorem woH_o {k j : Nat} {h : Hp} {v : Int} (a : ¬ j = 11) (b : ¬ j = 12) : hI (woH k h v) k j = hI h k j := by
  unfold woH
  split
  · split
    · rw [hI_ne2 b, hI_ne2 a]
    · rw [hI_ne2 a]
  · split
    · rw [hI_ne2 b]
    · rfl
theorem woH_8n {k : Nat} {h : Hp} {v : Int} (s8 : shrI v 16 = 8) (c : cellF (andI (shrI v 8) 255) (opV (hI h (k + 1)) (andI v 255)) < 0) : woH k h v = setI (setI h k 11 (cellF (andI (shrI v 8) 255) (opV (hI h (k + 1)) (andI v 255)))) k 12 1 := by
  unfold woH
  rw [if_pos s8, if_pos c]
theorem woH_8p {k : Nat} {h : Hp} {v : Int} (s8 : shrI v 16 = 8) (c : ¬ cellF (andI (shrI v 8) 255) (opV (hI h (k + 1)) (andI v 255)) < 0) : woH k h v = setI h k 11 (cellF (andI (shrI v 8) 255) (opV (hI h (k + 1)) (andI v 255))) := by
  unfold woH
  rw [if_pos s8, if_neg c]
theorem woH_d {k : Nat} {h : Hp} {v : Int} (s8 : ¬ shrI v 16 = 8) (c : (shrI v 16 = 4 ∨ shrI v 16 = 5) ∧ opV (hI h (k + 1)) (andI v 255) = 0) : woH k h v = setI h k 12 1 := by
  unfold woH
  rw [if_neg s8, if_pos c]
theorem woH_n {k : Nat} {h : Hp} {v : Int} (s8 : ¬ shrI v 16 = 8) (c : ¬ ((shrI v 16 = 4 ∨ shrI v 16 = 5) ∧ opV (hI h (k + 1)) (andI v 255) = 0)) : woH k h v = h := by
  unfold woH
  rw [if_neg s8, if_neg c]
theorem cellF_t {r i : Int} (a : 0 ≤ r ∧ r < 3) (c : 0 ≤ i ∧ i < 4) : cellF r i = r * 4 + i := by
  unfold cellF
  rw [if_pos ⟨a, c⟩]
theorem cellF_f {r i : Int} (c : ¬ (0 ≤ i ∧ i < 4)) : cellF r i = -1 := by
  unfold cellF
  rw [if_neg (fun z => c z.2)]
theorem woH_c {k : Nat} {h : Hp} {kd v : Int} (hE : hasE kd = true) (v0 : 0 ≤ andI (shrI v 8) 255) (l3 : shrI v 16 = 8 → andI (shrI v 8) 255 < 3) (z : hI h k 11 = -1) : hI (woH k h v) k 11 = rpV (hI h (k + 1)) kd v := by
  by_cases s8 : shrI v 16 = 8
  · have e : rrF kd v = andI (shrI v 8) 255 := by unfold rrF; rw [if_pos (And.intro hE s8)]
    unfold rpV
    rw [e]
    by_cases c : 0 ≤ opV (hI h (k + 1)) (andI v 255) ∧ opV (hI h (k + 1)) (andI v 255) < 4
    · have ec := cellF_t ⟨v0, l3 s8⟩ c
      rw [woH_8p s8 (by rw [ec]; omega), hI_eq, ec, if_pos (And.intro v0 (And.intro c.1 (by omega)))]
      omega
    · have ec := cellF_f (r := andI (shrI v 8) 255) c
      rw [woH_8n s8 (by rw [ec]; omega), hI_ne2 (by omega), hI_eq, ec, if_neg (fun q => c ⟨q.2.1, by omega⟩)]
  · have e : rrF kd v = -1 := by unfold rrF; rw [if_neg (fun q => s8 q.2)]
    unfold rpV
    rw [e, if_neg (by omega)]
    by_cases c : (shrI v 16 = 4 ∨ shrI v 16 = 5) ∧ opV (hI h (k + 1)) (andI v 255) = 0
    · rw [woH_d s8 c, hI_ne2 (by omega)]; exact z
    · rw [woH_n s8 c]; exact z
theorem woH_r {k : Nat} {h : Hp} {v : Int} (v0 : 0 ≤ andI (shrI v 8) 255) (l3 : shrI v 16 = 8 → andI (shrI v 8) 255 < 3) (z : hI h k 12 = 0) : hI (woH k h v) k 12 = if wR (hI h (k + 1)) v = true then 1 else 0 := by
  by_cases s8 : shrI v 16 = 8
  · unfold wR
    rw [if_pos s8]
    by_cases c : 0 ≤ opV (hI h (k + 1)) (andI v 255) ∧ opV (hI h (k + 1)) (andI v 255) < 4
    · have ec := cellF_t ⟨v0, l3 s8⟩ c
      have w : (decide (opV (hI h (k + 1)) (andI v 255) < 0) || decide (3 < opV (hI h (k + 1)) (andI v 255))) = false := by simp; omega
      rw [woH_8p s8 (by rw [ec]; omega), hI_ne2 (by omega), z, w, if_neg (by decide)]
    · have ec := cellF_f (r := andI (shrI v 8) 255) c
      have w : (decide (opV (hI h (k + 1)) (andI v 255) < 0) || decide (3 < opV (hI h (k + 1)) (andI v 255))) = true := by simp; omega
      rw [woH_8n s8 (by rw [ec]; omega), hI_eq, w, if_pos rfl]
  · unfold wR
    rw [if_neg s8]
    by_cases c : (shrI v 16 = 4 ∨ shrI v 16 = 5) ∧ opV (hI h (k + 1)) (andI v 255) = 0
    · have w : ((decide (shrI v 16 = 4) || decide (shrI v 16 = 5)) && decide (opV (hI h (k + 1)) (andI v 255) = 0)) = true := by simpa using c
      rw [woH_d s8 c, hI_eq, w, if_pos rfl]
    · have w : ((decide (shrI v 16 = 4) || decide (shrI v 16 = 5)) && decide (opV (hI h (k + 1)) (andI v 255) = 0)) = false := by
        cases hb : ((decide (shrI v 16 = 4) || decide (shrI v 16 = 5)) && decide (opV (hI h (k + 1)) (andI v 255) = 0)) with
        | false => rfl
        | true => exact absurd (by simpa using hb) c
      rw [woH_n s8 c, z, w, if_neg (by decide)]
