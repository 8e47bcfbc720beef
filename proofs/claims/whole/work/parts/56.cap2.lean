/-! ===== the class: what a line more leaves ===== -/
theorem h1_setI {h : Hp} {x k : Nat} {v : Int} : (setI h x k v).1 = h.1 := rfl
theorem apF_cases {c : Nat} {h : Hp} {n : Nat} {k u v op oc : Int} {P : Hp → Prop} (h1 : P (setI (setI (ap11 c h n k u v op oc) c 13 n) c 14 (oc + 1))) (h2 : P (setI (ap11 c h n k u v op oc) (c + 7) op.toNat n)) (h3 : P (setI (setI (setI (ap11 c h n k u v op oc) (c + 6) op.toNat n) c 13 (hI h (c + 4) op.toNat)) c 14 (oc - 1))) (h4 : P (ap11 c h n k u v op oc)) : P (apF c h n k u v op oc) := by
  unfold apF
  by_cases a : k = 3 ∨ k = 5
  · rw [if_pos a]; exact h1
  · rw [if_neg a]
    by_cases b : k = 4
    · rw [if_pos b]; exact h2
    · rw [if_neg b]
      by_cases d : k = 6
      · rw [if_pos d]; exact h3
      · rw [if_neg d]; exact h4
theorem ap11_r {c : Nat} {h : Hp} {n j : Nat} {k u v op oc : Int} : (hI (ap11 c h n k u v op oc) (c + 1) j = if j = n then k else hI h (c + 1) j) ∧ (hI (ap11 c h n k u v op oc) (c + 2) j = if j = n then u else hI h (c + 2) j) ∧ (hI (ap11 c h n k u v op oc) (c + 3) j = if j = n then v else hI h (c + 3) j) ∧ (hI (ap11 c h n k u v op oc) (c + 4) j = if j = n then op else hI h (c + 4) j) ∧ (hI (ap11 c h n k u v op oc) (c + 5) j = if j = n then oc else hI h (c + 5) j) ∧ (hI (ap11 c h n k u v op oc) (c + 6) j = if j = n then -1 else hI h (c + 6) j) ∧ (hI (ap11 c h n k u v op oc) (c + 7) j = if j = n then -1 else hI h (c + 7) j) ∧ (hI (ap11 c h n k u v op oc) (c + 8) j = if j = n then nmL k v else hI h (c + 8) j) ∧ (hI (ap11 c h n k u v op oc) (c + 9) j = if j = n then nmR k v else hI h (c + 9) j) ∧ (hI (ap11 c h n k u v op oc) (c + 10) j = if j = n then nmP k u else hI h (c + 10) j) := by
  refine ⟨?_, ?_, ?_, ?_, ?_, ?_, ?_, ?_, ?_, ?_⟩
  all_goals (unfold ap11 ap10 ap7; simp only [hI_setI, Nat.add_left_cancel_iff, Nat.reduceEqDiff, Nat.add_eq_left, Nat.left_eq_add, Nat.reduceEqDiff, false_and, true_and, ↓reduceIte])
theorem ap11_c {c : Nat} {h : Hp} {n j : Nat} {k u v op oc : Int} : hI (ap11 c h n k u v op oc) c j = if j = 12 then (n : Int) + 1 else hI h c j := by
  unfold ap11
  rw [hI_setI]
  by_cases e : j = 12
  · rw [if_pos ⟨rfl, e⟩, if_pos e]
  · rw [if_neg (fun z => e z.2), if_neg e]; exact ap10_c
theorem ap11_ne {c : Nat} {h : Hp} {n y j : Nat} {k u v op oc : Int} (hy : y < c ∨ c + 10 < y) : hI (ap11 c h n k u v op oc) y j = hI h y j := by
  unfold ap11 ap10 ap7
  simp (disch := omega) only [hI_ne]
theorem apF_ne {c : Nat} {h : Hp} {n y j : Nat} {k u v op oc : Int} (hy : y < c ∨ c + 10 < y) : hI (apF c h n k u v op oc) y j = hI h y j := by
  refine apF_cases (P := fun z => hI z y j = hI h y j) ?_ ?_ ?_ (ap11_ne hy)
  · rw [hI_ne (by omega), hI_ne (by omega)]; exact ap11_ne hy
  · rw [hI_ne (by omega)]; exact ap11_ne hy
  · rw [hI_ne (by omega), hI_ne (by omega), hI_ne (by omega)]; exact ap11_ne hy
theorem apF_T {c : Nat} {h : Hp} {n : Nat} {k u v op oc : Int} : hT (apF c h n k u v op oc) = hT h := apF_cases (P := fun z => hT z = hT h) (by simp only [hT_setI, ap11, ap10, ap7]) (by simp only [hT_setI, ap11, ap10, ap7]) (by simp only [hT_setI, ap11, ap10, ap7]) (by simp only [hT_setI, ap11, ap10, ap7])
theorem apF_R {c : Nat} {h : Hp} {n : Nat} {k u v op oc : Int} : hR (apF c h n k u v op oc) = hR h := apF_cases (P := fun z => hR z = hR h) (by simp only [hR_setI, ap11, ap10, ap7]) (by simp only [hR_setI, ap11, ap10, ap7]) (by simp only [hR_setI, ap11, ap10, ap7]) (by simp only [hR_setI, ap11, ap10, ap7])
theorem apF_L {c : Nat} {h : Hp} {n : Nat} {k u v op oc : Int} : hL (apF c h n k u v op oc) = hL h := apF_cases (P := fun z => hL z = hL h) (by simp only [hL_setI, ap11, ap10, ap7]) (by simp only [hL_setI, ap11, ap10, ap7]) (by simp only [hL_setI, ap11, ap10, ap7]) (by simp only [hL_setI, ap11, ap10, ap7])
theorem apF_1 {c : Nat} {h : Hp} {n : Nat} {k u v op oc : Int} : (apF c h n k u v op oc).1 = h.1 := apF_cases (P := fun z => z.1 = h.1) (by simp only [h1_setI, ap11, ap10, ap7]) (by simp only [h1_setI, ap11, ap10, ap7]) (by simp only [h1_setI, ap11, ap10, ap7]) (by simp only [h1_setI, ap11, ap10, ap7])
/-- a row that the ends of append don't touch -/
theorem apF_row {c : Nat} {h : Hp} {n d j : Nat} {k u v op oc : Int} (d0 : 0 < d) (d6 : ¬ d = 6) (d7 : ¬ d = 7) : hI (apF c h n k u v op oc) (c + d) j = hI (ap11 c h n k u v op oc) (c + d) j := by
  refine apF_cases (P := fun z => hI z (c + d) j = hI (ap11 c h n k u v op oc) (c + d) j) ?_ ?_ ?_ rfl
  · rw [hI_ne (by omega), hI_ne (by omega)]
  · rw [hI_ne (by omega)]
  · rw [hI_ne (by omega), hI_ne (by omega), hI_ne (by omega)]
theorem apF_K {c : Nat} {h : Hp} {n : Nat} {k u v op oc q : Int} : cK c (apF c h n k u v op oc) q = if q.toNat = n then k else cK c h q := by
  unfold cK
  rw [apF_row (by omega) (by omega) (by omega)]
  exact ap11_r.1
theorem apF_X {c : Nat} {h : Hp} {n : Nat} {k u v op oc q : Int} : cX c (apF c h n k u v op oc) q = if q.toNat = n then u else cX c h q := by
  unfold cX
  rw [apF_row (by omega) (by omega) (by omega)]
  exact ap11_r.2.1
theorem apF_E {c : Nat} {h : Hp} {n : Nat} {k u v op oc q : Int} : cE c (apF c h n k u v op oc) q = if q.toNat = n then v else cE c h q := by
  unfold cE
  rw [apF_row (by omega) (by omega) (by omega)]
  exact ap11_r.2.2.1
theorem apF_6 {c : Nat} {h : Hp} {n j : Nat} {k u v op oc : Int} (o0 : -1 ≤ op) (r46 : k = 4 ∨ k = 6 → 0 ≤ op) : hI (apF c h n k u v op oc) (c + 6) j = if k = 6 ∧ op = j then (n : Int) else if j = n then -1 else hI h (c + 6) j := by
  have e := (ap11_r (c := c) (h := h) (n := n) (j := j) (k := k) (u := u) (v := v) (op := op) (oc := oc)).2.2.2.2.2.1
  unfold apF
  by_cases a : k = 3 ∨ k = 5
  · rw [if_pos a, hI_ne (by omega), hI_ne (by omega), e, if_neg (show ¬ (k = 6 ∧ op = (j : Int)) by omega)]
  · rw [if_neg a]
    by_cases b : k = 4
    · rw [if_pos b, hI_ne (by omega), e, if_neg (show ¬ (k = 6 ∧ op = (j : Int)) by omega)]
    · rw [if_neg b]
      by_cases d : k = 6
      · have o2 := r46 (Or.inr d)
        rw [if_pos d, hI_ne (by omega), hI_ne (by omega), hI_setI, e]
        by_cases g : op = (j : Int)
        · rw [if_pos ⟨rfl, by omega⟩, if_pos ⟨d, g⟩]
        · rw [if_neg (by omega), if_neg (show ¬ (k = 6 ∧ op = (j : Int)) from fun z => g z.2)]
      · rw [if_neg d, e, if_neg (show ¬ (k = 6 ∧ op = (j : Int)) from fun z => d z.1)]
theorem apF_7 {c : Nat} {h : Hp} {n j : Nat} {k u v op oc : Int} (o0 : -1 ≤ op) (r46 : k = 4 ∨ k = 6 → 0 ≤ op) : hI (apF c h n k u v op oc) (c + 7) j = if k = 4 ∧ op = j then (n : Int) else if j = n then -1 else hI h (c + 7) j := by
  have e := (ap11_r (c := c) (h := h) (n := n) (j := j) (k := k) (u := u) (v := v) (op := op) (oc := oc)).2.2.2.2.2.2.1
  unfold apF
  by_cases a : k = 3 ∨ k = 5
  · rw [if_pos a, hI_ne (by omega), hI_ne (by omega), e, if_neg (show ¬ (k = 4 ∧ op = (j : Int)) by omega)]
  · rw [if_neg a]
    by_cases b : k = 4
    · have o2 := r46 (Or.inl b)
      rw [if_pos b, hI_setI, e]
      by_cases g : op = (j : Int)
      · rw [if_pos ⟨rfl, by omega⟩, if_pos ⟨b, g⟩]
      · rw [if_neg (by omega), if_neg (show ¬ (k = 4 ∧ op = (j : Int)) from fun z => g z.2)]
    · rw [if_neg b]
      by_cases d : k = 6
      · rw [if_pos d, hI_ne (by omega), hI_ne (by omega), hI_ne (by omega), e, if_neg (show ¬ (k = 4 ∧ op = (j : Int)) by omega)]
      · rw [if_neg d, e, if_neg (show ¬ (k = 4 ∧ op = (j : Int)) from fun z => b z.1)]
theorem apF_12 {c : Nat} {h : Hp} {n : Nat} {k u v op oc : Int} : hI (apF c h n k u v op oc) c 12 = n + 1 := by
  have e : hI (ap11 c h n k u v op oc) c 12 = n + 1 := by rw [ap11_c, if_pos rfl]
  refine apF_cases (P := fun z => hI z c 12 = n + 1) ?_ ?_ ?_ e
  · rw [hI_ne2 (by omega), hI_ne2 (by omega)]; exact e
  · rw [hI_ne (by omega)]; exact e
  · rw [hI_ne2 (by omega), hI_ne2 (by omega), hI_ne (by omega)]; exact e
theorem apF_13 {c : Nat} {h : Hp} {n : Nat} {k u v op oc : Int} (ho : hI h c 13 = op) : hI (apF c h n k u v op oc) c 13 = if k = 3 ∨ k = 5 then (n : Int) else if k = 6 then hI h (c + 4) op.toNat else op := by
  have e : hI (ap11 c h n k u v op oc) c 13 = op := by rw [ap11_c, if_neg (by omega)]; exact ho
  unfold apF
  by_cases a : k = 3 ∨ k = 5
  · rw [if_pos a, if_pos a, hI_ne2 (by omega), hI_eq]
  · rw [if_neg a, if_neg a]
    by_cases b : k = 4
    · rw [if_pos b, hI_ne (by omega), e, if_neg (by omega)]
    · rw [if_neg b]
      by_cases d : k = 6
      · rw [if_pos d, if_pos d, hI_ne2 (by omega), hI_eq]
      · rw [if_neg d, if_neg d, e]
theorem apF_14 {c : Nat} {h : Hp} {n : Nat} {k u v op oc : Int} (hc : hI h c 14 = oc) : hI (apF c h n k u v op oc) c 14 = if k = 3 ∨ k = 5 then oc + 1 else if k = 6 then oc - 1 else oc := by
  have e : hI (ap11 c h n k u v op oc) c 14 = oc := by rw [ap11_c, if_neg (by omega)]; exact hc
  unfold apF
  by_cases a : k = 3 ∨ k = 5
  · rw [if_pos a, if_pos a, hI_eq]
  · rw [if_neg a, if_neg a]
    by_cases b : k = 4
    · rw [if_pos b, hI_ne (by omega), e, if_neg (by omega)]
    · rw [if_neg b]
      by_cases d : k = 6
      · rw [if_pos d, if_pos d, hI_eq]
      · rw [if_neg d, if_neg d, e]
