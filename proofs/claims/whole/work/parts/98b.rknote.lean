/-! ===== Steps.note keeps what the Machine shows ===== -/
theorem stN_o {k z p y : Nat} {h : Hp} {a b c : Int} (n4 : ¬ y = k + 4) (n5 : ¬ y = k + 5) (n6 : ¬ y = k + 6) : hI (stN k h z p a b c) y = hI h y := by
  unfold stN
  rw [row_ne n4, row_ne n6, row_ne n6, row_ne n6, row_ne n5]
theorem stN_5 {k z p : Nat} {h : Hp} {a b c : Int} : hI (stN k h z p a b c) (k + 5) = up1 (hI h (k + 5)) z p := by
  unfold stN
  rw [row_ne (by omega), row_ne (by omega), row_ne (by omega), row_ne (by omega), row_set]
theorem stN_6 {k z p j : Nat} {h : Hp} {a b c : Int} : hI (stN k h z p a b c) (k + 6) j = if j = 3 * z + 2 then c else if j = 3 * z + 1 then b else if j = 3 * z then a else hI h (k + 6) j := by
  unfold stN
  rw [row_ne (by omega), row_set, row_set, row_set, row_ne (by omega)]
  rfl
theorem stN_4 {k z p : Nat} {h : Hp} {a b c : Int} : hI (stN k h z p a b c) (k + 4) 5 = (z : Int) + 1 := by
  unfold stN
  exact hI_eq
theorem stN_FR {k z p : Nat} {h : Hp} {a b c : Int} : FR (k + 4) (k + 6) h (stN k h z p a b c) := by
  unfold stN
  exact FR_I (FR_I (FR_I (FR_I (FR_I FR_rf (by omega) (by omega)) (by omega) (by omega)) (by omega) (by omega)) (by omega) (by omega)) (by omega) (by omega)
theorem nmL_rp {f : Nat → Int} {k v : Int} (h : 0 ≤ rpV f k v) : nmL k v = -1 := by
  unfold nmL
  rw [if_neg]
  rintro ⟨a, b⟩
  have e : rrF k v = -1 := by unfold rrF; rw [if_neg (fun z => b z.2)]
  unfold rpV at h
  rw [if_neg (by rw [e]; omega)] at h
  omega
theorem RKo_note {k p : Nat} {h : Hp} {K X E : Int → Int} {s : St} {a b c : Int} (r : RKo k h K X E s) (z4 : sC s < 400) (hp : sP s = p) (hu : K p = 1 → 0 ≤ X p ∧ X p < 2147483648) (ev : hasE (K p) = true → exF (E p) = true) (ha : a = if 0 ≤ rpV (sN s) (K p) (E p) then hI h (k + 9) (rpV (sN s) (K p) (E p)).toNat else sOf k h (nmL (K p) (E p))) (hb : b = sOf k h (nmR (K p) (E p))) (hc : c = sOf k h (nmP (K p) (X p))) : RKo k (stN k h (sC s) p a b c) K X E (ntS s (K p) (E p)) := by
  obtain ⟨⟨r1, r2⟩, r3, r4, r5, r6, r7, r8⟩ := r
  obtain ⟨r7, r9⟩ := r7 z4
  rw [ntS_t z4]
  refine ⟨⟨?_, ?_⟩, fun j hj => ?_, fun j hj => ?_, fun j h1 h2 => ?_, fun j hj => ?_, fun _ => ⟨fun nm hn => ?_, fun m hm => ?_⟩, fun j hj m => ?_⟩
  · rw [stN_o (by omega) (by omega) (by omega)]; exact r1
  · rw [stN_4]; show (sC s : Int) + 1 = ((sC s + 1 : Nat) : Int); omega
  · rw [stN_o (by omega) (by omega) (by omega)]; exact r3 j hj
  · rw [stN_o (by omega) (by omega) (by omega)]; exact r4 j hj
  · rw [stN_o (by omega) (by omega) (by omega)]; exact r5 j h1 h2
  · rw [stN_5]
    show up1 _ _ _ j = up1 (sR s) (sC s) (sP s) j
    by_cases e : j = sC s
    · rw [e, up1_eq, up1_eq, hp]
    · rw [up1_ne e, up1_ne e]
      have hj : j < sC s + 1 := hj
      exact r6 j (by omega)
  · rw [stN_o (by omega) (by omega) (by omega)]
    show LT (srN (up1 (sR s) (sC s) (sP s)) (up1 (sH s) (sC s) 0) X nm) (sC s + 1) _
    refine LT_s0 (fun j hj => ?_) ?_ (r7 nm hn)
    · unfold srN; rw [up1_ne (by omega), up1_ne (by omega)]
    · unfold srN; rw [up1_eq]; exact fun w => w.1 rfl
  · rw [stN_o (by omega) (by omega) (by omega)]
    show LT (fun i => up1 (sS s) (sC s) (-1) i = (m : Int)) (sC s + 1) _
    refine LT_s0 (fun j hj => ?_) ?_ (r9 m hm)
    · rw [up1_ne (by omega)]
    · rw [up1_eq]; omega
  · have hj : j < sC s + 1 := hj
    show _ ↔ SrR K X E (up1 (sR s) (sC s) (sP s)) (up1 (sQ s) (sC s) (rpV (sN s) (K p) (E p))) (up1 (sS s) (sC s) (-1)) (up1 (sH s) (sC s) 0) j m
    by_cases e : j = sC s
    · subst e
      have e0 : hI (stN k h (sC s) p a b c) (k + 6) (3 * sC s + 0) = a := by rw [stN_6, if_neg (by omega), if_neg (by omega), if_pos (by omega)]
      have e1 : hI (stN k h (sC s) p a b c) (k + 6) (3 * sC s + 1) = b := by rw [stN_6, if_neg (by omega), if_pos (by omega)]
      have e2 : hI (stN k h (sC s) p a b c) (k + 6) (3 * sC s + 2) = c := by rw [stN_6, if_pos (by omega)]
      have l1 : ∀ nm : Int, lt1 (srN (up1 (sR s) (sC s) (sP s)) (up1 (sH s) (sC s) 0) X nm) (sC s) m ↔ lt1 (srN (sR s) (sH s) X nm) (sC s) m := fun nm => lt1_cg (fun i hi => by unfold srN; rw [up1_ne (by omega), up1_ne (by omega)])
      have l2 : lt1 (fun i => up1 (sS s) (sC s) (-1) i = rpV (sN s) (K p) (E p)) (sC s) m ↔ lt1 (fun i => sS s i = rpV (sN s) (K p) (E p)) (sC s) m := lt1_cg (fun i hi => by rw [up1_ne (by omega)])
      unfold SrR
      rw [up1_eq, up1_eq, hp, l2]
      obtain ⟨⟨nl0, nl1⟩, ⟨nr0, nr1⟩, np0, np1⟩ := nm_8 (k := K p) (u := X p) (v := E p)
      have so : ∀ w : Int, -1 ≤ w → w < 8 → (sOf k h w = (m : Int) ↔ 0 ≤ w ∧ lt1 (srN (sR s) (sH s) X w) (sC s) m) := by
        intro w w0 w1
        unfold sOf
        by_cases q : 0 ≤ w
        · rw [if_pos q]
          have := r7 w.toNat (by omega) m
          rw [show ((w.toNat : Nat) : Int) = w by omega] at this
          rw [this]
          exact ⟨fun z => ⟨q, z⟩, fun z => z.2⟩
        · rw [if_neg q]
          exact ⟨fun z => by omega, fun z => absurd z.1 q⟩
      have rdn : ∀ nm : Nat, nm < 8 → (rdF (K p) (X p) (E p) nm = true ↔ nmL (K p) (E p) = nm ∨ nmR (K p) (E p) = nm ∨ nmP (K p) (X p) = nm) := by
        intro nm hn
        rw [← rd_name (by omega) (by omega) hu]
        simp
      obtain ⟨q0, q1⟩ := rpV_12 (f := sN s) (k := K p) (v := E p) ev
      have nl := nmL_rp (f := sN s) (k := K p) (v := E p)
      generalize rpV (sN s) (K p) (E p) = cr at *
      have aa : a = (m : Int) ↔ (0 ≤ cr ∧ lt1 (fun i => sS s i = cr) (sC s) m) ∨ (0 ≤ nmL (K p) (E p) ∧ lt1 (srN (sR s) (sH s) X (nmL (K p) (E p))) (sC s) m) := by
        rw [ha]
        by_cases q : 0 ≤ cr
        · rw [if_pos q]
          have := r9 cr.toNat (by omega) m
          rw [show ((cr.toNat : Nat) : Int) = cr by omega] at this
          rw [this]
          constructor
          · exact fun z => Or.inl ⟨q, z⟩
          · rintro (z | z)
            · exact z.2
            · have := nl q; omega
        · rw [if_neg q, so _ nl0 nl1]
          constructor
          · exact fun z => Or.inr z
          · rintro (z | z)
            · exact absurd z.1 q
            · exact z
      have bb := so _ nr0 nr1
      have cc := so _ np0 np1
      rw [← hb] at bb
      rw [← hc] at cc
      have tr : (∃ t, t < 3 ∧ hI (stN k h (sC s) p a b c) (k + 6) (3 * sC s + t) = (m : Int)) ↔ (a = (m : Int) ∨ b = (m : Int) ∨ c = (m : Int)) := by
        constructor
        · rintro ⟨t, t3, ht⟩
          have : t = 0 ∨ t = 1 ∨ t = 2 := by omega
          rcases this with rfl | rfl | rfl
          · rw [e0] at ht; exact Or.inl ht
          · rw [e1] at ht; exact Or.inr (Or.inl ht)
          · rw [e2] at ht; exact Or.inr (Or.inr ht)
        · rintro (z | z | z)
          · exact ⟨0, by omega, by rw [e0]; exact z⟩
          · exact ⟨1, by omega, by rw [e1]; exact z⟩
          · exact ⟨2, by omega, by rw [e2]; exact z⟩
      rw [tr, aa, bb, cc]
      have via : ∀ w : Int, -1 ≤ w → w < 8 → (w = nmL (K p) (E p) ∨ w = nmR (K p) (E p) ∨ w = nmP (K p) (X p)) → 0 ≤ w → lt1 (srN (sR s) (sH s) X w) (sC s) m → (∃ nm : Nat, nm < 8 ∧ rdF (K p) (X p) (E p) nm = true ∧ lt1 (srN (up1 (sR s) (sC s) p) (up1 (sH s) (sC s) 0) X nm) (sC s) m) := by
        intro w w0 w1 hw wn hl
        have ew : ((w.toNat : Nat) : Int) = w := by omega
        refine ⟨w.toNat, by omega, (rdn _ (by omega)).mpr ?_, ?_⟩
        · rw [ew]
          rcases hw with z | z | z
          · exact Or.inl z.symm
          · exact Or.inr (Or.inl z.symm)
          · exact Or.inr (Or.inr z.symm)
        · rw [ew, ← hp]; exact (l1 w).mpr hl
      constructor
      · rintro ((⟨y1, y2⟩ | ⟨y1, y2⟩) | ⟨y1, y2⟩ | ⟨y1, y2⟩)
        · exact Or.inr ⟨y1, y2⟩
        · exact Or.inl (via _ nl0 nl1 (Or.inl rfl) y1 y2)
        · exact Or.inl (via _ nr0 nr1 (Or.inr (Or.inl rfl)) y1 y2)
        · exact Or.inl (via _ np0 np1 (Or.inr (Or.inr rfl)) y1 y2)
      · rintro (⟨nm, n8, y1, y2⟩ | y)
        · rw [← hp] at y2
          have y3 := (l1 nm).mp y2
          rcases (rdn nm n8).mp y1 with w | w | w
          · exact Or.inl (Or.inr ⟨by omega, by rw [w]; exact y3⟩)
          · exact Or.inr (Or.inl ⟨by omega, by rw [w]; exact y3⟩)
          · exact Or.inr (Or.inr ⟨by omega, by rw [w]; exact y3⟩)
        · exact Or.inl (Or.inl y)
    · have hj2 : j < sC s := by omega
      rw [SrR_cg (R := sR s) (RP := sQ s) (S := sS s) (H := sH s) (fun i hi => ⟨up1_ne (by omega), up1_ne (by omega)⟩) (fun i hi => ⟨up1_ne (by omega), up1_ne (by omega)⟩), ← r8 j hj2 m]
      constructor
      · rintro ⟨t, t3, ht⟩
        rw [stN_6, if_neg (by omega), if_neg (by omega), if_neg (by omega)] at ht
        exact ⟨t, t3, ht⟩
      · rintro ⟨t, t3, ht⟩
        refine ⟨t, t3, ?_⟩
        rw [stN_6, if_neg (by omega), if_neg (by omega), if_neg (by omega)]
        exact ht
