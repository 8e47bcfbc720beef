/-! ===== one instruction of the small machine in the large one: those that use the heap ===== -/
theorem clz_at : ∀ ci, ci < 7 → clz[ci]? = some (cnm ci, fT ci, nF ci)
  | 0, _ => rfl
  | 1, _ => rfl
  | 2, _ => rfl
  | 3, _ => rfl
  | 4, _ => rfl
  | 5, _ => rfl
  | 6, _ => rfl
  | n + 7, h => absurd h (by omega)
theorem uws_in : ∀ ci, ci < 7 → ∀ w ∈ u_ws (cnm ci) (fT ci) (nF ci), w ∈ wAll
  | 0, _ => fun _ q => mem_wL0 q
  | 1, _ => fun _ q => mem_wL1 q
  | 2, _ => fun _ q => mem_wL2 q
  | 3, _ => fun _ q => mem_wL3 q
  | 4, _ => fun _ q => mem_wL4 q
  | 5, _ => fun _ q => mem_wL5 q
  | 6, _ => fun _ q => mem_wL6 q
  | n + 7, h => absurd h (by omega)
theorem fty_ok : ∀ ci, ci < 7 → ∀ k, k < nF ci → parseFieldDescriptor (fT ci k).2.2.1 = some (fty ci k)
  | 0, _ => tyX2_ok
  | 1, _ => tyX3_ok
  | 2, _ => tyX4_ok
  | 3, _ => tyX5_ok
  | 4, _ => tyX6_ok
  | 5, _ => tyX7_ok
  | 6, _ => tyX8_ok
  | n + 7, h => absurd h (by omega)
theorem fnm_ok : ∀ ci, ci < 7 → ∀ a, a < nF ci → ∀ b, b < nF ci → a ≠ b → (fT ci a).2.1 ≠ (fT ci b).2.1
  | 0, _ => nmX2
  | 1, _ => nmX3
  | 2, _ => nmX4
  | 3, _ => nmX5
  | 4, _ => nmX6
  | 5, _ => nmX7
  | 6, _ => nmX8
  | n + 7, h => absurd h (by omega)
theorem fdecl_0 : ∀ k, k < nF 0 → (fT 0 k).1 = cnm 0 := by decide +kernel
theorem fdecl_1 : ∀ k, k < nF 1 → (fT 1 k).1 = cnm 1 := by decide +kernel
theorem fdecl_2 : ∀ k, k < nF 2 → (fT 2 k).1 = cnm 2 := by decide +kernel
theorem fdecl_3 : ∀ k, k < nF 3 → (fT 3 k).1 = cnm 3 := by decide +kernel
theorem fdecl_4 : ∀ k, k < nF 4 → (fT 4 k).1 = cnm 4 := by decide +kernel
theorem fdecl_5 : ∀ k, k < nF 5 → (fT 5 k).1 = cnm 5 := by decide +kernel
theorem fdecl_6 : ∀ k, k < nF 6 → (fT 6 k).1 = cnm 6 := by decide +kernel
theorem fdecl : ∀ ci, ci < 7 → ∀ k, k < nF ci → (fT ci k).1 = cnm ci
  | 0, _ => fdecl_0
  | 1, _ => fdecl_1
  | 2, _ => fdecl_2
  | 3, _ => fdecl_3
  | 4, _ => fdecl_4
  | 5, _ => fdecl_5
  | 6, _ => fdecl_6
  | n + 7, h => absurd h (by omega)
theorem fok_spec {mu idx a : Nat} (h : fok mu idx a = true) : (mC mu, idx, a) ∈ flist ∧ a % 64 < nF (a / 64) ∧ a / 64 < 7 := by
  unfold fok at h
  simp only [Bool.and_eq_true, decide_eq_true_eq] at h
  exact ⟨by simpa using h.1, h.2.1, h.2.2⟩
theorem HI_setI {h : Hp} (hh : HI h) {x k : Nat} {v : Int} (hv : inR v) : HI (setI h x k v) := by
  refine ⟨hh.1, hh.2.1, fun y j => ?_, hh.2.2.2.1, hh.2.2.2.2⟩
  show inR (up2 (hI h) x k v y j)
  unfold up2; split
  · exact hv
  · exact hh.2.2.1 y j
theorem HI_setL {h : Hp} (hh : HI h) {x k : Nat} {v : BitVec 64} : HI (setL h x k v) := ⟨hh.1, hh.2.1, hh.2.2.1, hh.2.2.2.1, hh.2.2.2.2⟩
theorem HI_setR {h : Hp} (hh : HI h) {x k v : Nat} (hv : v < hN h) : HI (setR h x k v) := by
  refine ⟨hh.1, hh.2.1, hh.2.2.1, fun y j => ?_, hh.2.2.2.2⟩
  show up2 (hR h) x k v y j < hN h
  unfold up2; split
  · exact hv
  · exact hh.2.2.2.1 y j
theorem HI_new {h : Hp} (hh : HI h) {t n : Nat} (hn : n ≤ 65536) : HI (newH h t n) := by
  refine ⟨Nat.le_succ_of_le hh.1, fun x hx => ?_, fun x k => ?_, fun x k => ?_, fun x => ?_⟩
  · have hx : x < 2 ∨ hN h + 1 ≤ x := hx
    have h2 := hh.1
    show (if x = hN h then (t, n) else hT h x).1 = 0
    rw [if_neg (by omega)]
    exact hh.2.1 x (by omega)
  · show inR (if x = hN h then 0 else hI h x k)
    split
    · exact inR_0
    · exact hh.2.2.1 x k
  · show (if x = hN h then 0 else hR h x k) < hN h + 1
    split
    · omega
    · exact Nat.lt_succ_of_lt (hh.2.2.2.1 x k)
  · show (if x = hN h then (t, n) else hT h x).2 ≤ 65536
    split
    · exact hn
    · exact hh.2.2.2.2 x
theorem imgE_setI {cA : Nat → ClassId} {ad : Nat → Nat} {b : Nat} {h : Hp} {x k y : Nat} {v : Int} (hy : y ≠ x) : imgE cA ad b (setI h x k v) y = imgE cA ad b h y := by
  unfold imgE fval
  simp [setI, hT, hI, hL, hR, up2, hy]
theorem imgE_setL {cA : Nat → ClassId} {ad : Nat → Nat} {b : Nat} {h : Hp} {x k y : Nat} {v : BitVec 64} (hy : y ≠ x) : imgE cA ad b (setL h x k v) y = imgE cA ad b h y := by
  unfold imgE fval
  simp [setL, hT, hI, hL, hR, up2, hy]
theorem imgE_setR {cA : Nat → ClassId} {ad : Nat → Nat} {b : Nat} {h : Hp} {x k y v : Nat} (hy : y ≠ x) : imgE cA ad b (setR h x k v) y = imgE cA ad b h y := by
  unfold imgE fval
  simp [setR, hT, hI, hL, hR, up2, hy]
theorem imgE_1 {cA : Nat → ClassId} {ad : Nat → Nat} {b : Nat} {h : Hp} {x : Nat} (ht : (hT h x).1 = 1) : imgE cA ad b h x = .inl (cA 1, (hT h x).2, .inl fun k => i32 (hI h x k)) := by unfold imgE; rw [ht]; rfl
theorem imgE_2 {cA : Nat → ClassId} {ad : Nat → Nat} {b : Nat} {h : Hp} {x : Nat} (ht : (hT h x).1 = 2) : imgE cA ad b h x = .inl (cA 2, (hT h x).2, .inr (.inl fun k => l64 (hL h x k))) := by unfold imgE; rw [ht]; rfl
theorem imgE_3 {cA : Nat → ClassId} {ad : Nat → Nat} {b : Nat} {h : Hp} {x : Nat} (ht : (hT h x).1 = 3) : imgE cA ad b h x = .inl (cA 3, (hT h x).2, .inl fun k => i32 (hI h x k)) := by unfold imgE; rw [ht]; rfl
theorem imgE_4 {cA : Nat → ClassId} {ad : Nat → Nat} {b : Nat} {h : Hp} {x : Nat} (ht : (hT h x).1 = 4) : imgE cA ad b h x = .inl (cA 4, (hT h x).2, .inr (.inr (.inr (.inr fun k => rf ad b (hR h x k))))) := by unfold imgE; rw [ht]; rfl
theorem inA_spec {h : Hp} {x t : Nat} {i : Int} (q : inA h x t i = true) : (hT h x).1 = t ∧ 0 ≤ i ∧ i < ((hT h x).2 : Int) := by
  unfold inA at q
  simpa only [Bool.and_eq_true, decide_eq_true_eq] using q
theorem in_vp {h : Hp} (hh : HI h) {x : Nat} {i : Int} (h0 : 0 ≤ i) (h1 : i < ((hT h x).2 : Int)) : vp_in (i32 i) (hT h x).2 ∧ (i32 i).toNatClampNeg = i.toNat := by
  have hr : inR i := by have := hh.2.2.2.2 x; unfold inR; omega
  exact ⟨vp_in_iff.mpr (by rw [i32_toInt hr]; exact ⟨h0, h1⟩), i32_clamp hr h0⟩
section HeapOps
variable {p : Program} {l : Launch} {e : Env} {R : Room} {s : State} {m : MethodId} {args : Array Value} {below : List Frame} {meth : Method} {c : Code} {Q : State → Prop} {D : va_G} {cA : Nat → ClassId} {base b mu : Nat} {sc : Scr}
variable {pc ln a : Nat} {b2 : Int} {L : List Nat} {ins : Instr} {ls ls9 : ALS} {st st9 : List AV} {h h1 : Hp} {ad : Nat → Nat} {H : Heap} {locs : List Loc} {cells slots : Nat} {lsC : Array Slot} {rest : List Value}
theorem fok_link (C : Cx p R s m args meth c D cA base mu) {idx a : Nat} (h : fok mu idx a = true) : (Cond.fieldLink (cnm (mC mu)) idx (fT (a / 64) (a % 64)).1 (fT (a / 64) (a % 64)).2.1 (fT (a / 64) (a % 64)).2.2.1).before args s = true := C.2.2.2.2.1 _ (mem_wF (List.mem_map.mpr ⟨_, (fok_spec h).1, rfl⟩))
theorem get_gen (C : Cx p R s m args meth c D cA base mu) (P : Pt3 D cA base b ad s h H locs) {x idx a : Nat} (hf : fok mu idx a = true) (hx : isO h x (a / 64) = true) (hd : decode (mB mu) pc = .ok (.getfield idx, 3))
    (k : W p l e R s m args below meth c H locs cells slots Q (F0 m (pc + 3) lsC (fval ad b h x (fty (a / 64) (a % 64)) (a % 64) :: rest))) : W p l e R s m args below meth c H locs cells slots Q (F0 m pc lsC (rl ad b (aR x) :: rest)) := by
  obtain ⟨h1, h2, h3⟩ := fok_spec hf
  have ht : (hT h x).1 = 10 + a / 64 := by simpa [isO] using hx
  obtain ⟨x2, xn⟩ := P.1.cell ht (by omega)
  have he := img_at (cA := cA) (ad := ad) (b := b) x2 xn
  rw [imgE_o ht] at he
  rw [rl_2 x2]
  exact va_get (D := D) (ci := a / 64) (C := cnm (a / 64)) (T := fT (a / 64)) (N := nF (a / 64)) C.1 C.2.1 C.2.2.2.2.1 (uws_in _ h3) C.2.2.2.1 C.2.2.2.2.2.1 P.2.1 (x - 2) he (clz_at _ h3) (a % 64) h2 (fok_link C hf) (fun _ q => q) (by rw [List.getElem?_map, List.getElem?_range h2]; rfl) hd k
theorem put_gen (C : Cx p R s m args meth c D cA base mu) (P : Pt3 D cA base b ad s h H locs) {x idx a : Nat} (hf : fok mu idx a = true) (hx : isO h x (a / 64) = true) (hp : fput mu a = true) (hn : hN h1 = hN h) (hT1 : hT h1 = hT h) (hh1 : HI h1)
    (ho : ∀ y, y ≠ x → imgE cA ad b h1 y = imgE cA ad b h y) (hj : ∀ j, j ≠ a % 64 → fval ad b h1 x (fty (a / 64) j) j = fval ad b h x (fty (a / 64) j) j) {v : Value} (hv : fval ad b h1 x (fty (a / 64) (a % 64)) (a % 64) = v) (hnr : narrow (fty (a / 64) (a % 64)) v = v) (hft : fits (fty (a / 64) (a % 64)) v = true)
    (hd : decode (mB mu) pc = .ok (.putfield idx, 3)) (k : ∀ H1 locs1, Pt3 D cA base b ad s h1 H1 locs1 → W p l e R s m args below meth c H1 locs1 cells slots Q (F0 m (pc + 3) lsC rest)) : W p l e R s m args below meth c H locs cells slots Q (F0 m pc lsC (v :: rl ad b (aR x) :: rest)) := by
  obtain ⟨q1, h2, h3⟩ := fok_spec hf
  have ht : (hT h x).1 = 10 + a / 64 := by simpa [isO] using hx
  obtain ⟨x2, xn⟩ := P.1.cell ht (by omega)
  have he := img_at (cA := cA) (ad := ad) (b := b) x2 xn
  rw [imgE_o ht] at he
  rw [rl_2 x2]
  have hset : (img cA ad b h).set (x - 2) (ad x, .inr (a / 64, ((List.range (nF (a / 64))).map fun k => fval ad b h x (fty (a / 64) k) k).set (a % 64) v)) = img cA ad b h1 := by
    refine img_set x2 xn hn ho ?_
    rw [imgE_o (by rw [hT1]; exact ht)]
    congr 2
    apply List.ext_getElem?
    intro j
    rw [List.getElem?_set, List.getElem?_map, List.getElem?_map]
    by_cases hjk : a % 64 = j
    · subst hjk
      rw [if_pos rfl, List.getElem?_range h2, if_pos (by simpa using h2)]
      simp [hv]
    · rw [if_neg hjk]
      by_cases hl : j < nF (a / 64)
      · rw [List.getElem?_range hl]
        simp [hj j (fun q => hjk q.symm)]
      · rw [List.getElem?_eq_none (by simp; omega)]; rfl
  have kk : ∀ (H1 : Heap) (locs1 : List Loc), va_P D clz ((img cA ad b h).set (x - 2) (ad x, .inr (a / 64, ((List.range (nF (a / 64))).map fun k => fval ad b h x (fty (a / 64) k) k).set (a % 64) v))) H1 → va_D (AA base) ((img cA ad b h).set (x - 2) (ad x, .inr (a / 64, ((List.range (nF (a / 64))).map fun k => fval ad b h x (fty (a / 64) k) k).set (a % 64) v))) → va_S (AA base) s.heap H1 locs1 → W p l e R s m args below meth c H1 locs1 cells slots Q (F0 m (pc + 3) lsC rest) := by
    rw [hset]
    exact fun H1 locs1 hP hD hS => k H1 locs1 ⟨hh1, hP, hD, hS⟩
  have hpd := fty_ok _ h3 _ h2
  by_cases hfin : (fT (a / 64) (a % 64)).2.2.2 = true
  · unfold fput at hp
    rw [hfin] at hp
    simp only [Bool.not_true, Bool.false_or, Bool.and_eq_true, beq_iff_eq] at hp
    exact va_putF (D := D) (ci := a / 64) (C := cnm (a / 64)) (T := fT (a / 64)) (N := nF (a / 64)) C.1 C.2.1 C.2.2.2.2.1 (uws_in _ h3) (fty (a / 64)) (fty_ok _ h3) (fnm_ok _ h3) C.2.2.2.1 C.2.2.2.2.2.1 P.2.1 P.2.2.1 P.2.2.2 (x - 2) he (clz_at _ h3) (a % 64) h2 (fok_link C hf) (fun _ q => q) hfin (C.2.2.2.2.2.2.2.2.2.1 hp.1) (by rw [hp.2]; exact fdecl _ h3 _ h2) hpd hnr hft (by simpa using h2) hd kk
  · exact va_put (D := D) (ci := a / 64) (C := cnm (a / 64)) (T := fT (a / 64)) (N := nF (a / 64)) C.1 C.2.1 C.2.2.2.2.1 (uws_in _ h3) (fty (a / 64)) (fty_ok _ h3) (fnm_ok _ h3) C.2.2.2.1 C.2.2.2.2.2.1 P.2.1 P.2.2.1 P.2.2.2 (x - 2) he (clz_at _ h3) (a % 64) h2 (fok_link C hf) (fun _ q => q) (by simpa using hfin) hpd hnr hft (by simpa using h2) hd kk
theorem s2_31 (C : Cx p R s m args meth c D cA base mu) (hd : decode (mB mu) pc = .ok (ins, ln)) (ho : okT mu (pcsT mu) pc ins ln 31 a b2 L = true) (hs : sem1 sc 31 a b2 ls st h = some (ls9, st9, h1)) (okl : okL h ls) (oks : okS h st) (P : Pt3 D cA base b ad s h H locs) : ls9 = ls ∧ okS h1 st9 ∧ HI h1 ∧ hN h ≤ hN h1 ∧ hS h ≤ hS h1 ∧ (cells + (hN h1 - hN h) ≤ R.cells → slots + (hS h1 - hS h) ≤ R.slots → (∀ ad1 H1 locs1, (∀ y, y < hN h → ad1 y = ad y) → Pt3 D cA base b ad1 s h1 H1 locs1 → Nx p l e R s m args below meth c Q b mu (pc + ln) ls9 st9 ad1 H1 locs1 (cells + (hN h1 - hN h)) (slots + (hS h1 - hS h))) → Nx p l e R s m args below meth c Q b mu pc ls st ad H locs cells slots) := by
  simp only [sem1, opGet] at hs
  split at hs
  · next x r =>
    by_cases hx : (isO h x (a / 64)) = true
    · rw [if_pos hx] at hs
      simp only [Option.some.injEq, Prod.mk.injEq] at hs
      obtain ⟨e1, e2, e3⟩ := hs
      subst e1 e2 e3
      have ov := okS_cons.mp oks
      simp only [okT] at ho
      split at ho
      · next idx =>
        obtain ⟨rfl, hf, hty⟩ : ln = 3 ∧ fok mu idx a = true ∧ (fty (a / 64) (a % 64) = .int ∨ fty (a / 64) (a % 64) = .boolean) := by simpa only [Bool.and_eq_true, Bool.or_eq_true, decide_eq_true_eq] using ho
        refine ⟨rfl, okS_cons.mpr ⟨P.1.2.2.1 x _, ov.2⟩, P.1, Nat.le_refl _, Nat.le_refl _, fun hc hsl k lsC hl => ?_⟩
        have k := k ad H locs (fun _ _ => rfl) P lsC hl
        simp only [Nat.sub_self, Nat.add_zero] at k
        have e : fval ad b h x (fty (a / 64) (a % 64)) (a % 64) = .int (i32 (hI h x (a % 64))) := by rcases hty with q | q <;> (unfold fval; rw [q])
        refine get_gen C P hf hx hd ?_
        rw [e]
        exact k
      · cases ho
    · rw [if_neg hx] at hs; cases hs
  · cases hs
theorem s2_32 (C : Cx p R s m args meth c D cA base mu) (hd : decode (mB mu) pc = .ok (ins, ln)) (ho : okT mu (pcsT mu) pc ins ln 32 a b2 L = true) (hs : sem1 sc 32 a b2 ls st h = some (ls9, st9, h1)) (okl : okL h ls) (oks : okS h st) (P : Pt3 D cA base b ad s h H locs) : ls9 = ls ∧ okS h1 st9 ∧ HI h1 ∧ hN h ≤ hN h1 ∧ hS h ≤ hS h1 ∧ (cells + (hN h1 - hN h) ≤ R.cells → slots + (hS h1 - hS h) ≤ R.slots → (∀ ad1 H1 locs1, (∀ y, y < hN h → ad1 y = ad y) → Pt3 D cA base b ad1 s h1 H1 locs1 → Nx p l e R s m args below meth c Q b mu (pc + ln) ls9 st9 ad1 H1 locs1 (cells + (hN h1 - hN h)) (slots + (hS h1 - hS h))) → Nx p l e R s m args below meth c Q b mu pc ls st ad H locs cells slots) := by
  simp only [sem1, opGet] at hs
  split at hs
  · next x r =>
    by_cases hx : (isO h x (a / 64)) = true
    · rw [if_pos hx] at hs
      simp only [Option.some.injEq, Prod.mk.injEq] at hs
      obtain ⟨e1, e2, e3⟩ := hs
      subst e1 e2 e3
      have ov := okS_cons.mp oks
      simp only [okT] at ho
      split at ho
      · next idx =>
        obtain ⟨rfl, hf, hty⟩ : ln = 3 ∧ fok mu idx a = true ∧ fty (a / 64) (a % 64) = .long := by simpa only [Bool.and_eq_true, decide_eq_true_eq] using ho
        refine ⟨rfl, okS_cons.mpr ⟨trivial, ov.2⟩, P.1, Nat.le_refl _, Nat.le_refl _, fun hc hsl k lsC hl => ?_⟩
        have k := k ad H locs (fun _ _ => rfl) P lsC hl
        simp only [Nat.sub_self, Nat.add_zero] at k
        have e : fval ad b h x (fty (a / 64) (a % 64)) (a % 64) = .long (l64 (hL h x (a % 64))) := by unfold fval; rw [hty]
        refine get_gen C P hf hx hd ?_
        rw [e]
        exact k
      · cases ho
    · rw [if_neg hx] at hs; cases hs
  · cases hs
theorem fval_ref {ad : Nat → Nat} {b : Nat} {h : Hp} {x k : Nat} {ty : FieldType} (q : isRef ty = true) : fval ad b h x ty k = va_rf (rf ad b (hR h x k)) := by
  cases ty <;> first | rfl | cases q
theorem s2_33 (C : Cx p R s m args meth c D cA base mu) (hd : decode (mB mu) pc = .ok (ins, ln)) (ho : okT mu (pcsT mu) pc ins ln 33 a b2 L = true) (hs : sem1 sc 33 a b2 ls st h = some (ls9, st9, h1)) (okl : okL h ls) (oks : okS h st) (P : Pt3 D cA base b ad s h H locs) : ls9 = ls ∧ okS h1 st9 ∧ HI h1 ∧ hN h ≤ hN h1 ∧ hS h ≤ hS h1 ∧ (cells + (hN h1 - hN h) ≤ R.cells → slots + (hS h1 - hS h) ≤ R.slots → (∀ ad1 H1 locs1, (∀ y, y < hN h → ad1 y = ad y) → Pt3 D cA base b ad1 s h1 H1 locs1 → Nx p l e R s m args below meth c Q b mu (pc + ln) ls9 st9 ad1 H1 locs1 (cells + (hN h1 - hN h)) (slots + (hS h1 - hS h))) → Nx p l e R s m args below meth c Q b mu pc ls st ad H locs cells slots) := by
  simp only [sem1, opGet] at hs
  split at hs
  · next x r =>
    by_cases hx : (isO h x (a / 64)) = true
    · rw [if_pos hx] at hs
      simp only [Option.some.injEq, Prod.mk.injEq] at hs
      obtain ⟨e1, e2, e3⟩ := hs
      subst e1 e2 e3
      have ov := okS_cons.mp oks
      simp only [okT] at ho
      split at ho
      · next idx =>
        obtain ⟨rfl, hf, hty⟩ : ln = 3 ∧ fok mu idx a = true ∧ isRef (fty (a / 64) (a % 64)) = true := by simpa only [Bool.and_eq_true, decide_eq_true_eq] using ho
        refine ⟨rfl, okS_cons.mpr ⟨P.1.2.2.2.1 x _, ov.2⟩, P.1, Nat.le_refl _, Nat.le_refl _, fun hc hsl k lsC hl => ?_⟩
        have k := k ad H locs (fun _ _ => rfl) P lsC hl
        simp only [Nat.sub_self, Nat.add_zero] at k
        have e : fval ad b h x (fty (a / 64) (a % 64)) (a % 64) = va_rf (rf ad b (hR h x (a % 64))) := fval_ref hty
        refine get_gen C P hf hx hd ?_
        rw [e]
        exact k
      · cases ho
    · rw [if_neg hx] at hs; cases hs
  · cases hs
theorem s2_34 (C : Cx p R s m args meth c D cA base mu) (hd : decode (mB mu) pc = .ok (ins, ln)) (ho : okT mu (pcsT mu) pc ins ln 34 a b2 L = true) (hs : sem1 sc 34 a b2 ls st h = some (ls9, st9, h1)) (okl : okL h ls) (oks : okS h st) (P : Pt3 D cA base b ad s h H locs) : ls9 = ls ∧ okS h1 st9 ∧ HI h1 ∧ hN h ≤ hN h1 ∧ hS h ≤ hS h1 ∧ (cells + (hN h1 - hN h) ≤ R.cells → slots + (hS h1 - hS h) ≤ R.slots → (∀ ad1 H1 locs1, (∀ y, y < hN h → ad1 y = ad y) → Pt3 D cA base b ad1 s h1 H1 locs1 → Nx p l e R s m args below meth c Q b mu (pc + ln) ls9 st9 ad1 H1 locs1 (cells + (hN h1 - hN h)) (slots + (hS h1 - hS h))) → Nx p l e R s m args below meth c Q b mu pc ls st ad H locs cells slots) := by
  simp only [sem1, opPutI] at hs
  split at hs
  · next v x r =>
    by_cases hx : (isO h x (a / 64)) = true
    · rw [if_pos hx] at hs
      simp only [Option.some.injEq, Prod.mk.injEq] at hs
      obtain ⟨e1, e2, e3⟩ := hs
      subst e1 e2 e3
      skip
      have ov := okS_cons.mp oks
      have ov2 := okS_cons.mp ov.2
      simp only [okT] at ho
      split at ho
      · next idx =>
        obtain ⟨rfl, hf, hty, hpt⟩ : ln = 3 ∧ fok mu idx a = true ∧ fty (a / 64) (a % 64) = .int ∧ fput mu a = true := by simpa only [Bool.and_eq_true, decide_eq_true_eq] using ho
        have hh1 := HI_setI P.1 ov.1 (x := x) (k := a % 64)
        refine ⟨rfl, ov2.2, hh1, Nat.le_refl _, Nat.le_refl _, fun hc hsl k lsC hl => ?_⟩
        have k := fun H1 locs1 P1 => k ad H1 locs1 (fun _ _ => rfl) P1 lsC hl
        have hz1 : hN (setI h x (a % 64) v) - hN h = 0 := Nat.sub_self _
        have hz2 : hS (setI h x (a % 64) v) - hS h = 0 := Nat.sub_self _
        rw [hz1, hz2] at k
        refine put_gen (h1 := setI h x (a % 64) v) C P hf hx hpt rfl rfl hh1 (fun y hy => imgE_setI hy) (fun j hj => ?_) (v := .int (i32 v)) (by unfold fval; rw [hty]; simp [setI, hI, up2]) (by rw [hty]; rfl) (by rw [hty]; rfl) hd k
        unfold fval
        simp [setI, hI, hL, hR, up2, hj]
      · cases ho
    · rw [if_neg hx] at hs; cases hs
  · cases hs
theorem nar_z {v : Int} (hz : (decide (v = 0) || decide (v = 1)) = true) : narrow .boolean (.int (i32 v)) = .int (i32 v) := by
  rw [Bool.or_eq_true, decide_eq_true_eq, decide_eq_true_eq] at hz
  rcases hz with rfl | rfl <;> decide +kernel
theorem fit_z {v : Int} (hz : (decide (v = 0) || decide (v = 1)) = true) : fits .boolean (.int (i32 v)) = true := by
  rw [Bool.or_eq_true, decide_eq_true_eq, decide_eq_true_eq] at hz
  rcases hz with rfl | rfl <;> decide +kernel
theorem s2_35 (C : Cx p R s m args meth c D cA base mu) (hd : decode (mB mu) pc = .ok (ins, ln)) (ho : okT mu (pcsT mu) pc ins ln 35 a b2 L = true) (hs : sem1 sc 35 a b2 ls st h = some (ls9, st9, h1)) (okl : okL h ls) (oks : okS h st) (P : Pt3 D cA base b ad s h H locs) : ls9 = ls ∧ okS h1 st9 ∧ HI h1 ∧ hN h ≤ hN h1 ∧ hS h ≤ hS h1 ∧ (cells + (hN h1 - hN h) ≤ R.cells → slots + (hS h1 - hS h) ≤ R.slots → (∀ ad1 H1 locs1, (∀ y, y < hN h → ad1 y = ad y) → Pt3 D cA base b ad1 s h1 H1 locs1 → Nx p l e R s m args below meth c Q b mu (pc + ln) ls9 st9 ad1 H1 locs1 (cells + (hN h1 - hN h)) (slots + (hS h1 - hS h))) → Nx p l e R s m args below meth c Q b mu pc ls st ad H locs cells slots) := by
  simp only [sem1, opPutZ] at hs
  split at hs
  · next v x r =>
    by_cases hx : (isO h x (a / 64) && (decide (v = 0) || decide (v = 1))) = true
    · rw [if_pos hx] at hs
      simp only [Option.some.injEq, Prod.mk.injEq] at hs
      obtain ⟨e1, e2, e3⟩ := hs
      subst e1 e2 e3
      rw [Bool.and_eq_true] at hx; obtain ⟨hx, hz⟩ := hx
      have ov := okS_cons.mp oks
      have ov2 := okS_cons.mp ov.2
      simp only [okT] at ho
      split at ho
      · next idx =>
        obtain ⟨rfl, hf, hty, hpt⟩ : ln = 3 ∧ fok mu idx a = true ∧ fty (a / 64) (a % 64) = .boolean ∧ fput mu a = true := by simpa only [Bool.and_eq_true, decide_eq_true_eq] using ho
        have hh1 := HI_setI P.1 ov.1 (x := x) (k := a % 64)
        refine ⟨rfl, ov2.2, hh1, Nat.le_refl _, Nat.le_refl _, fun hc hsl k lsC hl => ?_⟩
        have k := fun H1 locs1 P1 => k ad H1 locs1 (fun _ _ => rfl) P1 lsC hl
        have hz1 : hN (setI h x (a % 64) v) - hN h = 0 := Nat.sub_self _
        have hz2 : hS (setI h x (a % 64) v) - hS h = 0 := Nat.sub_self _
        rw [hz1, hz2] at k
        refine put_gen (h1 := setI h x (a % 64) v) C P hf hx hpt rfl rfl hh1 (fun y hy => imgE_setI hy) (fun j hj => ?_) (v := .int (i32 v)) (by unfold fval; rw [hty]; simp [setI, hI, up2]) (by rw [hty]; exact nar_z hz) (by rw [hty]; exact fit_z hz) hd k
        unfold fval
        simp [setI, hI, hL, hR, up2, hj]
      · cases ho
    · rw [if_neg hx] at hs; cases hs
  · cases hs
theorem s2_36 (C : Cx p R s m args meth c D cA base mu) (hd : decode (mB mu) pc = .ok (ins, ln)) (ho : okT mu (pcsT mu) pc ins ln 36 a b2 L = true) (hs : sem1 sc 36 a b2 ls st h = some (ls9, st9, h1)) (okl : okL h ls) (oks : okS h st) (P : Pt3 D cA base b ad s h H locs) : ls9 = ls ∧ okS h1 st9 ∧ HI h1 ∧ hN h ≤ hN h1 ∧ hS h ≤ hS h1 ∧ (cells + (hN h1 - hN h) ≤ R.cells → slots + (hS h1 - hS h) ≤ R.slots → (∀ ad1 H1 locs1, (∀ y, y < hN h → ad1 y = ad y) → Pt3 D cA base b ad1 s h1 H1 locs1 → Nx p l e R s m args below meth c Q b mu (pc + ln) ls9 st9 ad1 H1 locs1 (cells + (hN h1 - hN h)) (slots + (hS h1 - hS h))) → Nx p l e R s m args below meth c Q b mu pc ls st ad H locs cells slots) := by
  simp only [sem1, opPutL] at hs
  split at hs
  · next v x r =>
    by_cases hx : (isO h x (a / 64)) = true
    · rw [if_pos hx] at hs
      simp only [Option.some.injEq, Prod.mk.injEq] at hs
      obtain ⟨e1, e2, e3⟩ := hs
      subst e1 e2 e3
      skip
      have ov := okS_cons.mp oks
      have ov2 := okS_cons.mp ov.2
      simp only [okT] at ho
      split at ho
      · next idx =>
        obtain ⟨rfl, hf, hty, hpt⟩ : ln = 3 ∧ fok mu idx a = true ∧ fty (a / 64) (a % 64) = .long ∧ fput mu a = true := by simpa only [Bool.and_eq_true, decide_eq_true_eq] using ho
        have hh1 := HI_setL P.1 (v := v) (x := x) (k := a % 64)
        refine ⟨rfl, ov2.2, hh1, Nat.le_refl _, Nat.le_refl _, fun hc hsl k lsC hl => ?_⟩
        have k := fun H1 locs1 P1 => k ad H1 locs1 (fun _ _ => rfl) P1 lsC hl
        have hz1 : hN (setL h x (a % 64) v) - hN h = 0 := Nat.sub_self _
        have hz2 : hS (setL h x (a % 64) v) - hS h = 0 := Nat.sub_self _
        rw [hz1, hz2] at k
        refine put_gen (h1 := setL h x (a % 64) v) C P hf hx hpt rfl rfl hh1 (fun y hy => imgE_setL hy) (fun j hj => ?_) (v := .long (l64 v)) (by unfold fval; rw [hty]; simp [setL, hL, up2]) (by rw [hty]; rfl) (by rw [hty]; rfl) hd k
        unfold fval
        simp [setL, hI, hL, hR, up2, hj]
      · cases ho
    · rw [if_neg hx] at hs; cases hs
  · cases hs
theorem nar_ref {ty : FieldType} (q : isRef ty = true) {r : Option Nat} : narrow ty (va_rf r) = va_rf r := by
  cases ty <;> first | (cases r <;> rfl) | cases q
theorem fit_ref {ty : FieldType} (q : isRef ty = true) {r : Option Nat} : fits ty (va_rf r) = true := by
  cases ty <;> first | (cases r <;> rfl) | cases q
theorem s2_37 (C : Cx p R s m args meth c D cA base mu) (hd : decode (mB mu) pc = .ok (ins, ln)) (ho : okT mu (pcsT mu) pc ins ln 37 a b2 L = true) (hs : sem1 sc 37 a b2 ls st h = some (ls9, st9, h1)) (okl : okL h ls) (oks : okS h st) (P : Pt3 D cA base b ad s h H locs) : ls9 = ls ∧ okS h1 st9 ∧ HI h1 ∧ hN h ≤ hN h1 ∧ hS h ≤ hS h1 ∧ (cells + (hN h1 - hN h) ≤ R.cells → slots + (hS h1 - hS h) ≤ R.slots → (∀ ad1 H1 locs1, (∀ y, y < hN h → ad1 y = ad y) → Pt3 D cA base b ad1 s h1 H1 locs1 → Nx p l e R s m args below meth c Q b mu (pc + ln) ls9 st9 ad1 H1 locs1 (cells + (hN h1 - hN h)) (slots + (hS h1 - hS h))) → Nx p l e R s m args below meth c Q b mu pc ls st ad H locs cells slots) := by
  simp only [sem1, opPutR] at hs
  split at hs
  · next v x r =>
    by_cases hx : (isO h x (a / 64) && !(v == 1)) = true
    · rw [if_pos hx] at hs
      simp only [Option.some.injEq, Prod.mk.injEq] at hs
      obtain ⟨e1, e2, e3⟩ := hs
      subst e1 e2 e3
      rw [Bool.and_eq_true] at hx; obtain ⟨hx, hz⟩ := hx
      have ov := okS_cons.mp oks
      have ov2 := okS_cons.mp ov.2
      simp only [okT] at ho
      split at ho
      · next idx =>
        obtain ⟨rfl, hf, hty, hpt⟩ : ln = 3 ∧ fok mu idx a = true ∧ isRef (fty (a / 64) (a % 64)) = true ∧ fput mu a = true := by simpa only [Bool.and_eq_true, decide_eq_true_eq] using ho
        have hh1 := HI_setR P.1 ov.1 (x := x) (k := a % 64)
        refine ⟨rfl, ov2.2, hh1, Nat.le_refl _, Nat.le_refl _, fun hc hsl k lsC hl => ?_⟩
        have k := fun H1 locs1 P1 => k ad H1 locs1 (fun _ _ => rfl) P1 lsC hl
        have hz1 : hN (setR h x (a % 64) v) - hN h = 0 := Nat.sub_self _
        have hz2 : hS (setR h x (a % 64) v) - hS h = 0 := Nat.sub_self _
        rw [hz1, hz2] at k
        refine put_gen (h1 := setR h x (a % 64) v) C P hf hx hpt rfl rfl hh1 (fun y hy => imgE_setR hy) (fun j hj => ?_) (v := va_rf (rf ad b v)) (by rw [fval_ref hty]; simp [setR, hR, up2]) (nar_ref hty) (fit_ref hty) hd k
        unfold fval
        simp [setR, hI, hL, hR, up2, hj]
      · cases ho
    · rw [if_neg hx] at hs; cases hs
  · cases hs
theorem s2_38 (C : Cx p R s m args meth c D cA base mu) (hd : decode (mB mu) pc = .ok (ins, ln)) (ho : okT mu (pcsT mu) pc ins ln 38 a b2 L = true) (hs : sem1 sc 38 a b2 ls st h = some (ls9, st9, h1)) (okl : okL h ls) (oks : okS h st) (P : Pt3 D cA base b ad s h H locs) : ls9 = ls ∧ okS h1 st9 ∧ HI h1 ∧ hN h ≤ hN h1 ∧ hS h ≤ hS h1 ∧ (cells + (hN h1 - hN h) ≤ R.cells → slots + (hS h1 - hS h) ≤ R.slots → (∀ ad1 H1 locs1, (∀ y, y < hN h → ad1 y = ad y) → Pt3 D cA base b ad1 s h1 H1 locs1 → Nx p l e R s m args below meth c Q b mu (pc + ln) ls9 st9 ad1 H1 locs1 (cells + (hN h1 - hN h)) (slots + (hS h1 - hS h))) → Nx p l e R s m args below meth c Q b mu pc ls st ad H locs cells slots) := by
  simp only [sem1, opAld] at hs
  split at hs
  · next i x r =>
    by_cases hx : (inA h x 1 i) = true
    · rw [if_pos hx] at hs
      simp only [Option.some.injEq, Prod.mk.injEq] at hs
      obtain ⟨e1, e2, e3⟩ := hs
      subst e1 e2 e3
      have ov := okS_cons.mp oks
      have ov2 := okS_cons.mp ov.2
      obtain ⟨rfl, rfl⟩ : ins = .iaload ∧ ln = 1 := by simpa only [okT, Bool.and_eq_true, decide_eq_true_eq] using ho
      obtain ⟨ht, hi0, hi1⟩ := inA_spec hx
      obtain ⟨x2, xn⟩ := P.1.cell ht (by omega)
      have he := img_at (cA := cA) (ad := ad) (b := b) x2 xn
      rw [imgE_1 ht] at he
      obtain ⟨hv, ec⟩ := in_vp P.1 hi0 hi1
      refine ⟨rfl, okS_cons.mpr ⟨P.1.2.2.1 x _, ov2.2⟩, P.1, Nat.le_refl _, Nat.le_refl _, fun hc hsl k lsC hl => ?_⟩
      have k := k ad H locs (fun _ _ => rfl) P lsC hl
      simp only [Nat.sub_self, Nat.add_zero] at k
      rw [← ec] at k
      show W p l e R s m args below meth c H locs cells slots Q (F0 m pc lsC (.int (i32 i) :: rl ad b (aR x) :: r.map (rl ad b)))
      rw [rl_2 x2]
      exact va_iald C.1 C.2.1 C.2.2.2.2.2.1 P.2.1 (x - 2) 0 he rfl hv hd k
    · rw [if_neg hx] at hs; cases hs
  · cases hs
theorem s2_39 (C : Cx p R s m args meth c D cA base mu) (hd : decode (mB mu) pc = .ok (ins, ln)) (ho : okT mu (pcsT mu) pc ins ln 39 a b2 L = true) (hs : sem1 sc 39 a b2 ls st h = some (ls9, st9, h1)) (okl : okL h ls) (oks : okS h st) (P : Pt3 D cA base b ad s h H locs) : ls9 = ls ∧ okS h1 st9 ∧ HI h1 ∧ hN h ≤ hN h1 ∧ hS h ≤ hS h1 ∧ (cells + (hN h1 - hN h) ≤ R.cells → slots + (hS h1 - hS h) ≤ R.slots → (∀ ad1 H1 locs1, (∀ y, y < hN h → ad1 y = ad y) → Pt3 D cA base b ad1 s h1 H1 locs1 → Nx p l e R s m args below meth c Q b mu (pc + ln) ls9 st9 ad1 H1 locs1 (cells + (hN h1 - hN h)) (slots + (hS h1 - hS h))) → Nx p l e R s m args below meth c Q b mu pc ls st ad H locs cells slots) := by
  simp only [sem1, opAld] at hs
  split at hs
  · next i x r =>
    by_cases hx : (inA h x 2 i) = true
    · rw [if_pos hx] at hs
      simp only [Option.some.injEq, Prod.mk.injEq] at hs
      obtain ⟨e1, e2, e3⟩ := hs
      subst e1 e2 e3
      have ov := okS_cons.mp oks
      have ov2 := okS_cons.mp ov.2
      obtain ⟨rfl, rfl⟩ : ins = .laload ∧ ln = 1 := by simpa only [okT, Bool.and_eq_true, decide_eq_true_eq] using ho
      obtain ⟨ht, hi0, hi1⟩ := inA_spec hx
      obtain ⟨x2, xn⟩ := P.1.cell ht (by omega)
      have he := img_at (cA := cA) (ad := ad) (b := b) x2 xn
      rw [imgE_2 ht] at he
      obtain ⟨hv, ec⟩ := in_vp P.1 hi0 hi1
      refine ⟨rfl, okS_cons.mpr ⟨trivial, ov2.2⟩, P.1, Nat.le_refl _, Nat.le_refl _, fun hc hsl k lsC hl => ?_⟩
      have k := k ad H locs (fun _ _ => rfl) P lsC hl
      simp only [Nat.sub_self, Nat.add_zero] at k
      rw [← ec] at k
      show W p l e R s m args below meth c H locs cells slots Q (F0 m pc lsC (.int (i32 i) :: rl ad b (aR x) :: r.map (rl ad b)))
      rw [rl_2 x2]
      exact va_lald C.1 C.2.1 C.2.2.2.2.2.1 P.2.1 (x - 2) 1 he rfl hv hd k
    · rw [if_neg hx] at hs; cases hs
  · cases hs
theorem s2_40 (C : Cx p R s m args meth c D cA base mu) (hd : decode (mB mu) pc = .ok (ins, ln)) (ho : okT mu (pcsT mu) pc ins ln 40 a b2 L = true) (hs : sem1 sc 40 a b2 ls st h = some (ls9, st9, h1)) (okl : okL h ls) (oks : okS h st) (P : Pt3 D cA base b ad s h H locs) : ls9 = ls ∧ okS h1 st9 ∧ HI h1 ∧ hN h ≤ hN h1 ∧ hS h ≤ hS h1 ∧ (cells + (hN h1 - hN h) ≤ R.cells → slots + (hS h1 - hS h) ≤ R.slots → (∀ ad1 H1 locs1, (∀ y, y < hN h → ad1 y = ad y) → Pt3 D cA base b ad1 s h1 H1 locs1 → Nx p l e R s m args below meth c Q b mu (pc + ln) ls9 st9 ad1 H1 locs1 (cells + (hN h1 - hN h)) (slots + (hS h1 - hS h))) → Nx p l e R s m args below meth c Q b mu pc ls st ad H locs cells slots) := by
  simp only [sem1, opAld] at hs
  split at hs
  · next i x r =>
    by_cases hx : (inA h x 3 i) = true
    · rw [if_pos hx] at hs
      simp only [Option.some.injEq, Prod.mk.injEq] at hs
      obtain ⟨e1, e2, e3⟩ := hs
      subst e1 e2 e3
      have ov := okS_cons.mp oks
      have ov2 := okS_cons.mp ov.2
      obtain ⟨rfl, rfl⟩ : ins = .baload ∧ ln = 1 := by simpa only [okT, Bool.and_eq_true, decide_eq_true_eq] using ho
      obtain ⟨ht, hi0, hi1⟩ := inA_spec hx
      obtain ⟨x2, xn⟩ := P.1.cell ht (by omega)
      have he := img_at (cA := cA) (ad := ad) (b := b) x2 xn
      rw [imgE_3 ht] at he
      obtain ⟨hv, ec⟩ := in_vp P.1 hi0 hi1
      refine ⟨rfl, okS_cons.mpr ⟨P.1.2.2.1 x _, ov2.2⟩, P.1, Nat.le_refl _, Nat.le_refl _, fun hc hsl k lsC hl => ?_⟩
      have k := k ad H locs (fun _ _ => rfl) P lsC hl
      simp only [Nat.sub_self, Nat.add_zero] at k
      rw [← ec] at k
      show W p l e R s m args below meth c H locs cells slots Q (F0 m pc lsC (.int (i32 i) :: rl ad b (aR x) :: r.map (rl ad b)))
      rw [rl_2 x2]
      exact va_zald C.1 C.2.1 C.2.2.2.2.2.1 P.2.1 (x - 2) 2 he rfl hv hd k
    · rw [if_neg hx] at hs; cases hs
  · cases hs
theorem s2_41 (C : Cx p R s m args meth c D cA base mu) (hd : decode (mB mu) pc = .ok (ins, ln)) (ho : okT mu (pcsT mu) pc ins ln 41 a b2 L = true) (hs : sem1 sc 41 a b2 ls st h = some (ls9, st9, h1)) (okl : okL h ls) (oks : okS h st) (P : Pt3 D cA base b ad s h H locs) : ls9 = ls ∧ okS h1 st9 ∧ HI h1 ∧ hN h ≤ hN h1 ∧ hS h ≤ hS h1 ∧ (cells + (hN h1 - hN h) ≤ R.cells → slots + (hS h1 - hS h) ≤ R.slots → (∀ ad1 H1 locs1, (∀ y, y < hN h → ad1 y = ad y) → Pt3 D cA base b ad1 s h1 H1 locs1 → Nx p l e R s m args below meth c Q b mu (pc + ln) ls9 st9 ad1 H1 locs1 (cells + (hN h1 - hN h)) (slots + (hS h1 - hS h))) → Nx p l e R s m args below meth c Q b mu pc ls st ad H locs cells slots) := by
  simp only [sem1, opAld] at hs
  split at hs
  · next i x r =>
    by_cases hx : (inA h x 4 i) = true
    · rw [if_pos hx] at hs
      simp only [Option.some.injEq, Prod.mk.injEq] at hs
      obtain ⟨e1, e2, e3⟩ := hs
      subst e1 e2 e3
      have ov := okS_cons.mp oks
      have ov2 := okS_cons.mp ov.2
      obtain ⟨rfl, rfl⟩ : ins = .aaload ∧ ln = 1 := by simpa only [okT, Bool.and_eq_true, decide_eq_true_eq] using ho
      obtain ⟨ht, hi0, hi1⟩ := inA_spec hx
      obtain ⟨x2, xn⟩ := P.1.cell ht (by omega)
      have he := img_at (cA := cA) (ad := ad) (b := b) x2 xn
      rw [imgE_4 ht] at he
      obtain ⟨hv, ec⟩ := in_vp P.1 hi0 hi1
      refine ⟨rfl, okS_cons.mpr ⟨P.1.2.2.2.1 x _, ov2.2⟩, P.1, Nat.le_refl _, Nat.le_refl _, fun hc hsl k lsC hl => ?_⟩
      have k := k ad H locs (fun _ _ => rfl) P lsC hl
      simp only [Nat.sub_self, Nat.add_zero] at k
      rw [← ec] at k
      show W p l e R s m args below meth c H locs cells slots Q (F0 m pc lsC (.int (i32 i) :: rl ad b (aR x) :: r.map (rl ad b)))
      rw [rl_2 x2]
      exact va_aldq C.1 C.2.1 C.2.2.2.2.2.1 P.2.1 (x - 2) 3 he rfl hv hd k
    · rw [if_neg hx] at hs; cases hs
  · cases hs
theorem s2_42 (C : Cx p R s m args meth c D cA base mu) (hd : decode (mB mu) pc = .ok (ins, ln)) (ho : okT mu (pcsT mu) pc ins ln 42 a b2 L = true) (hs : sem1 sc 42 a b2 ls st h = some (ls9, st9, h1)) (okl : okL h ls) (oks : okS h st) (P : Pt3 D cA base b ad s h H locs) : ls9 = ls ∧ okS h1 st9 ∧ HI h1 ∧ hN h ≤ hN h1 ∧ hS h ≤ hS h1 ∧ (cells + (hN h1 - hN h) ≤ R.cells → slots + (hS h1 - hS h) ≤ R.slots → (∀ ad1 H1 locs1, (∀ y, y < hN h → ad1 y = ad y) → Pt3 D cA base b ad1 s h1 H1 locs1 → Nx p l e R s m args below meth c Q b mu (pc + ln) ls9 st9 ad1 H1 locs1 (cells + (hN h1 - hN h)) (slots + (hS h1 - hS h))) → Nx p l e R s m args below meth c Q b mu pc ls st ad H locs cells slots) := by
  simp only [sem1, opAstI] at hs
  split at hs
  · next v i x r =>
    by_cases hx : (inA h x 1 i) = true
    · rw [if_pos hx] at hs
      simp only [Option.some.injEq, Prod.mk.injEq] at hs
      obtain ⟨e1, e2, e3⟩ := hs
      subst e1 e2 e3
      skip
      have ov := okS_cons.mp oks
      have ov2 := okS_cons.mp ov.2
      have ov3 := okS_cons.mp ov2.2
      obtain ⟨rfl, rfl⟩ : ins = .iastore ∧ ln = 1 := by simpa only [okT, Bool.and_eq_true, decide_eq_true_eq] using ho
      obtain ⟨ht, hi0, hi1⟩ := inA_spec hx
      obtain ⟨x2, xn⟩ := P.1.cell ht (by omega)
      have he := img_at (cA := cA) (ad := ad) (b := b) x2 xn
      rw [imgE_1 ht] at he
      obtain ⟨hv, ec⟩ := in_vp P.1 hi0 hi1
      have hh1 := HI_setI P.1 ov.1 (x := x) (k := i.toNat)
      refine ⟨rfl, ov3.2, hh1, Nat.le_refl _, Nat.le_refl _, fun hc hsl k lsC hl => ?_⟩
      have k := fun H1 locs1 P1 => k ad H1 locs1 (fun _ _ => rfl) P1 lsC hl
      have hz1 : hN (setI h x i.toNat v) - hN h = 0 := Nat.sub_self _
      have hz2 : hS (setI h x i.toNat v) - hS h = 0 := Nat.sub_self _
      rw [hz1, hz2] at k
      show W p l e R s m args below meth c H locs cells slots Q (F0 m pc lsC (.int (i32 v) :: .int (i32 i) :: rl ad b (aR x) :: r.map (rl ad b)))
      rw [rl_2 x2]
      have hset : (img cA ad b h).set (x - 2) (ad x, .inl (cA 1, (hT h x).2, .inl (upd (fun k => i32 (hI h x k)) (i32 i).toNatClampNeg (i32 v)))) = img cA ad b (setI h x i.toNat v) := by
        refine img_set x2 xn rfl (fun y hy => imgE_setI hy) ?_
        rw [imgE_1 (show (hT (setI h x i.toNat v) x).1 = 1 from ht)]
        rw [ec]
        refine congrArg (fun f => (Sum.inl (cA 1, (hT h x).2, Sum.inl f) : va_E)) (funext fun j => ?_)
        simp only [setI, hI, up2, upd, true_and]; split <;> rfl
      refine va_iast C.1 C.2.1 C.2.2.2.2.2.1 P.2.1 P.2.2.1 P.2.2.2 (x - 2) 0 he rfl hv hd (fun H1 locs1 hP hD hS => ?_)
      rw [hset] at hP hD
      exact k H1 locs1 ⟨hh1, hP, hD, hS⟩
    · rw [if_neg hx] at hs; cases hs
  · cases hs
theorem s2_43 (C : Cx p R s m args meth c D cA base mu) (hd : decode (mB mu) pc = .ok (ins, ln)) (ho : okT mu (pcsT mu) pc ins ln 43 a b2 L = true) (hs : sem1 sc 43 a b2 ls st h = some (ls9, st9, h1)) (okl : okL h ls) (oks : okS h st) (P : Pt3 D cA base b ad s h H locs) : ls9 = ls ∧ okS h1 st9 ∧ HI h1 ∧ hN h ≤ hN h1 ∧ hS h ≤ hS h1 ∧ (cells + (hN h1 - hN h) ≤ R.cells → slots + (hS h1 - hS h) ≤ R.slots → (∀ ad1 H1 locs1, (∀ y, y < hN h → ad1 y = ad y) → Pt3 D cA base b ad1 s h1 H1 locs1 → Nx p l e R s m args below meth c Q b mu (pc + ln) ls9 st9 ad1 H1 locs1 (cells + (hN h1 - hN h)) (slots + (hS h1 - hS h))) → Nx p l e R s m args below meth c Q b mu pc ls st ad H locs cells slots) := by
  simp only [sem1, opAstL] at hs
  split at hs
  · next v i x r =>
    by_cases hx : (inA h x 2 i) = true
    · rw [if_pos hx] at hs
      simp only [Option.some.injEq, Prod.mk.injEq] at hs
      obtain ⟨e1, e2, e3⟩ := hs
      subst e1 e2 e3
      skip
      have ov := okS_cons.mp oks
      have ov2 := okS_cons.mp ov.2
      have ov3 := okS_cons.mp ov2.2
      obtain ⟨rfl, rfl⟩ : ins = .lastore ∧ ln = 1 := by simpa only [okT, Bool.and_eq_true, decide_eq_true_eq] using ho
      obtain ⟨ht, hi0, hi1⟩ := inA_spec hx
      obtain ⟨x2, xn⟩ := P.1.cell ht (by omega)
      have he := img_at (cA := cA) (ad := ad) (b := b) x2 xn
      rw [imgE_2 ht] at he
      obtain ⟨hv, ec⟩ := in_vp P.1 hi0 hi1
      have hh1 := HI_setL P.1 (v := v) (x := x) (k := i.toNat)
      refine ⟨rfl, ov3.2, hh1, Nat.le_refl _, Nat.le_refl _, fun hc hsl k lsC hl => ?_⟩
      have k := fun H1 locs1 P1 => k ad H1 locs1 (fun _ _ => rfl) P1 lsC hl
      have hz1 : hN (setL h x i.toNat v) - hN h = 0 := Nat.sub_self _
      have hz2 : hS (setL h x i.toNat v) - hS h = 0 := Nat.sub_self _
      rw [hz1, hz2] at k
      show W p l e R s m args below meth c H locs cells slots Q (F0 m pc lsC (.long (l64 v) :: .int (i32 i) :: rl ad b (aR x) :: r.map (rl ad b)))
      rw [rl_2 x2]
      have hset : (img cA ad b h).set (x - 2) (ad x, .inl (cA 2, (hT h x).2, .inr (.inl (vp_updL (fun k => l64 (hL h x k)) (i32 i).toNatClampNeg (l64 v))))) = img cA ad b (setL h x i.toNat v) := by
        refine img_set x2 xn rfl (fun y hy => imgE_setL hy) ?_
        rw [imgE_2 (show (hT (setL h x i.toNat v) x).1 = 2 from ht)]
        rw [ec]
        refine congrArg (fun f => (Sum.inl (cA 2, (hT h x).2, Sum.inr (Sum.inl f)) : va_E)) (funext fun j => ?_)
        simp only [setL, hL, up2, vp_updL, true_and]; split <;> rfl
      refine va_last C.1 C.2.1 C.2.2.2.2.2.1 P.2.1 P.2.2.1 P.2.2.2 (x - 2) 1 he rfl hv hd (fun H1 locs1 hP hD hS => ?_)
      rw [hset] at hP hD
      exact k H1 locs1 ⟨hh1, hP, hD, hS⟩
    · rw [if_neg hx] at hs; cases hs
  · cases hs
theorem vp_nar_z {v : Int} (hz : (decide (v = 0) || decide (v = 1)) = true) : vp_nar .boolean (i32 v) = i32 v := by
  unfold vp_nar; rw [nar_z hz]
theorem s2_44 (C : Cx p R s m args meth c D cA base mu) (hd : decode (mB mu) pc = .ok (ins, ln)) (ho : okT mu (pcsT mu) pc ins ln 44 a b2 L = true) (hs : sem1 sc 44 a b2 ls st h = some (ls9, st9, h1)) (okl : okL h ls) (oks : okS h st) (P : Pt3 D cA base b ad s h H locs) : ls9 = ls ∧ okS h1 st9 ∧ HI h1 ∧ hN h ≤ hN h1 ∧ hS h ≤ hS h1 ∧ (cells + (hN h1 - hN h) ≤ R.cells → slots + (hS h1 - hS h) ≤ R.slots → (∀ ad1 H1 locs1, (∀ y, y < hN h → ad1 y = ad y) → Pt3 D cA base b ad1 s h1 H1 locs1 → Nx p l e R s m args below meth c Q b mu (pc + ln) ls9 st9 ad1 H1 locs1 (cells + (hN h1 - hN h)) (slots + (hS h1 - hS h))) → Nx p l e R s m args below meth c Q b mu pc ls st ad H locs cells slots) := by
  simp only [sem1, opAstZ] at hs
  split at hs
  · next v i x r =>
    by_cases hx : (inA h x 3 i && (decide (v = 0) || decide (v = 1))) = true
    · rw [if_pos hx] at hs
      simp only [Option.some.injEq, Prod.mk.injEq] at hs
      obtain ⟨e1, e2, e3⟩ := hs
      subst e1 e2 e3
      rw [Bool.and_eq_true] at hx; obtain ⟨hx, hz⟩ := hx
      have ov := okS_cons.mp oks
      have ov2 := okS_cons.mp ov.2
      have ov3 := okS_cons.mp ov2.2
      obtain ⟨rfl, rfl⟩ : ins = .bastore ∧ ln = 1 := by simpa only [okT, Bool.and_eq_true, decide_eq_true_eq] using ho
      obtain ⟨ht, hi0, hi1⟩ := inA_spec hx
      obtain ⟨x2, xn⟩ := P.1.cell ht (by omega)
      have he := img_at (cA := cA) (ad := ad) (b := b) x2 xn
      rw [imgE_3 ht] at he
      obtain ⟨hv, ec⟩ := in_vp P.1 hi0 hi1
      have hh1 := HI_setI P.1 ov.1 (x := x) (k := i.toNat)
      refine ⟨rfl, ov3.2, hh1, Nat.le_refl _, Nat.le_refl _, fun hc hsl k lsC hl => ?_⟩
      have k := fun H1 locs1 P1 => k ad H1 locs1 (fun _ _ => rfl) P1 lsC hl
      have hz1 : hN (setI h x i.toNat v) - hN h = 0 := Nat.sub_self _
      have hz2 : hS (setI h x i.toNat v) - hS h = 0 := Nat.sub_self _
      rw [hz1, hz2] at k
      show W p l e R s m args below meth c H locs cells slots Q (F0 m pc lsC (.int (i32 v) :: .int (i32 i) :: rl ad b (aR x) :: r.map (rl ad b)))
      rw [rl_2 x2]
      have hset : (img cA ad b h).set (x - 2) (ad x, .inl (cA 3, (hT h x).2, .inl (upd (fun k => i32 (hI h x k)) (i32 i).toNatClampNeg (vp_nar .boolean (i32 v))))) = img cA ad b (setI h x i.toNat v) := by
        refine img_set x2 xn rfl (fun y hy => imgE_setI hy) ?_
        rw [imgE_3 (show (hT (setI h x i.toNat v) x).1 = 3 from ht)]
        rw [ec]
        refine congrArg (fun f => (Sum.inl (cA 3, (hT h x).2, Sum.inl f) : va_E)) (funext fun j => ?_)
        rw [vp_nar_z hz]; simp only [setI, hI, up2, upd, true_and]; split <;> rfl
      refine va_zast C.1 C.2.1 C.2.2.2.2.2.1 P.2.1 P.2.2.1 P.2.2.2 (x - 2) 2 he rfl hv hd (fun H1 locs1 hP hD hS => ?_)
      rw [hset] at hP hD
      exact k H1 locs1 ⟨hh1, hP, hD, hS⟩
    · rw [if_neg hx] at hs; cases hs
  · cases hs
theorem s2_45 (C : Cx p R s m args meth c D cA base mu) (hd : decode (mB mu) pc = .ok (ins, ln)) (ho : okT mu (pcsT mu) pc ins ln 45 a b2 L = true) (hs : sem1 sc 45 a b2 ls st h = some (ls9, st9, h1)) (okl : okL h ls) (oks : okS h st) (P : Pt3 D cA base b ad s h H locs) : ls9 = ls ∧ okS h1 st9 ∧ HI h1 ∧ hN h ≤ hN h1 ∧ hS h ≤ hS h1 ∧ (cells + (hN h1 - hN h) ≤ R.cells → slots + (hS h1 - hS h) ≤ R.slots → (∀ ad1 H1 locs1, (∀ y, y < hN h → ad1 y = ad y) → Pt3 D cA base b ad1 s h1 H1 locs1 → Nx p l e R s m args below meth c Q b mu (pc + ln) ls9 st9 ad1 H1 locs1 (cells + (hN h1 - hN h)) (slots + (hS h1 - hS h))) → Nx p l e R s m args below meth c Q b mu pc ls st ad H locs cells slots) := by
  simp only [sem1, opAstR] at hs
  split at hs
  · next v i x r =>
    by_cases hx : (inA h x 4 i && isO h v 2) = true
    · rw [if_pos hx] at hs
      simp only [Option.some.injEq, Prod.mk.injEq] at hs
      obtain ⟨e1, e2, e3⟩ := hs
      subst e1 e2 e3
      rw [Bool.and_eq_true] at hx; obtain ⟨hx, hz⟩ := hx
      have ov := okS_cons.mp oks
      have ov2 := okS_cons.mp ov.2
      have ov3 := okS_cons.mp ov2.2
      obtain ⟨rfl, rfl⟩ : ins = .aastore ∧ ln = 1 := by simpa only [okT, Bool.and_eq_true, decide_eq_true_eq] using ho
      obtain ⟨ht, hi0, hi1⟩ := inA_spec hx
      obtain ⟨x2, xn⟩ := P.1.cell ht (by omega)
      have he := img_at (cA := cA) (ad := ad) (b := b) x2 xn
      rw [imgE_4 ht] at he
      obtain ⟨hv, ec⟩ := in_vp P.1 hi0 hi1
      have hh1 := HI_setR P.1 ov.1 (x := x) (k := i.toNat)
      refine ⟨rfl, ov3.2, hh1, Nat.le_refl _, Nat.le_refl _, fun hc hsl k lsC hl => ?_⟩
      have k := fun H1 locs1 P1 => k ad H1 locs1 (fun _ _ => rfl) P1 lsC hl
      have hz1 : hN (setR h x i.toNat v) - hN h = 0 := Nat.sub_self _
      have hz2 : hS (setR h x i.toNat v) - hS h = 0 := Nat.sub_self _
      rw [hz1, hz2] at k
      show W p l e R s m args below meth c H locs cells slots Q (F0 m pc lsC (rl ad b (aR v) :: .int (i32 i) :: rl ad b (aR x) :: r.map (rl ad b)))
      have hvt : (hT h v).1 = 10 + 2 := by simpa [isO] using hz
      obtain ⟨v2, vn⟩ := P.1.cell hvt (by omega)
      have hev := img_at (cA := cA) (ad := ad) (b := b) v2 vn
      rw [imgE_o hvt] at hev
      rw [rl_2 x2, rl_2 v2]
      have hset : (img cA ad b h).set (x - 2) (ad x, .inl (cA 4, (hT h x).2, .inr (.inr (.inr (.inr (va_up (fun k => rf ad b (hR h x k)) (i32 i).toNatClampNeg (some (ad v)))))))) = img cA ad b (setR h x i.toNat v) := by
        refine img_set x2 xn rfl (fun y hy => imgE_setR hy) ?_
        rw [imgE_4 (show (hT (setR h x i.toNat v) x).1 = 4 from ht)]
        rw [ec]
        refine congrArg (fun f => (Sum.inl (cA 4, (hT h x).2, Sum.inr (Sum.inr (Sum.inr (Sum.inr f)))) : va_E)) (funext fun j => ?_)
        simp only [setR, hR, up2, va_up, true_and]; split
        · exact rf_2 v2
        · rfl
      refine va_astq C.1 C.2.1 C.2.2.2.2.2.1 P.2.1 P.2.2.1 P.2.2.2 (x - 2) 3 (v - 2) 2 (r := (cnm 2, fT 2, nF 2)) he rfl hev (clz_at 2 (by omega)) hv hd (fun H1 locs1 hP hD hS => ?_)
      rw [hset] at hP hD
      exact k H1 locs1 ⟨hh1, hP, hD, hS⟩
    · rw [if_neg hx] at hs; cases hs
  · cases hs
theorem s2_46 (C : Cx p R s m args meth c D cA base mu) (hd : decode (mB mu) pc = .ok (ins, ln)) (ho : okT mu (pcsT mu) pc ins ln 46 a b2 L = true) (hs : sem1 sc 46 a b2 ls st h = some (ls9, st9, h1)) (okl : okL h ls) (oks : okS h st) (P : Pt3 D cA base b ad s h H locs) : ls9 = ls ∧ okS h1 st9 ∧ HI h1 ∧ hN h ≤ hN h1 ∧ hS h ≤ hS h1 ∧ (cells + (hN h1 - hN h) ≤ R.cells → slots + (hS h1 - hS h) ≤ R.slots → (∀ ad1 H1 locs1, (∀ y, y < hN h → ad1 y = ad y) → Pt3 D cA base b ad1 s h1 H1 locs1 → Nx p l e R s m args below meth c Q b mu (pc + ln) ls9 st9 ad1 H1 locs1 (cells + (hN h1 - hN h)) (slots + (hS h1 - hS h))) → Nx p l e R s m args below meth c Q b mu pc ls st ad H locs cells slots) := by
  simp only [sem1, opLen] at hs
  split at hs
  · next x r =>
    by_cases hx : (decide (1 ≤ (hT h x).1) && decide ((hT h x).1 ≤ 4)) = true
    · rw [if_pos hx] at hs
      simp only [Option.some.injEq, Prod.mk.injEq] at hs
      obtain ⟨e1, e2, e3⟩ := hs
      subst e1 e2 e3
      rw [Bool.and_eq_true, decide_eq_true_eq, decide_eq_true_eq] at hx
      have ov := okS_cons.mp oks
      obtain ⟨rfl, rfl⟩ : ins = .arraylength ∧ ln = 1 := by simpa only [okT, Bool.and_eq_true, decide_eq_true_eq] using ho
      have hb := P.1.2.2.2.2 x
      refine ⟨rfl, okS_cons.mpr ⟨?_, ov.2⟩, P.1, Nat.le_refl _, Nat.le_refl _, fun hc hsl k lsC hl => ?_⟩
      · show inR _
        unfold inR; omega
      have k := k ad H locs (fun _ _ => rfl) P lsC hl
      simp only [Nat.sub_self, Nat.add_zero] at k
      obtain ⟨x2, xn⟩ := P.1.cell (x := x) rfl (by omega)
      have he := img_at (cA := cA) (ad := ad) (b := b) x2 xn
      have k : W p l e R s m args below meth c H locs cells slots Q (F0 m (pc + 1) lsC (.int (i32 ((hT h x).2 : Int)) :: r.map (rl ad b))) := k
      rw [i32_nat] at k
      show W p l e R s m args below meth c H locs cells slots Q (F0 m pc lsC (rl ad b (aR x) :: r.map (rl ad b)))
      rw [rl_2 x2]
      have h4 : (hT h x).1 = 1 ∨ (hT h x).1 = 2 ∨ (hT h x).1 = 3 ∨ (hT h x).1 = 4 := by omega
      rcases h4 with q | q | q | q
      · rw [imgE_1 q] at he
        exact va_alen C.1 C.2.1 C.2.2.2.2.2.1 P.2.1 (x - 2) 0 he rfl rfl hd k
      · rw [imgE_2 q] at he
        exact va_alen C.1 C.2.1 C.2.2.2.2.2.1 P.2.1 (x - 2) 1 he rfl rfl hd k
      · rw [imgE_3 q] at he
        exact va_alen C.1 C.2.1 C.2.2.2.2.2.1 P.2.1 (x - 2) 2 he rfl rfl hd k
      · rw [imgE_4 q] at he
        exact va_alen C.1 C.2.1 C.2.2.2.2.2.1 P.2.1 (x - 2) 3 he rfl rfl hd k
    · rw [if_neg hx] at hs; cases hs
  · cases hs
theorem l64_0 : l64 0#64 = 0 := rfl
theorem hA_base (C : Cx p R s m args meth c D cA base mu) : ∀ q, s.heap.size ≤ q → AA base q := fun q h => Nat.le_trans C.2.2.2.2.2.2.2.2.2.2.1 h
theorem hN_new (h : Hp) (t n : Nat) : hN (newH h t n) - hN h = 1 := by show hN h + 1 - hN h = 1; omega
theorem hS_new (h : Hp) (t n : Nat) : hS (newH h t n) - hS h = n := by show hS h + n - hS h = n; omega
theorem s2_47 (C : Cx p R s m args meth c D cA base mu) (hd : decode (mB mu) pc = .ok (ins, ln)) (ho : okT mu (pcsT mu) pc ins ln 47 a b2 L = true) (hs : sem1 sc 47 a b2 ls st h = some (ls9, st9, h1)) (okl : okL h ls) (oks : okS h st) (P : Pt3 D cA base b ad s h H locs) : ls9 = ls ∧ okS h1 st9 ∧ HI h1 ∧ hN h ≤ hN h1 ∧ hS h ≤ hS h1 ∧ (cells + (hN h1 - hN h) ≤ R.cells → slots + (hS h1 - hS h) ≤ R.slots → (∀ ad1 H1 locs1, (∀ y, y < hN h → ad1 y = ad y) → Pt3 D cA base b ad1 s h1 H1 locs1 → Nx p l e R s m args below meth c Q b mu (pc + ln) ls9 st9 ad1 H1 locs1 (cells + (hN h1 - hN h)) (slots + (hS h1 - hS h))) → Nx p l e R s m args below meth c Q b mu pc ls st ad H locs cells slots) := by
  simp only [sem1, opNewA] at hs
  split at hs
  · next n r =>
    by_cases hx : (decide (0 ≤ n) && decide (n ≤ 65536)) = true
    · rw [if_pos hx] at hs
      simp only [Option.some.injEq, Prod.mk.injEq] at hs
      obtain ⟨e1, e2, e3⟩ := hs
      subst e1 e2 e3
      rw [Bool.and_eq_true, decide_eq_true_eq, decide_eq_true_eq] at hx
      have ov := okS_cons.mp oks
      obtain ⟨rfl, rfl⟩ : ins = .newarray .int ∧ ln = 2 := by simpa only [okT, Bool.and_eq_true, decide_eq_true_eq] using ho
      have hh1 : HI (newH h 1 n.toNat) := HI_new P.1 (by omega)
      have hn1 : hN h ≤ hN (newH h 1 n.toNat) := Nat.le_succ _
      refine ⟨rfl, okS_cons.mpr ⟨Nat.lt_succ_self (hN h), ov.2.mono hn1⟩, hh1, hn1, Nat.le_add_right _ _, fun hc hsl k lsC hl => ?_⟩
      rw [hN_new] at hc k
      rw [hS_new] at hsl k
      have ec : (i32 n).toNatClampNeg = n.toNat := i32_clamp ov.1 hx.1
      have hw : (Cond.arrayClass (newarray.typeOf .int)).before args s = true := C.2.2.2.2.1 _ (mem_wA (by decide))
      refine va_newa (a0 := (n.toNat, .inl fun _ => 0)) C.1 C.2.1 hw rfl C.2.2.2.2.2.1 P.2.1 P.2.2.1 P.2.2.2 (hA_base C) (fun cA => rfl) (by rw [← i32_0, i32_lt ov.1 inR_0]; omega) ec (by show n.toNat * 4 ≤ 536870912; omega) hc hsl hd (fun q cA2 H1 hK hP hD hS => ?_)
      have ecA : cA2 = cA 1 := by
        have h1 : s.vm.findClass ("[" ++ (FieldType.int).toString) = some cA2 := (hK.2 (tysA cA).length (cA2, .int) (by rw [List.getElem?_append_right (Nat.le_refl _), Nat.sub_self]; rfl)).2
        have h2 : s.vm.findClass ("[" ++ (FieldType.int).toString) = some (cA 1) := (C.2.2.2.2.2.1.2 0 (cA 1, .int) rfl).2
        exact Option.some.inj (h1.symm.trans h2)
      subst ecA
      have hi : img cA (fun y => if y = hN h then q else ad y) b (newH h 1 n.toNat) = img cA ad b h ++ [(q, .inl (cA 1, n.toNat, .inl fun _ => 0))] := by
        refine img_new P.1 ?_
        rw [imgE_1 (by simp [newH, hT])]
        simp [newH, hT, hI, hL, i32_0, l64_0]
      have ha : ∀ y, y < hN h → (fun y => if y = hN h then q else ad y) y = ad y := fun y hy => if_neg (by omega)
      have k := k (fun y => if y = hN h then q else ad y) H1 locs ha ⟨hh1, by rw [hi]; exact hP, by rw [hi]; exact hD, hS⟩ lsC (by rw [lpr_congr ha okl]; exact hl)
      have er : rl (fun y => if y = hN h then q else ad y) b (aR (hN h)) = .ref q := by rw [rl_2 P.1.1, if_pos rfl]
      rw [List.map_cons, er, rls_congr ha ov.2] at k
      exact k
    · rw [if_neg hx] at hs; cases hs
  · cases hs
theorem s2_48 (C : Cx p R s m args meth c D cA base mu) (hd : decode (mB mu) pc = .ok (ins, ln)) (ho : okT mu (pcsT mu) pc ins ln 48 a b2 L = true) (hs : sem1 sc 48 a b2 ls st h = some (ls9, st9, h1)) (okl : okL h ls) (oks : okS h st) (P : Pt3 D cA base b ad s h H locs) : ls9 = ls ∧ okS h1 st9 ∧ HI h1 ∧ hN h ≤ hN h1 ∧ hS h ≤ hS h1 ∧ (cells + (hN h1 - hN h) ≤ R.cells → slots + (hS h1 - hS h) ≤ R.slots → (∀ ad1 H1 locs1, (∀ y, y < hN h → ad1 y = ad y) → Pt3 D cA base b ad1 s h1 H1 locs1 → Nx p l e R s m args below meth c Q b mu (pc + ln) ls9 st9 ad1 H1 locs1 (cells + (hN h1 - hN h)) (slots + (hS h1 - hS h))) → Nx p l e R s m args below meth c Q b mu pc ls st ad H locs cells slots) := by
  simp only [sem1, opNewA] at hs
  split at hs
  · next n r =>
    by_cases hx : (decide (0 ≤ n) && decide (n ≤ 65536)) = true
    · rw [if_pos hx] at hs
      simp only [Option.some.injEq, Prod.mk.injEq] at hs
      obtain ⟨e1, e2, e3⟩ := hs
      subst e1 e2 e3
      rw [Bool.and_eq_true, decide_eq_true_eq, decide_eq_true_eq] at hx
      have ov := okS_cons.mp oks
      obtain ⟨rfl, rfl⟩ : ins = .newarray .long ∧ ln = 2 := by simpa only [okT, Bool.and_eq_true, decide_eq_true_eq] using ho
      have hh1 : HI (newH h 2 n.toNat) := HI_new P.1 (by omega)
      have hn1 : hN h ≤ hN (newH h 2 n.toNat) := Nat.le_succ _
      refine ⟨rfl, okS_cons.mpr ⟨Nat.lt_succ_self (hN h), ov.2.mono hn1⟩, hh1, hn1, Nat.le_add_right _ _, fun hc hsl k lsC hl => ?_⟩
      rw [hN_new] at hc k
      rw [hS_new] at hsl k
      have ec : (i32 n).toNatClampNeg = n.toNat := i32_clamp ov.1 hx.1
      have hw : (Cond.arrayClass (newarray.typeOf .long)).before args s = true := C.2.2.2.2.1 _ (mem_wA (by decide))
      refine va_newa (a0 := (n.toNat, .inr (.inl fun _ => 0))) C.1 C.2.1 hw rfl C.2.2.2.2.2.1 P.2.1 P.2.2.1 P.2.2.2 (hA_base C) (fun cA => rfl) (by rw [← i32_0, i32_lt ov.1 inR_0]; omega) ec (by show n.toNat * 8 ≤ 536870912; omega) hc hsl hd (fun q cA2 H1 hK hP hD hS => ?_)
      have ecA : cA2 = cA 2 := by
        have h1 : s.vm.findClass ("[" ++ (FieldType.long).toString) = some cA2 := (hK.2 (tysA cA).length (cA2, .long) (by rw [List.getElem?_append_right (Nat.le_refl _), Nat.sub_self]; rfl)).2
        have h2 : s.vm.findClass ("[" ++ (FieldType.long).toString) = some (cA 2) := (C.2.2.2.2.2.1.2 1 (cA 2, .long) rfl).2
        exact Option.some.inj (h1.symm.trans h2)
      subst ecA
      have hi : img cA (fun y => if y = hN h then q else ad y) b (newH h 2 n.toNat) = img cA ad b h ++ [(q, .inl (cA 2, n.toNat, .inr (.inl fun _ => 0)))] := by
        refine img_new P.1 ?_
        rw [imgE_2 (by simp [newH, hT])]
        simp [newH, hT, hI, hL, i32_0, l64_0]
      have ha : ∀ y, y < hN h → (fun y => if y = hN h then q else ad y) y = ad y := fun y hy => if_neg (by omega)
      have k := k (fun y => if y = hN h then q else ad y) H1 locs ha ⟨hh1, by rw [hi]; exact hP, by rw [hi]; exact hD, hS⟩ lsC (by rw [lpr_congr ha okl]; exact hl)
      have er : rl (fun y => if y = hN h then q else ad y) b (aR (hN h)) = .ref q := by rw [rl_2 P.1.1, if_pos rfl]
      rw [List.map_cons, er, rls_congr ha ov.2] at k
      exact k
    · rw [if_neg hx] at hs; cases hs
  · cases hs
theorem s2_49 (C : Cx p R s m args meth c D cA base mu) (hd : decode (mB mu) pc = .ok (ins, ln)) (ho : okT mu (pcsT mu) pc ins ln 49 a b2 L = true) (hs : sem1 sc 49 a b2 ls st h = some (ls9, st9, h1)) (okl : okL h ls) (oks : okS h st) (P : Pt3 D cA base b ad s h H locs) : ls9 = ls ∧ okS h1 st9 ∧ HI h1 ∧ hN h ≤ hN h1 ∧ hS h ≤ hS h1 ∧ (cells + (hN h1 - hN h) ≤ R.cells → slots + (hS h1 - hS h) ≤ R.slots → (∀ ad1 H1 locs1, (∀ y, y < hN h → ad1 y = ad y) → Pt3 D cA base b ad1 s h1 H1 locs1 → Nx p l e R s m args below meth c Q b mu (pc + ln) ls9 st9 ad1 H1 locs1 (cells + (hN h1 - hN h)) (slots + (hS h1 - hS h))) → Nx p l e R s m args below meth c Q b mu pc ls st ad H locs cells slots) := by
  simp only [sem1, opNewA] at hs
  split at hs
  · next n r =>
    by_cases hx : (decide (0 ≤ n) && decide (n ≤ 65536)) = true
    · rw [if_pos hx] at hs
      simp only [Option.some.injEq, Prod.mk.injEq] at hs
      obtain ⟨e1, e2, e3⟩ := hs
      subst e1 e2 e3
      rw [Bool.and_eq_true, decide_eq_true_eq, decide_eq_true_eq] at hx
      have ov := okS_cons.mp oks
      obtain ⟨rfl, rfl⟩ : ins = .newarray .boolean ∧ ln = 2 := by simpa only [okT, Bool.and_eq_true, decide_eq_true_eq] using ho
      have hh1 : HI (newH h 3 n.toNat) := HI_new P.1 (by omega)
      have hn1 : hN h ≤ hN (newH h 3 n.toNat) := Nat.le_succ _
      refine ⟨rfl, okS_cons.mpr ⟨Nat.lt_succ_self (hN h), ov.2.mono hn1⟩, hh1, hn1, Nat.le_add_right _ _, fun hc hsl k lsC hl => ?_⟩
      rw [hN_new] at hc k
      rw [hS_new] at hsl k
      have ec : (i32 n).toNatClampNeg = n.toNat := i32_clamp ov.1 hx.1
      have hw : (Cond.arrayClass (newarray.typeOf .boolean)).before args s = true := C.2.2.2.2.1 _ (mem_wA (by decide))
      refine va_newa (a0 := (n.toNat, .inl fun _ => 0)) C.1 C.2.1 hw rfl C.2.2.2.2.2.1 P.2.1 P.2.2.1 P.2.2.2 (hA_base C) (fun cA => rfl) (by rw [← i32_0, i32_lt ov.1 inR_0]; omega) ec (by show n.toNat * 1 ≤ 536870912; omega) hc hsl hd (fun q cA2 H1 hK hP hD hS => ?_)
      have ecA : cA2 = cA 3 := by
        have h1 : s.vm.findClass ("[" ++ (FieldType.boolean).toString) = some cA2 := (hK.2 (tysA cA).length (cA2, .boolean) (by rw [List.getElem?_append_right (Nat.le_refl _), Nat.sub_self]; rfl)).2
        have h2 : s.vm.findClass ("[" ++ (FieldType.boolean).toString) = some (cA 3) := (C.2.2.2.2.2.1.2 2 (cA 3, .boolean) rfl).2
        exact Option.some.inj (h1.symm.trans h2)
      subst ecA
      have hi : img cA (fun y => if y = hN h then q else ad y) b (newH h 3 n.toNat) = img cA ad b h ++ [(q, .inl (cA 3, n.toNat, .inl fun _ => 0))] := by
        refine img_new P.1 ?_
        rw [imgE_3 (by simp [newH, hT])]
        simp [newH, hT, hI, hL, i32_0, l64_0]
      have ha : ∀ y, y < hN h → (fun y => if y = hN h then q else ad y) y = ad y := fun y hy => if_neg (by omega)
      have k := k (fun y => if y = hN h then q else ad y) H1 locs ha ⟨hh1, by rw [hi]; exact hP, by rw [hi]; exact hD, hS⟩ lsC (by rw [lpr_congr ha okl]; exact hl)
      have er : rl (fun y => if y = hN h then q else ad y) b (aR (hN h)) = .ref q := by rw [rl_2 P.1.1, if_pos rfl]
      rw [List.map_cons, er, rls_congr ha ov.2] at k
      exact k
    · rw [if_neg hx] at hs; cases hs
  · cases hs
theorem s2_50 (C : Cx p R s m args meth c D cA base mu) (hd : decode (mB mu) pc = .ok (ins, ln)) (ho : okT mu (pcsT mu) pc ins ln 50 a b2 L = true) (hs : sem1 sc 50 a b2 ls st h = some (ls9, st9, h1)) (okl : okL h ls) (oks : okS h st) (P : Pt3 D cA base b ad s h H locs) : ls9 = ls ∧ okS h1 st9 ∧ HI h1 ∧ hN h ≤ hN h1 ∧ hS h ≤ hS h1 ∧ (cells + (hN h1 - hN h) ≤ R.cells → slots + (hS h1 - hS h) ≤ R.slots → (∀ ad1 H1 locs1, (∀ y, y < hN h → ad1 y = ad y) → Pt3 D cA base b ad1 s h1 H1 locs1 → Nx p l e R s m args below meth c Q b mu (pc + ln) ls9 st9 ad1 H1 locs1 (cells + (hN h1 - hN h)) (slots + (hS h1 - hS h))) → Nx p l e R s m args below meth c Q b mu pc ls st ad H locs cells slots) := by
  simp only [sem1, opNewA] at hs
  split at hs
  · next n r =>
    by_cases hx : (decide (0 ≤ n) && decide (n ≤ 65536)) = true
    · rw [if_pos hx] at hs
      simp only [Option.some.injEq, Prod.mk.injEq] at hs
      obtain ⟨e1, e2, e3⟩ := hs
      subst e1 e2 e3
      rw [Bool.and_eq_true, decide_eq_true_eq, decide_eq_true_eq] at hx
      have ov := okS_cons.mp oks
      simp only [okT] at ho
      split at ho
      · next idx =>
        obtain ⟨rfl, hm⟩ : ln = 3 ∧ (mC mu, idx, 2) ∈ clist := by simpa using ho
        have hh1 : HI (newH h 4 n.toNat) := HI_new P.1 (by omega)
        have hn1 : hN h ≤ hN (newH h 4 n.toNat) := Nat.le_succ _
        refine ⟨rfl, okS_cons.mpr ⟨Nat.lt_succ_self (hN h), ov.2.mono hn1⟩, hh1, hn1, Nat.le_add_right _ _, fun hc hsl k lsC hl => ?_⟩
        rw [hN_new] at hc k
        rw [hS_new] at hsl k
        have ec : (i32 n).toNatClampNeg = n.toNat := i32_clamp ov.1 hx.1
        have hw : (Cond.classLink (cnm (mC mu)) idx RX4).before args s = true := C.2.2.2.2.1 _ (mem_wC (List.mem_map.mpr ⟨_, hm, rfl⟩))
        refine va_newq C.1 C.2.1 C.2.2.2.1 hw C.2.2.2.2.2.2.1.2 C.2.2.2.2.2.1 P.2.1 P.2.2.1 P.2.2.2 (hA_base C) (by rw [← i32_0, i32_lt ov.1 inR_0]; omega) ec (by omega) hc hsl hd (fun q cA2 H1 hK hP hD hS => ?_)
        have ecA : cA2 = cA 4 := by
          obtain ⟨_, _, _, _, _, h1⟩ := (hK.2 (tysA cA).length (cA2, .object RX4) (by rw [List.getElem?_append_right (Nat.le_refl _), Nat.sub_self]; rfl)).2
          obtain ⟨_, _, _, _, _, h2⟩ := (C.2.2.2.2.2.1.2 3 (cA 4, .object RX4) rfl).2
          exact Option.some.inj (h1.symm.trans h2)
        subst ecA
        have hi : img cA (fun y => if y = hN h then q else ad y) b (newH h 4 n.toNat) = img cA ad b h ++ [(q, .inl (cA 4, n.toNat, .inr (.inr (.inr (.inr (fun _ => none))))))] := by
          refine img_new P.1 ?_
          rw [imgE_4 (by simp [newH, hT])]
          simp [newH, hT, hR, rf]
        have ha : ∀ y, y < hN h → (fun y => if y = hN h then q else ad y) y = ad y := fun y hy => if_neg (by omega)
        have k := k (fun y => if y = hN h then q else ad y) H1 locs ha ⟨hh1, by rw [hi]; exact hP, by rw [hi]; exact hD, hS⟩ lsC (by rw [lpr_congr ha okl]; exact hl)
        have er : rl (fun y => if y = hN h then q else ad y) b (aR (hN h)) = .ref q := by rw [rl_2 P.1.1, if_pos rfl]
        rw [List.map_cons, er, rls_congr ha ov.2] at k
        exact k
      · cases ho
    · rw [if_neg hx] at hs; cases hs
  · cases hs
theorem nF_le : ∀ ci, ci < 7 → nF ci ≤ 36 := by decide
theorem fval_new {ad : Nat → Nat} {b : Nat} {h : Hp} {t n k : Nat} {ty : FieldType} (hty : ty = .int ∨ ty = .boolean ∨ ty = .long ∨ isRef ty = true) : fval ad b (newH h t n) (hN h) ty k = defaultValue ty := by
  rcases hty with rfl | rfl | rfl | q
  · simp [fval, newH, hI, i32_0, defaultValue]
  · simp [fval, newH, hI, i32_0, defaultValue]
  · simp [fval, newH, hL, l64_0, defaultValue]
  · rw [fval_ref q]
    cases ty <;> first | (simp [newH, hR, rf, va_rf, defaultValue]; done) | cases q
theorem fk_0 : ∀ k, k < nF 0 → (fty 0 k = .int ∨ fty 0 k = .boolean ∨ fty 0 k = .long ∨ isRef (fty 0 k) = true) := by decide +kernel
theorem fk_1 : ∀ k, k < nF 1 → (fty 1 k = .int ∨ fty 1 k = .boolean ∨ fty 1 k = .long ∨ isRef (fty 1 k) = true) := by decide +kernel
theorem fk_2 : ∀ k, k < nF 2 → (fty 2 k = .int ∨ fty 2 k = .boolean ∨ fty 2 k = .long ∨ isRef (fty 2 k) = true) := by decide +kernel
theorem fk_3 : ∀ k, k < nF 3 → (fty 3 k = .int ∨ fty 3 k = .boolean ∨ fty 3 k = .long ∨ isRef (fty 3 k) = true) := by decide +kernel
theorem fk_4 : ∀ k, k < nF 4 → (fty 4 k = .int ∨ fty 4 k = .boolean ∨ fty 4 k = .long ∨ isRef (fty 4 k) = true) := by decide +kernel
theorem fk_5 : ∀ k, k < nF 5 → (fty 5 k = .int ∨ fty 5 k = .boolean ∨ fty 5 k = .long ∨ isRef (fty 5 k) = true) := by decide +kernel
theorem fk_6 : ∀ k, k < nF 6 → (fty 6 k = .int ∨ fty 6 k = .boolean ∨ fty 6 k = .long ∨ isRef (fty 6 k) = true) := by decide +kernel
theorem fk_all : ∀ ci, ci < 7 → ∀ k, k < nF ci → (fty ci k = .int ∨ fty ci k = .boolean ∨ fty ci k = .long ∨ isRef (fty ci k) = true)
  | 0, _ => fk_0
  | 1, _ => fk_1
  | 2, _ => fk_2
  | 3, _ => fk_3
  | 4, _ => fk_4
  | 5, _ => fk_5
  | 6, _ => fk_6
  | n + 7, h => absurd h (by omega)
theorem s2_51 (C : Cx p R s m args meth c D cA base mu) (hd : decode (mB mu) pc = .ok (ins, ln)) (ho : okT mu (pcsT mu) pc ins ln 51 a b2 L = true) (hs : sem1 sc 51 a b2 ls st h = some (ls9, st9, h1)) (okl : okL h ls) (oks : okS h st) (P : Pt3 D cA base b ad s h H locs) : ls9 = ls ∧ okS h1 st9 ∧ HI h1 ∧ hN h ≤ hN h1 ∧ hS h ≤ hS h1 ∧ (cells + (hN h1 - hN h) ≤ R.cells → slots + (hS h1 - hS h) ≤ R.slots → (∀ ad1 H1 locs1, (∀ y, y < hN h → ad1 y = ad y) → Pt3 D cA base b ad1 s h1 H1 locs1 → Nx p l e R s m args below meth c Q b mu (pc + ln) ls9 st9 ad1 H1 locs1 (cells + (hN h1 - hN h)) (slots + (hS h1 - hS h))) → Nx p l e R s m args below meth c Q b mu pc ls st ad H locs cells slots) := by
  cases hs
  simp only [okT] at ho
  split at ho
  · next idx =>
    obtain ⟨rfl, hm, ha7, hbn⟩ : ln = 3 ∧ (mC mu, idx, a) ∈ clist ∧ a < 7 ∧ b2 = (nF a : Int) := by simpa using ho
    have hbn : b2.toNat = nF a := by omega
    rw [hbn]
    have h36 := nF_le a ha7
    have hh1 : HI (newH h (10 + a) (nF a)) := HI_new P.1 (by omega)
    have hn1 : hN h ≤ hN (newH h (10 + a) (nF a)) := Nat.le_succ _
    refine ⟨rfl, okS_cons.mpr ⟨Nat.lt_succ_self (hN h), oks.mono hn1⟩, hh1, hn1, Nat.le_add_right _ _, fun hc hsl k lsC hl => ?_⟩
    rw [hN_new] at hc k
    rw [hS_new] at hsl k
    have hw : (Cond.classLink (cnm (mC mu)) idx (cnm a)).before args s = true := C.2.2.2.2.1 _ (mem_wC (List.mem_map.mpr ⟨_, hm, rfl⟩))
    have hw2 : (Cond.instantiable (cnm a) (nF a)).before args s = true := C.2.2.2.2.1 _ (mem_wN (List.mem_map.mpr ⟨a, List.mem_range.mpr ha7, rfl⟩))
    have hw3 : (Cond.initialized (cnm a)).before args s = true := C.2.2.2.2.1 _ (mem_wZ (List.mem_map.mpr ⟨a, List.mem_range.mpr (by omega), rfl⟩))
    refine va_new (ci := a) (C := cnm a) (T := fT a) (N := nF a) (fs := (List.range (nF a)).map fun k => defaultValue (fty a k)) C.1 C.2.1 C.2.2.2.2.1 (uws_in _ ha7) (fty a) (fty_ok _ ha7) C.2.2.2.1 hw hw2 hw3 C.2.2.2.2.2.1 P.2.1 P.2.2.1 P.2.2.2 (hA_base C) (clz_at _ ha7) (fun j hj => ?_) hc hsl hd (fun q H1 hP hD hS => ?_)
    · unfold vp_V
      rw [List.getD_eq_getElem?_getD, List.getElem?_map, List.getElem?_range hj]; rfl
    have hi : img cA (fun y => if y = hN h then q else ad y) b (newH h (10 + a) (nF a)) = img cA ad b h ++ [(q, .inr (a, (List.range (nF a)).map fun k => defaultValue (fty a k)))] := by
      refine img_new P.1 ?_
      rw [imgE_o (ci := a) (by simp [newH, hT])]
      congr 2
      apply List.map_congr_left
      intro k hk
      exact fval_new (fk_all a ha7 k (List.mem_range.mp hk))
    have ha : ∀ y, y < hN h → (fun y => if y = hN h then q else ad y) y = ad y := fun y hy => if_neg (by omega)
    have k := k (fun y => if y = hN h then q else ad y) H1 locs ha ⟨hh1, by rw [hi]; exact hP, by rw [hi]; exact hD, hS⟩ lsC (by rw [lpr_congr ha okl]; exact hl)
    have er : rl (fun y => if y = hN h then q else ad y) b (aR (hN h)) = .ref q := by rw [rl_2 P.1.1, if_pos rfl]
    rw [List.map_cons, er, rls_congr ha oks] at k
    exact k
  · cases ho
theorem s2_52 (C : Cx p R s m args meth c D cA base mu) (hd : decode (mB mu) pc = .ok (ins, ln)) (ho : okT mu (pcsT mu) pc ins ln 52 a b2 L = true) (hs : sem1 sc 52 a b2 ls st h = some (ls9, st9, h1)) (okl : okL h ls) (oks : okS h st) (P : Pt3 D cA base b ad s h H locs) : ls9 = ls ∧ okS h1 st9 ∧ HI h1 ∧ hN h ≤ hN h1 ∧ hS h ≤ hS h1 ∧ (cells + (hN h1 - hN h) ≤ R.cells → slots + (hS h1 - hS h) ≤ R.slots → (∀ ad1 H1 locs1, (∀ y, y < hN h → ad1 y = ad y) → Pt3 D cA base b ad1 s h1 H1 locs1 → Nx p l e R s m args below meth c Q b mu (pc + ln) ls9 st9 ad1 H1 locs1 (cells + (hN h1 - hN h)) (slots + (hS h1 - hS h))) → Nx p l e R s m args below meth c Q b mu pc ls st ad H locs cells slots) := by
  simp only [sem1, opObj] at hs
  split at hs
  · next x =>
    split at hs
    · cases hs
    · next hx =>
      cases hs
      have ov := okS_cons.mp oks
      simp only [okT] at ho
      split at ho
      · next idx =>
        obtain ⟨rfl, hm, hf, hlo⟩ : ln = 3 ∧ (mC mu, idx) ∈ olist ∧ 1 ≤ mF mu ∧ 20 ≤ mO mu := by simpa using ho
        refine ⟨rfl, ov.2, P.1, Nat.le_refl _, Nat.le_refl _, fun hc hsl k lsC hl => ?_⟩
        have k := k ad H locs (fun _ _ => rfl) P lsC hl
        simp only [Nat.sub_self, Nat.add_zero] at k
        have x2 : 2 ≤ x := by
          have : ¬ (x = 0 ∨ x = 1) := by simpa using hx
          omega
        have hF := C.2.2.2.2.2.2.2.2.2.2.2
        show W p l e R s m args below meth c H locs cells slots Q (F0 m pc lsC [rl ad b (aR x)])
        rw [rl_2 x2]
        exact W.objInit C.1 C.2.1 C.2.2.2.1 (C.2.2.2.2.1 _ (mem_wO (List.mem_map.mpr ⟨_, hm, rfl⟩))) (C.2.2.2.2.1 _ (mem_wP List.mem_cons_self)) (C.2.2.2.2.1 _ (mem_wP (List.mem_cons_of_mem _ List.mem_cons_self))) rfl (hl.1.trans C.2.2.1.symm) rfl hd (Nat.le_trans hf hF.1) (by show 0 + 0 + 12 ≤ R.locals; have := hF.2; omega) k
      · cases ho
  · cases hs
theorem s2_53 (C : Cx p R s m args meth c D cA base mu) (hd : decode (mB mu) pc = .ok (ins, ln)) (ho : okT mu (pcsT mu) pc ins ln 53 a b2 L = true) (hs : sem1 sc 53 a b2 ls st h = some (ls9, st9, h1)) (okl : okL h ls) (oks : okS h st) (P : Pt3 D cA base b ad s h H locs) (hX : va_X b sc.1 (fun j => i32 (sc.2 j)) s s.heap) (hbl : b < base) (hsr : ∀ j, inR (sc.2 j)) (hsl0 : sc.1 ≤ 65536) (hbz : base ≤ s.heap.size) : ls9 = ls ∧ okS h1 st9 ∧ HI h1 ∧ hN h ≤ hN h1 ∧ hS h ≤ hS h1 ∧ (cells + (hN h1 - hN h) ≤ R.cells → slots + (hS h1 - hS h) ≤ R.slots → (∀ ad1 H1 locs1, (∀ y, y < hN h → ad1 y = ad y) → Pt3 D cA base b ad1 s h1 H1 locs1 → Nx p l e R s m args below meth c Q b mu (pc + ln) ls9 st9 ad1 H1 locs1 (cells + (hN h1 - hN h)) (slots + (hS h1 - hS h))) → Nx p l e R s m args below meth c Q b mu pc ls st ad H locs cells slots) := by
  simp only [sem1, opSld] at hs
  split at hs
  · next i r =>
    by_cases hx : (decide (0 ≤ i) && decide (i < (sc.1 : Int))) = true
    · rw [if_pos hx] at hs
      simp only [Option.some.injEq, Prod.mk.injEq] at hs
      obtain ⟨e1, e2, e3⟩ := hs
      subst e1 e2 e3
      rw [Bool.and_eq_true, decide_eq_true_eq, decide_eq_true_eq] at hx
      have ov := okS_cons.mp oks
      have ov2 := okS_cons.mp ov.2
      obtain ⟨-, rfl, rfl⟩ : mu = 177 ∧ ins = .iaload ∧ ln = 1 := by simpa only [okT, Bool.and_eq_true, decide_eq_true_eq] using ho
      refine ⟨rfl, okS_cons.mpr ⟨hsr _, ov2.2⟩, P.1, Nat.le_refl _, Nat.le_refl _, fun hc hsl k lsC hl => ?_⟩
      have k := k ad H locs (fun _ _ => rfl) P lsC hl
      simp only [Nat.sub_self, Nat.add_zero] at k
      have ec : (i32 i).toNatClampNeg = i.toNat := i32_clamp ov.1 hx.1
      rw [← ec] at k
      exact va_sld C.1 C.2.1 hX (Nat.lt_of_lt_of_le hbl hbz) (fun q => absurd hbl (Nat.not_lt.mpr q)) P.2.2.2 (vp_in_iff.mpr (by rw [i32_toInt ov.1]; exact hx)) hd k
    · rw [if_neg hx] at hs; cases hs
  · cases hs
theorem s2_54 (C : Cx p R s m args meth c D cA base mu) (hd : decode (mB mu) pc = .ok (ins, ln)) (ho : okT mu (pcsT mu) pc ins ln 54 a b2 L = true) (hs : sem1 sc 54 a b2 ls st h = some (ls9, st9, h1)) (okl : okL h ls) (oks : okS h st) (P : Pt3 D cA base b ad s h H locs) (hX : va_X b sc.1 (fun j => i32 (sc.2 j)) s s.heap) (hbl : b < base) (hsr : ∀ j, inR (sc.2 j)) (hsl0 : sc.1 ≤ 65536) (hbz : base ≤ s.heap.size) : ls9 = ls ∧ okS h1 st9 ∧ HI h1 ∧ hN h ≤ hN h1 ∧ hS h ≤ hS h1 ∧ (cells + (hN h1 - hN h) ≤ R.cells → slots + (hS h1 - hS h) ≤ R.slots → (∀ ad1 H1 locs1, (∀ y, y < hN h → ad1 y = ad y) → Pt3 D cA base b ad1 s h1 H1 locs1 → Nx p l e R s m args below meth c Q b mu (pc + ln) ls9 st9 ad1 H1 locs1 (cells + (hN h1 - hN h)) (slots + (hS h1 - hS h))) → Nx p l e R s m args below meth c Q b mu pc ls st ad H locs cells slots) := by
  simp only [sem1, opSlen] at hs
  split at hs
  · next r =>
    cases hs
    have ov := okS_cons.mp oks
    obtain ⟨-, rfl, rfl⟩ : mu = 177 ∧ ins = .arraylength ∧ ln = 1 := by simpa only [okT, Bool.and_eq_true, decide_eq_true_eq] using ho
    refine ⟨rfl, okS_cons.mpr ⟨?_, ov.2⟩, P.1, Nat.le_refl _, Nat.le_refl _, fun hc hsl k lsC hl => ?_⟩
    · show inR _
      unfold inR; omega
    have k := k ad H locs (fun _ _ => rfl) P lsC hl
    simp only [Nat.sub_self, Nat.add_zero] at k
    have k : W p l e R s m args below meth c H locs cells slots Q (F0 m (pc + 1) lsC (.int (i32 (sc.1 : Int)) :: r.map (rl ad b))) := k
    rw [i32_nat] at k
    exact va_slen C.1 C.2.1 hX (Nat.lt_of_lt_of_le hbl hbz) (fun q => absurd hbl (Nat.not_lt.mpr q)) P.2.2.2 hd k
  · cases hs
end HeapOps
