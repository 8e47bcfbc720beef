/-! ===== a RUN to its end ===== -/
def act (s : St) : Prop := ¬ sP s = 60 ∧ sF s = 0
def sx (K X E Y N : Int → Int) (s : St) : St := stp s (K (sP s)) (X (sP s)) (E (sP s)) (Y (sP s)) (N (sP s))
noncomputable def itF (f : St → St) : Nat → St → St
  | 0, s => s
  | m + 1, s => @ite _ (act s) (Classical.propDecidable _) (itF f m (f s)) s
noncomputable def itN (f : St → St) : Nat → St → Nat
  | 0, _ => 0
  | m + 1, s => @ite _ (act s) (Classical.propDecidable _) (itN f m (f s) + 1) 0
noncomputable def itS (f : St → St) (e : St → List Int) : Nat → St → List Int
  | 0, _ => []
  | m + 1, s => @ite _ (act s) (Classical.propDecidable _) (e s ++ itS f e m (f s)) []
theorem itF_t {f : St → St} {m : Nat} {s : St} (h : act s) : itF f (m + 1) s = itF f m (f s) := if_pos h
theorem itF_f {f : St → St} {m : Nat} {s : St} (h : ¬ act s) : itF f m s = s := by
  cases m with
  | zero => rfl
  | succ m => exact if_neg h
theorem itN_t {f : St → St} {m : Nat} {s : St} (h : act s) : itN f (m + 1) s = itN f m (f s) + 1 := if_pos h
theorem itN_f {f : St → St} {m : Nat} {s : St} (h : ¬ act s) : itN f m s = 0 := by
  cases m with
  | zero => rfl
  | succ m => exact if_neg h
theorem itS_t {f : St → St} {e : St → List Int} {m : Nat} {s : St} (h : act s) : itS f e (m + 1) s = e s ++ itS f e m (f s) := if_pos h
theorem itS_f {f : St → St} {e : St → List Int} {m : Nat} {s : St} (h : ¬ act s) : itS f e m s = [] := by
  cases m with
  | zero => rfl
  | succ m => exact if_neg h
theorem itN_le {f : St → St} : ∀ {m : Nat} {s : St}, itN f m s ≤ m
  | 0, s => Nat.le_refl _
  | m + 1, s => by
    by_cases h : act s
    · rw [itN_t h]; have := itN_le (f := f) (m := m) (s := f s); omega
    · rw [itN_f h]; omega
/-- the number that a step shows at the watched line -/
noncomputable def seV (K X E : Int → Int) (w : Int) (s : St) : List Int := @ite _ (vR (sN s) (K (sP s)) (X (sP s)) (E (sP s)) = false ∧ sP s = w) (Classical.propDecidable _) [vV (sN s) (sL s) (K (sP s)) (E (sP s))] []
theorem seV_t {K X E : Int → Int} {w : Int} {s : St} (h : vR (sN s) (K (sP s)) (X (sP s)) (E (sP s)) = false ∧ sP s = w) : seV K X E w s = [vV (sN s) (sL s) (K (sP s)) (E (sP s))] := if_pos h
theorem seV_f {K X E : Int → Int} {w : Int} {s : St} (h : ¬ (vR (sN s) (K (sP s)) (X (sP s)) (E (sP s)) = false ∧ sP s = w)) : seV K X E w s = [] := if_neg h
/-- how a RUN ended -/
def outC (s : St) : Int := if ¬ sF s = 0 then 1 else if sP s = 60 then 0 else 2
theorem ntS_e {s : St} {k v : Int} : sP (ntS s k v) = sP s ∧ sF (ntS s k v) = sF s ∧ sT (ntS s k v) = sT s ∧ sN (ntS s k v) = sN s ∧ sL (ntS s k v) = sL s ∧ sD (ntS s k v) = sD s ∧ (sC (ntS s k v) = if sC s < 400 then sC s + 1 else sC s) := by
  unfold ntS
  split
  · exact ⟨rfl, rfl, rfl, rfl, rfl, rfl, rfl⟩
  · exact ⟨rfl, rfl, rfl, rfl, rfl, rfl, rfl⟩
/-- what a step does to where it is, the flag, the counts -/
theorem stp_e {s : St} {k u v y m : Int} : (sP (stp s k u v y m) = sP s ∧ sF (stp s k u v y m) = 1 ∧ vR (sN s) k u v = true ∨ vR (sN s) k u v = false ∧ sF (stp s k u v y m) = 0 ∧ (sP (stp s k u v y m) = y ∨ ((k = 3 ∨ k = 5) ∧ sP (stp s k u v y m) = m))) ∧ (sT (stp s k u v y m) = sT s ∨ sT (stp s k u v y m) = sT s + 1) ∧ (sC (stp s k u v y m) = if sC s < 400 then sC s + 1 else sC s) := by
  obtain ⟨e1, e2, e3, e4, e5, e6, e7⟩ := ntS_e (s := s) (k := k) (v := v)
  cases hv : vR (sN s) k u v with
  | true =>
    rw [stp_R hv]
    exact ⟨Or.inl ⟨rfl, rfl, rfl⟩, Or.inl e3, e7⟩
  | false =>
    unfold stp
    rw [hv]
    simp only [Bool.false_eq_true, ↓reduceIte]
    by_cases k0 : k = 0
    · rw [if_pos k0]; exact ⟨Or.inr ⟨trivial, rfl, Or.inl rfl⟩, Or.inl e3, e7⟩
    · rw [if_neg k0]
      by_cases k1 : k = 1
      · rw [if_pos k1]; exact ⟨Or.inr ⟨trivial, rfl, Or.inl rfl⟩, Or.inl e3, e7⟩
      · rw [if_neg k1]
        by_cases k2 : k = 2
        · rw [if_pos k2]; refine ⟨Or.inr ⟨trivial, rfl, Or.inl rfl⟩, Or.inr ?_, e7⟩
          show sT (ntS s k v) + 1 = _
          rw [e3]
        · rw [if_neg k2]
          refine ⟨Or.inr ⟨trivial, rfl, ?_⟩, Or.inl e3, e7⟩
          show (if (k = 3 ∨ k = 5) ∧ vV (sN s) (sL s) k v = 0 then m else y) = y ∨ _ ∧ (if (k = 3 ∨ k = 5) ∧ vV (sN s) (sL s) k v = 0 then m else y) = m
          by_cases z : (k = 3 ∨ k = 5) ∧ vV (sN s) (sL s) k v = 0
          · rw [if_pos z]; exact Or.inr ⟨z.1, rfl⟩
          · rw [if_neg z]; exact Or.inl rfl
/-- it goes on at the END or at a statement -/
theorem sx_stm {K X E : Int → Int} {n : Nat} (w : WF K X E n) (hw : stk K n = []) {s : St} (h : stm K n (sP s) = true) : sP (sx K X E (yes_ K X n) (no_ K n) s) = 60 ∨ stm K n (sP (sx K X E (yes_ K X n) (no_ K n) s)) = true := by
  obtain ⟨p, hp⟩ : ∃ p : Nat, sP s = p := ⟨(sP s).toNat, by have := (stm_n h).1; omega⟩
  have h2 := h
  rw [hp] at h2
  obtain ⟨t1, t2, -⟩ := way_to w hw h2
  rcases (stp_e (s := s) (k := K (sP s)) (u := X (sP s)) (v := E (sP s)) (y := yes_ K X n (sP s)) (m := no_ K n (sP s))).1 with ⟨a, -⟩ | ⟨-, -, a | ⟨k, a⟩⟩
  · right; unfold sx; rw [a]; exact h
  · unfold sx; rw [a, hp]
    rcases t1 with z | ⟨q, z1, z2⟩
    · exact Or.inl z
    · right; rw [z1]; exact z2
  · unfold sx; rw [a, hp]
    rw [hp] at k
    rcases t2 with z | z | ⟨q, z1, z2⟩
    · exfalso
      rw [no_v w h2 k] at z
      have hpn := (stm_n h2).1
      have hc := clo_le (K := K) (n := n) (p := p) (by omega)
      have he := els_le (K := K) (n := n) (p := p) (by omega) (by omega)
      rcases bhd_sp w hw (r := if 0 ≤ els K n p then els K n p else clo K n p) (by split <;> omega) with y | ⟨q, y, -⟩ <;> omega
    · exact Or.inl z
    · right; rw [z1]; exact z2
/-! ===== the reference: go ===== -/
/-- what a RUN of the reference may change -/
def FG (o : Nat) (h h2 : Hp) : Prop := h2.1 = h.1 ∧ hT h2 = hT h ∧ hR h2 = hR h ∧ (∀ y, y < o ∨ o + 24 < y → hI h2 y = hI h y ∧ hL h2 y = hL h y) ∧ (∀ y, (o < y ∧ y < o + 6) ∨ y = o + 13 ∨ y = o + 14 ∨ y = o + 20 → hI h2 y = hI h y) ∧ hI h2 o 0 = hI h o 0
theorem FG_tr {o : Nat} {h h2 h3 : Hp} (a : FG o h h2) (b : FG o h2 h3) : FG o h h3 := ⟨b.1.trans a.1, b.2.1.trans a.2.1, b.2.2.1.trans a.2.2.1, fun y q => ⟨(b.2.2.2.1 y q).1.trans (a.2.2.2.1 y q).1, (b.2.2.2.1 y q).2.trans (a.2.2.2.1 y q).2⟩, fun y q => (b.2.2.2.2.1 y q).trans (a.2.2.2.2.1 y q), b.2.2.2.2.2.trans a.2.2.2.2.2⟩
theorem FG_FS {o : Nat} {h h2 : Hp} (a : FS o h h2) (e : hI h2 (o + 20) = hI h (o + 20)) : FG o h h2 := ⟨a.1, a.2.1, a.2.2.1, a.2.2.2.1, fun y q => by
  rcases q with q | q | q | q
  · exact a.2.2.2.2.1 y (by omega) (by omega)
  · exact a.2.2.2.2.1 y (by omega) (by omega)
  · exact a.2.2.2.2.1 y (by omega) (by omega)
  · rw [q]; exact e, a.2.2.2.2.2 0 (by omega)⟩
theorem FG_FD {o : Nat} {h h2 : Hp} (a : FD o h h2) : FG o h h2 := ⟨a.1, a.2.1, a.2.2.1, a.2.2.2.1, fun y q => a.2.2.2.2.1 y (by omega) (by omega) (by omega) (by omega), a.2.2.2.2.2 0 (by omega)⟩
theorem FG_f {o j : Nat} {h : Hp} {v : Int} (q : ¬ j = 0) : FG o h (setI h o j v) := by
  refine ⟨h1_setI2, hT_setI, hR_setI, fun y z => ⟨?_, by rw [hL_setI]⟩, fun y z => ?_, hI_ne2 (by omega)⟩
  · funext i; exact hI_ne (by omega)
  · funext i; exact hI_ne (by omega)
theorem FG_sm {o : Nat} {h h2 : Hp} (a : FG o h h2) (s : SM o h) : SM o h2 := by rw [SM_same a.2.1 a.2.2.1]; exact s
theorem FG_i {o y j : Nat} {h h2 : Hp} (a : FG o h h2) (q : (o < y ∧ y < o + 6) ∨ y = o + 13 ∨ y = o + 14 ∨ y = o + 20) : hI h2 y j = hI h y j := by rw [a.2.2.2.2.1 y q]
theorem FG_K {o : Nat} {h h2 : Hp} {g : Int} (a : FG o h h2) : mK o h2 g = mK o h g ∧ mX o h2 g = mX o h g ∧ mE o h2 g = mE o h g := by
  refine ⟨?_, ?_, ?_⟩
  · funext z; exact FG_i a (by omega)
  · funext z; exact FG_i a (by omega)
  · funext z; exact FG_i a (by omega)
theorem FG_pm {o : Nat} {h h2 : Hp} {g : Int} {n : Nat} (a : FG o h h2) (p : PM o h g n) : PM o h2 g n := by
  obtain ⟨e1, e2, e3⟩ := FG_K (g := g) a
  unfold PM
  rw [e1, e2, e3, FG_i a (by omega)]
  exact ⟨FG_sm a p.1, p.2⟩
theorem FG_FR {o lo hi : Nat} {h h2 : Hp} (a : FR lo hi h h2) (l1 : o + 6 ≤ lo) (l2 : hi ≤ o + 12) : FG o h h2 := ⟨a.1, a.2.1, a.2.2.1, fun y q => a.2.2.2 y (by omega), fun y q => (a.2.2.2 y (by omega)).1, FR_i a (by omega)⟩
/-- as a RUN begins -/
def s0F (fi : Int) (st nm pl td rs rp sp hs : Nat → Int) : St := ((fi, 0, 0, 0), (fun i => if i < 8 then st i else nm i), (fun i => if i < 12 then 0 else pl i), td, rs, rp, sp, hs)
theorem mc_go {sc : Scr} {o : Nat} {h : Hp} {Q : Option AV → Hp → Prop} {g w : Int} {n fu : Nat} (pm : PM o h g n) (hw : stk (mK o h g) n = []) (f1 : fu ≤ 20000) (b12 : B01 o h 12) (sm0 : 0 ≤ hI h o 34 ∨ w < 0) (sm1 : hI h o 34 ≤ 20000 ∨ w < 0) (s0 : St) (hs0 : s0 = s0F (bhd (mK o h g) n (-1)) (hI h (o + 5)) (hI h (o + 7)) (hI h (o + 8)) (hI h (o + 6)) (hI h (o + 9)) (hI h (o + 10)) (hI h (o + 11)) (hI h (o + 12))) (hQ : ∀ h2 s1, FG o h h2 → s1 = itF (sx (mK o h g) (mX o h g) (mE o h g) (yes_ (mK o h g) (mX o h g) n) (no_ (mK o h g) n)) fu s0 → vw o h2 (sP s1) = s1 → hI h2 o 6 = 1 → hI h2 o 7 = g → hI h2 o 8 = itN (sx (mK o h g) (mX o h g) (mE o h g) (yes_ (mK o h g) (mX o h g) n) (no_ (mK o h g) n)) fu s0 → hI h2 o 9 = e60 (sP s1) → B01 o h2 12 → hI h2 o 34 = hI h o 34 + (itS (sx (mK o h g) (mX o h g) (mE o h g) (yes_ (mK o h g) (mX o h g) n) (no_ (mK o h g) n)) (seV (mK o h g) (mX o h g) (mE o h g) w) fu s0).length → (∀ j, hI h2 (o + 23) j = if (hI h o 34).toNat ≤ j ∧ j < (hI h o 34).toNat + (itS (sx (mK o h g) (mX o h g) (mE o h g) (yes_ (mK o h g) (mX o h g) n) (no_ (mK o h g) n)) (seV (mK o h g) (mX o h g) (mE o h g) w) fu s0).length then (itS (sx (mK o h g) (mX o h g) (mE o h g) (yes_ (mK o h g) (mX o h g) n) (no_ (mK o h g) n)) (seV (mK o h g) (mX o h g) (mE o h g) w) fu s0).getD (j - (hI h o 34).toNat) 0 else hI h (o + 23) j) → (sP s1 = 60 ∨ stm (mK o h g) n (sP s1) = true) → 0 ≤ sT s1 ∧ sT s1 ≤ 20000 → (sC s1 ≤ 400 ∧ 0 ≤ hI h2 o 14) → Q (some (aI (outC s1))) h2) : WC sc 160 [aR o, aI g, aI fu, aI w] h Q := by
  have sm := pm.1
  have wf := pm.2.2.2.2.1
  have n60 := pm.2.2.2.1
  generalize hf : sx (mK o h g) (mX o h g) (mE o h g) (yes_ (mK o h g) (mX o h g) n) (no_ (mK o h g) n) = f at *
  generalize he : seV (mK o h g) (mX o h g) (mE o h g) w = e at *
  rw [wc_160]
  simp (maxSteps := 2000000) (disch := omega) only [↓wb_const, ↓wb_lconst, ↓wb_null, ↓wb_iload, ↓wb_lload, ↓wb_aload, ↓wb_istore, ↓wb_lstore, ↓wb_astore, ↓wb_iinc, ↓wb_iand, ↓wb_ior, ↓wb_ishr, ↓wb_idiv, ↓wb_irem, ↓wb_ladd, ↓wb_lsub, ↓wb_land, ↓wb_lor, ↓wb_lxor, ↓wb_lneg, ↓wb_lushr, ↓wb_lshl, ↓wb_l2i, ↓wb_lcmp, ↓wb_dupI, ↓wb_dupR, ↓wb_dup2, ↓wb_popI, ↓wb_popR, ↓wb_getI, ↓wb_getL, ↓wb_getR, ↓wb_putI, ↓wb_putZ, ↓wb_putL, ↓wb_putR, ↓wb_iaload, ↓wb_laload, ↓wb_zaload, ↓wb_aaload, ↓wb_iastore, ↓wb_lastore, ↓wb_zastore, ↓wb_aastore, ↓wb_alen, ↓wb_newI, ↓wb_newL, ↓wb_newZ, ↓wb_newA, ↓wb_new, ↓wb_obj, ↓wb_sld, ↓wb_slen, ↓wb_goto, ↓wb_ifeq, ↓wb_iceq, ↓wb_ifne, ↓wb_icne, ↓wb_iflt, ↓wb_iclt, ↓wb_ifge, ↓wb_icge, ↓wb_ifgt, ↓wb_icgt, ↓wb_ifle, ↓wb_icle, ↓wb_ifnull, ↓wb_ifnonnull, ↓wb_ret, ↓wb_iret, ↓wb_lret, ↓wb_aret, ↓wb_zret, ↓wb_tsw0, ↓wb_tsw1, ↓wb_lsw0, ↓wb_lsw1, ↓wb_calls0, ↓wb_calls1, ↓wb_callv1, ↓wb_calls2, ↓wb_callv2, ↓wb_calls3, ↓wb_callv3, ↓wb_callv4, ↓wb_callv5, ↓wb_callv6, oB_some, ldI_z, ldI_s, ldL_z, ldL_s, ldR_z, ldR_s, ls1_z, ls1_1n, ls1_1i, ls1_1r, ls1_1l, ls1_s, ls2_z, ls2_1n, ls2_1i, ls2_1r, ls2_1l, ls2_s, List.length_cons, List.length_nil, Nat.reduceAdd, Nat.reduceLT, Nat.reduceLeDiff, Nat.reduceDiv, Nat.reduceMod, Int.reduceToNat, Int.reduceAdd, Nat.zero_add, true_and, Option.toList_some, Option.toList_none, List.cons_append, List.nil_append, true_or, or_true, and_true, false_or, or_false, Int.reduceEq, Int.reduceLT, Int.reduceLE, Int.reduceNeg, not_true_eq_false, not_false_eq_true, Bool.and_eq_true, Bool.or_eq_true, decide_eq_true_eq, ↓reduceIte, b2i_0, b2i_01, b2i_01c, Nat.add_left_cancel_iff, Nat.add_eq_left, Nat.left_eq_add, Nat.reduceEqDiff, false_and, and_false, Bool.false_eq_true, Bool.true_eq_false, ↓wr_iadd, ↓wr_isub, ↓wr_imul, wr_id, ↓wl_160_0, sm_c sm, sm_r12 sm, sm_a7 sm, sm_r5 sm, sm_a5 sm, sm_r13 sm, sm_a8 sm]
  refine mc_tw pm (fun h1 fs1 rw1 first1 e20 fine => ?_)
  obtain ⟨fy, fj⟩ := fine
  have s1 := FS_sm fs1 sm
  -- the fields
  generalize hh2 : setI (setI (setI (setI (setI h1 o 6 1) o 7 g) o 8 0) o 10 0) o 14 0 = h2
  have fg2 : FG o h h2 := by
    rw [← hh2]
    exact FG_tr (FG_tr (FG_tr (FG_tr (FG_tr (FG_FS fs1 e20) (FG_f (by omega))) (FG_f (by omega))) (FG_f (by omega))) (FG_f (by omega))) (FG_f (by omega))
  have f2 : hI h2 o 6 = 1 ∧ hI h2 o 7 = g ∧ hI h2 o 8 = 0 ∧ hI h2 o 10 = 0 ∧ hI h2 o 14 = 0 ∧ hI h2 o 26 = bhd (mK o h g) n (-1) ∧ hI h2 o 34 = hI h o 34 := by
    rw [← hh2]
    refine ⟨?_, ?_, ?_, ?_, hI_eq, ?_, ?_⟩
    · rw [hI_ne2 (by omega), hI_ne2 (by omega), hI_ne2 (by omega), hI_ne2 (by omega), hI_eq]
    · rw [hI_ne2 (by omega), hI_ne2 (by omega), hI_ne2 (by omega), hI_eq]
    · rw [hI_ne2 (by omega), hI_ne2 (by omega), hI_eq]
    · rw [hI_ne2 (by omega), hI_eq]
    · rw [hI_ne2 (by omega), hI_ne2 (by omega), hI_ne2 (by omega), hI_ne2 (by omega), hI_ne2 (by omega)]; exact first1
    · rw [hI_ne2 (by omega), hI_ne2 (by omega), hI_ne2 (by omega), hI_ne2 (by omega), hI_ne2 (by omega)]; exact fj 34 (by omega)
  have rowh2 : ∀ y, ¬ y = o → hI h2 y = hI h1 y := by
    intro y hy
    rw [← hh2, row_ne hy, row_ne hy, row_ne hy, row_ne hy, row_ne hy]
  have rw2 : RW o h2 (mK o h g) (mX o h g) n := by
    intro p hp
    rw [rowh2 _ (by omega), rowh2 _ (by omega), rowh2 _ (by omega)]
    exact rw1 p hp
  have row12 : ∀ y, (o + 6 ≤ y ∧ y ≤ o + 12) ∨ y = o + 23 → hI h2 y = hI h y := by
    intro y hy
    rw [rowh2 y (by omega)]
    rcases hy with hy | hy
    · exact fs1.2.2.2.2.1 y (by omega) (by omega)
    · exact fy y (by omega)
  simp (maxSteps := 2000000) (disch := omega) only [↓wb_const, ↓wb_lconst, ↓wb_null, ↓wb_iload, ↓wb_lload, ↓wb_aload, ↓wb_istore, ↓wb_lstore, ↓wb_astore, ↓wb_iinc, ↓wb_iand, ↓wb_ior, ↓wb_ishr, ↓wb_idiv, ↓wb_irem, ↓wb_ladd, ↓wb_lsub, ↓wb_land, ↓wb_lor, ↓wb_lxor, ↓wb_lneg, ↓wb_lushr, ↓wb_lshl, ↓wb_l2i, ↓wb_lcmp, ↓wb_dupI, ↓wb_dupR, ↓wb_dup2, ↓wb_popI, ↓wb_popR, ↓wb_getI, ↓wb_getL, ↓wb_getR, ↓wb_putI, ↓wb_putZ, ↓wb_putL, ↓wb_putR, ↓wb_iaload, ↓wb_laload, ↓wb_zaload, ↓wb_aaload, ↓wb_iastore, ↓wb_lastore, ↓wb_zastore, ↓wb_aastore, ↓wb_alen, ↓wb_newI, ↓wb_newL, ↓wb_newZ, ↓wb_newA, ↓wb_new, ↓wb_obj, ↓wb_sld, ↓wb_slen, ↓wb_goto, ↓wb_ifeq, ↓wb_iceq, ↓wb_ifne, ↓wb_icne, ↓wb_iflt, ↓wb_iclt, ↓wb_ifge, ↓wb_icge, ↓wb_ifgt, ↓wb_icgt, ↓wb_ifle, ↓wb_icle, ↓wb_ifnull, ↓wb_ifnonnull, ↓wb_ret, ↓wb_iret, ↓wb_lret, ↓wb_aret, ↓wb_zret, ↓wb_tsw0, ↓wb_tsw1, ↓wb_lsw0, ↓wb_lsw1, ↓wb_calls0, ↓wb_calls1, ↓wb_callv1, ↓wb_calls2, ↓wb_callv2, ↓wb_calls3, ↓wb_callv3, ↓wb_callv4, ↓wb_callv5, ↓wb_callv6, oB_some, ldI_z, ldI_s, ldL_z, ldL_s, ldR_z, ldR_s, ls1_z, ls1_1n, ls1_1i, ls1_1r, ls1_1l, ls1_s, ls2_z, ls2_1n, ls2_1i, ls2_1r, ls2_1l, ls2_s, List.length_cons, List.length_nil, Nat.reduceAdd, Nat.reduceLT, Nat.reduceLeDiff, Nat.reduceDiv, Nat.reduceMod, Int.reduceToNat, Int.reduceAdd, Nat.zero_add, true_and, Option.toList_some, Option.toList_none, List.cons_append, List.nil_append, true_or, or_true, and_true, false_or, or_false, Int.reduceEq, Int.reduceLT, Int.reduceLE, Int.reduceNeg, not_true_eq_false, not_false_eq_true, Bool.and_eq_true, Bool.or_eq_true, decide_eq_true_eq, ↓reduceIte, b2i_0, b2i_01, b2i_01c, Nat.add_left_cancel_iff, Nat.add_eq_left, Nat.left_eq_add, Nat.reduceEqDiff, false_and, and_false, Bool.false_eq_true, Bool.true_eq_false, ↓wr_iadd, ↓wr_isub, ↓wr_imul, wr_id, sm_c s1, sm_r12 s1, sm_a7 s1, sm_r5 s1, sm_a5 s1, sm_r13 s1, sm_a8 s1, isO_setI]
  (try rw [hh2])
  have vwi : ∀ {h6 : Hp} {s : St}, vw o h6 (sP s) = s → hI h6 o 32 = sF s ∧ hI h6 o 10 = sT s ∧ (hI h6 o 14).toNat = sC s := by
    intro h6 s hv
    refine ⟨?_, ?_, ?_⟩
    · rw [← hv]; rfl
    · rw [← hv]; rfl
    · rw [← hv]; rfl
  have vwf : ∀ (h6 : Hp) (j : Nat) (z q : Int), ¬ j = 32 → ¬ j = 10 → ¬ j = 14 → vw o (setI h6 o j z) q = vw o h6 q := by
    intro h6 j z q n1 n2 n3
    unfold vw
    rw [hI_ne2 (by omega), hI_ne2 (by omega), hI_ne2 (by omega), row_ne (by omega), row_ne (by omega), row_ne (by omega), row_ne (by omega), row_ne (by omega), row_ne (by omega), row_ne (by omega)]
  have ex : ∀ (k : Nat) (h6 : Hp) (s : St) (L : List Int), k ≤ fu → FG o h h6 → vw o h6 (sP s) = s → hI h6 o 6 = 1 → hI h6 o 7 = g → hI h6 o 8 = k → B01 o h6 12 → (sP s = 60 ∨ stm (mK o h g) n (sP s) = true) → 0 ≤ sT s → sT s ≤ k → sC s ≤ 400 → 0 ≤ hI h6 o 14 → (sF s = 0 ∨ sF s = 1) → itF f fu s0 = s → itN f fu s0 = k → itS f e fu s0 = L → hI h6 o 34 = hI h o 34 + L.length → (∀ j, hI h6 (o + 23) j = if (hI h o 34).toNat ≤ j ∧ j < (hI h o 34).toNat + L.length then L.getD (j - (hI h o 34).toNat) 0 else hI h (o + 23) j) → WB sc 160 (BL 160 74) [some (aR o), some (aI g), some (aI fu), some (aI w), some (aI (sP s))] [] h6 Q := by
    intro k h6 s L hkf fg hv h6a h6b h6c b12' hst t0 t1 c4 c0 f01 eF eN eS h34 h23
    obtain ⟨v1, v2, v3⟩ := vwi hv
    have s6 := FG_sm fg sm
    have fin : Q (some (aI (outC s))) (setI h6 o 9 (e60 (sP s))) := by
      refine hQ _ s (FG_tr fg (FG_f (by omega))) eF.symm (by rw [vwf _ _ _ _ (by omega) (by omega) (by omega)]; exact hv) (by rw [hI_ne2 (by omega)]; exact h6a) (by rw [hI_ne2 (by omega)]; exact h6b) (by rw [hI_ne2 (by omega), h6c, eN]) hI_eq (fun j => by rw [hI_ne (by omega)]; exact b12' j) (by rw [hI_ne2 (by omega), eS]; exact h34) (fun j => by rw [hI_ne (by omega), eS]; exact h23 j) hst ⟨t0, by omega⟩ ⟨c4, by rw [hI_ne2 (by omega)]; exact c0⟩
    unfold outC e60 at fin
    by_cases p60 : sP s = 60
    · rw [if_pos p60] at fin
      have p61 : (sP s = 60) = True := eq_true p60
      rcases f01 with fz | fz
      · have v1 : hI (setI h6 o 9 (-1)) o 32 = 0 := by rw [hI_ne2 (by omega), v1, fz]
        rw [if_neg (by rw [fz]; decide), if_pos p60] at fin
        simp (maxSteps := 2000000) (disch := omega) only [↓wb_const, ↓wb_lconst, ↓wb_null, ↓wb_iload, ↓wb_lload, ↓wb_aload, ↓wb_istore, ↓wb_lstore, ↓wb_astore, ↓wb_iinc, ↓wb_iand, ↓wb_ior, ↓wb_ishr, ↓wb_idiv, ↓wb_irem, ↓wb_ladd, ↓wb_lsub, ↓wb_land, ↓wb_lor, ↓wb_lxor, ↓wb_lneg, ↓wb_lushr, ↓wb_lshl, ↓wb_l2i, ↓wb_lcmp, ↓wb_dupI, ↓wb_dupR, ↓wb_dup2, ↓wb_popI, ↓wb_popR, ↓wb_getI, ↓wb_getL, ↓wb_getR, ↓wb_putI, ↓wb_putZ, ↓wb_putL, ↓wb_putR, ↓wb_iaload, ↓wb_laload, ↓wb_zaload, ↓wb_aaload, ↓wb_iastore, ↓wb_lastore, ↓wb_zastore, ↓wb_aastore, ↓wb_alen, ↓wb_newI, ↓wb_newL, ↓wb_newZ, ↓wb_newA, ↓wb_new, ↓wb_obj, ↓wb_sld, ↓wb_slen, ↓wb_goto, ↓wb_ifeq, ↓wb_iceq, ↓wb_ifne, ↓wb_icne, ↓wb_iflt, ↓wb_iclt, ↓wb_ifge, ↓wb_icge, ↓wb_ifgt, ↓wb_icgt, ↓wb_ifle, ↓wb_icle, ↓wb_ifnull, ↓wb_ifnonnull, ↓wb_ret, ↓wb_iret, ↓wb_lret, ↓wb_aret, ↓wb_zret, ↓wb_tsw0, ↓wb_tsw1, ↓wb_lsw0, ↓wb_lsw1, ↓wb_calls0, ↓wb_calls1, ↓wb_callv1, ↓wb_calls2, ↓wb_callv2, ↓wb_calls3, ↓wb_callv3, ↓wb_callv4, ↓wb_callv5, ↓wb_callv6, oB_some, ldI_z, ldI_s, ldL_z, ldL_s, ldR_z, ldR_s, ls1_z, ls1_1n, ls1_1i, ls1_1r, ls1_1l, ls1_s, ls2_z, ls2_1n, ls2_1i, ls2_1r, ls2_1l, ls2_s, List.length_cons, List.length_nil, Nat.reduceAdd, Nat.reduceLT, Nat.reduceLeDiff, Nat.reduceDiv, Nat.reduceMod, Int.reduceToNat, Int.reduceAdd, Nat.zero_add, true_and, Option.toList_some, Option.toList_none, List.cons_append, List.nil_append, true_or, or_true, and_true, false_or, or_false, Int.reduceEq, Int.reduceLT, Int.reduceLE, Int.reduceNeg, not_true_eq_false, not_false_eq_true, Bool.and_eq_true, Bool.or_eq_true, decide_eq_true_eq, ↓reduceIte, b2i_0, b2i_01, b2i_01c, Nat.add_left_cancel_iff, Nat.add_eq_left, Nat.left_eq_add, Nat.reduceEqDiff, false_and, and_false, Bool.false_eq_true, Bool.true_eq_false, ↓wr_iadd, ↓wr_isub, ↓wr_imul, wr_id, ↓wl_160_74, ↓wl_160_81, ↓wl_160_87, ↓wl_160_93, sm_c s6, sm_r12 s6, sm_a7 s6, sm_r5 s6, sm_a5 s6, sm_r13 s6, sm_a8 s6, p61, v1, isO_setI]
        exact fin
      · have v1 : hI (setI h6 o 9 (-1)) o 32 = 1 := by rw [hI_ne2 (by omega), v1, fz]
        simp only [fz, p60, ↓reduceIte] at fin
        simp (maxSteps := 2000000) (disch := omega) only [↓wb_const, ↓wb_lconst, ↓wb_null, ↓wb_iload, ↓wb_lload, ↓wb_aload, ↓wb_istore, ↓wb_lstore, ↓wb_astore, ↓wb_iinc, ↓wb_iand, ↓wb_ior, ↓wb_ishr, ↓wb_idiv, ↓wb_irem, ↓wb_ladd, ↓wb_lsub, ↓wb_land, ↓wb_lor, ↓wb_lxor, ↓wb_lneg, ↓wb_lushr, ↓wb_lshl, ↓wb_l2i, ↓wb_lcmp, ↓wb_dupI, ↓wb_dupR, ↓wb_dup2, ↓wb_popI, ↓wb_popR, ↓wb_getI, ↓wb_getL, ↓wb_getR, ↓wb_putI, ↓wb_putZ, ↓wb_putL, ↓wb_putR, ↓wb_iaload, ↓wb_laload, ↓wb_zaload, ↓wb_aaload, ↓wb_iastore, ↓wb_lastore, ↓wb_zastore, ↓wb_aastore, ↓wb_alen, ↓wb_newI, ↓wb_newL, ↓wb_newZ, ↓wb_newA, ↓wb_new, ↓wb_obj, ↓wb_sld, ↓wb_slen, ↓wb_goto, ↓wb_ifeq, ↓wb_iceq, ↓wb_ifne, ↓wb_icne, ↓wb_iflt, ↓wb_iclt, ↓wb_ifge, ↓wb_icge, ↓wb_ifgt, ↓wb_icgt, ↓wb_ifle, ↓wb_icle, ↓wb_ifnull, ↓wb_ifnonnull, ↓wb_ret, ↓wb_iret, ↓wb_lret, ↓wb_aret, ↓wb_zret, ↓wb_tsw0, ↓wb_tsw1, ↓wb_lsw0, ↓wb_lsw1, ↓wb_calls0, ↓wb_calls1, ↓wb_callv1, ↓wb_calls2, ↓wb_callv2, ↓wb_calls3, ↓wb_callv3, ↓wb_callv4, ↓wb_callv5, ↓wb_callv6, oB_some, ldI_z, ldI_s, ldL_z, ldL_s, ldR_z, ldR_s, ls1_z, ls1_1n, ls1_1i, ls1_1r, ls1_1l, ls1_s, ls2_z, ls2_1n, ls2_1i, ls2_1r, ls2_1l, ls2_s, List.length_cons, List.length_nil, Nat.reduceAdd, Nat.reduceLT, Nat.reduceLeDiff, Nat.reduceDiv, Nat.reduceMod, Int.reduceToNat, Int.reduceAdd, Nat.zero_add, true_and, Option.toList_some, Option.toList_none, List.cons_append, List.nil_append, true_or, or_true, and_true, false_or, or_false, Int.reduceEq, Int.reduceLT, Int.reduceLE, Int.reduceNeg, not_true_eq_false, not_false_eq_true, Bool.and_eq_true, Bool.or_eq_true, decide_eq_true_eq, ↓reduceIte, b2i_0, b2i_01, b2i_01c, Nat.add_left_cancel_iff, Nat.add_eq_left, Nat.left_eq_add, Nat.reduceEqDiff, false_and, and_false, Bool.false_eq_true, Bool.true_eq_false, ↓wr_iadd, ↓wr_isub, ↓wr_imul, wr_id, ↓wl_160_74, ↓wl_160_81, ↓wl_160_87, ↓wl_160_93, sm_c s6, sm_r12 s6, sm_a7 s6, sm_r5 s6, sm_a5 s6, sm_r13 s6, sm_a8 s6, p61, v1, isO_setI, Int.reduceEq]
        exact fin
    · rw [if_neg p60] at fin
      rcases f01 with fz | fz
      · have v1 : hI (setI h6 o 9 (sP s)) o 32 = 0 := by rw [hI_ne2 (by omega), v1, fz]
        rw [if_neg (by rw [fz]; decide), if_neg p60] at fin
        simp (maxSteps := 2000000) (disch := omega) only [↓wb_const, ↓wb_lconst, ↓wb_null, ↓wb_iload, ↓wb_lload, ↓wb_aload, ↓wb_istore, ↓wb_lstore, ↓wb_astore, ↓wb_iinc, ↓wb_iand, ↓wb_ior, ↓wb_ishr, ↓wb_idiv, ↓wb_irem, ↓wb_ladd, ↓wb_lsub, ↓wb_land, ↓wb_lor, ↓wb_lxor, ↓wb_lneg, ↓wb_lushr, ↓wb_lshl, ↓wb_l2i, ↓wb_lcmp, ↓wb_dupI, ↓wb_dupR, ↓wb_dup2, ↓wb_popI, ↓wb_popR, ↓wb_getI, ↓wb_getL, ↓wb_getR, ↓wb_putI, ↓wb_putZ, ↓wb_putL, ↓wb_putR, ↓wb_iaload, ↓wb_laload, ↓wb_zaload, ↓wb_aaload, ↓wb_iastore, ↓wb_lastore, ↓wb_zastore, ↓wb_aastore, ↓wb_alen, ↓wb_newI, ↓wb_newL, ↓wb_newZ, ↓wb_newA, ↓wb_new, ↓wb_obj, ↓wb_sld, ↓wb_slen, ↓wb_goto, ↓wb_ifeq, ↓wb_iceq, ↓wb_ifne, ↓wb_icne, ↓wb_iflt, ↓wb_iclt, ↓wb_ifge, ↓wb_icge, ↓wb_ifgt, ↓wb_icgt, ↓wb_ifle, ↓wb_icle, ↓wb_ifnull, ↓wb_ifnonnull, ↓wb_ret, ↓wb_iret, ↓wb_lret, ↓wb_aret, ↓wb_zret, ↓wb_tsw0, ↓wb_tsw1, ↓wb_lsw0, ↓wb_lsw1, ↓wb_calls0, ↓wb_calls1, ↓wb_callv1, ↓wb_calls2, ↓wb_callv2, ↓wb_calls3, ↓wb_callv3, ↓wb_callv4, ↓wb_callv5, ↓wb_callv6, oB_some, ldI_z, ldI_s, ldL_z, ldL_s, ldR_z, ldR_s, ls1_z, ls1_1n, ls1_1i, ls1_1r, ls1_1l, ls1_s, ls2_z, ls2_1n, ls2_1i, ls2_1r, ls2_1l, ls2_s, List.length_cons, List.length_nil, Nat.reduceAdd, Nat.reduceLT, Nat.reduceLeDiff, Nat.reduceDiv, Nat.reduceMod, Int.reduceToNat, Int.reduceAdd, Nat.zero_add, true_and, Option.toList_some, Option.toList_none, List.cons_append, List.nil_append, true_or, or_true, and_true, false_or, or_false, Int.reduceEq, Int.reduceLT, Int.reduceLE, Int.reduceNeg, not_true_eq_false, not_false_eq_true, Bool.and_eq_true, Bool.or_eq_true, decide_eq_true_eq, ↓reduceIte, b2i_0, b2i_01, b2i_01c, Nat.add_left_cancel_iff, Nat.add_eq_left, Nat.left_eq_add, Nat.reduceEqDiff, false_and, and_false, Bool.false_eq_true, Bool.true_eq_false, ↓wr_iadd, ↓wr_isub, ↓wr_imul, wr_id, ↓wl_160_74, ↓wl_160_80, ↓wl_160_81, ↓wl_160_87, ↓wl_160_92, ↓wl_160_93, sm_c s6, sm_r12 s6, sm_a7 s6, sm_r5 s6, sm_a5 s6, sm_r13 s6, sm_a8 s6, p60, v1, isO_setI]
        exact fin
      · have v1 : hI (setI h6 o 9 (sP s)) o 32 = 1 := by rw [hI_ne2 (by omega), v1, fz]
        simp only [fz, p60, ↓reduceIte] at fin
        simp (maxSteps := 2000000) (disch := omega) only [↓wb_const, ↓wb_lconst, ↓wb_null, ↓wb_iload, ↓wb_lload, ↓wb_aload, ↓wb_istore, ↓wb_lstore, ↓wb_astore, ↓wb_iinc, ↓wb_iand, ↓wb_ior, ↓wb_ishr, ↓wb_idiv, ↓wb_irem, ↓wb_ladd, ↓wb_lsub, ↓wb_land, ↓wb_lor, ↓wb_lxor, ↓wb_lneg, ↓wb_lushr, ↓wb_lshl, ↓wb_l2i, ↓wb_lcmp, ↓wb_dupI, ↓wb_dupR, ↓wb_dup2, ↓wb_popI, ↓wb_popR, ↓wb_getI, ↓wb_getL, ↓wb_getR, ↓wb_putI, ↓wb_putZ, ↓wb_putL, ↓wb_putR, ↓wb_iaload, ↓wb_laload, ↓wb_zaload, ↓wb_aaload, ↓wb_iastore, ↓wb_lastore, ↓wb_zastore, ↓wb_aastore, ↓wb_alen, ↓wb_newI, ↓wb_newL, ↓wb_newZ, ↓wb_newA, ↓wb_new, ↓wb_obj, ↓wb_sld, ↓wb_slen, ↓wb_goto, ↓wb_ifeq, ↓wb_iceq, ↓wb_ifne, ↓wb_icne, ↓wb_iflt, ↓wb_iclt, ↓wb_ifge, ↓wb_icge, ↓wb_ifgt, ↓wb_icgt, ↓wb_ifle, ↓wb_icle, ↓wb_ifnull, ↓wb_ifnonnull, ↓wb_ret, ↓wb_iret, ↓wb_lret, ↓wb_aret, ↓wb_zret, ↓wb_tsw0, ↓wb_tsw1, ↓wb_lsw0, ↓wb_lsw1, ↓wb_calls0, ↓wb_calls1, ↓wb_callv1, ↓wb_calls2, ↓wb_callv2, ↓wb_calls3, ↓wb_callv3, ↓wb_callv4, ↓wb_callv5, ↓wb_callv6, oB_some, ldI_z, ldI_s, ldL_z, ldL_s, ldR_z, ldR_s, ls1_z, ls1_1n, ls1_1i, ls1_1r, ls1_1l, ls1_s, ls2_z, ls2_1n, ls2_1i, ls2_1r, ls2_1l, ls2_s, List.length_cons, List.length_nil, Nat.reduceAdd, Nat.reduceLT, Nat.reduceLeDiff, Nat.reduceDiv, Nat.reduceMod, Int.reduceToNat, Int.reduceAdd, Nat.zero_add, true_and, Option.toList_some, Option.toList_none, List.cons_append, List.nil_append, true_or, or_true, and_true, false_or, or_false, Int.reduceEq, Int.reduceLT, Int.reduceLE, Int.reduceNeg, not_true_eq_false, not_false_eq_true, Bool.and_eq_true, Bool.or_eq_true, decide_eq_true_eq, ↓reduceIte, b2i_0, b2i_01, b2i_01c, Nat.add_left_cancel_iff, Nat.add_eq_left, Nat.left_eq_add, Nat.reduceEqDiff, false_and, and_false, Bool.false_eq_true, Bool.true_eq_false, ↓wr_iadd, ↓wr_isub, ↓wr_imul, wr_id, ↓wl_160_74, ↓wl_160_80, ↓wl_160_81, ↓wl_160_87, ↓wl_160_92, ↓wl_160_93, sm_c s6, sm_r12 s6, sm_a7 s6, sm_r5 s6, sm_a5 s6, sm_r13 s6, sm_a8 s6, p60, v1, isO_setI, Int.reduceEq]
        exact fin
  -- the main loop
  have main : ∀ (m k : Nat) (h6 : Hp) (s : St) (L : List Int), k + m = fu → FG o h h6 → RW o h6 (mK o h g) (mX o h g) n → vw o h6 (sP s) = s → hI h6 o 6 = 1 → hI h6 o 7 = g → hI h6 o 8 = k → B01 o h6 12 → (sP s = 60 ∨ stm (mK o h g) n (sP s) = true) → 0 ≤ sT s → sT s ≤ k → sC s ≤ 400 → (0 ≤ hI h6 o 14) → (sF s = 0 ∨ sF s = 1) → itF f fu s0 = itF f m s → itN f fu s0 = k + itN f m s → itS f e fu s0 = L ++ itS f e m s → L.length ≤ k → hI h6 o 34 = hI h o 34 + L.length → (∀ j, hI h6 (o + 23) j = if (hI h o 34).toNat ≤ j ∧ j < (hI h o 34).toNat + L.length then L.getD (j - (hI h o 34).toNat) 0 else hI h (o + 23) j) → WB sc 160 (BL 160 51) [some (aR o), some (aI g), some (aI fu), some (aI w), some (aI (sP s))] [] h6 Q := by
    intro m
    induction m with
    | zero =>
      intro k h6 s L hk fg rw6 hv h6a h6b h6c b12' hst t0 t1 c4 c0 f01 eF eN eS hL h34 h23
      have exx := ex k h6 s L (by omega) fg hv h6a h6b h6c b12' hst t0 t1 c4 c0 f01 eF eN (by rw [eS]; simp [itS]) h34 h23
      have s6 := FG_sm fg sm
      obtain ⟨v1, -, -⟩ := vwi hv
      rw [bl_160_51]
      have c1 : ((fu : Int) ≤ k) = True := by simp; omega
      simp (maxSteps := 2000000) (disch := omega) only [↓wb_const, ↓wb_lconst, ↓wb_null, ↓wb_iload, ↓wb_lload, ↓wb_aload, ↓wb_istore, ↓wb_lstore, ↓wb_astore, ↓wb_iinc, ↓wb_iand, ↓wb_ior, ↓wb_ishr, ↓wb_idiv, ↓wb_irem, ↓wb_ladd, ↓wb_lsub, ↓wb_land, ↓wb_lor, ↓wb_lxor, ↓wb_lneg, ↓wb_lushr, ↓wb_lshl, ↓wb_l2i, ↓wb_lcmp, ↓wb_dupI, ↓wb_dupR, ↓wb_dup2, ↓wb_popI, ↓wb_popR, ↓wb_getI, ↓wb_getL, ↓wb_getR, ↓wb_putI, ↓wb_putZ, ↓wb_putL, ↓wb_putR, ↓wb_iaload, ↓wb_laload, ↓wb_zaload, ↓wb_aaload, ↓wb_iastore, ↓wb_lastore, ↓wb_zastore, ↓wb_aastore, ↓wb_alen, ↓wb_newI, ↓wb_newL, ↓wb_newZ, ↓wb_newA, ↓wb_new, ↓wb_obj, ↓wb_sld, ↓wb_slen, ↓wb_goto, ↓wb_ifeq, ↓wb_iceq, ↓wb_ifne, ↓wb_icne, ↓wb_iflt, ↓wb_iclt, ↓wb_ifge, ↓wb_icge, ↓wb_ifgt, ↓wb_icgt, ↓wb_ifle, ↓wb_icle, ↓wb_ifnull, ↓wb_ifnonnull, ↓wb_ret, ↓wb_iret, ↓wb_lret, ↓wb_aret, ↓wb_zret, ↓wb_tsw0, ↓wb_tsw1, ↓wb_lsw0, ↓wb_lsw1, ↓wb_calls0, ↓wb_calls1, ↓wb_callv1, ↓wb_calls2, ↓wb_callv2, ↓wb_calls3, ↓wb_callv3, ↓wb_callv4, ↓wb_callv5, ↓wb_callv6, oB_some, ldI_z, ldI_s, ldL_z, ldL_s, ldR_z, ldR_s, ls1_z, ls1_1n, ls1_1i, ls1_1r, ls1_1l, ls1_s, ls2_z, ls2_1n, ls2_1i, ls2_1r, ls2_1l, ls2_s, List.length_cons, List.length_nil, Nat.reduceAdd, Nat.reduceLT, Nat.reduceLeDiff, Nat.reduceDiv, Nat.reduceMod, Int.reduceToNat, Int.reduceAdd, Nat.zero_add, true_and, Option.toList_some, Option.toList_none, List.cons_append, List.nil_append, true_or, or_true, and_true, false_or, or_false, Int.reduceEq, Int.reduceLT, Int.reduceLE, Int.reduceNeg, not_true_eq_false, not_false_eq_true, Bool.and_eq_true, Bool.or_eq_true, decide_eq_true_eq, ↓reduceIte, b2i_0, b2i_01, b2i_01c, Nat.add_left_cancel_iff, Nat.add_eq_left, Nat.left_eq_add, Nat.reduceEqDiff, false_and, and_false, Bool.false_eq_true, Bool.true_eq_false, ↓wr_iadd, ↓wr_isub, ↓wr_imul, wr_id, sm_c s6, sm_r12 s6, sm_a7 s6, sm_r5 s6, sm_a5 s6, sm_r13 s6, sm_a8 s6, h6c, c1]
      repeat' split
      all_goals exact exx
    | succ m ih =>
      intro k h6 s L hk fg rw6 hv h6a h6b h6c b12' hst t0 t1 c4 c0 f01 eF eN eS hL h34 h23
      have s6 := FG_sm fg sm
      obtain ⟨v1, v2, v3⟩ := vwi hv
      by_cases ha : act s
      · obtain ⟨p60, fz⟩ := ha
        have hs : stm (mK o h g) n (sP s) = true := hst.resolve_left p60
        obtain ⟨p, hp⟩ : ∃ p : Nat, sP s = p := ⟨(sP s).toNat, by have := (stm_n hs).1; omega⟩
        have pm6 := FG_pm fg pm
        obtain ⟨eK, eX, eE⟩ := FG_K (g := g) fg
        have hv2 := hv
        rw [hp] at hv2 hs
        rw [bl_160_51]
        have c1 : ¬ (fu : Int) ≤ k := by omega
        have q1 : hI h6 o 32 = 0 := by rw [v1]; exact fz
        have p61 : ¬ ((p : Int) = 60) := by omega
        rw [hp]
        simp (maxSteps := 2000000) (disch := omega) only [↓wb_const, ↓wb_lconst, ↓wb_null, ↓wb_iload, ↓wb_lload, ↓wb_aload, ↓wb_istore, ↓wb_lstore, ↓wb_astore, ↓wb_iinc, ↓wb_iand, ↓wb_ior, ↓wb_ishr, ↓wb_idiv, ↓wb_irem, ↓wb_ladd, ↓wb_lsub, ↓wb_land, ↓wb_lor, ↓wb_lxor, ↓wb_lneg, ↓wb_lushr, ↓wb_lshl, ↓wb_l2i, ↓wb_lcmp, ↓wb_dupI, ↓wb_dupR, ↓wb_dup2, ↓wb_popI, ↓wb_popR, ↓wb_getI, ↓wb_getL, ↓wb_getR, ↓wb_putI, ↓wb_putZ, ↓wb_putL, ↓wb_putR, ↓wb_iaload, ↓wb_laload, ↓wb_zaload, ↓wb_aaload, ↓wb_iastore, ↓wb_lastore, ↓wb_zastore, ↓wb_aastore, ↓wb_alen, ↓wb_newI, ↓wb_newL, ↓wb_newZ, ↓wb_newA, ↓wb_new, ↓wb_obj, ↓wb_sld, ↓wb_slen, ↓wb_goto, ↓wb_ifeq, ↓wb_iceq, ↓wb_ifne, ↓wb_icne, ↓wb_iflt, ↓wb_iclt, ↓wb_ifge, ↓wb_icge, ↓wb_ifgt, ↓wb_icgt, ↓wb_ifle, ↓wb_icle, ↓wb_ifnull, ↓wb_ifnonnull, ↓wb_ret, ↓wb_iret, ↓wb_lret, ↓wb_aret, ↓wb_zret, ↓wb_tsw0, ↓wb_tsw1, ↓wb_lsw0, ↓wb_lsw1, ↓wb_calls0, ↓wb_calls1, ↓wb_callv1, ↓wb_calls2, ↓wb_callv2, ↓wb_calls3, ↓wb_callv3, ↓wb_callv4, ↓wb_callv5, ↓wb_callv6, oB_some, ldI_z, ldI_s, ldL_z, ldL_s, ldR_z, ldR_s, ls1_z, ls1_1n, ls1_1i, ls1_1r, ls1_1l, ls1_s, ls2_z, ls2_1n, ls2_1i, ls2_1r, ls2_1l, ls2_s, List.length_cons, List.length_nil, Nat.reduceAdd, Nat.reduceLT, Nat.reduceLeDiff, Nat.reduceDiv, Nat.reduceMod, Int.reduceToNat, Int.reduceAdd, Nat.zero_add, true_and, Option.toList_some, Option.toList_none, List.cons_append, List.nil_append, true_or, or_true, and_true, false_or, or_false, Int.reduceEq, Int.reduceLT, Int.reduceLE, Int.reduceNeg, not_true_eq_false, not_false_eq_true, Bool.and_eq_true, Bool.or_eq_true, decide_eq_true_eq, ↓reduceIte, b2i_0, b2i_01, b2i_01c, Nat.add_left_cancel_iff, Nat.add_eq_left, Nat.left_eq_add, Nat.reduceEqDiff, false_and, and_false, Bool.false_eq_true, Bool.true_eq_false, ↓wr_iadd, ↓wr_isub, ↓wr_imul, wr_id, sm_c s6, sm_r12 s6, sm_a7 s6, sm_r5 s6, sm_a5 s6, sm_r13 s6, sm_a8 s6, p61, q1, h6c, c1]
        have hstp : stp (vw o h6 p) (mK o h6 g p) (mX o h6 g p) (mE o h6 g p) (yes_ (mK o h6 g) (mX o h6 g) n p) (no_ (mK o h6 g) n p) = f s := by
          rw [eK, eX, eE, hv2, ← hf]
          unfold sx
          rw [hp]
        refine mc_done (rc := sC s) pm6 (by rw [eK, eX]; exact rw6) (by rw [eK]; exact hs) (by rw [← v3]; omega) c4 (by rw [v2]; exact t0) (by rw [v2]; omega) b12' q1 (by rw [h34]; omega) (by rw [h34]; omega) (fun h7 fd7 vw7 b127 se7 => ?_)
        rw [hstp] at vw7 ⊢
        have h8c : hI h7 o 8 = k := by rw [fd7.2.2.2.2.2 8 (by omega)]; exact h6c
        have s7 := FD_sm fd7 s6
        have cS : (k : Int) + 1 = ((k + 1 : Nat) : Int) := by omega
        simp (maxSteps := 2000000) (disch := omega) only [↓wb_const, ↓wb_lconst, ↓wb_null, ↓wb_iload, ↓wb_lload, ↓wb_aload, ↓wb_istore, ↓wb_lstore, ↓wb_astore, ↓wb_iinc, ↓wb_iand, ↓wb_ior, ↓wb_ishr, ↓wb_idiv, ↓wb_irem, ↓wb_ladd, ↓wb_lsub, ↓wb_land, ↓wb_lor, ↓wb_lxor, ↓wb_lneg, ↓wb_lushr, ↓wb_lshl, ↓wb_l2i, ↓wb_lcmp, ↓wb_dupI, ↓wb_dupR, ↓wb_dup2, ↓wb_popI, ↓wb_popR, ↓wb_getI, ↓wb_getL, ↓wb_getR, ↓wb_putI, ↓wb_putZ, ↓wb_putL, ↓wb_putR, ↓wb_iaload, ↓wb_laload, ↓wb_zaload, ↓wb_aaload, ↓wb_iastore, ↓wb_lastore, ↓wb_zastore, ↓wb_aastore, ↓wb_alen, ↓wb_newI, ↓wb_newL, ↓wb_newZ, ↓wb_newA, ↓wb_new, ↓wb_obj, ↓wb_sld, ↓wb_slen, ↓wb_goto, ↓wb_ifeq, ↓wb_iceq, ↓wb_ifne, ↓wb_icne, ↓wb_iflt, ↓wb_iclt, ↓wb_ifge, ↓wb_icge, ↓wb_ifgt, ↓wb_icgt, ↓wb_ifle, ↓wb_icle, ↓wb_ifnull, ↓wb_ifnonnull, ↓wb_ret, ↓wb_iret, ↓wb_lret, ↓wb_aret, ↓wb_zret, ↓wb_tsw0, ↓wb_tsw1, ↓wb_lsw0, ↓wb_lsw1, ↓wb_calls0, ↓wb_calls1, ↓wb_callv1, ↓wb_calls2, ↓wb_callv2, ↓wb_calls3, ↓wb_callv3, ↓wb_callv4, ↓wb_callv5, ↓wb_callv6, oB_some, ldI_z, ldI_s, ldL_z, ldL_s, ldR_z, ldR_s, ls1_z, ls1_1n, ls1_1i, ls1_1r, ls1_1l, ls1_s, ls2_z, ls2_1n, ls2_1i, ls2_1r, ls2_1l, ls2_s, List.length_cons, List.length_nil, Nat.reduceAdd, Nat.reduceLT, Nat.reduceLeDiff, Nat.reduceDiv, Nat.reduceMod, Int.reduceToNat, Int.reduceAdd, Nat.zero_add, true_and, Option.toList_some, Option.toList_none, List.cons_append, List.nil_append, true_or, or_true, and_true, false_or, or_false, Int.reduceEq, Int.reduceLT, Int.reduceLE, Int.reduceNeg, not_true_eq_false, not_false_eq_true, Bool.and_eq_true, Bool.or_eq_true, decide_eq_true_eq, ↓reduceIte, b2i_0, b2i_01, b2i_01c, Nat.add_left_cancel_iff, Nat.add_eq_left, Nat.left_eq_add, Nat.reduceEqDiff, false_and, and_false, Bool.false_eq_true, Bool.true_eq_false, ↓wr_iadd, ↓wr_isub, ↓wr_imul, wr_id, sm_c s7, sm_r12 s7, sm_a7 s7, sm_r5 s7, sm_a5 s7, sm_r13 s7, sm_a8 s7, h8c]
        rw [cS]
        have est := stp_e (s := s) (k := mK o h g (sP s)) (u := mX o h g (sP s)) (v := mE o h g (sP s)) (y := yes_ (mK o h g) (mX o h g) n (sP s)) (m := no_ (mK o h g) n (sP s))
        have efs : stp s (mK o h g (sP s)) (mX o h g (sP s)) (mE o h g (sP s)) (yes_ (mK o h g) (mX o h g) n (sP s)) (no_ (mK o h g) n (sP s)) = f s := by rw [← hf]; rfl
        rw [efs] at est
        obtain ⟨est1, est2, est3⟩ := est
        have hstm2 : sP (f s) = 60 ∨ stm (mK o h g) n (sP (f s)) = true := by
          rw [← hf]; exact sx_stm wf hw (by rw [hp]; exact hs)
        have hact : act s := ⟨p60, fz⟩
        have es7 : hI h7 (o + 7) = hI h7 (o + 7) := rfl
        have hN : hI h6 (o + 7) = sN s := by rw [← hv]; rfl
        have hLl : hI h6 (o + 8) = sL s := by rw [← hv]; rfl
        have hc7 : 0 ≤ hI h7 o 14 := by
          refine Classical.byContradiction fun z => ?_
          have v37 := (vwi vw7).2.2
          have c3 : (hI h7 o 14).toNat = 0 := by omega
          rw [c3] at v37
          rw [← v37] at est3
          split at est3 <;> omega
        have hse : hI h7 o 34 = hI h o 34 + (L ++ e s).length ∧ ∀ j, hI h7 (o + 23) j = if (hI h o 34).toNat ≤ j ∧ j < (hI h o 34).toNat + (L ++ e s).length then (L ++ e s).getD (j - (hI h o 34).toNat) 0 else hI h (o + 23) j := by
          rw [eK, eX, eE, hN, hLl] at se7
          by_cases c : vR (sN s) (mK o h g p) (mX o h g p) (mE o h g p) = false ∧ (p : Int) = w
          · rw [if_pos c] at se7
            obtain ⟨a1, a2⟩ := se7
            have hes : e s = [vV (sN s) (sL s) (mK o h g p) (mE o h g p)] := by
              rw [← he, seV_t (by rw [hp]; exact c), hp]
            rw [hes]
            refine ⟨by rw [a1, h34]; simp; omega, fun j => ?_⟩
            rw [a2]
            unfold up1
            simp only [List.length_append, List.length_cons, List.length_nil]
            by_cases ej : j = (hI h6 o 34).toNat
            · rw [if_pos ej, if_pos (by omega)]
              have : j - (hI h o 34).toNat = L.length := by omega
              rw [this]
              simp [List.getD]
            · rw [if_neg ej, h23 j]
              by_cases c2 : (hI h o 34).toNat ≤ j ∧ j < (hI h o 34).toNat + L.length
              · rw [if_pos c2, if_pos (by omega)]
                simp only [List.getD]
                rw [List.getElem?_append_left (by omega)]
              · rw [if_neg c2, if_neg (by omega)]
          · rw [if_neg c] at se7
            obtain ⟨a1, a2⟩ := se7
            have hes : e s = [] := by
              rw [← he, seV_f (by rw [hp]; exact c)]
            rw [hes, List.append_nil]
            exact ⟨by rw [a1, h34], fun j => by rw [a2]; exact h23 j⟩
        have hel : (e s).length ≤ 1 := by
          rw [← he]
          by_cases c : vR (sN s) (mK o h g (sP s)) (mX o h g (sP s)) (mE o h g (sP s)) = false ∧ sP s = w
          · rw [seV_t c]; simp
          · rw [seV_f c]; simp
        refine ih (k + 1) _ (f s) (L ++ e s) (by omega) (FG_tr (FG_tr fg (FG_FD fd7)) (FG_f (by omega))) ?_ (by rw [vwf _ _ _ _ (by omega) (by omega) (by omega)]; exact vw7) ?_ ?_ hI_eq (fun j => by rw [hI_ne (by omega)]; exact b127 j) hstm2 ?_ ?_ ?_ (by rw [hI_ne2 (by omega)]; exact hc7) ?_ ?_ ?_ ?_ ?_ ?_ ?_
        · intro q hq
          rw [hI_ne (by omega), hI_ne (by omega), hI_ne (by omega)]
          exact FD_rw fd7 rw6 q hq
        · rw [hI_ne2 (by omega), fd7.2.2.2.2.2 6 (by omega)]; exact h6a
        · rw [hI_ne2 (by omega), fd7.2.2.2.2.2 7 (by omega)]; exact h6b
        · rcases est2 with z | z <;> omega
        · rcases est2 with z | z <;> omega
        · rw [est3]; split <;> omega
        · rcases est1 with ⟨-, z, -⟩ | ⟨-, z, -⟩
          · exact Or.inr z
          · exact Or.inl z
        · rw [eF, itF_t hact]
        · rw [eN, itN_t hact]; omega
        · rw [eS, itS_t hact, List.append_assoc]
        · rw [List.length_append]; omega
        · rw [hI_ne2 (by omega)]; exact hse.1
        · intro j; rw [hI_ne (by omega)]; exact hse.2 j
      · have exx := ex k h6 s L (by omega) fg hv h6a h6b h6c b12' hst t0 t1 c4 c0 f01 (by rw [eF, itF_f ha]) (by rw [eN, itN_f ha]; omega) (by rw [eS, itS_f ha]; simp) h34 h23
        rw [bl_160_51]
        by_cases p60 : sP s = 60
        · have p61 : (sP s = 60) = True := eq_true p60
          simp (maxSteps := 2000000) (disch := omega) only [↓wb_const, ↓wb_lconst, ↓wb_null, ↓wb_iload, ↓wb_lload, ↓wb_aload, ↓wb_istore, ↓wb_lstore, ↓wb_astore, ↓wb_iinc, ↓wb_iand, ↓wb_ior, ↓wb_ishr, ↓wb_idiv, ↓wb_irem, ↓wb_ladd, ↓wb_lsub, ↓wb_land, ↓wb_lor, ↓wb_lxor, ↓wb_lneg, ↓wb_lushr, ↓wb_lshl, ↓wb_l2i, ↓wb_lcmp, ↓wb_dupI, ↓wb_dupR, ↓wb_dup2, ↓wb_popI, ↓wb_popR, ↓wb_getI, ↓wb_getL, ↓wb_getR, ↓wb_putI, ↓wb_putZ, ↓wb_putL, ↓wb_putR, ↓wb_iaload, ↓wb_laload, ↓wb_zaload, ↓wb_aaload, ↓wb_iastore, ↓wb_lastore, ↓wb_zastore, ↓wb_aastore, ↓wb_alen, ↓wb_newI, ↓wb_newL, ↓wb_newZ, ↓wb_newA, ↓wb_new, ↓wb_obj, ↓wb_sld, ↓wb_slen, ↓wb_goto, ↓wb_ifeq, ↓wb_iceq, ↓wb_ifne, ↓wb_icne, ↓wb_iflt, ↓wb_iclt, ↓wb_ifge, ↓wb_icge, ↓wb_ifgt, ↓wb_icgt, ↓wb_ifle, ↓wb_icle, ↓wb_ifnull, ↓wb_ifnonnull, ↓wb_ret, ↓wb_iret, ↓wb_lret, ↓wb_aret, ↓wb_zret, ↓wb_tsw0, ↓wb_tsw1, ↓wb_lsw0, ↓wb_lsw1, ↓wb_calls0, ↓wb_calls1, ↓wb_callv1, ↓wb_calls2, ↓wb_callv2, ↓wb_calls3, ↓wb_callv3, ↓wb_callv4, ↓wb_callv5, ↓wb_callv6, oB_some, ldI_z, ldI_s, ldL_z, ldL_s, ldR_z, ldR_s, ls1_z, ls1_1n, ls1_1i, ls1_1r, ls1_1l, ls1_s, ls2_z, ls2_1n, ls2_1i, ls2_1r, ls2_1l, ls2_s, List.length_cons, List.length_nil, Nat.reduceAdd, Nat.reduceLT, Nat.reduceLeDiff, Nat.reduceDiv, Nat.reduceMod, Int.reduceToNat, Int.reduceAdd, Nat.zero_add, true_and, Option.toList_some, Option.toList_none, List.cons_append, List.nil_append, true_or, or_true, and_true, false_or, or_false, Int.reduceEq, Int.reduceLT, Int.reduceLE, Int.reduceNeg, not_true_eq_false, not_false_eq_true, Bool.and_eq_true, Bool.or_eq_true, decide_eq_true_eq, ↓reduceIte, b2i_0, b2i_01, b2i_01c, Nat.add_left_cancel_iff, Nat.add_eq_left, Nat.left_eq_add, Nat.reduceEqDiff, false_and, and_false, Bool.false_eq_true, Bool.true_eq_false, ↓wr_iadd, ↓wr_isub, ↓wr_imul, wr_id, sm_c s6, sm_r12 s6, sm_a7 s6, sm_r5 s6, sm_a5 s6, sm_r13 s6, sm_a8 s6, p61]
          exact exx
        · have q1 : hI h6 o 32 = 1 := by
            rw [v1]
            rcases f01 with z | z
            · exact absurd ⟨p60, z⟩ ha
            · exact z
          simp (maxSteps := 2000000) (disch := omega) only [↓wb_const, ↓wb_lconst, ↓wb_null, ↓wb_iload, ↓wb_lload, ↓wb_aload, ↓wb_istore, ↓wb_lstore, ↓wb_astore, ↓wb_iinc, ↓wb_iand, ↓wb_ior, ↓wb_ishr, ↓wb_idiv, ↓wb_irem, ↓wb_ladd, ↓wb_lsub, ↓wb_land, ↓wb_lor, ↓wb_lxor, ↓wb_lneg, ↓wb_lushr, ↓wb_lshl, ↓wb_l2i, ↓wb_lcmp, ↓wb_dupI, ↓wb_dupR, ↓wb_dup2, ↓wb_popI, ↓wb_popR, ↓wb_getI, ↓wb_getL, ↓wb_getR, ↓wb_putI, ↓wb_putZ, ↓wb_putL, ↓wb_putR, ↓wb_iaload, ↓wb_laload, ↓wb_zaload, ↓wb_aaload, ↓wb_iastore, ↓wb_lastore, ↓wb_zastore, ↓wb_aastore, ↓wb_alen, ↓wb_newI, ↓wb_newL, ↓wb_newZ, ↓wb_newA, ↓wb_new, ↓wb_obj, ↓wb_sld, ↓wb_slen, ↓wb_goto, ↓wb_ifeq, ↓wb_iceq, ↓wb_ifne, ↓wb_icne, ↓wb_iflt, ↓wb_iclt, ↓wb_ifge, ↓wb_icge, ↓wb_ifgt, ↓wb_icgt, ↓wb_ifle, ↓wb_icle, ↓wb_ifnull, ↓wb_ifnonnull, ↓wb_ret, ↓wb_iret, ↓wb_lret, ↓wb_aret, ↓wb_zret, ↓wb_tsw0, ↓wb_tsw1, ↓wb_lsw0, ↓wb_lsw1, ↓wb_calls0, ↓wb_calls1, ↓wb_callv1, ↓wb_calls2, ↓wb_callv2, ↓wb_calls3, ↓wb_callv3, ↓wb_callv4, ↓wb_callv5, ↓wb_callv6, oB_some, ldI_z, ldI_s, ldL_z, ldL_s, ldR_z, ldR_s, ls1_z, ls1_1n, ls1_1i, ls1_1r, ls1_1l, ls1_s, ls2_z, ls2_1n, ls2_1i, ls2_1r, ls2_1l, ls2_s, List.length_cons, List.length_nil, Nat.reduceAdd, Nat.reduceLT, Nat.reduceLeDiff, Nat.reduceDiv, Nat.reduceMod, Int.reduceToNat, Int.reduceAdd, Nat.zero_add, true_and, Option.toList_some, Option.toList_none, List.cons_append, List.nil_append, true_or, or_true, and_true, false_or, or_false, Int.reduceEq, Int.reduceLT, Int.reduceLE, Int.reduceNeg, not_true_eq_false, not_false_eq_true, Bool.and_eq_true, Bool.or_eq_true, decide_eq_true_eq, ↓reduceIte, b2i_0, b2i_01, b2i_01c, Nat.add_left_cancel_iff, Nat.add_eq_left, Nat.left_eq_add, Nat.reduceEqDiff, false_and, and_false, Bool.false_eq_true, Bool.true_eq_false, ↓wr_iadd, ↓wr_isub, ↓wr_imul, wr_id, sm_c s6, sm_r12 s6, sm_a7 s6, sm_r5 s6, sm_a5 s6, sm_r13 s6, sm_a8 s6, p60, q1, Int.reduceEq]
          exact exx
  -- places
  have places : ∀ (d k : Nat) (h4 : Hp), 12 - k = d → k ≤ 12 → FR (o + 7) (o + 8) h2 h4 → (∀ j, hI h4 (o + 7) j = if j < 8 then hI h (o + 5) j else hI h (o + 7) j) → (∀ j, hI h4 (o + 8) j = if j < k then 0 else hI h (o + 8) j) → WB sc 160 (BL 160 35) [some (aR o), some (aI g), some (aI fu), some (aI w), some (aI k)] [] h4 Q := by
    intro d
    induction d with
    | zero =>
      intro k h4 hd hk fr hnm hpl
      have hk12 : k = 12 := by omega
      subst hk12
      rw [bl_160_35]
      have c1 : ((12 : Int) ≤ ((12 : Nat) : Int)) = True := by simp
      have s4 := FR_sm fr (FG_sm fg2 sm)
      have f26 : hI h4 o 26 = bhd (mK o h g) n (-1) := by rw [FR_i fr (by omega)]; exact f2.2.2.2.2.2.1
      simp (maxSteps := 2000000) (disch := omega) only [↓wb_const, ↓wb_lconst, ↓wb_null, ↓wb_iload, ↓wb_lload, ↓wb_aload, ↓wb_istore, ↓wb_lstore, ↓wb_astore, ↓wb_iinc, ↓wb_iand, ↓wb_ior, ↓wb_ishr, ↓wb_idiv, ↓wb_irem, ↓wb_ladd, ↓wb_lsub, ↓wb_land, ↓wb_lor, ↓wb_lxor, ↓wb_lneg, ↓wb_lushr, ↓wb_lshl, ↓wb_l2i, ↓wb_lcmp, ↓wb_dupI, ↓wb_dupR, ↓wb_dup2, ↓wb_popI, ↓wb_popR, ↓wb_getI, ↓wb_getL, ↓wb_getR, ↓wb_putI, ↓wb_putZ, ↓wb_putL, ↓wb_putR, ↓wb_iaload, ↓wb_laload, ↓wb_zaload, ↓wb_aaload, ↓wb_iastore, ↓wb_lastore, ↓wb_zastore, ↓wb_aastore, ↓wb_alen, ↓wb_newI, ↓wb_newL, ↓wb_newZ, ↓wb_newA, ↓wb_new, ↓wb_obj, ↓wb_sld, ↓wb_slen, ↓wb_goto, ↓wb_ifeq, ↓wb_iceq, ↓wb_ifne, ↓wb_icne, ↓wb_iflt, ↓wb_iclt, ↓wb_ifge, ↓wb_icge, ↓wb_ifgt, ↓wb_icgt, ↓wb_ifle, ↓wb_icle, ↓wb_ifnull, ↓wb_ifnonnull, ↓wb_ret, ↓wb_iret, ↓wb_lret, ↓wb_aret, ↓wb_zret, ↓wb_tsw0, ↓wb_tsw1, ↓wb_lsw0, ↓wb_lsw1, ↓wb_calls0, ↓wb_calls1, ↓wb_callv1, ↓wb_calls2, ↓wb_callv2, ↓wb_calls3, ↓wb_callv3, ↓wb_callv4, ↓wb_callv5, ↓wb_callv6, oB_some, ldI_z, ldI_s, ldL_z, ldL_s, ldR_z, ldR_s, ls1_z, ls1_1n, ls1_1i, ls1_1r, ls1_1l, ls1_s, ls2_z, ls2_1n, ls2_1i, ls2_1r, ls2_1l, ls2_s, List.length_cons, List.length_nil, Nat.reduceAdd, Nat.reduceLT, Nat.reduceLeDiff, Nat.reduceDiv, Nat.reduceMod, Int.reduceToNat, Int.reduceAdd, Nat.zero_add, true_and, Option.toList_some, Option.toList_none, List.cons_append, List.nil_append, true_or, or_true, and_true, false_or, or_false, Int.reduceEq, Int.reduceLT, Int.reduceLE, Int.reduceNeg, not_true_eq_false, not_false_eq_true, Bool.and_eq_true, Bool.or_eq_true, decide_eq_true_eq, ↓reduceIte, b2i_0, b2i_01, b2i_01c, Nat.add_left_cancel_iff, Nat.add_eq_left, Nat.left_eq_add, Nat.reduceEqDiff, false_and, and_false, Bool.false_eq_true, Bool.true_eq_false, ↓wr_iadd, ↓wr_isub, ↓wr_imul, wr_id, ↓wl_160_45, sm_c s4, sm_r12 s4, sm_a7 s4, sm_r5 s4, sm_a5 s4, sm_r13 s4, sm_a8 s4, c1, f26]
      have fg4 : FG o h h4 := FG_tr fg2 (FG_FR fr (by omega) (by omega))
      have eP : sP s0 = bhd (mK o h g) n (-1) := by rw [hs0]; rfl
      have hv0 : vw o (setI h4 o 32 0) (sP s0) = s0 := by
        rw [eP, hs0]
        unfold vw s0F
        rw [hI_eq, hI_ne2 (by omega), FR_i fr (by omega), f2.2.2.2.1, hI_ne2 (by omega), FR_i fr (by omega), f2.2.2.2.2.1, row_ne (by omega), row_ne (by omega), row_ne (by omega), row_ne (by omega), row_ne (by omega), row_ne (by omega), row_ne (by omega), (fr.2.2.2 (o + 6) (by omega)).1, (fr.2.2.2 (o + 9) (by omega)).1, (fr.2.2.2 (o + 10) (by omega)).1, (fr.2.2.2 (o + 11) (by omega)).1, (fr.2.2.2 (o + 12) (by omega)).1, row12 (o + 6) (by omega), row12 (o + 9) (by omega), row12 (o + 10) (by omega), row12 (o + 11) (by omega), row12 (o + 12) (by omega)]
        rw [show hI h4 (o + 7) = fun i => if i < 8 then hI h (o + 5) i else hI h (o + 7) i from funext hnm, show hI h4 (o + 8) = fun i => if i < 12 then 0 else hI h (o + 8) i from funext hpl]
        rfl
      have mm := main fu 0 (setI h4 o 32 0) s0 [] (by omega) (FG_tr fg4 (FG_f (by omega))) (by
        intro q hq
        rw [hI_ne (by omega), hI_ne (by omega), hI_ne (by omega), FR_i fr (by omega), FR_i fr (by omega), FR_i fr (by omega)]
        exact rw2 q hq) hv0 (by rw [hI_ne2 (by omega), FR_i fr (by omega)]; exact f2.1) (by rw [hI_ne2 (by omega), FR_i fr (by omega)]; exact f2.2.1) (by rw [hI_ne2 (by omega), FR_i fr (by omega)]; exact f2.2.2.1) (fun j => by rw [hI_ne (by omega), FR_i fr (by omega), row12 (o + 12) (by omega)]; exact b12 j) (by
        rw [eP]
        rcases bhd_sp wf hw (r := -1) (by omega) with z | ⟨q, z1, z2, -⟩
        · exact Or.inl z
        · right; rw [z1]; exact z2) (by rw [hs0]; exact Int.le_refl _) (by rw [hs0]; exact Int.le_refl _) (by rw [hs0]; exact Nat.zero_le _) (by rw [hI_ne2 (by omega), FR_i fr (by omega), f2.2.2.2.2.1]; exact Int.le_refl _) (by rw [hs0]; exact Or.inl rfl) rfl (by omega) (by simp) (by simp) (by rw [hI_ne2 (by omega), FR_i fr (by omega), f2.2.2.2.2.2.2]; simp) (fun j => by
        rw [if_neg (by simp only [List.length_nil]; omega), hI_ne (by omega), FR_i fr (by omega), row12 (o + 23) (by omega)])
      rw [eP] at mm
      exact mm
    | succ d ih =>
      intro k h4 hd hk fr hnm hpl
      rw [bl_160_35]
      have s4 := FR_sm fr (FG_sm fg2 sm)
      have c1 : ¬ (12 : Int) ≤ k := by omega
      have b1 : (0 ≤ (k : Int) ∧ (k : Int) < 12) = True := by simp; omega
      have ih := ih (k + 1) (setI h4 (o + 8) k 0) (by omega) (by omega) (FR_I fr (by omega) (by omega)) (fun j => by rw [hI_ne (by omega)]; exact hnm j) (fun j => by
        rw [hI_setI, hpl j]
        by_cases ej : j = k
        · rw [if_pos ⟨rfl, ej⟩, if_pos (by omega)]
        · rw [if_neg (fun z => ej z.2)]
          by_cases e2 : j < k
          · rw [if_pos e2, if_pos (by omega)]
          · rw [if_neg e2, if_neg (by omega)])
      rw [show ((k + 1 : Nat) : Int) = (k : Int) + 1 by omega] at ih
      simp (maxSteps := 2000000) (disch := omega) only [↓wb_const, ↓wb_lconst, ↓wb_null, ↓wb_iload, ↓wb_lload, ↓wb_aload, ↓wb_istore, ↓wb_lstore, ↓wb_astore, ↓wb_iinc, ↓wb_iand, ↓wb_ior, ↓wb_ishr, ↓wb_idiv, ↓wb_irem, ↓wb_ladd, ↓wb_lsub, ↓wb_land, ↓wb_lor, ↓wb_lxor, ↓wb_lneg, ↓wb_lushr, ↓wb_lshl, ↓wb_l2i, ↓wb_lcmp, ↓wb_dupI, ↓wb_dupR, ↓wb_dup2, ↓wb_popI, ↓wb_popR, ↓wb_getI, ↓wb_getL, ↓wb_getR, ↓wb_putI, ↓wb_putZ, ↓wb_putL, ↓wb_putR, ↓wb_iaload, ↓wb_laload, ↓wb_zaload, ↓wb_aaload, ↓wb_iastore, ↓wb_lastore, ↓wb_zastore, ↓wb_aastore, ↓wb_alen, ↓wb_newI, ↓wb_newL, ↓wb_newZ, ↓wb_newA, ↓wb_new, ↓wb_obj, ↓wb_sld, ↓wb_slen, ↓wb_goto, ↓wb_ifeq, ↓wb_iceq, ↓wb_ifne, ↓wb_icne, ↓wb_iflt, ↓wb_iclt, ↓wb_ifge, ↓wb_icge, ↓wb_ifgt, ↓wb_icgt, ↓wb_ifle, ↓wb_icle, ↓wb_ifnull, ↓wb_ifnonnull, ↓wb_ret, ↓wb_iret, ↓wb_lret, ↓wb_aret, ↓wb_zret, ↓wb_tsw0, ↓wb_tsw1, ↓wb_lsw0, ↓wb_lsw1, ↓wb_calls0, ↓wb_calls1, ↓wb_callv1, ↓wb_calls2, ↓wb_callv2, ↓wb_calls3, ↓wb_callv3, ↓wb_callv4, ↓wb_callv5, ↓wb_callv6, oB_some, ldI_z, ldI_s, ldL_z, ldL_s, ldR_z, ldR_s, ls1_z, ls1_1n, ls1_1i, ls1_1r, ls1_1l, ls1_s, ls2_z, ls2_1n, ls2_1i, ls2_1r, ls2_1l, ls2_s, List.length_cons, List.length_nil, Nat.reduceAdd, Nat.reduceLT, Nat.reduceLeDiff, Nat.reduceDiv, Nat.reduceMod, Int.reduceToNat, Int.reduceAdd, Nat.zero_add, true_and, Option.toList_some, Option.toList_none, List.cons_append, List.nil_append, true_or, or_true, and_true, false_or, or_false, Int.reduceEq, Int.reduceLT, Int.reduceLE, Int.reduceNeg, not_true_eq_false, not_false_eq_true, Bool.and_eq_true, Bool.or_eq_true, decide_eq_true_eq, ↓reduceIte, b2i_0, b2i_01, b2i_01c, Nat.add_left_cancel_iff, Nat.add_eq_left, Nat.left_eq_add, Nat.reduceEqDiff, false_and, and_false, Bool.false_eq_true, Bool.true_eq_false, ↓wr_iadd, ↓wr_isub, ↓wr_imul, wr_id, sm_c s4, sm_r12 s4, sm_a7 s4, sm_r5 s4, sm_a5 s4, sm_r13 s4, sm_a8 s4, c1, b1, Int.toNat_natCast]
      exact ih
  have names : ∀ (d k : Nat) (h4 : Hp), 8 - k = d → k ≤ 8 → FR (o + 7) (o + 7) h2 h4 → (∀ j, hI h4 (o + 7) j = if j < k then hI h (o + 5) j else hI h (o + 7) j) → WB sc 160 (BL 160 20) [some (aR o), some (aI g), some (aI fu), some (aI w), some (aI k)] [] h4 Q := by
    intro d
    induction d with
    | zero =>
      intro k h4 hd hk fr hnm
      have hk8 : k = 8 := by omega
      subst hk8
      rw [bl_160_20]
      have c1 : ((8 : Int) ≤ ((8 : Nat) : Int)) = True := by simp
      simp (maxSteps := 2000000) (disch := omega) only [↓wb_const, ↓wb_lconst, ↓wb_null, ↓wb_iload, ↓wb_lload, ↓wb_aload, ↓wb_istore, ↓wb_lstore, ↓wb_astore, ↓wb_iinc, ↓wb_iand, ↓wb_ior, ↓wb_ishr, ↓wb_idiv, ↓wb_irem, ↓wb_ladd, ↓wb_lsub, ↓wb_land, ↓wb_lor, ↓wb_lxor, ↓wb_lneg, ↓wb_lushr, ↓wb_lshl, ↓wb_l2i, ↓wb_lcmp, ↓wb_dupI, ↓wb_dupR, ↓wb_dup2, ↓wb_popI, ↓wb_popR, ↓wb_getI, ↓wb_getL, ↓wb_getR, ↓wb_putI, ↓wb_putZ, ↓wb_putL, ↓wb_putR, ↓wb_iaload, ↓wb_laload, ↓wb_zaload, ↓wb_aaload, ↓wb_iastore, ↓wb_lastore, ↓wb_zastore, ↓wb_aastore, ↓wb_alen, ↓wb_newI, ↓wb_newL, ↓wb_newZ, ↓wb_newA, ↓wb_new, ↓wb_obj, ↓wb_sld, ↓wb_slen, ↓wb_goto, ↓wb_ifeq, ↓wb_iceq, ↓wb_ifne, ↓wb_icne, ↓wb_iflt, ↓wb_iclt, ↓wb_ifge, ↓wb_icge, ↓wb_ifgt, ↓wb_icgt, ↓wb_ifle, ↓wb_icle, ↓wb_ifnull, ↓wb_ifnonnull, ↓wb_ret, ↓wb_iret, ↓wb_lret, ↓wb_aret, ↓wb_zret, ↓wb_tsw0, ↓wb_tsw1, ↓wb_lsw0, ↓wb_lsw1, ↓wb_calls0, ↓wb_calls1, ↓wb_callv1, ↓wb_calls2, ↓wb_callv2, ↓wb_calls3, ↓wb_callv3, ↓wb_callv4, ↓wb_callv5, ↓wb_callv6, oB_some, ldI_z, ldI_s, ldL_z, ldL_s, ldR_z, ldR_s, ls1_z, ls1_1n, ls1_1i, ls1_1r, ls1_1l, ls1_s, ls2_z, ls2_1n, ls2_1i, ls2_1r, ls2_1l, ls2_s, List.length_cons, List.length_nil, Nat.reduceAdd, Nat.reduceLT, Nat.reduceLeDiff, Nat.reduceDiv, Nat.reduceMod, Int.reduceToNat, Int.reduceAdd, Nat.zero_add, true_and, Option.toList_some, Option.toList_none, List.cons_append, List.nil_append, true_or, or_true, and_true, false_or, or_false, Int.reduceEq, Int.reduceLT, Int.reduceLE, Int.reduceNeg, not_true_eq_false, not_false_eq_true, Bool.and_eq_true, Bool.or_eq_true, decide_eq_true_eq, ↓reduceIte, b2i_0, b2i_01, b2i_01c, Nat.add_left_cancel_iff, Nat.add_eq_left, Nat.left_eq_add, Nat.reduceEqDiff, false_and, and_false, Bool.false_eq_true, Bool.true_eq_false, ↓wr_iadd, ↓wr_isub, ↓wr_imul, wr_id, ↓wl_160_33, c1]
      exact places 12 0 h4 (by omega) (by omega) (FR_wd fr (by omega) (by omega)) hnm (fun j => by rw [if_neg (by omega), FR_i fr (by omega), row12 (o + 8) (by omega)])
    | succ d ih =>
      intro k h4 hd hk fr hnm
      rw [bl_160_20]
      have s4 := FR_sm fr (FG_sm fg2 sm)
      have c1 : ¬ (8 : Int) ≤ k := by omega
      have b1 : (0 ≤ (k : Int) ∧ (k : Int) < 8) = True := by simp; omega
      have e5 : hI h4 (o + 5) k = hI h (o + 5) k := by rw [FR_i fr (by omega)]; exact FG_i fg2 (by omega)
      have ih := ih (k + 1) (setI h4 (o + 7) k (hI h (o + 5) k)) (by omega) (by omega) (FR_I fr (by omega) (by omega)) (fun j => by
        rw [hI_setI, hnm j]
        by_cases ej : j = k
        · rw [if_pos ⟨rfl, ej⟩, if_pos (by omega), ej]
        · rw [if_neg (fun z => ej z.2)]
          by_cases e2 : j < k
          · rw [if_pos e2, if_pos (by omega)]
          · rw [if_neg e2, if_neg (by omega)])
      rw [show ((k + 1 : Nat) : Int) = (k : Int) + 1 by omega] at ih
      simp (maxSteps := 2000000) (disch := omega) only [↓wb_const, ↓wb_lconst, ↓wb_null, ↓wb_iload, ↓wb_lload, ↓wb_aload, ↓wb_istore, ↓wb_lstore, ↓wb_astore, ↓wb_iinc, ↓wb_iand, ↓wb_ior, ↓wb_ishr, ↓wb_idiv, ↓wb_irem, ↓wb_ladd, ↓wb_lsub, ↓wb_land, ↓wb_lor, ↓wb_lxor, ↓wb_lneg, ↓wb_lushr, ↓wb_lshl, ↓wb_l2i, ↓wb_lcmp, ↓wb_dupI, ↓wb_dupR, ↓wb_dup2, ↓wb_popI, ↓wb_popR, ↓wb_getI, ↓wb_getL, ↓wb_getR, ↓wb_putI, ↓wb_putZ, ↓wb_putL, ↓wb_putR, ↓wb_iaload, ↓wb_laload, ↓wb_zaload, ↓wb_aaload, ↓wb_iastore, ↓wb_lastore, ↓wb_zastore, ↓wb_aastore, ↓wb_alen, ↓wb_newI, ↓wb_newL, ↓wb_newZ, ↓wb_newA, ↓wb_new, ↓wb_obj, ↓wb_sld, ↓wb_slen, ↓wb_goto, ↓wb_ifeq, ↓wb_iceq, ↓wb_ifne, ↓wb_icne, ↓wb_iflt, ↓wb_iclt, ↓wb_ifge, ↓wb_icge, ↓wb_ifgt, ↓wb_icgt, ↓wb_ifle, ↓wb_icle, ↓wb_ifnull, ↓wb_ifnonnull, ↓wb_ret, ↓wb_iret, ↓wb_lret, ↓wb_aret, ↓wb_zret, ↓wb_tsw0, ↓wb_tsw1, ↓wb_lsw0, ↓wb_lsw1, ↓wb_calls0, ↓wb_calls1, ↓wb_callv1, ↓wb_calls2, ↓wb_callv2, ↓wb_calls3, ↓wb_callv3, ↓wb_callv4, ↓wb_callv5, ↓wb_callv6, oB_some, ldI_z, ldI_s, ldL_z, ldL_s, ldR_z, ldR_s, ls1_z, ls1_1n, ls1_1i, ls1_1r, ls1_1l, ls1_s, ls2_z, ls2_1n, ls2_1i, ls2_1r, ls2_1l, ls2_s, List.length_cons, List.length_nil, Nat.reduceAdd, Nat.reduceLT, Nat.reduceLeDiff, Nat.reduceDiv, Nat.reduceMod, Int.reduceToNat, Int.reduceAdd, Nat.zero_add, true_and, Option.toList_some, Option.toList_none, List.cons_append, List.nil_append, true_or, or_true, and_true, false_or, or_false, Int.reduceEq, Int.reduceLT, Int.reduceLE, Int.reduceNeg, not_true_eq_false, not_false_eq_true, Bool.and_eq_true, Bool.or_eq_true, decide_eq_true_eq, ↓reduceIte, b2i_0, b2i_01, b2i_01c, Nat.add_left_cancel_iff, Nat.add_eq_left, Nat.left_eq_add, Nat.reduceEqDiff, false_and, and_false, Bool.false_eq_true, Bool.true_eq_false, ↓wr_iadd, ↓wr_isub, ↓wr_imul, wr_id, sm_c s4, sm_r12 s4, sm_a7 s4, sm_r5 s4, sm_a5 s4, sm_r13 s4, sm_a8 s4, c1, b1, Int.toNat_natCast, e5]
      exact ih
  exact names 8 0 h2 (by omega) (by omega) FR_rf (fun j => by rw [if_neg (by omega), row12 (o + 7) (by omega)])
