/-! ===== the reference: frames, the ways, what is reached ===== -/
noncomputable def pI (P : Prop) : Int := @ite Int P (Classical.propDecidable P) 1 0
theorem pI_t {P : Prop} (h : P) : pI P = 1 := by unfold pI; rw [if_pos h]
theorem pI_f {P : Prop} (h : ¬ P) : pI P = 0 := by unfold pI; rw [if_neg h]
theorem pI_1 {P : Prop} : pI P = 1 ↔ P := by
  by_cases h : P
  · rw [pI_t h]; simp [h]
  · rw [pI_f h]; simp [h]
theorem pI_0 {P : Prop} : pI P = 0 ↔ ¬ P := by
  by_cases h : P
  · rw [pI_t h]; simp [h]
  · rw [pI_f h]; simp [h]
theorem pI_01 {P : Prop} : pI P = 0 ∨ pI P = 1 := by
  by_cases h : P
  · exact Or.inr (pI_t h)
  · exact Or.inl (pI_f h)
theorem pI_cg {P Q : Prop} (h : P ↔ Q) : pI P = pI Q := by rw [propext h]
def mE (o : Nat) (h : Hp) (g q : Int) : Int := hI h (o + 4) (60 * g + q).toNat
/-- program g of the reference o has n lines, each right -/
def PM (o : Nat) (h : Hp) (g : Int) (n : Nat) : Prop := SM o h ∧ (0 ≤ g ∧ g < 16) ∧ hI h (o + 1) g.toNat = n ∧ n ≤ 60 ∧ WF (mK o h g) (mX o h g) (mE o h g) n ∧ ∀ q : Nat, q < n → inR (mX o h g q) ∧ inR (mE o h g q)
/-- only the reference's scratch has changed -/
def FS (o : Nat) (h h2 : Hp) : Prop := h2.1 = h.1 ∧ hT h2 = hT h ∧ hR h2 = hR h ∧ (∀ y, y < o ∨ o + 24 < y → hI h2 y = hI h y ∧ hL h2 y = hL h y) ∧ (∀ y, o < y → y < o + 15 → hI h2 y = hI h y) ∧ ∀ j, ¬ (j = 21 ∨ j = 22 ∨ j = 26 ∨ j = 32 ∨ j = 34) → hI h2 o j = hI h o j
theorem FS_rf {o : Nat} {h : Hp} : FS o h h := ⟨rfl, rfl, rfl, fun _ _ => ⟨rfl, rfl⟩, fun _ _ _ => rfl, fun _ _ => rfl⟩
theorem FS_tr {o : Nat} {h h2 h3 : Hp} (a : FS o h h2) (b : FS o h2 h3) : FS o h h3 := ⟨b.1.trans a.1, b.2.1.trans a.2.1, b.2.2.1.trans a.2.2.1, fun y q => ⟨(b.2.2.2.1 y q).1.trans (a.2.2.2.1 y q).1, (b.2.2.2.1 y q).2.trans (a.2.2.2.1 y q).2⟩, fun y q1 q2 => (b.2.2.2.2.1 y q1 q2).trans (a.2.2.2.2.1 y q1 q2), fun j q => (b.2.2.2.2.2 j q).trans (a.2.2.2.2.2 j q)⟩
theorem FS_FR {o lo hi : Nat} {h h2 : Hp} (a : FR lo hi h h2) (l1 : o + 15 ≤ lo) (l2 : hi ≤ o + 24) : FS o h h2 := ⟨a.1, a.2.1, a.2.2.1, fun y q => a.2.2.2 y (by omega), fun y q1 q2 => (a.2.2.2 y (by omega)).1, fun j q => FR_i a (by omega)⟩
theorem FS_f {o j : Nat} {h : Hp} {v : Int} (q : j = 21 ∨ j = 22 ∨ j = 26 ∨ j = 32 ∨ j = 34) : FS o h (setI h o j v) := by
  refine ⟨h1_setI2, hT_setI, hR_setI, fun y z => ⟨?_, by rw [hL_setI]⟩, fun y z1 z2 => ?_, fun k z => hI_ne2 (by omega)⟩
  · funext k; exact hI_ne (by omega)
  · funext k; exact hI_ne (by omega)
theorem FS_st {o : Nat} {h : Hp} {a b : Int} : FS o h (st2 o h a b) := by
  unfold st2
  exact FS_tr (FS_f (Or.inl rfl)) (FS_f (Or.inr (Or.inl rfl)))
theorem FR_F {lo hi : Nat} {h h2 : Hp} {x : Nat} {f : Nat → Int} (a : FR lo hi h h2) (l1 : lo ≤ x) (l2 : x ≤ hi) : FR lo hi h (setF h2 x f) := by
  refine FR_tr a ⟨rfl, hT_setF, hR_setF, fun y q => ⟨?_, by rw [hL_setF]⟩⟩
  funext j
  exact hI_setF_ne (by omega)
theorem FS_sm {o : Nat} {h h2 : Hp} (a : FS o h h2) (s : SM o h) : SM o h2 := by rw [SM_same a.2.1 a.2.2.1]; exact s
theorem FS_r {o y j : Nat} {h h2 : Hp} (a : FS o h h2) (q1 : o < y) (q2 : y < o + 15) : hI h2 y j = hI h y j := by rw [a.2.2.2.2.1 y q1 q2]
theorem FS_K {o : Nat} {h h2 : Hp} {g : Int} (a : FS o h h2) : mK o h2 g = mK o h g ∧ mX o h2 g = mX o h g ∧ mE o h2 g = mE o h g := by
  refine ⟨?_, ?_, ?_⟩
  · funext z; exact FS_r a (by omega) (by omega)
  · funext z; exact FS_r a (by omega) (by omega)
  · funext z; exact FS_r a (by omega) (by omega)
theorem FS_pm {o : Nat} {h h2 : Hp} {g : Int} {n : Nat} (a : FS o h h2) (p : PM o h g n) : PM o h2 g n := by
  obtain ⟨e1, e2, e3⟩ := FS_K (g := g) a
  unfold PM
  rw [e1, e2, e3, FS_r a (by omega) (by omega)]
  exact ⟨FS_sm a p.1, p.2⟩
theorem WF_x {K X E : Int → Int} {n p : Nat} (w : WF K X E n) (hp : p < n) (hx : inR (X p)) : 0 ≤ X p ∧ X p ≤ 803 := by
  obtain ⟨⟨k0, k8⟩, r⟩ := w p hp
  have x1 := hx.2
  rcases (by omega : K p = 0 ∨ K p = 1 ∨ K p = 2 ∨ K p = 3 ∨ K p = 4 ∨ K p = 5 ∨ K p = 6 ∨ K p = 7 ∨ K p = 8) with e | e | e | e | e | e | e | e | e
  all_goals rw [e] at r
  · have := rt_0 r; omega
  · obtain ⟨a, b, d, -⟩ := rt_1 r
    rw [div4 a x1] at d
    have := opd_c d
    omega
  · have := (rt_2 r).1; omega
  · have := (rt_3 r).1; omega
  · have := (rt_4 r).1; omega
  · have := (rt_5 r).1; omega
  · have := (rt_6 r).1; omega
  · obtain ⟨a, b, -⟩ := rt_7 r
    have svp := SV_le (WF_SV w) (show p ≤ n by omega)
    rw [opw_len svp] at b
    have h1 := stk_12 w p (by omega)
    have h2 : (whl K (stk K p)).length ≤ (stk K p).length := List.length_filter_le _ _
    omega
  · have := (rt_8 r).1; omega
/-- the rows of ways -/
def RW (o : Nat) (h : Hp) (K X : Int → Int) (n : Nat) : Prop := ∀ p : Nat, p < n → hI h (o + 15) p = yes_ K X n p ∧ hI h (o + 16) p = no_ K n p ∧ hI h (o + 17) p = loo_ K n p
theorem mc_tw {sc : Scr} {o : Nat} {h : Hp} {Q : Option AV → Hp → Prop} {g : Int} {n : Nat} (pm : PM o h g n) (hQ : ∀ h2, FS o h h2 → RW o h2 (mK o h g) (mX o h g) n → hI h2 o 26 = bhd (mK o h g) n (-1) → hI h2 (o + 20) = hI h (o + 20) → ((∀ y, o + 17 < y → hI h2 y = hI h y) ∧ ∀ j, ¬ j = 26 → hI h2 o j = hI h o j) → Q none h2) : WC sc 130 [aR o, aI g] h Q := by
  obtain ⟨s, ⟨g0, g1⟩, hn, n60, wf, hin⟩ := pm
  rw [mc_tellWays s g0 g1 hn (by omega) (by omega) (WF_WFb wf) (fun p p0 p1 => by
    obtain ⟨q, rfl⟩ : ∃ q : Nat, p = q := ⟨p.toNat, by omega⟩
    have := WF_x wf (show q < n by omega) (hin q (by omega)).1
    omega)]
  have fs1 : FS o h (setI h o 26 (bhd (mK o h g) n (-1))) := FS_f (Or.inr (Or.inr (Or.inl rfl)))
  generalize hh : setI h o 26 (bhd (mK o h g) n (-1)) = h1 at fs1
  obtain ⟨eK, eX, -⟩ := FS_K (g := g) fs1
  have fr : FR (o + 15) (o + 17) h1 (W3 o h1 g n n) := by
    unfold W3
    exact FR_F (FR_F (FR_F FR_rf (by omega) (by omega)) (by omega) (by omega)) (by omega) (by omega)
  refine hQ _ (FS_tr fs1 (FS_FR fr (by omega) (by omega))) (fun p hp => ?_) ?_ ?_ ⟨fun y hy => ?_, fun j hj => ?_⟩
  · unfold W3
    rw [eK, eX]
    have hm : ∀ f old : Nat → Int, mix n f old p = f p := fun f old => by unfold mix; rw [if_pos (by omega)]
    refine ⟨?_, ?_, ?_⟩
    · rw [hI_setF_ne (by omega), hI_setF_ne (by omega), hI_setF_eq, hm]
    · rw [hI_setF_ne (by omega), hI_setF_eq, hm]
    · rw [hI_setF_eq, hm]
  · rw [FR_i fr (by omega), ← hh, hI_eq]
  · rw [(fr.2.2.2 (o + 20) (by omega)).1, ← hh]; funext j; exact hI_ne (by omega)
  · rw [(fr.2.2.2 y (by omega)).1, ← hh]; funext j; exact hI_ne (by omega)
  · rw [FR_i fr (by omega), ← hh]; exact hI_ne2 hj
theorem RW_FR {o lo hi : Nat} {h h2 : Hp} {K X : Int → Int} {n : Nat} (a : FR lo hi h h2) (q : o + 17 < lo) (w : RW o h K X n) : RW o h2 K X n := by
  intro p hp
  rw [FR_i a (by omega), FR_i a (by omega), FR_i a (by omega)]
  exact w p hp
theorem Rch_stm {K X E : Int → Int} {n : Nat} (w : WF K X E n) (hw : stk K n = []) {B : Int → Prop} {t v : Int} (ht : stm K n t = true) (h : Rch (yes_ K X n) (no_ K n) B t v) : v = 60 ∨ stm K n v = true := by
  have st : ∀ q : Int, stm K n q = true → ∀ u, wy (yes_ K X n) (no_ K n) q u → u = 60 ∨ stm K n u = true := by
    intro q hq u hu
    obtain ⟨z, rfl⟩ : ∃ z : Nat, q = z := ⟨q.toNat, by have := (stm_n hq).1; omega⟩
    obtain ⟨t1, t2, -⟩ := way_to w hw hq
    obtain ⟨e | e, e0⟩ := hu
    · rcases t1 with z | ⟨z, z1, z2⟩
      · exact Or.inl (by omega)
      · exact Or.inr (by rw [e, z1]; exact z2)
    · rcases t2 with z | z | ⟨z, z1, z2⟩
      · omega
      · exact Or.inl (by omega)
      · exact Or.inr (by rw [e, z1]; exact z2)
  refine h (fun w => w = 60 ∨ stm K n w = true) (fun u hu => st t ht u hu) (fun q u hq hu => ?_)
  by_cases hs : stm K n q = true
  · exact st q hs u hu.2
  · exfalso
    have := way_n (X := X) hs
    obtain ⟨-, a | a, a0⟩ := hu <;> omega
/-- the row of marks with one more -/
def rcH (o : Nat) (h : Hp) (v : Int) : Hp := if 0 ≤ v then setI h (o + 20) v.toNat 1 else h
theorem rcH_r {o j : Nat} {h : Hp} {v : Int} : hI (rcH o h v) (o + 20) j = if v = j then 1 else hI h (o + 20) j := by
  unfold rcH
  by_cases v0 : 0 ≤ v
  · rw [if_pos v0, hI_setI]
    by_cases e : v = j
    · rw [if_pos ⟨rfl, by omega⟩, if_pos e]
    · rw [if_neg (by omega), if_neg e]
  · rw [if_neg v0, if_neg (by omega)]
theorem rcH_FR {o : Nat} {h : Hp} {v : Int} : FR (o + 20) (o + 20) h (rcH o h v) := by
  unfold rcH
  split
  · exact FR_I FR_rf (Nat.le_refl _) (Nat.le_refl _)
  · exact FR_rf
theorem mc_goOn {sc : Scr} {o : Nat} {h : Hp} {Q : Option AV → Hp → Prop} {g : Int} {n t : Nat} {nm : Int} (pm : PM o h g n) (hw : stk (mK o h g) n = []) (rw0 : RW o h (mK o h g) (mX o h g) n) (ht : stm (mK o h g) n t = true) (h01o : ∀ v, hI h (o + 20) v = 0 ∨ hI h (o + 20) v = 1) (hQ : ∀ h2, FR (o + 20) (o + 20) h h2 → (∀ v : Nat, v ≤ 60 → hI h2 (o + 20) v = pI (Rch (yes_ (mK o h g) (mX o h g) n) (no_ (mK o h g) n) (fun q => 0 ≤ nm ∧ mK o h g q = 0 ∧ mX o h g q = nm) t v)) → (∀ v, hI h2 (o + 20) v = 0 ∨ hI h2 (o + 20) v = 1) → Q none h2) : WC sc 135 [aR o, aI g, aI t, aI nm] h Q := by
  obtain ⟨s, ⟨g0, g1⟩, hn, n60, wf, hin⟩ := pm
  have htn := stm_lt ht
  generalize hK : mK o h g = K at *
  generalize hX : mX o h g = X at *
  generalize hB : (fun q : Int => 0 ≤ nm ∧ K q = 0 ∧ X q = nm) = B at *
  have hBd : ∀ q, B q ↔ 0 ≤ nm ∧ K q = 0 ∧ X q = nm := fun q => by rw [← hB]
  have b60 : ∀ q : Nat, q < n → (hI h (o + 15) q ≤ 60 ∧ hI h (o + 16) q ≤ 60) := by
    intro q hq
    obtain ⟨r1, r2, -⟩ := rw0 q hq
    rw [r1, r2]
    by_cases hs : stm K n q = true
    · obtain ⟨t1, t2, -⟩ := way_to wf hw hs
      constructor
      · rcases t1 with e | ⟨z, e, e2⟩
        · omega
        · have := stm_lt e2; omega
      · rcases t2 with e | e | ⟨z, e, e2⟩
        · omega
        · omega
        · have := stm_lt e2; omega
    · have := way_n (X := X) hs
      omega
  have bg : (0 ≤ g ∧ g < 16) = True := by simp; omega
  -- one round over the lines
  have inner : ∀ (f p : Nat) (h2 : Hp) (R0 : Nat → Int) (m : Bool) (x6 : Option AV), n - p = f → p ≤ n → FR (o + 20) (o + 20) h h2 → (∀ v, hI h2 (o + 20) v = 0 ∨ hI h2 (o + 20) v = 1) → (∀ v : Nat, R0 v = 1 → hI h2 (o + 20) v = 1) → (∀ v : Nat, v ≤ 60 → hI h2 (o + 20) v = 1 → Rch (yes_ K X n) (no_ K n) B t v) → (m = false → hI h2 (o + 20) = R0 ∧ ∀ q : Nat, q < p → R0 q = 1 → ¬ B q → ∀ u : Nat, wy (yes_ K X n) (no_ K n) q u → R0 u = 1) → (m = true → ctN (fun i => decide (hI h2 (o + 20) i = 0)) 61 + 1 ≤ ctN (fun i => decide (R0 i = 0)) 61) →
      (∀ (h2 : Hp) (m : Bool) (x6 : Option AV), FR (o + 20) (o + 20) h h2 → (∀ v, hI h2 (o + 20) v = 0 ∨ hI h2 (o + 20) v = 1) → (∀ v : Nat, R0 v = 1 → hI h2 (o + 20) v = 1) → (∀ v : Nat, v ≤ 60 → hI h2 (o + 20) v = 1 → Rch (yes_ K X n) (no_ K n) B t v) → (m = false → hI h2 (o + 20) = R0 ∧ ∀ q : Nat, q < n → R0 q = 1 → ¬ B q → ∀ u : Nat, wy (yes_ K X n) (no_ K n) q u → R0 u = 1) → (m = true → ctN (fun i => decide (hI h2 (o + 20) i = 0)) 61 + 1 ≤ ctN (fun i => decide (R0 i = 0)) 61) → WB sc 135 (BL 135 107) [some (aR o), some (aI g), some (aI t), some (aI nm), some (aI (b2i m)), some (aI n), x6] [] h2 Q) →
      WB sc 135 (BL 135 32) [some (aR o), some (aI g), some (aI t), some (aI nm), some (aI (b2i m)), some (aI p), x6] [] h2 Q := by
    intro f
    induction f with
    | zero =>
      intro p h2 R0 m x6 hf hp fr h01 hmn hso hm1 hm2 kk
      have : p = n := by omega
      subst this
      rw [bl_135_32]
      have s2 := FR_sm fr s
      have hn2 : hI h2 (o + 1) g.toNat = p := by rw [FR_i fr (by omega)]; exact hn
      have c1 : ((p : Int) ≤ p) = True := by simp
      simp (maxSteps := 2000000) (disch := omega) only [↓wb_const, ↓wb_lconst, ↓wb_null, ↓wb_iload, ↓wb_lload, ↓wb_aload, ↓wb_istore, ↓wb_lstore, ↓wb_astore, ↓wb_iinc, ↓wb_iand, ↓wb_ior, ↓wb_ishr, ↓wb_idiv, ↓wb_irem, ↓wb_ladd, ↓wb_lsub, ↓wb_land, ↓wb_lor, ↓wb_lxor, ↓wb_lneg, ↓wb_lushr, ↓wb_lshl, ↓wb_l2i, ↓wb_lcmp, ↓wb_dupI, ↓wb_dupR, ↓wb_dup2, ↓wb_popI, ↓wb_popR, ↓wb_getI, ↓wb_getL, ↓wb_getR, ↓wb_putI, ↓wb_putZ, ↓wb_putL, ↓wb_putR, ↓wb_iaload, ↓wb_laload, ↓wb_zaload, ↓wb_aaload, ↓wb_iastore, ↓wb_lastore, ↓wb_zastore, ↓wb_aastore, ↓wb_alen, ↓wb_newI, ↓wb_newL, ↓wb_newZ, ↓wb_newA, ↓wb_new, ↓wb_obj, ↓wb_sld, ↓wb_slen, ↓wb_goto, ↓wb_ifeq, ↓wb_iceq, ↓wb_ifne, ↓wb_icne, ↓wb_iflt, ↓wb_iclt, ↓wb_ifge, ↓wb_icge, ↓wb_ifgt, ↓wb_icgt, ↓wb_ifle, ↓wb_icle, ↓wb_ifnull, ↓wb_ifnonnull, ↓wb_ret, ↓wb_iret, ↓wb_lret, ↓wb_aret, ↓wb_zret, ↓wb_tsw0, ↓wb_tsw1, ↓wb_lsw0, ↓wb_lsw1, ↓wb_calls0, ↓wb_calls1, ↓wb_callv1, ↓wb_calls2, ↓wb_callv2, ↓wb_calls3, ↓wb_callv3, ↓wb_callv4, ↓wb_callv5, ↓wb_callv6, oB_some, ldI_z, ldI_s, ldL_z, ldL_s, ldR_z, ldR_s, ls1_z, ls1_1n, ls1_1i, ls1_1r, ls1_1l, ls1_s, ls2_z, ls2_1n, ls2_1i, ls2_1r, ls2_1l, ls2_s, List.length_cons, List.length_nil, Nat.reduceAdd, Nat.reduceLT, Nat.reduceLeDiff, Nat.reduceDiv, Nat.reduceMod, Int.reduceToNat, Int.reduceAdd, Nat.zero_add, true_and, Option.toList_some, Option.toList_none, List.cons_append, List.nil_append, true_or, or_true, and_true, false_or, or_false, Int.reduceEq, Int.reduceLT, Int.reduceLE, Int.reduceNeg, not_true_eq_false, not_false_eq_true, Bool.and_eq_true, Bool.or_eq_true, decide_eq_true_eq, ↓reduceIte, b2i_0, b2i_01, b2i_01c, Nat.add_left_cancel_iff, Nat.add_eq_left, Nat.left_eq_add, Nat.reduceEqDiff, false_and, and_false, Bool.false_eq_true, Bool.true_eq_false, ↓wr_iadd, ↓wr_isub, ↓wr_imul, wr_id, sm_c s2, sm_r29 s2, sm_a20 s2, sm_r23 s2, sm_a15 s2, sm_r24 s2, sm_a16 s2, sm_r1 s2, sm_a1 s2, sm_r2 s2, sm_a2 s2, sm_r3 s2, sm_a3 s2, bg, hn2, c1]
      exact kk h2 m x6 fr h01 hmn hso hm1 hm2
    | succ f ih =>
      intro p h2 R0 m x6 hf hp fr h01 hmn hso hm1 hm2 kk
      rw [bl_135_32]
      have s2 := FR_sm fr s
      have hn2 : hI h2 (o + 1) g.toNat = n := by rw [FR_i fr (by omega)]; exact hn
      have c1 : ¬ (n : Int) ≤ p := by omega
      have b1 : (0 ≤ (p : Int) ∧ (p : Int) < 60) = True := by simp; omega
      have b1' : (0 ≤ (p : Int) ∧ (p : Int) < 61) = True := by simp; omega
      have b2 : (0 ≤ 60 * g + (p : Int) ∧ 60 * g + (p : Int) < 960) = True := by simp; omega
      have eK : hI h2 (o + 2) (60 * g + (p : Int)).toNat = K p := by rw [FR_i fr (by omega), ← hK]; rfl
      have eX : hI h2 (o + 3) (60 * g + (p : Int)).toNat = X p := by rw [FR_i fr (by omega), ← hX]; rfl
      obtain ⟨r1, r2, -⟩ := rw0 p (by omega)
      have e15 : hI h2 (o + 15) p = yes_ K X n p := by rw [FR_i fr (by omega)]; exact r1
      have e16 : hI h2 (o + 16) p = no_ K n p := by rw [FR_i fr (by omega)]; exact r2
      have cS : (p : Int) + 1 = ((p + 1 : Nat) : Int) := by omega
      have lt := b60 p (by omega)
      rw [r1, r2] at lt
      -- going on with nothing marked
      have skip : (hI h2 (o + 20) p = 1 → ¬ B p → ∀ u : Nat, wy (yes_ K X n) (no_ K n) p u → hI h2 (o + 20) u = 1) → ∀ x6 : Option AV, WB sc 135 (BL 135 105) [some (aR o), some (aI g), some (aI t), some (aI nm), some (aI (b2i m)), some (aI p), x6] [] h2 Q := by
        intro hcl x6
        simp (maxSteps := 2000000) (disch := omega) only [↓wb_const, ↓wb_lconst, ↓wb_null, ↓wb_iload, ↓wb_lload, ↓wb_aload, ↓wb_istore, ↓wb_lstore, ↓wb_astore, ↓wb_iinc, ↓wb_iand, ↓wb_ior, ↓wb_ishr, ↓wb_idiv, ↓wb_irem, ↓wb_ladd, ↓wb_lsub, ↓wb_land, ↓wb_lor, ↓wb_lxor, ↓wb_lneg, ↓wb_lushr, ↓wb_lshl, ↓wb_l2i, ↓wb_lcmp, ↓wb_dupI, ↓wb_dupR, ↓wb_dup2, ↓wb_popI, ↓wb_popR, ↓wb_getI, ↓wb_getL, ↓wb_getR, ↓wb_putI, ↓wb_putZ, ↓wb_putL, ↓wb_putR, ↓wb_iaload, ↓wb_laload, ↓wb_zaload, ↓wb_aaload, ↓wb_iastore, ↓wb_lastore, ↓wb_zastore, ↓wb_aastore, ↓wb_alen, ↓wb_newI, ↓wb_newL, ↓wb_newZ, ↓wb_newA, ↓wb_new, ↓wb_obj, ↓wb_sld, ↓wb_slen, ↓wb_goto, ↓wb_ifeq, ↓wb_iceq, ↓wb_ifne, ↓wb_icne, ↓wb_iflt, ↓wb_iclt, ↓wb_ifge, ↓wb_icge, ↓wb_ifgt, ↓wb_icgt, ↓wb_ifle, ↓wb_icle, ↓wb_ifnull, ↓wb_ifnonnull, ↓wb_ret, ↓wb_iret, ↓wb_lret, ↓wb_aret, ↓wb_zret, ↓wb_tsw0, ↓wb_tsw1, ↓wb_lsw0, ↓wb_lsw1, ↓wb_calls0, ↓wb_calls1, ↓wb_callv1, ↓wb_calls2, ↓wb_callv2, ↓wb_calls3, ↓wb_callv3, ↓wb_callv4, ↓wb_callv5, ↓wb_callv6, oB_some, ldI_z, ldI_s, ldL_z, ldL_s, ldR_z, ldR_s, ls1_z, ls1_1n, ls1_1i, ls1_1r, ls1_1l, ls1_s, ls2_z, ls2_1n, ls2_1i, ls2_1r, ls2_1l, ls2_s, List.length_cons, List.length_nil, Nat.reduceAdd, Nat.reduceLT, Nat.reduceLeDiff, Nat.reduceDiv, Nat.reduceMod, Int.reduceToNat, Int.reduceAdd, Nat.zero_add, true_and, Option.toList_some, Option.toList_none, List.cons_append, List.nil_append, true_or, or_true, and_true, false_or, or_false, Int.reduceEq, Int.reduceLT, Int.reduceLE, Int.reduceNeg, not_true_eq_false, not_false_eq_true, Bool.and_eq_true, Bool.or_eq_true, decide_eq_true_eq, ↓reduceIte, b2i_0, b2i_01, b2i_01c, Nat.add_left_cancel_iff, Nat.add_eq_left, Nat.left_eq_add, Nat.reduceEqDiff, false_and, and_false, Bool.false_eq_true, Bool.true_eq_false, ↓wr_iadd, ↓wr_isub, ↓wr_imul, wr_id, ↓wl_135_105]
        rw [cS]
        refine ih (p + 1) h2 R0 m x6 (by omega) (by omega) fr h01 hmn hso (fun z => ?_) hm2 kk
        obtain ⟨z1, z2⟩ := hm1 z
        refine ⟨z1, fun q hq a b u hu => ?_⟩
        by_cases e : q = p
        · subst e
          rw [← z1] at a ⊢
          exact hcl a b u hu
        · exact z2 q (by omega) a b u hu
      have tail : ∀ st : Bool, (st = true ↔ B p) → WB sc 135 (BL 135 62) [some (aR o), some (aI g), some (aI t), some (aI nm), some (aI (b2i m)), some (aI p), x6] [aI (b2i st)] h2 Q := by
        intro st hst
        rcases h01 p with hz | hz
        · simp (maxSteps := 2000000) (disch := omega) only [↓wb_const, ↓wb_lconst, ↓wb_null, ↓wb_iload, ↓wb_lload, ↓wb_aload, ↓wb_istore, ↓wb_lstore, ↓wb_astore, ↓wb_iinc, ↓wb_iand, ↓wb_ior, ↓wb_ishr, ↓wb_idiv, ↓wb_irem, ↓wb_ladd, ↓wb_lsub, ↓wb_land, ↓wb_lor, ↓wb_lxor, ↓wb_lneg, ↓wb_lushr, ↓wb_lshl, ↓wb_l2i, ↓wb_lcmp, ↓wb_dupI, ↓wb_dupR, ↓wb_dup2, ↓wb_popI, ↓wb_popR, ↓wb_getI, ↓wb_getL, ↓wb_getR, ↓wb_putI, ↓wb_putZ, ↓wb_putL, ↓wb_putR, ↓wb_iaload, ↓wb_laload, ↓wb_zaload, ↓wb_aaload, ↓wb_iastore, ↓wb_lastore, ↓wb_zastore, ↓wb_aastore, ↓wb_alen, ↓wb_newI, ↓wb_newL, ↓wb_newZ, ↓wb_newA, ↓wb_new, ↓wb_obj, ↓wb_sld, ↓wb_slen, ↓wb_goto, ↓wb_ifeq, ↓wb_iceq, ↓wb_ifne, ↓wb_icne, ↓wb_iflt, ↓wb_iclt, ↓wb_ifge, ↓wb_icge, ↓wb_ifgt, ↓wb_icgt, ↓wb_ifle, ↓wb_icle, ↓wb_ifnull, ↓wb_ifnonnull, ↓wb_ret, ↓wb_iret, ↓wb_lret, ↓wb_aret, ↓wb_zret, ↓wb_tsw0, ↓wb_tsw1, ↓wb_lsw0, ↓wb_lsw1, ↓wb_calls0, ↓wb_calls1, ↓wb_callv1, ↓wb_calls2, ↓wb_callv2, ↓wb_calls3, ↓wb_callv3, ↓wb_callv4, ↓wb_callv5, ↓wb_callv6, oB_some, ldI_z, ldI_s, ldL_z, ldL_s, ldR_z, ldR_s, ls1_z, ls1_1n, ls1_1i, ls1_1r, ls1_1l, ls1_s, ls2_z, ls2_1n, ls2_1i, ls2_1r, ls2_1l, ls2_s, List.length_cons, List.length_nil, Nat.reduceAdd, Nat.reduceLT, Nat.reduceLeDiff, Nat.reduceDiv, Nat.reduceMod, Int.reduceToNat, Int.reduceAdd, Nat.zero_add, true_and, Option.toList_some, Option.toList_none, List.cons_append, List.nil_append, true_or, or_true, and_true, false_or, or_false, Int.reduceEq, Int.reduceLT, Int.reduceLE, Int.reduceNeg, not_true_eq_false, not_false_eq_true, Bool.and_eq_true, Bool.or_eq_true, decide_eq_true_eq, ↓reduceIte, b2i_0, b2i_01, b2i_01c, Nat.add_left_cancel_iff, Nat.add_eq_left, Nat.left_eq_add, Nat.reduceEqDiff, false_and, and_false, Bool.false_eq_true, Bool.true_eq_false, ↓wr_iadd, ↓wr_isub, ↓wr_imul, wr_id, ↓wl_135_62, sm_c s2, sm_r29 s2, sm_a20 s2, sm_r23 s2, sm_a15 s2, sm_r24 s2, sm_a16 s2, sm_r1 s2, sm_a1 s2, sm_r2 s2, sm_a2 s2, sm_r3 s2, sm_a3 s2, b1', Int.toNat_natCast, hz]
          exact skip (fun z => by omega) _
        · cases st with
          | true =>
            simp (maxSteps := 2000000) (disch := omega) only [↓wb_const, ↓wb_lconst, ↓wb_null, ↓wb_iload, ↓wb_lload, ↓wb_aload, ↓wb_istore, ↓wb_lstore, ↓wb_astore, ↓wb_iinc, ↓wb_iand, ↓wb_ior, ↓wb_ishr, ↓wb_idiv, ↓wb_irem, ↓wb_ladd, ↓wb_lsub, ↓wb_land, ↓wb_lor, ↓wb_lxor, ↓wb_lneg, ↓wb_lushr, ↓wb_lshl, ↓wb_l2i, ↓wb_lcmp, ↓wb_dupI, ↓wb_dupR, ↓wb_dup2, ↓wb_popI, ↓wb_popR, ↓wb_getI, ↓wb_getL, ↓wb_getR, ↓wb_putI, ↓wb_putZ, ↓wb_putL, ↓wb_putR, ↓wb_iaload, ↓wb_laload, ↓wb_zaload, ↓wb_aaload, ↓wb_iastore, ↓wb_lastore, ↓wb_zastore, ↓wb_aastore, ↓wb_alen, ↓wb_newI, ↓wb_newL, ↓wb_newZ, ↓wb_newA, ↓wb_new, ↓wb_obj, ↓wb_sld, ↓wb_slen, ↓wb_goto, ↓wb_ifeq, ↓wb_iceq, ↓wb_ifne, ↓wb_icne, ↓wb_iflt, ↓wb_iclt, ↓wb_ifge, ↓wb_icge, ↓wb_ifgt, ↓wb_icgt, ↓wb_ifle, ↓wb_icle, ↓wb_ifnull, ↓wb_ifnonnull, ↓wb_ret, ↓wb_iret, ↓wb_lret, ↓wb_aret, ↓wb_zret, ↓wb_tsw0, ↓wb_tsw1, ↓wb_lsw0, ↓wb_lsw1, ↓wb_calls0, ↓wb_calls1, ↓wb_callv1, ↓wb_calls2, ↓wb_callv2, ↓wb_calls3, ↓wb_callv3, ↓wb_callv4, ↓wb_callv5, ↓wb_callv6, oB_some, ldI_z, ldI_s, ldL_z, ldL_s, ldR_z, ldR_s, ls1_z, ls1_1n, ls1_1i, ls1_1r, ls1_1l, ls1_s, ls2_z, ls2_1n, ls2_1i, ls2_1r, ls2_1l, ls2_s, List.length_cons, List.length_nil, Nat.reduceAdd, Nat.reduceLT, Nat.reduceLeDiff, Nat.reduceDiv, Nat.reduceMod, Int.reduceToNat, Int.reduceAdd, Nat.zero_add, true_and, Option.toList_some, Option.toList_none, List.cons_append, List.nil_append, true_or, or_true, and_true, false_or, or_false, Int.reduceEq, Int.reduceLT, Int.reduceLE, Int.reduceNeg, not_true_eq_false, not_false_eq_true, Bool.and_eq_true, Bool.or_eq_true, decide_eq_true_eq, ↓reduceIte, b2i_0, b2i_01, b2i_01c, Nat.add_left_cancel_iff, Nat.add_eq_left, Nat.left_eq_add, Nat.reduceEqDiff, false_and, and_false, Bool.false_eq_true, Bool.true_eq_false, ↓wr_iadd, ↓wr_isub, ↓wr_imul, wr_id, ↓wl_135_62, sm_c s2, sm_r29 s2, sm_a20 s2, sm_r23 s2, sm_a15 s2, sm_r24 s2, sm_a16 s2, sm_r1 s2, sm_a1 s2, sm_r2 s2, sm_a2 s2, sm_r3 s2, sm_a3 s2, b1', Int.toNat_natCast, hz, b2i_t, Int.reduceEq]
            exact skip (fun _ z => absurd (hst.mp rfl) z) _
          | false =>
            have hnB : ¬ B p := fun z => by have := hst.mpr z; cases this
            have hps : stm K n p = true := by
              rcases Rch_stm wf hw ht (hso p (by omega) hz) with e | e
              · omega
              · exact e
            obtain ⟨t1, t2, -⟩ := way_to wf hw hps
            have y0 : 0 ≤ yes_ K X n p := by rcases t1 with e | ⟨z, e, -⟩ <;> omega
            clear t1 t2
            have by1 : (0 ≤ yes_ K X n p ∧ yes_ K X n p < 61) = True := by simp; omega
            -- marking both
            have mark : (hI h2 (o + 20) (yes_ K X n p).toNat = 0 ∨ (0 ≤ no_ K n p ∧ hI h2 (o + 20) (no_ K n p).toNat = 0)) → WB sc 135 (BL 135 91) [some (aR o), some (aI g), some (aI t), some (aI nm), some (aI (b2i m)), some (aI p), some (aI 0)] [] h2 Q := by
              intro hnew
              have fr1 := FR_tr fr (rcH_FR (o := o) (h := h2) (v := yes_ K X n p))
              have s3 := FR_sm fr1 s
              have e16b : hI (rcH o h2 (yes_ K X n p)) (o + 16) p = no_ K n p := by rw [FR_i (rcH_FR (o := o)) (by omega)]; exact e16
              have rr : ∀ j : Nat, hI (rcH o (rcH o h2 (yes_ K X n p)) (no_ K n p)) (o + 20) j = if no_ K n p = j then 1 else if yes_ K X n p = j then 1 else hI h2 (o + 20) j := fun j => by rw [rcH_r, rcH_r]
              have ih := ih (p + 1) (rcH o (rcH o h2 (yes_ K X n p)) (no_ K n p)) R0 true (some (aI 0)) (by omega) (by omega) (FR_tr fr1 rcH_FR) (fun v => by
                rw [rr]
                split
                · exact Or.inr rfl
                · split
                  · exact Or.inr rfl
                  · exact h01 v) (fun v hv => by
                rw [rr]
                split
                · rfl
                · split
                  · rfl
                  · exact hmn v hv) (fun v hv hz2 => by
                have hR := hso p (by omega) hz
                rw [rr] at hz2
                by_cases e1 : no_ K n p = v
                · exact LF_s hR ⟨hnB, Or.inr e1.symm, by omega⟩
                · rw [if_neg e1] at hz2
                  by_cases e2 : yes_ K X n p = v
                  · exact LF_s hR ⟨hnB, Or.inl e2.symm, by omega⟩
                  · rw [if_neg e2] at hz2; exact hso v hv hz2) (fun z => by cases z) (fun _ => by
                have hct : ctN (fun i => decide (hI (rcH o (rcH o h2 (yes_ K X n p)) (no_ K n p)) (o + 20) i = 0)) 61 + 1 ≤ ctN (fun i => decide (hI h2 (o + 20) i = 0)) 61 := by
                  have sub : ∀ j, j < 61 → decide (hI (rcH o (rcH o h2 (yes_ K X n p)) (no_ K n p)) (o + 20) j = 0) = true → decide (hI h2 (o + 20) j = 0) = true := by
                    intro j hj z
                    simp only [decide_eq_true_eq] at z ⊢
                    rw [rr] at z
                    by_cases e1 : no_ K n p = j
                    · rw [if_pos e1] at z; omega
                    · rw [if_neg e1] at z
                      by_cases e2 : yes_ K X n p = j
                      · rw [if_pos e2] at z; omega
                      · rw [if_neg e2] at z; exact z
                  rcases hnew with e | ⟨e0, e⟩
                  · refine ctN_lt (i := (yes_ K X n p).toNat) sub (by omega) ?_ (by simpa using e)
                    simp only [decide_eq_false_iff_not]
                    rw [rr]
                    split
                    · omega
                    · rw [if_pos (by omega)]; omega
                  · refine ctN_lt (i := (no_ K n p).toNat) sub (by omega) ?_ (by simpa using e)
                    simp only [decide_eq_false_iff_not]
                    rw [rr, if_pos (by omega)]
                    omega
                cases m with
                | false => rw [(hm1 rfl).1] at hct; exact hct
                | true => have := hm2 rfl; omega) kk
              have pr1 := fun (Q : Option AV → Hp → Prop) => mc_reach (sc := sc) (Q := Q) (p := yes_ K X n p) s2 (by omega)
              have pr2 := fun (Q : Option AV → Hp → Prop) => mc_reach (sc := sc) (Q := Q) (p := no_ K n p) s3 (by omega)
              have q1 : ∀ v, (if 0 ≤ v then setI h2 (o + 20) v.toNat 1 else h2) = rcH o h2 v := fun v => rfl
              have q2 : ∀ v, (if 0 ≤ v then setI (rcH o h2 (yes_ K X n p)) (o + 20) v.toNat 1 else rcH o h2 (yes_ K X n p)) = rcH o (rcH o h2 (yes_ K X n p)) v := fun v => rfl
              simp only [q1] at pr1
              simp only [q2] at pr2
              simp (maxSteps := 2000000) (disch := omega) only [↓wb_const, ↓wb_lconst, ↓wb_null, ↓wb_iload, ↓wb_lload, ↓wb_aload, ↓wb_istore, ↓wb_lstore, ↓wb_astore, ↓wb_iinc, ↓wb_iand, ↓wb_ior, ↓wb_ishr, ↓wb_idiv, ↓wb_irem, ↓wb_ladd, ↓wb_lsub, ↓wb_land, ↓wb_lor, ↓wb_lxor, ↓wb_lneg, ↓wb_lushr, ↓wb_lshl, ↓wb_l2i, ↓wb_lcmp, ↓wb_dupI, ↓wb_dupR, ↓wb_dup2, ↓wb_popI, ↓wb_popR, ↓wb_getI, ↓wb_getL, ↓wb_getR, ↓wb_putI, ↓wb_putZ, ↓wb_putL, ↓wb_putR, ↓wb_iaload, ↓wb_laload, ↓wb_zaload, ↓wb_aaload, ↓wb_iastore, ↓wb_lastore, ↓wb_zastore, ↓wb_aastore, ↓wb_alen, ↓wb_newI, ↓wb_newL, ↓wb_newZ, ↓wb_newA, ↓wb_new, ↓wb_obj, ↓wb_sld, ↓wb_slen, ↓wb_goto, ↓wb_ifeq, ↓wb_iceq, ↓wb_ifne, ↓wb_icne, ↓wb_iflt, ↓wb_iclt, ↓wb_ifge, ↓wb_icge, ↓wb_ifgt, ↓wb_icgt, ↓wb_ifle, ↓wb_icle, ↓wb_ifnull, ↓wb_ifnonnull, ↓wb_ret, ↓wb_iret, ↓wb_lret, ↓wb_aret, ↓wb_zret, ↓wb_tsw0, ↓wb_tsw1, ↓wb_lsw0, ↓wb_lsw1, ↓wb_calls0, ↓wb_calls1, ↓wb_callv1, ↓wb_calls2, ↓wb_callv2, ↓wb_calls3, ↓wb_callv3, ↓wb_callv4, ↓wb_callv5, ↓wb_callv6, oB_some, ldI_z, ldI_s, ldL_z, ldL_s, ldR_z, ldR_s, ls1_z, ls1_1n, ls1_1i, ls1_1r, ls1_1l, ls1_s, ls2_z, ls2_1n, ls2_1i, ls2_1r, ls2_1l, ls2_s, List.length_cons, List.length_nil, Nat.reduceAdd, Nat.reduceLT, Nat.reduceLeDiff, Nat.reduceDiv, Nat.reduceMod, Int.reduceToNat, Int.reduceAdd, Nat.zero_add, true_and, Option.toList_some, Option.toList_none, List.cons_append, List.nil_append, true_or, or_true, and_true, false_or, or_false, Int.reduceEq, Int.reduceLT, Int.reduceLE, Int.reduceNeg, not_true_eq_false, not_false_eq_true, Bool.and_eq_true, Bool.or_eq_true, decide_eq_true_eq, ↓reduceIte, b2i_0, b2i_01, b2i_01c, Nat.add_left_cancel_iff, Nat.add_eq_left, Nat.left_eq_add, Nat.reduceEqDiff, false_and, and_false, Bool.false_eq_true, Bool.true_eq_false, ↓wr_iadd, ↓wr_isub, ↓wr_imul, wr_id, ↓wl_135_91, sm_c s2, sm_r29 s2, sm_a20 s2, sm_r23 s2, sm_a15 s2, sm_r24 s2, sm_a16 s2, sm_r1 s2, sm_a1 s2, sm_r2 s2, sm_a2 s2, sm_r3 s2, sm_a3 s2, b1, Int.toNat_natCast, e15, ↓pr1]
              simp (maxSteps := 2000000) (disch := omega) only [↓wb_const, ↓wb_lconst, ↓wb_null, ↓wb_iload, ↓wb_lload, ↓wb_aload, ↓wb_istore, ↓wb_lstore, ↓wb_astore, ↓wb_iinc, ↓wb_iand, ↓wb_ior, ↓wb_ishr, ↓wb_idiv, ↓wb_irem, ↓wb_ladd, ↓wb_lsub, ↓wb_land, ↓wb_lor, ↓wb_lxor, ↓wb_lneg, ↓wb_lushr, ↓wb_lshl, ↓wb_l2i, ↓wb_lcmp, ↓wb_dupI, ↓wb_dupR, ↓wb_dup2, ↓wb_popI, ↓wb_popR, ↓wb_getI, ↓wb_getL, ↓wb_getR, ↓wb_putI, ↓wb_putZ, ↓wb_putL, ↓wb_putR, ↓wb_iaload, ↓wb_laload, ↓wb_zaload, ↓wb_aaload, ↓wb_iastore, ↓wb_lastore, ↓wb_zastore, ↓wb_aastore, ↓wb_alen, ↓wb_newI, ↓wb_newL, ↓wb_newZ, ↓wb_newA, ↓wb_new, ↓wb_obj, ↓wb_sld, ↓wb_slen, ↓wb_goto, ↓wb_ifeq, ↓wb_iceq, ↓wb_ifne, ↓wb_icne, ↓wb_iflt, ↓wb_iclt, ↓wb_ifge, ↓wb_icge, ↓wb_ifgt, ↓wb_icgt, ↓wb_ifle, ↓wb_icle, ↓wb_ifnull, ↓wb_ifnonnull, ↓wb_ret, ↓wb_iret, ↓wb_lret, ↓wb_aret, ↓wb_zret, ↓wb_tsw0, ↓wb_tsw1, ↓wb_lsw0, ↓wb_lsw1, ↓wb_calls0, ↓wb_calls1, ↓wb_callv1, ↓wb_calls2, ↓wb_callv2, ↓wb_calls3, ↓wb_callv3, ↓wb_callv4, ↓wb_callv5, ↓wb_callv6, oB_some, ldI_z, ldI_s, ldL_z, ldL_s, ldR_z, ldR_s, ls1_z, ls1_1n, ls1_1i, ls1_1r, ls1_1l, ls1_s, ls2_z, ls2_1n, ls2_1i, ls2_1r, ls2_1l, ls2_s, List.length_cons, List.length_nil, Nat.reduceAdd, Nat.reduceLT, Nat.reduceLeDiff, Nat.reduceDiv, Nat.reduceMod, Int.reduceToNat, Int.reduceAdd, Nat.zero_add, true_and, Option.toList_some, Option.toList_none, List.cons_append, List.nil_append, true_or, or_true, and_true, false_or, or_false, Int.reduceEq, Int.reduceLT, Int.reduceLE, Int.reduceNeg, not_true_eq_false, not_false_eq_true, Bool.and_eq_true, Bool.or_eq_true, decide_eq_true_eq, ↓reduceIte, b2i_0, b2i_01, b2i_01c, Nat.add_left_cancel_iff, Nat.add_eq_left, Nat.left_eq_add, Nat.reduceEqDiff, false_and, and_false, Bool.false_eq_true, Bool.true_eq_false, ↓wr_iadd, ↓wr_isub, ↓wr_imul, wr_id, sm_c s3, sm_r29 s3, sm_a20 s3, sm_r23 s3, sm_a15 s3, sm_r24 s3, sm_a16 s3, sm_r1 s3, sm_a1 s3, sm_r2 s3, sm_a2 s3, sm_r3 s3, sm_a3 s3, b1, Int.toNat_natCast, e16b, ↓pr2]
              simp (maxSteps := 2000000) (disch := omega) only [↓wb_const, ↓wb_lconst, ↓wb_null, ↓wb_iload, ↓wb_lload, ↓wb_aload, ↓wb_istore, ↓wb_lstore, ↓wb_astore, ↓wb_iinc, ↓wb_iand, ↓wb_ior, ↓wb_ishr, ↓wb_idiv, ↓wb_irem, ↓wb_ladd, ↓wb_lsub, ↓wb_land, ↓wb_lor, ↓wb_lxor, ↓wb_lneg, ↓wb_lushr, ↓wb_lshl, ↓wb_l2i, ↓wb_lcmp, ↓wb_dupI, ↓wb_dupR, ↓wb_dup2, ↓wb_popI, ↓wb_popR, ↓wb_getI, ↓wb_getL, ↓wb_getR, ↓wb_putI, ↓wb_putZ, ↓wb_putL, ↓wb_putR, ↓wb_iaload, ↓wb_laload, ↓wb_zaload, ↓wb_aaload, ↓wb_iastore, ↓wb_lastore, ↓wb_zastore, ↓wb_aastore, ↓wb_alen, ↓wb_newI, ↓wb_newL, ↓wb_newZ, ↓wb_newA, ↓wb_new, ↓wb_obj, ↓wb_sld, ↓wb_slen, ↓wb_goto, ↓wb_ifeq, ↓wb_iceq, ↓wb_ifne, ↓wb_icne, ↓wb_iflt, ↓wb_iclt, ↓wb_ifge, ↓wb_icge, ↓wb_ifgt, ↓wb_icgt, ↓wb_ifle, ↓wb_icle, ↓wb_ifnull, ↓wb_ifnonnull, ↓wb_ret, ↓wb_iret, ↓wb_lret, ↓wb_aret, ↓wb_zret, ↓wb_tsw0, ↓wb_tsw1, ↓wb_lsw0, ↓wb_lsw1, ↓wb_calls0, ↓wb_calls1, ↓wb_callv1, ↓wb_calls2, ↓wb_callv2, ↓wb_calls3, ↓wb_callv3, ↓wb_callv4, ↓wb_callv5, ↓wb_callv6, oB_some, ldI_z, ldI_s, ldL_z, ldL_s, ldR_z, ldR_s, ls1_z, ls1_1n, ls1_1i, ls1_1r, ls1_1l, ls1_s, ls2_z, ls2_1n, ls2_1i, ls2_1r, ls2_1l, ls2_s, List.length_cons, List.length_nil, Nat.reduceAdd, Nat.reduceLT, Nat.reduceLeDiff, Nat.reduceDiv, Nat.reduceMod, Int.reduceToNat, Int.reduceAdd, Nat.zero_add, true_and, Option.toList_some, Option.toList_none, List.cons_append, List.nil_append, true_or, or_true, and_true, false_or, or_false, Int.reduceEq, Int.reduceLT, Int.reduceLE, Int.reduceNeg, not_true_eq_false, not_false_eq_true, Bool.and_eq_true, Bool.or_eq_true, decide_eq_true_eq, ↓reduceIte, b2i_0, b2i_01, b2i_01c, Nat.add_left_cancel_iff, Nat.add_eq_left, Nat.left_eq_add, Nat.reduceEqDiff, false_and, and_false, Bool.false_eq_true, Bool.true_eq_false, ↓wr_iadd, ↓wr_isub, ↓wr_imul, wr_id, ↓wl_135_105]
              rw [cS]
              exact ih
            rcases h01 (yes_ K X n p).toNat with hy | hy
            · simp (maxSteps := 2000000) (disch := omega) only [↓wb_const, ↓wb_lconst, ↓wb_null, ↓wb_iload, ↓wb_lload, ↓wb_aload, ↓wb_istore, ↓wb_lstore, ↓wb_astore, ↓wb_iinc, ↓wb_iand, ↓wb_ior, ↓wb_ishr, ↓wb_idiv, ↓wb_irem, ↓wb_ladd, ↓wb_lsub, ↓wb_land, ↓wb_lor, ↓wb_lxor, ↓wb_lneg, ↓wb_lushr, ↓wb_lshl, ↓wb_l2i, ↓wb_lcmp, ↓wb_dupI, ↓wb_dupR, ↓wb_dup2, ↓wb_popI, ↓wb_popR, ↓wb_getI, ↓wb_getL, ↓wb_getR, ↓wb_putI, ↓wb_putZ, ↓wb_putL, ↓wb_putR, ↓wb_iaload, ↓wb_laload, ↓wb_zaload, ↓wb_aaload, ↓wb_iastore, ↓wb_lastore, ↓wb_zastore, ↓wb_aastore, ↓wb_alen, ↓wb_newI, ↓wb_newL, ↓wb_newZ, ↓wb_newA, ↓wb_new, ↓wb_obj, ↓wb_sld, ↓wb_slen, ↓wb_goto, ↓wb_ifeq, ↓wb_iceq, ↓wb_ifne, ↓wb_icne, ↓wb_iflt, ↓wb_iclt, ↓wb_ifge, ↓wb_icge, ↓wb_ifgt, ↓wb_icgt, ↓wb_ifle, ↓wb_icle, ↓wb_ifnull, ↓wb_ifnonnull, ↓wb_ret, ↓wb_iret, ↓wb_lret, ↓wb_aret, ↓wb_zret, ↓wb_tsw0, ↓wb_tsw1, ↓wb_lsw0, ↓wb_lsw1, ↓wb_calls0, ↓wb_calls1, ↓wb_callv1, ↓wb_calls2, ↓wb_callv2, ↓wb_calls3, ↓wb_callv3, ↓wb_callv4, ↓wb_callv5, ↓wb_callv6, oB_some, ldI_z, ldI_s, ldL_z, ldL_s, ldR_z, ldR_s, ls1_z, ls1_1n, ls1_1i, ls1_1r, ls1_1l, ls1_s, ls2_z, ls2_1n, ls2_1i, ls2_1r, ls2_1l, ls2_s, List.length_cons, List.length_nil, Nat.reduceAdd, Nat.reduceLT, Nat.reduceLeDiff, Nat.reduceDiv, Nat.reduceMod, Int.reduceToNat, Int.reduceAdd, Nat.zero_add, true_and, Option.toList_some, Option.toList_none, List.cons_append, List.nil_append, true_or, or_true, and_true, false_or, or_false, Int.reduceEq, Int.reduceLT, Int.reduceLE, Int.reduceNeg, not_true_eq_false, not_false_eq_true, Bool.and_eq_true, Bool.or_eq_true, decide_eq_true_eq, ↓reduceIte, b2i_0, b2i_01, b2i_01c, Nat.add_left_cancel_iff, Nat.add_eq_left, Nat.left_eq_add, Nat.reduceEqDiff, false_and, and_false, Bool.false_eq_true, Bool.true_eq_false, ↓wr_iadd, ↓wr_isub, ↓wr_imul, wr_id, ↓wl_135_62, sm_c s2, sm_r29 s2, sm_a20 s2, sm_r23 s2, sm_a15 s2, sm_r24 s2, sm_a16 s2, sm_r1 s2, sm_a1 s2, sm_r2 s2, sm_a2 s2, sm_r3 s2, sm_a3 s2, b1, b1', Int.toNat_natCast, hz, b2i_f, Int.reduceEq, e15, by1, hy]
              exact mark (Or.inl hy)
            · by_cases n0 : 0 ≤ no_ K n p
              · have n1 : ¬ no_ K n p < 0 := by omega
                have bn1 : (0 ≤ no_ K n p ∧ no_ K n p < 61) = True := by simp; omega
                rcases h01 (no_ K n p).toNat with hno | hno
                · simp (maxSteps := 2000000) (disch := omega) only [↓wb_const, ↓wb_lconst, ↓wb_null, ↓wb_iload, ↓wb_lload, ↓wb_aload, ↓wb_istore, ↓wb_lstore, ↓wb_astore, ↓wb_iinc, ↓wb_iand, ↓wb_ior, ↓wb_ishr, ↓wb_idiv, ↓wb_irem, ↓wb_ladd, ↓wb_lsub, ↓wb_land, ↓wb_lor, ↓wb_lxor, ↓wb_lneg, ↓wb_lushr, ↓wb_lshl, ↓wb_l2i, ↓wb_lcmp, ↓wb_dupI, ↓wb_dupR, ↓wb_dup2, ↓wb_popI, ↓wb_popR, ↓wb_getI, ↓wb_getL, ↓wb_getR, ↓wb_putI, ↓wb_putZ, ↓wb_putL, ↓wb_putR, ↓wb_iaload, ↓wb_laload, ↓wb_zaload, ↓wb_aaload, ↓wb_iastore, ↓wb_lastore, ↓wb_zastore, ↓wb_aastore, ↓wb_alen, ↓wb_newI, ↓wb_newL, ↓wb_newZ, ↓wb_newA, ↓wb_new, ↓wb_obj, ↓wb_sld, ↓wb_slen, ↓wb_goto, ↓wb_ifeq, ↓wb_iceq, ↓wb_ifne, ↓wb_icne, ↓wb_iflt, ↓wb_iclt, ↓wb_ifge, ↓wb_icge, ↓wb_ifgt, ↓wb_icgt, ↓wb_ifle, ↓wb_icle, ↓wb_ifnull, ↓wb_ifnonnull, ↓wb_ret, ↓wb_iret, ↓wb_lret, ↓wb_aret, ↓wb_zret, ↓wb_tsw0, ↓wb_tsw1, ↓wb_lsw0, ↓wb_lsw1, ↓wb_calls0, ↓wb_calls1, ↓wb_callv1, ↓wb_calls2, ↓wb_callv2, ↓wb_calls3, ↓wb_callv3, ↓wb_callv4, ↓wb_callv5, ↓wb_callv6, oB_some, ldI_z, ldI_s, ldL_z, ldL_s, ldR_z, ldR_s, ls1_z, ls1_1n, ls1_1i, ls1_1r, ls1_1l, ls1_s, ls2_z, ls2_1n, ls2_1i, ls2_1r, ls2_1l, ls2_s, List.length_cons, List.length_nil, Nat.reduceAdd, Nat.reduceLT, Nat.reduceLeDiff, Nat.reduceDiv, Nat.reduceMod, Int.reduceToNat, Int.reduceAdd, Nat.zero_add, true_and, Option.toList_some, Option.toList_none, List.cons_append, List.nil_append, true_or, or_true, and_true, false_or, or_false, Int.reduceEq, Int.reduceLT, Int.reduceLE, Int.reduceNeg, not_true_eq_false, not_false_eq_true, Bool.and_eq_true, Bool.or_eq_true, decide_eq_true_eq, ↓reduceIte, b2i_0, b2i_01, b2i_01c, Nat.add_left_cancel_iff, Nat.add_eq_left, Nat.left_eq_add, Nat.reduceEqDiff, false_and, and_false, Bool.false_eq_true, Bool.true_eq_false, ↓wr_iadd, ↓wr_isub, ↓wr_imul, wr_id, ↓wl_135_62, sm_c s2, sm_r29 s2, sm_a20 s2, sm_r23 s2, sm_a15 s2, sm_r24 s2, sm_a16 s2, sm_r1 s2, sm_a1 s2, sm_r2 s2, sm_a2 s2, sm_r3 s2, sm_a3 s2, b1, b1', Int.toNat_natCast, hz, b2i_f, Int.reduceEq, e15, by1, hy, e16, n1, bn1, hno]
                  exact mark (Or.inr ⟨n0, hno⟩)
                · simp (maxSteps := 2000000) (disch := omega) only [↓wb_const, ↓wb_lconst, ↓wb_null, ↓wb_iload, ↓wb_lload, ↓wb_aload, ↓wb_istore, ↓wb_lstore, ↓wb_astore, ↓wb_iinc, ↓wb_iand, ↓wb_ior, ↓wb_ishr, ↓wb_idiv, ↓wb_irem, ↓wb_ladd, ↓wb_lsub, ↓wb_land, ↓wb_lor, ↓wb_lxor, ↓wb_lneg, ↓wb_lushr, ↓wb_lshl, ↓wb_l2i, ↓wb_lcmp, ↓wb_dupI, ↓wb_dupR, ↓wb_dup2, ↓wb_popI, ↓wb_popR, ↓wb_getI, ↓wb_getL, ↓wb_getR, ↓wb_putI, ↓wb_putZ, ↓wb_putL, ↓wb_putR, ↓wb_iaload, ↓wb_laload, ↓wb_zaload, ↓wb_aaload, ↓wb_iastore, ↓wb_lastore, ↓wb_zastore, ↓wb_aastore, ↓wb_alen, ↓wb_newI, ↓wb_newL, ↓wb_newZ, ↓wb_newA, ↓wb_new, ↓wb_obj, ↓wb_sld, ↓wb_slen, ↓wb_goto, ↓wb_ifeq, ↓wb_iceq, ↓wb_ifne, ↓wb_icne, ↓wb_iflt, ↓wb_iclt, ↓wb_ifge, ↓wb_icge, ↓wb_ifgt, ↓wb_icgt, ↓wb_ifle, ↓wb_icle, ↓wb_ifnull, ↓wb_ifnonnull, ↓wb_ret, ↓wb_iret, ↓wb_lret, ↓wb_aret, ↓wb_zret, ↓wb_tsw0, ↓wb_tsw1, ↓wb_lsw0, ↓wb_lsw1, ↓wb_calls0, ↓wb_calls1, ↓wb_callv1, ↓wb_calls2, ↓wb_callv2, ↓wb_calls3, ↓wb_callv3, ↓wb_callv4, ↓wb_callv5, ↓wb_callv6, oB_some, ldI_z, ldI_s, ldL_z, ldL_s, ldR_z, ldR_s, ls1_z, ls1_1n, ls1_1i, ls1_1r, ls1_1l, ls1_s, ls2_z, ls2_1n, ls2_1i, ls2_1r, ls2_1l, ls2_s, List.length_cons, List.length_nil, Nat.reduceAdd, Nat.reduceLT, Nat.reduceLeDiff, Nat.reduceDiv, Nat.reduceMod, Int.reduceToNat, Int.reduceAdd, Nat.zero_add, true_and, Option.toList_some, Option.toList_none, List.cons_append, List.nil_append, true_or, or_true, and_true, false_or, or_false, Int.reduceEq, Int.reduceLT, Int.reduceLE, Int.reduceNeg, not_true_eq_false, not_false_eq_true, Bool.and_eq_true, Bool.or_eq_true, decide_eq_true_eq, ↓reduceIte, b2i_0, b2i_01, b2i_01c, Nat.add_left_cancel_iff, Nat.add_eq_left, Nat.left_eq_add, Nat.reduceEqDiff, false_and, and_false, Bool.false_eq_true, Bool.true_eq_false, ↓wr_iadd, ↓wr_isub, ↓wr_imul, wr_id, ↓wl_135_62, sm_c s2, sm_r29 s2, sm_a20 s2, sm_r23 s2, sm_a15 s2, sm_r24 s2, sm_a16 s2, sm_r1 s2, sm_a1 s2, sm_r2 s2, sm_a2 s2, sm_r3 s2, sm_a3 s2, b1, b1', Int.toNat_natCast, hz, b2i_f, Int.reduceEq, e15, by1, hy, e16, n1, bn1, hno]
                  refine skip (fun _ _ u hu => ?_) _
                  obtain ⟨e | e, e0⟩ := hu
                  · rw [← e, Int.toNat_natCast] at hy; exact hy
                  · rw [← e, Int.toNat_natCast] at hno; exact hno
              · have n1 : no_ K n p < 0 := by omega
                simp (maxSteps := 2000000) (disch := omega) only [↓wb_const, ↓wb_lconst, ↓wb_null, ↓wb_iload, ↓wb_lload, ↓wb_aload, ↓wb_istore, ↓wb_lstore, ↓wb_astore, ↓wb_iinc, ↓wb_iand, ↓wb_ior, ↓wb_ishr, ↓wb_idiv, ↓wb_irem, ↓wb_ladd, ↓wb_lsub, ↓wb_land, ↓wb_lor, ↓wb_lxor, ↓wb_lneg, ↓wb_lushr, ↓wb_lshl, ↓wb_l2i, ↓wb_lcmp, ↓wb_dupI, ↓wb_dupR, ↓wb_dup2, ↓wb_popI, ↓wb_popR, ↓wb_getI, ↓wb_getL, ↓wb_getR, ↓wb_putI, ↓wb_putZ, ↓wb_putL, ↓wb_putR, ↓wb_iaload, ↓wb_laload, ↓wb_zaload, ↓wb_aaload, ↓wb_iastore, ↓wb_lastore, ↓wb_zastore, ↓wb_aastore, ↓wb_alen, ↓wb_newI, ↓wb_newL, ↓wb_newZ, ↓wb_newA, ↓wb_new, ↓wb_obj, ↓wb_sld, ↓wb_slen, ↓wb_goto, ↓wb_ifeq, ↓wb_iceq, ↓wb_ifne, ↓wb_icne, ↓wb_iflt, ↓wb_iclt, ↓wb_ifge, ↓wb_icge, ↓wb_ifgt, ↓wb_icgt, ↓wb_ifle, ↓wb_icle, ↓wb_ifnull, ↓wb_ifnonnull, ↓wb_ret, ↓wb_iret, ↓wb_lret, ↓wb_aret, ↓wb_zret, ↓wb_tsw0, ↓wb_tsw1, ↓wb_lsw0, ↓wb_lsw1, ↓wb_calls0, ↓wb_calls1, ↓wb_callv1, ↓wb_calls2, ↓wb_callv2, ↓wb_calls3, ↓wb_callv3, ↓wb_callv4, ↓wb_callv5, ↓wb_callv6, oB_some, ldI_z, ldI_s, ldL_z, ldL_s, ldR_z, ldR_s, ls1_z, ls1_1n, ls1_1i, ls1_1r, ls1_1l, ls1_s, ls2_z, ls2_1n, ls2_1i, ls2_1r, ls2_1l, ls2_s, List.length_cons, List.length_nil, Nat.reduceAdd, Nat.reduceLT, Nat.reduceLeDiff, Nat.reduceDiv, Nat.reduceMod, Int.reduceToNat, Int.reduceAdd, Nat.zero_add, true_and, Option.toList_some, Option.toList_none, List.cons_append, List.nil_append, true_or, or_true, and_true, false_or, or_false, Int.reduceEq, Int.reduceLT, Int.reduceLE, Int.reduceNeg, not_true_eq_false, not_false_eq_true, Bool.and_eq_true, Bool.or_eq_true, decide_eq_true_eq, ↓reduceIte, b2i_0, b2i_01, b2i_01c, Nat.add_left_cancel_iff, Nat.add_eq_left, Nat.left_eq_add, Nat.reduceEqDiff, false_and, and_false, Bool.false_eq_true, Bool.true_eq_false, ↓wr_iadd, ↓wr_isub, ↓wr_imul, wr_id, ↓wl_135_62, sm_c s2, sm_r29 s2, sm_a20 s2, sm_r23 s2, sm_a15 s2, sm_r24 s2, sm_a16 s2, sm_r1 s2, sm_a1 s2, sm_r2 s2, sm_a2 s2, sm_r3 s2, sm_a3 s2, b1, b1', Int.toNat_natCast, hz, b2i_f, Int.reduceEq, e15, by1, hy, e16, n1]
                refine skip (fun _ _ u hu => ?_) _
                obtain ⟨e | e, e0⟩ := hu
                · rw [← e, Int.toNat_natCast] at hy; exact hy
                · omega
      have t0 := tail false
      have t1 := tail true
      simp only [b2i_t, b2i_f] at t0 t1
      by_cases m0 : 0 ≤ nm
      · have m1 : ¬ nm < 0 := by omega
        by_cases k0 : K p = 0
        · by_cases kx : X p = nm
          · simp (maxSteps := 2000000) (disch := omega) only [↓wb_const, ↓wb_lconst, ↓wb_null, ↓wb_iload, ↓wb_lload, ↓wb_aload, ↓wb_istore, ↓wb_lstore, ↓wb_astore, ↓wb_iinc, ↓wb_iand, ↓wb_ior, ↓wb_ishr, ↓wb_idiv, ↓wb_irem, ↓wb_ladd, ↓wb_lsub, ↓wb_land, ↓wb_lor, ↓wb_lxor, ↓wb_lneg, ↓wb_lushr, ↓wb_lshl, ↓wb_l2i, ↓wb_lcmp, ↓wb_dupI, ↓wb_dupR, ↓wb_dup2, ↓wb_popI, ↓wb_popR, ↓wb_getI, ↓wb_getL, ↓wb_getR, ↓wb_putI, ↓wb_putZ, ↓wb_putL, ↓wb_putR, ↓wb_iaload, ↓wb_laload, ↓wb_zaload, ↓wb_aaload, ↓wb_iastore, ↓wb_lastore, ↓wb_zastore, ↓wb_aastore, ↓wb_alen, ↓wb_newI, ↓wb_newL, ↓wb_newZ, ↓wb_newA, ↓wb_new, ↓wb_obj, ↓wb_sld, ↓wb_slen, ↓wb_goto, ↓wb_ifeq, ↓wb_iceq, ↓wb_ifne, ↓wb_icne, ↓wb_iflt, ↓wb_iclt, ↓wb_ifge, ↓wb_icge, ↓wb_ifgt, ↓wb_icgt, ↓wb_ifle, ↓wb_icle, ↓wb_ifnull, ↓wb_ifnonnull, ↓wb_ret, ↓wb_iret, ↓wb_lret, ↓wb_aret, ↓wb_zret, ↓wb_tsw0, ↓wb_tsw1, ↓wb_lsw0, ↓wb_lsw1, ↓wb_calls0, ↓wb_calls1, ↓wb_callv1, ↓wb_calls2, ↓wb_callv2, ↓wb_calls3, ↓wb_callv3, ↓wb_callv4, ↓wb_callv5, ↓wb_callv6, oB_some, ldI_z, ldI_s, ldL_z, ldL_s, ldR_z, ldR_s, ls1_z, ls1_1n, ls1_1i, ls1_1r, ls1_1l, ls1_s, ls2_z, ls2_1n, ls2_1i, ls2_1r, ls2_1l, ls2_s, List.length_cons, List.length_nil, Nat.reduceAdd, Nat.reduceLT, Nat.reduceLeDiff, Nat.reduceDiv, Nat.reduceMod, Int.reduceToNat, Int.reduceAdd, Nat.zero_add, true_and, Option.toList_some, Option.toList_none, List.cons_append, List.nil_append, true_or, or_true, and_true, false_or, or_false, Int.reduceEq, Int.reduceLT, Int.reduceLE, Int.reduceNeg, not_true_eq_false, not_false_eq_true, Bool.and_eq_true, Bool.or_eq_true, decide_eq_true_eq, ↓reduceIte, b2i_0, b2i_01, b2i_01c, Nat.add_left_cancel_iff, Nat.add_eq_left, Nat.left_eq_add, Nat.reduceEqDiff, false_and, and_false, Bool.false_eq_true, Bool.true_eq_false, ↓wr_iadd, ↓wr_isub, ↓wr_imul, wr_id, sm_c s2, sm_r29 s2, sm_a20 s2, sm_r23 s2, sm_a15 s2, sm_r24 s2, sm_a16 s2, sm_r1 s2, sm_a1 s2, sm_r2 s2, sm_a2 s2, sm_r3 s2, sm_a3 s2, bg, hn2, c1, m1, b2, eK, eX, k0, kx]
            exact t1 ⟨fun _ => (hBd p).mpr ⟨m0, k0, kx⟩, fun _ => trivial⟩
          · simp (maxSteps := 2000000) (disch := omega) only [↓wb_const, ↓wb_lconst, ↓wb_null, ↓wb_iload, ↓wb_lload, ↓wb_aload, ↓wb_istore, ↓wb_lstore, ↓wb_astore, ↓wb_iinc, ↓wb_iand, ↓wb_ior, ↓wb_ishr, ↓wb_idiv, ↓wb_irem, ↓wb_ladd, ↓wb_lsub, ↓wb_land, ↓wb_lor, ↓wb_lxor, ↓wb_lneg, ↓wb_lushr, ↓wb_lshl, ↓wb_l2i, ↓wb_lcmp, ↓wb_dupI, ↓wb_dupR, ↓wb_dup2, ↓wb_popI, ↓wb_popR, ↓wb_getI, ↓wb_getL, ↓wb_getR, ↓wb_putI, ↓wb_putZ, ↓wb_putL, ↓wb_putR, ↓wb_iaload, ↓wb_laload, ↓wb_zaload, ↓wb_aaload, ↓wb_iastore, ↓wb_lastore, ↓wb_zastore, ↓wb_aastore, ↓wb_alen, ↓wb_newI, ↓wb_newL, ↓wb_newZ, ↓wb_newA, ↓wb_new, ↓wb_obj, ↓wb_sld, ↓wb_slen, ↓wb_goto, ↓wb_ifeq, ↓wb_iceq, ↓wb_ifne, ↓wb_icne, ↓wb_iflt, ↓wb_iclt, ↓wb_ifge, ↓wb_icge, ↓wb_ifgt, ↓wb_icgt, ↓wb_ifle, ↓wb_icle, ↓wb_ifnull, ↓wb_ifnonnull, ↓wb_ret, ↓wb_iret, ↓wb_lret, ↓wb_aret, ↓wb_zret, ↓wb_tsw0, ↓wb_tsw1, ↓wb_lsw0, ↓wb_lsw1, ↓wb_calls0, ↓wb_calls1, ↓wb_callv1, ↓wb_calls2, ↓wb_callv2, ↓wb_calls3, ↓wb_callv3, ↓wb_callv4, ↓wb_callv5, ↓wb_callv6, oB_some, ldI_z, ldI_s, ldL_z, ldL_s, ldR_z, ldR_s, ls1_z, ls1_1n, ls1_1i, ls1_1r, ls1_1l, ls1_s, ls2_z, ls2_1n, ls2_1i, ls2_1r, ls2_1l, ls2_s, List.length_cons, List.length_nil, Nat.reduceAdd, Nat.reduceLT, Nat.reduceLeDiff, Nat.reduceDiv, Nat.reduceMod, Int.reduceToNat, Int.reduceAdd, Nat.zero_add, true_and, Option.toList_some, Option.toList_none, List.cons_append, List.nil_append, true_or, or_true, and_true, false_or, or_false, Int.reduceEq, Int.reduceLT, Int.reduceLE, Int.reduceNeg, not_true_eq_false, not_false_eq_true, Bool.and_eq_true, Bool.or_eq_true, decide_eq_true_eq, ↓reduceIte, b2i_0, b2i_01, b2i_01c, Nat.add_left_cancel_iff, Nat.add_eq_left, Nat.left_eq_add, Nat.reduceEqDiff, false_and, and_false, Bool.false_eq_true, Bool.true_eq_false, ↓wr_iadd, ↓wr_isub, ↓wr_imul, wr_id, ↓wl_135_61, sm_c s2, sm_r29 s2, sm_a20 s2, sm_r23 s2, sm_a15 s2, sm_r24 s2, sm_a16 s2, sm_r1 s2, sm_a1 s2, sm_r2 s2, sm_a2 s2, sm_r3 s2, sm_a3 s2, bg, hn2, c1, m1, b2, eK, eX, k0, kx]
            exact t0 ⟨fun z => by (cases z), fun z => absurd ((hBd p).mp z).2.2 kx⟩
        · simp (maxSteps := 2000000) (disch := omega) only [↓wb_const, ↓wb_lconst, ↓wb_null, ↓wb_iload, ↓wb_lload, ↓wb_aload, ↓wb_istore, ↓wb_lstore, ↓wb_astore, ↓wb_iinc, ↓wb_iand, ↓wb_ior, ↓wb_ishr, ↓wb_idiv, ↓wb_irem, ↓wb_ladd, ↓wb_lsub, ↓wb_land, ↓wb_lor, ↓wb_lxor, ↓wb_lneg, ↓wb_lushr, ↓wb_lshl, ↓wb_l2i, ↓wb_lcmp, ↓wb_dupI, ↓wb_dupR, ↓wb_dup2, ↓wb_popI, ↓wb_popR, ↓wb_getI, ↓wb_getL, ↓wb_getR, ↓wb_putI, ↓wb_putZ, ↓wb_putL, ↓wb_putR, ↓wb_iaload, ↓wb_laload, ↓wb_zaload, ↓wb_aaload, ↓wb_iastore, ↓wb_lastore, ↓wb_zastore, ↓wb_aastore, ↓wb_alen, ↓wb_newI, ↓wb_newL, ↓wb_newZ, ↓wb_newA, ↓wb_new, ↓wb_obj, ↓wb_sld, ↓wb_slen, ↓wb_goto, ↓wb_ifeq, ↓wb_iceq, ↓wb_ifne, ↓wb_icne, ↓wb_iflt, ↓wb_iclt, ↓wb_ifge, ↓wb_icge, ↓wb_ifgt, ↓wb_icgt, ↓wb_ifle, ↓wb_icle, ↓wb_ifnull, ↓wb_ifnonnull, ↓wb_ret, ↓wb_iret, ↓wb_lret, ↓wb_aret, ↓wb_zret, ↓wb_tsw0, ↓wb_tsw1, ↓wb_lsw0, ↓wb_lsw1, ↓wb_calls0, ↓wb_calls1, ↓wb_callv1, ↓wb_calls2, ↓wb_callv2, ↓wb_calls3, ↓wb_callv3, ↓wb_callv4, ↓wb_callv5, ↓wb_callv6, oB_some, ldI_z, ldI_s, ldL_z, ldL_s, ldR_z, ldR_s, ls1_z, ls1_1n, ls1_1i, ls1_1r, ls1_1l, ls1_s, ls2_z, ls2_1n, ls2_1i, ls2_1r, ls2_1l, ls2_s, List.length_cons, List.length_nil, Nat.reduceAdd, Nat.reduceLT, Nat.reduceLeDiff, Nat.reduceDiv, Nat.reduceMod, Int.reduceToNat, Int.reduceAdd, Nat.zero_add, true_and, Option.toList_some, Option.toList_none, List.cons_append, List.nil_append, true_or, or_true, and_true, false_or, or_false, Int.reduceEq, Int.reduceLT, Int.reduceLE, Int.reduceNeg, not_true_eq_false, not_false_eq_true, Bool.and_eq_true, Bool.or_eq_true, decide_eq_true_eq, ↓reduceIte, b2i_0, b2i_01, b2i_01c, Nat.add_left_cancel_iff, Nat.add_eq_left, Nat.left_eq_add, Nat.reduceEqDiff, false_and, and_false, Bool.false_eq_true, Bool.true_eq_false, ↓wr_iadd, ↓wr_isub, ↓wr_imul, wr_id, ↓wl_135_61, sm_c s2, sm_r29 s2, sm_a20 s2, sm_r23 s2, sm_a15 s2, sm_r24 s2, sm_a16 s2, sm_r1 s2, sm_a1 s2, sm_r2 s2, sm_a2 s2, sm_r3 s2, sm_a3 s2, bg, hn2, c1, m1, b2, eK, k0]
          exact t0 ⟨fun z => by (cases z), fun z => absurd ((hBd p).mp z).2.1 k0⟩
      · have m1 : nm < 0 := by omega
        simp (maxSteps := 2000000) (disch := omega) only [↓wb_const, ↓wb_lconst, ↓wb_null, ↓wb_iload, ↓wb_lload, ↓wb_aload, ↓wb_istore, ↓wb_lstore, ↓wb_astore, ↓wb_iinc, ↓wb_iand, ↓wb_ior, ↓wb_ishr, ↓wb_idiv, ↓wb_irem, ↓wb_ladd, ↓wb_lsub, ↓wb_land, ↓wb_lor, ↓wb_lxor, ↓wb_lneg, ↓wb_lushr, ↓wb_lshl, ↓wb_l2i, ↓wb_lcmp, ↓wb_dupI, ↓wb_dupR, ↓wb_dup2, ↓wb_popI, ↓wb_popR, ↓wb_getI, ↓wb_getL, ↓wb_getR, ↓wb_putI, ↓wb_putZ, ↓wb_putL, ↓wb_putR, ↓wb_iaload, ↓wb_laload, ↓wb_zaload, ↓wb_aaload, ↓wb_iastore, ↓wb_lastore, ↓wb_zastore, ↓wb_aastore, ↓wb_alen, ↓wb_newI, ↓wb_newL, ↓wb_newZ, ↓wb_newA, ↓wb_new, ↓wb_obj, ↓wb_sld, ↓wb_slen, ↓wb_goto, ↓wb_ifeq, ↓wb_iceq, ↓wb_ifne, ↓wb_icne, ↓wb_iflt, ↓wb_iclt, ↓wb_ifge, ↓wb_icge, ↓wb_ifgt, ↓wb_icgt, ↓wb_ifle, ↓wb_icle, ↓wb_ifnull, ↓wb_ifnonnull, ↓wb_ret, ↓wb_iret, ↓wb_lret, ↓wb_aret, ↓wb_zret, ↓wb_tsw0, ↓wb_tsw1, ↓wb_lsw0, ↓wb_lsw1, ↓wb_calls0, ↓wb_calls1, ↓wb_callv1, ↓wb_calls2, ↓wb_callv2, ↓wb_calls3, ↓wb_callv3, ↓wb_callv4, ↓wb_callv5, ↓wb_callv6, oB_some, ldI_z, ldI_s, ldL_z, ldL_s, ldR_z, ldR_s, ls1_z, ls1_1n, ls1_1i, ls1_1r, ls1_1l, ls1_s, ls2_z, ls2_1n, ls2_1i, ls2_1r, ls2_1l, ls2_s, List.length_cons, List.length_nil, Nat.reduceAdd, Nat.reduceLT, Nat.reduceLeDiff, Nat.reduceDiv, Nat.reduceMod, Int.reduceToNat, Int.reduceAdd, Nat.zero_add, true_and, Option.toList_some, Option.toList_none, List.cons_append, List.nil_append, true_or, or_true, and_true, false_or, or_false, Int.reduceEq, Int.reduceLT, Int.reduceLE, Int.reduceNeg, not_true_eq_false, not_false_eq_true, Bool.and_eq_true, Bool.or_eq_true, decide_eq_true_eq, ↓reduceIte, b2i_0, b2i_01, b2i_01c, Nat.add_left_cancel_iff, Nat.add_eq_left, Nat.left_eq_add, Nat.reduceEqDiff, false_and, and_false, Bool.false_eq_true, Bool.true_eq_false, ↓wr_iadd, ↓wr_isub, ↓wr_imul, wr_id, ↓wl_135_61, sm_c s2, sm_r29 s2, sm_a20 s2, sm_r23 s2, sm_a15 s2, sm_r24 s2, sm_a16 s2, sm_r1 s2, sm_a1 s2, sm_r2 s2, sm_a2 s2, sm_r3 s2, sm_a3 s2, bg, hn2, c1, m1]
        exact t0 ⟨fun z => by (cases z), fun z => absurd ((hBd p).mp z).1 m0⟩
  have outer : ∀ (f : Nat) (h2 : Hp) (x5 x6 : Option AV), ctN (fun i => decide (hI h2 (o + 20) i = 0)) 61 = f → FR (o + 20) (o + 20) h h2 → (∀ v, hI h2 (o + 20) v = 0 ∨ hI h2 (o + 20) v = 1) → (∀ v : Nat, v ≤ 60 → hI h2 (o + 20) v = 1 → Rch (yes_ K X n) (no_ K n) B t v) → (∀ u : Nat, wy (yes_ K X n) (no_ K n) t u → hI h2 (o + 20) u = 1) → WB sc 135 (BL 135 26) [some (aR o), some (aI g), some (aI t), some (aI nm), some (aI 1), x5, x6] [] h2 Q := by
    intro f
    induction f using Nat.strongRecOn with
    | ind f ih =>
      intro h2 x5 x6 hf fr h01 hso hin2
      rw [bl_135_26]
      simp (maxSteps := 2000000) (disch := omega) only [↓wb_const, ↓wb_lconst, ↓wb_null, ↓wb_iload, ↓wb_lload, ↓wb_aload, ↓wb_istore, ↓wb_lstore, ↓wb_astore, ↓wb_iinc, ↓wb_iand, ↓wb_ior, ↓wb_ishr, ↓wb_idiv, ↓wb_irem, ↓wb_ladd, ↓wb_lsub, ↓wb_land, ↓wb_lor, ↓wb_lxor, ↓wb_lneg, ↓wb_lushr, ↓wb_lshl, ↓wb_l2i, ↓wb_lcmp, ↓wb_dupI, ↓wb_dupR, ↓wb_dup2, ↓wb_popI, ↓wb_popR, ↓wb_getI, ↓wb_getL, ↓wb_getR, ↓wb_putI, ↓wb_putZ, ↓wb_putL, ↓wb_putR, ↓wb_iaload, ↓wb_laload, ↓wb_zaload, ↓wb_aaload, ↓wb_iastore, ↓wb_lastore, ↓wb_zastore, ↓wb_aastore, ↓wb_alen, ↓wb_newI, ↓wb_newL, ↓wb_newZ, ↓wb_newA, ↓wb_new, ↓wb_obj, ↓wb_sld, ↓wb_slen, ↓wb_goto, ↓wb_ifeq, ↓wb_iceq, ↓wb_ifne, ↓wb_icne, ↓wb_iflt, ↓wb_iclt, ↓wb_ifge, ↓wb_icge, ↓wb_ifgt, ↓wb_icgt, ↓wb_ifle, ↓wb_icle, ↓wb_ifnull, ↓wb_ifnonnull, ↓wb_ret, ↓wb_iret, ↓wb_lret, ↓wb_aret, ↓wb_zret, ↓wb_tsw0, ↓wb_tsw1, ↓wb_lsw0, ↓wb_lsw1, ↓wb_calls0, ↓wb_calls1, ↓wb_callv1, ↓wb_calls2, ↓wb_callv2, ↓wb_calls3, ↓wb_callv3, ↓wb_callv4, ↓wb_callv5, ↓wb_callv6, oB_some, ldI_z, ldI_s, ldL_z, ldL_s, ldR_z, ldR_s, ls1_z, ls1_1n, ls1_1i, ls1_1r, ls1_1l, ls1_s, ls2_z, ls2_1n, ls2_1i, ls2_1r, ls2_1l, ls2_s, List.length_cons, List.length_nil, Nat.reduceAdd, Nat.reduceLT, Nat.reduceLeDiff, Nat.reduceDiv, Nat.reduceMod, Int.reduceToNat, Int.reduceAdd, Nat.zero_add, true_and, Option.toList_some, Option.toList_none, List.cons_append, List.nil_append, true_or, or_true, and_true, false_or, or_false, Int.reduceEq, Int.reduceLT, Int.reduceLE, Int.reduceNeg, not_true_eq_false, not_false_eq_true, Bool.and_eq_true, Bool.or_eq_true, decide_eq_true_eq, ↓reduceIte, b2i_0, b2i_01, b2i_01c, Nat.add_left_cancel_iff, Nat.add_eq_left, Nat.left_eq_add, Nat.reduceEqDiff, false_and, and_false, Bool.false_eq_true, Bool.true_eq_false, ↓wr_iadd, ↓wr_isub, ↓wr_imul, wr_id]
      have i0 := inner n 0 h2 (hI h2 (o + 20)) false x6 (by omega) (by omega) fr h01 (fun v z => z) hso (fun _ => ⟨rfl, fun q hq => by omega⟩) (fun z => by cases z)
      simp only [b2i_f] at i0
      refine i0 ?_
      intro h3 m x6 fr3 h013 hmn3 hso3 hm1 hm2
      cases m with
      | true =>
        have hlt := hm2 rfl
        simp (maxSteps := 2000000) (disch := omega) only [↓wb_const, ↓wb_lconst, ↓wb_null, ↓wb_iload, ↓wb_lload, ↓wb_aload, ↓wb_istore, ↓wb_lstore, ↓wb_astore, ↓wb_iinc, ↓wb_iand, ↓wb_ior, ↓wb_ishr, ↓wb_idiv, ↓wb_irem, ↓wb_ladd, ↓wb_lsub, ↓wb_land, ↓wb_lor, ↓wb_lxor, ↓wb_lneg, ↓wb_lushr, ↓wb_lshl, ↓wb_l2i, ↓wb_lcmp, ↓wb_dupI, ↓wb_dupR, ↓wb_dup2, ↓wb_popI, ↓wb_popR, ↓wb_getI, ↓wb_getL, ↓wb_getR, ↓wb_putI, ↓wb_putZ, ↓wb_putL, ↓wb_putR, ↓wb_iaload, ↓wb_laload, ↓wb_zaload, ↓wb_aaload, ↓wb_iastore, ↓wb_lastore, ↓wb_zastore, ↓wb_aastore, ↓wb_alen, ↓wb_newI, ↓wb_newL, ↓wb_newZ, ↓wb_newA, ↓wb_new, ↓wb_obj, ↓wb_sld, ↓wb_slen, ↓wb_goto, ↓wb_ifeq, ↓wb_iceq, ↓wb_ifne, ↓wb_icne, ↓wb_iflt, ↓wb_iclt, ↓wb_ifge, ↓wb_icge, ↓wb_ifgt, ↓wb_icgt, ↓wb_ifle, ↓wb_icle, ↓wb_ifnull, ↓wb_ifnonnull, ↓wb_ret, ↓wb_iret, ↓wb_lret, ↓wb_aret, ↓wb_zret, ↓wb_tsw0, ↓wb_tsw1, ↓wb_lsw0, ↓wb_lsw1, ↓wb_calls0, ↓wb_calls1, ↓wb_callv1, ↓wb_calls2, ↓wb_callv2, ↓wb_calls3, ↓wb_callv3, ↓wb_callv4, ↓wb_callv5, ↓wb_callv6, oB_some, ldI_z, ldI_s, ldL_z, ldL_s, ldR_z, ldR_s, ls1_z, ls1_1n, ls1_1i, ls1_1r, ls1_1l, ls1_s, ls2_z, ls2_1n, ls2_1i, ls2_1r, ls2_1l, ls2_s, List.length_cons, List.length_nil, Nat.reduceAdd, Nat.reduceLT, Nat.reduceLeDiff, Nat.reduceDiv, Nat.reduceMod, Int.reduceToNat, Int.reduceAdd, Nat.zero_add, true_and, Option.toList_some, Option.toList_none, List.cons_append, List.nil_append, true_or, or_true, and_true, false_or, or_false, Int.reduceEq, Int.reduceLT, Int.reduceLE, Int.reduceNeg, not_true_eq_false, not_false_eq_true, Bool.and_eq_true, Bool.or_eq_true, decide_eq_true_eq, ↓reduceIte, b2i_0, b2i_01, b2i_01c, Nat.add_left_cancel_iff, Nat.add_eq_left, Nat.left_eq_add, Nat.reduceEqDiff, false_and, and_false, Bool.false_eq_true, Bool.true_eq_false, ↓wr_iadd, ↓wr_isub, ↓wr_imul, wr_id, ↓wl_135_107, b2i_t]
        exact ih _ (by omega) h3 _ x6 rfl fr3 h013 hso3 (fun u hu => hmn3 u (hin2 u hu))
      | false =>
        obtain ⟨e, hcl⟩ := hm1 rfl
        simp (maxSteps := 2000000) (disch := omega) only [↓wb_const, ↓wb_lconst, ↓wb_null, ↓wb_iload, ↓wb_lload, ↓wb_aload, ↓wb_istore, ↓wb_lstore, ↓wb_astore, ↓wb_iinc, ↓wb_iand, ↓wb_ior, ↓wb_ishr, ↓wb_idiv, ↓wb_irem, ↓wb_ladd, ↓wb_lsub, ↓wb_land, ↓wb_lor, ↓wb_lxor, ↓wb_lneg, ↓wb_lushr, ↓wb_lshl, ↓wb_l2i, ↓wb_lcmp, ↓wb_dupI, ↓wb_dupR, ↓wb_dup2, ↓wb_popI, ↓wb_popR, ↓wb_getI, ↓wb_getL, ↓wb_getR, ↓wb_putI, ↓wb_putZ, ↓wb_putL, ↓wb_putR, ↓wb_iaload, ↓wb_laload, ↓wb_zaload, ↓wb_aaload, ↓wb_iastore, ↓wb_lastore, ↓wb_zastore, ↓wb_aastore, ↓wb_alen, ↓wb_newI, ↓wb_newL, ↓wb_newZ, ↓wb_newA, ↓wb_new, ↓wb_obj, ↓wb_sld, ↓wb_slen, ↓wb_goto, ↓wb_ifeq, ↓wb_iceq, ↓wb_ifne, ↓wb_icne, ↓wb_iflt, ↓wb_iclt, ↓wb_ifge, ↓wb_icge, ↓wb_ifgt, ↓wb_icgt, ↓wb_ifle, ↓wb_icle, ↓wb_ifnull, ↓wb_ifnonnull, ↓wb_ret, ↓wb_iret, ↓wb_lret, ↓wb_aret, ↓wb_zret, ↓wb_tsw0, ↓wb_tsw1, ↓wb_lsw0, ↓wb_lsw1, ↓wb_calls0, ↓wb_calls1, ↓wb_callv1, ↓wb_calls2, ↓wb_callv2, ↓wb_calls3, ↓wb_callv3, ↓wb_callv4, ↓wb_callv5, ↓wb_callv6, oB_some, ldI_z, ldI_s, ldL_z, ldL_s, ldR_z, ldR_s, ls1_z, ls1_1n, ls1_1i, ls1_1r, ls1_1l, ls1_s, ls2_z, ls2_1n, ls2_1i, ls2_1r, ls2_1l, ls2_s, List.length_cons, List.length_nil, Nat.reduceAdd, Nat.reduceLT, Nat.reduceLeDiff, Nat.reduceDiv, Nat.reduceMod, Int.reduceToNat, Int.reduceAdd, Nat.zero_add, true_and, Option.toList_some, Option.toList_none, List.cons_append, List.nil_append, true_or, or_true, and_true, false_or, or_false, Int.reduceEq, Int.reduceLT, Int.reduceLE, Int.reduceNeg, not_true_eq_false, not_false_eq_true, Bool.and_eq_true, Bool.or_eq_true, decide_eq_true_eq, ↓reduceIte, b2i_0, b2i_01, b2i_01c, Nat.add_left_cancel_iff, Nat.add_eq_left, Nat.left_eq_add, Nat.reduceEqDiff, false_and, and_false, Bool.false_eq_true, Bool.true_eq_false, ↓wr_iadd, ↓wr_isub, ↓wr_imul, wr_id, ↓wl_135_107, b2i_f]
        rw [bl_135_26]
        simp (maxSteps := 2000000) (disch := omega) only [↓wb_const, ↓wb_lconst, ↓wb_null, ↓wb_iload, ↓wb_lload, ↓wb_aload, ↓wb_istore, ↓wb_lstore, ↓wb_astore, ↓wb_iinc, ↓wb_iand, ↓wb_ior, ↓wb_ishr, ↓wb_idiv, ↓wb_irem, ↓wb_ladd, ↓wb_lsub, ↓wb_land, ↓wb_lor, ↓wb_lxor, ↓wb_lneg, ↓wb_lushr, ↓wb_lshl, ↓wb_l2i, ↓wb_lcmp, ↓wb_dupI, ↓wb_dupR, ↓wb_dup2, ↓wb_popI, ↓wb_popR, ↓wb_getI, ↓wb_getL, ↓wb_getR, ↓wb_putI, ↓wb_putZ, ↓wb_putL, ↓wb_putR, ↓wb_iaload, ↓wb_laload, ↓wb_zaload, ↓wb_aaload, ↓wb_iastore, ↓wb_lastore, ↓wb_zastore, ↓wb_aastore, ↓wb_alen, ↓wb_newI, ↓wb_newL, ↓wb_newZ, ↓wb_newA, ↓wb_new, ↓wb_obj, ↓wb_sld, ↓wb_slen, ↓wb_goto, ↓wb_ifeq, ↓wb_iceq, ↓wb_ifne, ↓wb_icne, ↓wb_iflt, ↓wb_iclt, ↓wb_ifge, ↓wb_icge, ↓wb_ifgt, ↓wb_icgt, ↓wb_ifle, ↓wb_icle, ↓wb_ifnull, ↓wb_ifnonnull, ↓wb_ret, ↓wb_iret, ↓wb_lret, ↓wb_aret, ↓wb_zret, ↓wb_tsw0, ↓wb_tsw1, ↓wb_lsw0, ↓wb_lsw1, ↓wb_calls0, ↓wb_calls1, ↓wb_callv1, ↓wb_calls2, ↓wb_callv2, ↓wb_calls3, ↓wb_callv3, ↓wb_callv4, ↓wb_callv5, ↓wb_callv6, oB_some, ldI_z, ldI_s, ldL_z, ldL_s, ldR_z, ldR_s, ls1_z, ls1_1n, ls1_1i, ls1_1r, ls1_1l, ls1_s, ls2_z, ls2_1n, ls2_1i, ls2_1r, ls2_1l, ls2_s, List.length_cons, List.length_nil, Nat.reduceAdd, Nat.reduceLT, Nat.reduceLeDiff, Nat.reduceDiv, Nat.reduceMod, Int.reduceToNat, Int.reduceAdd, Nat.zero_add, true_and, Option.toList_some, Option.toList_none, List.cons_append, List.nil_append, true_or, or_true, and_true, false_or, or_false, Int.reduceEq, Int.reduceLT, Int.reduceLE, Int.reduceNeg, not_true_eq_false, not_false_eq_true, Bool.and_eq_true, Bool.or_eq_true, decide_eq_true_eq, ↓reduceIte, b2i_0, b2i_01, b2i_01c, Nat.add_left_cancel_iff, Nat.add_eq_left, Nat.left_eq_add, Nat.reduceEqDiff, false_and, and_false, Bool.false_eq_true, Bool.true_eq_false, ↓wr_iadd, ↓wr_isub, ↓wr_imul, wr_id, ↓wl_135_108]
        refine hQ h3 fr3 (fun v hv => ?_) h013
        rcases h013 v with z | z
        · rw [z]
          refine (pI_f fun hr => ?_).symm
          have key := hr (fun w => 0 ≤ w ∧ hI h3 (o + 20) w.toNat = 1) (fun u hu => by
            obtain ⟨u2, rfl⟩ : ∃ u2 : Nat, u = u2 := ⟨u.toNat, by have := hu.2; omega⟩
            exact ⟨by omega, by rw [Int.toNat_natCast]; exact hmn3 u2 (hin2 u2 hu)⟩) (fun q u hq hu => by
            obtain ⟨u2, rfl⟩ : ∃ u2 : Nat, u = u2 := ⟨u.toNat, by have := hu.2.2; omega⟩
            refine ⟨by omega, ?_⟩
            rw [Int.toNat_natCast]
            have hqs : stm K n q = true := by
              refine Classical.byContradiction fun zz => ?_
              have := way_n (X := X) zz
              obtain ⟨-, a | a, a0⟩ := hu <;> omega
            obtain ⟨q2, rfl⟩ : ∃ q2 : Nat, q = q2 := ⟨q.toNat, by omega⟩
            have hq1 := hq.2
            rw [Int.toNat_natCast] at hq1
            rw [e]
            rw [e] at hq1
            exact hcl q2 (stm_lt hqs) hq1 hu.1 u2 hu.2)
          have k2 := key.2
          rw [Int.toNat_natCast, z] at k2
          omega
        · rw [z]; exact (pI_t (hso3 v hv z)).symm
  have clear : ∀ (f p : Nat) (h2 : Hp), 61 - p = f → p ≤ 61 → FR (o + 20) (o + 20) h h2 → (∀ v, v < p → hI h2 (o + 20) v = 0) → (∀ v, 61 ≤ v → hI h2 (o + 20) v = hI h (o + 20) v) → WB sc 135 (BL 135 2) [some (aR o), some (aI g), some (aI t), some (aI nm), some (aI p), none, none] [] h2 Q := by
    intro f
    induction f with
    | zero =>
      intro p h2 hf hp fr hz hold
      have hp61 : p = 61 := by omega
      subst hp61
      rw [bl_135_2]
      have s2 := FR_sm fr s
      have b1 : (0 ≤ (t : Int) ∧ (t : Int) < 60) = True := by simp; omega
      obtain ⟨r1, r2, -⟩ := rw0 t htn
      have e15 : hI h2 (o + 15) t = yes_ K X n t := by rw [FR_i fr (by omega)]; exact r1
      have lt := b60 t htn
      rw [r1, r2] at lt
      have fr1 := FR_tr fr (rcH_FR (o := o) (h := h2) (v := yes_ K X n t))
      have s3 := FR_sm fr1 s
      have e16b : hI (rcH o h2 (yes_ K X n t)) (o + 16) t = no_ K n t := by rw [FR_i (rcH_FR (o := o)) (by omega), FR_i fr (by omega)]; exact r2
      have pr1 := fun (Q : Option AV → Hp → Prop) => mc_reach (sc := sc) (Q := Q) (p := yes_ K X n t) s2 (by omega)
      have pr2 := fun (Q : Option AV → Hp → Prop) => mc_reach (sc := sc) (Q := Q) (p := no_ K n t) s3 (by omega)
      have q1 : ∀ v, (if 0 ≤ v then setI h2 (o + 20) v.toNat 1 else h2) = rcH o h2 v := fun v => rfl
      have q2 : ∀ v, (if 0 ≤ v then setI (rcH o h2 (yes_ K X n t)) (o + 20) v.toNat 1 else rcH o h2 (yes_ K X n t)) = rcH o (rcH o h2 (yes_ K X n t)) v := fun v => rfl
      simp only [q1] at pr1
      simp only [q2] at pr2
      have c61 : ((60 : Int) < ((61 : Nat) : Int)) = True := by simp
      simp (maxSteps := 2000000) (disch := omega) only [↓wb_const, ↓wb_lconst, ↓wb_null, ↓wb_iload, ↓wb_lload, ↓wb_aload, ↓wb_istore, ↓wb_lstore, ↓wb_astore, ↓wb_iinc, ↓wb_iand, ↓wb_ior, ↓wb_ishr, ↓wb_idiv, ↓wb_irem, ↓wb_ladd, ↓wb_lsub, ↓wb_land, ↓wb_lor, ↓wb_lxor, ↓wb_lneg, ↓wb_lushr, ↓wb_lshl, ↓wb_l2i, ↓wb_lcmp, ↓wb_dupI, ↓wb_dupR, ↓wb_dup2, ↓wb_popI, ↓wb_popR, ↓wb_getI, ↓wb_getL, ↓wb_getR, ↓wb_putI, ↓wb_putZ, ↓wb_putL, ↓wb_putR, ↓wb_iaload, ↓wb_laload, ↓wb_zaload, ↓wb_aaload, ↓wb_iastore, ↓wb_lastore, ↓wb_zastore, ↓wb_aastore, ↓wb_alen, ↓wb_newI, ↓wb_newL, ↓wb_newZ, ↓wb_newA, ↓wb_new, ↓wb_obj, ↓wb_sld, ↓wb_slen, ↓wb_goto, ↓wb_ifeq, ↓wb_iceq, ↓wb_ifne, ↓wb_icne, ↓wb_iflt, ↓wb_iclt, ↓wb_ifge, ↓wb_icge, ↓wb_ifgt, ↓wb_icgt, ↓wb_ifle, ↓wb_icle, ↓wb_ifnull, ↓wb_ifnonnull, ↓wb_ret, ↓wb_iret, ↓wb_lret, ↓wb_aret, ↓wb_zret, ↓wb_tsw0, ↓wb_tsw1, ↓wb_lsw0, ↓wb_lsw1, ↓wb_calls0, ↓wb_calls1, ↓wb_callv1, ↓wb_calls2, ↓wb_callv2, ↓wb_calls3, ↓wb_callv3, ↓wb_callv4, ↓wb_callv5, ↓wb_callv6, oB_some, ldI_z, ldI_s, ldL_z, ldL_s, ldR_z, ldR_s, ls1_z, ls1_1n, ls1_1i, ls1_1r, ls1_1l, ls1_s, ls2_z, ls2_1n, ls2_1i, ls2_1r, ls2_1l, ls2_s, List.length_cons, List.length_nil, Nat.reduceAdd, Nat.reduceLT, Nat.reduceLeDiff, Nat.reduceDiv, Nat.reduceMod, Int.reduceToNat, Int.reduceAdd, Nat.zero_add, true_and, Option.toList_some, Option.toList_none, List.cons_append, List.nil_append, true_or, or_true, and_true, false_or, or_false, Int.reduceEq, Int.reduceLT, Int.reduceLE, Int.reduceNeg, not_true_eq_false, not_false_eq_true, Bool.and_eq_true, Bool.or_eq_true, decide_eq_true_eq, ↓reduceIte, b2i_0, b2i_01, b2i_01c, Nat.add_left_cancel_iff, Nat.add_eq_left, Nat.left_eq_add, Nat.reduceEqDiff, false_and, and_false, Bool.false_eq_true, Bool.true_eq_false, ↓wr_iadd, ↓wr_isub, ↓wr_imul, wr_id, ↓wl_135_12, sm_c s2, sm_r29 s2, sm_a20 s2, sm_r23 s2, sm_a15 s2, sm_r24 s2, sm_a16 s2, sm_r1 s2, sm_a1 s2, sm_r2 s2, sm_a2 s2, sm_r3 s2, sm_a3 s2, c61, b1, Int.toNat_natCast, e15, ↓pr1]
      simp (maxSteps := 2000000) (disch := omega) only [↓wb_const, ↓wb_lconst, ↓wb_null, ↓wb_iload, ↓wb_lload, ↓wb_aload, ↓wb_istore, ↓wb_lstore, ↓wb_astore, ↓wb_iinc, ↓wb_iand, ↓wb_ior, ↓wb_ishr, ↓wb_idiv, ↓wb_irem, ↓wb_ladd, ↓wb_lsub, ↓wb_land, ↓wb_lor, ↓wb_lxor, ↓wb_lneg, ↓wb_lushr, ↓wb_lshl, ↓wb_l2i, ↓wb_lcmp, ↓wb_dupI, ↓wb_dupR, ↓wb_dup2, ↓wb_popI, ↓wb_popR, ↓wb_getI, ↓wb_getL, ↓wb_getR, ↓wb_putI, ↓wb_putZ, ↓wb_putL, ↓wb_putR, ↓wb_iaload, ↓wb_laload, ↓wb_zaload, ↓wb_aaload, ↓wb_iastore, ↓wb_lastore, ↓wb_zastore, ↓wb_aastore, ↓wb_alen, ↓wb_newI, ↓wb_newL, ↓wb_newZ, ↓wb_newA, ↓wb_new, ↓wb_obj, ↓wb_sld, ↓wb_slen, ↓wb_goto, ↓wb_ifeq, ↓wb_iceq, ↓wb_ifne, ↓wb_icne, ↓wb_iflt, ↓wb_iclt, ↓wb_ifge, ↓wb_icge, ↓wb_ifgt, ↓wb_icgt, ↓wb_ifle, ↓wb_icle, ↓wb_ifnull, ↓wb_ifnonnull, ↓wb_ret, ↓wb_iret, ↓wb_lret, ↓wb_aret, ↓wb_zret, ↓wb_tsw0, ↓wb_tsw1, ↓wb_lsw0, ↓wb_lsw1, ↓wb_calls0, ↓wb_calls1, ↓wb_callv1, ↓wb_calls2, ↓wb_callv2, ↓wb_calls3, ↓wb_callv3, ↓wb_callv4, ↓wb_callv5, ↓wb_callv6, oB_some, ldI_z, ldI_s, ldL_z, ldL_s, ldR_z, ldR_s, ls1_z, ls1_1n, ls1_1i, ls1_1r, ls1_1l, ls1_s, ls2_z, ls2_1n, ls2_1i, ls2_1r, ls2_1l, ls2_s, List.length_cons, List.length_nil, Nat.reduceAdd, Nat.reduceLT, Nat.reduceLeDiff, Nat.reduceDiv, Nat.reduceMod, Int.reduceToNat, Int.reduceAdd, Nat.zero_add, true_and, Option.toList_some, Option.toList_none, List.cons_append, List.nil_append, true_or, or_true, and_true, false_or, or_false, Int.reduceEq, Int.reduceLT, Int.reduceLE, Int.reduceNeg, not_true_eq_false, not_false_eq_true, Bool.and_eq_true, Bool.or_eq_true, decide_eq_true_eq, ↓reduceIte, b2i_0, b2i_01, b2i_01c, Nat.add_left_cancel_iff, Nat.add_eq_left, Nat.left_eq_add, Nat.reduceEqDiff, false_and, and_false, Bool.false_eq_true, Bool.true_eq_false, ↓wr_iadd, ↓wr_isub, ↓wr_imul, wr_id, sm_c s3, sm_r29 s3, sm_a20 s3, sm_r23 s3, sm_a15 s3, sm_r24 s3, sm_a16 s3, sm_r1 s3, sm_a1 s3, sm_r2 s3, sm_a2 s3, sm_r3 s3, sm_a3 s3, b1, Int.toNat_natCast, e16b, ↓pr2]
      have rr : ∀ j : Nat, hI (rcH o (rcH o h2 (yes_ K X n t)) (no_ K n t)) (o + 20) j = if no_ K n t = j then 1 else if yes_ K X n t = j then 1 else hI h2 (o + 20) j := fun j => by rw [rcH_r, rcH_r]
      have z01 : ∀ v, hI h2 (o + 20) v = 0 ∨ hI h2 (o + 20) v = 1 := by
        intro v
        by_cases hv : v < 61
        · exact Or.inl (hz v hv)
        · rw [hold v (by omega)]; exact h01o v
      refine outer _ _ none none rfl (FR_tr fr1 rcH_FR) (fun v => ?_) (fun v hv hz2 => ?_) (fun u hu => ?_)
      · rw [rr]
        split
        · exact Or.inr rfl
        · split
          · exact Or.inr rfl
          · exact z01 v
      · rw [rr] at hz2
        by_cases e1 : no_ K n t = v
        · exact LF_0 ⟨Or.inr e1.symm, by omega⟩
        · rw [if_neg e1] at hz2
          by_cases e2 : yes_ K X n t = v
          · exact LF_0 ⟨Or.inl e2.symm, by omega⟩
          · rw [if_neg e2, hz v (by omega)] at hz2; omega
      · rw [rr]
        obtain ⟨e | e, e0⟩ := hu
        · by_cases e1 : no_ K n t = u
          · rw [if_pos e1]
          · rw [if_neg e1, if_pos e.symm]
        · rw [if_pos e.symm]
    | succ f ih =>
      intro p h2 hf hp fr hz hold
      rw [bl_135_2]
      have s2 := FR_sm fr s
      have c1 : ¬ (60 : Int) < p := by omega
      have b1 : (0 ≤ (p : Int) ∧ (p : Int) < 61) = True := by simp; omega
      have ih := ih (p + 1) (setI h2 (o + 20) p 0) (by omega) (by omega) (FR_I fr (by omega) (by omega)) (fun v hv => by
        rw [hI_setI]
        by_cases e : v = p
        · rw [if_pos ⟨rfl, e⟩]
        · rw [if_neg (fun z => e z.2)]; exact hz v (by omega)) (fun v hv => by rw [hI_ne2 (by omega)]; exact hold v hv)
      rw [show ((p + 1 : Nat) : Int) = (p : Int) + 1 by omega] at ih
      simp (maxSteps := 2000000) (disch := omega) only [↓wb_const, ↓wb_lconst, ↓wb_null, ↓wb_iload, ↓wb_lload, ↓wb_aload, ↓wb_istore, ↓wb_lstore, ↓wb_astore, ↓wb_iinc, ↓wb_iand, ↓wb_ior, ↓wb_ishr, ↓wb_idiv, ↓wb_irem, ↓wb_ladd, ↓wb_lsub, ↓wb_land, ↓wb_lor, ↓wb_lxor, ↓wb_lneg, ↓wb_lushr, ↓wb_lshl, ↓wb_l2i, ↓wb_lcmp, ↓wb_dupI, ↓wb_dupR, ↓wb_dup2, ↓wb_popI, ↓wb_popR, ↓wb_getI, ↓wb_getL, ↓wb_getR, ↓wb_putI, ↓wb_putZ, ↓wb_putL, ↓wb_putR, ↓wb_iaload, ↓wb_laload, ↓wb_zaload, ↓wb_aaload, ↓wb_iastore, ↓wb_lastore, ↓wb_zastore, ↓wb_aastore, ↓wb_alen, ↓wb_newI, ↓wb_newL, ↓wb_newZ, ↓wb_newA, ↓wb_new, ↓wb_obj, ↓wb_sld, ↓wb_slen, ↓wb_goto, ↓wb_ifeq, ↓wb_iceq, ↓wb_ifne, ↓wb_icne, ↓wb_iflt, ↓wb_iclt, ↓wb_ifge, ↓wb_icge, ↓wb_ifgt, ↓wb_icgt, ↓wb_ifle, ↓wb_icle, ↓wb_ifnull, ↓wb_ifnonnull, ↓wb_ret, ↓wb_iret, ↓wb_lret, ↓wb_aret, ↓wb_zret, ↓wb_tsw0, ↓wb_tsw1, ↓wb_lsw0, ↓wb_lsw1, ↓wb_calls0, ↓wb_calls1, ↓wb_callv1, ↓wb_calls2, ↓wb_callv2, ↓wb_calls3, ↓wb_callv3, ↓wb_callv4, ↓wb_callv5, ↓wb_callv6, oB_some, ldI_z, ldI_s, ldL_z, ldL_s, ldR_z, ldR_s, ls1_z, ls1_1n, ls1_1i, ls1_1r, ls1_1l, ls1_s, ls2_z, ls2_1n, ls2_1i, ls2_1r, ls2_1l, ls2_s, List.length_cons, List.length_nil, Nat.reduceAdd, Nat.reduceLT, Nat.reduceLeDiff, Nat.reduceDiv, Nat.reduceMod, Int.reduceToNat, Int.reduceAdd, Nat.zero_add, true_and, Option.toList_some, Option.toList_none, List.cons_append, List.nil_append, true_or, or_true, and_true, false_or, or_false, Int.reduceEq, Int.reduceLT, Int.reduceLE, Int.reduceNeg, not_true_eq_false, not_false_eq_true, Bool.and_eq_true, Bool.or_eq_true, decide_eq_true_eq, ↓reduceIte, b2i_0, b2i_01, b2i_01c, Nat.add_left_cancel_iff, Nat.add_eq_left, Nat.left_eq_add, Nat.reduceEqDiff, false_and, and_false, Bool.false_eq_true, Bool.true_eq_false, ↓wr_iadd, ↓wr_isub, ↓wr_imul, wr_id, sm_c s2, sm_r29 s2, sm_a20 s2, sm_r23 s2, sm_a15 s2, sm_r24 s2, sm_a16 s2, sm_r1 s2, sm_a1 s2, sm_r2 s2, sm_a2 s2, sm_r3 s2, sm_a3 s2, c1, b1, Int.toNat_natCast]
      exact ih
  rw [wc_135]
  simp (maxSteps := 2000000) (disch := omega) only [↓wb_const, ↓wb_lconst, ↓wb_null, ↓wb_iload, ↓wb_lload, ↓wb_aload, ↓wb_istore, ↓wb_lstore, ↓wb_astore, ↓wb_iinc, ↓wb_iand, ↓wb_ior, ↓wb_ishr, ↓wb_idiv, ↓wb_irem, ↓wb_ladd, ↓wb_lsub, ↓wb_land, ↓wb_lor, ↓wb_lxor, ↓wb_lneg, ↓wb_lushr, ↓wb_lshl, ↓wb_l2i, ↓wb_lcmp, ↓wb_dupI, ↓wb_dupR, ↓wb_dup2, ↓wb_popI, ↓wb_popR, ↓wb_getI, ↓wb_getL, ↓wb_getR, ↓wb_putI, ↓wb_putZ, ↓wb_putL, ↓wb_putR, ↓wb_iaload, ↓wb_laload, ↓wb_zaload, ↓wb_aaload, ↓wb_iastore, ↓wb_lastore, ↓wb_zastore, ↓wb_aastore, ↓wb_alen, ↓wb_newI, ↓wb_newL, ↓wb_newZ, ↓wb_newA, ↓wb_new, ↓wb_obj, ↓wb_sld, ↓wb_slen, ↓wb_goto, ↓wb_ifeq, ↓wb_iceq, ↓wb_ifne, ↓wb_icne, ↓wb_iflt, ↓wb_iclt, ↓wb_ifge, ↓wb_icge, ↓wb_ifgt, ↓wb_icgt, ↓wb_ifle, ↓wb_icle, ↓wb_ifnull, ↓wb_ifnonnull, ↓wb_ret, ↓wb_iret, ↓wb_lret, ↓wb_aret, ↓wb_zret, ↓wb_tsw0, ↓wb_tsw1, ↓wb_lsw0, ↓wb_lsw1, ↓wb_calls0, ↓wb_calls1, ↓wb_callv1, ↓wb_calls2, ↓wb_callv2, ↓wb_calls3, ↓wb_callv3, ↓wb_callv4, ↓wb_callv5, ↓wb_callv6, oB_some, ldI_z, ldI_s, ldL_z, ldL_s, ldR_z, ldR_s, ls1_z, ls1_1n, ls1_1i, ls1_1r, ls1_1l, ls1_s, ls2_z, ls2_1n, ls2_1i, ls2_1r, ls2_1l, ls2_s, List.length_cons, List.length_nil, Nat.reduceAdd, Nat.reduceLT, Nat.reduceLeDiff, Nat.reduceDiv, Nat.reduceMod, Int.reduceToNat, Int.reduceAdd, Nat.zero_add, true_and, Option.toList_some, Option.toList_none, List.cons_append, List.nil_append, true_or, or_true, and_true, false_or, or_false, Int.reduceEq, Int.reduceLT, Int.reduceLE, Int.reduceNeg, not_true_eq_false, not_false_eq_true, Bool.and_eq_true, Bool.or_eq_true, decide_eq_true_eq, ↓reduceIte, b2i_0, b2i_01, b2i_01c, Nat.add_left_cancel_iff, Nat.add_eq_left, Nat.left_eq_add, Nat.reduceEqDiff, false_and, and_false, Bool.false_eq_true, Bool.true_eq_false, ↓wr_iadd, ↓wr_isub, ↓wr_imul, wr_id, ↓wl_135_0]
  exact clear 61 0 h (by omega) (by omega) FR_rf (fun v hv => by omega) (fun v hv => rfl)
