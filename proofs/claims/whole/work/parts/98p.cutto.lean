/-! ===== the class: append, once more; cutTo ===== -/
theorem stk_ln {K : Int → Int} : ∀ q : Nat, (stk K q).length ≤ q
  | 0 => Nat.le_refl _
  | q + 1 => by
    have ih := stk_ln (K := K) q
    by_cases hb : bgn (K q) = true
    · rw [stk_b hb, List.length_cons]; omega
    · by_cases k6 : K q = 6
      · rw [stk_6 k6, List.length_tail]; omega
      · rw [stk_o hb k6]; omega
theorem hdI_b {l : List Nat} {n : Nat} (h : ∀ b, b ∈ l → b < n) : -1 ≤ hdI l ∧ hdI l < n := by
  cases l with
  | nil => show -1 ≤ (-1 : Int) ∧ (-1 : Int) < n; omega
  | cons a t => have := h a List.mem_cons_self; show -1 ≤ (a : Int) ∧ (a : Int) < n; omega
theorem pc_append2 {sc : Scr} {d m : Nat} {h : Hp} {Q : Option AV → Hp → Prop} {k u v : Int} (pi : PI d h m) (m60 : m < 60) (k0 : 0 ≤ k) (k8 : k ≤ 8) (hr : rtF (cK d h) m k u v = true) (hu : inR u) (hv : inR v) (hQ : ∀ h2, FR d (d + 10) h h2 → PI d h2 (m + 1) → (∀ q, cK d h2 q = if q.toNat = m then k else cK d h q) → (∀ q, cX d h2 q = if q.toNat = m then u else cX d h q) → (∀ q, cE d h2 q = if q.toNat = m then v else cE d h q) → Q none h2) : WC sc 43 [aR d, aI k, aI u, aI v] h Q := by
  have sv := WF_SV (PI_wf pi)
  have hl := stk_ln (K := cK d h) m
  have hb := hdI_b (l := stk (cK d h) m) (n := m) (fun b hb => stk_lt hb)
  have ho : hI h d 13 = hdI (stk (cK d h) m) := pi.2.2.2.2.1
  have hc : hI h d 14 = (stk (cK d h) m).length := pi.2.2.2.2.2.1
  have r46 : k = 4 ∨ k = 6 → 0 ≤ hdI (stk (cK d h) m) := by
    rw [← opn_hd sv]
    rintro (rfl | rfl)
    · exact (rt_4 hr).2.2.1
    · exact (rt_6 hr).2.2
  rw [pc_append pi.1 (PI_n pi) m60 ho hc hb.1 hb.2 (by omega) (by omega) r46]
  refine hQ _ ⟨apF_1, apF_T, apF_R, fun y q => ⟨funext fun j => apF_ne q, by rw [apF_L]⟩⟩ (PI_append pi m60 k0 k8 hr hu hv rfl rfl) (fun q => apF_K) (fun q => apF_X) (fun q => apF_E)
theorem NP_pi {d : Nat} {h0 h : Hp} (np : NP d h0 h) : PI d h 0 ∧ CI d h 0 := by
  obtain ⟨-, sp, a1, a2, a3, a4, a5⟩ := np
  refine ⟨⟨sp, a1, by omega, fun q hq => by omega, a2, a3, fun q hq => by omega⟩, ?_⟩
  refine ⟨by rw [a4]; omega, by rw [a5]; omega, fun z => ?_, fun z => ?_⟩
  · rw [a4] at z; omega
  · rw [a5] at z; omega
/-- cells below d other than x3 are as they were -/
def EC (d x3 : Nat) (h h2 : Hp) : Prop := hN h2 = d + 20 ∧ hS h2 = hS h + 1045 ∧ ∀ y, y < d → hT h2 y = hT h y ∧ hR h2 y = hR h y ∧ hL h2 y = hL h y ∧ (¬ y = x3 → hI h2 y = hI h y)
theorem EC_FR {d x3 lo hi : Nat} {h h1 h2 : Hp} (e : EC d x3 h h1) (fr : FR lo hi h1 h2) (q : d ≤ lo ∨ (lo = x3 ∧ hi = x3 ∧ hL h2 x3 = hL h1 x3)) : EC d x3 h h2 := by
  obtain ⟨e1, e2, e3⟩ := e
  refine ⟨by unfold hN at e1 ⊢; rw [fr.1]; exact e1, by unfold hS at e2 ⊢; rw [fr.1]; exact e2, fun y hy => ?_⟩
  obtain ⟨a1, a2, a3, a4⟩ := e3 y hy
  refine ⟨by rw [fr.2.1]; exact a1, by rw [fr.2.2.1]; exact a2, ?_, fun ny => ?_⟩
  · rcases q with q | ⟨q1, q2, q3⟩
    · rw [(fr.2.2.2 y (by omega)).2]; exact a3
    · by_cases e : y = x3
      · rw [e, q3, ← e]; exact a3
      · rw [(fr.2.2.2 y (by omega)).2]; exact a3
  · rw [(fr.2.2.2 y (by rcases q with q | ⟨q1, q2, -⟩ <;> omega)).1]; exact a4 ny
theorem EC_sp {d x3 c : Nat} {h h2 : Hp} (e : EC d x3 h h2) (hc : c + 19 < d) (s : SP c h) : SP c h2 := by
  have g : ∀ y, y < d → hT h2 y = hT h y ∧ hR h2 y = hR h y := fun y hy => ⟨(e.2.2 y hy).1, (e.2.2 y hy).2.1⟩
  unfold SP
  rw [(g c (by omega)).1, (g (c + 1) (by omega)).1, (g (c + 2) (by omega)).1, (g (c + 3) (by omega)).1, (g (c + 4) (by omega)).1, (g (c + 5) (by omega)).1, (g (c + 6) (by omega)).1, (g (c + 7) (by omega)).1, (g (c + 8) (by omega)).1, (g (c + 9) (by omega)).1, (g (c + 10) (by omega)).1, (g (c + 11) (by omega)).1, (g (c + 12) (by omega)).1, (g (c + 13) (by omega)).1, (g (c + 14) (by omega)).1, (g (c + 15) (by omega)).1, (g (c + 16) (by omega)).1, (g (c + 17) (by omega)).1, (g (c + 18) (by omega)).1, (g (c + 19) (by omega)).1, (g c (by omega)).2, (g (c + 11) (by omega)).2, (g (c + 16) (by omega)).2]
  exact s
theorem EC_K {d x3 c : Nat} {h h2 : Hp} (e : EC d x3 h h2) (hc : c + 19 < d) (hx : x3 < c ∨ c + 19 < x3) : cK c h2 = cK c h ∧ cX c h2 = cX c h ∧ cE c h2 = cE c h := by
  refine ⟨?_, ?_, ?_⟩
  · funext z; show hI h2 (c + 1) _ = hI h (c + 1) _; rw [(e.2.2 (c + 1) (by omega)).2.2.2 (by omega)]
  · funext z; show hI h2 (c + 2) _ = hI h (c + 2) _; rw [(e.2.2 (c + 2) (by omega)).2.2.2 (by omega)]
  · funext z; show hI h2 (c + 3) _ = hI h (c + 3) _; rw [(e.2.2 (c + 3) (by omega)).2.2.2 (by omega)]
theorem EC_pi {d x3 c n : Nat} {h h2 : Hp} (e : EC d x3 h h2) (hc : c + 19 < d) (hx : x3 < c ∨ c + 19 < x3) (p : PI c h n) : PI c h2 n := by
  obtain ⟨e1, e2, e3⟩ := EC_K e hc hx
  have g : ∀ y, c ≤ y → y ≤ c + 19 → hI h2 y = hI h y := fun y a b => (e.2.2 y (by omega)).2.2.2 (by omega)
  unfold PI
  rw [e1, e2, e3, g c (by omega) (by omega), g (c + 4) (by omega) (by omega), g (c + 5) (by omega) (by omega), g (c + 6) (by omega) (by omega), g (c + 7) (by omega) (by omega), g (c + 8) (by omega) (by omega), g (c + 9) (by omega) (by omega), g (c + 10) (by omega) (by omega)]
  exact ⟨EC_sp e hc p.1, p.2⟩
theorem EC_ci {d x3 c n : Nat} {h h2 : Hp} (e : EC d x3 h h2) (hc : c + 19 < d) (hx : x3 < c ∨ c + 19 < x3) (p : CI c h n) : CI c h2 n := by
  obtain ⟨e1, e2, e3⟩ := EC_K e hc hx
  have g : ∀ y, c ≤ y → y ≤ c + 19 → hI h2 y = hI h y ∧ hL h2 y = hL h y := fun y a b => ⟨(e.2.2 y (by omega)).2.2.2 (by omega), (e.2.2 y (by omega)).2.2.1⟩
  unfold CI WO HO WR
  rw [e1, e2, e3, (g (c + 11) (by omega) (by omega)).1, (g (c + 16) (by omega) (by omega)).1, (g (c + 12) (by omega) (by omega)).1, (g (c + 13) (by omega) (by omega)).1, (g (c + 14) (by omega) (by omega)).1, (g (c + 15) (by omega) (by omega)).2, (g (c + 17) (by omega) (by omega)).2, (g (c + 18) (by omega) (by omega)).2]
  exact p
/-- which lines the class keeps -/
def kpC (K : Int → Int) (n : Nat) (w : BitVec 64) (p : Nat) : Bool := if stm K n p = true then w.getLsbD p else w.getLsbD (hdI (stk K p)).toNat
theorem pc_cutTo {sc : Scr} {c n x3 d : Nat} {h : Hp} {Q : Option AV → Hp → Prop} {w : BitVec 64} (pi : PI c h n) (ht3 : hT h x3 = (1, 60)) (hd : hN h = d) (cd : c + 19 < d) (c2 : 2 ≤ c) (x3d : x3 < d) (xc : x3 < c ∨ c + 19 < x3) (cc : CC (cK c h) n (kpC (cK c h) n w)) (hQ : ∀ h2, EC d x3 h h2 → PI d h2 (ck (kpC (cK c h) n w) n) → CI d h2 (ck (kpC (cK c h) n w) n) → (∀ q, q < n → kpC (cK c h) n w q = true → cK d h2 (ck (kpC (cK c h) n w) q) = cK c h q ∧ cX d h2 (ck (kpC (cK c h) n w) q) = cX c h q ∧ cE d h2 (ck (kpC (cK c h) n w) q) = cE c h q) → (∀ q, q < 60 → hI h2 x3 q = if q < n ∧ kpC (cK c h) n w q = true then (ck (kpC (cK c h) n w) q : Int) else -1) → Q (some (aR d)) h2) : WC sc 57 [aR c, aL w, aR x3] h Q := by
  have n60 := pi.2.2.1
  have wf := PI_wf pi
  have sv := WF_SV wf
  generalize hP : kpC (cK c h) n w = P at *
  have fin : ∀ (h2 : Hp) (y : Option AV) (z : Option AV) (p : Int), EC d x3 h h2 → PI d h2 (ck P n) → CI d h2 (ck P n) → (∀ q : Nat, q < n → P q = true → cK d h2 (ck P q) = cK c h q ∧ cX d h2 (ck P q) = cX c h q ∧ cE d h2 (ck P q) = cE c h q) → (∀ q, q < 60 → hI h2 x3 q = if q < n ∧ P q = true then (ck P q : Int) else -1) → WB sc 57 (BL 57 76) [some (aR c), some (aL w), none, some (aR x3), some (aR d), some (aI p), y, z] [] h2 Q := by
    intro h2 y z p b1 b2 b3 b4 b5
    have f := hQ h2 b1 b2 b3 b4 b5
    rw [bl_57_76]
    simp (maxSteps := 2000000) (disch := omega) only [↓wb_const, ↓wb_lconst, ↓wb_null, ↓wb_iload, ↓wb_lload, ↓wb_aload, ↓wb_istore, ↓wb_lstore, ↓wb_astore, ↓wb_iinc, ↓wb_iand, ↓wb_ior, ↓wb_ishr, ↓wb_idiv, ↓wb_irem, ↓wb_ladd, ↓wb_lsub, ↓wb_land, ↓wb_lor, ↓wb_lxor, ↓wb_lneg, ↓wb_lushr, ↓wb_lshl, ↓wb_l2i, ↓wb_lcmp, ↓wb_dupI, ↓wb_dupR, ↓wb_dup2, ↓wb_popI, ↓wb_popR, ↓wb_getI, ↓wb_getL, ↓wb_getR, ↓wb_putI, ↓wb_putZ, ↓wb_putL, ↓wb_putR, ↓wb_iaload, ↓wb_laload, ↓wb_zaload, ↓wb_aaload, ↓wb_iastore, ↓wb_lastore, ↓wb_zastore, ↓wb_aastore, ↓wb_alen, ↓wb_newI, ↓wb_newL, ↓wb_newZ, ↓wb_newA, ↓wb_new, ↓wb_obj, ↓wb_sld, ↓wb_slen, ↓wb_goto, ↓wb_ifeq, ↓wb_iceq, ↓wb_ifne, ↓wb_icne, ↓wb_iflt, ↓wb_iclt, ↓wb_ifge, ↓wb_icge, ↓wb_ifgt, ↓wb_icgt, ↓wb_ifle, ↓wb_icle, ↓wb_ifnull, ↓wb_ifnonnull, ↓wb_ret, ↓wb_iret, ↓wb_lret, ↓wb_aret, ↓wb_zret, ↓wb_tsw0, ↓wb_tsw1, ↓wb_lsw0, ↓wb_lsw1, ↓wb_calls0, ↓wb_calls1, ↓wb_callv1, ↓wb_calls2, ↓wb_callv2, ↓wb_calls3, ↓wb_callv3, ↓wb_callv4, ↓wb_callv5, ↓wb_callv6, oB_some, ldI_z, ldI_s, ldL_z, ldL_s, ldR_z, ldR_s, ls1_z, ls1_1n, ls1_1i, ls1_1r, ls1_1l, ls1_s, ls2_z, ls2_1n, ls2_1i, ls2_1r, ls2_1l, ls2_s, List.length_cons, List.length_nil, Nat.reduceAdd, Nat.reduceLT, Nat.reduceLeDiff, Nat.reduceDiv, Nat.reduceMod, Int.reduceToNat, Int.reduceAdd, Nat.zero_add, true_and, Option.toList_some, Option.toList_none, List.cons_append, List.nil_append, true_or, or_true, and_true, false_or, or_false, Int.reduceEq, Int.reduceLT, Int.reduceLE, Int.reduceNeg, not_true_eq_false, not_false_eq_true, Bool.and_eq_true, Bool.or_eq_true, decide_eq_true_eq, ↓reduceIte, b2i_0, b2i_01, b2i_01c, Nat.add_left_cancel_iff, Nat.add_eq_left, Nat.left_eq_add, Nat.reduceEqDiff, false_and, and_false, Bool.false_eq_true, Bool.true_eq_false, ↓wr_iadd, ↓wr_isub, ↓wr_imul, wr_id]
    have d1 : ¬ d = 1 := by omega
    exact ⟨by simpa using d1, f⟩
  clear hQ
  have loop : ∀ (f p : Nat) (h1 : Hp) (y z : Option AV), n - p = f → p ≤ n → EC d x3 h h1 → PI d h1 (ck P p) → hI h1 (d + 11) 5 = -1 → hI h1 (d + 16) 3 = -1 → (∀ q : Nat, q < p → P q = true → cK d h1 (ck P q) = cK c h q ∧ cX d h1 (ck P q) = cX c h q ∧ cE d h1 (ck P q) = cE c h q) → (∀ q, q < 60 → hI h1 x3 q = if q < p ∧ P q = true then (ck P q : Int) else -1) → WB sc 57 (BL 57 9) [some (aR c), some (aL w), none, some (aR x3), some (aR d), some (aI p), y, z] [] h1 Q := by
    intro f
    induction f with
    | zero =>
      intro p h1 y z hf hp b1 b2 b3 b4 b5 b6
      have : p = n := by omega
      subst this
      have pi1 := EC_pi b1 cd xc pi
      have f1 := fin h1 y z p b1 b2 ⟨by rw [b3]; omega, by rw [b4]; omega, fun z => by rw [b3] at z; omega, fun z => by rw [b4] at z; omega⟩ b5 b6
      have c1 : ((p : Int) ≤ (p : Int)) = True := by simp
      have hn1 := PI_n pi1
      have sp1 := pi1.1
      rw [bl_57_9]
      simp (maxSteps := 2000000) (disch := omega) only [↓wb_const, ↓wb_lconst, ↓wb_null, ↓wb_iload, ↓wb_lload, ↓wb_aload, ↓wb_istore, ↓wb_lstore, ↓wb_astore, ↓wb_iinc, ↓wb_iand, ↓wb_ior, ↓wb_ishr, ↓wb_idiv, ↓wb_irem, ↓wb_ladd, ↓wb_lsub, ↓wb_land, ↓wb_lor, ↓wb_lxor, ↓wb_lneg, ↓wb_lushr, ↓wb_lshl, ↓wb_l2i, ↓wb_lcmp, ↓wb_dupI, ↓wb_dupR, ↓wb_dup2, ↓wb_popI, ↓wb_popR, ↓wb_getI, ↓wb_getL, ↓wb_getR, ↓wb_putI, ↓wb_putZ, ↓wb_putL, ↓wb_putR, ↓wb_iaload, ↓wb_laload, ↓wb_zaload, ↓wb_aaload, ↓wb_iastore, ↓wb_lastore, ↓wb_zastore, ↓wb_aastore, ↓wb_alen, ↓wb_newI, ↓wb_newL, ↓wb_newZ, ↓wb_newA, ↓wb_new, ↓wb_obj, ↓wb_sld, ↓wb_slen, ↓wb_goto, ↓wb_ifeq, ↓wb_iceq, ↓wb_ifne, ↓wb_icne, ↓wb_iflt, ↓wb_iclt, ↓wb_ifge, ↓wb_icge, ↓wb_ifgt, ↓wb_icgt, ↓wb_ifle, ↓wb_icle, ↓wb_ifnull, ↓wb_ifnonnull, ↓wb_ret, ↓wb_iret, ↓wb_lret, ↓wb_aret, ↓wb_zret, ↓wb_tsw0, ↓wb_tsw1, ↓wb_lsw0, ↓wb_lsw1, ↓wb_calls0, ↓wb_calls1, ↓wb_callv1, ↓wb_calls2, ↓wb_callv2, ↓wb_calls3, ↓wb_callv3, ↓wb_callv4, ↓wb_callv5, ↓wb_callv6, oB_some, ldI_z, ldI_s, ldL_z, ldL_s, ldR_z, ldR_s, ls1_z, ls1_1n, ls1_1i, ls1_1r, ls1_1l, ls1_s, ls2_z, ls2_1n, ls2_1i, ls2_1r, ls2_1l, ls2_s, List.length_cons, List.length_nil, Nat.reduceAdd, Nat.reduceLT, Nat.reduceLeDiff, Nat.reduceDiv, Nat.reduceMod, Int.reduceToNat, Int.reduceAdd, Nat.zero_add, true_and, Option.toList_some, Option.toList_none, List.cons_append, List.nil_append, true_or, or_true, and_true, false_or, or_false, Int.reduceEq, Int.reduceLT, Int.reduceLE, Int.reduceNeg, not_true_eq_false, not_false_eq_true, Bool.and_eq_true, Bool.or_eq_true, decide_eq_true_eq, ↓reduceIte, b2i_0, b2i_01, b2i_01c, Nat.add_left_cancel_iff, Nat.add_eq_left, Nat.left_eq_add, Nat.reduceEqDiff, false_and, and_false, Bool.false_eq_true, Bool.true_eq_false, ↓wr_iadd, ↓wr_isub, ↓wr_imul, wr_id, sp_c sp1, sp_r3 sp1, sp_a4 sp1, sp_r0 sp1, sp_a1 sp1, sp_r1 sp1, sp_a2 sp1, sp_r2 sp1, sp_a3 sp1, hn1, c1]
      exact f1
    | succ f ih =>
      intro p h1 y z hf hp b1 b2 b3 b4 b5 b6
      have pn : p < n := by omega
      have pi1 := EC_pi b1 cd xc pi
      obtain ⟨eK, eX, eE⟩ := EC_K b1 cd xc
      have hn1 := PI_n pi1
      have sp1 := pi1.1
      have c1 : ((n : Int) ≤ (p : Int)) = False := by simp; omega
      have c3 : ((60 : Int) ≤ (p : Int)) = False := by simp; omega
      have bp : (0 ≤ (p : Int) ∧ (p : Int) < 60) = True := by simp; omega
      have cS : (p : Int) + 1 = ((p + 1 : Nat) : Int) := by omega
      have ht1 : hT h1 x3 = (1, 60) := by rw [(b1.2.2 x3 x3d).1]; exact ht3
      have ia1 : ∀ z : Int, inA h1 x3 1 z = (decide (0 ≤ z) && decide (z < 60)) := fun z => inA_of ht1
      have pst := fun (Q : Option AV → Hp → Prop) => pc_isStatement (sc := sc) (Q := Q) (p := (p : Int)) sp1 hn1 (by omega)
      rw [eK] at pst
      have prow := pi.2.2.2.2.2.2 p pn
      have har : hI h1 (c + 4) p = hdI (stk (cK c h) p) := by rw [(b1.2.2 (c + 4) (by omega)).2.2.2 (by omega)]; exact prow.1
      have hk1 : hI h1 (c + 1) p = cK c h p := by rw [← eK]; rfl
      have hx1 : hI h1 (c + 2) p = cX c h p := by rw [← eX]; rfl
      have he1 : hI h1 (c + 3) p = cE c h p := by rw [← eE]; rfl
      have hPp : P p = kpC (cK c h) n w p := by rw [hP]
      -- the next round
      have nxF : P p = false → ∀ y z, WB sc 57 (BL 57 74) [some (aR c), some (aL w), none, some (aR x3), some (aR d), some (aI p), y, z] [] h1 Q := by
        intro e y z
        have nx := ih (p + 1) h1 y z (by omega) (by omega) b1 (by rw [ck_f e]; exact b2) b3 b4 (fun q hq hq2 => b5 q (by
          have : ¬ q = p := fun e2 => by rw [e2, e] at hq2; exact absurd hq2 (by decide)
          omega) hq2) (fun q hq => by
          rw [b6 q hq]
          by_cases e2 : q = p
          · rw [e2, if_neg (by omega), if_neg (fun z => by rw [e] at z; exact absurd z.2 (by decide))]
          · by_cases e3 : q < p ∧ P q = true
            · rw [if_pos e3, if_pos ⟨by omega, e3.2⟩]
            · rw [if_neg e3, if_neg (fun z => e3 ⟨by omega, z.2⟩)])
        rw [bl_57_74]
        simp (maxSteps := 2000000) (disch := omega) only [↓wb_const, ↓wb_lconst, ↓wb_null, ↓wb_iload, ↓wb_lload, ↓wb_aload, ↓wb_istore, ↓wb_lstore, ↓wb_astore, ↓wb_iinc, ↓wb_iand, ↓wb_ior, ↓wb_ishr, ↓wb_idiv, ↓wb_irem, ↓wb_ladd, ↓wb_lsub, ↓wb_land, ↓wb_lor, ↓wb_lxor, ↓wb_lneg, ↓wb_lushr, ↓wb_lshl, ↓wb_l2i, ↓wb_lcmp, ↓wb_dupI, ↓wb_dupR, ↓wb_dup2, ↓wb_popI, ↓wb_popR, ↓wb_getI, ↓wb_getL, ↓wb_getR, ↓wb_putI, ↓wb_putZ, ↓wb_putL, ↓wb_putR, ↓wb_iaload, ↓wb_laload, ↓wb_zaload, ↓wb_aaload, ↓wb_iastore, ↓wb_lastore, ↓wb_zastore, ↓wb_aastore, ↓wb_alen, ↓wb_newI, ↓wb_newL, ↓wb_newZ, ↓wb_newA, ↓wb_new, ↓wb_obj, ↓wb_sld, ↓wb_slen, ↓wb_goto, ↓wb_ifeq, ↓wb_iceq, ↓wb_ifne, ↓wb_icne, ↓wb_iflt, ↓wb_iclt, ↓wb_ifge, ↓wb_icge, ↓wb_ifgt, ↓wb_icgt, ↓wb_ifle, ↓wb_icle, ↓wb_ifnull, ↓wb_ifnonnull, ↓wb_ret, ↓wb_iret, ↓wb_lret, ↓wb_aret, ↓wb_zret, ↓wb_tsw0, ↓wb_tsw1, ↓wb_lsw0, ↓wb_lsw1, ↓wb_calls0, ↓wb_calls1, ↓wb_callv1, ↓wb_calls2, ↓wb_callv2, ↓wb_calls3, ↓wb_callv3, ↓wb_callv4, ↓wb_callv5, ↓wb_callv6, oB_some, ldI_z, ldI_s, ldL_z, ldL_s, ldR_z, ldR_s, ls1_z, ls1_1n, ls1_1i, ls1_1r, ls1_1l, ls1_s, ls2_z, ls2_1n, ls2_1i, ls2_1r, ls2_1l, ls2_s, List.length_cons, List.length_nil, Nat.reduceAdd, Nat.reduceLT, Nat.reduceLeDiff, Nat.reduceDiv, Nat.reduceMod, Int.reduceToNat, Int.reduceAdd, Nat.zero_add, true_and, Option.toList_some, Option.toList_none, List.cons_append, List.nil_append, true_or, or_true, and_true, false_or, or_false, Int.reduceEq, Int.reduceLT, Int.reduceLE, Int.reduceNeg, not_true_eq_false, not_false_eq_true, Bool.and_eq_true, Bool.or_eq_true, decide_eq_true_eq, ↓reduceIte, b2i_0, b2i_01, b2i_01c, Nat.add_left_cancel_iff, Nat.add_eq_left, Nat.left_eq_add, Nat.reduceEqDiff, false_and, and_false, Bool.false_eq_true, Bool.true_eq_false, ↓wr_iadd, ↓wr_isub, ↓wr_imul, wr_id]
        rw [cS]
        exact nx
      have nxT : P p = true → ∀ kp : Int, WB sc 57 (BL 57 35) [some (aR c), some (aL w), none, some (aR x3), some (aR d), some (aI p), some (aI kp), z] [] h1 Q := by
        intro e kp
        have hm := PI_n b2
        have spd := b2.1
        have mle := ck_le (P := P) p
        -- behind the number
        have b1' : EC d x3 h (setI h1 x3 p (ck P p : Nat)) := EC_FR b1 (FR_I FR_rf (Nat.le_refl x3) (Nat.le_refl x3)) (Or.inr ⟨rfl, rfl, by rw [hL_setI]⟩)
        have frx : FR x3 x3 h1 (setI h1 x3 p (ck P p : Nat)) := FR_I FR_rf (Nat.le_refl x3) (Nat.le_refl x3)
        have pi2 := EC_pi b1' cd xc pi
        obtain ⟨eK2, eX2, eE2⟩ := EC_K b1' cd xc
        have sp2 := pi2.1
        have pid2 : PI d (setI h1 x3 p (ck P p : Nat)) (ck P p) := FR_pi frx (by omega) b2
        obtain ⟨dK2, dX2, dE2⟩ := FR_K frx (c := d) (by omega)
        have hk2 : hI (setI h1 x3 p (ck P p : Nat)) (c + 1) p = cK c h p := by rw [← eK2]; rfl
        have hx2 : hI (setI h1 x3 p (ck P p : Nat)) (c + 2) p = cX c h p := by rw [← eX2]; rfl
        have he2 : hI (setI h1 x3 p (ck P p : Nat)) (c + 3) p = cE c h p := by rw [← eE2]; rfl
        have har2 : hI (setI h1 x3 p (ck P p : Nat)) (c + 4) p = hdI (stk (cK c h) p) := by rw [FR_i frx (by omega)]; exact har
        have row2 : ∀ q, q < 60 → hI (setI h1 x3 p (ck P p : Nat)) x3 q = if q < p + 1 ∧ P q = true then (ck P q : Int) else -1 := fun q hq => by
          by_cases e2 : q = p
          · rw [e2, hI_eq, if_pos ⟨by omega, e⟩]
          · rw [hI_ne2 e2, b6 q hq]
            by_cases e3 : q < p ∧ P q = true
            · rw [if_pos e3, if_pos ⟨by omega, e3.2⟩]
            · rw [if_neg e3, if_neg (fun z => e3 ⟨by omega, z.2⟩)]
        have i11 : hI (setI h1 x3 p (ck P p : Nat)) (d + 11) 5 = -1 := by rw [FR_i frx (by omega)]; exact b3
        have i16 : hI (setI h1 x3 p (ck P p : Nat)) (d + 16) 3 = -1 := by rw [FR_i frx (by omega)]; exact b4
        have b5' : ∀ q : Nat, q < p → P q = true → cK d (setI h1 x3 p (ck P p : Nat)) (ck P q) = cK c h q ∧ cX d (setI h1 x3 p (ck P p : Nat)) (ck P q) = cX c h q ∧ cE d (setI h1 x3 p (ck P p : Nat)) (ck P q) = cE c h q := by rw [dK2, dX2, dE2]; exact b5
        have rt := cut_rt (K2 := cK d (setI h1 x3 p (ck P p : Nat))) wf cc pn (fun q hq hq2 => (b5' q hq hq2).1) e
        have kr := (wf p pn).1
        -- the lines
        have seg : ∀ z, WB sc 57 (BL 57 62) [some (aR c), some (aL w), none, some (aR x3), some (aR d), some (aI p), some (aI kp), z] [aI (cX c h p)] (setI h1 x3 p (ck P p : Nat)) Q := by
          intro z
          rw [bl_57_62]
          generalize setI h1 x3 p (ck P p : Nat) = h2 at *
          have spd2 := pid2.1
          simp (maxSteps := 2000000) (disch := omega) only [↓wb_const, ↓wb_lconst, ↓wb_null, ↓wb_iload, ↓wb_lload, ↓wb_aload, ↓wb_istore, ↓wb_lstore, ↓wb_astore, ↓wb_iinc, ↓wb_iand, ↓wb_ior, ↓wb_ishr, ↓wb_idiv, ↓wb_irem, ↓wb_ladd, ↓wb_lsub, ↓wb_land, ↓wb_lor, ↓wb_lxor, ↓wb_lneg, ↓wb_lushr, ↓wb_lshl, ↓wb_l2i, ↓wb_lcmp, ↓wb_dupI, ↓wb_dupR, ↓wb_dup2, ↓wb_popI, ↓wb_popR, ↓wb_getI, ↓wb_getL, ↓wb_getR, ↓wb_putI, ↓wb_putZ, ↓wb_putL, ↓wb_putR, ↓wb_iaload, ↓wb_laload, ↓wb_zaload, ↓wb_aaload, ↓wb_iastore, ↓wb_lastore, ↓wb_zastore, ↓wb_aastore, ↓wb_alen, ↓wb_newI, ↓wb_newL, ↓wb_newZ, ↓wb_newA, ↓wb_new, ↓wb_obj, ↓wb_sld, ↓wb_slen, ↓wb_goto, ↓wb_ifeq, ↓wb_iceq, ↓wb_ifne, ↓wb_icne, ↓wb_iflt, ↓wb_iclt, ↓wb_ifge, ↓wb_icge, ↓wb_ifgt, ↓wb_icgt, ↓wb_ifle, ↓wb_icle, ↓wb_ifnull, ↓wb_ifnonnull, ↓wb_ret, ↓wb_iret, ↓wb_lret, ↓wb_aret, ↓wb_zret, ↓wb_tsw0, ↓wb_tsw1, ↓wb_lsw0, ↓wb_lsw1, ↓wb_calls0, ↓wb_calls1, ↓wb_callv1, ↓wb_calls2, ↓wb_callv2, ↓wb_calls3, ↓wb_callv3, ↓wb_callv4, ↓wb_callv5, ↓wb_callv6, oB_some, ldI_z, ldI_s, ldL_z, ldL_s, ldR_z, ldR_s, ls1_z, ls1_1n, ls1_1i, ls1_1r, ls1_1l, ls1_s, ls2_z, ls2_1n, ls2_1i, ls2_1r, ls2_1l, ls2_s, List.length_cons, List.length_nil, Nat.reduceAdd, Nat.reduceLT, Nat.reduceLeDiff, Nat.reduceDiv, Nat.reduceMod, Int.reduceToNat, Int.reduceAdd, Nat.zero_add, true_and, Option.toList_some, Option.toList_none, List.cons_append, List.nil_append, true_or, or_true, and_true, false_or, or_false, Int.reduceEq, Int.reduceLT, Int.reduceLE, Int.reduceNeg, not_true_eq_false, not_false_eq_true, Bool.and_eq_true, Bool.or_eq_true, decide_eq_true_eq, ↓reduceIte, b2i_0, b2i_01, b2i_01c, Nat.add_left_cancel_iff, Nat.add_eq_left, Nat.left_eq_add, Nat.reduceEqDiff, false_and, and_false, Bool.false_eq_true, Bool.true_eq_false, ↓wr_iadd, ↓wr_isub, ↓wr_imul, wr_id, sp_c sp2, sp_r3 sp2, sp_a4 sp2, sp_r0 sp2, sp_a1 sp2, sp_r1 sp2, sp_a2 sp2, sp_r2 sp2, sp_a3 sp2, sp_c spd2, sp_r3 spd2, sp_a4 spd2, sp_r0 spd2, sp_a1 spd2, sp_r1 spd2, sp_a2 spd2, sp_r2 spd2, sp_a3 spd2, hk2, he2, bp, Int.toNat_natCast]
          refine pc_append2 pid2 (by omega) kr.1 kr.2 rt prow.2.2.2.2.2.2.2.1 prow.2.2.2.2.2.2.2.2 (fun h3 fr3 pi3 k3 x3' e3 => ?_)
          have nx := ih (p + 1) h3 (some (aI kp)) (some (aI (cX c h p))) (by omega) (by omega) (EC_FR b1' fr3 (Or.inl (Nat.le_refl d))) (by rw [ck_t e]; exact pi3) (by rw [FR_i fr3 (by omega)]; exact i11) (by rw [FR_i fr3 (by omega)]; exact i16) (fun q hq hq2 => by
            rw [k3, x3', e3, Int.toNat_natCast]
            by_cases e2 : q = p
            · rw [e2, if_pos rfl, if_pos rfl, if_pos rfl]; exact ⟨rfl, rfl, rfl⟩
            · have := ck_lt (P := P) hq2 (show q < p by omega)
              rw [if_neg (by omega), if_neg (by omega), if_neg (by omega)]
              exact b5' q (by omega) hq2) (fun q hq => by rw [FR_i fr3 (by omega)]; exact row2 q hq)
          clear ih
          simp (maxSteps := 2000000) (disch := omega) only [↓wb_const, ↓wb_lconst, ↓wb_null, ↓wb_iload, ↓wb_lload, ↓wb_aload, ↓wb_istore, ↓wb_lstore, ↓wb_astore, ↓wb_iinc, ↓wb_iand, ↓wb_ior, ↓wb_ishr, ↓wb_idiv, ↓wb_irem, ↓wb_ladd, ↓wb_lsub, ↓wb_land, ↓wb_lor, ↓wb_lxor, ↓wb_lneg, ↓wb_lushr, ↓wb_lshl, ↓wb_l2i, ↓wb_lcmp, ↓wb_dupI, ↓wb_dupR, ↓wb_dup2, ↓wb_popI, ↓wb_popR, ↓wb_getI, ↓wb_getL, ↓wb_getR, ↓wb_putI, ↓wb_putZ, ↓wb_putL, ↓wb_putR, ↓wb_iaload, ↓wb_laload, ↓wb_zaload, ↓wb_aaload, ↓wb_iastore, ↓wb_lastore, ↓wb_zastore, ↓wb_aastore, ↓wb_alen, ↓wb_newI, ↓wb_newL, ↓wb_newZ, ↓wb_newA, ↓wb_new, ↓wb_obj, ↓wb_sld, ↓wb_slen, ↓wb_goto, ↓wb_ifeq, ↓wb_iceq, ↓wb_ifne, ↓wb_icne, ↓wb_iflt, ↓wb_iclt, ↓wb_ifge, ↓wb_icge, ↓wb_ifgt, ↓wb_icgt, ↓wb_ifle, ↓wb_icle, ↓wb_ifnull, ↓wb_ifnonnull, ↓wb_ret, ↓wb_iret, ↓wb_lret, ↓wb_aret, ↓wb_zret, ↓wb_tsw0, ↓wb_tsw1, ↓wb_lsw0, ↓wb_lsw1, ↓wb_calls0, ↓wb_calls1, ↓wb_callv1, ↓wb_calls2, ↓wb_callv2, ↓wb_calls3, ↓wb_callv3, ↓wb_callv4, ↓wb_callv5, ↓wb_callv6, oB_some, ldI_z, ldI_s, ldL_z, ldL_s, ldR_z, ldR_s, ls1_z, ls1_1n, ls1_1i, ls1_1r, ls1_1l, ls1_s, ls2_z, ls2_1n, ls2_1i, ls2_1r, ls2_1l, ls2_s, List.length_cons, List.length_nil, Nat.reduceAdd, Nat.reduceLT, Nat.reduceLeDiff, Nat.reduceDiv, Nat.reduceMod, Int.reduceToNat, Int.reduceAdd, Nat.zero_add, true_and, Option.toList_some, Option.toList_none, List.cons_append, List.nil_append, true_or, or_true, and_true, false_or, or_false, Int.reduceEq, Int.reduceLT, Int.reduceLE, Int.reduceNeg, not_true_eq_false, not_false_eq_true, Bool.and_eq_true, Bool.or_eq_true, decide_eq_true_eq, ↓reduceIte, b2i_0, b2i_01, b2i_01c, Nat.add_left_cancel_iff, Nat.add_eq_left, Nat.left_eq_add, Nat.reduceEqDiff, false_and, and_false, Bool.false_eq_true, Bool.true_eq_false, ↓wr_iadd, ↓wr_isub, ↓wr_imul, wr_id, ↓wl_57_74]
          rw [cS]
          exact nx
        rw [bl_57_35]
        by_cases k7 : cK c h p = 7
        · have k7' : (cK c h p = 7) = True := eq_true k7
          have stp7 : stm (cK c h) n p = true := stm_i (by omega) (by omega) (by rw [k7]; decide) (by rw [k7]; decide)
          have pwa := fun (Q : Option AV → Hp → Prop) => pc_whilesAround (sc := sc) (Q := Q) pi2 (most := cX c h p) (w := w) (q := p) (by omega) (part := hdI (stk (cK c h) p)) (by rw [eK2])
          rw [eK2] at pwa
          have r7 := (wf p pn).2
          rw [k7] at r7
          obtain ⟨u1, u2, -⟩ := rt_7 r7
          rw [opw_len (SV_le sv (by omega))] at u2
          rw [wcF_min (stk (cK c h) p) 0 0 (fun b hb k5 => by
            have pb := cc.2 p b stp7 e hb k5
            have sb : stm (cK c h) n b = true := stm_i (by omega) (by have := stk_lt hb; omega) (by rw [k5]; decide) (by rw [k5]; decide)
            rw [← hP] at pb
            unfold kpC at pb
            rw [if_pos sb] at pb
            exact pb) (by omega), show 0 + min (cX c h p - 0) ((whl (cK c h) (stk (cK c h) p)).length : Int) = cX c h p by omega] at pwa
          have sg := seg z
          clear seg ih
          simp (maxSteps := 2000000) (disch := omega) only [↓wb_const, ↓wb_lconst, ↓wb_null, ↓wb_iload, ↓wb_lload, ↓wb_aload, ↓wb_istore, ↓wb_lstore, ↓wb_astore, ↓wb_iinc, ↓wb_iand, ↓wb_ior, ↓wb_ishr, ↓wb_idiv, ↓wb_irem, ↓wb_ladd, ↓wb_lsub, ↓wb_land, ↓wb_lor, ↓wb_lxor, ↓wb_lneg, ↓wb_lushr, ↓wb_lshl, ↓wb_l2i, ↓wb_lcmp, ↓wb_dupI, ↓wb_dupR, ↓wb_dup2, ↓wb_popI, ↓wb_popR, ↓wb_getI, ↓wb_getL, ↓wb_getR, ↓wb_putI, ↓wb_putZ, ↓wb_putL, ↓wb_putR, ↓wb_iaload, ↓wb_laload, ↓wb_zaload, ↓wb_aaload, ↓wb_iastore, ↓wb_lastore, ↓wb_zastore, ↓wb_aastore, ↓wb_alen, ↓wb_newI, ↓wb_newL, ↓wb_newZ, ↓wb_newA, ↓wb_new, ↓wb_obj, ↓wb_sld, ↓wb_slen, ↓wb_goto, ↓wb_ifeq, ↓wb_iceq, ↓wb_ifne, ↓wb_icne, ↓wb_iflt, ↓wb_iclt, ↓wb_ifge, ↓wb_icge, ↓wb_ifgt, ↓wb_icgt, ↓wb_ifle, ↓wb_icle, ↓wb_ifnull, ↓wb_ifnonnull, ↓wb_ret, ↓wb_iret, ↓wb_lret, ↓wb_aret, ↓wb_zret, ↓wb_tsw0, ↓wb_tsw1, ↓wb_lsw0, ↓wb_lsw1, ↓wb_calls0, ↓wb_calls1, ↓wb_callv1, ↓wb_calls2, ↓wb_callv2, ↓wb_calls3, ↓wb_callv3, ↓wb_callv4, ↓wb_callv5, ↓wb_callv6, oB_some, ldI_z, ldI_s, ldL_z, ldL_s, ldR_z, ldR_s, ls1_z, ls1_1n, ls1_1i, ls1_1r, ls1_1l, ls1_s, ls2_z, ls2_1n, ls2_1i, ls2_1r, ls2_1l, ls2_s, List.length_cons, List.length_nil, Nat.reduceAdd, Nat.reduceLT, Nat.reduceLeDiff, Nat.reduceDiv, Nat.reduceMod, Int.reduceToNat, Int.reduceAdd, Nat.zero_add, true_and, Option.toList_some, Option.toList_none, List.cons_append, List.nil_append, true_or, or_true, and_true, false_or, or_false, Int.reduceEq, Int.reduceLT, Int.reduceLE, Int.reduceNeg, not_true_eq_false, not_false_eq_true, Bool.and_eq_true, Bool.or_eq_true, decide_eq_true_eq, ↓reduceIte, b2i_0, b2i_01, b2i_01c, Nat.add_left_cancel_iff, Nat.add_eq_left, Nat.left_eq_add, Nat.reduceEqDiff, false_and, and_false, Bool.false_eq_true, Bool.true_eq_false, ↓wr_iadd, ↓wr_isub, ↓wr_imul, wr_id, sp_c sp1, sp_r3 sp1, sp_a4 sp1, sp_r0 sp1, sp_a1 sp1, sp_r1 sp1, sp_a2 sp1, sp_r2 sp1, sp_a3 sp1, sp_c spd, sp_r3 spd, sp_a4 spd, sp_r0 spd, sp_a1 spd, sp_r1 spd, sp_a2 spd, sp_r2 spd, sp_a3 spd, hm, ia1, bp, Int.toNat_natCast, isO_setI, hR_setI, inA_setI, hk2, k7', har2, hx2, ↓pwa]
          exact sg
        · have k7' : (cK c h p = 7) = False := eq_false k7
          have sg := seg z
          clear seg ih
          simp (maxSteps := 2000000) (disch := omega) only [↓wb_const, ↓wb_lconst, ↓wb_null, ↓wb_iload, ↓wb_lload, ↓wb_aload, ↓wb_istore, ↓wb_lstore, ↓wb_astore, ↓wb_iinc, ↓wb_iand, ↓wb_ior, ↓wb_ishr, ↓wb_idiv, ↓wb_irem, ↓wb_ladd, ↓wb_lsub, ↓wb_land, ↓wb_lor, ↓wb_lxor, ↓wb_lneg, ↓wb_lushr, ↓wb_lshl, ↓wb_l2i, ↓wb_lcmp, ↓wb_dupI, ↓wb_dupR, ↓wb_dup2, ↓wb_popI, ↓wb_popR, ↓wb_getI, ↓wb_getL, ↓wb_getR, ↓wb_putI, ↓wb_putZ, ↓wb_putL, ↓wb_putR, ↓wb_iaload, ↓wb_laload, ↓wb_zaload, ↓wb_aaload, ↓wb_iastore, ↓wb_lastore, ↓wb_zastore, ↓wb_aastore, ↓wb_alen, ↓wb_newI, ↓wb_newL, ↓wb_newZ, ↓wb_newA, ↓wb_new, ↓wb_obj, ↓wb_sld, ↓wb_slen, ↓wb_goto, ↓wb_ifeq, ↓wb_iceq, ↓wb_ifne, ↓wb_icne, ↓wb_iflt, ↓wb_iclt, ↓wb_ifge, ↓wb_icge, ↓wb_ifgt, ↓wb_icgt, ↓wb_ifle, ↓wb_icle, ↓wb_ifnull, ↓wb_ifnonnull, ↓wb_ret, ↓wb_iret, ↓wb_lret, ↓wb_aret, ↓wb_zret, ↓wb_tsw0, ↓wb_tsw1, ↓wb_lsw0, ↓wb_lsw1, ↓wb_calls0, ↓wb_calls1, ↓wb_callv1, ↓wb_calls2, ↓wb_callv2, ↓wb_calls3, ↓wb_callv3, ↓wb_callv4, ↓wb_callv5, ↓wb_callv6, oB_some, ldI_z, ldI_s, ldL_z, ldL_s, ldR_z, ldR_s, ls1_z, ls1_1n, ls1_1i, ls1_1r, ls1_1l, ls1_s, ls2_z, ls2_1n, ls2_1i, ls2_1r, ls2_1l, ls2_s, List.length_cons, List.length_nil, Nat.reduceAdd, Nat.reduceLT, Nat.reduceLeDiff, Nat.reduceDiv, Nat.reduceMod, Int.reduceToNat, Int.reduceAdd, Nat.zero_add, true_and, Option.toList_some, Option.toList_none, List.cons_append, List.nil_append, true_or, or_true, and_true, false_or, or_false, Int.reduceEq, Int.reduceLT, Int.reduceLE, Int.reduceNeg, not_true_eq_false, not_false_eq_true, Bool.and_eq_true, Bool.or_eq_true, decide_eq_true_eq, ↓reduceIte, b2i_0, b2i_01, b2i_01c, Nat.add_left_cancel_iff, Nat.add_eq_left, Nat.left_eq_add, Nat.reduceEqDiff, false_and, and_false, Bool.false_eq_true, Bool.true_eq_false, ↓wr_iadd, ↓wr_isub, ↓wr_imul, wr_id, ↓wl_57_58, sp_c sp1, sp_r3 sp1, sp_a4 sp1, sp_r0 sp1, sp_a1 sp1, sp_r1 sp1, sp_a2 sp1, sp_r2 sp1, sp_a3 sp1, sp_c spd, sp_r3 spd, sp_a4 spd, sp_r0 spd, sp_a1 spd, sp_r1 spd, sp_a2 spd, sp_r2 spd, sp_a3 spd, hm, ia1, bp, Int.toNat_natCast, isO_setI, hR_setI, inA_setI, hk2, k7', hx2]
          exact sg
      clear ih
      -- the keeper
      have keep : ∀ kp : Nat, kp < 60 → w.getLsbD kp = P p → ∀ y, WB sc 57 (BL 57 27) [some (aR c), some (aL w), none, some (aR x3), some (aR d), some (aI p), y, z] [aI kp] h1 Q := by
        intro kp k60 ek y
        have c4 : ((kp : Int) < 0) = False := by simp
        have ph := fun (Q : Option AV → Hp → Prop) => cc_holds (sc := sc) (h := h1) (Q := Q) (w := w) (p := (kp : Int)) (by omega) (by omega)
        rw [Int.toNat_natCast, ek] at ph
        rw [bl_57_27]
        cases e : P p with
        | true =>
          rw [e] at ph
          have nT := nxT e kp
          clear nxT nxF
          simp (maxSteps := 2000000) (disch := omega) only [↓wb_const, ↓wb_lconst, ↓wb_null, ↓wb_iload, ↓wb_lload, ↓wb_aload, ↓wb_istore, ↓wb_lstore, ↓wb_astore, ↓wb_iinc, ↓wb_iand, ↓wb_ior, ↓wb_ishr, ↓wb_idiv, ↓wb_irem, ↓wb_ladd, ↓wb_lsub, ↓wb_land, ↓wb_lor, ↓wb_lxor, ↓wb_lneg, ↓wb_lushr, ↓wb_lshl, ↓wb_l2i, ↓wb_lcmp, ↓wb_dupI, ↓wb_dupR, ↓wb_dup2, ↓wb_popI, ↓wb_popR, ↓wb_getI, ↓wb_getL, ↓wb_getR, ↓wb_putI, ↓wb_putZ, ↓wb_putL, ↓wb_putR, ↓wb_iaload, ↓wb_laload, ↓wb_zaload, ↓wb_aaload, ↓wb_iastore, ↓wb_lastore, ↓wb_zastore, ↓wb_aastore, ↓wb_alen, ↓wb_newI, ↓wb_newL, ↓wb_newZ, ↓wb_newA, ↓wb_new, ↓wb_obj, ↓wb_sld, ↓wb_slen, ↓wb_goto, ↓wb_ifeq, ↓wb_iceq, ↓wb_ifne, ↓wb_icne, ↓wb_iflt, ↓wb_iclt, ↓wb_ifge, ↓wb_icge, ↓wb_ifgt, ↓wb_icgt, ↓wb_ifle, ↓wb_icle, ↓wb_ifnull, ↓wb_ifnonnull, ↓wb_ret, ↓wb_iret, ↓wb_lret, ↓wb_aret, ↓wb_zret, ↓wb_tsw0, ↓wb_tsw1, ↓wb_lsw0, ↓wb_lsw1, ↓wb_calls0, ↓wb_calls1, ↓wb_callv1, ↓wb_calls2, ↓wb_callv2, ↓wb_calls3, ↓wb_callv3, ↓wb_callv4, ↓wb_callv5, ↓wb_callv6, oB_some, ldI_z, ldI_s, ldL_z, ldL_s, ldR_z, ldR_s, ls1_z, ls1_1n, ls1_1i, ls1_1r, ls1_1l, ls1_s, ls2_z, ls2_1n, ls2_1i, ls2_1r, ls2_1l, ls2_s, List.length_cons, List.length_nil, Nat.reduceAdd, Nat.reduceLT, Nat.reduceLeDiff, Nat.reduceDiv, Nat.reduceMod, Int.reduceToNat, Int.reduceAdd, Nat.zero_add, true_and, Option.toList_some, Option.toList_none, List.cons_append, List.nil_append, true_or, or_true, and_true, false_or, or_false, Int.reduceEq, Int.reduceLT, Int.reduceLE, Int.reduceNeg, not_true_eq_false, not_false_eq_true, Bool.and_eq_true, Bool.or_eq_true, decide_eq_true_eq, ↓reduceIte, b2i_0, b2i_01, b2i_01c, Nat.add_left_cancel_iff, Nat.add_eq_left, Nat.left_eq_add, Nat.reduceEqDiff, false_and, and_false, Bool.false_eq_true, Bool.true_eq_false, ↓wr_iadd, ↓wr_isub, ↓wr_imul, wr_id, c4, ↓ph, b2i_t, Int.reduceEq]
          exact nT
        | false =>
          rw [e] at ph
          have nF := nxF e (some (aI kp)) z
          clear nxT nxF
          simp (maxSteps := 2000000) (disch := omega) only [↓wb_const, ↓wb_lconst, ↓wb_null, ↓wb_iload, ↓wb_lload, ↓wb_aload, ↓wb_istore, ↓wb_lstore, ↓wb_astore, ↓wb_iinc, ↓wb_iand, ↓wb_ior, ↓wb_ishr, ↓wb_idiv, ↓wb_irem, ↓wb_ladd, ↓wb_lsub, ↓wb_land, ↓wb_lor, ↓wb_lxor, ↓wb_lneg, ↓wb_lushr, ↓wb_lshl, ↓wb_l2i, ↓wb_lcmp, ↓wb_dupI, ↓wb_dupR, ↓wb_dup2, ↓wb_popI, ↓wb_popR, ↓wb_getI, ↓wb_getL, ↓wb_getR, ↓wb_putI, ↓wb_putZ, ↓wb_putL, ↓wb_putR, ↓wb_iaload, ↓wb_laload, ↓wb_zaload, ↓wb_aaload, ↓wb_iastore, ↓wb_lastore, ↓wb_zastore, ↓wb_aastore, ↓wb_alen, ↓wb_newI, ↓wb_newL, ↓wb_newZ, ↓wb_newA, ↓wb_new, ↓wb_obj, ↓wb_sld, ↓wb_slen, ↓wb_goto, ↓wb_ifeq, ↓wb_iceq, ↓wb_ifne, ↓wb_icne, ↓wb_iflt, ↓wb_iclt, ↓wb_ifge, ↓wb_icge, ↓wb_ifgt, ↓wb_icgt, ↓wb_ifle, ↓wb_icle, ↓wb_ifnull, ↓wb_ifnonnull, ↓wb_ret, ↓wb_iret, ↓wb_lret, ↓wb_aret, ↓wb_zret, ↓wb_tsw0, ↓wb_tsw1, ↓wb_lsw0, ↓wb_lsw1, ↓wb_calls0, ↓wb_calls1, ↓wb_callv1, ↓wb_calls2, ↓wb_callv2, ↓wb_calls3, ↓wb_callv3, ↓wb_callv4, ↓wb_callv5, ↓wb_callv6, oB_some, ldI_z, ldI_s, ldL_z, ldL_s, ldR_z, ldR_s, ls1_z, ls1_1n, ls1_1i, ls1_1r, ls1_1l, ls1_s, ls2_z, ls2_1n, ls2_1i, ls2_1r, ls2_1l, ls2_s, List.length_cons, List.length_nil, Nat.reduceAdd, Nat.reduceLT, Nat.reduceLeDiff, Nat.reduceDiv, Nat.reduceMod, Int.reduceToNat, Int.reduceAdd, Nat.zero_add, true_and, Option.toList_some, Option.toList_none, List.cons_append, List.nil_append, true_or, or_true, and_true, false_or, or_false, Int.reduceEq, Int.reduceLT, Int.reduceLE, Int.reduceNeg, not_true_eq_false, not_false_eq_true, Bool.and_eq_true, Bool.or_eq_true, decide_eq_true_eq, ↓reduceIte, b2i_0, b2i_01, b2i_01c, Nat.add_left_cancel_iff, Nat.add_eq_left, Nat.left_eq_add, Nat.reduceEqDiff, false_and, and_false, Bool.false_eq_true, Bool.true_eq_false, ↓wr_iadd, ↓wr_isub, ↓wr_imul, wr_id, c4, ↓ph, b2i_f]
          exact nF
      clear nxT nxF
      cases st : stm (cK c h) n p with
      | true =>
        rw [st] at pst
        have kk := keep p (by omega) (by rw [hPp]; unfold kpC; rw [if_pos st]) y
        clear keep
        rw [bl_57_9]
        simp (maxSteps := 2000000) (disch := omega) only [↓wb_const, ↓wb_lconst, ↓wb_null, ↓wb_iload, ↓wb_lload, ↓wb_aload, ↓wb_istore, ↓wb_lstore, ↓wb_astore, ↓wb_iinc, ↓wb_iand, ↓wb_ior, ↓wb_ishr, ↓wb_idiv, ↓wb_irem, ↓wb_ladd, ↓wb_lsub, ↓wb_land, ↓wb_lor, ↓wb_lxor, ↓wb_lneg, ↓wb_lushr, ↓wb_lshl, ↓wb_l2i, ↓wb_lcmp, ↓wb_dupI, ↓wb_dupR, ↓wb_dup2, ↓wb_popI, ↓wb_popR, ↓wb_getI, ↓wb_getL, ↓wb_getR, ↓wb_putI, ↓wb_putZ, ↓wb_putL, ↓wb_putR, ↓wb_iaload, ↓wb_laload, ↓wb_zaload, ↓wb_aaload, ↓wb_iastore, ↓wb_lastore, ↓wb_zastore, ↓wb_aastore, ↓wb_alen, ↓wb_newI, ↓wb_newL, ↓wb_newZ, ↓wb_newA, ↓wb_new, ↓wb_obj, ↓wb_sld, ↓wb_slen, ↓wb_goto, ↓wb_ifeq, ↓wb_iceq, ↓wb_ifne, ↓wb_icne, ↓wb_iflt, ↓wb_iclt, ↓wb_ifge, ↓wb_icge, ↓wb_ifgt, ↓wb_icgt, ↓wb_ifle, ↓wb_icle, ↓wb_ifnull, ↓wb_ifnonnull, ↓wb_ret, ↓wb_iret, ↓wb_lret, ↓wb_aret, ↓wb_zret, ↓wb_tsw0, ↓wb_tsw1, ↓wb_lsw0, ↓wb_lsw1, ↓wb_calls0, ↓wb_calls1, ↓wb_callv1, ↓wb_calls2, ↓wb_callv2, ↓wb_calls3, ↓wb_callv3, ↓wb_callv4, ↓wb_callv5, ↓wb_callv6, oB_some, ldI_z, ldI_s, ldL_z, ldL_s, ldR_z, ldR_s, ls1_z, ls1_1n, ls1_1i, ls1_1r, ls1_1l, ls1_s, ls2_z, ls2_1n, ls2_1i, ls2_1r, ls2_1l, ls2_s, List.length_cons, List.length_nil, Nat.reduceAdd, Nat.reduceLT, Nat.reduceLeDiff, Nat.reduceDiv, Nat.reduceMod, Int.reduceToNat, Int.reduceAdd, Nat.zero_add, true_and, Option.toList_some, Option.toList_none, List.cons_append, List.nil_append, true_or, or_true, and_true, false_or, or_false, Int.reduceEq, Int.reduceLT, Int.reduceLE, Int.reduceNeg, not_true_eq_false, not_false_eq_true, Bool.and_eq_true, Bool.or_eq_true, decide_eq_true_eq, ↓reduceIte, b2i_0, b2i_01, b2i_01c, Nat.add_left_cancel_iff, Nat.add_eq_left, Nat.left_eq_add, Nat.reduceEqDiff, false_and, and_false, Bool.false_eq_true, Bool.true_eq_false, ↓wr_iadd, ↓wr_isub, ↓wr_imul, wr_id, sp_c sp1, sp_r3 sp1, sp_a4 sp1, sp_r0 sp1, sp_a1 sp1, sp_r1 sp1, sp_a2 sp1, sp_r2 sp1, sp_a3 sp1, hn1, c1, ht1, Int.cast_ofNat_Int, c3, ↓pst, b2i_t, Int.reduceEq]
        exact kk
      | false =>
        rw [st] at pst
        have k46 : cK c h p = 4 ∨ cK c h p = 6 := Classical.byContradiction fun z => by
          rw [stm_i (by omega) (by omega) (fun e => z (Or.inl e)) (fun e => z (Or.inr e))] at st
          exact absurd st (by decide)
        obtain ⟨b, g1, g2, g3, -⟩ := WF_46 wf pn k46
        have hb0 : hdI (stk (cK c h) p) = (b : Int) := by rw [g1]; rfl
        rw [hb0] at har
        have kk := keep b (by omega) (by rw [hPp]; unfold kpC; rw [if_neg (by rw [st]; decide), hb0, Int.toNat_natCast]) y
        clear keep
        rw [bl_57_9]
        simp (maxSteps := 2000000) (disch := omega) only [↓wb_const, ↓wb_lconst, ↓wb_null, ↓wb_iload, ↓wb_lload, ↓wb_aload, ↓wb_istore, ↓wb_lstore, ↓wb_astore, ↓wb_iinc, ↓wb_iand, ↓wb_ior, ↓wb_ishr, ↓wb_idiv, ↓wb_irem, ↓wb_ladd, ↓wb_lsub, ↓wb_land, ↓wb_lor, ↓wb_lxor, ↓wb_lneg, ↓wb_lushr, ↓wb_lshl, ↓wb_l2i, ↓wb_lcmp, ↓wb_dupI, ↓wb_dupR, ↓wb_dup2, ↓wb_popI, ↓wb_popR, ↓wb_getI, ↓wb_getL, ↓wb_getR, ↓wb_putI, ↓wb_putZ, ↓wb_putL, ↓wb_putR, ↓wb_iaload, ↓wb_laload, ↓wb_zaload, ↓wb_aaload, ↓wb_iastore, ↓wb_lastore, ↓wb_zastore, ↓wb_aastore, ↓wb_alen, ↓wb_newI, ↓wb_newL, ↓wb_newZ, ↓wb_newA, ↓wb_new, ↓wb_obj, ↓wb_sld, ↓wb_slen, ↓wb_goto, ↓wb_ifeq, ↓wb_iceq, ↓wb_ifne, ↓wb_icne, ↓wb_iflt, ↓wb_iclt, ↓wb_ifge, ↓wb_icge, ↓wb_ifgt, ↓wb_icgt, ↓wb_ifle, ↓wb_icle, ↓wb_ifnull, ↓wb_ifnonnull, ↓wb_ret, ↓wb_iret, ↓wb_lret, ↓wb_aret, ↓wb_zret, ↓wb_tsw0, ↓wb_tsw1, ↓wb_lsw0, ↓wb_lsw1, ↓wb_calls0, ↓wb_calls1, ↓wb_callv1, ↓wb_calls2, ↓wb_callv2, ↓wb_calls3, ↓wb_callv3, ↓wb_callv4, ↓wb_callv5, ↓wb_callv6, oB_some, ldI_z, ldI_s, ldL_z, ldL_s, ldR_z, ldR_s, ls1_z, ls1_1n, ls1_1i, ls1_1r, ls1_1l, ls1_s, ls2_z, ls2_1n, ls2_1i, ls2_1r, ls2_1l, ls2_s, List.length_cons, List.length_nil, Nat.reduceAdd, Nat.reduceLT, Nat.reduceLeDiff, Nat.reduceDiv, Nat.reduceMod, Int.reduceToNat, Int.reduceAdd, Nat.zero_add, true_and, Option.toList_some, Option.toList_none, List.cons_append, List.nil_append, true_or, or_true, and_true, false_or, or_false, Int.reduceEq, Int.reduceLT, Int.reduceLE, Int.reduceNeg, not_true_eq_false, not_false_eq_true, Bool.and_eq_true, Bool.or_eq_true, decide_eq_true_eq, ↓reduceIte, b2i_0, b2i_01, b2i_01c, Nat.add_left_cancel_iff, Nat.add_eq_left, Nat.left_eq_add, Nat.reduceEqDiff, false_and, and_false, Bool.false_eq_true, Bool.true_eq_false, ↓wr_iadd, ↓wr_isub, ↓wr_imul, wr_id, ↓wl_57_23, sp_c sp1, sp_r3 sp1, sp_a4 sp1, sp_r0 sp1, sp_a1 sp1, sp_r1 sp1, sp_a2 sp1, sp_r2 sp1, sp_a3 sp1, hn1, c1, ht1, Int.cast_ofNat_Int, c3, ↓pst, b2i_f, har, bp, Int.toNat_natCast]
        exact kk
  clear fin
  rw [wc_57, bl_57_0, wb_new, wb_dupR, wb_callv1]
  have nb : NB 12 15 h (newH h (10 + 2) (Int.toNat 15)) := NB_new
  generalize newH h (10 + 2) (Int.toNat 15) = h1 at *
  obtain ⟨m1, m2, m3, m4, m5, m6⟩ := nb
  rw [hd] at m1 m3 m4 m5 m6 ⊢
  refine ⟨⟨by simp, isO_of (n := 15) (by rw [m3, if_pos rfl])⟩, ?_⟩
  refine pp_init m1 (by rw [m3, if_pos rfl]) (fun j => by rw [m4, if_pos rfl]) (by omega) (fun h2 np => ?_)
  obtain ⟨pi0, ci0⟩ := NP_pi np
  obtain ⟨⟨x1, x2, x3'⟩, spd, a1, a2, a3, a4, a5⟩ := np
  have ec : EC d x3 h h2 := ⟨x1, by omega, fun y hy => by
    obtain ⟨q1, q2, q3, q4⟩ := x3' y hy
    exact ⟨by rw [q1, m3, if_neg (by omega)], funext fun j => by rw [q4, m6, if_neg (by omega)], funext fun j => by rw [q3, m5, if_neg (by omega)], fun _ => funext fun j => by rw [q2, m4, if_neg (by omega)]⟩⟩
  have ht2 : hT h2 x3 = (1, 60) := by rw [(ec.2.2 x3 x3d).1]; exact ht3
  simp (maxSteps := 2000000) (disch := omega) only [↓wb_const, ↓wb_lconst, ↓wb_null, ↓wb_iload, ↓wb_lload, ↓wb_aload, ↓wb_istore, ↓wb_lstore, ↓wb_astore, ↓wb_iinc, ↓wb_iand, ↓wb_ior, ↓wb_ishr, ↓wb_idiv, ↓wb_irem, ↓wb_ladd, ↓wb_lsub, ↓wb_land, ↓wb_lor, ↓wb_lxor, ↓wb_lneg, ↓wb_lushr, ↓wb_lshl, ↓wb_l2i, ↓wb_lcmp, ↓wb_dupI, ↓wb_dupR, ↓wb_dup2, ↓wb_popI, ↓wb_popR, ↓wb_getI, ↓wb_getL, ↓wb_getR, ↓wb_putI, ↓wb_putZ, ↓wb_putL, ↓wb_putR, ↓wb_iaload, ↓wb_laload, ↓wb_zaload, ↓wb_aaload, ↓wb_iastore, ↓wb_lastore, ↓wb_zastore, ↓wb_aastore, ↓wb_alen, ↓wb_newI, ↓wb_newL, ↓wb_newZ, ↓wb_newA, ↓wb_new, ↓wb_obj, ↓wb_sld, ↓wb_slen, ↓wb_goto, ↓wb_ifeq, ↓wb_iceq, ↓wb_ifne, ↓wb_icne, ↓wb_iflt, ↓wb_iclt, ↓wb_ifge, ↓wb_icge, ↓wb_ifgt, ↓wb_icgt, ↓wb_ifle, ↓wb_icle, ↓wb_ifnull, ↓wb_ifnonnull, ↓wb_ret, ↓wb_iret, ↓wb_lret, ↓wb_aret, ↓wb_zret, ↓wb_tsw0, ↓wb_tsw1, ↓wb_lsw0, ↓wb_lsw1, ↓wb_calls0, ↓wb_calls1, ↓wb_callv1, ↓wb_calls2, ↓wb_callv2, ↓wb_calls3, ↓wb_callv3, ↓wb_callv4, ↓wb_callv5, ↓wb_callv6, oB_some, ldI_z, ldI_s, ldL_z, ldL_s, ldR_z, ldR_s, ls1_z, ls1_1n, ls1_1i, ls1_1r, ls1_1l, ls1_s, ls2_z, ls2_1n, ls2_1i, ls2_1r, ls2_1l, ls2_s, List.length_cons, List.length_nil, Nat.reduceAdd, Nat.reduceLT, Nat.reduceLeDiff, Nat.reduceDiv, Nat.reduceMod, Int.reduceToNat, Int.reduceAdd, Nat.zero_add, true_and, Option.toList_some, Option.toList_none, List.cons_append, List.nil_append, true_or, or_true, and_true, false_or, or_false, Int.reduceEq, Int.reduceLT, Int.reduceLE, Int.reduceNeg, not_true_eq_false, not_false_eq_true, Bool.and_eq_true, Bool.or_eq_true, decide_eq_true_eq, ↓reduceIte, b2i_0, b2i_01, b2i_01c, Nat.add_left_cancel_iff, Nat.add_eq_left, Nat.left_eq_add, Nat.reduceEqDiff, false_and, and_false, Bool.false_eq_true, Bool.true_eq_false, ↓wr_iadd, ↓wr_isub, ↓wr_imul, wr_id]
  refine cc_fillI ht2 (by omega) (fun h3 fr3 l3 row3 => ?_)
  have st := loop n 0 h3 none none (by omega) (by omega) (EC_FR ec fr3 (Or.inr ⟨rfl, rfl, l3⟩)) (FR_pi fr3 (by omega) pi0) (by rw [FR_i fr3 (by omega)]; exact a4) (by rw [FR_i fr3 (by omega)]; exact a5) (fun q hq => by omega) (fun q hq => by rw [row3, if_pos hq, if_neg (by omega)])
  clear loop
  simp (maxSteps := 2000000) (disch := omega) only [↓wb_const, ↓wb_lconst, ↓wb_null, ↓wb_iload, ↓wb_lload, ↓wb_aload, ↓wb_istore, ↓wb_lstore, ↓wb_astore, ↓wb_iinc, ↓wb_iand, ↓wb_ior, ↓wb_ishr, ↓wb_idiv, ↓wb_irem, ↓wb_ladd, ↓wb_lsub, ↓wb_land, ↓wb_lor, ↓wb_lxor, ↓wb_lneg, ↓wb_lushr, ↓wb_lshl, ↓wb_l2i, ↓wb_lcmp, ↓wb_dupI, ↓wb_dupR, ↓wb_dup2, ↓wb_popI, ↓wb_popR, ↓wb_getI, ↓wb_getL, ↓wb_getR, ↓wb_putI, ↓wb_putZ, ↓wb_putL, ↓wb_putR, ↓wb_iaload, ↓wb_laload, ↓wb_zaload, ↓wb_aaload, ↓wb_iastore, ↓wb_lastore, ↓wb_zastore, ↓wb_aastore, ↓wb_alen, ↓wb_newI, ↓wb_newL, ↓wb_newZ, ↓wb_newA, ↓wb_new, ↓wb_obj, ↓wb_sld, ↓wb_slen, ↓wb_goto, ↓wb_ifeq, ↓wb_iceq, ↓wb_ifne, ↓wb_icne, ↓wb_iflt, ↓wb_iclt, ↓wb_ifge, ↓wb_icge, ↓wb_ifgt, ↓wb_icgt, ↓wb_ifle, ↓wb_icle, ↓wb_ifnull, ↓wb_ifnonnull, ↓wb_ret, ↓wb_iret, ↓wb_lret, ↓wb_aret, ↓wb_zret, ↓wb_tsw0, ↓wb_tsw1, ↓wb_lsw0, ↓wb_lsw1, ↓wb_calls0, ↓wb_calls1, ↓wb_callv1, ↓wb_calls2, ↓wb_callv2, ↓wb_calls3, ↓wb_callv3, ↓wb_callv4, ↓wb_callv5, ↓wb_callv6, oB_some, ldI_z, ldI_s, ldL_z, ldL_s, ldR_z, ldR_s, ls1_z, ls1_1n, ls1_1i, ls1_1r, ls1_1l, ls1_s, ls2_z, ls2_1n, ls2_1i, ls2_1r, ls2_1l, ls2_s, List.length_cons, List.length_nil, Nat.reduceAdd, Nat.reduceLT, Nat.reduceLeDiff, Nat.reduceDiv, Nat.reduceMod, Int.reduceToNat, Int.reduceAdd, Nat.zero_add, true_and, Option.toList_some, Option.toList_none, List.cons_append, List.nil_append, true_or, or_true, and_true, false_or, or_false, Int.reduceEq, Int.reduceLT, Int.reduceLE, Int.reduceNeg, not_true_eq_false, not_false_eq_true, Bool.and_eq_true, Bool.or_eq_true, decide_eq_true_eq, ↓reduceIte, b2i_0, b2i_01, b2i_01c, Nat.add_left_cancel_iff, Nat.add_eq_left, Nat.left_eq_add, Nat.reduceEqDiff, false_and, and_false, Bool.false_eq_true, Bool.true_eq_false, ↓wr_iadd, ↓wr_isub, ↓wr_imul, wr_id]
  exact st
