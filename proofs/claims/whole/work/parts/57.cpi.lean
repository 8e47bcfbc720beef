/-! ===== the class: a line more keeps what a Program holds ===== -/
theorem PI_append {c : Nat} {h : Hp} {n : Nat} (pi : PI c h n) {k u v op oc : Int} (n1 : n < 60) (k0 : 0 ≤ k) (k1 : k ≤ 8) (hr : rtF (cK c h) n k u v = true) (hu : inR u) (hv : inR v) (ho : op = hdI (stk (cK c h) n)) (hc : oc = (stk (cK c h) n).length) : PI c (apF c h n k u v op oc) (n + 1) := by
  have sv := WF_SV (PI_wf pi)
  generalize hh : apF c h n k u v op oc = h2
  have r46 : k = 4 ∨ k = 6 → 0 ≤ op := by
    intro q
    rw [ho, ← opn_hd sv]
    rcases q with q | q
    · rw [q] at hr; exact (rt_4 hr).2.2.1
    · rw [q] at hr; exact (rt_6 hr).2.2
  have o0 : -1 ≤ op := by
    rw [ho]
    cases stk (cK c h) n with
    | nil => exact Int.le_refl _
    | cons a t => show (-1 : Int) ≤ a; omega
  have eK : ∀ q, cK c h2 q = if q.toNat = n then k else cK c h q := fun q => by rw [← hh]; exact apF_K
  have eX : ∀ q, cX c h2 q = if q.toNat = n then u else cX c h q := fun q => by rw [← hh]; exact apF_X
  have eE : ∀ q, cE c h2 q = if q.toNat = n then v else cE c h q := fun q => by rw [← hh]; exact apF_E
  have aK : agr n (cK c h2) (cK c h) := fun q a b => by rw [eK, if_neg (by omega)]
  have aX : agr n (cX c h2) (cX c h) := fun q a b => by rw [eX, if_neg (by omega)]
  have aE : agr n (cE c h2) (cE c h) := fun q a b => by rw [eE, if_neg (by omega)]
  have Kn : cK c h2 n = k := by rw [eK, if_pos (Int.toNat_natCast n)]
  have Xn : cX c h2 n = u := by rw [eX, if_pos (Int.toNat_natCast n)]
  have En : cE c h2 n = v := by rw [eE, if_pos (Int.toNat_natCast n)]
  have hst : ∀ q : Nat, q ≤ n → stk (cK c h2) q = stk (cK c h) q := fun q hq => stk_cg q (agr_le aK (by omega))
  have wf : WF (cK c h2) (cX c h2) (cE c h2) (n + 1) := by
    refine WF_more (WF_cg (agr_symm aK) (agr_symm aX) (agr_symm aE) (PI_wf pi)) (by rw [Kn]; exact ⟨k0, k1⟩) ?_
    rw [Kn, Xn, En, rtF_cg aK (by omega)]
    exact hr
  have sv2 := WF_SV wf
  have hk3 : (k = 3 ∨ k = 5) ↔ bgn k = true := by simp [bgn]
  have hs1 : stk (cK c h2) (n + 1) = if bgn k = true then n :: stk (cK c h) n else if k = 6 then (stk (cK c h) n).tail else stk (cK c h) n := by
    show (if bgn (cK c h2 n) = true then n :: stk (cK c h2) n else if cK c h2 n = 6 then (stk (cK c h2) n).tail else stk (cK c h2) n) = _
    rw [Kn, hst n (Nat.le_refl _)]
  have e11 := fun j => (ap11_r (c := c) (h := h) (n := n) (j := j) (k := k) (u := u) (v := v) (op := op) (oc := oc))
  have row : ∀ d j, 0 < d → ¬ d = 6 → ¬ d = 7 → hI h2 (c + d) j = hI (ap11 c h n k u v op oc) (c + d) j := fun d j a b d7 => by rw [← hh]; exact apF_row a b d7
  refine ⟨?_, ?_, by omega, wf, ?_, ?_, ?_⟩
  · rw [← hh, SP_same apF_T apF_R]; exact PI_sp pi
  · rw [← hh, apF_12]; rfl
  · rw [← hh, apF_13 (by rw [ho]; exact PI_op pi), hh, hs1]
    by_cases hb : bgn k = true
    · rw [if_pos hb, if_pos (hk3.mpr hb)]; rfl
    · rw [if_neg hb, if_neg (fun q => hb (hk3.mp q))]
      by_cases k6 : k = 6
      · rw [if_pos k6, if_pos k6]
        have := r46 (Or.inr k6)
        rw [ho] at this ⊢
        obtain ⟨a, t, es, ea⟩ := hdI_nn this
        rw [ea, es, Int.toNat_natCast]
        have ha : a < n := stk_lt (K := cK c h) (q := n) (by rw [es]; exact List.mem_cons_self)
        rw [PI_ar pi ha]
        show hdI (stk (cK c h) a) = hdI t
        rw [stk_hd es]
      · rw [if_neg k6, if_neg k6]; exact ho
  · rw [← hh, apF_14 (by rw [hc]; exact PI_oc pi), hh, hs1]
    by_cases hb : bgn k = true
    · rw [if_pos hb, if_pos (hk3.mpr hb), hc]; simp
    · rw [if_neg hb, if_neg (fun q => hb (hk3.mp q))]
      by_cases k6 : k = 6
      · rw [if_pos k6, if_pos k6, hc]
        have := r46 (Or.inr k6)
        rw [ho] at this
        obtain ⟨a, t, es, ea⟩ := hdI_nn this
        rw [es]; simp
      · rw [if_neg k6, if_neg k6]; exact hc
  · intro q hq
    have h6 : hI h2 (c + 6) q = if k = 6 ∧ op = q then (n : Int) else if q = n then -1 else hI h (c + 6) q := by rw [← hh]; exact apF_6 o0 r46
    have h7 : hI h2 (c + 7) q = if k = 4 ∧ op = q then (n : Int) else if q = n then -1 else hI h (c + 7) q := by rw [← hh]; exact apF_7 o0 r46
    obtain ⟨f1, f2, f3, f4, f5, f6, f7, f8, f9, f10⟩ := e11 q
    rw [row 4 q (by omega) (by omega) (by omega), row 5 q (by omega) (by omega) (by omega), row 8 q (by omega) (by omega) (by omega), row 9 q (by omega) (by omega) (by omega), row 10 q (by omega) (by omega) (by omega), f4, f5, f8, f9, f10, h6, h7]
    by_cases e : q = n
    · subst e
      have hop : ¬ op = (q : Int) := by
        rw [ho]
        cases hs2 : stk (cK c h) q with
        | nil => show ¬ (-1 : Int) = q; omega
        | cons a t =>
          have : a < q := stk_lt (K := cK c h) (q := q) (by rw [hs2]; exact List.mem_cons_self)
          show ¬ (a : Int) = q
          omega
      rw [if_pos rfl, if_pos rfl, if_pos rfl, if_pos rfl, if_pos rfl, if_neg (fun z => hop z.2), if_neg (fun z => hop z.2), if_pos rfl, if_pos rfl, hst q (Nat.le_refl _), Kn, Xn, En]
      refine ⟨ho, hc, ?_, ?_, rfl, rfl, rfl, hu, hv⟩
      · unfold clC
        rw [Kn]
        by_cases hb : bgn k = true
        · have hm : q ∈ stk (cK c h2) (q + 1) := by rw [hs1, if_pos hb]; exact List.mem_cons_self
          rw [clo_open sv2 hm, if_neg (by omega)]
        · rw [if_neg (fun z => hb z.1)]
      · unfold elC
        rw [Kn]
        by_cases hb : bgn k = true
        · rw [if_pos hb]
          have hm : q ∈ stk (cK c h2) (q + 1) := by rw [hs1, if_pos hb]; exact List.mem_cons_self
          have hc2 := clo_open sv2 hm
          rcases els_stk sv2 (show q < q + 1 by omega) (by rw [Kn]; exact hb) with ⟨r, g1, g2, g3, -⟩ | ⟨g1, -⟩
          · rw [hc2] at g3; omega
          · exact g1.symm
        · rw [if_neg hb]
    · have hqn : q < n := by omega
      have Kq : cK c h2 q = cK c h q := aK q (by omega) (by omega)
      have Xq : cX c h2 q = cX c h q := aX q (by omega) (by omega)
      have Eq : cE c h2 q = cE c h q := aE q (by omega) (by omega)
      rw [if_neg e, if_neg e, if_neg e, if_neg e, if_neg e, if_neg e, if_neg e, hst q (by omega), Kq, Xq, Eq]
      have svn := SV_le sv2 (show n ≤ n + 1 by omega)
      refine ⟨PI_ar pi hqn, PI_dp pi hqn, ?_, ?_, PI_nl pi hqn, PI_nr pi hqn, PI_np pi hqn, PI_x pi hqn, PI_e pi hqn⟩
      · rw [clC_more sv2 hqn, Kn, hst n (Nat.le_refl _), ← ho, PI_cl pi hqn]
        have e2 : clC (cK c h2) n q = clC (cK c h) n q := by
          unfold clC
          rw [Kq, clo_cg aK (by omega)]
        rw [e2]
      · rw [elC_more sv2 hqn ?_, Kn, hst n (Nat.le_refl _), ← ho, PI_el pi hqn]
        · have e2 : elC (cK c h2) n q = elC (cK c h) n q := by
            unfold elC
            rw [Kq, els_cg aK (by omega) (by omega)]
          rw [e2]
        · intro z1 z2
          rw [Kn] at z1
          rw [hst n (Nat.le_refl _), ← opn_hd sv] at z2
          rw [z1] at hr
          have := (rt_4 hr).2.2.2.2
          rw [z2] at this
          rw [els_cg aK (by omega) (by omega)]
          exact this
