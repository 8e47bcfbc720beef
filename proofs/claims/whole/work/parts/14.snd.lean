section Main
variable {p : Program} {l : Launch} {e : Env} {R : Room} {s : State} {m : MethodId} {args : Array Value} {below : List Frame} {meth : Method} {c : Code} {Q : State → Prop} {D : va_G} {cA : Nat → ClassId} {base b mu : Nat} {sc : Scr}
variable {pc ln a : Nat} {b2 : Int} {L : List Nat} {ins : Instr} {ls ls9 : ALS} {st st9 : List AV} {h h1 : Hp} {ad : Nat → Nat} {H : Heap} {locs : List Loc} {cells slots : Nat} {lsC : Array Slot} {rest : List Value}
theorem s1_all (C : Cx p R s m args meth c D cA base mu) (hlen : ls.length = mL mu) (hpos : 0 < hN h) (hd : decode (mB mu) pc = .ok (ins, ln)) (okl : okL h ls) (oks : okS h st) : ∀ {t : Nat}, t < 31 → okT mu (pcsT mu) pc ins ln t a b2 L = true → sem1 sc t a b2 ls st h = some (ls9, st9, h1) → h1 = h ∧ (ls9.length = mL mu ∧ okL h ls9 ∧ okS h st9) ∧ (Nx p l e R s m args below meth c Q b mu (pc + ln) ls9 st9 ad H locs cells slots → Nx p l e R s m args below meth c Q b mu pc ls st ad H locs cells slots)
  | 0, _, ho, hs => s1_0 C hlen hd ho hs okl oks
  | 1, _, ho, hs => s1_1 C hlen hd ho hs okl oks
  | 2, _, ho, hs => s1_2 C hlen hd ho hs hpos okl oks
  | 3, _, ho, hs => s1_3 C hlen hd ho hs okl oks
  | 4, _, ho, hs => s1_4 C hlen hd ho hs okl oks
  | 5, _, ho, hs => s1_5 C hlen hd ho hs okl oks
  | 6, _, ho, hs => s1_6 C hlen hd ho hs okl oks
  | 7, _, ho, hs => s1_7 C hlen hd ho hs okl oks
  | 8, _, ho, hs => s1_8 C hlen hd ho hs okl oks
  | 9, _, ho, hs => s1_9 C hlen hd ho hs okl oks
  | 10, _, ho, hs => s1_10 C hlen hd ho hs okl oks
  | 11, _, ho, hs => s1_11 C hlen hd ho hs okl oks
  | 12, _, ho, hs => s1_12 C hlen hd ho hs okl oks
  | 13, _, ho, hs => s1_13 C hlen hd ho hs okl oks
  | 14, _, ho, hs => s1_14 C hlen hd ho hs okl oks
  | 15, _, ho, hs => s1_15 C hlen hd ho hs okl oks
  | 16, _, ho, hs => s1_16 C hlen hd ho hs okl oks
  | 17, _, ho, hs => s1_17 C hlen hd ho hs okl oks
  | 18, _, ho, hs => s1_18 C hlen hd ho hs okl oks
  | 19, _, ho, hs => s1_19 C hlen hd ho hs okl oks
  | 20, _, ho, hs => s1_20 C hlen hd ho hs okl oks
  | 21, _, ho, hs => s1_21 C hlen hd ho hs okl oks
  | 22, _, ho, hs => s1_22 C hlen hd ho hs okl oks
  | 23, _, ho, hs => s1_23 C hlen hd ho hs okl oks
  | 24, _, ho, hs => s1_24 C hlen hd ho hs okl oks
  | 25, _, ho, hs => s1_25 C hlen hd ho hs okl oks
  | 26, _, ho, hs => s1_26 C hlen hd ho hs okl oks
  | 27, _, ho, hs => s1_27 C hlen hd ho hs okl oks
  | 28, _, ho, hs => s1_28 C hlen hd ho hs okl oks
  | 29, _, ho, hs => s1_29 C hlen hd ho hs okl oks
  | 30, _, ho, hs => s1_30 C hlen hd ho hs okl oks
  | n + 31, q, _, _ => absurd q (by omega)
def SX (b base : Nat) (sc : Scr) (s : State) : Prop := va_X b sc.1 (fun j => i32 (sc.2 j)) s s.heap ∧ b < base ∧ (∀ j, inR (sc.2 j)) ∧ sc.1 ≤ 65536
theorem s2_all (C : Cx p R s m args meth c D cA base mu) (hX : mu = 177 → SX b base sc s) (hd : decode (mB mu) pc = .ok (ins, ln)) (okl : okL h ls) (oks : okS h st) (P : Pt3 D cA base b ad s h H locs) : ∀ {t : Nat}, t < 55 → 31 ≤ t → okT mu (pcsT mu) pc ins ln t a b2 L = true → sem1 sc t a b2 ls st h = some (ls9, st9, h1) → ls9 = ls ∧ okS h1 st9 ∧ HI h1 ∧ hN h ≤ hN h1 ∧ hS h ≤ hS h1 ∧ (cells + (hN h1 - hN h) ≤ R.cells → slots + (hS h1 - hS h) ≤ R.slots → (∀ ad1 H1 locs1, (∀ y, y < hN h → ad1 y = ad y) → Pt3 D cA base b ad1 s h1 H1 locs1 → Nx p l e R s m args below meth c Q b mu (pc + ln) ls9 st9 ad1 H1 locs1 (cells + (hN h1 - hN h)) (slots + (hS h1 - hS h))) → Nx p l e R s m args below meth c Q b mu pc ls st ad H locs cells slots)
  | 0, _, q, _, _ => absurd q (by omega)
  | 1, _, q, _, _ => absurd q (by omega)
  | 2, _, q, _, _ => absurd q (by omega)
  | 3, _, q, _, _ => absurd q (by omega)
  | 4, _, q, _, _ => absurd q (by omega)
  | 5, _, q, _, _ => absurd q (by omega)
  | 6, _, q, _, _ => absurd q (by omega)
  | 7, _, q, _, _ => absurd q (by omega)
  | 8, _, q, _, _ => absurd q (by omega)
  | 9, _, q, _, _ => absurd q (by omega)
  | 10, _, q, _, _ => absurd q (by omega)
  | 11, _, q, _, _ => absurd q (by omega)
  | 12, _, q, _, _ => absurd q (by omega)
  | 13, _, q, _, _ => absurd q (by omega)
  | 14, _, q, _, _ => absurd q (by omega)
  | 15, _, q, _, _ => absurd q (by omega)
  | 16, _, q, _, _ => absurd q (by omega)
  | 17, _, q, _, _ => absurd q (by omega)
  | 18, _, q, _, _ => absurd q (by omega)
  | 19, _, q, _, _ => absurd q (by omega)
  | 20, _, q, _, _ => absurd q (by omega)
  | 21, _, q, _, _ => absurd q (by omega)
  | 22, _, q, _, _ => absurd q (by omega)
  | 23, _, q, _, _ => absurd q (by omega)
  | 24, _, q, _, _ => absurd q (by omega)
  | 25, _, q, _, _ => absurd q (by omega)
  | 26, _, q, _, _ => absurd q (by omega)
  | 27, _, q, _, _ => absurd q (by omega)
  | 28, _, q, _, _ => absurd q (by omega)
  | 29, _, q, _, _ => absurd q (by omega)
  | 30, _, q, _, _ => absurd q (by omega)
  | 31, _, _, ho, hs => s2_31 C hd ho hs okl oks P
  | 32, _, _, ho, hs => s2_32 C hd ho hs okl oks P
  | 33, _, _, ho, hs => s2_33 C hd ho hs okl oks P
  | 34, _, _, ho, hs => s2_34 C hd ho hs okl oks P
  | 35, _, _, ho, hs => s2_35 C hd ho hs okl oks P
  | 36, _, _, ho, hs => s2_36 C hd ho hs okl oks P
  | 37, _, _, ho, hs => s2_37 C hd ho hs okl oks P
  | 38, _, _, ho, hs => s2_38 C hd ho hs okl oks P
  | 39, _, _, ho, hs => s2_39 C hd ho hs okl oks P
  | 40, _, _, ho, hs => s2_40 C hd ho hs okl oks P
  | 41, _, _, ho, hs => s2_41 C hd ho hs okl oks P
  | 42, _, _, ho, hs => s2_42 C hd ho hs okl oks P
  | 43, _, _, ho, hs => s2_43 C hd ho hs okl oks P
  | 44, _, _, ho, hs => s2_44 C hd ho hs okl oks P
  | 45, _, _, ho, hs => s2_45 C hd ho hs okl oks P
  | 46, _, _, ho, hs => s2_46 C hd ho hs okl oks P
  | 47, _, _, ho, hs => s2_47 C hd ho hs okl oks P
  | 48, _, _, ho, hs => s2_48 C hd ho hs okl oks P
  | 49, _, _, ho, hs => s2_49 C hd ho hs okl oks P
  | 50, _, _, ho, hs => s2_50 C hd ho hs okl oks P
  | 51, _, _, ho, hs => s2_51 C hd ho hs okl oks P
  | 52, _, _, ho, hs => s2_52 C hd ho hs okl oks P
  | 53, _, _, ho, hs => by
    have h7 : mu = 177 := by simp only [okT, Bool.and_eq_true, decide_eq_true_eq] at ho; exact ho.1
    obtain ⟨x1, x2, x3, x4⟩ := hX h7
    exact s2_53 C hd ho hs okl oks P x1 x2 x3 x4 C.2.2.2.2.2.2.2.2.2.2.1
  | 54, _, _, ho, hs => by
    have h7 : mu = 177 := by simp only [okT, Bool.and_eq_true, decide_eq_true_eq] at ho; exact ho.1
    obtain ⟨x1, x2, x3, x4⟩ := hX h7
    exact s2_54 C hd ho hs okl oks P x1 x2 x3 x4 C.2.2.2.2.2.2.2.2.2.2.1
  | n + 55, q, _, _, _ => absurd q (by omega)
def MQc (D : va_G) (cA : Nat → ClassId) (base b : Nat) (ad : Nat → Nat) (h : Hp) (r : Option AV) (h9 : Hp) : Array Value → State → Outcome → State → Prop := fun _ st o t => ∃ ad1 : Nat → Nat, (∀ y, y < hN h → ad1 y = ad y) ∧ o = .returned (r.map (rl ad1 b)) ∧ HI h9 ∧ okS h9 r.toList ∧ va_P D clz (img cA ad1 b h9) t.heap ∧ va_D (AA base) (img cA ad1 b h9) ∧ va_F (AA base) st t
def MPc (D : va_G) (cA : Nat → ClassId) (base b : Nat) (ad : Nat → Nat) (h : Hp) (as : List AV) : Array Value → State → Prop := va_Pc (as.map (rl ad b)) (fun U => base ≤ U.heap.size ∧ va_P D clz (img cA ad b h) U.heap ∧ va_K D clz (tysA cA) U ∧ NS U ∧ va_D (AA base) (img cA ad b h))
/-- a run of the small machine from a place in a method is one of the large one -/
def SND (l : Launch) (D : va_G) (cA : Nat → ClassId) (base b : Nat) (sc : Scr) (n : Nat) : Prop :=
  ∀ (mu i : Nat) (ls : ALS) (st : List AV) (h : Hp) (r : Option AV) (h9 : Hp), run PP sc n mu ((codeT mu).drop i) ls st h = some (r, h9) → mu < 178 →
    ∀ (p : Program) (e : Env) (R : Room) (s : State) (m : MethodId) (args : Array Value) (below : List Frame) (meth : Method) (c : Code) (Q : State → Prop) (ad : Nat → Nat) (H : Heap) (locs : List Loc) (cells slots : Nat), Cx p R s m args meth c D cA base mu → (mu = 177 → SX b base sc s) → ls.length = mL mu → okL h ls → okS h st → Pt3 D cA base b ad s h H locs →
      cells + (hN h9 - hN h) ≤ R.cells → slots + (hS h9 - hS h) ≤ R.slots →
      (∀ (pc : Nat) (ad1 : Nat → Nat) (H1 : Heap) (locs1 : List Loc) (lsC : Array Slot) (t : Nat), (∀ y, y < hN h → ad1 y = ad y) → Pt3 D cA base b ad1 s h9 H1 locs1 → okS h9 r.toList → RT mu pc t r → W p l e R s m args below meth c H1 locs1 (cells + (hN h9 - hN h)) (slots + (hS h9 - hS h)) Q (F0 m pc lsC (r.toList.map (rl ad1 b)))) →
      Nx p l e R s m args below meth c Q b mu (pcA mu i) ls st ad H locs cells slots
theorem pcA_0 {v : Nat} (hv : v < 178) : pcA v 0 = 0 := by
  have hc := ck_ok v hv
  unfold okM at hc
  rw [Bool.and_eq_true] at hc
  have h2 := hc.2
  unfold pcA
  split at h2
  · next q => rw [q]; rfl
  · cases h2
theorem call_met {n v : Nat} {ls0 : ALS} {as : List AV} {h2 : Hp} {r1 : Option AV} (ih : SND l D cA base b sc n) (hv : v < 177) (hrun : run PP sc n v (codeT v) ls0 [] h = some (r1, h2)) (hent : ent (mL v) as = some ls0) (hok : okS h as) (hh : HI h) :
    Met l (mY v) (wsm v) { frames := mF v, cells := hN h2 - hN h, slots := hS h2 - hS h, locals := mO v } (MPc D cA base b ad h as) (MQc D cA base b ad h r1 h2) (hN h2 - hN h) (hS h2 - hS h) (AA base) := by
  have hv8 : v < 178 := by omega
  refine Met.ofW (cc := mB v) (maxL := mL v) (ret := mR v) (plain_all hv8).2.2.2 rfl ?_
  intro p e s m args0 below meth c s₁ B hml hv0
  obtain ⟨rfl, hsz, hP, hK, hNS, hD⟩ := hv0
  have hts := atoms_spec (ws := wsm v) B.pre
  have hown : s.vm.findClass (cnm (mC v)) = some m.cls := by
    have h3 := findClass_of_methodNamed B.named
    rw [(plain_all hv8).2.2.1] at h3
    exact h3
  have hin : meth.name = (mY v).name := (name_of_methodNamed B.named B.method).1
  have C : Cx p (headSpec (wsm v) { frames := mF v, cells := hN h2 - hN h, slots := hS h2 - hS h, locals := mO v }).room s m (as.map (rl ad b)).toArray meth c D cA base v := ⟨B.exec, B.bytes, hml, hown, fun w hw => hts w (List.mem_cons_of_mem _ hw), hK, hNS, B.returns, B.notSynchronized, fun q => hin.trans (by simpa [isInit] using q), hsz, Nat.le_refl _, Nat.le_refl _⟩
  obtain ⟨e1, e2, e3, e4⟩ := ent_spec (ad := ad) (b := b) hent hok
  have hl := lv_entry (as.map (rl ad b)) (n := mL v) e2
  rw [lg_entry_eq]
  have P : Pt3 D cA base b ad s h s.heap [] := ⟨hh, hP, hD, va_S.rf⟩
  have w := ih v 0 ls0 [] h r1 h2 (by simpa using hrun) hv8 p e (headSpec (wsm v) { frames := mF v, cells := hN h2 - hN h, slots := hS h2 - hS h, locals := mO v }).room s m (as.map (rl ad b)).toArray below meth c (MQ below (MQc D cA base b ad h r1 h2) (as.map (rl ad b)).toArray s (hN h2 - hN h) (hS h2 - hS h) (AA base)) ad s.heap [] 0 0 C (fun q => absurd q (by omega)) e1 e3 (fun v hv => by simp at hv) P (by rw [Nat.zero_add]; exact Nat.le_refl _) (by rw [Nat.zero_add]; exact Nat.le_refl _)
    (fun pc ad1 H1 locs1 lsC t ha P1 okr hrt => by
      rw [Nat.zero_add, Nat.zero_add]
      have hlocks := B.notSynchronized
      rcases hrt with ⟨hd, hr, rfl⟩ | ⟨hd, hr, x, rfl⟩ | ⟨hd, hr, x, rfl⟩ | ⟨hd, hr, x, rfl⟩ | ⟨hd, hr, x, rfl, hx⟩
      · exact W.vret B.exec B.bytes (B.returns.trans hr) (fun t ht hW => ⟨ad1, ha, rfl, P1.1, okr, by rw [ht]; exact P1.2.1, P1.2.2.1, P1.2.2.2.F ht⟩) P1.2.2.2.2.2 hd
      · exact W.iret B.exec B.bytes (B.returns.trans hr) (fun t ht hW => ⟨ad1, ha, rfl, P1.1, okr, by rw [ht]; exact P1.2.1, P1.2.2.1, P1.2.2.2.F ht⟩) P1.2.2.2.2.2 hd
      · exact W.lret B.exec B.bytes (B.returns.trans hr) (fun t ht hW => ⟨ad1, ha, rfl, P1.1, okr, by rw [ht]; exact P1.2.1, P1.2.2.1, P1.2.2.2.F ht⟩) P1.2.2.2.2.2 hd
      · cases hq : mR v with
        | none => rw [hq] at hr; cases hr
        | some ty =>
          rw [hq] at hr
          refine W.aret (rt := ty) B.exec B.bytes (B.returns.trans hq) ?_ ?_ (fun t ht hW => ⟨ad1, ha, rfl, P1.1, okr, by rw [ht]; exact P1.2.1, P1.2.2.1, P1.2.2.2.F ht⟩) P1.2.2.2.2.2 hd
          · cases ty <;> first | exact Or.inl ⟨_, rfl⟩ | exact Or.inr ⟨_, rfl⟩ | cases hr
          · show va_rf (rf ad1 b x) = .null ∨ ∃ a, va_rf (rf ad1 b x) = .ref a
            cases rf ad1 b x with
            | none => exact Or.inl rfl
            | some y => exact Or.inr ⟨y, rfl⟩
      · refine W.zret B.exec B.bytes (B.returns.trans hr) ?_ (fun t ht hW => ⟨ad1, ha, rfl, P1.1, okr, by rw [ht]; exact P1.2.1, P1.2.2.1, P1.2.2.2.F ht⟩) P1.2.2.2.2.2 hd
        exact nar_z (by rcases hx with rfl | rfl <;> rfl))
    _ ⟨hl.1, hl.2.1, fun q hq => hl.2.2 q (e4 0 q hq)⟩
  rw [pcA_0 hv8] at w
  exact w
theorem call_go {mc ms : Nat} {A0 : Array Value} {r1 : Option AV} {h2 : Hp} {st0 : List Value} (hr : va_Run p l e R s m args below meth c H locs cells slots mc ms (F0 m pc lsC st0) rest (MQc D cA base b ad h r1 h2 A0) (AA base)) (P : Pt3 D cA base b ad s h H locs)
    (kk : ∀ ad1 H1 locs1, (∀ y, y < hN h → ad1 y = ad y) → Pt3 D cA base b ad1 s h2 H1 locs1 → okS h2 r1.toList → W p l e R s m args below meth c H1 locs1 (cells + mc) (slots + ms) Q (F0 m (pc + 3) lsC (r1.toList.map (rl ad1 b) ++ rest))) : W p l e R s m args below meth c H locs cells slots Q (F0 m pc lsC st0) := by
  intro T hT X
  obtain ⟨v, st₀, t, T', L, h0, X', hL, e1, e2, ⟨ad1, ha, hv, hh2, hok, hP, hD, hF⟩, st⟩ := hr T hT X
  cases hv
  unfold va_F at hF
  rw [h0] at hF
  have P1 : Pt3 D cA base b ad1 s h2 T'.heap (locs ++ L) := by
    rw [e1]
    refine ⟨hh2, hP, hD, Nat.le_trans P.2.2.2.1 hF.1, fun q h3 h4 => ?_, fun q hq => ?_⟩
    · rw [hF.2 q (Nat.lt_of_lt_of_le h3 P.2.2.2.1) h4]
      exact P.2.2.2.2.1 q h3 h4
    · rcases List.mem_append.mp hq with h5 | h5
      · exact P.2.2.2.2.2 q h5
      · exact hL q h5
  have k := kk ad1 T'.heap (locs ++ L) ha P1 hok
  have el : (r1.map (rl ad1 b)).toList = r1.toList.map (rl ad1 b) := by cases r1 <;> rfl
  rw [← el] at k
  obtain ⟨t2, a1, b1⟩ := k T' rfl X'
  exact ⟨t2, st t2 a1, b1⟩
theorem blind (as : List AV) : FrameBlind (MPc D cA base b ad h as) := by
  intro a U g mk q
  obtain ⟨q0, q1, qP, qK, qN, qD⟩ := q
  exact ⟨q0, q1, qP, va_K.moved (u := U) (U := U.calling g mk a) (Vm.Alike.refl U.vm) qK, ⟨fun e he => va_Nw.same rfl (u := U) (U := U.calling g mk a) rfl (qN.1 e he), va_AO.moved (u := U) (U := U.calling g mk a) (Vm.Alike.refl U.vm) qN.2⟩, qD⟩
theorem pre_of (C : Cx p R s m args meth c D cA base mu) (P : Pt3 D cA base b ad s h H locs) (as : List AV) : ∀ U : State, U.heap = H → s.WarmedH U.vm → MPc D cA base b ad h as (as.map (rl ad b)).toArray U := by
  intro U hU hW
  refine ⟨rfl, ?_, by rw [hU]; exact P.2.1, va_K.moved hW.alike C.2.2.2.2.2.1, ⟨fun e he => va_Nw.warmM hW (C.2.2.2.2.2.2.1.1 e he), va_AO.moved hW.alike C.2.2.2.2.2.2.1.2⟩, P.2.2.1⟩
  rw [hU]
  exact Nat.le_trans C.2.2.2.2.2.2.2.2.2.2.1 P.2.2.2.1
theorem cok_spec {m v k : Nat} (h : cok m v k = true) : v ∈ alist ∧ mF v + 1 ≤ mF m ∧ 8 + (mL v + 11) + mO v ≤ mO m ∧ mC v < 11 := by
  unfold cok at h
  simp only [Bool.and_eq_true, decide_eq_true_eq] at h
  exact ⟨by simpa using h.1, h.2.1, h.2.2.1, h.2.2.2⟩
theorem alist_177 : ∀ v ∈ alist, v < 177 := by decide +kernel
theorem callB_my (C : Cx p R s m args meth c D cA base mu) {v k k2 idx mc ms : Nat} (hc : cok mu v k2 = true) (hp : params (mY v).desc = some k) (hl : (mC mu, idx, v) ∈ mlist) : CallB R s args (cnm (mC mu)) idx (mY v) (mB v) (mL v) (mR v) (wsm v) { frames := mF v, cells := mc, slots := ms, locals := mO v } mc ms k := by
  obtain ⟨h1, h2, h3, h4⟩ := cok_spec hc
  have hpl := plain_all (alist_lt v h1)
  have hF := C.2.2.2.2.2.2.2.2.2.2.2
  exact callB_of (Ts := wAll) k C.2.2.2.2.1 (good_wsm h1) rfl rfl rfl (by rw [hpl.2.2.1]; exact C.2.2.2.2.1 _ (mem_wZ (List.mem_map.mpr ⟨mC v, List.mem_range.mpr h4, rfl⟩))) (C.2.2.2.2.1 _ (mem_wM (List.mem_map.mpr ⟨_, hl, rfl⟩))) ⟨hpl.1, hpl.2.1, hp⟩ ⟨Nat.le_trans h2 hF.1, Nat.le_trans h3 hF.2⟩
theorem callN_my (C : Cx p R s m args meth c D cA base mu) {v k k2 idx mc ms : Nat} (hc : cok mu v k2 = true) (hp : params (mY v).desc = some k) (hl : (mC mu, idx, v, 5) ∈ nlist) : va_CN R s args (cnm (mC mu)) idx (mY v) (cnm 5) (mB v) (mL v) (mR v) (wsm v) { frames := mF v, cells := mc, slots := ms, locals := mO v } mc ms k := by
  obtain ⟨h1, h2, h3, h4⟩ := cok_spec hc
  have hpl := plain_all (alist_lt v h1)
  have hF := C.2.2.2.2.2.2.2.2.2.2.2
  have hn : va_Nw (.methodLinkNest (cnm (mC mu)) idx (mY v) (cnm 5)) s := C.2.2.2.2.2.2.1.1 (mC mu, idx, v, 5) hl
  have hz : (Cond.initialized (mY v).cls).before args s = true := by rw [hpl.2.2.1]; exact C.2.2.2.2.1 _ (mem_wZ (List.mem_map.mpr ⟨mC v, List.mem_range.mpr h4, rfl⟩))
  exact va_cnB (own := cnm (mC mu)) (host := cnm 5) (index := idx) (maxL := mL v) (mc := mc) (ms := ms) (y := mY v) (bytes := mB v) (ret := mR v) (ws := wsm v) (ws' := wAll) (rm := { frames := mF v, cells := mc, slots := ms, locals := mO v }) (Ts := wAll) k C.2.2.2.2.1 (good_wsm h1) rfl rfl rfl hn hz ⟨hpl.1, hpl.2.1, hp⟩ ⟨Nat.le_trans h2 hF.1, Nat.le_trans h3 hF.2⟩
end Main
