/-! THE CLAIM OUT OF ONE WALK OF THE LAW'S BODY. Your part is whole_start (and what it stands on); all else here is the same for every law, but numbers. -/
def R_law : String := "SliceLoomLaw"
def lw_P (b : Addr) (xs : List Int32) (args : Array Value) (s : State) : Prop := args = #[.ref b] ∧ s.IntsAt b xs ∧ xs.length ≤ 3072 ∧ (Jvm.Cond.and given_1 narrow_1).before args s = true
def lw_Q (_ : Array Value) (s : State) (o : Outcome) (t : State) : Prop := o = .returned (some (.int 1)) ∧ Framed s o t [] 600000 7302250
def lw_Z (below : List Frame) (a : Array Value) (s : State) : State → Prop := fun t => ∃ o, t.status = .running ∧ Ended t below o ∧ lw_Q a s o t
/-- the law's own end, with 1 on the stack, nothing written that was there before, its room as the claim has it -/
theorem lw_ret {p : Program} {l : Launch} {e : Env} {s : State} {m : MethodId} {below : List Frame} {meth : Method} {c : Code} {b : Nat} (hx : p.tables.exec = Jvm.exec) (hb : c.code = code) (hr : meth.sig.returnType = ret) (hlocks : meth.locks = false) {pc : Nat} {H : Heap} {ls : Array Slot} (hdg : decode code pc = .ok (.ireturn, 1)) : W p l e room_1 s m #[Value.ref b] below meth c H [] 600000 7302250 (lw_Z below #[Value.ref b] s) (F0 m pc ls [.int 1]) := by
  intro T hT X
  obtain ⟨fs, hret, hrun, hended, hW, hframe⟩ := X.leave (v := some (.int 1)) (hlocks := hlocks) (fun h => by rw [hr] at h; cases h)
  have hmeth' : T.vm.method? m = some meth := X.method'
  refine ⟨T.setFrames fs, ?_, .returned (some (.int 1)), hrun, hended, rfl, ⟨_, rfl⟩, hW, hframe⟩
  jvm_step X.here [X.here.top, hx, hb, hdg, hmeth', hr, ret, narrow_b1]
  (try refine ⟨rfl, ?_⟩); (try refine ⟨rfl, ?_⟩)
  first | (intro acts; rw [hret _ acts rfl rfl rfl]) | rw [hret _ _ rfl rfl rfl]
  exact Steps.refl _
/-- what holds at the law's entry: the machine, the code, the tables' words (any of lw_tbl by 'hts w (by decide +kernel)'), the script of L ints xs at the cell b, what the Statement gives of the start (any of its parts by flat_of_before) -/
def lw_At (p : Program) (s : State) (m : MethodId) (meth : Method) (c : Code) (b L : Nat) (xs : Nat → Int32) : Prop :=
  p.tables.exec = Jvm.exec ∧ c.code = code ∧ meth.sig.returnType = ret ∧ c.maxLocals = 4 ∧ s.vm.findClass R_law = some m.cls ∧ (∀ w ∈ lw_tbl, w.before #[Value.ref b] s = true) ∧ va_X b L xs s s.heap ∧ b < s.heap.size ∧ meth.locks = false ∧ (Jvm.Cond.and given_1 narrow_1).before #[Value.ref b] s = true

/-! ===== the law's run of the small machine gives the claim ===== -/
set_option maxRecDepth 100000 in
theorem nst_in : ∀ w ∈ nlist.map (fun e => Cond.methodLinkNest (cnm e.1) e.2.1 (mY e.2.2.1) (cnm e.2.2.2)), w ∈ lw_tbl := by
  have h : nlist.map (fun e => Cond.methodLinkNest (cnm e.1) e.2.1 (mY e.2.2.1) (cnm e.2.2.2)) = [92, 207, 238, 86, 201].filterMap (fun i => lw_tbl[i]?) := rfl
  intro w hw
  rw [h] at hw
  obtain ⟨i, -, hi⟩ := List.mem_filterMap.mp hw
  exact List.mem_of_getElem? hi
set_option maxRecDepth 100000 in
theorem ao_in : Cond.arrayOver (.object RX4) ∈ lw_tbl := List.mem_of_getElem? (i := 83) rfl
def h00 : Hp := ((2, 0), fun _ => (0, 0), fun _ _ => 0, fun _ _ => 0, fun _ _ => 0)
theorem HI_00 : HI h00 := ⟨Nat.le_refl _, fun _ _ => rfl, fun _ _ => inR_0, fun _ _ => (by decide : 0 < 2), fun _ => Nat.zero_le _⟩
/-- WHAT IS LEFT: of every script the law's run of the small machine ends and answers 1, in its room -/
def LawGood : Prop := ∀ sc : Scr, sc.1 ≤ 3072 → (∀ j, inR (sc.2 j)) → ∃ n h9, run PP sc n 177 (codeT 177) [some (aR 1), none, none, none] [] h00 = some (some (aI 1), h9) ∧ hN h9 ≤ 600002 ∧ hS h9 ≤ 7302250
theorem known_all {s : State} {args : Array Value} (hts : ∀ w ∈ wAll, w.before args s = true) (hao : va_AO RX4 s) : ∃ (D : va_G) (cA : Nat → ClassId), va_K D clz (tysA cA) s := by
  have hex : ∀ ci : Nat, ∃ z : ClassId × (Nat → Nat), ci < 7 → u_Kn s (cnm ci) (fT ci) (nF ci) z.1 z.2 := by
    intro ci
    by_cases h7 : ci < 7
    · obtain ⟨cC, iS, h1⟩ := u_known (n := nF ci) hts (uws_in ci h7) (hts _ (mem_wN (List.mem_map.mpr ⟨ci, List.mem_range.mpr h7, rfl⟩)))
      exact ⟨(cC, iS), fun _ => h1⟩
    · exact ⟨(0, fun _ => 0), fun q => absurd q h7⟩
  obtain ⟨f, hf⟩ := Classical.skolem.mp hex
  obtain ⟨a1, k1, p1, e1, g1, q1⟩ := Cond.arrayClass_spec (hts _ (mem_wA (by decide : Cond.arrayClass .int ∈ wA)))
  obtain ⟨a2, k2, p2, e2, g2, q2⟩ := Cond.arrayClass_spec (hts _ (mem_wA (by decide : Cond.arrayClass .long ∈ wA)))
  obtain ⟨a3, k3, p3, e3, g3, q3⟩ := Cond.arrayClass_spec (hts _ (mem_wA (by decide : Cond.arrayClass .boolean ∈ wA)))
  obtain ⟨p4, a4, k4, i4, -, g4, q4, e4⟩ := Cond.arrayOver_spec hao
  refine ⟨(fun c => (f c).1, fun c => (f c).2), fun k => if k = 1 then a1 else if k = 2 then a2 else if k = 3 then a3 else a4, fun c q hq => ?_, fun k q hq => ?_⟩
  · have h7 : c < 7 := (List.getElem?_eq_some_iff.mp hq).1
    rw [clz_at c h7] at hq
    cases hq
    exact hf c h7
  · match k, hq with
    | 0, hq => cases hq; exact ⟨fun n z => ⟨fun k h => (by cases h), k1, g1, p1, q1⟩, e1⟩
    | 1, hq => cases hq; exact ⟨fun n z => ⟨fun k h => (by cases h), k2, g2, p2, q2⟩, e2⟩
    | 2, hq => cases hq; exact ⟨fun n z => ⟨fun k h => (by cases h), k3, g3, p3, q3⟩, e3⟩
    | 3, hq => cases hq; exact ⟨fun n z => ⟨fun k h => (by cases h), k4, g4, p4, q4⟩, k4, p4, g4, q4, i4, e4⟩
    | n + 4, hq => cases hq
theorem whole_of (hg : LawGood) {p : Program} {e : Env} {s : State} {m : MethodId} {below : List Frame} {meth : Method} {c : Code} (l : Launch) {b L : Nat} {xs : Nat → Int32} (hL : L ≤ 3072) (C0 : lw_At p s m meth c b L xs) : W p l e room_1 s m #[Value.ref b] below meth c s.heap [] 0 0 (lw_Z below #[Value.ref b] s) (entryFrame m ([Value.ref b] : List Value).toArray 4) := by
  obtain ⟨hx, hb, hr, hml, hown, hts, hX, hbl, hlocks, -⟩ := C0
  have hw : ∀ w ∈ wAll, w.before #[Value.ref b] s = true := fun w h => hts w (g_wAll w h).1
  have hNS : NS s := ⟨fun e he => va_Nw.of rfl (hts _ (nst_in _ (List.mem_map.mpr ⟨e, he, rfl⟩))), hts _ ao_in⟩
  obtain ⟨D, cA, hK⟩ := known_all hw hNS.2
  obtain ⟨n, h9, hrun, hc9, hs9⟩ := hg (L, fun j => (xs j).toInt) hL (fun j => inR_toInt _)
  have C : Cx p room_1 s m #[Value.ref b] meth c D cA s.heap.size 177 := ⟨hx, hb, hml, hown, hw, hK, hNS, hr, hlocks, fun q => absurd q (by decide +kernel), Nat.le_refl _, by decide +kernel, by decide +kernel⟩
  have hX2 : SX b s.heap.size (L, fun j => (xs j).toInt) s := by
    refine ⟨?_, hbl, fun j => inR_toInt _, Nat.le_trans hL (by omega)⟩
    have ee : (fun j => i32 ((xs j).toInt)) = xs := funext fun j => toInt_i32 _
    show va_X b L (fun j => i32 ((xs j).toInt)) s s.heap
    rw [ee]; exact hX
  have P : Pt3 D cA s.heap.size b (fun _ => 0) s h00 s.heap [] := ⟨HI_00, fun k q hq => (by cases hq), ⟨fun i j p q hp => (by cases hp), fun k q hq => (by cases hq)⟩, va_S.rf⟩
  have m1 := run_mono hrun
  have hn0 : hN h00 = 2 := rfl
  have hs0 : hS h00 = 0 := rfl
  have hl := lv_entry ([Value.ref b] : List Value) (n := 4) (Nat.le_of_ble_eq_true rfl)
  rw [lg_entry_eq]
  have w := snd_all (l := l) (D := D) (cA := cA) (base := s.heap.size) (b := b) (sc := (L, fun j => (xs j).toInt)) n 177 0 [some (aR 1), none, none, none] [] h00 (some (aI 1)) h9 hrun (by omega) p e room_1 s m #[Value.ref b] below meth c (lw_Z below #[Value.ref b] s) (fun _ => 0) s.heap [] 0 0 C (fun _ => hX2) rfl (fun v hv => by
      have hv : v = aR 1 := by simpa using hv
      rw [hv]; exact (by decide : 1 < 2)) (fun v hv => by simp at hv) P (by show 0 + (hN h9 - hN h00) ≤ 600000; omega) (by show 0 + (hS h9 - hS h00) ≤ 7302250; omega)
    (fun pc ad1 H1 locs1 lsC t ha P1 okr hrt => by
      have hdr : decode (mB 177) pc = .ok (.ireturn, 1) := by
        rcases hrt with ⟨-, -, q⟩ | ⟨hd, -, -⟩ | ⟨-, -, x, q⟩ | ⟨-, -, x, q⟩ | ⟨hd, -, -⟩
        · cases q
        · exact hd
        · cases q
        · cases q
        · exact hd
      refine va_forget (fun q hq => P1.2.2.2.2.2 q hq) ?_
      refine W.widen (k := 600000) (n := 7302250) (by omega) (by omega) ?_
      exact lw_ret hx hb hr hlocks hdr)
    _ ⟨hl.1, hl.2.1, fun q hq => hl.2.2 q hq⟩
  rw [pcA_0 (by omega)] at w
  exact w
