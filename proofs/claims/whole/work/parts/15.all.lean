/-! ===== every run of the small machine is one of the large one ===== -/
theorem okT_lt {m : Nat} {pcs : List Nat} {pc : Nat} {ins : Instr} {ln t a : Nat} {b : Int} {L : List Nat} (h : okT m pcs pc ins ln t a b L = true) : t < 69 := by
  apply Nat.lt_of_not_le
  intro q
  unfold okT at h
  split at h <;> first | omega | cases h
theorem falls_lt {t : Nat} (h : t < 55) : falls t = true := by unfold falls; simp [h]
theorem run_lt {P : Prg} {sc : Scr} {n m t a : Nat} {b : Int} {L : List Nat} {c : List AI} {ls : ALS} {st : List AV} {h : Hp} (ht : t < 55) : run P sc (n + 1) m ((t, a, b, L) :: c) ls st h = (match sem1 sc t a b ls st h with | some (ls', st', h') => run P sc n m c ls' st' h' | none => none) := by
  conv => lhs; unfold run
  rw [if_pos ht]
  rfl
section Go
variable {p : Program} {l : Launch} {e : Env} {R : Room} {s : State} {m : MethodId} {args : Array Value} {below : List Frame} {meth : Method} {c : Code} {Q : State → Prop} {D : va_G} {cA : Nat → ClassId} {base b mu : Nat} {sc : Scr}
variable {pc a : Nat} {H : Heap} {locs : List Loc} {cells slots : Nat} {lsC : Array Slot} {rest : List Value}
theorem if_go (C : Cx p R s m args meth c D cA base mu) {cd : ClassFile.Cond} {off x : Int} {tgt : Nat} (hcd : cndI a = some cd) (ox : inR x) (hd : decode (mB mu) pc = .ok (.ifCond cd off, 3)) (ht : (pc : Int) + off = (tgt : Int))
    (kT : cnd a x 0 = true → W p l e R s m args below meth c H locs cells slots Q (F0 m tgt lsC rest)) (kF : cnd a x 0 = false → W p l e R s m args below meth c H locs cells slots Q (F0 m (pc + 3) lsC rest)) : W p l e R s m args below meth c H locs cells slots Q (F0 m pc lsC (.int (i32 x) :: rest)) := by
  match a, hcd with
  | 0, hcd =>
    cases hcd
    exact lv_if_eq C.1 C.2.1 hd ht (fun q => kT (by simpa [cnd] using (i32_eq0 ox).mp q)) (fun q => kF (by simpa [cnd] using fun z => q ((i32_eq0 ox).mpr z)))
  | 1, hcd =>
    cases hcd
    exact lv_if_ne C.1 C.2.1 hd ht (fun q => kT (by simpa [cnd] using fun z => q ((i32_eq0 ox).mpr z))) (fun q => kF (by simpa [cnd] using (i32_eq0 ox).mp q))
  | 2, hcd =>
    cases hcd
    have e1 := i32_lt ox inR_0
    rw [i32_0] at e1
    exact lv_if_lt C.1 C.2.1 hd ht (fun q => kT (by simpa [cnd] using e1.mp q)) (fun q => kF (by simpa [cnd] using fun z => q (e1.mpr z)))
  | 3, hcd =>
    cases hcd
    have e1 := i32_le inR_0 ox
    rw [i32_0] at e1
    exact lv_if_ge C.1 C.2.1 hd ht (fun q => kT (by simpa [cnd] using e1.mp q)) (fun q => kF (by simpa [cnd] using Int.lt_of_not_ge fun z => q (e1.mpr z)))
  | 4, hcd =>
    cases hcd
    have e1 := i32_lt inR_0 ox
    rw [i32_0] at e1
    exact lv_if_gt C.1 C.2.1 hd ht (fun q => kT (by simpa [cnd] using e1.mp q)) (fun q => kF (by simpa [cnd] using Int.le_of_not_gt fun z => q (e1.mpr z)))
  | 5, hcd =>
    cases hcd
    have e1 := i32_le ox inR_0
    rw [i32_0] at e1
    exact lv_if_le C.1 C.2.1 hd ht (fun q => kT (by simpa [cnd] using e1.mp q)) (fun q => kF (by simpa [cnd] using Int.lt_of_not_ge fun z => q (e1.mpr z)))
  | n + 6, hcd => cases hcd
theorem icmp_go (C : Cx p R s m args meth c D cA base mu) {cd : ClassFile.Cond} {off x y : Int} {tgt : Nat} (hcd : cndI a = some cd) (ox : inR x) (oy : inR y) (hd : decode (mB mu) pc = .ok (.if_icmp cd off, 3)) (ht : (pc : Int) + off = (tgt : Int))
    (kT : cnd a x y = true → W p l e R s m args below meth c H locs cells slots Q (F0 m tgt lsC rest)) (kF : cnd a x y = false → W p l e R s m args below meth c H locs cells slots Q (F0 m (pc + 3) lsC rest)) : W p l e R s m args below meth c H locs cells slots Q (F0 m pc lsC (.int (i32 y) :: .int (i32 x) :: rest)) := by
  match a, hcd with
  | 0, hcd =>
    cases hcd
    exact lv_icmp_eq C.1 C.2.1 hd ht (fun q => kT (by simpa [cnd] using (i32_eq ox oy).mp q)) (fun q => kF (by simpa [cnd] using fun z => q ((i32_eq ox oy).mpr z)))
  | 1, hcd =>
    cases hcd
    exact lv_icmp_ne C.1 C.2.1 hd ht (fun q => kT (by simpa [cnd] using fun z => q ((i32_eq ox oy).mpr z))) (fun q => kF (by simpa [cnd] using (i32_eq ox oy).mp q))
  | 2, hcd =>
    cases hcd
    have e1 := i32_lt ox oy
    exact lv_icmp_lt C.1 C.2.1 hd ht (fun q => kT (by simpa [cnd] using e1.mp q)) (fun q => kF (by simpa [cnd] using Int.le_of_not_gt fun z => q (e1.mpr z)))
  | 3, hcd =>
    cases hcd
    have e1 := i32_le oy ox
    exact lv_icmp_ge C.1 C.2.1 hd ht (fun q => kT (by simpa [cnd] using e1.mp q)) (fun q => kF (by simpa [cnd] using Int.lt_of_not_ge fun z => q (e1.mpr z)))
  | 4, hcd =>
    cases hcd
    have e1 := i32_lt oy ox
    exact lv_icmp_gt C.1 C.2.1 hd ht (fun q => kT (by simpa [cnd] using e1.mp q)) (fun q => kF (by simpa [cnd] using Int.le_of_not_gt fun z => q (e1.mpr z)))
  | 5, hcd =>
    cases hcd
    have e1 := i32_le ox oy
    exact lv_icmp_le C.1 C.2.1 hd ht (fun q => kT (by simpa [cnd] using e1.mp q)) (fun q => kF (by simpa [cnd] using Int.lt_of_not_ge fun z => q (e1.mpr z)))
  | n + 6, hcd => cases hcd
end Go
theorem okS_take {h : Hp} {st : List AV} {k : Nat} (ho : okS h st) : okS h (st.take k).reverse := fun v hv => ho v (List.mem_of_mem_take (List.mem_reverse.mp hv))
theorem okS_drop {h : Hp} {st : List AV} {k : Nat} (ho : okS h st) : okS h (st.drop k) := fun v hv => ho v (List.mem_of_mem_drop hv)
theorem okS_app {h : Hp} {a b : List AV} (ha : okS h a) (hb : okS h b) : okS h (a ++ b) := fun v hv => (List.mem_append.mp hv).elim (ha v) (hb v)
theorem vlist_7 : ∀ v ∈ vlist, mC v < 7 := by decide +kernel
theorem nn {α : Type} {z : α} {C : Prop} (h : (none : Option α) = some z) : C := by cases h
set_option maxHeartbeats 4000000 in
theorem snd_all {l : Launch} {D : va_G} {cA : Nat → ClassId} {base b : Nat} {sc : Scr} : ∀ n, SND l D cA base b sc n
  | 0 => fun mu i ls st h r h9 q => nn q
  | n + 1 => by
    have ih := snd_all (l := l) (D := D) (cA := cA) (base := base) (b := b) (sc := sc) n
    intro mu i ls st h r h9 q hmu p e R s m args below meth c Q ad H locs cells slots C hX hlen okl oks P hcl hsl hret
    cases hc : (codeT mu).drop i with
    | nil => rw [hc] at q; exact nn q
    | cons ai c1 =>
      obtain ⟨t, a, b2, L⟩ := ai
      obtain ⟨ins, ln, hd, ho, hf, hcc⟩ := row_at hmu hc
      rw [hc] at q
      have hpos : 0 < hN h := Nat.lt_of_lt_of_le (by omega) P.1.1
      by_cases ht : t < 55
      · rw [run_lt ht] at q
        cases hs : sem1 sc t a b2 ls st h with
        | none => rw [hs] at q; exact nn q
        | some z =>
          obtain ⟨ls1, st1, h1⟩ := z
          rw [hs] at q
          have q : run PP sc n mu c1 ls1 st1 h1 = some (r, h9) := q
          rw [hcc] at q
          have m1 := sem1_mono hs
          have m2 := run_mono q
          have hnx := hf (falls_lt ht)
          by_cases h31 : t < 31
          · obtain ⟨e1, ⟨l1, l2, l3⟩, k⟩ := s1_all (l := l) (e := e) (below := below) (Q := Q) (b := b) (ad := ad) (H := H) (locs := locs) (cells := cells) (slots := slots) C hlen hpos hd okl oks h31 ho hs
            subst e1
            apply k
            rw [← hnx]
            exact ih mu (i + 1) ls1 st1 h1 r h9 q hmu p e R s m args below meth c Q ad H locs cells slots C hX l1 l2 l3 P hcl hsl hret
          · obtain ⟨e1, o1, hh1, n1, n2, k⟩ := s2_all (l := l) (e := e) (below := below) (Q := Q) (cells := cells) (slots := slots) C hX hd okl oks P ht (by omega) ho hs
            subst e1
            refine k (by omega) (by omega) (fun ad1 H1 locs1 ha P1 => ?_)
            rw [← hnx]
            refine ih mu (i + 1) ls1 st1 h1 r h9 q hmu p e R s m args below meth c Q ad1 H1 locs1 _ _ C hX hlen (okl.mono n1) o1 P1 (by omega) (by omega) (fun pc ad2 H2 locs2 lsC t ha2 P2 okr hrt => ?_)
            have w := hret pc ad2 H2 locs2 lsC t (fun y hy => (ha2 y (Nat.lt_of_lt_of_le hy n1)).trans (ha y hy)) P2 okr hrt
            rw [show cells + (hN h1 - hN h) + (hN h9 - hN h1) = cells + (hN h9 - hN h) by omega, show slots + (hS h1 - hS h) + (hS h9 - hS h1) = slots + (hS h9 - hS h) by omega]
            exact w
      · have h69 := okT_lt ho
        have go : ∀ (i2 : Nat) (st2 : List AV), run PP sc n mu ((codeT mu).drop i2) ls st2 h = some (r, h9) → okS h st2 → Nx p l e R s m args below meth c Q b mu (pcA mu i2) ls st2 ad H locs cells slots := fun i2 st2 q2 o2 => ih mu i2 ls st2 h r h9 q2 hmu p e R s m args below meth c Q ad H locs cells slots C hX hlen okl o2 P hcl hsl hret
        have fin : ∀ (t0 : Nat), h9 = h → st = r.toList → okS h r.toList → RT mu (pcA mu i) t0 r → Nx p l e R s m args below meth c Q b mu (pcA mu i) ls st ad H locs cells slots := by
          intro t0 e9 es okr hrt lsC hl
          subst e9
          have w := hret (pcA mu i) ad H locs lsC t0 (fun _ _ => rfl) P okr hrt
          simp only [Nat.sub_self, Nat.add_zero] at w
          rw [es]
          exact w
        rcases (by omega : t = 55 ∨ t = 56 ∨ t = 57 ∨ t = 58 ∨ t = 59 ∨ t = 60 ∨ t = 61 ∨ t = 62 ∨ t = 63 ∨ t = 64 ∨ t = 65 ∨ t = 66 ∨ t = 67 ∨ t = 68) with rfl | rfl | rfl | rfl | rfl | rfl | rfl | rfl | rfl | rfl | rfl | rfl | rfl | rfl
        · simp only [okT] at ho
          split at ho
          · next off =>
            rw [Bool.and_eq_true, decide_eq_true_eq] at ho
            obtain ⟨rfl, hj⟩ := ho
            intro lsC hl
            exact lv_goto C.1 C.2.1 hd (jmp_spec hj) (go a st q oks lsC hl)
          · cases ho
        · simp only [okT] at ho
          split at ho
          · next cd off =>
            simp only [Bool.and_eq_true, decide_eq_true_eq] at ho
            obtain ⟨rfl, hcd, hb0, hj⟩ := ho
            have hnx := hf rfl
            rcases st with _ | ⟨x | x | x, st⟩
            · exact nn q
            · have ov := okS_cons.mp oks
              have q : (if cnd a x 0 = true then run PP sc n mu ((codeT mu).drop b2.toNat) ls st h else run PP sc n mu c1 ls st h) = some (r, h9) := q
              intro lsC hl
              refine if_go C hcd ov.1 hd (jmp_spec hj) (fun hq => ?_) (fun hq => ?_)
              · rw [if_pos hq] at q
                exact go _ st q ov.2 lsC hl
              · rw [if_neg (by rw [hq]; decide), hcc] at q
                rw [← hnx]
                exact go _ st q ov.2 lsC hl
            · exact nn q
            · exact nn q
          · cases ho
        · simp only [okT] at ho
          split at ho
          · next cd off =>
            simp only [Bool.and_eq_true, decide_eq_true_eq] at ho
            obtain ⟨rfl, hcd, hb0, hj⟩ := ho
            have hnx := hf rfl
            rcases st with _ | ⟨y | y | y, _ | ⟨x | x | x, st⟩⟩
            · exact nn q
            · exact nn q
            · have ov := okS_cons.mp oks
              have ov2 := okS_cons.mp ov.2
              have q : (if cnd a x y = true then run PP sc n mu ((codeT mu).drop b2.toNat) ls st h else run PP sc n mu c1 ls st h) = some (r, h9) := q
              intro lsC hl
              refine icmp_go C hcd ov2.1 ov.1 hd (jmp_spec hj) (fun hq => ?_) (fun hq => ?_)
              · rw [if_pos hq] at q
                exact go _ st q ov2.2 lsC hl
              · rw [if_neg (by rw [hq]; decide), hcc] at q
                rw [← hnx]
                exact go _ st q ov2.2 lsC hl
            all_goals exact nn q
          · cases ho
        · simp only [okT] at ho
          split at ho
          · next off =>
            rw [Bool.and_eq_true, decide_eq_true_eq] at ho
            obtain ⟨rfl, hj⟩ := ho
            have hnx := hf rfl
            rcases st with _ | ⟨x | x | x, st⟩
            · exact nn q
            · exact nn q
            · exact nn q
            · have ov := okS_cons.mp oks
              have q : (if x = 0 then run PP sc n mu ((codeT mu).drop a) ls st h else run PP sc n mu c1 ls st h) = some (r, h9) := q
              intro lsC hl
              show W p l e R s m args below meth c H locs cells slots Q (F0 m (pcA mu i) lsC (va_rf (rf ad b x) :: st.map (rl ad b)))
              by_cases hx : x = 0
              · rw [if_pos hx] at q
                rw [show rf ad b x = none by unfold rf; rw [if_pos hx]]
                exact lv_ifnullN C.1 C.2.1 hd (jmp_spec hj) (go _ st q ov.2 lsC hl)
              · rw [if_neg hx, hcc] at q
                obtain ⟨y, hy⟩ : ∃ y, rf ad b x = some y := by unfold rf; rw [if_neg hx]; split <;> exact ⟨_, rfl⟩
                rw [hy]
                refine lv_ifnull C.1 C.2.1 hd ?_
                rw [← hnx]
                exact go _ st q ov.2 lsC hl
          · cases ho
        · simp only [okT] at ho
          split at ho
          · next off =>
            rw [Bool.and_eq_true, decide_eq_true_eq] at ho
            obtain ⟨rfl, hj⟩ := ho
            have hnx := hf rfl
            rcases st with _ | ⟨x | x | x, st⟩
            · exact nn q
            · exact nn q
            · exact nn q
            · have ov := okS_cons.mp oks
              have q : (if x = 0 then run PP sc n mu c1 ls st h else run PP sc n mu ((codeT mu).drop a) ls st h) = some (r, h9) := q
              intro lsC hl
              show W p l e R s m args below meth c H locs cells slots Q (F0 m (pcA mu i) lsC (va_rf (rf ad b x) :: st.map (rl ad b)))
              by_cases hx : x = 0
              · rw [if_pos hx, hcc] at q
                rw [show rf ad b x = none by unfold rf; rw [if_pos hx]]
                refine lv_ifnonnullN C.1 C.2.1 hd ?_
                rw [← hnx]
                exact go _ st q ov.2 lsC hl
              · rw [if_neg hx] at q
                obtain ⟨y, hy⟩ : ∃ y, rf ad b x = some y := by unfold rf; rw [if_neg hx]; split <;> exact ⟨_, rfl⟩
                rw [hy]
                exact lv_ifnonnull C.1 C.2.1 hd (jmp_spec hj) (go _ st q ov.2 lsC hl)
          · cases ho
        · simp only [okT, Bool.and_eq_true, decide_eq_true_eq] at ho
          obtain ⟨⟨rfl, rfl⟩, hr⟩ := ho
          rcases st with _ | ⟨x, st⟩
          · cases (show (some (none, h) : Option Out) = some (r, h9) from q)
            exact fin 60 rfl rfl (fun v hv => by simp at hv) (Or.inl ⟨hd, hr, rfl⟩)
          · exact nn q
        · simp only [okT, Bool.and_eq_true, decide_eq_true_eq] at ho
          obtain ⟨⟨rfl, rfl⟩, hr⟩ := ho
          rcases st with _ | ⟨x | x | x, _ | ⟨w, st⟩⟩
          · exact nn q
          · cases (show (some (some (aI x), h) : Option Out) = some (r, h9) from q)
            exact fin 61 rfl rfl oks (Or.inr (Or.inl ⟨hd, hr, x, rfl⟩))
          all_goals exact nn q
        · simp only [okT, Bool.and_eq_true, decide_eq_true_eq] at ho
          obtain ⟨⟨rfl, rfl⟩, hr⟩ := ho
          rcases st with _ | ⟨x | x | x, _ | ⟨w, st⟩⟩
          · exact nn q
          · exact nn q
          · exact nn q
          · cases (show (some (some (aL x), h) : Option Out) = some (r, h9) from q)
            exact fin 62 rfl rfl oks (Or.inr (Or.inr (Or.inl ⟨hd, hr, x, rfl⟩)))
          all_goals exact nn q
        · simp only [okT, Bool.and_eq_true, decide_eq_true_eq] at ho
          obtain ⟨⟨rfl, rfl⟩, hr⟩ := ho
          rcases st with _ | ⟨x | x | x, _ | ⟨w, st⟩⟩
          · exact nn q
          · exact nn q
          · exact nn q
          · exact nn q
          · exact nn q
          · have q : ((if x == 1 then none else some (some (aR x))) : Option (Option AV)).map (fun r => (r, h)) = some (r, h9) := q
            by_cases hx : (x == 1) = true
            · rw [if_pos hx] at q; exact nn q
            · rw [if_neg hx] at q
              cases q
              exact fin 63 rfl rfl oks (Or.inr (Or.inr (Or.inr (Or.inl ⟨hd, hr, x, rfl⟩))))
          · exact nn q
        · simp only [okT, Bool.and_eq_true, decide_eq_true_eq] at ho
          obtain ⟨⟨rfl, rfl⟩, hr⟩ := ho
          rcases st with _ | ⟨x | x | x, _ | ⟨w, st⟩⟩
          · exact nn q
          · have q : ((if x = 0 ∨ x = 1 then some (some (.inl x)) else none) : Option (Option AV)).map (fun r => (r, h)) = some (r, h9) := q
            by_cases hx : x = 0 ∨ x = 1
            · rw [if_pos hx] at q
              cases q
              exact fin 64 rfl rfl oks (Or.inr (Or.inr (Or.inr (Or.inr ⟨hd, hr, x, rfl, hx⟩))))
            · rw [if_neg hx] at q; exact nn q
          all_goals exact nn q
        · simp only [okT] at ho
          split at ho
          · next d lo hi os =>
            simp only [Bool.and_eq_true, decide_eq_true_eq] at ho
            obtain ⟨hj, e1, e2, hos⟩ := ho
            rw [e1, e2] at hd
            rcases st with _ | ⟨x | x | x, st⟩
            · exact nn q
            · have ov := okS_cons.mp oks
              have q : run PP sc n mu ((codeT mu).drop (tsw x b2 a L)) ls st h = some (r, h9) := q
              obtain ⟨t1, t2⟩ := tsw_spec (x := x) (d := a) (lo := b2) hos
              rw [Array.length_toList] at t1 t2
              intro lsC hl
              have w := go _ st q ov.2 lsC hl
              by_cases hx : x < b2 ∨ b2 + os.size - 1 < x
              · rw [t1 (by omega)] at w
                exact lv_tableOut C.1 C.2.1 hd (by rw [i32_toInt ov.1]; exact hx) (jmp_spec hj) w
              · obtain ⟨off, e1, e2⟩ := t2 (by omega) (by omega)
                exact lv_tableIn (off := off) C.1 C.2.1 hd (by rw [i32_toInt ov.1]; omega) (by rw [i32_toInt ov.1]; omega) (by rw [i32_toInt ov.1, ← Array.getElem?_toList]; exact e1) (jmp_spec e2) w
            · exact nn q
            · exact nn q
          · cases ho
        · simp only [okT] at ho
          split at ho
          · next d ps =>
            simp only [Bool.and_eq_true] at ho
            obtain ⟨hj, hp, hos⟩ := ho
            rcases st with _ | ⟨x | x | x, st⟩
            · exact nn q
            · have ov := okS_cons.mp oks
              have q : run PP sc n mu ((codeT mu).drop (lsw x a L)) ls st h = some (r, h9) := q
              intro lsC hl
              have w := go _ st q ov.2 lsC hl
              exact lv_lookup C.1 C.2.1 hd hp (by rw [i32_toInt ov.1]) (jmp_spec (lsw_spec (x := x) hj hos)) w
            · exact nn q
            · exact nn q
          · cases ho
        · simp only [okT] at ho
          split at ho
          · next idx =>
            simp only [Bool.and_eq_true, decide_eq_true_eq] at ho
            obtain ⟨rfl, hml, hsl1, hck, hpar⟩ := ho
            have hml : (mC mu, idx, a) ∈ mlist := by simpa using hml
            have hsl1 : a ∈ slist := by simpa using hsl1
            have hnx := hf rfl
            have q : (if (decide (st.length < b2.toNat) || decide (b2.toNat + 4 < st.length)) = true then none else (match ent (mL a) (st.take b2.toNat).reverse with | some l0 => (match run PP sc n a (codeT a) l0 [] h with | some (r, h') => run PP sc n mu c1 ls (r.toList ++ st.drop b2.toNat) h' | none => none) | none => none)) = some (r, h9) := q
            by_cases hln : (decide (st.length < b2.toNat) || decide (b2.toNat + 4 < st.length)) = true
            · rw [if_pos hln] at q; exact nn q
            · rw [if_neg hln] at q
              simp only [Bool.or_eq_true, decide_eq_true_eq, not_or] at hln
              cases hent : ent (mL a) (st.take b2.toNat).reverse with
              | none => rw [hent] at q; exact nn q
              | some l0 =>
                rw [hent] at q
                cases hrun : run PP sc n a (codeT a) l0 [] h with
                | none => simp only [hrun] at q; exact nn q
                | some z =>
                  obtain ⟨r1, h2⟩ := z
                  simp only [hrun] at q
                  rw [hcc] at q
                  have m1 := run_mono hrun
                  have m2 := run_mono q
                  have ha1 := (cok_spec hck).1
                  have hM := call_met (ad := ad) ih (alist_177 a ha1) hrun hent (okS_take oks) P.1
                  intro lsC hl
                  have hst : st.map (rl ad b) = (((st.take b2.toNat).reverse).map (rl ad b)).reverse ++ (st.drop b2.toNat).map (rl ad b) := by
                    rw [List.map_reverse, List.reverse_reverse, ← List.map_append, List.take_append_drop]
                  have hR := va_runS (As := ((st.take b2.toNat).reverse).map (rl ad b)) (rest := (st.drop b2.toNat).map (rl ad b)) (g := F0 m (pcA mu i) lsC (st.map (rl ad b))) (cells := cells) (slots := slots) (locs := locs) (e := e) (below := below) (meth := meth) ⟨C.1, C.2.1, C.2.2.1, C.2.2.2.1, C.2.2.2.2.1⟩ hM ⟨callB_my C hck hpar hml, C.2.2.2.2.1 _ (mem_wS (List.mem_map.mpr ⟨a, hsl1, rfl⟩))⟩ ⟨blind _, pre_of C P _⟩ rfl (by simp; omega) hl.1 hst (lv_room (Nat.le_trans (cat_sum _) (by simp; omega))) hd ⟨by omega, by omega⟩
                  refine call_go hR P (fun ad1 H1 locs1 ha P1 okr => ?_)
                  rw [← rls_congr ha (okS_drop oks), ← List.map_append, ← hnx]
                  refine ih mu (i + 1) ls (r1.toList ++ st.drop b2.toNat) h2 r h9 q hmu p e R s m args below meth c Q ad1 H1 locs1 _ _ C hX hlen (okl.mono m1.1) (okS_app okr ((okS_drop oks).mono m1.1)) P1 (by omega) (by omega) (fun pc ad2 H2 locs2 lsC t ha2 P2 okr hrt => ?_) lsC (by rw [lpr_congr ha okl]; exact hl)
                  have w := hret pc ad2 H2 locs2 lsC t (fun y hy => (ha2 y (Nat.lt_of_lt_of_le hy m1.1)).trans (ha y hy)) P2 okr hrt
                  rw [show cells + (hN h2 - hN h) + (hN h9 - hN h2) = cells + (hN h9 - hN h) by omega, show slots + (hS h2 - hS h) + (hS h9 - hS h2) = slots + (hS h9 - hS h) by omega]
                  exact w
          · cases ho
        · have q : (if (decide (st.length < b2.toNat) || decide (b2.toNat + 4 < st.length) || !(rcv h L (st.take b2.toNat).reverse)) = true then none else (match ent (mL a) (st.take b2.toNat).reverse with | some l0 => (match run PP sc n a (codeT a) l0 [] h with | some (r, h') => run PP sc n mu c1 ls (r.toList ++ st.drop b2.toNat) h' | none => none) | none => none)) = some (r, h9) := q
          by_cases hln : (decide (st.length < b2.toNat) || decide (b2.toNat + 4 < st.length) || !(rcv h L (st.take b2.toNat).reverse)) = true
          · rw [if_pos hln] at q; exact nn q
          rw [if_neg hln] at q
          simp only [Bool.or_eq_true, decide_eq_true_eq, not_or, Bool.not_eq_true', Bool.not_eq_false] at hln
          obtain ⟨⟨hl1, hl2⟩, hrc⟩ := hln
          cases hent : ent (mL a) (st.take b2.toNat).reverse with
          | none => rw [hent] at q; exact nn q
          | some l0 =>
            rw [hent] at q
            cases hrun : run PP sc n a (codeT a) l0 [] h with
            | none => simp only [hrun] at q; exact nn q
            | some z =>
              obtain ⟨r1, h2⟩ := z
              simp only [hrun] at q
              rw [hcc] at q
              have m1 := run_mono hrun
              have m2 := run_mono q
              have oka := okS_take (k := b2.toNat) oks
              have hst : st.map (rl ad b) = (((st.take b2.toNat).reverse).map (rl ad b)).reverse ++ (st.drop b2.toNat).map (rl ad b) := by
                rw [List.map_reverse, List.reverse_reverse, ← List.map_append, List.take_append_drop]
              have hal : ((st.take b2.toNat).reverse).length = b2.toNat := by simp; omega
              have hnx := hf rfl
              have fin2 : ∀ (lsC : Array Slot), lv_has lsC (mL mu) (lpr ad b 0 ls) → va_Run p l e R s m args below meth c H locs cells slots (hN h2 - hN h) (hS h2 - hS h) (F0 m (pcA mu i) lsC (st.map (rl ad b))) ((st.drop b2.toNat).map (rl ad b)) (MQc D cA base b ad h r1 h2 (((st.take b2.toNat).reverse).map (rl ad b)).toArray) (AA base) → ln = 3 → W p l e R s m args below meth c H locs cells slots Q (F0 m (pcA mu i) lsC (st.map (rl ad b))) := by
                intro lsC hl hR hln3
                rw [hln3] at hnx
                refine call_go hR P (fun ad1 H1 locs1 ha P1 okr => ?_)
                rw [← rls_congr ha (okS_drop oks), ← List.map_append, ← hnx]
                refine ih mu (i + 1) ls (r1.toList ++ st.drop b2.toNat) h2 r h9 q hmu p e R s m args below meth c Q ad1 H1 locs1 _ _ C hX hlen (okl.mono m1.1) (okS_app okr ((okS_drop oks).mono m1.1)) P1 (by omega) (by omega) (fun pc ad2 H2 locs2 lsC t ha2 P2 okr hrt => ?_) lsC (by rw [lpr_congr ha okl]; exact hl)
                have w := hret pc ad2 H2 locs2 lsC t (fun y hy => (ha2 y (Nat.lt_of_lt_of_le hy m1.1)).trans (ha y hy)) P2 okr hrt
                rw [show cells + (hN h2 - hN h) + (hN h9 - hN h2) = cells + (hN h9 - hN h) by omega, show slots + (hS h2 - hS h) + (hS h9 - hS h2) = slots + (hS h9 - hS h) by omega]
                exact w
              have hM : a ∈ alist → Met l (mY a) (wsm a) { frames := mF a, cells := hN h2 - hN h, slots := hS h2 - hS h, locals := mO a } (MPc D cA base b ad h (st.take b2.toNat).reverse) (MQc D cA base b ad h r1 h2) (hN h2 - hN h) (hS h2 - hS h) (AA base) := fun ha1 => call_met (ad := ad) ih (alist_177 a ha1) hrun hent oka P.1
              generalize (st.take b2.toNat).reverse = as at *
              rcases as with _ | ⟨x | x | x, as⟩
              · cases L <;> exact absurd hrc (by simp [rcv])
              · cases L <;> exact absurd hrc (by simp [rcv])
              · cases L <;> exact absurd hrc (by simp [rcv])
              · rcases L with _ | ⟨ci, L⟩
                · exact absurd hrc (by simp [rcv])
                · have hrc : isO h x ci = true := hrc
                  have hcT : (hT h x).1 = 10 + ci := by simpa [isO] using hrc
                  obtain ⟨x2, xn⟩ := P.1.cell hcT (by omega)
                  have he := img_at (cA := cA) (ad := ad) (b := b) x2 xn
                  rw [imgE_o hcT] at he
                  have hst2 : st.map (rl ad b) = (as.map (rl ad b)).reverse ++ Value.ref (ad x) :: (st.drop b2.toNat).map (rl ad b) := by
                    rw [hst, List.map_cons, List.reverse_cons, List.append_assoc]
                    show _ ++ (rl ad b (aR x) :: _) = _
                    rw [rl_2 x2]
                    rfl
                  have hrl : ((aR x :: as).map (rl ad b)) = Value.ref (ad x) :: as.map (rl ad b) := by rw [List.map_cons, rl_2 x2]
                  have hpre := pre_of (b := b) (ad := ad) C P (aR x :: as)
                  rw [hrl] at hpre fin2
                  simp only [okT] at ho
                  split at ho
                  · next idx =>
                    simp only [Bool.and_eq_true, decide_eq_true_eq] at ho
                    obtain ⟨rfl, hml, hil, hvl, hck, hpar, hk1, hL⟩ := ho
                    have hml : (mC mu, idx, a) ∈ mlist := by simpa using hml
                    have hil : a ∈ ilist := by simpa using hil
                    have hvl : a ∈ vlist := by simpa using hvl
                    simp only [List.cons.injEq] at hL
                    obtain ⟨rfl, -⟩ := hL
                    obtain ⟨ha1, -, -, h11⟩ := cok_spec hck
                    have hci7 : mC a < 7 := vlist_7 a hvl
                    intro lsC hl
                    refine fin2 lsC hl ?_ rfl
                    exact va_runV (C := cnm (mC a)) (As := as.map (rl ad b)) (rest := (st.drop b2.toNat).map (rl ad b)) (b := ad x) ⟨C.1, C.2.1, C.2.2.1, C.2.2.2.1, C.2.2.2.2.1⟩ (hM ha1) ⟨callB_my C hck hpar hml, C.2.2.2.2.1 _ (mem_wI (List.mem_map.mpr ⟨a, hil, rfl⟩)), C.2.2.2.2.1 _ (mem_wV (List.mem_map.mpr ⟨a, hvl, rfl⟩))⟩ ⟨blind _, va_recv C.2.2.2.2.2.1 P.2.1 (ci := mC a) (q0 := x - 2) (clz_at _ hci7) he, hpre⟩ rfl (by simp at hal ⊢; omega) hl.1 hst2 (lv_room (Nat.le_trans (cat_sum _) (by simp; omega))) hd ⟨by omega, by omega⟩
                  · next idx =>
                    simp only [Bool.and_eq_true, Bool.or_eq_true, decide_eq_true_eq] at ho
                    obtain ⟨rfl, hml, hil, hini, hck, hpar, hk1, hmr, hL⟩ := ho
                    have hil : a ∈ ilist := by simpa using hil
                    obtain ⟨ha1, -, -, h11⟩ := cok_spec hck
                    have hin : (mY a).name = "<init>" := by simpa [isInit] using hini
                    intro lsC hl
                    refine fin2 lsC hl ?_ rfl
                    rcases hml with hml | hml
                    · have hml : (mC mu, idx, a) ∈ mlist := by simpa using hml
                      have cb := callB_my (mc := hN h2 - hN h) (ms := hS h2 - hS h) C hck hpar hml
                      rw [hmr] at cb
                      exact va_runI (As := as.map (rl ad b)) (rest := (st.drop b2.toNat).map (rl ad b)) (b := ad x) ⟨C.1, C.2.1, C.2.2.1, C.2.2.2.1, C.2.2.2.2.1⟩ (hM ha1) ⟨cb, hin, C.2.2.2.2.1 _ (mem_wI (List.mem_map.mpr ⟨a, hil, rfl⟩))⟩ ⟨blind _, hpre⟩ rfl (by simp at hal ⊢; omega) hl.1 hst2 (lv_room (Nat.le_trans (cat_sum _) (by simp; omega))) hd ⟨by omega, by omega⟩
                    · have hml : (mC mu, idx, a, 5) ∈ nlist := by simpa using hml
                      have cb := callN_my (mc := hN h2 - hN h) (ms := hS h2 - hS h) C hck hpar hml
                      rw [hmr] at cb
                      exact va_runIN (As := as.map (rl ad b)) (rest := (st.drop b2.toNat).map (rl ad b)) (b := ad x) ⟨C.1, C.2.1, C.2.2.1, C.2.2.2.1, C.2.2.2.2.1⟩ (hM ha1) ⟨cb, hin, C.2.2.2.2.1 _ (mem_wI (List.mem_map.mpr ⟨a, hil, rfl⟩))⟩ ⟨blind _, hpre⟩ rfl (by simp at hal ⊢; omega) hl.1 hst2 (lv_room (Nat.le_trans (cat_sum _) (by simp; omega))) hd ⟨by omega, by omega⟩
                  · cases ho
