/-! ===== a run of the small machine in the large one ===== -/
theorem sem1_mono {sc : Scr} {t a : Nat} {b : Int} {ls ls9 : ALS} {st st9 : List AV} {h h1 : Hp} (hs : sem1 sc t a b ls st h = some (ls9, st9, h1)) : hN h ≤ hN h1 ∧ hS h ≤ hS h1 := by
  unfold sem1 at hs
  split at hs <;> (try unfold op2 at hs) <;> (try unfold op2L at hs) <;> (try unfold opSh at hs) <;> (try unfold op1L at hs) <;> (try unfold opStI at hs) <;> (try unfold opStL at hs) <;> (try unfold opStR at hs) <;> (try unfold opInc at hs) <;> (try unfold opDup at hs) <;> (try unfold opDup2 at hs) <;> (try unfold opPop at hs) <;> (try unfold opGet at hs) <;> (try unfold opPutI at hs) <;> (try unfold opPutZ at hs) <;> (try unfold opPutL at hs) <;> (try unfold opPutR at hs) <;> (try unfold opAld at hs) <;> (try unfold opAstI at hs) <;> (try unfold opAstZ at hs) <;> (try unfold opAstL at hs) <;> (try unfold opAstR at hs) <;> (try unfold opLen at hs) <;> (try unfold opNewA at hs) <;> (try unfold opSld at hs) <;> (try unfold opSlen at hs) <;> (try unfold opObj at hs) <;> (try split at hs) <;> (try split at hs) <;>
    first
    | (cases hs; done)
    | (cases hs; exact ⟨Nat.le_refl _, Nat.le_refl _⟩)
    | (cases hs; exact ⟨Nat.le_succ _, Nat.le_add_right _ _⟩)
    | (obtain ⟨z, -, hz⟩ := Option.map_eq_some_iff.mp hs; cases hz; exact ⟨Nat.le_refl _, Nat.le_refl _⟩)
theorem run_mono {P : Prg} {sc : Scr} : ∀ {n m : Nat} {c : List AI} {ls : ALS} {st : List AV} {h : Hp} {r : Option AV} {h9 : Hp}, run P sc n m c ls st h = some (r, h9) → hN h ≤ hN h9 ∧ hS h ≤ hS h9
  | 0, _, _, _, _, _, _, _, q => by simp [run] at q
  | n + 1, m, [], _, _, _, _, _, q => by simp [run] at q
  | n + 1, m, (t, a, b, L) :: c, ls, st, h, r, h9, q => by
    unfold run at q
    split at q
    · split at q
      · next ls1 st1 h1 hs =>
        have m1 := sem1_mono hs
        have m2 := run_mono q
        exact ⟨Nat.le_trans m1.1 m2.1, Nat.le_trans m1.2 m2.2⟩
      · cases q
    · split at q
      · exact run_mono q
      · split at q
        · split at q <;> exact run_mono q
        · cases q
      · split at q
        · split at q <;> exact run_mono q
        · cases q
      · split at q
        · split at q <;> exact run_mono q
        · cases q
      · split at q
        · split at q <;> exact run_mono q
        · cases q
      · split at q
        · exact run_mono q
        · cases q
      · split at q
        · exact run_mono q
        · cases q
      · split at q
        · cases q
        · split at q
          · split at q
            · next h1 e1 =>
              have m1 := run_mono e1
              have m2 := run_mono q
              exact ⟨Nat.le_trans m1.1 m2.1, Nat.le_trans m1.2 m2.2⟩
            · cases q
          · cases q
      · split at q
        · cases q
        · split at q
          · split at q
            · next h1 e1 =>
              have m1 := run_mono e1
              have m2 := run_mono q
              exact ⟨Nat.le_trans m1.1 m2.1, Nat.le_trans m1.2 m2.2⟩
            · cases q
          · cases q
      · obtain ⟨z, -, hz⟩ := Option.map_eq_some_iff.mp q
        cases hz
        exact ⟨Nat.le_refl _, Nat.le_refl _⟩
/-- a method's end: what it answers, and where it stands -/
def RT (mu pc t : Nat) (r : Option AV) : Prop :=
  (decode (mB mu) pc = .ok (.return_, 1) ∧ mR mu = none ∧ r = none) ∨ (decode (mB mu) pc = .ok (.ireturn, 1) ∧ mR mu = some .int ∧ ∃ x, r = some (aI x)) ∨ (decode (mB mu) pc = .ok (.lreturn, 1) ∧ mR mu = some .long ∧ ∃ x, r = some (aL x)) ∨
    (decode (mB mu) pc = .ok (.areturn, 1) ∧ isRefO (mR mu) = true ∧ ∃ x, r = some (aR x)) ∨ (decode (mB mu) pc = .ok (.ireturn, 1) ∧ mR mu = some .boolean ∧ ∃ x, r = some (aI x) ∧ (x = 0 ∨ x = 1))
theorem jmp_spec {mu pc a : Nat} {off : Int} (h : jmp (pcsT mu) pc off a = true) : (pc : Int) + off = (pcA mu a : Int) := by
  unfold jmp at h
  split at h
  · next q hq =>
    unfold pcA
    rw [List.getD_eq_getElem?_getD, hq]
    simpa using h
  · cases h
theorem tsw_spec {pcs : List Nat} {pc d : Nat} {x : Int} : ∀ {os : List Int} {ts : List Nat} {lo : Int}, offs pcs pc os ts = true → ((x < lo ∨ lo + os.length ≤ x) → tsw x lo d ts = d) ∧ (lo ≤ x → x < lo + os.length → ∃ off, os[(x - lo).toNat]? = some off ∧ jmp pcs pc off (tsw x lo d ts) = true)
  | [], [], lo, _ => ⟨fun _ => rfl, fun h1 h2 => by simp at h2; omega⟩
  | [], _ :: _, lo, h => by simp [offs] at h
  | _ :: _, [], lo, h => by simp [offs] at h
  | o :: os, t :: ts, lo, h => by
    simp only [offs, Bool.and_eq_true] at h
    obtain ⟨i1, i2⟩ := tsw_spec (x := x) (d := d) (lo := lo + 1) h.2
    refine ⟨fun hx => ?_, fun h1 h2 => ?_⟩
    · simp only [List.length_cons] at hx
      unfold tsw
      rw [if_neg (by omega)]
      exact i1 (by omega)
    · simp only [List.length_cons] at h2
      unfold tsw
      by_cases hx : x = lo
      · rw [if_pos hx]
        exact ⟨o, by rw [show (x - lo).toNat = 0 by omega]; rfl, h.1⟩
      · rw [if_neg hx]
        obtain ⟨off, e1, e2⟩ := i2 (by omega) (by omega)
        exact ⟨off, by rw [show (x - lo).toNat = (x - (lo + 1)).toNat + 1 by omega]; exact e1, e2⟩
theorem lsw_spec {pcs : List Nat} {pc d : Nat} {x dof : Int} (hd : jmp pcs pc dof d = true) : ∀ {ps : List (Int × Int)} {ts : List Nat}, loffs pcs pc ps ts = true → jmp pcs pc (Op.lookupswitch.offset ps dof x) (lsw x d ts) = true
  | [], [], _ => by simpa [Op.lookupswitch.offset, lsw] using hd
  | [], _ :: _, h => by simp [loffs] at h
  | _ :: _, [], h => by simp [loffs] at h
  | _ :: _, [_], h => by simp [loffs] at h
  | (y, o) :: ps, k :: t :: ts, h => by
    simp only [loffs, Bool.and_eq_true, decide_eq_true_eq] at h
    obtain ⟨rfl, h1, h2⟩ := h
    have ih := lsw_spec (x := x) hd h2
    unfold lsw
    by_cases hx : x = (k : Int)
    · rw [if_pos hx]
      have e : Op.lookupswitch.offset (((k : Int), o) :: ps) dof x = o := by simp [Op.lookupswitch.offset, hx]
      rw [e]; exact h1
    · rw [if_neg hx]
      have e : Op.lookupswitch.offset (((k : Int), o) :: ps) dof x = Op.lookupswitch.offset ps dof x := by
        have hx2 : ¬ (k : Int) = x := fun q => hx q.symm
        simp [Op.lookupswitch.offset, hx, hx2]
      rw [e]; exact ih
theorem ent_spec {h : Hp} {ad : Nat → Nat} {b : Nat} : ∀ {n : Nat} {args : List AV} {ls : ALS}, ent n args = some ls → okS h args → ls.length = n ∧ (lg_sl (args.map (rl ad b))).length ≤ n ∧ okL h ls ∧ ∀ (i : Nat), ∀ q ∈ lpr ad b i ls, q ∈ lv_args i (args.map (rl ad b))
  | 0, [], ls, q, _ => by
    cases q
    exact ⟨rfl, Nat.le_refl _, fun v hv => by simp at hv, fun i q hq => by simp [lpr] at hq⟩
  | 0, _ :: _, ls, q, _ => by simp [ent] at q
  | n + 1, [], ls, q, ho => by
    obtain ⟨l, hl, rfl⟩ := Option.map_eq_some_iff.mp (show (ent n []).map (none :: ·) = some ls from q)
    obtain ⟨e1, e2, e3, e4⟩ := ent_spec (ad := ad) (b := b) hl ho
    refine ⟨by simp [e1], by simp [lg_sl], fun v hv => e3 v (by simpa using hv), fun i q hq => ?_⟩
    rw [lpr] at hq
    have := e4 (i + 1) q hq
    simp [lv_args] at this
  | n + 1, .inl x :: r, ls, q, ho => by
    obtain ⟨l, hl, rfl⟩ := Option.map_eq_some_iff.mp (show (ent n r).map (some (.inl x) :: ·) = some ls from q)
    have ov := okS_cons.mp ho
    obtain ⟨e1, e2, e3, e4⟩ := ent_spec (ad := ad) (b := b) hl ov.2
    refine ⟨by simp [e1], ?_, fun v hv => ?_, fun i q hq => ?_⟩
    · have : (lg_sl ((Sum.inl x :: r : List AV).map (rl ad b))).length = (lg_sl (r.map (rl ad b))).length + 1 := by simp [lg_sl, rl, Value.category]
      omega
    · rcases List.mem_cons.mp hv with hv | hv
      · cases hv; exact ov.1
      · exact e3 v hv
    · rw [lpr] at hq
      rcases List.mem_cons.mp hq with hq | hq
      · rw [hq]; exact List.mem_cons_self
      · exact List.mem_cons_of_mem _ (e4 (i + 1) q hq)
  | n + 1, .inr (.inr x) :: r, ls, q, ho => by
    obtain ⟨l, hl, rfl⟩ := Option.map_eq_some_iff.mp (show (ent n r).map (some (.inr (.inr x)) :: ·) = some ls from q)
    have ov := okS_cons.mp ho
    obtain ⟨e1, e2, e3, e4⟩ := ent_spec (ad := ad) (b := b) hl ov.2
    have hc : (rl ad b (aR x)).category = 1 := rl_cat1 rfl
    refine ⟨by simp [e1], ?_, fun v hv => ?_, fun i q hq => ?_⟩
    · have : (lg_sl ((Sum.inr (Sum.inr x) :: r : List AV).map (rl ad b))).length = (lg_sl (r.map (rl ad b))).length + 1 := by
        rw [List.map_cons]
        simp [lg_sl, hc]
      omega
    · rcases List.mem_cons.mp hv with hv | hv
      · cases hv; exact ov.1
      · exact e3 v hv
    · rw [lpr] at hq
      rw [List.map_cons, lv_args, if_neg (by rw [hc]; omega)]
      rcases List.mem_cons.mp hq with hq | hq
      · rw [hq]; exact List.mem_cons_self
      · exact List.mem_cons_of_mem _ (e4 (i + 1) q hq)
  | 1, .inr (.inl x) :: r, ls, q, ho => by simp [ent] at q
  | n + 2, .inr (.inl x) :: r, ls, q, ho => by
    obtain ⟨l, hl, rfl⟩ := Option.map_eq_some_iff.mp (show (ent n r).map (fun l => some (.inr (.inl x)) :: none :: l) = some ls from q)
    have ov := okS_cons.mp ho
    obtain ⟨e1, e2, e3, e4⟩ := ent_spec (ad := ad) (b := b) hl ov.2
    refine ⟨by simp [e1], ?_, fun v hv => ?_, fun i q hq => ?_⟩
    · have : (lg_sl ((Sum.inr (Sum.inl x) :: r : List AV).map (rl ad b))).length = (lg_sl (r.map (rl ad b))).length + 2 := by simp [lg_sl, rl, Value.category]
      omega
    · simp only [List.mem_cons] at hv
      rcases hv with hv | hv | hv
      · cases hv; exact ov.1
      · cases hv
      · exact e3 v hv
    · rw [lpr, lpr] at hq
      rcases List.mem_cons.mp hq with hq | hq
      · rw [hq]; exact List.mem_cons_self
      · exact List.mem_cons_of_mem _ (e4 (i + 1 + 1) q hq)
theorem cat_sum : ∀ (l : List Value), (l.map fun v => v.category).sum ≤ 2 * l.length
  | [] => Nat.le_refl _
  | v :: l => by
    have := cat_sum l
    rcases lv_cat v with q | q <;> simp [q] <;> omega
theorem plain_0 : (List.range 178).all plainC = true := by decide +kernel
theorem plain_all {v : Nat} (h : v < 178) : (mY v).cls ≠ "java/lang/invoke/MethodHandle" ∧ (mY v).cls ≠ "java/lang/invoke/VarHandle" ∧ (mY v).cls = cnm (mC v) ∧ plainName (mY v).cls = true := by
  have := List.all_eq_true.mp plain_0 v (List.mem_range.mpr h)
  unfold plainC at this
  simp only [Bool.and_eq_true, decide_eq_true_eq] at this
  exact ⟨this.1.1.1, this.1.1.2, this.1.2, this.2⟩
theorem alist_lt : ∀ v ∈ alist, v < 178 := by decide +kernel
def wsm (v : Nat) : List Cond := .code (mY v) (mB v) (mL v) (mR v) :: wAll
theorem good_wsm {v : Nat} (h : v ∈ alist) : GoodIn wAll (wsm v) := by
  intro w hw
  rcases List.mem_cons.mp hw with hw | hw
  · have : w ∈ wAll := by rw [hw]; exact mem_wD (List.mem_map.mpr ⟨v, h, rfl⟩)
    exact ⟨this, (g_wAll w this).2⟩
  · exact ⟨hw, (g_wAll w hw).2⟩
