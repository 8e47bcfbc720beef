/-! ===== what a run of the small machine comes to: one row an instruction ===== -/
theorem run_succ {P : Prg} {sc : Scr} : ∀ {n m : Nat} {c : List AI} {ls : ALS} {st : List AV} {h : Hp} {z : Out}, run P sc n m c ls st h = some z → run P sc (n + 1) m c ls st h = some z := by
  intro n
  induction n with
  | zero => exact fun q => nn q
  | succ n ih =>
    intro m c ls st h z q
    rcases c with _ | ⟨⟨t, a, b, L⟩, c⟩
    · exact nn q
    by_cases ht : t < 55
    · rw [run_lt ht] at q ⊢
      cases hs : sem1 sc t a b ls st h with
      | none => rw [hs] at q; exact nn q
      | some w =>
        obtain ⟨ls1, st1, h1⟩ := w
        rw [hs] at q
        exact ih (show run P sc n m c ls1 st1 h1 = some z from q)
    · by_cases h69 : t < 69
      · rcases (by omega : t = 55 ∨ t = 56 ∨ t = 57 ∨ t = 58 ∨ t = 59 ∨ t = 60 ∨ t = 61 ∨ t = 62 ∨ t = 63 ∨ t = 64 ∨ t = 65 ∨ t = 66 ∨ t = 67 ∨ t = 68) with rfl | rfl | rfl | rfl | rfl | rfl | rfl | rfl | rfl | rfl | rfl | rfl | rfl | rfl
        · exact ih (show run P sc n m ((P.1 m).drop a) ls st h = some z from q)
        · rcases st with _ | ⟨x | x | x, st⟩
          · exact nn q
          · have q : (if cnd a x 0 = true then run P sc n m ((P.1 m).drop b.toNat) ls st h else run P sc n m c ls st h) = some z := q
            show (if cnd a x 0 = true then run P sc (n + 1) m ((P.1 m).drop b.toNat) ls st h else run P sc (n + 1) m c ls st h) = some z
            by_cases hc : cnd a x 0 = true
            · rw [if_pos hc] at q ⊢; exact ih q
            · rw [if_neg hc] at q ⊢; exact ih q
          · exact nn q
          · exact nn q
        · rcases st with _ | ⟨y | y | y, _ | ⟨x | x | x, st⟩⟩
          · exact nn q
          · exact nn q
          · have q : (if cnd a x y = true then run P sc n m ((P.1 m).drop b.toNat) ls st h else run P sc n m c ls st h) = some z := q
            show (if cnd a x y = true then run P sc (n + 1) m ((P.1 m).drop b.toNat) ls st h else run P sc (n + 1) m c ls st h) = some z
            by_cases hc : cnd a x y = true
            · rw [if_pos hc] at q ⊢; exact ih q
            · rw [if_neg hc] at q ⊢; exact ih q
          all_goals exact nn q
        · rcases st with _ | ⟨x | x | x, st⟩
          · exact nn q
          · exact nn q
          · exact nn q
          · have q : (if x = 0 then run P sc n m ((P.1 m).drop a) ls st h else run P sc n m c ls st h) = some z := q
            show (if x = 0 then run P sc (n + 1) m ((P.1 m).drop a) ls st h else run P sc (n + 1) m c ls st h) = some z
            by_cases hc : x = 0
            · rw [if_pos hc] at q ⊢; exact ih q
            · rw [if_neg hc] at q ⊢; exact ih q
        · rcases st with _ | ⟨x | x | x, st⟩
          · exact nn q
          · exact nn q
          · exact nn q
          · have q : (if x = 0 then run P sc n m c ls st h else run P sc n m ((P.1 m).drop a) ls st h) = some z := q
            show (if x = 0 then run P sc (n + 1) m c ls st h else run P sc (n + 1) m ((P.1 m).drop a) ls st h) = some z
            by_cases hc : x = 0
            · rw [if_pos hc] at q ⊢; exact ih q
            · rw [if_neg hc] at q ⊢; exact ih q
        · exact q
        · exact q
        · exact q
        · exact q
        · exact q
        · rcases st with _ | ⟨x | x | x, st⟩
          · exact nn q
          · exact ih (show run P sc n m ((P.1 m).drop (tsw x b a L)) ls st h = some z from q)
          · exact nn q
          · exact nn q
        · rcases st with _ | ⟨x | x | x, st⟩
          · exact nn q
          · exact ih (show run P sc n m ((P.1 m).drop (lsw x a L)) ls st h = some z from q)
          · exact nn q
          · exact nn q
        · have q : (if (decide (st.length < b.toNat) || decide (b.toNat + 4 < st.length)) = true then none else (match ent (P.2 a) (st.take b.toNat).reverse with | some l0 => (match run P sc n a (P.1 a) l0 [] h with | some (r, h') => run P sc n m c ls (r.toList ++ st.drop b.toNat) h' | none => none) | none => none)) = some z := q
          show (if (decide (st.length < b.toNat) || decide (b.toNat + 4 < st.length)) = true then none else (match ent (P.2 a) (st.take b.toNat).reverse with | some l0 => (match run P sc (n + 1) a (P.1 a) l0 [] h with | some (r, h') => run P sc (n + 1) m c ls (r.toList ++ st.drop b.toNat) h' | none => none) | none => none)) = some z
          by_cases hc : (decide (st.length < b.toNat) || decide (b.toNat + 4 < st.length)) = true
          · rw [if_pos hc] at q; exact nn q
          · rw [if_neg hc] at q ⊢
            cases he : ent (P.2 a) (st.take b.toNat).reverse with
            | none => rw [he] at q; exact nn q
            | some l0 =>
              rw [he] at q
              cases hr : run P sc n a (P.1 a) l0 [] h with
              | none => simp only [hr] at q; exact nn q
              | some w =>
                obtain ⟨r, h1⟩ := w
                simp only [hr] at q
                simp only [ih hr]
                exact ih q
        · have q : (if (decide (st.length < b.toNat) || decide (b.toNat + 4 < st.length) || !(rcv h L (st.take b.toNat).reverse)) = true then none else (match ent (P.2 a) (st.take b.toNat).reverse with | some l0 => (match run P sc n a (P.1 a) l0 [] h with | some (r, h') => run P sc n m c ls (r.toList ++ st.drop b.toNat) h' | none => none) | none => none)) = some z := q
          show (if (decide (st.length < b.toNat) || decide (b.toNat + 4 < st.length) || !(rcv h L (st.take b.toNat).reverse)) = true then none else (match ent (P.2 a) (st.take b.toNat).reverse with | some l0 => (match run P sc (n + 1) a (P.1 a) l0 [] h with | some (r, h') => run P sc (n + 1) m c ls (r.toList ++ st.drop b.toNat) h' | none => none) | none => none)) = some z
          by_cases hc : (decide (st.length < b.toNat) || decide (b.toNat + 4 < st.length) || !(rcv h L (st.take b.toNat).reverse)) = true
          · rw [if_pos hc] at q; exact nn q
          · rw [if_neg hc] at q ⊢
            cases he : ent (P.2 a) (st.take b.toNat).reverse with
            | none => rw [he] at q; exact nn q
            | some l0 =>
              rw [he] at q
              cases hr : run P sc n a (P.1 a) l0 [] h with
              | none => simp only [hr] at q; exact nn q
              | some w =>
                obtain ⟨r, h1⟩ := w
                simp only [hr] at q
                simp only [ih hr]
                exact ih q
      · obtain ⟨k, rfl⟩ : ∃ k, t = k + 69 := ⟨t - 69, by omega⟩
        have e1 : ∀ n, run P sc (n + 1) m ((k + 69, a, b, L) :: c) ls st h = (retv (k + 69) st).map fun r => (r, h) := by
          intro n
          conv => lhs; unfold run
          rw [if_neg ht]
          rfl
        rw [e1] at q ⊢
        exact q
theorem run_add {P : Prg} {sc : Scr} {n m : Nat} {c : List AI} {ls : ALS} {st : List AV} {h : Hp} {z : Out} (q : run P sc n m c ls st h = some z) : ∀ k, run P sc (n + k) m c ls st h = some z
  | 0 => q
  | k + 1 => run_succ (run_add q k)
/-- the code of method m from place i on -/
def BL (m i : Nat) : List AI := (codeT m).drop i
def WB (sc : Scr) (m : Nat) (c : List AI) (ls : ALS) (st : List AV) (h : Hp) (Q : Option AV → Hp → Prop) : Prop := ∃ n r h9, run PP sc n m c ls st h = some (r, h9) ∧ Q r h9
def oB {α : Type} (x : Option α) (f : α → Prop) : Prop := match x with
  | some y => f y
  | none => False
theorem oB_some {α : Type} {x : α} {f : α → Prop} : oB (some x) f = f x := rfl
/-- a call of method v -/
def WC (sc : Scr) (v : Nat) (as : List AV) (h : Hp) (Q : Option AV → Hp → Prop) : Prop := oB (ent (mL v) as) fun l0 => WB sc v (BL v 0) l0 [] h Q
theorem WB_step {sc : Scr} {m m2 : Nat} {c c2 : List AI} {ls ls2 : ALS} {st st2 : List AV} {h h2 : Hp} {Q : Option AV → Hp → Prop} (e : ∀ n, run PP sc (n + 1) m c ls st h = run PP sc n m2 c2 ls2 st2 h2) : WB sc m c ls st h Q = WB sc m2 c2 ls2 st2 h2 Q := by
  apply propext
  constructor
  · rintro ⟨n, r, h9, q, k⟩
    cases n with
    | zero => exact nn q
    | succ n => exact ⟨n, r, h9, (e n).symm.trans q, k⟩
  · rintro ⟨n, r, h9, q, k⟩
    exact ⟨n + 1, r, h9, (e n).trans q, k⟩
theorem WB_and {sc : Scr} {m m2 : Nat} {c c2 : List AI} {ls ls2 : ALS} {st st2 : List AV} {h h2 : Hp} {Q : Option AV → Hp → Prop} {A : Prop} (e : A → ∀ n, run PP sc (n + 1) m c ls st h = run PP sc n m2 c2 ls2 st2 h2) (f : ¬ A → ∀ n, run PP sc (n + 1) m c ls st h = none) : WB sc m c ls st h Q = (A ∧ WB sc m2 c2 ls2 st2 h2 Q) := by
  by_cases a : A
  · rw [WB_step (e a)]; simp [a]
  · apply propext
    refine ⟨fun ⟨n, r, h9, q, k⟩ => ?_, fun z => absurd z.1 a⟩
    cases n with
    | zero => exact nn q
    | succ n => rw [f a n] at q; exact nn q
theorem WB_ite {sc : Scr} {m : Nat} {c c1 c2 : List AI} {ls : ALS} {st st2 : List AV} {h : Hp} {Q : Option AV → Hp → Prop} {A : Prop} (d : Decidable A) (e : A → ∀ n, run PP sc (n + 1) m c ls st h = run PP sc n m c1 ls st2 h) (f : ¬ A → ∀ n, run PP sc (n + 1) m c ls st h = run PP sc n m c2 ls st2 h) : WB sc m c ls st h Q = @ite _ A d (WB sc m c1 ls st2 h Q) (WB sc m c2 ls st2 h Q) := by
  by_cases a : A
  · rw [if_pos a]; exact WB_step (e a)
  · rw [if_neg a]; exact WB_step (f a)
theorem WB_ret {sc : Scr} {m : Nat} {c : List AI} {ls : ALS} {st : List AV} {h : Hp} {Q : Option AV → Hp → Prop} {r : Option AV} (e : ∀ n, run PP sc (n + 1) m c ls st h = some (r, h)) : WB sc m c ls st h Q = Q r h := by
  apply propext
  constructor
  · rintro ⟨n, r2, h9, q, k⟩
    cases n with
    | zero => exact nn q
    | succ n => rw [e n] at q; cases q; exact k
  · exact fun k => ⟨1, r, h, e 0, k⟩
theorem WB_retA {sc : Scr} {m : Nat} {c : List AI} {ls : ALS} {st : List AV} {h : Hp} {Q : Option AV → Hp → Prop} {r : Option AV} {A : Prop} (e : A → ∀ n, run PP sc (n + 1) m c ls st h = some (r, h)) (f : ¬ A → ∀ n, run PP sc (n + 1) m c ls st h = none) : WB sc m c ls st h Q = (A ∧ Q r h) := by
  by_cases a : A
  · rw [WB_ret (e a)]; simp [a]
  · apply propext
    refine ⟨fun ⟨n, r, h9, q, k⟩ => ?_, fun z => absurd z.1 a⟩
    cases n with
    | zero => exact nn q
    | succ n => rw [f a n] at q; exact nn q
/-- a call, as the machine does it -/
theorem WB_call {sc : Scr} {m v : Nat} {c c2 : List AI} {ls : ALS} {st st2 : List AV} {h : Hp} {as : List AV} {Q : Option AV → Hp → Prop} {A : Prop} (f : ¬ A → ∀ n, run PP sc (n + 1) m c ls st h = none)
    (e : A → ∀ n, run PP sc (n + 1) m c ls st h = (match ent (mL v) as with | some l0 => (match run PP sc n v (codeT v) l0 [] h with | some (r, h') => run PP sc n m c2 ls (r.toList ++ st2) h' | none => none) | none => none)) : WB sc m c ls st h Q = (A ∧ WC sc v as h fun r h' => WB sc m c2 ls (r.toList ++ st2) h' Q) := by
  by_cases a : A
  · have e := e a
    apply propext
    unfold WC
    cases he : ent (mL v) as with
    | none =>
      simp only [he] at e
      refine ⟨fun ⟨n, r, h9, q, k⟩ => ?_, fun z => z.2.elim⟩
      cases n with
      | zero => exact nn q
      | succ n => rw [e n] at q; exact nn q
    | some l0 =>
      simp only [he] at e
      refine ⟨fun ⟨n, r, h9, q, k⟩ => ?_, fun z => ?_⟩
      · cases n with
        | zero => exact nn q
        | succ n =>
          rw [e n] at q
          cases hr : run PP sc n v (codeT v) l0 [] h with
          | none => simp only [hr] at q; exact nn q
          | some w =>
            obtain ⟨r1, h1⟩ := w
            simp only [hr] at q
            exact ⟨a, n, r1, h1, by simpa [BL] using hr, n, r, h9, q, k⟩
      · obtain ⟨n1, r1, h1, q1, n2, r, h9, q2, k⟩ := z.2
        refine ⟨n1 + n2 + 1, r, h9, ?_, k⟩
        have q1 : run PP sc n1 v (codeT v) l0 [] h = some (r1, h1) := by simpa [BL] using q1
        rw [e, run_add q1 n2]
        simp only
        rw [Nat.add_comm n1 n2]
        exact run_add q2 n1
  · apply propext
    refine ⟨fun ⟨n, r, h9, q, k⟩ => ?_, fun z => absurd z.1 a⟩
    cases n with
    | zero => exact nn q
    | succ n => rw [f a n] at q; exact nn q
/-- what one run comes to, it comes to for every end -/
theorem WC_eq {sc : Scr} {v : Nat} {as : List AV} {h h1 : Hp} {r1 : Option AV} (w : WC sc v as h fun r h' => r = r1 ∧ h' = h1) (Q : Option AV → Hp → Prop) : WC sc v as h Q = Q r1 h1 := by
  unfold WC at *
  cases he : ent (mL v) as with
  | none => rw [he] at w; exact w.elim
  | some l0 =>
    rw [he] at w
    obtain ⟨n, r, h9, q, rfl, rfl⟩ := w
    apply propext
    constructor
    · rintro ⟨n2, r2, h2, q2, k⟩
      have e1 := run_add q n2
      have e2 := run_add q2 n
      rw [Nat.add_comm] at e2
      rw [e1] at e2
      cases e2
      exact k
    · exact fun k => ⟨n, r, h9, q, k⟩
theorem WC_mono {sc : Scr} {v : Nat} {as : List AV} {h : Hp} {Q Q2 : Option AV → Hp → Prop} (w : WC sc v as h Q) (k : ∀ r h', Q r h' → Q2 r h') : WC sc v as h Q2 := by
  unfold WC at *
  cases he : ent (mL v) as with
  | none => rw [he] at w; exact w.elim
  | some l0 =>
    rw [he] at w
    obtain ⟨n, r, h9, q, k1⟩ := w
    exact ⟨n, r, h9, q, k r h9 k1⟩
theorem WB_mono {sc : Scr} {m : Nat} {c : List AI} {ls : ALS} {st : List AV} {h : Hp} {Q Q2 : Option AV → Hp → Prop} (w : WB sc m c ls st h Q) (k : ∀ r h', Q r h' → Q2 r h') : WB sc m c ls st h Q2 := by
  obtain ⟨n, r, h9, q, k1⟩ := w
  exact ⟨n, r, h9, q, k r h9 k1⟩
theorem wb_const {sc : Scr} {m a : Nat} {b : Int} {L : List Nat} {c : List AI} {ls : ALS} {st : List AV} {h : Hp} {Q : Option AV → Hp → Prop}  : WB sc m ((0, a, b, L) :: c) ls st h Q = WB sc m c ls (aI b :: st) h Q := WB_step fun n => rfl
theorem wb_lconst {sc : Scr} {m a : Nat} {b : Int} {L : List Nat} {c : List AI} {ls : ALS} {st : List AV} {h : Hp} {Q : Option AV → Hp → Prop}  : WB sc m ((1, a, b, L) :: c) ls st h Q = WB sc m c ls (aL (BitVec.ofInt 64 b) :: st) h Q := WB_step fun n => rfl
theorem wb_null {sc : Scr} {m a : Nat} {b : Int} {L : List Nat} {c : List AI} {ls : ALS} {st : List AV} {h : Hp} {Q : Option AV → Hp → Prop}  : WB sc m ((2, a, b, L) :: c) ls st h Q = WB sc m c ls (aR 0 :: st) h Q := WB_step fun n => rfl
theorem wb_iload {sc : Scr} {m a : Nat} {b : Int} {L : List Nat} {c : List AI} {ls : ALS} {st : List AV} {h : Hp} {Q : Option AV → Hp → Prop}  : WB sc m ((3, a, b, L) :: c) ls st h Q = oB (ldI ls a) fun x => WB sc m c ls (aI x :: st) h Q := by
  cases hq : ldI ls a with
  | none =>
    apply propext
    refine ⟨fun ⟨n, r, h9, q, k⟩ => ?_, fun z => z.elim⟩
    cases n with
    | zero => exact nn q
    | succ n =>
      rw [run_lt (by omega)] at q
      simp only [sem1, hq] at q
      exact nn q
  | some x =>
    refine WB_step fun n => ?_
    rw [run_lt (by omega)]
    simp only [sem1, hq]
    rfl
theorem wb_lload {sc : Scr} {m a : Nat} {b : Int} {L : List Nat} {c : List AI} {ls : ALS} {st : List AV} {h : Hp} {Q : Option AV → Hp → Prop}  : WB sc m ((4, a, b, L) :: c) ls st h Q = oB (ldL ls a) fun x => WB sc m c ls (aL x :: st) h Q := by
  cases hq : ldL ls a with
  | none =>
    apply propext
    refine ⟨fun ⟨n, r, h9, q, k⟩ => ?_, fun z => z.elim⟩
    cases n with
    | zero => exact nn q
    | succ n =>
      rw [run_lt (by omega)] at q
      simp only [sem1, hq] at q
      exact nn q
  | some x =>
    refine WB_step fun n => ?_
    rw [run_lt (by omega)]
    simp only [sem1, hq]
    rfl
theorem wb_aload {sc : Scr} {m a : Nat} {b : Int} {L : List Nat} {c : List AI} {ls : ALS} {st : List AV} {h : Hp} {Q : Option AV → Hp → Prop}  : WB sc m ((5, a, b, L) :: c) ls st h Q = oB (ldR ls a) fun x => WB sc m c ls (aR x :: st) h Q := by
  cases hq : ldR ls a with
  | none =>
    apply propext
    refine ⟨fun ⟨n, r, h9, q, k⟩ => ?_, fun z => z.elim⟩
    cases n with
    | zero => exact nn q
    | succ n =>
      rw [run_lt (by omega)] at q
      simp only [sem1, hq] at q
      exact nn q
  | some x =>
    refine WB_step fun n => ?_
    rw [run_lt (by omega)]
    simp only [sem1, hq]
    rfl
theorem wb_istore {sc : Scr} {m a : Nat} {b : Int} {L : List Nat} {c : List AI} {ls : ALS} {st : List AV} {h : Hp} {Q : Option AV → Hp → Prop} {x : Int} : WB sc m ((6, a, b, L) :: c) ls (aI x :: st) h Q = (a < ls.length ∧ WB sc m c (ls1 ls a (aI x)) st h Q) := WB_and (fun q n => by rw [run_lt (by omega)]; simp only [sem1, opStI]; rw [if_pos q]) (fun q n => by rw [run_lt (by omega)]; simp only [sem1, opStI]; rw [if_neg q])
theorem wb_lstore {sc : Scr} {m a : Nat} {b : Int} {L : List Nat} {c : List AI} {ls : ALS} {st : List AV} {h : Hp} {Q : Option AV → Hp → Prop} {x : BitVec 64} : WB sc m ((7, a, b, L) :: c) ls (aL x :: st) h Q = (a + 1 < ls.length ∧ WB sc m c (ls2 ls a (aL x)) st h Q) := WB_and (fun q n => by rw [run_lt (by omega)]; simp only [sem1, opStL]; rw [if_pos q]) (fun q n => by rw [run_lt (by omega)]; simp only [sem1, opStL]; rw [if_neg q])
theorem wb_astore {sc : Scr} {m a : Nat} {b : Int} {L : List Nat} {c : List AI} {ls : ALS} {st : List AV} {h : Hp} {Q : Option AV → Hp → Prop} {x : Nat} : WB sc m ((8, a, b, L) :: c) ls (aR x :: st) h Q = (a < ls.length ∧ WB sc m c (ls1 ls a (aR x)) st h Q) := WB_and (fun q n => by rw [run_lt (by omega)]; simp only [sem1, opStR]; rw [if_pos q]) (fun q n => by rw [run_lt (by omega)]; simp only [sem1, opStR]; rw [if_neg q])
theorem wb_iinc {sc : Scr} {m a : Nat} {b : Int} {L : List Nat} {c : List AI} {ls : ALS} {st : List AV} {h : Hp} {Q : Option AV → Hp → Prop}  : WB sc m ((9, a, b, L) :: c) ls st h Q = oB (ldI ls a) fun x => WB sc m c (ls1 ls a (aI (wr (x + b)))) st h Q := by
  cases hq : ldI ls a with
  | none =>
    apply propext
    refine ⟨fun ⟨n, r, h9, q, k⟩ => ?_, fun z => z.elim⟩
    cases n with
    | zero => exact nn q
    | succ n =>
      rw [run_lt (by omega)] at q
      have : opInc a b ls st h = none := by
        unfold opInc
        unfold ldI at hq
        split
        · next x e => rw [e] at hq; cases hq
        · rfl
      simp only [sem1, this] at q
      exact nn q
  | some x =>
    refine WB_step fun n => ?_
    rw [run_lt (by omega)]
    simp only [sem1, opInc, ldI_some hq]
theorem wb_iadd {sc : Scr} {m a : Nat} {b : Int} {L : List Nat} {c : List AI} {ls : ALS} {st : List AV} {h : Hp} {Q : Option AV → Hp → Prop} {x y : Int} : WB sc m ((10, a, b, L) :: c) ls (aI y :: aI x :: st) h Q = WB sc m c ls (aI (wr (x + y)) :: st) h Q := WB_step fun n => rfl
theorem wb_isub {sc : Scr} {m a : Nat} {b : Int} {L : List Nat} {c : List AI} {ls : ALS} {st : List AV} {h : Hp} {Q : Option AV → Hp → Prop} {x y : Int} : WB sc m ((11, a, b, L) :: c) ls (aI y :: aI x :: st) h Q = WB sc m c ls (aI (wr (x - y)) :: st) h Q := WB_step fun n => rfl
theorem wb_imul {sc : Scr} {m a : Nat} {b : Int} {L : List Nat} {c : List AI} {ls : ALS} {st : List AV} {h : Hp} {Q : Option AV → Hp → Prop} {x y : Int} : WB sc m ((12, a, b, L) :: c) ls (aI y :: aI x :: st) h Q = WB sc m c ls (aI (wr (x * y)) :: st) h Q := WB_step fun n => rfl
theorem wb_iand {sc : Scr} {m a : Nat} {b : Int} {L : List Nat} {c : List AI} {ls : ALS} {st : List AV} {h : Hp} {Q : Option AV → Hp → Prop} {x y : Int} : WB sc m ((15, a, b, L) :: c) ls (aI y :: aI x :: st) h Q = WB sc m c ls (aI (andI x y) :: st) h Q := WB_step fun n => rfl
theorem wb_ior {sc : Scr} {m a : Nat} {b : Int} {L : List Nat} {c : List AI} {ls : ALS} {st : List AV} {h : Hp} {Q : Option AV → Hp → Prop} {x y : Int} : WB sc m ((16, a, b, L) :: c) ls (aI y :: aI x :: st) h Q = WB sc m c ls (aI (orI x y) :: st) h Q := WB_step fun n => rfl
theorem wb_ishr {sc : Scr} {m a : Nat} {b : Int} {L : List Nat} {c : List AI} {ls : ALS} {st : List AV} {h : Hp} {Q : Option AV → Hp → Prop} {x y : Int} : WB sc m ((17, a, b, L) :: c) ls (aI y :: aI x :: st) h Q = WB sc m c ls (aI (shrI x y) :: st) h Q := WB_step fun n => rfl
theorem wb_idiv {sc : Scr} {m a : Nat} {b : Int} {L : List Nat} {c : List AI} {ls : ALS} {st : List AV} {h : Hp} {Q : Option AV → Hp → Prop} {x y : Int} : WB sc m ((13, a, b, L) :: c) ls (aI y :: aI x :: st) h Q = (¬ y = 0 ∧ WB sc m c ls (aI (divI x y) :: st) h Q) := WB_and (fun q n => by rw [run_lt (by omega)]; simp only [sem1, op2]; rw [if_neg q]; rfl) (fun q n => by rw [run_lt (by omega)]; simp only [sem1, op2]; rw [if_pos (Decidable.not_not.mp q)]; rfl)
theorem wb_irem {sc : Scr} {m a : Nat} {b : Int} {L : List Nat} {c : List AI} {ls : ALS} {st : List AV} {h : Hp} {Q : Option AV → Hp → Prop} {x y : Int} : WB sc m ((14, a, b, L) :: c) ls (aI y :: aI x :: st) h Q = (¬ y = 0 ∧ WB sc m c ls (aI (remI x y) :: st) h Q) := WB_and (fun q n => by rw [run_lt (by omega)]; simp only [sem1, op2]; rw [if_neg q]; rfl) (fun q n => by rw [run_lt (by omega)]; simp only [sem1, op2]; rw [if_pos (Decidable.not_not.mp q)]; rfl)
theorem wb_ladd {sc : Scr} {m a : Nat} {b : Int} {L : List Nat} {c : List AI} {ls : ALS} {st : List AV} {h : Hp} {Q : Option AV → Hp → Prop} {x y : BitVec 64} : WB sc m ((18, a, b, L) :: c) ls (aL y :: aL x :: st) h Q = WB sc m c ls (aL (x + y) :: st) h Q := WB_step fun n => rfl
theorem wb_lsub {sc : Scr} {m a : Nat} {b : Int} {L : List Nat} {c : List AI} {ls : ALS} {st : List AV} {h : Hp} {Q : Option AV → Hp → Prop} {x y : BitVec 64} : WB sc m ((19, a, b, L) :: c) ls (aL y :: aL x :: st) h Q = WB sc m c ls (aL (x - y) :: st) h Q := WB_step fun n => rfl
theorem wb_land {sc : Scr} {m a : Nat} {b : Int} {L : List Nat} {c : List AI} {ls : ALS} {st : List AV} {h : Hp} {Q : Option AV → Hp → Prop} {x y : BitVec 64} : WB sc m ((20, a, b, L) :: c) ls (aL y :: aL x :: st) h Q = WB sc m c ls (aL (x &&& y) :: st) h Q := WB_step fun n => rfl
theorem wb_lor {sc : Scr} {m a : Nat} {b : Int} {L : List Nat} {c : List AI} {ls : ALS} {st : List AV} {h : Hp} {Q : Option AV → Hp → Prop} {x y : BitVec 64} : WB sc m ((21, a, b, L) :: c) ls (aL y :: aL x :: st) h Q = WB sc m c ls (aL (x ||| y) :: st) h Q := WB_step fun n => rfl
theorem wb_lxor {sc : Scr} {m a : Nat} {b : Int} {L : List Nat} {c : List AI} {ls : ALS} {st : List AV} {h : Hp} {Q : Option AV → Hp → Prop} {x y : BitVec 64} : WB sc m ((22, a, b, L) :: c) ls (aL y :: aL x :: st) h Q = WB sc m c ls (aL (x ^^^ y) :: st) h Q := WB_step fun n => rfl
theorem wb_lneg {sc : Scr} {m a : Nat} {b : Int} {L : List Nat} {c : List AI} {ls : ALS} {st : List AV} {h : Hp} {Q : Option AV → Hp → Prop} {x : BitVec 64} : WB sc m ((23, a, b, L) :: c) ls (aL x :: st) h Q = WB sc m c ls (aL (-x) :: st) h Q := WB_step fun n => rfl
theorem wb_lushr {sc : Scr} {m a : Nat} {b : Int} {L : List Nat} {c : List AI} {ls : ALS} {st : List AV} {h : Hp} {Q : Option AV → Hp → Prop} {x : BitVec 64} {y : Int} : WB sc m ((24, a, b, L) :: c) ls (aI y :: aL x :: st) h Q = WB sc m c ls (aL (lushr x y) :: st) h Q := WB_step fun n => rfl
theorem wb_lshl {sc : Scr} {m a : Nat} {b : Int} {L : List Nat} {c : List AI} {ls : ALS} {st : List AV} {h : Hp} {Q : Option AV → Hp → Prop} {x : BitVec 64} {y : Int} : WB sc m ((25, a, b, L) :: c) ls (aI y :: aL x :: st) h Q = WB sc m c ls (aL (lshl x y) :: st) h Q := WB_step fun n => rfl
theorem wb_l2i {sc : Scr} {m a : Nat} {b : Int} {L : List Nat} {c : List AI} {ls : ALS} {st : List AV} {h : Hp} {Q : Option AV → Hp → Prop} {x : BitVec 64} : WB sc m ((26, a, b, L) :: c) ls (aL x :: st) h Q = WB sc m c ls (aI (l2i x) :: st) h Q := WB_step fun n => rfl
theorem wb_lcmp {sc : Scr} {m a : Nat} {b : Int} {L : List Nat} {c : List AI} {ls : ALS} {st : List AV} {h : Hp} {Q : Option AV → Hp → Prop} {x y : BitVec 64} : WB sc m ((27, a, b, L) :: c) ls (aL y :: aL x :: st) h Q = WB sc m c ls (aI (lcmpA x y) :: st) h Q := WB_step fun n => rfl
theorem wb_dupI {sc : Scr} {m a : Nat} {b : Int} {L : List Nat} {c : List AI} {ls : ALS} {st : List AV} {h : Hp} {Q : Option AV → Hp → Prop} {x : Int} : WB sc m ((28, a, b, L) :: c) ls (aI x :: st) h Q = WB sc m c ls (aI x :: aI x :: st) h Q := WB_step fun n => rfl
theorem wb_dupR {sc : Scr} {m a : Nat} {b : Int} {L : List Nat} {c : List AI} {ls : ALS} {st : List AV} {h : Hp} {Q : Option AV → Hp → Prop} {x : Nat} : WB sc m ((28, a, b, L) :: c) ls (aR x :: st) h Q = WB sc m c ls (aR x :: aR x :: st) h Q := WB_step fun n => rfl
theorem wb_dup2 {sc : Scr} {m a : Nat} {b : Int} {L : List Nat} {c : List AI} {ls : ALS} {st : List AV} {h : Hp} {Q : Option AV → Hp → Prop} {x : Nat} {i : Int} : WB sc m ((29, a, b, L) :: c) ls (aI i :: aR x :: st) h Q = WB sc m c ls (aI i :: aR x :: aI i :: aR x :: st) h Q := WB_step fun n => rfl
theorem wb_popI {sc : Scr} {m a : Nat} {b : Int} {L : List Nat} {c : List AI} {ls : ALS} {st : List AV} {h : Hp} {Q : Option AV → Hp → Prop} {x : Int} : WB sc m ((30, a, b, L) :: c) ls (aI x :: st) h Q = WB sc m c ls st h Q := WB_step fun n => rfl
theorem wb_popR {sc : Scr} {m a : Nat} {b : Int} {L : List Nat} {c : List AI} {ls : ALS} {st : List AV} {h : Hp} {Q : Option AV → Hp → Prop} {x : Nat} : WB sc m ((30, a, b, L) :: c) ls (aR x :: st) h Q = WB sc m c ls st h Q := WB_step fun n => rfl
theorem wb_getI {sc : Scr} {m a : Nat} {b : Int} {L : List Nat} {c : List AI} {ls : ALS} {st : List AV} {h : Hp} {Q : Option AV → Hp → Prop} {x : Nat} : WB sc m ((31, a, b, L) :: c) ls (aR x :: st) h Q = (isO h x (a / 64) = true ∧ WB sc m c ls (aI (hI h x (a % 64)) :: st) h Q) := WB_and (fun q n => by rw [run_lt (by omega)]; simp only [sem1, opGet]; rw [if_pos q]) (fun q n => by rw [run_lt (by omega)]; simp only [sem1, opGet]; rw [if_neg q])
theorem wb_getL {sc : Scr} {m a : Nat} {b : Int} {L : List Nat} {c : List AI} {ls : ALS} {st : List AV} {h : Hp} {Q : Option AV → Hp → Prop} {x : Nat} : WB sc m ((32, a, b, L) :: c) ls (aR x :: st) h Q = (isO h x (a / 64) = true ∧ WB sc m c ls (aL (hL h x (a % 64)) :: st) h Q) := WB_and (fun q n => by rw [run_lt (by omega)]; simp only [sem1, opGet]; rw [if_pos q]) (fun q n => by rw [run_lt (by omega)]; simp only [sem1, opGet]; rw [if_neg q])
theorem wb_getR {sc : Scr} {m a : Nat} {b : Int} {L : List Nat} {c : List AI} {ls : ALS} {st : List AV} {h : Hp} {Q : Option AV → Hp → Prop} {x : Nat} : WB sc m ((33, a, b, L) :: c) ls (aR x :: st) h Q = (isO h x (a / 64) = true ∧ WB sc m c ls (aR (hR h x (a % 64)) :: st) h Q) := WB_and (fun q n => by rw [run_lt (by omega)]; simp only [sem1, opGet]; rw [if_pos q]) (fun q n => by rw [run_lt (by omega)]; simp only [sem1, opGet]; rw [if_neg q])
theorem wb_putI {sc : Scr} {m a : Nat} {b : Int} {L : List Nat} {c : List AI} {ls : ALS} {st : List AV} {h : Hp} {Q : Option AV → Hp → Prop} {x : Nat} {v : Int} : WB sc m ((34, a, b, L) :: c) ls (aI v :: aR x :: st) h Q = (isO h x (a / 64) = true ∧ WB sc m c ls st (setI h x (a % 64) v) Q) := WB_and (fun q n => by rw [run_lt (by omega)]; simp only [sem1, opPutI]; rw [if_pos q]) (fun q n => by rw [run_lt (by omega)]; simp only [sem1, opPutI]; rw [if_neg q])
theorem wb_putZ {sc : Scr} {m a : Nat} {b : Int} {L : List Nat} {c : List AI} {ls : ALS} {st : List AV} {h : Hp} {Q : Option AV → Hp → Prop} {x : Nat} {v : Int} : WB sc m ((35, a, b, L) :: c) ls (aI v :: aR x :: st) h Q = ((isO h x (a / 64) && (decide (v = 0) || decide (v = 1))) = true ∧ WB sc m c ls st (setI h x (a % 64) v) Q) := WB_and (fun q n => by rw [run_lt (by omega)]; simp only [sem1, opPutZ]; rw [if_pos q]) (fun q n => by rw [run_lt (by omega)]; simp only [sem1, opPutZ]; rw [if_neg q])
theorem wb_putL {sc : Scr} {m a : Nat} {b : Int} {L : List Nat} {c : List AI} {ls : ALS} {st : List AV} {h : Hp} {Q : Option AV → Hp → Prop} {x : Nat} {v : BitVec 64} : WB sc m ((36, a, b, L) :: c) ls (aL v :: aR x :: st) h Q = (isO h x (a / 64) = true ∧ WB sc m c ls st (setL h x (a % 64) v) Q) := WB_and (fun q n => by rw [run_lt (by omega)]; simp only [sem1, opPutL]; rw [if_pos q]) (fun q n => by rw [run_lt (by omega)]; simp only [sem1, opPutL]; rw [if_neg q])
theorem wb_putR {sc : Scr} {m a : Nat} {b : Int} {L : List Nat} {c : List AI} {ls : ALS} {st : List AV} {h : Hp} {Q : Option AV → Hp → Prop} {x v : Nat} : WB sc m ((37, a, b, L) :: c) ls (aR v :: aR x :: st) h Q = ((isO h x (a / 64) && !(v == 1)) = true ∧ WB sc m c ls st (setR h x (a % 64) v) Q) := WB_and (fun q n => by rw [run_lt (by omega)]; simp only [sem1, opPutR]; rw [if_pos q]) (fun q n => by rw [run_lt (by omega)]; simp only [sem1, opPutR]; rw [if_neg q])
theorem wb_iaload {sc : Scr} {m a : Nat} {b : Int} {L : List Nat} {c : List AI} {ls : ALS} {st : List AV} {h : Hp} {Q : Option AV → Hp → Prop} {x : Nat} {i : Int} : WB sc m ((38, a, b, L) :: c) ls (aI i :: aR x :: st) h Q = (inA h x 1 i = true ∧ WB sc m c ls (aI (hI h x i.toNat) :: st) h Q) := WB_and (fun q n => by rw [run_lt (by omega)]; simp only [sem1, opAld]; rw [if_pos q]) (fun q n => by rw [run_lt (by omega)]; simp only [sem1, opAld]; rw [if_neg q])
theorem wb_laload {sc : Scr} {m a : Nat} {b : Int} {L : List Nat} {c : List AI} {ls : ALS} {st : List AV} {h : Hp} {Q : Option AV → Hp → Prop} {x : Nat} {i : Int} : WB sc m ((39, a, b, L) :: c) ls (aI i :: aR x :: st) h Q = (inA h x 2 i = true ∧ WB sc m c ls (aL (hL h x i.toNat) :: st) h Q) := WB_and (fun q n => by rw [run_lt (by omega)]; simp only [sem1, opAld]; rw [if_pos q]) (fun q n => by rw [run_lt (by omega)]; simp only [sem1, opAld]; rw [if_neg q])
theorem wb_zaload {sc : Scr} {m a : Nat} {b : Int} {L : List Nat} {c : List AI} {ls : ALS} {st : List AV} {h : Hp} {Q : Option AV → Hp → Prop} {x : Nat} {i : Int} : WB sc m ((40, a, b, L) :: c) ls (aI i :: aR x :: st) h Q = (inA h x 3 i = true ∧ WB sc m c ls (aI (hI h x i.toNat) :: st) h Q) := WB_and (fun q n => by rw [run_lt (by omega)]; simp only [sem1, opAld]; rw [if_pos q]) (fun q n => by rw [run_lt (by omega)]; simp only [sem1, opAld]; rw [if_neg q])
theorem wb_aaload {sc : Scr} {m a : Nat} {b : Int} {L : List Nat} {c : List AI} {ls : ALS} {st : List AV} {h : Hp} {Q : Option AV → Hp → Prop} {x : Nat} {i : Int} : WB sc m ((41, a, b, L) :: c) ls (aI i :: aR x :: st) h Q = (inA h x 4 i = true ∧ WB sc m c ls (aR (hR h x i.toNat) :: st) h Q) := WB_and (fun q n => by rw [run_lt (by omega)]; simp only [sem1, opAld]; rw [if_pos q]) (fun q n => by rw [run_lt (by omega)]; simp only [sem1, opAld]; rw [if_neg q])
theorem wb_iastore {sc : Scr} {m a : Nat} {b : Int} {L : List Nat} {c : List AI} {ls : ALS} {st : List AV} {h : Hp} {Q : Option AV → Hp → Prop} {x : Nat} {i v : Int} : WB sc m ((42, a, b, L) :: c) ls (aI v :: aI i :: aR x :: st) h Q = (inA h x 1 i = true ∧ WB sc m c ls st (setI h x i.toNat v) Q) := WB_and (fun q n => by rw [run_lt (by omega)]; simp only [sem1, opAstI]; rw [if_pos q]) (fun q n => by rw [run_lt (by omega)]; simp only [sem1, opAstI]; rw [if_neg q])
theorem wb_lastore {sc : Scr} {m a : Nat} {b : Int} {L : List Nat} {c : List AI} {ls : ALS} {st : List AV} {h : Hp} {Q : Option AV → Hp → Prop} {x : Nat} {i : Int} {v : BitVec 64} : WB sc m ((43, a, b, L) :: c) ls (aL v :: aI i :: aR x :: st) h Q = (inA h x 2 i = true ∧ WB sc m c ls st (setL h x i.toNat v) Q) := WB_and (fun q n => by rw [run_lt (by omega)]; simp only [sem1, opAstL]; rw [if_pos q]) (fun q n => by rw [run_lt (by omega)]; simp only [sem1, opAstL]; rw [if_neg q])
theorem wb_zastore {sc : Scr} {m a : Nat} {b : Int} {L : List Nat} {c : List AI} {ls : ALS} {st : List AV} {h : Hp} {Q : Option AV → Hp → Prop} {x : Nat} {i v : Int} : WB sc m ((44, a, b, L) :: c) ls (aI v :: aI i :: aR x :: st) h Q = ((inA h x 3 i && (decide (v = 0) || decide (v = 1))) = true ∧ WB sc m c ls st (setI h x i.toNat v) Q) := WB_and (fun q n => by rw [run_lt (by omega)]; simp only [sem1, opAstZ]; rw [if_pos q]) (fun q n => by rw [run_lt (by omega)]; simp only [sem1, opAstZ]; rw [if_neg q])
theorem wb_aastore {sc : Scr} {m a : Nat} {b : Int} {L : List Nat} {c : List AI} {ls : ALS} {st : List AV} {h : Hp} {Q : Option AV → Hp → Prop} {x v : Nat} {i : Int} : WB sc m ((45, a, b, L) :: c) ls (aR v :: aI i :: aR x :: st) h Q = ((inA h x 4 i && isO h v 2) = true ∧ WB sc m c ls st (setR h x i.toNat v) Q) := WB_and (fun q n => by rw [run_lt (by omega)]; simp only [sem1, opAstR]; rw [if_pos q]) (fun q n => by rw [run_lt (by omega)]; simp only [sem1, opAstR]; rw [if_neg q])
theorem wb_alen {sc : Scr} {m a : Nat} {b : Int} {L : List Nat} {c : List AI} {ls : ALS} {st : List AV} {h : Hp} {Q : Option AV → Hp → Prop} {x : Nat} : WB sc m ((46, a, b, L) :: c) ls (aR x :: st) h Q = ((decide (1 ≤ (hT h x).1) && decide ((hT h x).1 ≤ 4)) = true ∧ WB sc m c ls (aI ((hT h x).2 : Int) :: st) h Q) := WB_and (fun q n => by rw [run_lt (by omega)]; simp only [sem1, opLen]; rw [if_pos q]) (fun q n => by rw [run_lt (by omega)]; simp only [sem1, opLen]; rw [if_neg q])
theorem wb_newI {sc : Scr} {m a : Nat} {b : Int} {L : List Nat} {c : List AI} {ls : ALS} {st : List AV} {h : Hp} {Q : Option AV → Hp → Prop} {n : Int} : WB sc m ((47, a, b, L) :: c) ls (aI n :: st) h Q = ((decide (0 ≤ n) && decide (n ≤ 65536)) = true ∧ WB sc m c ls (aR (hN h) :: st) (newH h 1 n.toNat) Q) := WB_and (fun q n => by rw [run_lt (by omega)]; simp only [sem1, opNewA]; rw [if_pos q]) (fun q n => by rw [run_lt (by omega)]; simp only [sem1, opNewA]; rw [if_neg q])
theorem wb_newL {sc : Scr} {m a : Nat} {b : Int} {L : List Nat} {c : List AI} {ls : ALS} {st : List AV} {h : Hp} {Q : Option AV → Hp → Prop} {n : Int} : WB sc m ((48, a, b, L) :: c) ls (aI n :: st) h Q = ((decide (0 ≤ n) && decide (n ≤ 65536)) = true ∧ WB sc m c ls (aR (hN h) :: st) (newH h 2 n.toNat) Q) := WB_and (fun q n => by rw [run_lt (by omega)]; simp only [sem1, opNewA]; rw [if_pos q]) (fun q n => by rw [run_lt (by omega)]; simp only [sem1, opNewA]; rw [if_neg q])
theorem wb_newZ {sc : Scr} {m a : Nat} {b : Int} {L : List Nat} {c : List AI} {ls : ALS} {st : List AV} {h : Hp} {Q : Option AV → Hp → Prop} {n : Int} : WB sc m ((49, a, b, L) :: c) ls (aI n :: st) h Q = ((decide (0 ≤ n) && decide (n ≤ 65536)) = true ∧ WB sc m c ls (aR (hN h) :: st) (newH h 3 n.toNat) Q) := WB_and (fun q n => by rw [run_lt (by omega)]; simp only [sem1, opNewA]; rw [if_pos q]) (fun q n => by rw [run_lt (by omega)]; simp only [sem1, opNewA]; rw [if_neg q])
theorem wb_newA {sc : Scr} {m a : Nat} {b : Int} {L : List Nat} {c : List AI} {ls : ALS} {st : List AV} {h : Hp} {Q : Option AV → Hp → Prop} {n : Int} : WB sc m ((50, a, b, L) :: c) ls (aI n :: st) h Q = ((decide (0 ≤ n) && decide (n ≤ 65536)) = true ∧ WB sc m c ls (aR (hN h) :: st) (newH h 4 n.toNat) Q) := WB_and (fun q n => by rw [run_lt (by omega)]; simp only [sem1, opNewA]; rw [if_pos q]) (fun q n => by rw [run_lt (by omega)]; simp only [sem1, opNewA]; rw [if_neg q])
theorem wb_new {sc : Scr} {m a : Nat} {b : Int} {L : List Nat} {c : List AI} {ls : ALS} {st : List AV} {h : Hp} {Q : Option AV → Hp → Prop}  : WB sc m ((51, a, b, L) :: c) ls st h Q = WB sc m c ls (aR (hN h) :: st) (newH h (10 + a) b.toNat) Q := WB_step fun n => rfl
theorem wb_obj {sc : Scr} {m a : Nat} {b : Int} {L : List Nat} {c : List AI} {ls : ALS} {h : Hp} {Q : Option AV → Hp → Prop} {x : Nat} : WB sc m ((52, a, b, L) :: c) ls [aR x] h Q = (¬ (x == 0 || x == 1) = true ∧ WB sc m c ls [] h Q) := WB_and (fun q n => by rw [run_lt (by omega)]; simp only [sem1, opObj]; rw [if_neg q]) (fun q n => by rw [run_lt (by omega)]; simp only [sem1, opObj]; rw [if_pos (Decidable.not_not.mp q)])
theorem wb_sld {sc : Scr} {m a : Nat} {b : Int} {L : List Nat} {c : List AI} {ls : ALS} {st : List AV} {h : Hp} {Q : Option AV → Hp → Prop} {i : Int} : WB sc m ((53, a, b, L) :: c) ls (aI i :: aR 1 :: st) h Q = ((decide (0 ≤ i) && decide (i < (sc.1 : Int))) = true ∧ WB sc m c ls (aI (sc.2 i.toNat) :: st) h Q) := WB_and (fun q n => by rw [run_lt (by omega)]; simp only [sem1, opSld]; rw [if_pos q]) (fun q n => by rw [run_lt (by omega)]; simp only [sem1, opSld]; rw [if_neg q])
theorem wb_slen {sc : Scr} {m a : Nat} {b : Int} {L : List Nat} {c : List AI} {ls : ALS} {st : List AV} {h : Hp} {Q : Option AV → Hp → Prop}  : WB sc m ((54, a, b, L) :: c) ls (aR 1 :: st) h Q = WB sc m c ls (aI (sc.1 : Int) :: st) h Q := WB_step fun n => rfl
theorem wb_goto {sc : Scr} {m a : Nat} {b : Int} {L : List Nat} {c : List AI} {ls : ALS} {st : List AV} {h : Hp} {Q : Option AV → Hp → Prop}  : WB sc m ((55, a, b, L) :: c) ls st h Q = WB sc m (BL m a) ls st h Q := WB_step fun n => rfl
theorem wb_ifeq {sc : Scr} {m : Nat} {b : Int} {L : List Nat} {c : List AI} {ls : ALS} {st : List AV} {h : Hp} {Q : Option AV → Hp → Prop} {x : Int} : WB sc m ((56, 0, b, L) :: c) ls (aI x :: st) h Q = if x = 0 then WB sc m (BL m b.toNat) ls st h Q else WB sc m c ls st h Q := WB_ite _ (fun q n => by show (if cnd 0 x 0 = true then _ else _) = _; rw [if_pos (by simpa [cnd] using q)]; rfl) (fun q n => by show (if cnd 0 x 0 = true then _ else _) = _; rw [if_neg (by simpa [cnd] using q)])
theorem wb_iceq {sc : Scr} {m : Nat} {b : Int} {L : List Nat} {c : List AI} {ls : ALS} {st : List AV} {h : Hp} {Q : Option AV → Hp → Prop} {x y : Int} : WB sc m ((57, 0, b, L) :: c) ls (aI y :: aI x :: st) h Q = if x = y then WB sc m (BL m b.toNat) ls st h Q else WB sc m c ls st h Q := WB_ite _ (fun q n => by show (if cnd 0 x y = true then _ else _) = _; rw [if_pos (by simpa [cnd] using q)]; rfl) (fun q n => by show (if cnd 0 x y = true then _ else _) = _; rw [if_neg (by simpa [cnd] using q)])
theorem wb_ifne {sc : Scr} {m : Nat} {b : Int} {L : List Nat} {c : List AI} {ls : ALS} {st : List AV} {h : Hp} {Q : Option AV → Hp → Prop} {x : Int} : WB sc m ((56, 1, b, L) :: c) ls (aI x :: st) h Q = if ¬ x = 0 then WB sc m (BL m b.toNat) ls st h Q else WB sc m c ls st h Q := WB_ite _ (fun q n => by show (if cnd 1 x 0 = true then _ else _) = _; rw [if_pos (by simpa [cnd] using q)]; rfl) (fun q n => by show (if cnd 1 x 0 = true then _ else _) = _; rw [if_neg (by simpa [cnd] using q)])
theorem wb_icne {sc : Scr} {m : Nat} {b : Int} {L : List Nat} {c : List AI} {ls : ALS} {st : List AV} {h : Hp} {Q : Option AV → Hp → Prop} {x y : Int} : WB sc m ((57, 1, b, L) :: c) ls (aI y :: aI x :: st) h Q = if ¬ x = y then WB sc m (BL m b.toNat) ls st h Q else WB sc m c ls st h Q := WB_ite _ (fun q n => by show (if cnd 1 x y = true then _ else _) = _; rw [if_pos (by simpa [cnd] using q)]; rfl) (fun q n => by show (if cnd 1 x y = true then _ else _) = _; rw [if_neg (by simpa [cnd] using q)])
theorem wb_iflt {sc : Scr} {m : Nat} {b : Int} {L : List Nat} {c : List AI} {ls : ALS} {st : List AV} {h : Hp} {Q : Option AV → Hp → Prop} {x : Int} : WB sc m ((56, 2, b, L) :: c) ls (aI x :: st) h Q = if x < 0 then WB sc m (BL m b.toNat) ls st h Q else WB sc m c ls st h Q := WB_ite _ (fun q n => by show (if cnd 2 x 0 = true then _ else _) = _; rw [if_pos (by simpa [cnd] using q)]; rfl) (fun q n => by show (if cnd 2 x 0 = true then _ else _) = _; rw [if_neg (by simpa [cnd] using q)])
theorem wb_iclt {sc : Scr} {m : Nat} {b : Int} {L : List Nat} {c : List AI} {ls : ALS} {st : List AV} {h : Hp} {Q : Option AV → Hp → Prop} {x y : Int} : WB sc m ((57, 2, b, L) :: c) ls (aI y :: aI x :: st) h Q = if x < y then WB sc m (BL m b.toNat) ls st h Q else WB sc m c ls st h Q := WB_ite _ (fun q n => by show (if cnd 2 x y = true then _ else _) = _; rw [if_pos (by simpa [cnd] using q)]; rfl) (fun q n => by show (if cnd 2 x y = true then _ else _) = _; rw [if_neg (by simpa [cnd] using q)])
theorem wb_ifge {sc : Scr} {m : Nat} {b : Int} {L : List Nat} {c : List AI} {ls : ALS} {st : List AV} {h : Hp} {Q : Option AV → Hp → Prop} {x : Int} : WB sc m ((56, 3, b, L) :: c) ls (aI x :: st) h Q = if 0 ≤ x then WB sc m (BL m b.toNat) ls st h Q else WB sc m c ls st h Q := WB_ite _ (fun q n => by show (if cnd 3 x 0 = true then _ else _) = _; rw [if_pos (by simpa [cnd] using q)]; rfl) (fun q n => by show (if cnd 3 x 0 = true then _ else _) = _; rw [if_neg (by simpa [cnd] using q)])
theorem wb_icge {sc : Scr} {m : Nat} {b : Int} {L : List Nat} {c : List AI} {ls : ALS} {st : List AV} {h : Hp} {Q : Option AV → Hp → Prop} {x y : Int} : WB sc m ((57, 3, b, L) :: c) ls (aI y :: aI x :: st) h Q = if y ≤ x then WB sc m (BL m b.toNat) ls st h Q else WB sc m c ls st h Q := WB_ite _ (fun q n => by show (if cnd 3 x y = true then _ else _) = _; rw [if_pos (by simpa [cnd] using q)]; rfl) (fun q n => by show (if cnd 3 x y = true then _ else _) = _; rw [if_neg (by simpa [cnd] using q)])
theorem wb_ifgt {sc : Scr} {m : Nat} {b : Int} {L : List Nat} {c : List AI} {ls : ALS} {st : List AV} {h : Hp} {Q : Option AV → Hp → Prop} {x : Int} : WB sc m ((56, 4, b, L) :: c) ls (aI x :: st) h Q = if 0 < x then WB sc m (BL m b.toNat) ls st h Q else WB sc m c ls st h Q := WB_ite _ (fun q n => by show (if cnd 4 x 0 = true then _ else _) = _; rw [if_pos (by simpa [cnd] using q)]; rfl) (fun q n => by show (if cnd 4 x 0 = true then _ else _) = _; rw [if_neg (by simpa [cnd] using q)])
theorem wb_icgt {sc : Scr} {m : Nat} {b : Int} {L : List Nat} {c : List AI} {ls : ALS} {st : List AV} {h : Hp} {Q : Option AV → Hp → Prop} {x y : Int} : WB sc m ((57, 4, b, L) :: c) ls (aI y :: aI x :: st) h Q = if y < x then WB sc m (BL m b.toNat) ls st h Q else WB sc m c ls st h Q := WB_ite _ (fun q n => by show (if cnd 4 x y = true then _ else _) = _; rw [if_pos (by simpa [cnd] using q)]; rfl) (fun q n => by show (if cnd 4 x y = true then _ else _) = _; rw [if_neg (by simpa [cnd] using q)])
theorem wb_ifle {sc : Scr} {m : Nat} {b : Int} {L : List Nat} {c : List AI} {ls : ALS} {st : List AV} {h : Hp} {Q : Option AV → Hp → Prop} {x : Int} : WB sc m ((56, 5, b, L) :: c) ls (aI x :: st) h Q = if x ≤ 0 then WB sc m (BL m b.toNat) ls st h Q else WB sc m c ls st h Q := WB_ite _ (fun q n => by show (if cnd 5 x 0 = true then _ else _) = _; rw [if_pos (by simpa [cnd] using q)]; rfl) (fun q n => by show (if cnd 5 x 0 = true then _ else _) = _; rw [if_neg (by simpa [cnd] using q)])
theorem wb_icle {sc : Scr} {m : Nat} {b : Int} {L : List Nat} {c : List AI} {ls : ALS} {st : List AV} {h : Hp} {Q : Option AV → Hp → Prop} {x y : Int} : WB sc m ((57, 5, b, L) :: c) ls (aI y :: aI x :: st) h Q = if x ≤ y then WB sc m (BL m b.toNat) ls st h Q else WB sc m c ls st h Q := WB_ite _ (fun q n => by show (if cnd 5 x y = true then _ else _) = _; rw [if_pos (by simpa [cnd] using q)]; rfl) (fun q n => by show (if cnd 5 x y = true then _ else _) = _; rw [if_neg (by simpa [cnd] using q)])
theorem wb_ifnull {sc : Scr} {m a : Nat} {b : Int} {L : List Nat} {c : List AI} {ls : ALS} {st : List AV} {h : Hp} {Q : Option AV → Hp → Prop} {x : Nat} : WB sc m ((58, a, b, L) :: c) ls (aR x :: st) h Q = if x = 0 then WB sc m (BL m a) ls st h Q else WB sc m c ls st h Q := WB_ite _ (fun q n => by show (if x = 0 then _ else _) = _; rw [if_pos q]; rfl) (fun q n => by show (if x = 0 then _ else _) = _; rw [if_neg q])
theorem wb_ifnonnull {sc : Scr} {m a : Nat} {b : Int} {L : List Nat} {c : List AI} {ls : ALS} {st : List AV} {h : Hp} {Q : Option AV → Hp → Prop} {x : Nat} : WB sc m ((59, a, b, L) :: c) ls (aR x :: st) h Q = if x = 0 then WB sc m c ls st h Q else WB sc m (BL m a) ls st h Q := WB_ite _ (fun q n => by show (if x = 0 then _ else _) = _; rw [if_pos q]) (fun q n => by show (if x = 0 then _ else _) = _; rw [if_neg q]; rfl)
theorem wb_ret {sc : Scr} {m a : Nat} {b : Int} {L : List Nat} {c : List AI} {ls : ALS} {h : Hp} {Q : Option AV → Hp → Prop}  : WB sc m ((60, a, b, L) :: c) ls [] h Q = Q none h := WB_ret fun n => rfl
theorem wb_iret {sc : Scr} {m a : Nat} {b : Int} {L : List Nat} {c : List AI} {ls : ALS} {h : Hp} {Q : Option AV → Hp → Prop} {x : Int} : WB sc m ((61, a, b, L) :: c) ls [aI x] h Q = Q (some (aI x)) h := WB_ret fun n => rfl
theorem wb_lret {sc : Scr} {m a : Nat} {b : Int} {L : List Nat} {c : List AI} {ls : ALS} {h : Hp} {Q : Option AV → Hp → Prop} {x : BitVec 64} : WB sc m ((62, a, b, L) :: c) ls [aL x] h Q = Q (some (aL x)) h := WB_ret fun n => rfl
theorem wb_aret {sc : Scr} {m a : Nat} {b : Int} {L : List Nat} {c : List AI} {ls : ALS} {h : Hp} {Q : Option AV → Hp → Prop} {x : Nat} : WB sc m ((63, a, b, L) :: c) ls [aR x] h Q = (¬ (x == 1) = true ∧ Q (some (aR x)) h) := WB_retA (fun q n => by show Option.map _ (if (x == 1) = true then _ else _) = _; rw [if_neg q]; rfl) (fun q n => by show Option.map _ (if (x == 1) = true then _ else _) = _; rw [if_pos (Decidable.not_not.mp q)]; rfl)
theorem wb_zret {sc : Scr} {m a : Nat} {b : Int} {L : List Nat} {c : List AI} {ls : ALS} {h : Hp} {Q : Option AV → Hp → Prop} {x : Int} : WB sc m ((64, a, b, L) :: c) ls [aI x] h Q = ((x = 0 ∨ x = 1) ∧ Q (some (aI x)) h) := WB_retA (fun q n => by show Option.map _ (if x = 0 ∨ x = 1 then _ else _) = _; rw [if_pos q]; rfl) (fun q n => by show Option.map _ (if x = 0 ∨ x = 1 then _ else _) = _; rw [if_neg q]; rfl)
theorem wb_tsw0 {sc : Scr} {m a : Nat} {b : Int} {c : List AI} {ls : ALS} {st : List AV} {h : Hp} {Q : Option AV → Hp → Prop} {x : Int} : WB sc m ((65, a, b, []) :: c) ls (aI x :: st) h Q = WB sc m (BL m a) ls st h Q := WB_step fun n => rfl
theorem wb_tsw1 {sc : Scr} {m a : Nat} {b : Int} {c : List AI} {ls : ALS} {st : List AV} {h : Hp} {Q : Option AV → Hp → Prop} {x : Int} {t : Nat} {ts : List Nat} : WB sc m ((65, a, b, t :: ts) :: c) ls (aI x :: st) h Q = if x = b then WB sc m (BL m t) ls st h Q else WB sc m ((65, a, b + 1, ts) :: c) ls (aI x :: st) h Q := by
  by_cases hx : x = b
  · rw [if_pos hx]
    refine WB_step fun n => ?_
    show run PP sc n m ((codeT m).drop (if x = b then t else tsw x (b + 1) a ts)) ls st h = _
    rw [if_pos hx]; rfl
  · rw [if_neg hx]
    have e1 : WB sc m ((65, a, b, t :: ts) :: c) ls (aI x :: st) h Q = WB sc m (BL m (tsw x (b + 1) a ts)) ls st h Q := by
      refine WB_step fun n => ?_
      show run PP sc n m ((codeT m).drop (if x = b then t else tsw x (b + 1) a ts)) ls st h = _
      rw [if_neg hx]; rfl
    rw [e1]
    exact (WB_step fun n => rfl).symm
theorem wb_lsw0 {sc : Scr} {m a : Nat} {b : Int} {c : List AI} {ls : ALS} {st : List AV} {h : Hp} {Q : Option AV → Hp → Prop} {x : Int} : WB sc m ((66, a, b, []) :: c) ls (aI x :: st) h Q = WB sc m (BL m a) ls st h Q := WB_step fun n => rfl
theorem wb_lsw1 {sc : Scr} {m a : Nat} {b : Int} {c : List AI} {ls : ALS} {st : List AV} {h : Hp} {Q : Option AV → Hp → Prop} {x : Int} {k t : Nat} {ts : List Nat} : WB sc m ((66, a, b, k :: t :: ts) :: c) ls (aI x :: st) h Q = if x = (k : Int) then WB sc m (BL m t) ls st h Q else WB sc m ((66, a, b, ts) :: c) ls (aI x :: st) h Q := by
  by_cases hx : x = (k : Int)
  · rw [if_pos hx]
    refine WB_step fun n => ?_
    show run PP sc n m ((codeT m).drop (if x = (k : Int) then t else lsw x a ts)) ls st h = _
    rw [if_pos hx]; rfl
  · rw [if_neg hx]
    have e1 : WB sc m ((66, a, b, k :: t :: ts) :: c) ls (aI x :: st) h Q = WB sc m (BL m (lsw x a ts)) ls st h Q := by
      refine WB_step fun n => ?_
      show run PP sc n m ((codeT m).drop (if x = (k : Int) then t else lsw x a ts)) ls st h = _
      rw [if_neg hx]; rfl
    rw [e1]
    exact (WB_step fun n => rfl).symm
theorem wb_calls0 {sc : Scr} {m a : Nat} {L : List Nat} {c : List AI} {ls : ALS} {st : List AV} {h : Hp} {Q : Option AV → Hp → Prop}  : WB sc m ((67, a, 0, L) :: c) ls st h Q = (st.length ≤ 4 ∧ WC sc a [] h fun r h2 => WB sc m c ls (r.toList ++ st) h2 Q) := by
  refine WB_call (fun q n => ?_) (fun q n => ?_)
  · show (if (decide (List.length st < 0) || decide (0 + 4 < List.length st)) = true then none else _) = none
    rw [if_pos (by simp only [List.length_cons, Bool.or_eq_true, decide_eq_true_eq]; omega)]
  · show (if (decide (List.length st < 0) || decide (0 + 4 < List.length st)) = true then none else _) = _
    rw [if_neg (by simp only [List.length_cons, Bool.or_eq_true, decide_eq_true_eq]; omega)]
    rfl
theorem wb_calls1 {sc : Scr} {m a : Nat} {L : List Nat} {c : List AI} {ls : ALS} {st : List AV} {h : Hp} {Q : Option AV → Hp → Prop} {v1 : AV} : WB sc m ((67, a, 1, L) :: c) ls (v1 :: st) h Q = (st.length ≤ 4 ∧ WC sc a [v1] h fun r h2 => WB sc m c ls (r.toList ++ st) h2 Q) := by
  refine WB_call (fun q n => ?_) (fun q n => ?_)
  · show (if (decide (List.length (v1 :: st) < 1) || decide (1 + 4 < List.length (v1 :: st))) = true then none else _) = none
    rw [if_pos (by simp only [List.length_cons, Bool.or_eq_true, decide_eq_true_eq]; omega)]
  · show (if (decide (List.length (v1 :: st) < 1) || decide (1 + 4 < List.length (v1 :: st))) = true then none else _) = _
    rw [if_neg (by simp only [List.length_cons, Bool.or_eq_true, decide_eq_true_eq]; omega)]
    rfl
theorem wb_callv1 {sc : Scr} {m a : Nat} {c : List AI} {ls : ALS} {st : List AV} {h : Hp} {Q : Option AV → Hp → Prop} {x ci : Nat}  : WB sc m ((68, a, 1, [ci]) :: c) ls (aR x :: st) h Q = ((st.length ≤ 4 ∧ isO h x ci = true) ∧ WC sc a [aR x] h fun r h2 => WB sc m c ls (r.toList ++ st) h2 Q) := by
  refine WB_call (fun q n => ?_) (fun q n => ?_)
  · show (if (decide (List.length (aR x :: st) < 1) || decide (1 + 4 < List.length (aR x :: st)) || !(isO h x ci)) = true then none else _) = none
    rw [if_pos]
    simp only [List.length_cons, Bool.or_eq_true, decide_eq_true_eq, Bool.not_eq_true']
    by_cases ho : isO h x ci = true
    · have : ¬ st.length ≤ 4 := fun z => q ⟨z, ho⟩
      omega
    · exact Or.inr (by simpa using ho)
  · show (if (decide (List.length (aR x :: st) < 1) || decide (1 + 4 < List.length (aR x :: st)) || !(isO h x ci)) = true then none else _) = _
    rw [if_neg]
    · rfl
    · rw [q.2]
      simp only [List.length_cons, Bool.or_eq_true, decide_eq_true_eq, Bool.not_true, Bool.false_eq_true, or_false]
      have := q.1
      omega
theorem wb_calls2 {sc : Scr} {m a : Nat} {L : List Nat} {c : List AI} {ls : ALS} {st : List AV} {h : Hp} {Q : Option AV → Hp → Prop} {v1 v2 : AV} : WB sc m ((67, a, 2, L) :: c) ls (v2 :: v1 :: st) h Q = (st.length ≤ 4 ∧ WC sc a [v1, v2] h fun r h2 => WB sc m c ls (r.toList ++ st) h2 Q) := by
  refine WB_call (fun q n => ?_) (fun q n => ?_)
  · show (if (decide (List.length (v2 :: v1 :: st) < 2) || decide (2 + 4 < List.length (v2 :: v1 :: st))) = true then none else _) = none
    rw [if_pos (by simp only [List.length_cons, Bool.or_eq_true, decide_eq_true_eq]; omega)]
  · show (if (decide (List.length (v2 :: v1 :: st) < 2) || decide (2 + 4 < List.length (v2 :: v1 :: st))) = true then none else _) = _
    rw [if_neg (by simp only [List.length_cons, Bool.or_eq_true, decide_eq_true_eq]; omega)]
    rfl
theorem wb_callv2 {sc : Scr} {m a : Nat} {c : List AI} {ls : ALS} {st : List AV} {h : Hp} {Q : Option AV → Hp → Prop} {x ci : Nat} {v2 : AV} : WB sc m ((68, a, 2, [ci]) :: c) ls (v2 :: aR x :: st) h Q = ((st.length ≤ 4 ∧ isO h x ci = true) ∧ WC sc a [aR x, v2] h fun r h2 => WB sc m c ls (r.toList ++ st) h2 Q) := by
  refine WB_call (fun q n => ?_) (fun q n => ?_)
  · show (if (decide (List.length (v2 :: aR x :: st) < 2) || decide (2 + 4 < List.length (v2 :: aR x :: st)) || !(isO h x ci)) = true then none else _) = none
    rw [if_pos]
    simp only [List.length_cons, Bool.or_eq_true, decide_eq_true_eq, Bool.not_eq_true']
    by_cases ho : isO h x ci = true
    · have : ¬ st.length ≤ 4 := fun z => q ⟨z, ho⟩
      omega
    · exact Or.inr (by simpa using ho)
  · show (if (decide (List.length (v2 :: aR x :: st) < 2) || decide (2 + 4 < List.length (v2 :: aR x :: st)) || !(isO h x ci)) = true then none else _) = _
    rw [if_neg]
    · rfl
    · rw [q.2]
      simp only [List.length_cons, Bool.or_eq_true, decide_eq_true_eq, Bool.not_true, Bool.false_eq_true, or_false]
      have := q.1
      omega
theorem wb_calls3 {sc : Scr} {m a : Nat} {L : List Nat} {c : List AI} {ls : ALS} {st : List AV} {h : Hp} {Q : Option AV → Hp → Prop} {v1 v2 v3 : AV} : WB sc m ((67, a, 3, L) :: c) ls (v3 :: v2 :: v1 :: st) h Q = (st.length ≤ 4 ∧ WC sc a [v1, v2, v3] h fun r h2 => WB sc m c ls (r.toList ++ st) h2 Q) := by
  refine WB_call (fun q n => ?_) (fun q n => ?_)
  · show (if (decide (List.length (v3 :: v2 :: v1 :: st) < 3) || decide (3 + 4 < List.length (v3 :: v2 :: v1 :: st))) = true then none else _) = none
    rw [if_pos (by simp only [List.length_cons, Bool.or_eq_true, decide_eq_true_eq]; omega)]
  · show (if (decide (List.length (v3 :: v2 :: v1 :: st) < 3) || decide (3 + 4 < List.length (v3 :: v2 :: v1 :: st))) = true then none else _) = _
    rw [if_neg (by simp only [List.length_cons, Bool.or_eq_true, decide_eq_true_eq]; omega)]
    rfl
theorem wb_callv3 {sc : Scr} {m a : Nat} {c : List AI} {ls : ALS} {st : List AV} {h : Hp} {Q : Option AV → Hp → Prop} {x ci : Nat} {v2 v3 : AV} : WB sc m ((68, a, 3, [ci]) :: c) ls (v3 :: v2 :: aR x :: st) h Q = ((st.length ≤ 4 ∧ isO h x ci = true) ∧ WC sc a [aR x, v2, v3] h fun r h2 => WB sc m c ls (r.toList ++ st) h2 Q) := by
  refine WB_call (fun q n => ?_) (fun q n => ?_)
  · show (if (decide (List.length (v3 :: v2 :: aR x :: st) < 3) || decide (3 + 4 < List.length (v3 :: v2 :: aR x :: st)) || !(isO h x ci)) = true then none else _) = none
    rw [if_pos]
    simp only [List.length_cons, Bool.or_eq_true, decide_eq_true_eq, Bool.not_eq_true']
    by_cases ho : isO h x ci = true
    · have : ¬ st.length ≤ 4 := fun z => q ⟨z, ho⟩
      omega
    · exact Or.inr (by simpa using ho)
  · show (if (decide (List.length (v3 :: v2 :: aR x :: st) < 3) || decide (3 + 4 < List.length (v3 :: v2 :: aR x :: st)) || !(isO h x ci)) = true then none else _) = _
    rw [if_neg]
    · rfl
    · rw [q.2]
      simp only [List.length_cons, Bool.or_eq_true, decide_eq_true_eq, Bool.not_true, Bool.false_eq_true, or_false]
      have := q.1
      omega
theorem wb_callv4 {sc : Scr} {m a : Nat} {c : List AI} {ls : ALS} {st : List AV} {h : Hp} {Q : Option AV → Hp → Prop} {x ci : Nat} {v2 v3 v4 : AV} : WB sc m ((68, a, 4, [ci]) :: c) ls (v4 :: v3 :: v2 :: aR x :: st) h Q = ((st.length ≤ 4 ∧ isO h x ci = true) ∧ WC sc a [aR x, v2, v3, v4] h fun r h2 => WB sc m c ls (r.toList ++ st) h2 Q) := by
  refine WB_call (fun q n => ?_) (fun q n => ?_)
  · show (if (decide (List.length (v4 :: v3 :: v2 :: aR x :: st) < 4) || decide (4 + 4 < List.length (v4 :: v3 :: v2 :: aR x :: st)) || !(isO h x ci)) = true then none else _) = none
    rw [if_pos]
    simp only [List.length_cons, Bool.or_eq_true, decide_eq_true_eq, Bool.not_eq_true']
    by_cases ho : isO h x ci = true
    · have : ¬ st.length ≤ 4 := fun z => q ⟨z, ho⟩
      omega
    · exact Or.inr (by simpa using ho)
  · show (if (decide (List.length (v4 :: v3 :: v2 :: aR x :: st) < 4) || decide (4 + 4 < List.length (v4 :: v3 :: v2 :: aR x :: st)) || !(isO h x ci)) = true then none else _) = _
    rw [if_neg]
    · rfl
    · rw [q.2]
      simp only [List.length_cons, Bool.or_eq_true, decide_eq_true_eq, Bool.not_true, Bool.false_eq_true, or_false]
      have := q.1
      omega
theorem wb_callv5 {sc : Scr} {m a : Nat} {c : List AI} {ls : ALS} {st : List AV} {h : Hp} {Q : Option AV → Hp → Prop} {x ci : Nat} {v2 v3 v4 v5 : AV} : WB sc m ((68, a, 5, [ci]) :: c) ls (v5 :: v4 :: v3 :: v2 :: aR x :: st) h Q = ((st.length ≤ 4 ∧ isO h x ci = true) ∧ WC sc a [aR x, v2, v3, v4, v5] h fun r h2 => WB sc m c ls (r.toList ++ st) h2 Q) := by
  refine WB_call (fun q n => ?_) (fun q n => ?_)
  · show (if (decide (List.length (v5 :: v4 :: v3 :: v2 :: aR x :: st) < 5) || decide (5 + 4 < List.length (v5 :: v4 :: v3 :: v2 :: aR x :: st)) || !(isO h x ci)) = true then none else _) = none
    rw [if_pos]
    simp only [List.length_cons, Bool.or_eq_true, decide_eq_true_eq, Bool.not_eq_true']
    by_cases ho : isO h x ci = true
    · have : ¬ st.length ≤ 4 := fun z => q ⟨z, ho⟩
      omega
    · exact Or.inr (by simpa using ho)
  · show (if (decide (List.length (v5 :: v4 :: v3 :: v2 :: aR x :: st) < 5) || decide (5 + 4 < List.length (v5 :: v4 :: v3 :: v2 :: aR x :: st)) || !(isO h x ci)) = true then none else _) = _
    rw [if_neg]
    · rfl
    · rw [q.2]
      simp only [List.length_cons, Bool.or_eq_true, decide_eq_true_eq, Bool.not_true, Bool.false_eq_true, or_false]
      have := q.1
      omega
theorem wb_callv6 {sc : Scr} {m a : Nat} {c : List AI} {ls : ALS} {st : List AV} {h : Hp} {Q : Option AV → Hp → Prop} {x ci : Nat} {v2 v3 v4 v5 v6 : AV} : WB sc m ((68, a, 6, [ci]) :: c) ls (v6 :: v5 :: v4 :: v3 :: v2 :: aR x :: st) h Q = ((st.length ≤ 4 ∧ isO h x ci = true) ∧ WC sc a [aR x, v2, v3, v4, v5, v6] h fun r h2 => WB sc m c ls (r.toList ++ st) h2 Q) := by
  refine WB_call (fun q n => ?_) (fun q n => ?_)
  · show (if (decide (List.length (v6 :: v5 :: v4 :: v3 :: v2 :: aR x :: st) < 6) || decide (6 + 4 < List.length (v6 :: v5 :: v4 :: v3 :: v2 :: aR x :: st)) || !(isO h x ci)) = true then none else _) = none
    rw [if_pos]
    simp only [List.length_cons, Bool.or_eq_true, decide_eq_true_eq, Bool.not_eq_true']
    by_cases ho : isO h x ci = true
    · have : ¬ st.length ≤ 4 := fun z => q ⟨z, ho⟩
      omega
    · exact Or.inr (by simpa using ho)
  · show (if (decide (List.length (v6 :: v5 :: v4 :: v3 :: v2 :: aR x :: st) < 6) || decide (6 + 4 < List.length (v6 :: v5 :: v4 :: v3 :: v2 :: aR x :: st)) || !(isO h x ci)) = true then none else _) = _
    rw [if_neg]
    · rfl
    · rw [q.2]
      simp only [List.length_cons, Bool.or_eq_true, decide_eq_true_eq, Bool.not_true, Bool.false_eq_true, or_false]
      have := q.1
      omega
/-! locals -/
theorem ldI_z {x : Int} {l : ALS} : ldI (some (.inl x) :: l) 0 = some x := rfl
theorem ldI_s {v : Option AV} {l : ALS} {n : Nat} : ldI (v :: l) (n + 1) = ldI l n := rfl
theorem ldL_z {x : BitVec 64} {l : ALS} : ldL (some (.inr (.inl x)) :: l) 0 = some x := rfl
theorem ldL_s {v : Option AV} {l : ALS} {n : Nat} : ldL (v :: l) (n + 1) = ldL l n := rfl
theorem ldR_z {x : Nat} {l : ALS} : ldR (some (.inr (.inr x)) :: l) 0 = some x := rfl
theorem ldR_s {v : Option AV} {l : ALS} {n : Nat} : ldR (v :: l) (n + 1) = ldR l n := rfl
theorem ls1_z {x : Option AV} {l : ALS} {v : AV} : ls1 (x :: l) 0 v = some v :: l := by rcases x with _ | x | x | x <;> rfl
theorem ls1_1n {l : ALS} {v : AV} : ls1 (none :: l) 1 v = none :: ls1 l 0 v := rfl
theorem ls1_1i {l : ALS} {v : AV} {y : Int} : ls1 (some (.inl y) :: l) 1 v = some (.inl y) :: ls1 l 0 v := rfl
theorem ls1_1r {l : ALS} {v : AV} {y : Nat} : ls1 (some (.inr (.inr y)) :: l) 1 v = some (.inr (.inr y)) :: ls1 l 0 v := rfl
theorem ls1_1l {l : ALS} {v : AV} {y : BitVec 64} : ls1 (some (.inr (.inl y)) :: l) 1 v = none :: ls1 l 0 v := rfl
theorem ls1_s {x : Option AV} {l : ALS} {v : AV} {n : Nat} : ls1 (x :: l) (n + 2) v = x :: ls1 l (n + 1) v := by rcases x with _ | x | x | x <;> rfl
theorem ls2_z {x y : Option AV} {l : ALS} {v : AV} : ls2 (x :: y :: l) 0 v = some v :: none :: l := by rcases x with _ | x | x | x <;> rfl
theorem ls2_1n {x : Option AV} {l : ALS} {v : AV} : ls2 (none :: x :: l) 1 v = none :: ls2 (x :: l) 0 v := rfl
theorem ls2_1i {x : Option AV} {l : ALS} {v : AV} {y : Int} : ls2 (some (.inl y) :: x :: l) 1 v = some (.inl y) :: ls2 (x :: l) 0 v := rfl
theorem ls2_1r {x : Option AV} {l : ALS} {v : AV} {y : Nat} : ls2 (some (.inr (.inr y)) :: x :: l) 1 v = some (.inr (.inr y)) :: ls2 (x :: l) 0 v := rfl
theorem ls2_1l {x : Option AV} {l : ALS} {v : AV} {y : BitVec 64} : ls2 (some (.inr (.inl y)) :: x :: l) 1 v = none :: ls2 (x :: l) 0 v := rfl
theorem ls2_s {x y : Option AV} {l : ALS} {v : AV} {n : Nat} : ls2 (x :: y :: l) (n + 2) v = x :: ls2 (y :: l) (n + 1) v := by rcases x with _ | x | x | x <;> rfl
