/-! ===== what hangs on what: of two programs that agree ===== -/
theorem wy_stm {K X : Int → Int} {n q u : Int} (h : wy (yes_ K X n) (no_ K n) q u) : stm K n q = true := by
  cases e : stm K n q with
  | true => rfl
  | false =>
    exfalso
    unfold wy yes_ no_ at h
    rw [e] at h
    simp at h
    omega
theorem yes_fn {K K2 X X2 : Int → Int} {n : Int} (h : agr n K K2) (hx : agr n X X2) (w : WFb K n) : yes_ K X n = yes_ K2 X2 n := funext fun _ => yes_cg h hx w
theorem no_fn {K K2 : Int → Int} {n : Int} (h : agr n K K2) (w : WFb K n) : no_ K n = no_ K2 n := funext fun _ => no_cg h w
theorem loo_fn {K K2 : Int → Int} {n : Int} (h : agr n K K2) (w : WFb K n) : loo_ K n = loo_ K2 n := funext fun _ => loo_cg h w
theorem Rch_ag {K K2 X X2 : Int → Int} {n : Int} (h : agr n K K2) (hx : agr n X X2) (w : WFb K n) {B B2 : Int → Prop} (hB : ∀ q, stm K n q = true → (B q ↔ B2 q)) {t v : Int} : Rch (yes_ K X n) (no_ K n) B t v ↔ Rch (yes_ K2 X2 n) (no_ K2 n) B2 t v := by
  unfold Rch
  rw [← yes_fn h hx w, ← no_fn h w]
  have e : (fun q u => ¬ B q ∧ wy (yes_ K X n) (no_ K n) q u) = (fun q u => ¬ B2 q ∧ wy (yes_ K X n) (no_ K n) q u) := by
    funext q u
    apply propext
    constructor
    · rintro ⟨a, b⟩; exact ⟨fun z => a ((hB q (wy_stm b)).mpr z), b⟩
    · rintro ⟨a, b⟩; exact ⟨fun z => a ((hB q (wy_stm b)).mp z), b⟩
  rw [e]
theorem rdA_cg {K K2 X X2 E E2 : Int → Int} {n : Int} (h : agr n K K2) (hx : agr n X X2) (he : agr n E E2) {s t : Int} (hs : stm K n s = true) (ht : stm K n t = true) : rdA K X E t s = rdA K2 X2 E2 t s := by
  obtain ⟨⟨a1, a2⟩, -⟩ := stm_n hs
  obtain ⟨⟨b1, b2⟩, -⟩ := stm_n ht
  unfold rdA
  rw [h s a1 a2, h t b1 b2, hx s a1 a2, hx t b1 b2, he s a1 a2]
theorem RO_cg1 {K K2 X X2 E E2 : Int → Int} {n : Int} (h : agr n K K2) (hx : agr n X X2) (he : agr n E E2) (w : WFb K n) {s t : Int} (r : RO K X E n s t) : RO K2 X2 E2 n s t := by
  obtain ⟨r1, r2, r3, r4, r5⟩ := r
  obtain ⟨⟨b1, b2⟩, -⟩ := stm_n r2
  refine ⟨by rw [← h t b1 b2]; exact r1, by rw [← stm_cg h]; exact r2, by rw [← stm_cg h]; exact r3, by rw [← rdA_cg h hx he r3 r2]; exact r4, ?_⟩
  refine (Rch_ag h hx w (fun q hq => ?_)).mp r5
  obtain ⟨⟨c1, c2⟩, -⟩ := stm_n hq
  unfold blk
  rw [h t b1 b2, h q c1 c2, hx t b1 b2, hx q c1 c2]
theorem WFb_cg {K K2 X X2 E E2 : Int → Int} {n : Nat} (h : agr n K K2) (hx : agr n X X2) (he : agr n E E2) (w : WF K X E n) : WFb K2 n := WF_WFb (WF_cg h hx he w)
theorem RO_cg {K K2 X X2 E E2 : Int → Int} {n : Nat} (h : agr n K K2) (hx : agr n X X2) (he : agr n E E2) (w : WF K X E n) {s t : Int} : RO K X E n s t ↔ RO K2 X2 E2 n s t :=
  ⟨RO_cg1 h hx he (WF_WFb w), RO_cg1 (agr_symm h) (agr_symm hx) (agr_symm he) (WFb_cg h hx he w)⟩
theorem DC_cg1 {K K2 X X2 : Int → Int} {n : Int} (h : agr n K K2) (hx : agr n X X2) (w : WFb K n) {s d : Int} (r : DC K X n s d) : DC K2 X2 n s d := by
  obtain ⟨r1, r2, r3, r4, r5⟩ := r
  obtain ⟨⟨b1, b2⟩, -⟩ := stm_n r2
  unfold DC
  rw [← yes_fn h hx w, ← no_fn h w, ← loo_fn h w, ← stm_cg h, ← stm_cg h, ← h d b1 b2]
  exact ⟨r1, r2, r3, r4, r5⟩
theorem DC_cg {K K2 X X2 E E2 : Int → Int} {n : Nat} (h : agr n K K2) (hx : agr n X X2) (he : agr n E E2) (w : WF K X E n) {s d : Int} : DC K X n s d ↔ DC K2 X2 n s d :=
  ⟨DC_cg1 h hx (WF_WFb w), DC_cg1 (agr_symm h) (agr_symm hx) (WFb_cg h hx he w)⟩
theorem HgN_cg {K K2 X X2 E E2 : Int → Int} {n : Nat} (h : agr n K K2) (hx : agr n X X2) (he : agr n E E2) (w : WF K X E n) : HgN K X E n = HgN K2 X2 E2 n := by
  funext u v
  unfold HgN Hg
  rw [propext (RO_cg h hx he w), propext (DC_cg h hx he w)]
theorem Sl_cg {K K2 X X2 E E2 : Int → Int} {n : Nat} (h : agr n K K2) (hx : agr n X X2) (he : agr n E E2) (w : WF K X E n) {s v : Nat} : Sl K X E n s v ↔ Sl K2 X2 E2 n s v := by
  unfold Sl
  rw [HgN_cg h hx he w]
theorem Us_cg {K K2 X X2 E E2 : Int → Int} {n : Nat} (h : agr n K K2) (hx : agr n X X2) (he : agr n E E2) (w : WF K X E n) {q : Nat} : Us K X E n n q ↔ Us K2 X2 E2 n n q := by
  unfold Us
  constructor
  · rintro ⟨u, a, b, c⟩; exact ⟨u, a, by rw [← h u (by omega) (by omega)]; exact b, (Sl_cg h hx he w).mp c⟩
  · rintro ⟨u, a, b, c⟩; exact ⟨u, a, by rw [h u (by omega) (by omega)]; exact b, (Sl_cg h hx he w).mpr c⟩
theorem Nv_cg {K K2 X X2 E E2 : Int → Int} {n : Nat} (h : agr n K K2) (hx : agr n X X2) (w : WF K X E n) {p : Nat} : Nv K X n p ↔ Nv K2 X2 n p := by
  have wb := WF_WFb w
  unfold Nv
  rw [← stm_cg h, ← bhd_cg h wb (by omega), propext (Rch_ag h hx wb (fun _ _ => Iff.rfl))]
