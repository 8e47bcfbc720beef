/-! ===== rows of the heap as wholes ===== -/
def setF (h : Hp) (x : Nat) (f : Nat → Int) : Hp := (h.1, h.2.1, (fun y j => if y = x then f j else hI h y j), h.2.2.2)
theorem hI_setF {h : Hp} {x y j : Nat} {f : Nat → Int} : hI (setF h x f) y j = if y = x then f j else hI h y j := rfl
theorem hI_setF_eq {h : Hp} {x j : Nat} {f : Nat → Int} : hI (setF h x f) x j = f j := by rw [hI_setF, if_pos rfl]
theorem hI_setF_ne {h : Hp} {x y j : Nat} {f : Nat → Int} (ne : ¬ y = x) : hI (setF h x f) y j = hI h y j := by rw [hI_setF, if_neg ne]
theorem hL_setF {h : Hp} {x : Nat} {f : Nat → Int} : hL (setF h x f) = hL h := rfl
theorem hR_setF {h : Hp} {x : Nat} {f : Nat → Int} : hR (setF h x f) = hR h := rfl
theorem hT_setF {h : Hp} {x : Nat} {f : Nat → Int} : hT (setF h x f) = hT h := rfl
theorem hN_setF {h : Hp} {x : Nat} {f : Nat → Int} : hN (setF h x f) = hN h := rfl
theorem hS_setF {h : Hp} {x : Nat} {f : Nat → Int} : hS (setF h x f) = hS h := rfl
theorem isO_setF {h : Hp} {x y c : Nat} {f : Nat → Int} : isO (setF h x f) y c = isO h y c := rfl
theorem inA_setF {h : Hp} {x y t : Nat} {f : Nat → Int} {i : Int} : inA (setF h x f) y t i = inA h y t i := rfl
theorem SM_setF {o : Nat} {h : Hp} {x : Nat} {f : Nat → Int} : SM o (setF h x f) = SM o h := SM_same rfl rfl
def up1 (f : Nat → Int) (k : Nat) (v : Int) : Nat → Int := fun j => if j = k then v else f j
theorem up1_up1 {f : Nat → Int} {k : Nat} {v w : Int} : up1 (up1 f k v) k w = up1 f k w := by
  funext j
  unfold up1
  split <;> rfl
theorem setF_row {h : Hp} {x : Nat} : setF h x (hI h x) = h := by
  refine Hp_ext rfl rfl ?_ rfl rfl
  funext y j
  show (if y = x then hI h x j else hI h y j) = hI h y j
  split
  · next e => rw [e]
  · rfl
theorem setI_setF {h : Hp} {x k : Nat} {f : Nat → Int} {v : Int} : setI (setF h x f) x k v = setF h x (up1 f k v) := by
  refine Hp_ext rfl rfl ?_ rfl rfl
  funext y j
  show (if y = x ∧ j = k then v else if y = x then f j else hI h y j) = if y = x then (if j = k then v else f j) else hI h y j
  by_cases e : y = x
  · simp [e]
  · simp [e]
theorem setI_setFn {h : Hp} {x y k : Nat} {f : Nat → Int} {v : Int} (ne : ¬ y = x) : setI (setF h x f) y k v = setF (setI h y k v) x f := by
  refine Hp_ext rfl rfl ?_ rfl rfl
  funext z j
  show (if z = y ∧ j = k then v else if z = x then f j else hI h z j) = if z = x then f j else (if z = y ∧ j = k then v else hI h z j)
  by_cases e : z = x
  · rw [if_pos e, if_pos e, if_neg (fun q => ne (by omega))]
  · rw [if_neg e, if_neg e]
theorem setI_setFi {h : Hp} {x y k : Nat} {f : Nat → Int} {v : Int} : setI (setF h x f) y k v = if y = x then setF h x (up1 f k v) else setF (setI h y k v) x f := by
  split
  · next e => rw [e]; exact setI_setF
  · next e => exact setI_setFn e
theorem setI_asF {h : Hp} {x k : Nat} {v : Int} : setI h x k v = setF h x (up1 (hI h x) k v) := by
  rw [← setI_setF, setF_row]
theorem setF_setF {h : Hp} {x : Nat} {f g : Nat → Int} : setF (setF h x f) x g = setF h x g := by
  refine Hp_ext rfl rfl ?_ rfl rfl
  funext z j
  show (if z = x then g j else (if z = x then f j else hI h z j)) = if z = x then g j else hI h z j
  split <;> rfl
theorem setF_comm {h : Hp} {x y : Nat} {f g : Nat → Int} (ne : ¬ x = y) : setF (setF h x f) y g = setF (setF h y g) x f := by
  refine Hp_ext rfl rfl ?_ rfl rfl
  funext z j
  show (if z = y then g j else (if z = x then f j else hI h z j)) = if z = x then f j else (if z = y then g j else hI h z j)
  by_cases e : z = y
  · rw [if_pos e, if_neg (by omega), if_pos e]
  · rw [if_neg e, if_neg e]
theorem mK_setF {o : Nat} {h : Hp} {x : Nat} {f : Nat → Int} {g : Int} (ne : ¬ o + 2 = x) : mK o (setF h x f) g = mK o h g := by
  funext q
  exact hI_setF_ne ne
theorem mK_setI {o : Nat} {h : Hp} {x k : Nat} {v g : Int} (ne : ¬ o + 2 = x) : mK o (setI h x k v) g = mK o h g := by
  funext q
  exact hI_ne ne
/-- f below p, else the old -/
def mix (p : Int) (f old : Nat → Int) : Nat → Int := fun k => if (k : Int) < p then f k else old k
theorem mix_0 {f old : Nat → Int} : mix 0 f old = old := by
  funext k
  unfold mix
  rw [if_neg (by omega)]
theorem mix_up {p v : Int} {f old : Nat → Int} (p0 : 0 ≤ p) (e : v = f p.toNat) : up1 (mix p f old) p.toNat v = mix (p + 1) f old := by
  funext k
  unfold up1 mix
  by_cases hk : k = p.toNat
  · rw [if_pos hk, if_pos (by omega), hk, e]
  · rw [if_neg hk]
    by_cases hp : (k : Int) < p
    · rw [if_pos hp, if_pos (by omega)]
    · rw [if_neg hp, if_neg (by omega)]
/-! ===== the reference: the ways ===== -/
/-- the xs of program g -/
def mX (o : Nat) (h : Hp) (g q : Int) : Int := hI h (o + 3) (60 * g + q).toNat
def yes_ (K X : Int → Int) (n p : Int) : Int := if stm K n p = true then (if K p = 7 then bhd K n (lcl K n p (X p)) else if K p = 8 then 60 else bhd K n p) else -1
def no_ (K : Int → Int) (n p : Int) : Int := if stm K n p = true ∧ (K p = 3 ∨ K p = 5) then bhd K n (if K p = 3 ∧ 0 ≤ els K n p then els K n p else clo K n p) else -1
def loo_ (K : Int → Int) (n p : Int) : Int := if stm K n p = true ∧ (K p = 7 ∨ K p = 8) then bhd K n p else -1
/-- the rows of ways, told below p -/
def W3 (o : Nat) (h : Hp) (g n p : Int) : Hp := setF (setF (setF h (o + 15) (mix p (fun k => yes_ (mK o h g) (mX o h g) n k) (hI h (o + 15)))) (o + 16) (mix p (fun k => no_ (mK o h g) n k) (hI h (o + 16)))) (o + 17) (mix p (fun k => loo_ (mK o h g) n k) (hI h (o + 17)))
theorem W3_0 {o : Nat} {h : Hp} {g n : Int} : W3 o h g n 0 = h := by
  unfold W3
  rw [mix_0, mix_0, mix_0, setF_row]
  rw [show hI h (o + 16) = hI h (o + 16) from rfl, setF_row, setF_row]
theorem W3_up {o : Nat} {h : Hp} {g n p v1 v2 v3 : Int} (p0 : 0 ≤ p) (e1 : v1 = yes_ (mK o h g) (mX o h g) n p) (e2 : v2 = no_ (mK o h g) n p) (e3 : v3 = loo_ (mK o h g) n p) : setF (setF (setF h (o + 15) (up1 (mix p (fun k => yes_ (mK o h g) (mX o h g) n k) (hI h (o + 15))) p.toNat v1)) (o + 16) (up1 (mix p (fun k => no_ (mK o h g) n k) (hI h (o + 16))) p.toNat v2)) (o + 17) (up1 (mix p (fun k => loo_ (mK o h g) n k) (hI h (o + 17))) p.toNat v3) = W3 o h g n (p + 1) := by
  have ep : ((p.toNat : Nat) : Int) = p := by omega
  rw [mix_up p0 (by simp only [ep]; exact e1), mix_up p0 (by simp only [ep]; exact e2), mix_up p0 (by simp only [ep]; exact e3)]
  rfl
theorem lcF_le {K : Int → Int} {n p : Int} : ∀ {f : Nat} {q l : Int}, q < n → 0 ≤ n → 0 ≤ lcF K n p f q l ∧ lcF K n p f q l ≤ n
  | 0, q, l, h, h0 => by unfold lcF; omega
  | f + 1, q, l, h, h0 => by
    have hc := clo_le (K := K) (n := n) (p := q) (by omega)
    have i1 := lcF_le (K := K) (n := n) (p := p) (f := f) (q := q + -1) (l := l + -1) (by omega) h0
    have i2 := lcF_le (K := K) (n := n) (p := p) (f := f) (q := q + -1) (l := l) (by omega) h0
    unfold lcF
    repeat' split
    all_goals omega
