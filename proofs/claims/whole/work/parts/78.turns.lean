/-! pure: sheets laid in turn -/
def iI (z : Int) : Int32 := Int32.ofInt z
theorem iI_t {z : Int} (h1 : -2147483648 ≤ z) (h2 : z < 2147483648) : (iI z).toInt = z := by
  unfold iI
  rw [Int32.toInt_ofInt]
  exact bm h1 h2
theorem iI_lt {a b : Int} (h1 : -2147483648 ≤ a) (h2 : a < 2147483648) (h3 : -2147483648 ≤ b) (h4 : b < 2147483648) : iI a < iI b ↔ a < b := by rw [i_lt, iI_t h1 h2, iI_t h3 h4]
theorem iI_le {a b : Int} (h1 : -2147483648 ≤ a) (h2 : a < 2147483648) (h3 : -2147483648 ≤ b) (h4 : b < 2147483648) : iI a ≤ iI b ↔ a ≤ b := by rw [i_le, iI_t h1 h2, iI_t h3 h4]
theorem iI_eq {a b : Int} (h1 : -2147483648 ≤ a) (h2 : a < 2147483648) (h3 : -2147483648 ≤ b) (h4 : b < 2147483648) : iI a = iI b ↔ a = b := by rw [i_eq, iI_t h1 h2, iI_t h3 h4]
theorem iI_n {n : Nat} (h : n < 2147483648) : nI n = iI n := by rw [i_eq, nI_toInt h, iI_t (by first | omega | (dsimp only; omega)) (by first | omega | (dsimp only; omega))]
theorem iI_add {a b : Int} (h1 : -1000000000 ≤ a) (h2 : a < 1000000000) (h3 : -1000000000 ≤ b) (h4 : b < 1000000000) : iI a + iI b = iI (a + b) := by
  rw [i_eq, i_add _ _ (by rw [iI_t (by first | omega | (dsimp only; omega)) (by first | omega | (dsimp only; omega)), iI_t (by first | omega | (dsimp only; omega)) (by first | omega | (dsimp only; omega))]; omega) (by rw [iI_t (by first | omega | (dsimp only; omega)) (by first | omega | (dsimp only; omega)), iI_t (by first | omega | (dsimp only; omega)) (by first | omega | (dsimp only; omega))]; omega), iI_t (by first | omega | (dsimp only; omega)) (by first | omega | (dsimp only; omega)), iI_t (by first | omega | (dsimp only; omega)) (by first | omega | (dsimp only; omega)), iI_t (by first | omega | (dsimp only; omega)) (by first | omega | (dsimp only; omega))]
theorem iI_sub {a b : Int} (h1 : -1000000000 ≤ a) (h2 : a < 1000000000) (h3 : -1000000000 ≤ b) (h4 : b < 1000000000) : iI a - iI b = iI (a - b) := by
  rw [i_eq, i_sub _ _ (by rw [iI_t (by first | omega | (dsimp only; omega)) (by first | omega | (dsimp only; omega)), iI_t (by first | omega | (dsimp only; omega)) (by first | omega | (dsimp only; omega))]; omega) (by rw [iI_t (by first | omega | (dsimp only; omega)) (by first | omega | (dsimp only; omega)), iI_t (by first | omega | (dsimp only; omega)) (by first | omega | (dsimp only; omega))]; omega), iI_t (by first | omega | (dsimp only; omega)) (by first | omega | (dsimp only; omega)), iI_t (by first | omega | (dsimp only; omega)) (by first | omega | (dsimp only; omega)), iI_t (by first | omega | (dsimp only; omega)) (by first | omega | (dsimp only; omega))]
theorem iI_neg {a : Int} (h1 : -1000000000 ≤ a) (h2 : a < 1000000000) : -(iI a) = iI (-a) := by
  rw [← Int32.zero_sub, show (0 : Int32) = iI 0 from rfl, iI_sub (by first | omega | (dsimp only; omega)) (by first | omega | (dsimp only; omega)) h1 h2, Int.zero_sub]
/-- who wins a suit by x sheets against y -/
def zN (K F : Nat → Nat) (d i x y : Nat) : Nat := wnr (K i) (wgt (K i) (F i) d 0 x) (wgt (K i) (F i) d 0 y)
def pN (w e : Nat) : Int := (pts w 0 e : Int) - (pts w 1 e : Int)
def gvN (K W F : Nat → Nat) (d i x y : Nat) : Int := pN (W i) (zN K F d i x y)
def tvN (K W F : Nat → Nat) (d n : Nat) : Nat → Nat → Nat → Int
  | 0 => fun _ _ => 0
  | r + 1 => fun a b => mxO (fun x => mnO (fun y => gvN K W F d (n - (r + 1)) x y + tvN K W F d n r (a - x) (b - y)) b) a
theorem tvR_N {mm : Mm} {d n : Nat} : ∀ r a b, tvR mm d n r a b = tvN (uK mm) (uW mm) (uF mm) d n r a b := by
  intro r
  induction r with
  | zero => intro a b; rfl
  | succ r ih =>
    intro a b
    show mxO _ a = mxO _ a
    refine mxO_c a (fun x _ => mnO_c b (fun y _ => ?_))
    rw [ih]
    rfl
/-- B is the least of v over 0 .. b, first at p -/
def IsMin (v : Nat → Int) (b : Nat) (B : Int) (p : Nat) : Prop := p ≤ b ∧ v p = B ∧ (∀ y, y ≤ b → B ≤ v y) ∧ ∀ y, y < p → B < v y
def IsMax (v : Nat → Int) (b : Nat) (B : Int) (p : Nat) : Prop := p ≤ b ∧ v p = B ∧ (∀ y, y ≤ b → v y ≤ B) ∧ ∀ y, y < p → v y < B
theorem mnO_le {v : Nat → Int} : ∀ b y, y ≤ b → mnO v b ≤ v y
  | 0, y, h => by obtain rfl : y = 0 := by omega
                  exact Int.le_refl _
  | b + 1, y, h => by
    show min (mnO v b) (v (b + 1)) ≤ v y
    by_cases hy : y = b + 1
    · rw [hy]; exact Int.min_le_right _ _
    · exact Int.le_trans (Int.min_le_left _ _) (mnO_le b y (by first | omega | (dsimp only; omega)))
theorem mnO_ge {v : Nat → Int} {B : Int} : ∀ b, (∀ y, y ≤ b → B ≤ v y) → B ≤ mnO v b
  | 0, h => h 0 (by first | omega | (dsimp only; omega))
  | b + 1, h => by
    show B ≤ min (mnO v b) (v (b + 1))
    exact Int.le_min.mpr ⟨mnO_ge b (fun y hy => h y (by first | omega | (dsimp only; omega))), h (b + 1) (by first | omega | (dsimp only; omega))⟩
theorem mxO_ge {v : Nat → Int} : ∀ b y, y ≤ b → v y ≤ mxO v b
  | 0, y, h => by obtain rfl : y = 0 := by omega
                  exact Int.le_refl _
  | b + 1, y, h => by
    show v y ≤ max (mxO v b) (v (b + 1))
    by_cases hy : y = b + 1
    · rw [hy]; exact Int.le_max_right _ _
    · exact Int.le_trans (mxO_ge b y (by first | omega | (dsimp only; omega))) (Int.le_max_left _ _)
theorem mxO_le {v : Nat → Int} {B : Int} : ∀ b, (∀ y, y ≤ b → v y ≤ B) → mxO v b ≤ B
  | 0, h => h 0 (by first | omega | (dsimp only; omega))
  | b + 1, h => by
    show max (mxO v b) (v (b + 1)) ≤ B
    exact Int.max_le.mpr ⟨mxO_le b (fun y hy => h y (by first | omega | (dsimp only; omega))), h (b + 1) (by first | omega | (dsimp only; omega))⟩
theorem IsMin.v {v : Nat → Int} {b : Nat} {B : Int} {p : Nat} (h : IsMin v b B p) : mnO v b = B := by
  obtain ⟨h1, h2, h3, -⟩ := h
  have a := mnO_le (v := v) b p h1
  have c := mnO_ge b h3
  omega
theorem IsMax.v {v : Nat → Int} {b : Nat} {B : Int} {p : Nat} (h : IsMax v b B p) : mxO v b = B := by
  obtain ⟨h1, h2, h3, -⟩ := h
  have a := mxO_ge (v := v) b p h1
  have c := mxO_le b h3
  omega
theorem IsMin.u {v : Nat → Int} {b : Nat} {B C : Int} {p q : Nat} (h : IsMin v b B p) (g : IsMin v b C q) : B = C ∧ p = q := by
  have e : B = C := h.v.symm.trans g.v
  refine ⟨e, ?_⟩
  subst e
  obtain ⟨h1, h2, h3, h4⟩ := h
  obtain ⟨g1, g2, g3, g4⟩ := g
  rcases Nat.lt_trichotomy p q with z | z | z
  · have := g4 p z; omega
  · exact z
  · have := h4 q z; omega
theorem IsMax.u {v : Nat → Int} {b : Nat} {B C : Int} {p q : Nat} (h : IsMax v b B p) (g : IsMax v b C q) : B = C ∧ p = q := by
  have e : B = C := h.v.symm.trans g.v
  refine ⟨e, ?_⟩
  subst e
  obtain ⟨h1, h2, h3, h4⟩ := h
  obtain ⟨g1, g2, g3, g4⟩ := g
  rcases Nat.lt_trichotomy p q with z | z | z
  · have := g4 p z; omega
  · exact z
  · have := h4 q z; omega
theorem pN_b {w e : Nat} (hw : w ≤ 9) : -18 ≤ pN w e ∧ pN w e ≤ 18 := by
  unfold pN pts
  split <;> split <;> (try split) <;> (try split) <;> omega
section Tv
variable {K W F : Nat → Nat} {d n : Nat}
theorem tv_b (hW : ∀ i, i < n → W i ≤ 9) : ∀ r, r ≤ n → ∀ a b, -(18 * (r : Int)) ≤ tvN K W F d n r a b ∧ tvN K W F d n r a b ≤ 18 * (r : Int) := by
  intro r
  induction r with
  | zero => intro _ a b; exact ⟨by show -(18 * ((0 : Nat) : Int)) ≤ 0; omega, by show (0 : Int) ≤ 18 * ((0 : Nat) : Int); omega⟩
  | succ r ih =>
    intro hr a b
    have key : ∀ x, -(18 * ((r + 1 : Nat) : Int)) ≤ mnO (fun y => gvN K W F d (n - (r + 1)) x y + tvN K W F d n r (a - x) (b - y)) b ∧ mnO (fun y => gvN K W F d (n - (r + 1)) x y + tvN K W F d n r (a - x) (b - y)) b ≤ 18 * ((r + 1 : Nat) : Int) := by
      intro x
      have one : ∀ y, -(18 * ((r + 1 : Nat) : Int)) ≤ gvN K W F d (n - (r + 1)) x y + tvN K W F d n r (a - x) (b - y) ∧ gvN K W F d (n - (r + 1)) x y + tvN K W F d n r (a - x) (b - y) ≤ 18 * ((r + 1 : Nat) : Int) := by
        intro y
        have h1 := ih (by first | omega | (dsimp only; omega)) (a - x) (b - y)
        have h2 : -18 ≤ gvN K W F d (n - (r + 1)) x y ∧ gvN K W F d (n - (r + 1)) x y ≤ 18 := pN_b (hW _ (by first | omega | (dsimp only; omega)))
        omega
      exact ⟨mnO_ge b (fun y _ => (one y).1), Int.le_trans (mnO_le b 0 (by first | omega | (dsimp only; omega))) (one 0).2⟩
    show _ ≤ mxO (fun x => mnO (fun y => gvN K W F d (n - (r + 1)) x y + tvN K W F d n r (a - x) (b - y)) b) a ∧ _
    exact ⟨Int.le_trans (key 0).1 (mxO_ge (v := fun x => mnO (fun y => gvN K W F d (n - (r + 1)) x y + tvN K W F d n r (a - x) (b - y)) b) a 0 (by first | omega | (dsimp only; omega))), mxO_le a (fun x _ => (key x).2)⟩
/-- the more sheets the other side has, the worse -/
theorem tv_m : ∀ r a b, tvN K W F d n r a (b + 1) ≤ tvN K W F d n r a b := by
  intro r
  induction r with
  | zero => intro a b; exact Int.le_refl _
  | succ r ih =>
    intro a b
    show mxO _ a ≤ mxO _ a
    refine mxO_le a (fun x hx => Int.le_trans ?_ (mxO_ge (v := fun x => mnO (fun y => gvN K W F d (n - (r + 1)) x y + tvN K W F d n r (a - x) (b - y)) b) a x hx))
    refine mnO_ge b (fun y hy => Int.le_trans (mnO_le (b + 1) y (by first | omega | (dsimp only; omega))) ?_)
    have := ih (a - x) (b - y)
    rw [show b - y + 1 = b + 1 - y by omega] at this
    omega
theorem tv_mm {r a : Nat} : ∀ c b, tvN K W F d n r a (b + c) ≤ tvN K W F d n r a b := by
  intro c
  induction c with
  | zero => intro b; exact Int.le_refl _
  | succ c ih => intro b; exact Int.le_trans (tv_m r a (b + c)) (ih b)
/-- laying x, y on suit i, a, b at hand -/
def vlN (K W F : Nat → Nat) (d n i a b x : Nat) (y : Nat) : Int := gvN K W F d i x y + tvN K W F d n (n - (i + 1)) (a - x) (b - y)
theorem vl_b (hW : ∀ i, i < n → W i ≤ 9) (hn : n ≤ 6) {i a b x y : Nat} (hi : i < n) : -200 ≤ vlN K W F d n i a b x y ∧ vlN K W F d n i a b x y ≤ 200 := by
  unfold vlN
  have h1 := tv_b (K := K) (F := F) (d := d) hW (n - (i + 1)) (by first | omega | (dsimp only; omega)) (a - x) (b - y)
  have h2 : -18 ≤ gvN K W F d i x y ∧ gvN K W F d i x y ≤ 18 := pN_b (hW _ hi)
  omega
theorem tv_vl {i a b : Nat} (hi : i < n) : tvN K W F d n (n - i) a b = mxO (fun x => mnO (vlN K W F d n i a b x) b) a := by
  obtain ⟨r, hr⟩ : ∃ r, n - i = r + 1 := ⟨n - i - 1, by omega⟩
  rw [hr]
  show mxO (fun x => mnO (fun y => gvN K W F d (n - (r + 1)) x y + tvN K W F d n r (a - x) (b - y)) b) a = _
  have e1 : n - (r + 1) = i := by omega
  have e2 : n - (i + 1) = r := by omega
  refine mxO_c a (fun x _ => mnO_c b (fun y _ => ?_))
  unfold vlN
  rw [e1, e2]
theorem mn_b {v : Nat → Int} {b : Nat} {lo hi : Int} (h : ∀ y, lo ≤ v y ∧ v y ≤ hi) : lo ≤ mnO v b ∧ mnO v b ≤ hi := ⟨mnO_ge b (fun y _ => (h y).1), Int.le_trans (mnO_le b 0 (by first | omega | (dsimp only; omega))) (h 0).2⟩
theorem mx_bd {v : Nat → Int} {b : Nat} {lo hi : Int} (h : ∀ y, lo ≤ v y ∧ v y ≤ hi) : lo ≤ mxO v b ∧ mxO v b ≤ hi := ⟨Int.le_trans (h 0).1 (mxO_ge b 0 (by first | omega | (dsimp only; omega))), mxO_le b (fun y _ => (h y).2)⟩
end Tv
