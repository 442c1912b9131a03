/-! picked out of 80.table -/
section Tab2
variable {N n d : Nat} {K W F : Nat → Nat}
theorem fs25_l {i a b : Nat} {k2 : Nat → Nat → Int32 → Int32 → Mm → Option (Unit × Mm)} {k11 : Nat → Nat → Int32 → Int32 → Int32 → Mm → Option (Unit × Mm)} {mm0 : Mm} (hN : 100000 ≤ N) (hi : i < n) (ha : a < 16) (hb : b < 16) (A : AFt mm0 n d K W F i) : ∀ c x B mm, x + c = a + 1 → Fr (fun k j => k = 52 ∧ j = 3) mm0 mm → (∀ y, y < x → mnO (vlN K W F d n i a b y) b ≤ B) → (B = -1000000 ∨ ∃ y, y < x ∧ mnO (vlN K W F d n i a b y) b = B) → ∀ f, c < f → ∃ m', fX10_fillSuit_25 N k2 k11 f 52 (17 + i) (nI i) (nI a) (nI b) (iI B) (nI x) mm = k11 52 (17 + i) (nI i) (nI a) (nI (b + 1)) m' ∧ Fr (fun k j => (k = 52 ∧ j = 3) ∨ (k = 53 ∧ j = (i * 16 + a) * 16 + b)) mm m' ∧ rd m' 53 ((i * 16 + a) * 16 + b) = iI (tvN K W F d n (n - i) a b) := by
  have hn := A.1.2.1
  have hW := CS_W A.1
  have hmb : ∀ y, -200 ≤ mnO (vlN K W F d n i a b y) b ∧ mnO (vlN K W F d n i a b y) b ≤ 200 := fun y => mn_b (fun t => vl_b hW hn hi)
  intro c
  induction c with
  | zero =>
    intro x B mm hx hF h1 h2 f hf
    obtain ⟨f, rfl⟩ : ∃ g, f = g + 1 := ⟨f - 1, by omega⟩
    obtain rfl : x = a + 1 := by omega
    have hB : B = tvN K W F d n (n - i) a b := by
      rw [tv_vl hi]
      have h0 := h1 0 (by first | omega | (dsimp only; omega))
      have h0b := hmb 0
      rcases h2 with h2 | ⟨y, hy, h2⟩
      · omega
      · have z1 := mxO_le (v := fun x => mnO (vlN K W F d n i a b x) b) (B := B) a (fun t ht => h1 t (by first | omega | (dsimp only; omega)))
        have z2 := mxO_ge (v := fun x => mnO (vlN K W F d n i a b x) b) a y (by first | omega | (dsimp only; omega))
        omega
    subst hB
    refine ⟨wr mm 53 ((i * 16 + a) * 16 + b) (iI (tvN K W F d n (n - i) a b)), ?_, fr_wr Fr.rf (Or.inr ⟨rfl, rfl⟩), by rw [rd_wr_s]⟩
    unfold fX10_fillSuit_25 fX10_fillSuit_81
    simp only [LXb]
    refine st_t (nI_lt (by first | omega | (dsimp only; omega)) (by first | omega | (dsimp only; omega))) (st_b (place_e (by first | omega | (dsimp only; omega)) ha hb) (st_f (nI_pos (by first | omega | (dsimp only; omega))) (st_k rfl (by first | omega | (dsimp only; omega)) (by first | omega | (dsimp only; omega)) (st_n ?_))))
    rw [nI_1, nI_nat (by first | omega | (dsimp only; omega))]
  | succ c ih =>
    intro x B mm hx hF h1 h2 f hf
    obtain ⟨f, rfl⟩ : ∃ g, f = g + 1 := ⟨f - 1, by omega⟩
    have hBb : -1000000 ≤ B ∧ B ≤ 200 := by
      rcases h2 with h2 | ⟨y, -, h2⟩
      · omega
      · have := hmb y; omega
    obtain ⟨m1, V, p, c1, f1, -, g1⟩ := after_e (N := N) (x := x) (a := a - x) (b := b) hN hi (by first | omega | (dsimp only; omega)) hb (by first | omega | (dsimp only; omega)) (A.c (m2 := mm) (hF.mono (fun k j h => Or.inl h)))
    have hV : mnO (vlN K W F d n i a b x) b = V := g1.v
    have hVb := hmb x
    rw [hV] at hVb
    obtain ⟨m', c2, f2, g2⟩ := ih (x + 1) (if B < V then V else B) m1 (by first | omega | (dsimp only; omega)) (hF.tr f1) (fun y hy => by
      by_cases hyx : y = x
      · subst hyx; rw [hV]; split <;> omega
      · have := h1 y (by first | omega | (dsimp only; omega)); split <;> omega) (by
      by_cases hBV : B < V
      · rw [if_pos hBV]; exact Or.inr ⟨x, by omega, hV⟩
      · rw [if_neg hBV]
        rcases h2 with h2 | ⟨y, hy, h2⟩
        · omega
        · exact Or.inr ⟨y, by omega, h2⟩) f (by first | omega | (dsimp only; omega))
    refine ⟨m', ?_, (f1.mono (fun k j h => Or.inl h)).tr f2, g2⟩
    unfold fX10_fillSuit_25
    refine st_f (nI_nlt (by first | omega | (dsimp only; omega)) (by first | omega | (dsimp only; omega))) ?_
    rw [nI_sub (by first | omega | (dsimp only; omega))]
    refine st_b c1 (st_n ?_)
    have : (if iI B < iI V then iI V else iI B) = iI (if B < V then V else B) := by
      by_cases hBV : B < V
      · rw [if_pos hBV, if_pos ((iI_lt (by first | omega | (dsimp only; omega)) (by first | omega | (dsimp only; omega)) (by first | omega | (dsimp only; omega)) (by first | omega | (dsimp only; omega))).mpr hBV)]
      · rw [if_neg hBV, if_neg (fun e => hBV ((iI_lt (by first | omega | (dsimp only; omega)) (by first | omega | (dsimp only; omega)) (by first | omega | (dsimp only; omega)) (by first | omega | (dsimp only; omega))).mp e))]
    rw [this, nI_1]
    exact c2
theorem fs11_l {i a : Nat} {k2 : Nat → Nat → Int32 → Int32 → Mm → Option (Unit × Mm)} (hN : 100000 ≤ N) (hi : i < n) (ha : a < 16) : ∀ c b mm, b + c = 16 → AFt mm n d K W F i → ∀ f, c < f → ∃ m', fX10_fillSuit_11 N k2 f 52 (17 + i) (nI i) (nI a) (nI b) mm = k2 52 (17 + i) (nI i) (nI (a + 1)) m' ∧ Fr (fun k j => (k = 52 ∧ j = 3) ∨ (k = 53 ∧ (i * 16 + a) * 16 + b ≤ j ∧ j < (i * 16 + a) * 16 + 16)) mm m' ∧ ∀ q, b ≤ q → q < 16 → rd m' 53 ((i * 16 + a) * 16 + q) = iI (tvN K W F d n (n - i) a q) := by
  intro c
  induction c with
  | zero =>
    intro b mm hb A f hf
    obtain ⟨f, rfl⟩ : ∃ g, f = g + 1 := ⟨f - 1, by omega⟩
    refine ⟨mm, ?_, Fr.rf, fun q h1 h2 => by omega⟩
    unfold fX10_fillSuit_11
    exact st_t (nI_le (by first | omega | (dsimp only; omega)) (by first | omega | (dsimp only; omega))) (by rw [nI_1])
  | succ c ih =>
    intro b mm hb A f hf
    obtain ⟨f, rfl⟩ : ∃ g, f = g + 1 := ⟨f - 1, by omega⟩
    obtain ⟨m1, c1, f1, g1⟩ := fs25_l (N := N) (b := b) (k2 := k2) (k11 := fX10_fillSuit_11 N k2 f) hN hi ha (by first | omega | (dsimp only; omega)) A (a + 1) 0 (-1000000) mm (by first | omega | (dsimp only; omega)) Fr.rf (fun y hy => by omega) (Or.inl rfl) N (by first | omega | (dsimp only; omega))
    obtain ⟨m', c2, f2, g2⟩ := ih (b + 1) m1 (by first | omega | (dsimp only; omega)) (A.c (f1.mono (fun k j h => by omega))) f (by first | omega | (dsimp only; omega))
    refine ⟨m', ?_, (f1.mono (fun k j h => by omega)).tr (f2.mono (fun k j h => by omega)), fun q h1 h2 => ?_⟩
    · unfold fX10_fillSuit_11
      exact st_f (nI_ge (by first | omega | (dsimp only; omega)) (by first | omega | (dsimp only; omega))) (c1.trans c2)
    · by_cases hq : q = b
      · subst hq; rw [f2.2 _ _ (by first | omega | (dsimp only; omega))]; exact g1
      · exact g2 q (by first | omega | (dsimp only; omega)) h2
theorem fs2_l {i : Nat} (hN : 100000 ≤ N) (hi : i < n) : ∀ c a mm, a + c = 16 → AFt mm n d K W F i → ∀ f, c < f → ∃ m', fX10_fillSuit_2 N f 52 (17 + i) (nI i) (nI a) mm = some ((), m') ∧ Fr (fun k j => (k = 52 ∧ j = 3) ∨ (k = 53 ∧ (i * 16 + a) * 16 ≤ j ∧ j < i * 256 + 256)) mm m' ∧ ∀ e, a ≤ e → e < 16 → ∀ q, q < 16 → rd m' 53 ((i * 16 + e) * 16 + q) = iI (tvN K W F d n (n - i) e q) := by
  intro c
  induction c with
  | zero =>
    intro a mm ha A f hf
    obtain ⟨f, rfl⟩ : ∃ g, f = g + 1 := ⟨f - 1, by omega⟩
    refine ⟨mm, ?_, Fr.rf, fun q h1 h2 => by omega⟩
    unfold fX10_fillSuit_2
    exact st_t (nI_le (by first | omega | (dsimp only; omega)) (by first | omega | (dsimp only; omega))) rfl
  | succ c ih =>
    intro a mm ha A f hf
    obtain ⟨f, rfl⟩ : ∃ g, f = g + 1 := ⟨f - 1, by omega⟩
    obtain ⟨m1, c1, f1, g1⟩ := fs11_l (N := N) (a := a) (k2 := fX10_fillSuit_2 N f) hN hi (by first | omega | (dsimp only; omega)) 16 0 mm (by first | omega | (dsimp only; omega)) A N (by first | omega | (dsimp only; omega))
    obtain ⟨m', c2, f2, g2⟩ := ih (a + 1) m1 (by first | omega | (dsimp only; omega)) (A.c (f1.mono (fun k j h => by omega))) f (by first | omega | (dsimp only; omega))
    refine ⟨m', ?_, (f1.mono (fun k j h => by omega)).tr (f2.mono (fun k j h => by omega)), fun e h1 h2 q hq => ?_⟩
    · unfold fX10_fillSuit_2
      exact st_f (nI_ge (by first | omega | (dsimp only; omega)) (by first | omega | (dsimp only; omega))) (c1.trans c2)
    · by_cases he : e = a
      · subst he; rw [f2.2 _ _ (by first | omega | (dsimp only; omega))]; exact g1 q (by first | omega | (dsimp only; omega)) hq
      · exact g2 e (by first | omega | (dsimp only; omega)) h2 q hq
/-- cells of the table -/
def SDf (k j : Nat) : Prop := k = 53 ∨ k = 54 ∨ (k = 52 ∧ (j = 2 ∨ j = 3))
/-- the levels from i on stand -/
def LVn (mm : Mm) (n d : Nat) (K W F : Nat → Nat) (i : Nat) : Prop := ∀ q, i ≤ q → q ≤ n → ∀ a b, a < 16 → b < 16 → rd mm 53 ((q * 16 + a) * 16 + b) = iI (tvN K W F d n (n - q) a b)
theorem tfill_l (hN : 100000 ≤ N) (hd9 : d ≤ 9) : ∀ c mm, c ≤ n → CS mm n K W F → rd mm 3 6 = nI d → LVn mm n d K W F c → ∀ f, c < f → ∃ m', fX10_fill_23 N f 52 3 (nI c - 1) mm = some ((), m') ∧ Fr SDf mm m' ∧ rd m' 52 2 = 1 ∧ LVn m' n d K W F 0 := by
  intro c
  induction c with
  | zero =>
    intro mm hc C hd L f hf
    obtain ⟨f, rfl⟩ : ∃ g, f = g + 1 := ⟨f - 1, by omega⟩
    refine ⟨wr mm 52 2 1, ?_, fr_wr Fr.rf (by unfold SDf; omega), by rw [rd_wr_s], fun q h1 h2 a b ha hb => by rw [rd_wr_k (by first | omega | (dsimp only; omega))]; exact L q h1 h2 a b ha hb⟩
    unfold fX10_fill_23
    exact st_t (by decide) (st_n rfl)
  | succ c ih =>
    intro mm hc C hd L f hf
    obtain ⟨f, rfl⟩ : ∃ g, f = g + 1 := ⟨f - 1, by omega⟩
    have hn := C.2.1
    obtain ⟨m1, c1, f1, g1⟩ := cprep_e (N := N) (i := c) hN hd9 (by first | omega | (dsimp only; omega)) C
    have A : AFt m1 n d K W F c := ⟨CS_c C (fun k j h => f1.2 _ _ (by first | omega | (dsimp only; omega))), g1, fun a b ha hb => by rw [f1.2 _ _ (by first | omega | (dsimp only; omega))]; exact L (c + 1) (by first | omega | (dsimp only; omega)) (by first | omega | (dsimp only; omega)) a b ha hb⟩
    obtain ⟨m2, c2, f2, g2⟩ := fs2_l (N := N) hN (by first | omega | (dsimp only; omega)) 16 0 m1 (by first | omega | (dsimp only; omega)) A N (by first | omega | (dsimp only; omega))
    have F2 : Fr (fun k j => k = 54 ∨ (k = 52 ∧ j = 3) ∨ (k = 53 ∧ j < c * 256 + 256)) mm m2 := (f1.mono (fun k j h => Or.inl h)).tr (f2.mono (fun k j h => by omega))
    obtain ⟨m', c3, f3, g3⟩ := ih m2 (by first | omega | (dsimp only; omega)) (CS_c C (fun k j h => F2.2 _ _ (by first | omega | (dsimp only; omega)))) (by rw [F2.2 _ _ (by first | omega | (dsimp only; omega))]; exact hd) (fun q h1 h2 a b ha hb => by
      by_cases hq : q = c
      · subst hq; exact g2 a (by first | omega | (dsimp only; omega)) ha b hb
      · rw [F2.2 _ _ (by first | omega | (dsimp only; omega))]; exact L q (by first | omega | (dsimp only; omega)) h2 a b ha hb) f (by first | omega | (dsimp only; omega))
    refine ⟨m', ?_, (F2.mono (fun k j h => by unfold SDf; omega)).tr f3, g3⟩
    unfold fX10_fill_23 fX10_fill_52
    rw [nI_pred]
    refine st_f (nI_pos (by first | omega | (dsimp only; omega))) (st_b (suitOf_t C (by first | omega | (dsimp only; omega))) (st_c ?_))
    rw [hd]
    have c2' : fX10_fillSuit N 52 (17 + c) (nI c) m1 = some ((), m2) := c2
    refine st_b c1 (st_b c2' ?_)
    rw [show nI c + (-1) = nI c - 1 from (Int32.sub_eq_add_neg _ _).symm]; exact c3
theorem fill_e {mm : Mm} (hN : 100000 ≤ N) (hd9 : d ≤ 9) (C : CS mm n (uK mm) (uW mm) (uF mm)) (hd : rd mm 3 6 = nI d) (T : RTT mm) : ∃ m', fX10_fill N 52 3 mm = some ((), m') ∧ Fr SDf mm m' ∧ rd m' 52 2 = 1 ∧ LVn m' n d (uK mm) (uW mm) (uF mm) 0 := by
  have hn := C.2.1
  unfold fX10_fill
  rcases T with T | ⟨T, n', d', h1, h2, h3, h4, h5⟩
  · obtain ⟨m1, c1, f1, g1⟩ := fill_ok (N := N) (k := 53) (v := 0) (L := 1792) (mm := mm) hN rfl (by first | omega | (dsimp only; omega))
    obtain ⟨m', c2, f2, g2⟩ := tfill_l (N := N) (n := n) hN hd9 n m1 (Nat.le_refl _) (CS_c C (fun k j h => f1.2 _ _ (by first | omega | (dsimp only; omega)))) (by rw [f1.2 _ _ (by first | omega | (dsimp only; omega))]; exact hd) (fun q h1 h2 a b ha hb => by
      obtain rfl : q = n := by omega
      rw [g1 _ (by first | omega | (dsimp only; omega)), Nat.sub_self]; rfl) N (by first | omega | (dsimp only; omega))
    refine ⟨m', ?_, (f1.mono (fun k j h => Or.inl h)).tr f2, g2⟩
    simp only [LXb]
    refine st_t T (st_b c1 ?_)
    rw [f1.2 _ _ (by first | omega | (dsimp only; omega)), C.1]
    exact c2
  · obtain rfl : n' = n := nI_inj (h1.symm.trans C.1) (by first | omega | (dsimp only; omega)) (by first | omega | (dsimp only; omega))
    obtain rfl : d' = d := nI_inj (h2.symm.trans hd) (by first | omega | (dsimp only; omega)) (by first | omega | (dsimp only; omega))
    refine ⟨mm, st_f (by rw [T]; decide) rfl, Fr.rf, T, fun q _ hq a b ha hb => ?_⟩
    rw [h5 q a b hq ha hb, tvR_N]
    rfl
theorem RTT_f {mm m2 : Mm} (C : CS mm n (uK mm) (uW mm) (uF mm)) (hd : rd mm 3 6 = nI d) (hd9 : d ≤ 9) (e : ∀ k j, (17 ≤ k ∧ k ≤ 22) ∨ (k = 3 ∧ (j = 5 ∨ j = 6)) → rd m2 k j = rd mm k j) (h1 : rd m2 52 2 = 1) (L : LVn m2 n d (uK mm) (uW mm) (uF mm) 0) : RTT m2 := by
  have hn := C.2.1
  refine Or.inr ⟨h1, n, d, by rw [e _ _ (by first | omega | (dsimp only; omega))]; exact C.1, by rw [e _ _ (by first | omega | (dsimp only; omega))]; exact hd, hn, hd9, fun i a b hi ha hb => ?_⟩
  rw [L i (by first | omega | (dsimp only; omega)) hi a b ha hb, tvR_c hn (fun k j h => e k j (by first | omega | (dsimp only; omega))) _ (by first | omega | (dsimp only; omega)), tvR_N]
  rfl
end Tab2

/-! picked out of 83.turns4 -/
theorem inTurn_t {N a : Nat} {mm : Mm} (h : a < 16) : fX11_isInTurn N (nI a) mm = some (1, mm) := by
  unfold fX11_isInTurn
  exact st_f (nI_pos (by first | omega | (dsimp only; omega))) (st_f (nI_nlt (show a ≤ 15 by omega) (by first | omega | (dsimp only; omega))) rfl)
theorem inTurn_n {N : Nat} {a : Int32} {mm : Mm} (h : Out a 16) : fX11_isInTurn N a mm = some (0, mm) := by
  unfold fX11_isInTurn
  rcases h with h | ⟨j, h1, h2, rfl⟩
  · exact st_t h rfl
  · exact st_f (nI_pos h2) (st_t (nI_lt (show 15 < j by omega) h2) rfl)

/-! picked out of 84.rules -/
theorem nI_div {a b : Nat} (ha : a < 2147483648) (hb : b < 2147483648) : nI a / nI b = nI (a / b) := by
  have hd : a / b ≤ a := Nat.div_le_self a b
  rw [i_eq, Int32.toInt_div, nI_toInt ha, nI_toInt hb, nI_toInt (by first | omega | (dsimp only; omega))]
  have e : (a : Int).tdiv (b : Int) = ((a / b : Nat) : Int) := rfl
  rw [e]
  generalize a / b = q at hd
  exact bm (by first | omega | (dsimp only; omega)) (by first | omega | (dsimp only; omega))
theorem nz_n {n : Nat} (h : 0 < n) (hn : n < 2147483648) : nz (nI n) = true := by
  unfold nz
  rw [decide_eq_true_eq]
  exact nI_ne0 h hn
theorem smN_1 {c t : Nat} : ∀ i, smN (fun j => if j = c then t else 0) i = if c < i then t else 0
  | 0 => rfl
  | i + 1 => by
    show smN _ i + (if i = c then t else 0) = _
    rw [smN_1 i]
    by_cases h1 : c < i
    · rw [if_pos h1, if_neg (by first | omega | (dsimp only; omega)), if_pos (by first | omega | (dsimp only; omega))]; omega
    · by_cases h2 : i = c
      · rw [if_neg h1, if_pos h2, if_pos (by first | omega | (dsimp only; omega))]; omega
      · rw [if_neg h1, if_neg h2, if_neg (by first | omega | (dsimp only; omega))]
def rbE (n t i : Nat) : Nat := t / n + (if t % n ≤ i then 0 else 1)
def rbW (W : Nat → Nat) (n t i : Nat) : Nat := t * W i / smN W n
/-- the first of the greatest worth -/
def gtN (W : Nat → Nat) : Nat → Nat
  | 0 => 0
  | i + 1 => if W i ≤ W (gtN W i) then gtN W i else i
def lfN (y : Nat → Nat) (t : Nat) : Nat → Nat
  | 0 => t
  | i + 1 => lfN y t i - (if lfN y t i < y i then lfN y t i else y i)
/-- what rule o lays at i; the rest that rule 1 leaves not yet there -/
def rbN (W : Nat → Nat) (n t o : Nat) (y : Nat → Nat) (i : Nat) : Nat :=
  if o = 0 then rbE n t i else if o = 1 then rbW W n t i else if o = 2 then (if i = 0 then t else 0) else if o = 3 then (if i = n - 1 then t else 0) else if o = 4 then (if i = gtN W n then t else 0) else (if lfN y t i < y i then lfN y t i else y i)
def rlN (W : Nat → Nat) (n t o : Nat) (y : Nat → Nat) (i : Nat) : Nat := rbN W n t o y i + (if o = 1 ∧ i = 0 then t - smN (rbN W n t o y) n else 0)
theorem gtN_lt {W : Nat → Nat} : ∀ i, 0 < i → gtN W i < i
  | 1, _ => by
    show (if W 0 ≤ W (gtN W 0) then gtN W 0 else 0) < 1
    show (if W 0 ≤ W 0 then 0 else 0) < 1
    split <;> omega
  | i + 2, _ => by
    have := gtN_lt (W := W) (i + 1) (by first | omega | (dsimp only; omega))
    show (if W (i + 1) ≤ W (gtN W (i + 1)) then gtN W (i + 1) else i + 1) < i + 2
    split <;> omega
theorem rbE_sum {n t : Nat} (h : 0 < n) : ∀ i, i ≤ n → smN (rbE n t) i ≤ t := by
  have key : ∀ i, i ≤ n → smN (rbE n t) i + (n - i) * (t / n) + (t % n - i) ≤ t := by
    intro i
    induction i with
    | zero =>
      intro _
      have := Nat.div_add_mod t n
      show 0 + (n - 0) * (t / n) + (t % n - 0) ≤ t
      rw [Nat.sub_zero, Nat.sub_zero, Nat.zero_add]
      omega
    | succ i ih =>
      intro hi
      have h1 := ih (by first | omega | (dsimp only; omega))
      have hm : t % n < n := Nat.mod_lt _ h
      have e : (n - i) * (t / n) = (n - (i + 1)) * (t / n) + t / n := by
        rw [show n - i = (n - (i + 1)) + 1 by omega, Nat.add_mul, Nat.one_mul]
      show smN (rbE n t) i + rbE n t i + _ + _ ≤ t
      unfold rbE at h1 ⊢
      split <;> omega
  intro i hi
  have := key i hi
  omega
theorem rbW_sum {W : Nat → Nat} {n t : Nat} (h : 0 < smN W n) : ∀ i, i ≤ n → smN (rbW W n t) i ≤ t := by
  have key : ∀ i, smN (rbW W n t) i * smN W n ≤ t * smN W i := by
    intro i
    induction i with
    | zero => simp [smN]
    | succ i ih =>
      show (smN (rbW W n t) i + rbW W n t i) * smN W n ≤ t * (smN W i + W i)
      rw [Nat.add_mul, Nat.mul_add]
      have : rbW W n t i * smN W n ≤ t * W i := Nat.div_mul_le_self _ _
      omega
  intro i hi
  have h1 := key i
  have h2 : t * smN W i ≤ t * smN W n := Nat.mul_le_mul_left t (smN_mono hi)
  exact Nat.le_of_mul_le_mul_right (Nat.le_trans h1 h2) h
theorem lf_sum {y : Nat → Nat} {t : Nat} : ∀ i, smN (fun i => if lfN y t i < y i then lfN y t i else y i) i + lfN y t i = t
  | 0 => by show 0 + t = t; omega
  | i + 1 => by
    have := lf_sum (y := y) (t := t) i
    show smN _ i + (if lfN y t i < y i then lfN y t i else y i) + (lfN y t i - (if lfN y t i < y i then lfN y t i else y i)) = t
    split <;> omega
theorem rb_sum {W : Nat → Nat} {n t o : Nat} {y : Nat → Nat} (h : 0 < n) (hW : 0 < smN W n) (i : Nat) (hi : i ≤ n) : smN (rbN W n t o y) i ≤ t := by
  by_cases h0 : o = 0
  · rw [smN_c i (fun j _ => show rbN W n t o y j = rbE n t j by unfold rbN; rw [if_pos h0])]
    exact rbE_sum h i hi
  by_cases h1 : o = 1
  · rw [smN_c i (fun j _ => show rbN W n t o y j = rbW W n t j by unfold rbN; rw [if_neg h0, if_pos h1])]
    exact rbW_sum hW i hi
  by_cases h2 : o = 2
  · rw [smN_c i (fun j _ => show rbN W n t o y j = (fun j => if j = 0 then t else 0) j by unfold rbN; rw [if_neg h0, if_neg h1, if_pos h2]), smN_1]
    split <;> omega
  by_cases h3 : o = 3
  · rw [smN_c i (fun j _ => show rbN W n t o y j = (fun j => if j = n - 1 then t else 0) j by unfold rbN; rw [if_neg h0, if_neg h1, if_neg h2, if_pos h3]), smN_1]
    split <;> omega
  by_cases h4 : o = 4
  · rw [smN_c i (fun j _ => show rbN W n t o y j = (fun j => if j = gtN W n then t else 0) j by unfold rbN; rw [if_neg h0, if_neg h1, if_neg h2, if_neg h3, if_pos h4]), smN_1]
    split <;> omega
  · rw [smN_c i (fun j _ => show rbN W n t o y j = (fun i => if lfN y t i < y i then lfN y t i else y i) j by unfold rbN; rw [if_neg h0, if_neg h1, if_neg h2, if_neg h3, if_neg h4])]
    have := lf_sum (y := y) (t := t) i
    omega
theorem rl_b {W : Nat → Nat} {n t o : Nat} {y : Nat → Nat} (h : 0 < n) (hW : 0 < smN W n) {i : Nat} (hi : i < n) : rlN W n t o y i ≤ t := by
  have h1 := rb_sum (t := t) (o := o) (y := y) h hW n (Nat.le_refl _)
  have h2 := smN_at (l := rbN W n t o y) hi
  unfold rlN
  split <;> omega
theorem wsum_pos {W : Nat → Nat} {n : Nat} (h : 0 < n) (hW : ∀ i, i < n → 1 ≤ W i) : 0 < smN W n := Nat.lt_of_lt_of_le (hW 0 h) (smN_at h)
section CLay
variable {N n t : Nat} {K W F y : Nat → Nat}
theorem ceven_l (h0 : 0 < n) (hn : n ≤ 6) (ht : t ≤ 40) : ∀ c i mm, i + c = n → ∀ f, c < f → ∃ m', fX2_layEven_2 N f 55 (nI n) (nI t) (nI i) mm = some ((), m') ∧ Fr (fun k j => k = 56 ∧ j < n) mm m' ∧ (∀ j, i ≤ j → j < n → rd m' 56 j = nI (rbE n t j)) ∧ ∀ j, j < i → rd m' 56 j = rd mm 56 j := by
  have hq : t / n ≤ t := Nat.div_le_self t n
  have hmd : nI t - nI t / nI n * nI n = nI (t % n) := by
    have := Nat.div_add_mod t n
    rw [nI_div (by first | omega | (dsimp only; omega)) (by first | omega | (dsimp only; omega)), nI_mul, Nat.mul_comm, nI_sub (by first | omega | (dsimp only; omega))]
    rw [show t - n * (t / n) = t % n by omega]
  intro c
  induction c with
  | zero =>
    intro i mm hi f hf
    obtain ⟨f, rfl⟩ : ∃ g, f = g + 1 := ⟨f - 1, by omega⟩
    refine ⟨mm, ?_, Fr.rf, fun j h1 h2 => by omega, fun _ _ => rfl⟩
    unfold fX2_layEven_2
    exact st_t (nI_le (by first | omega | (dsimp only; omega)) (by first | omega | (dsimp only; omega))) rfl
  | succ c ih =>
    intro i mm hi f hf
    obtain ⟨f, rfl⟩ : ∃ g, f = g + 1 := ⟨f - 1, by omega⟩
    obtain ⟨m', c1, f1, g1, g2⟩ := ih (i + 1) (wr mm 56 i (nI (rbE n t i))) (by first | omega | (dsimp only; omega)) f (by first | omega | (dsimp only; omega))
    refine ⟨m', ?_, (fr_wr Fr.rf ⟨rfl, by omega⟩).tr f1, fun j h1 h2 => ?_, fun j hj => by rw [g2 j (by first | omega | (dsimp only; omega)), rd_wr_j (by first | omega | (dsimp only; omega))]⟩
    · unfold fX2_layEven_2 fX2_layEven_27
      rw [hmd, nI_div (by first | omega | (dsimp only; omega)) (by first | omega | (dsimp only; omega))]
      simp only [LXg, nI_nat (show i < 2147483648 by omega)]
      refine st_f (nI_ge (by first | omega | (dsimp only; omega)) (by first | omega | (dsimp only; omega))) (st_g (nz_n h0 (by first | omega | (dsimp only; omega))) (st_g (nz_n h0 (by first | omega | (dsimp only; omega))) ?_))
      have hm : t % n < n := Nat.mod_lt _ h0
      unfold rbE at c1
      by_cases hle : t % n ≤ i
      · rw [if_pos hle] at c1
        refine st_t (nI_le hle (by first | omega | (dsimp only; omega))) (st_k rfl (show i < 6 by omega) (by first | omega | (dsimp only; omega)) (st_n ?_))
        rw [nI_1, show (0 : Int32) = nI 0 from rfl, nI_add]; exact c1
      · rw [if_neg hle] at c1
        refine st_f (nI_ge (by first | omega | (dsimp only; omega)) (by first | omega | (dsimp only; omega))) (st_k rfl (show i < 6 by omega) (by first | omega | (dsimp only; omega)) (st_n ?_))
        rw [nI_1, nI_1]; exact c1
    · by_cases hj : j = i
      · subst hj; rw [g2 _ (by first | omega | (dsimp only; omega)), rd_wr_s]
      · exact g1 j (by first | omega | (dsimp only; omega)) h2
theorem cworth_l (h0 : 0 < n) (ht : t ≤ 40) (hW : 0 < smN W n) : ∀ c i mm, i + c = n → CS mm n K W F → (∀ j, j < i → rd mm 56 j = nI (rbW W n t j)) → ∀ f, c < f → ∃ m', fX2_layByWorth_12 N f 55 3 (nI n) (nI t) (nI (smN W n)) (nI (t - smN (rbW W n t) i)) (nI i) mm = some ((), m') ∧ Fr (fun k j => k = 56 ∧ j < n) mm m' ∧ ∀ j, j < n → rd m' 56 j = nI (rbW W n t j + if j = 0 then t - smN (rbW W n t) n else 0) := by
  have hs := rbW_sum (t := t) hW
  intro c
  induction c with
  | zero =>
    intro i mm hi C hd f hf
    obtain ⟨f, rfl⟩ : ∃ g, f = g + 1 := ⟨f - 1, by omega⟩
    obtain rfl : i = n := by omega
    have hn := C.2.1
    refine ⟨wr mm 56 0 (nI (rbW W i t 0 + (t - smN (rbW W i t) i))), ?_, fr_wr Fr.rf ⟨rfl, h0⟩, fun j hj => ?_⟩
    · unfold fX2_layByWorth_12 fX2_layByWorth_75
      simp only [LXg]
      refine st_t (nI_le (by first | omega | (dsimp only; omega)) (by first | omega | (dsimp only; omega))) (st_g (by decide) (st_g (by decide) (st_n ?_)))
      rw [show (0 : Int32).toNatClampNeg = 0 from rfl, hd 0 h0, nI_add]
    · by_cases hj0 : j = 0
      · subst hj0; rw [rd_wr_s, if_pos rfl]
      · rw [rd_wr_j hj0, if_neg hj0]; exact hd j hj
  | succ c ih =>
    intro i mm hi C hd f hf
    obtain ⟨f, rfl⟩ : ∃ g, f = g + 1 := ⟨f - 1, by omega⟩
    have hn := C.2.1
    obtain ⟨⟨-, hw, -⟩, hk, hW1, hW9, -⟩ := C.2.2 i (by first | omega | (dsimp only; omega))
    have hS : smN W n ≤ 9 * n := smN_le n (fun j hj => (C.2.2 j hj).2.2.2.1)
    have h1 := hs (i + 1) (by first | omega | (dsimp only; omega))
    have e1 : smN (rbW W n t) (i + 1) = smN (rbW W n t) i + rbW W n t i := rfl
    obtain ⟨m', c1, f1, g1⟩ := ih (i + 1) (wr mm 56 i (nI (rbW W n t i))) (by first | omega | (dsimp only; omega)) (CS_c C (fun k j e => rd_wr_k (by first | omega | (dsimp only; omega)))) (fun j hj => by
      by_cases hji : j = i
      · subst hji; rw [rd_wr_s]
      · rw [rd_wr_j hji]; exact hd j (by first | omega | (dsimp only; omega))) f (by first | omega | (dsimp only; omega))
    refine ⟨m', ?_, (fr_wr Fr.rf ⟨rfl, by omega⟩).tr f1, g1⟩
    have htw : t * W i ≤ 40 * 9 := Nat.mul_le_mul ht hW9
    unfold fX2_layByWorth_12 fX2_layByWorth_56
    simp only [LXg, nI_nat (show i < 2147483648 by omega)]
    refine st_f (nI_ge (by first | omega | (dsimp only; omega)) (by first | omega | (dsimp only; omega))) (st_f (nI_ge (a := 0) (by first | omega | (dsimp only; omega)) (by first | omega | (dsimp only; omega))) (st_b (suitOf_t C (by first | omega | (dsimp only; omega))) (st_c (st_g (nz_n hW (by first | omega | (dsimp only; omega))) ?_))))
    rw [hw, nI_mul, nI_div (by first | omega | (dsimp only; omega)) (by first | omega | (dsimp only; omega))]
    refine st_k rfl (show i < 6 by omega) (by first | omega | (dsimp only; omega)) (st_n (st_k rfl (show i < 6 by omega) (by first | omega | (dsimp only; omega)) (st_n ?_)))
    rw [rd_wr_s, nI_1, show nI (t * W i / smN W n) = nI (rbW W n t i) from rfl, nI_sub (by first | omega | (dsimp only; omega)), show t - smN (rbW W n t) i - rbW W n t i = t - smN (rbW W n t) (i + 1) by omega]
    exact c1
theorem cgreat_l {mm : Mm} (C : CS mm n K W F) : ∀ c i, i + c = n → ∀ f, c < f → fX2_greatestOf_7 N f 3 (nI n) (nI (gtN W i)) (if i = 0 then 0 else nI (W (gtN W i))) (nI i) mm = some (nI (gtN W n), mm) := by
  have hn := C.2.1
  intro c
  induction c with
  | zero =>
    intro i hi f hf
    obtain ⟨f, rfl⟩ : ∃ g, f = g + 1 := ⟨f - 1, by omega⟩
    obtain rfl : i = n := by omega
    unfold fX2_greatestOf_7
    exact st_t (nI_le (by first | omega | (dsimp only; omega)) (by first | omega | (dsimp only; omega))) rfl
  | succ c ih =>
    intro i hi f hf
    obtain ⟨f, rfl⟩ : ∃ g, f = g + 1 := ⟨f - 1, by omega⟩
    obtain ⟨⟨-, hw, -⟩, hk, hW1, hW9, -⟩ := C.2.2 i (by first | omega | (dsimp only; omega))
    have ih2 := ih (i + 1) (by first | omega | (dsimp only; omega)) f (by first | omega | (dsimp only; omega))
    rw [if_neg (by first | omega | (dsimp only; omega))] at ih2
    have hg : gtN W (i + 1) = if W i ≤ W (gtN W i) then gtN W i else i := rfl
    unfold fX2_greatestOf_7 fX2_greatestOf_44
    refine st_f (nI_ge (by first | omega | (dsimp only; omega)) (by first | omega | (dsimp only; omega))) (st_b (suitOf_t C (by first | omega | (dsimp only; omega))) (st_c ?_))
    rw [hw, nI_1]
    by_cases hi0 : i = 0
    · subst hi0
      rw [hg, show gtN W 0 = 0 from rfl, if_pos (Nat.le_refl _)] at ih2
      exact st_f (by rw [if_pos rfl]; exact nI_ge (a := 0) (by first | omega | (dsimp only; omega)) (by first | omega | (dsimp only; omega))) ih2
    · rw [if_neg hi0]
      have hgl := gtN_lt (W := W) i (by first | omega | (dsimp only; omega))
      have hW9g := (C.2.2 (gtN W i) (by first | omega | (dsimp only; omega))).2.2.2.1
      by_cases hle : W i ≤ W (gtN W i)
      · rw [hg, if_pos hle] at ih2
        exact st_t (nI_le hle (by first | omega | (dsimp only; omega))) ih2
      · rw [hg, if_neg hle] at ih2
        exact st_f (nI_ge (by first | omega | (dsimp only; omega)) (by first | omega | (dsimp only; omega))) ih2
theorem cback_l {z : Nat} (hz : ln z = 6) (hz56 : z ≠ 56) (hn : n ≤ 6) (ht : t ≤ 40) (hy40 : ∀ i, i < n → y i ≤ 40) : ∀ c i mm, i + c = n → HA mm z n y → ∀ f, c < f → ∃ m', fX2_layBack_6 N f 55 (some z) (nI n) (nI (lfN y t i)) (nI i) mm = some ((), m') ∧ Fr (fun k j => k = 56 ∧ j < n) mm m' ∧ (∀ j, i ≤ j → j < n → rd m' 56 j = nI (if lfN y t j < y j then lfN y t j else y j)) ∧ ∀ j, j < i → rd m' 56 j = rd mm 56 j := by
  have hlf : ∀ i, lfN y t i ≤ t := fun i => by have := lf_sum (y := y) (t := t) i; omega
  intro c
  induction c with
  | zero =>
    intro i mm hi H f hf
    obtain ⟨f, rfl⟩ : ∃ g, f = g + 1 := ⟨f - 1, by omega⟩
    refine ⟨mm, ?_, Fr.rf, fun j h1 h2 => by omega, fun _ _ => rfl⟩
    unfold fX2_layBack_6
    exact st_c (st_t (nI_le (by first | omega | (dsimp only; omega)) (by first | omega | (dsimp only; omega))) rfl)
  | succ c ih =>
    intro i mm hi H f hf
    obtain ⟨f, rfl⟩ : ∃ g, f = g + 1 := ⟨f - 1, by omega⟩
    obtain ⟨m', c1, f1, g1, g2⟩ := ih (i + 1) (wr mm 56 i (nI (if lfN y t i < y i then lfN y t i else y i))) (by first | omega | (dsimp only; omega)) (H.c (fun j hj => rd_wr_k hz56)) f (by first | omega | (dsimp only; omega))
    refine ⟨m', ?_, (fr_wr Fr.rf ⟨rfl, by omega⟩).tr f1, fun j h1 h2 => ?_, fun j hj => by rw [g2 j (by first | omega | (dsimp only; omega)), rd_wr_j (by first | omega | (dsimp only; omega))]⟩
    · have hyi := hy40 i (by first | omega | (dsimp only; omega))
      have hli := hlf i
      unfold fX2_layBack_6
      refine st_c ?_
      rw [hz]
      simp only [LXg, nI_nat (show i < 2147483648 by omega)]
      refine (st_f (nI_ge (by first | omega | (dsimp only; omega)) (by first | omega | (dsimp only; omega))) (st_f (nI_ge (show i < 6 by omega) (by first | omega | (dsimp only; omega))) (st_k rfl (show i < 6 by omega) (by first | omega | (dsimp only; omega)) (st_n (st_k rfl (show i < 6 by omega) (by first | omega | (dsimp only; omega)) (st_n (st_k rfl (show i < 6 by omega) (by first | omega | (dsimp only; omega)) (st_n ?_))))))))
      rw [H i (by first | omega | (dsimp only; omega)), rd_wr_s, nI_1]
      have e : (if nI (lfN y t i) < nI (y i) then nI (lfN y t i) else nI (y i)) = nI (if lfN y t i < y i then lfN y t i else y i) := by
        by_cases hlt : lfN y t i < y i
        · rw [if_pos hlt, if_pos (nI_lt hlt (by first | omega | (dsimp only; omega)))]
        · rw [if_neg hlt, if_neg (nI_nlt (by first | omega | (dsimp only; omega)) (by first | omega | (dsimp only; omega)))]
      rw [e, nI_sub (by split <;> omega)]
      exact c1
    · by_cases hj : j = i
      · subst hj; rw [g2 _ (by first | omega | (dsimp only; omega)), rd_wr_s]
      · exact g1 j (by first | omega | (dsimp only; omega)) h2
end CLay

/-! picked out of 85.layby -/
section LayBy
variable {N n t : Nat} {K W F : Nat → Nat}
/-- note k - 1, or none -/
def YC (mm : Mm) (n k : Nat) (y : Nat → Nat) : Prop := (k = 0 ∧ ∀ j, y j = 0) ∨ (0 < k ∧ k ≤ 8 ∧ HA mm (8 + (k - 1)) n y ∧ ∀ i, i < n → y i ≤ 40)
def YM (mm : Mm) (n k : Nat) (y : Nat → Nat) : Prop := (k = 0 ∧ ∀ j, y j = 0) ∨ (0 < k ∧ k ≤ 8 ∧ (∀ i, i < n → rd mm 193 (7 * (k - 1) + i) = nI (y i)) ∧ ∀ i, i < n → y i ≤ 40)
theorem YC.c {mm m2 : Mm} {k : Nat} {y : Nat → Nat} (h : YC mm n k y) (e : ∀ q j, 8 ≤ q ∧ q ≤ 15 → rd m2 q j = rd mm q j) : YC m2 n k y := by
  rcases h with h | ⟨h1, h2, h3, h4⟩
  · exact Or.inl h
  · exact Or.inr ⟨h1, h2, h3.c (fun i _ => e _ _ (by first | omega | (dsimp only; omega))), h4⟩
theorem YM.c {mm m2 : Mm} {k : Nat} {y : Nat → Nat} (h : YM mm n k y) (e : ∀ j, rd m2 193 j = rd mm 193 j) : YM m2 n k y := by
  rcases h with h | ⟨h1, h2, h3, h4⟩
  · exact Or.inl h
  · exact Or.inr ⟨h1, h2, fun i hi => by rw [e]; exact h3 i hi, h4⟩
theorem laidAt_t {k en : Nat} {mm : Mm} (h7 : rd mm 3 7 = nI en) (he : en ≤ 8) (hk : k < en) : fX0_laidAt N 3 (nI k) mm = some (some (8 + k), mm) := by
  unfold fX0_laidAt
  simp only [LXa, nI_nat (show k < 2147483648 by omega)]
  exact st_f (nI_pos (by first | omega | (dsimp only; omega))) (st_t (by rw [h7]; exact nI_lt hk (by first | omega | (dsimp only; omega))) (st_k rfl (show k < 8 by omega) (by first | omega | (dsimp only; omega)) rfl))
theorem layBy_e {o k en : Nat} {y : Nat → Nat} {mm : Mm} (hN : 100000 ≤ N) (h0 : 0 < n) (ho : o < 6) (C : CS mm n K W F) (ht : rd mm 5 1 = nI t) (ht40 : t ≤ 40) (h7 : rd mm 3 7 = nI en) (he : en ≤ 8) (hk : k ≤ en) (Y : YC mm n k y) : ∃ m', fX2_layBy N 55 3 (nI o) (nI k) mm = some ((), m') ∧ Fr (fun k _ => k = 56) mm m' ∧ ∀ j, j < 6 → rd m' 56 j = nI (if j < n then rlN W n t o y j else 0) := by
  have hn := C.2.1
  obtain ⟨m1, c1, f1, g1⟩ := fill_ok (N := N) (k := 56) (v := 0) (L := 6) (mm := mm) hN rfl (by first | omega | (dsimp only; omega))
  have C1 : CS m1 n K W F := CS_c C (fun k j e => f1.2 _ _ (by first | omega | (dsimp only; omega)))
  have hW : 0 < smN W n := wsum_pos h0 (fun i hi => (C.2.2 i hi).2.2.1)
  have h5 : rd m1 3 5 = nI n := C1.1
  have ht1 : rd m1 5 1 = nI t := by rw [f1.2 _ _ (by first | omega | (dsimp only; omega))]; exact ht
  have h71 : rd m1 3 7 = nI en := by rw [f1.2 _ _ (by first | omega | (dsimp only; omega))]; exact h7
  have hx6 : (if (6 : Int32) < nI n then (6 : Int32) else nI n) = nI n := if_neg (nI_nlt (show n ≤ 6 from hn) (by first | omega | (dsimp only; omega)))
  have pre : ∀ {m' : Mm}, (if nI o = 0 then (bd2 (fX2_layEven N 55 (nI n) (nI t) m1) fun x9 m10 => some ((), m10)) else if nI o = 1 then (bd2 (fX2_layByWorth N 55 3 (nI n) (nI t) m1) fun x13 m14 => some ((), m14)) else if nI o = 2 then (gd (inb 0 (ln 56)) <| nm (wr m1 56 (0 : Int32).toNatClampNeg (nI t)) fun m18 => some ((), m18)) else if nI o = 3 then (gd (inb (nI n - 1) (ln 56)) <| nm (wr m1 56 (nI n - 1).toNatClampNeg (nI t)) fun m21 => some ((), m21)) else if nI o = 4 then (bd2 (fX2_greatestOf N 3 (nI n) m1) fun x23 m24 => gd (inb x23 (ln 56)) <| nm (wr m24 56 x23.toNatClampNeg (nI t)) fun m27 => some ((), m27)) else (bd2 (fX0_laidAt N 3 (nI k - 1) m1) fun x28 m29 => bd2 (fX2_layBack N 55 x28 (nI n) (nI t) m29) fun x31 m32 => some ((), m32))) = some ((), m') → fX2_layBy N 55 3 (nI o) (nI k) mm = some ((), m') := by
    intro m' h
    unfold fX2_layBy
    simp only [LXg]
    refine st_b c1 ?_
    simp only [LXa]
    refine st_g (by decide) (st_n ?_)
    rw [show (1 : Int32).toNatClampNeg = 1 from rfl, ht1, h5, hx6]
    exact st_n (st_t (nI_le (show 1 ≤ n from h0) (by first | omega | (dsimp only; omega))) h)
  have one : ∀ (c : Nat), c < n → (∀ j, j < n → rlN W n t o y j = if j = c then t else 0) → ∀ j, j < 6 → rd (wr m1 56 c (nI t)) 56 j = nI (if j < n then rlN W n t o y j else 0) := by
    intro c hc hr j hj
    by_cases hjc : j = c
    · subst hjc; rw [rd_wr_s, if_pos hc, hr j hc, if_pos rfl]
    · rw [rd_wr_j hjc, g1 j hj]
      by_cases hjn : j < n
      · rw [if_pos hjn, hr j hjn, if_neg hjc]; rfl
      · rw [if_neg hjn]; rfl
  rcases (by omega : o = 0 ∨ o = 1 ∨ o = 2 ∨ o = 3 ∨ o = 4 ∨ o = 5) with rfl | rfl | rfl | rfl | rfl | rfl
  · obtain ⟨m', c2, f2, g2, -⟩ := ceven_l (N := N) h0 hn ht40 n 0 m1 (by first | omega | (dsimp only; omega)) N (by first | omega | (dsimp only; omega))
    refine ⟨m', pre (st_t rfl (st_b c2 rfl)), f1.tr (f2.mono (fun k j h => h.1)), fun j hj => ?_⟩
    by_cases hjn : j < n
    · rw [g2 j (by first | omega | (dsimp only; omega)) hjn, if_pos hjn]; rfl
    · rw [f2.2 _ _ (by first | omega | (dsimp only; omega)), g1 j hj, if_neg hjn]; rfl
  · obtain ⟨m', c2, f2, g2⟩ := cworth_l (N := N) h0 ht40 hW n 0 m1 (by first | omega | (dsimp only; omega)) C1 (fun j hj => by omega) N (by first | omega | (dsimp only; omega))
    refine ⟨m', pre (st_f (by decide) (st_t rfl (st_b (st_b (worths_e hN C1) c2) rfl))), f1.tr (f2.mono (fun k j h => h.1)), fun j hj => ?_⟩
    by_cases hjn : j < n
    · rw [g2 j hjn, if_pos hjn]
      have e1 : rbN W n t 1 y = rbW W n t := funext fun i => rfl
      unfold rlN
      rw [e1]
      by_cases hj0 : j = 0
      · rw [if_pos hj0, if_pos ⟨rfl, hj0⟩]
      · rw [if_neg hj0, if_neg (fun e => hj0 e.2)]
    · rw [f2.2 _ _ (by first | omega | (dsimp only; omega)), g1 j hj, if_neg hjn]; rfl
  · refine ⟨wr m1 56 0 (nI t), pre (st_f (by decide) (st_f (by decide) (st_t rfl (st_g (by decide) (st_n rfl))))), fr_wr f1 rfl, one 0 h0 (fun j _ => rfl)⟩
  · refine ⟨wr m1 56 (n - 1) (nI t), pre (st_f (by decide) (st_f (by decide) (st_f (by decide) (st_t rfl ?_)))), fr_wr f1 rfl, one (n - 1) (by first | omega | (dsimp only; omega)) (fun j _ => rfl)⟩
    rw [show nI n - 1 = nI (n - 1) from nI_sub (b := 1) h0]
    refine st_k (L := 6) rfl (by first | omega | (dsimp only; omega)) (by first | omega | (dsimp only; omega)) (st_n ?_)
    rw [nI_nat (by first | omega | (dsimp only; omega))]
  · have hg := gtN_lt (W := W) n h0
    refine ⟨wr m1 56 (gtN W n) (nI t), pre (st_f (by decide) (st_f (by decide) (st_f (by decide) (st_f (by decide) (st_t rfl (st_b (cgreat_l (N := N) C1 n 0 (by first | omega | (dsimp only; omega)) N (by first | omega | (dsimp only; omega))) ?_)))))), fr_wr f1 rfl, one (gtN W n) hg (fun j _ => rfl)⟩
    refine st_k (L := 6) rfl (by first | omega | (dsimp only; omega)) (by first | omega | (dsimp only; omega)) (st_n ?_)
    rw [nI_nat (by first | omega | (dsimp only; omega))]
  · have hrl : ∀ j, rlN W n t 5 y j = if lfN y t j < y j then lfN y t j else y j := fun j => rfl
    rcases Y with ⟨rfl, hy⟩ | ⟨hk0, hk8, HY, hy40⟩
    · refine ⟨m1, pre (st_f (by decide) (st_f (by decide) (st_f (by decide) (st_f (by decide) (st_f (by decide) (st_b (st_t (by decide) rfl) (st_b (a := ()) ?_ rfl))))))), f1, fun j hj => ?_⟩
      · obtain ⟨g, rfl⟩ : ∃ g, N = g + 1 := ⟨N - 1, by omega⟩
        rfl
      · rw [g1 j hj]
        by_cases hjn : j < n
        · rw [if_pos hjn, hrl, hy j, if_neg (by first | omega | (dsimp only; omega))]; rfl
        · rw [if_neg hjn]; rfl
    · obtain ⟨m', c2, f2, g2, -⟩ := cback_l (N := N) (t := t) (z := 8 + (k - 1)) (ln_6 (Or.inl (by first | omega | (dsimp only; omega)))) (by first | omega | (dsimp only; omega)) hn ht40 hy40 n 0 m1 (by first | omega | (dsimp only; omega)) (HY.c (fun j _ => f1.2 _ _ (by first | omega | (dsimp only; omega)))) N (by first | omega | (dsimp only; omega))
      have hla := laidAt_t (N := N) h71 he (show k - 1 < en by omega)
      rw [show nI (k - 1) = nI k - 1 from (nI_sub (b := 1) hk0).symm] at hla
      refine ⟨m', pre (st_f (by decide) (st_f (by decide) (st_f (by decide) (st_f (by decide) (st_f (by decide) (st_b hla (st_b c2 rfl))))))), f1.tr (f2.mono (fun k j h => h.1)), fun j hj => ?_⟩
      by_cases hjn : j < n
      · rw [g2 j (by first | omega | (dsimp only; omega)) hjn, if_pos hjn, hrl]
      · rw [f2.2 _ _ (by first | omega | (dsimp only; omega)), g1 j hj, if_neg hjn]; rfl
end LayBy

/-! picked out of 86.rule -/
def yN (Y : Nat → Nat → Nat) (k j : Nat) : Nat := if k = 0 then 0 else Y (k - 1) j
/-- the notes of the class -/
def NTs (mm : Mm) (n en : Nat) (Y : Nat → Nat → Nat) (Z : Nat → Nat) : Prop := en ≤ 8 ∧ rd mm 3 7 = nI en ∧ ∀ k, k < en → HA mm (8 + k) n (Y k) ∧ (∀ i, i < n → Y k i ≤ 40) ∧ rd mm 16 k = nI (Z k) ∧ Z k < 2 ^ n
theorem NTs.c {mm m2 : Mm} {n en : Nat} {Y : Nat → Nat → Nat} {Z : Nat → Nat} (h : NTs mm n en Y Z) (e : ∀ k j, (8 ≤ k ∧ k ≤ 16) ∨ (k = 3 ∧ j = 7) → rd m2 k j = rd mm k j) : NTs m2 n en Y Z := by
  obtain ⟨h1, h2, h4⟩ := h
  refine ⟨h1, by rw [e _ _ (by first | omega | (dsimp only; omega))]; exact h2, fun k hk => ?_⟩
  obtain ⟨a1, a3, a4, a6⟩ := h4 k hk
  exact ⟨a1.c (fun i _ => e _ _ (by first | omega | (dsimp only; omega))), a3, by rw [e _ _ (by first | omega | (dsimp only; omega))]; exact a4, a6⟩
theorem NTs.yc {mm : Mm} {n en k : Nat} {Y : Nat → Nat → Nat} {Z : Nat → Nat} (h : NTs mm n en Y Z) (hk : k ≤ en) : YC mm n k (yN Y k) := by
  obtain ⟨h1, h2, h4⟩ := h
  by_cases h0 : k = 0
  · exact Or.inl ⟨h0, fun j => by unfold yN; rw [if_pos h0]⟩
  · obtain ⟨a1, a3, -⟩ := h4 (k - 1) (by first | omega | (dsimp only; omega))
    have e : yN Y k = Y (k - 1) := funext fun j => by unfold yN; rw [if_neg h0]
    rw [e]
    exact Or.inr ⟨by omega, by omega, a1, a3⟩
theorem sL_32 {g : Nat → Int32} {x : Nat → Nat} : ∀ n, (∀ i, i < n → g i = nI (x i)) → (sL g n).toInt32 = nI (smN x n)
  | 0, _ => rfl
  | n + 1, h => by
    show (sL g n + (g n).toInt64).toInt32 = nI (smN x n + x n)
    rw [Int64.toInt32_add, sL_32 n (fun i hi => h i (by first | omega | (dsimp only; omega))), Int32.toInt32_toInt64, h n (by first | omega | (dsimp only; omega)), nI_add]

/-! picked out of 87.fits -/
theorem or_6 : ∀ o, o < 6 → ∀ m, m < 2 ^ o → nI m ||| (1 <<< (nI o &&& 31)) = nI (m + 2 ^ o) := by decide +kernel
def mkN (f : Nat → Bool) (n : Nat) : Nat := smN (fun i => if f i = true then 2 ^ i else 0) n
theorem mkN_lt {f : Nat → Bool} : ∀ n, mkN f n < 2 ^ n
  | 0 => Nat.zero_lt_one
  | n + 1 => by
    have := mkN_lt (f := f) n
    show mkN f n + (if f n = true then 2 ^ n else 0) < 2 ^ (n + 1)
    rw [Nat.pow_succ]
    split <;> omega
theorem mkN_64 {f : Nat → Bool} : mkN f 6 < 64 := mkN_lt 6
/-- the suits that side 0 wins -/
def wsN (w : Nat → Nat) (n : Nat) : Nat := mkN (fun i => decide (w i = 0)) n
theorem wsN_S {w : Nat → Nat} {i : Nat} : wsN w (i + 1) = if w i = 0 then wsN w i + 2 ^ i else wsN w i := by
  show wsN w i + (if decide (w i = 0) = true then 2 ^ i else 0) = _
  by_cases h : w i = 0
  · rw [if_pos h, if_pos (by simpa using h)]
  · rw [if_neg h, if_neg (by simpa using h)]; omega
section Fit
variable {N n d t : Nat} {K W F : Nat → Nat}
theorem wonOf_e {S : Nat} {w : Nat → Nat} {mm : Mm} (hN : 100000 ≤ N) (hS : SC S) (hn : n ≤ 6) (hw2 : ∀ i, i < n → w i ≤ 2) (hW : HA mm (S + 1) n w) : fX7_wonOf N S (nI n) mm = some (nI (wsN w n), mm) := by
  have key : ∀ c i, i + c = n → ∀ f, c < f → fX7_wonOf_4 N f S (nI n) (nI (wsN w i)) (nI i) mm = some (nI (wsN w n), mm) := by
    intro c
    induction c with
    | zero =>
      intro i hi f hf
      obtain ⟨f, rfl⟩ : ∃ g, f = g + 1 := ⟨f - 1, by omega⟩
      obtain rfl : i = n := by omega
      unfold fX7_wonOf_4
      exact st_t (nI_le (by first | omega | (dsimp only; omega)) (by first | omega | (dsimp only; omega))) rfl
    | succ c ih =>
      intro i hi f hf
      obtain ⟨f, rfl⟩ : ∃ g, f = g + 1 := ⟨f - 1, by omega⟩
      have ih2 := ih (i + 1) (by first | omega | (dsimp only; omega)) f (by first | omega | (dsimp only; omega))
      rw [wsN_S] at ih2
      have hlt : wsN w i < 2 ^ i := mkN_lt i
      have h2 := hw2 i (by first | omega | (dsimp only; omega))
      unfold fX7_wonOf_4 fX7_wonOf_30
      rw [hS.1]
      simp only [nI_nat (show i < 2147483648 by omega)]
      refine st_f (nI_ge (by first | omega | (dsimp only; omega)) (by first | omega | (dsimp only; omega))) (st_f (nI_ge (show i < 6 by omega) (by first | omega | (dsimp only; omega))) (st_k hS.2.2.2.1 (show i < 6 by omega) (by first | omega | (dsimp only; omega)) ?_))
      rw [hW i (by first | omega | (dsimp only; omega)), nI_1]
      by_cases h0 : w i = 0
      · rw [if_pos h0] at ih2
        refine st_t (by rw [h0]; rfl) ?_
        rw [or_6 i (by first | omega | (dsimp only; omega)) _ hlt]; exact ih2
      · rw [if_neg h0] at ih2
        exact st_f (nw_ne (v := 0) h0 (by first | omega | (dsimp only; omega)) (by first | omega | (dsimp only; omega))) ih2
  exact key n 0 (by first | omega | (dsimp only; omega)) N (by first | omega | (dsimp only; omega))
/-- note k fits rule o -/
def ftB (K W F : Nat → Nat) (n d t : Nat) (Y : Nat → Nat → Nat) (Z : Nat → Nat) (o k : Nat) : Bool := decide (wsN (wn K F d (Y k) (rlN W n t o (yN Y k))) n = Z k)
def alB (P : Nat → Bool) : Nat → Nat → Bool
  | 0, _ => true
  | c + 1, k => P k && alB P c (k + 1)
def fitB (K W F : Nat → Nat) (n d t en : Nat) (Y : Nat → Nat → Nat) (Z : Nat → Nat) (o : Nat) : Bool := alB (ftB K W F n d t Y Z o) en 0
theorem SC_57 : SC 57 := ⟨rfl, rfl, rfl, rfl, rfl, rfl, by omega, by omega⟩
/-- the class' part that the rules stand on -/
def GC (mm : Mm) (n d t en : Nat) (K W F : Nat → Nat) (Y : Nat → Nat → Nat) (Z : Nat → Nat) : Prop := CS mm n K W F ∧ rd mm 3 6 = nI d ∧ rd mm 5 1 = nI t ∧ NTs mm n en Y Z
theorem GC.c {mm m2 : Mm} {en : Nat} {Y : Nat → Nat → Nat} {Z : Nat → Nat} (h : GC mm n d t en K W F Y Z) (e : ∀ k j, k ≤ 22 → rd m2 k j = rd mm k j) : GC m2 n d t en K W F Y Z :=
  ⟨CS_c h.1 (fun k j q => e _ _ (by first | omega | (dsimp only; omega))), by rw [e _ _ (by first | omega | (dsimp only; omega))]; exact h.2.1, by rw [e _ _ (by first | omega | (dsimp only; omega))]; exact h.2.2.1, h.2.2.2.c (fun k j q => e _ _ (by first | omega | (dsimp only; omega)))⟩
theorem cfits_l {o en : Nat} {Y : Nat → Nat → Nat} {Z : Nat → Nat} (hN : 100000 ≤ N) (h0 : 0 < n) (ho : o < 6) (hd9 : d ≤ 9) (ht40 : t ≤ 40) : ∀ c k mm, k + c = en → GC mm n d t en K W F Y Z → rd mm 60 0 = 0 → ∀ f, c < f → ∃ m', fX2_fits_2 N f 55 3 (nI o) (nI k) mm = some (if alB (ftB K W F n d t Y Z o) c k = true then 1 else 0, m') ∧ Fr (fun k _ => 56 ≤ k ∧ k ≤ 60) mm m' ∧ rd m' 60 0 = 0 := by
  intro c
  induction c with
  | zero =>
    intro k mm hk G h60 f hf
    obtain ⟨f, rfl⟩ : ∃ g, f = g + 1 := ⟨f - 1, by omega⟩
    obtain ⟨C, hd, ht, T⟩ := G
    have he := T.1
    refine ⟨mm, ?_, Fr.rf, h60⟩
    unfold fX2_fits_2
    exact st_t (by rw [T.2.1]; exact nI_le (by first | omega | (dsimp only; omega)) (by first | omega | (dsimp only; omega))) rfl
  | succ c ih =>
    intro k mm hk G h60 f hf
    obtain ⟨f, rfl⟩ : ∃ g, f = g + 1 := ⟨f - 1, by omega⟩
    obtain ⟨C, hd, ht, T⟩ := id G
    have he := T.1
    have hn := C.2.1
    have hke : k < en := by omega
    have hW : 0 < smN W n := wsum_pos h0 (fun i hi => (C.2.2 i hi).2.2.1)
    obtain ⟨y1, y3, z1, z3⟩ := T.2.2 k hke
    have hp := pw_n n (by first | omega | (dsimp only; omega))
    obtain ⟨m1, c1, f1, g1⟩ := layBy_e (N := N) (o := o) (k := k) hN h0 ho C ht ht40 T.2.1 he (by first | omega | (dsimp only; omega)) (T.yc (by first | omega | (dsimp only; omega)))
    have G1 : GC m1 n d t en K W F Y Z := G.c (fun k j e => f1.2 _ _ (by first | omega | (dsimp only; omega)))
    obtain ⟨m2, c2, f2, w2, -, -⟩ := weigh_e (N := N) (S := 57) (p := 8 + k) (q := 56) (L := 6) (M := 6) (d := d) (x := Y k) (y := rlN W n t o (yN Y k)) (i := 0) (mm := m1) hN SC_57 hd9 (ln_6 (Or.inl (by first | omega | (dsimp only; omega)))) rfl ⟨Nat.le_refl _, by decide⟩ ⟨Nat.le_refl _, by decide⟩ (Or.inl (by first | omega | (dsimp only; omega))) (Or.inl (by decide)) (fun i hi => by have := y3 i hi; omega) (fun i hi => by have := rl_b (W := W) (t := t) (o := o) (y := yN Y k) h0 hW hi; omega) (by first | omega | (dsimp only; omega)) G1.1 G1.2.1 (y1.c (fun i _ => f1.2 _ _ (by first | omega | (dsimp only; omega)))) (fun i hi => by rw [g1 i (by first | omega | (dsimp only; omega)), if_pos hi]) (SW_0 (by rw [f1.2 _ _ (by first | omega | (dsimp only; omega))]; exact h60))
    have G2 : GC m2 n d t en K W F Y Z := G1.c (fun k j e => f2.2 _ _ (by first | omega | (dsimp only; omega)))
    have h602 : rd m2 60 0 = 0 := w2.2 0 (by first | omega | (dsimp only; omega))
    have hwon := wonOf_e (N := N) (S := 57) (mm := m2) (w := wn K F d (Y k) (rlN W n t o (yN Y k))) hN SC_57 hn (fun i _ => wn_2) (fun i hi => w2.1 i hi)
    have hws : wsN (wn K F d (Y k) (rlN W n t o (yN Y k))) n < 2 ^ n := mkN_lt n
    have F12 : Fr (fun k _ => 56 ≤ k ∧ k ≤ 60) mm m2 := (f1.mono (fun k j e => by omega)).tr (f2.mono (fun k j e => by omega))
    have pre : ∀ {r : Option (Int32 × Mm)}, (if nI (wsN (wn K F d (Y k) (rlN W n t o (yN Y k))) n) = nI (Z k) then (fX2_fits_2 N f 55 3 (nI o) (nI k + 1) m2) else (some (0, m2))) = r → fX2_fits_2 N (f + 1) 55 3 (nI o) (nI k) mm = r := by
      intro r hr
      have hat : fX0_wonAt N 3 (nI k) m2 = some (nI (Z k), m2) := by
        unfold fX0_wonAt
        simp only [LXa, nI_nat (show k < 2147483648 by omega)]
        refine st_f (nI_pos (by first | omega | (dsimp only; omega))) (st_t (by rw [G2.2.2.2.2.1]; exact nI_lt hke (by first | omega | (dsimp only; omega))) (st_k rfl (show k < 8 by omega) (by first | omega | (dsimp only; omega)) ?_))
        rw [F12.2 16 k (by first | omega | (dsimp only; omega)), z1]
      unfold fX2_fits_2
      refine st_f (by rw [T.2.1]; exact nI_ge hke (by first | omega | (dsimp only; omega))) (st_b (laidAt_t T.2.1 he hke) (st_c (st_b c1 ?_)))
      simp only [LXg]
      refine st_b c2 ?_
      rw [G2.1.1]
      exact st_b hwon (st_b hat hr)
    by_cases hft : wsN (wn K F d (Y k) (rlN W n t o (yN Y k))) n = Z k
    · obtain ⟨m', c3, f3, g3⟩ := ih (k + 1) m2 (by first | omega | (dsimp only; omega)) G2 h602 f (by first | omega | (dsimp only; omega))
      refine ⟨m', pre (st_t (by rw [hft]) ?_), F12.tr f3, g3⟩
      rw [nI_1, c3]
      have : ftB K W F n d t Y Z o k = true := decide_eq_true hft
      show _ = some (if (ftB K W F n d t Y Z o k && alB (ftB K W F n d t Y Z o) c (k + 1)) = true then 1 else 0, m')
      rw [this, Bool.true_and]
    · refine ⟨m2, pre (st_f (fun e => hft (nI_inj e (by first | omega | (dsimp only; omega)) (by first | omega | (dsimp only; omega)))) ?_), F12, h602⟩
      have : ftB K W F n d t Y Z o k = false := decide_eq_false hft
      show _ = some (if (ftB K W F n d t Y Z o k && alB (ftB K W F n d t Y Z o) c (k + 1)) = true then 1 else 0, m2)
      rw [this, Bool.false_and]
      rfl
theorem cfit_l {en : Nat} {Y : Nat → Nat → Nat} {Z : Nat → Nat} (hN : 100000 ≤ N) (h0 : 0 < n) (hd9 : d ≤ 9) (ht40 : t ≤ 40) : ∀ c o mm, o + c = 6 → GC mm n d t en K W F Y Z → rd mm 60 0 = 0 → ∀ f, c < f → ∃ m', fX2_fitting_4 N f 55 3 (nI (mkN (fitB K W F n d t en Y Z) o)) (nI o) mm = some (nI (mkN (fitB K W F n d t en Y Z) 6), m') ∧ Fr (fun k _ => 56 ≤ k ∧ k ≤ 60) mm m' ∧ rd m' 60 0 = 0 := by
  intro c
  induction c with
  | zero =>
    intro o mm ho G h60 f hf
    obtain ⟨f, rfl⟩ : ∃ g, f = g + 1 := ⟨f - 1, by omega⟩
    obtain rfl : o = 6 := by omega
    refine ⟨mm, ?_, Fr.rf, h60⟩
    unfold fX2_fitting_4
    exact st_t (by decide) rfl
  | succ c ih =>
    intro o mm ho G h60 f hf
    obtain ⟨f, rfl⟩ : ∃ g, f = g + 1 := ⟨f - 1, by omega⟩
    have he := G.2.2.2.1
    obtain ⟨m1, c1, f1, g1⟩ := cfits_l (N := N) (o := o) hN h0 (by first | omega | (dsimp only; omega)) hd9 ht40 en 0 mm (by first | omega | (dsimp only; omega)) G h60 N (by first | omega | (dsimp only; omega))
    obtain ⟨m', c2, f2, g2⟩ := ih (o + 1) m1 (by first | omega | (dsimp only; omega)) (G.c (fun k j e => f1.2 _ _ (by first | omega | (dsimp only; omega)))) g1 f (by first | omega | (dsimp only; omega))
    have hlt : mkN (fitB K W F n d t en Y Z) o < 2 ^ o := mkN_lt o
    have hS : mkN (fitB K W F n d t en Y Z) (o + 1) = mkN (fitB K W F n d t en Y Z) o + if fitB K W F n d t en Y Z o = true then 2 ^ o else 0 := rfl
    have c1' : fX2_fits N 55 3 (nI o) mm = some (if fitB K W F n d t en Y Z o = true then 1 else 0, m1) := c1
    refine ⟨m', ?_, f1.tr f2, g2⟩
    unfold fX2_fitting_4 fX2_fitting_25
    refine st_f (nI_ge (by first | omega | (dsimp only; omega)) (by first | omega | (dsimp only; omega))) (st_b c1' ?_)
    rw [nI_1]
    by_cases hb : fitB K W F n d t en Y Z o = true
    · rw [hS, if_pos hb] at c2
      rw [if_pos hb]
      refine st_f (by decide) ?_
      rw [or_6 o (by first | omega | (dsimp only; omega)) _ hlt]; exact c2
    · rw [hS, if_neg hb] at c2
      rw [if_neg hb]
      exact st_t rfl c2
theorem cfit_e {en : Nat} {Y : Nat → Nat → Nat} {Z : Nat → Nat} {mm : Mm} (hN : 100000 ≤ N) (h0 : 0 < n) (hd9 : d ≤ 9) (ht40 : t ≤ 40) (G : GC mm n d t en K W F Y Z) (h60 : rd mm 60 0 = 0) : ∃ m', fX2_fitting N 55 3 mm = some (nI (mkN (fitB K W F n d t en Y Z) 6), m') ∧ Fr (fun k _ => 56 ≤ k ∧ k ≤ 60) mm m' ∧ rd m' 60 0 = 0 :=
  cfit_l hN h0 hd9 ht40 6 0 mm (by first | omega | (dsimp only; omega)) G h60 N (by first | omega | (dsimp only; omega))
end Fit
