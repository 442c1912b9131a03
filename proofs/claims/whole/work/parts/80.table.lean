/-! pure: the class' table filled -/
section Tab2
variable {N n d : Nat} {K W F : Nat → Nat}
theorem fs25_l {i a b : Nat} {k2 : Nat → Nat → Int32 → Int32 → Mm → Option (Unit × Mm)} {k11 : Nat → Nat → Int32 → Int32 → Int32 → Mm → Option (Unit × Mm)} {mm0 : Mm} (hN : 100000 ≤ N) (hi : i < n) (ha : a < 16) (hb : b < 16) (A : AFt mm0 n d K W F i) : ∀ c x B mm, x + c = a + 1 → Fr (fun k j => k = 52 ∧ j = 3) mm0 mm → (∀ y, y < x → mnO (vlN K W F d n i a b y) b ≤ B) → (B = -1000000 ∨ ∃ y, y < x ∧ mnO (vlN K W F d n i a b y) b = B) → ∀ f, c < f → ∃ m', fX10_fillSuit_25 N k2 k11 f 52 (17 + i) (nI i) (nI a) (nI b) (iI B) (nI x) mm = k11 52 (17 + i) (nI i) (nI a) (nI (b + 1)) m' ∧ Fr (fun k j => (k = 52 ∧ j = 3) ∨ (k = 53 ∧ j = (i * 16 + a) * 16 + b)) mm m' ∧ rd m' 53 ((i * 16 + a) * 16 + b) = iI (tvN K W F d n (n - i) a b) := by
  have hn := A.1.2.1
  have hW := CS_W A.1
  have hmb : ∀ y, -200 ≤ mnO (vlN K W F d n i a b y) b ∧ mnO (vlN K W F d n i a b y) b ≤ 200 := fun y => mn_b (fun t => vl_b hW hn hi)
  intro c
  induction c with
  | zero =>
    intro x B mm hx hF h1 h2 f hf
    obtain ⟨f, rfl⟩ : ∃ g, f = g + 1 := ⟨f - 1, by omega⟩
    obtain rfl : x = a + 1 := by omega
    have hB : B = tvN K W F d n (n - i) a b := by
      rw [tv_vl hi]
      have h0 := h1 0 (by first | omega | (dsimp only; omega))
      have h0b := hmb 0
      rcases h2 with h2 | ⟨y, hy, h2⟩
      · omega
      · have z1 := mxO_le (v := fun x => mnO (vlN K W F d n i a b x) b) (B := B) a (fun t ht => h1 t (by first | omega | (dsimp only; omega)))
        have z2 := mxO_ge (v := fun x => mnO (vlN K W F d n i a b x) b) a y (by first | omega | (dsimp only; omega))
        omega
    subst hB
    refine ⟨wr mm 53 ((i * 16 + a) * 16 + b) (iI (tvN K W F d n (n - i) a b)), ?_, fr_wr Fr.rf (Or.inr ⟨rfl, rfl⟩), by rw [rd_wr_s]⟩
    unfold fX10_fillSuit_25 fX10_fillSuit_81
    simp only [LXb]
    refine st_t (nI_lt (by first | omega | (dsimp only; omega)) (by first | omega | (dsimp only; omega))) (st_b (place_e (by first | omega | (dsimp only; omega)) ha hb) (st_f (nI_pos (by first | omega | (dsimp only; omega))) (st_k rfl (by first | omega | (dsimp only; omega)) (by first | omega | (dsimp only; omega)) (st_n ?_))))
    rw [nI_1, nI_nat (by first | omega | (dsimp only; omega))]
  | succ c ih =>
    intro x B mm hx hF h1 h2 f hf
    obtain ⟨f, rfl⟩ : ∃ g, f = g + 1 := ⟨f - 1, by omega⟩
    have hBb : -1000000 ≤ B ∧ B ≤ 200 := by
      rcases h2 with h2 | ⟨y, -, h2⟩
      · omega
      · have := hmb y; omega
    obtain ⟨m1, V, p, c1, f1, -, g1⟩ := after_e (N := N) (x := x) (a := a - x) (b := b) hN hi (by first | omega | (dsimp only; omega)) hb (by first | omega | (dsimp only; omega)) (A.c (m2 := mm) (hF.mono (fun k j h => Or.inl h)))
    have hV : mnO (vlN K W F d n i a b x) b = V := g1.v
    have hVb := hmb x
    rw [hV] at hVb
    obtain ⟨m', c2, f2, g2⟩ := ih (x + 1) (if B < V then V else B) m1 (by first | omega | (dsimp only; omega)) (hF.tr f1) (fun y hy => by
      by_cases hyx : y = x
      · subst hyx; rw [hV]; split <;> omega
      · have := h1 y (by first | omega | (dsimp only; omega)); split <;> omega) (by
      by_cases hBV : B < V
      · rw [if_pos hBV]; exact Or.inr ⟨x, by omega, hV⟩
      · rw [if_neg hBV]
        rcases h2 with h2 | ⟨y, hy, h2⟩
        · omega
        · exact Or.inr ⟨y, by omega, h2⟩) f (by first | omega | (dsimp only; omega))
    refine ⟨m', ?_, (f1.mono (fun k j h => Or.inl h)).tr f2, g2⟩
    unfold fX10_fillSuit_25
    refine st_f (nI_nlt (by first | omega | (dsimp only; omega)) (by first | omega | (dsimp only; omega))) ?_
    rw [nI_sub (by first | omega | (dsimp only; omega))]
    refine st_b c1 (st_n ?_)
    have : (if iI B < iI V then iI V else iI B) = iI (if B < V then V else B) := by
      by_cases hBV : B < V
      · rw [if_pos hBV, if_pos ((iI_lt (by first | omega | (dsimp only; omega)) (by first | omega | (dsimp only; omega)) (by first | omega | (dsimp only; omega)) (by first | omega | (dsimp only; omega))).mpr hBV)]
      · rw [if_neg hBV, if_neg (fun e => hBV ((iI_lt (by first | omega | (dsimp only; omega)) (by first | omega | (dsimp only; omega)) (by first | omega | (dsimp only; omega)) (by first | omega | (dsimp only; omega))).mp e))]
    rw [this, nI_1]
    exact c2
theorem fs11_l {i a : Nat} {k2 : Nat → Nat → Int32 → Int32 → Mm → Option (Unit × Mm)} (hN : 100000 ≤ N) (hi : i < n) (ha : a < 16) : ∀ c b mm, b + c = 16 → AFt mm n d K W F i → ∀ f, c < f → ∃ m', fX10_fillSuit_11 N k2 f 52 (17 + i) (nI i) (nI a) (nI b) mm = k2 52 (17 + i) (nI i) (nI (a + 1)) m' ∧ Fr (fun k j => (k = 52 ∧ j = 3) ∨ (k = 53 ∧ (i * 16 + a) * 16 + b ≤ j ∧ j < (i * 16 + a) * 16 + 16)) mm m' ∧ ∀ q, b ≤ q → q < 16 → rd m' 53 ((i * 16 + a) * 16 + q) = iI (tvN K W F d n (n - i) a q) := by
  intro c
  induction c with
  | zero =>
    intro b mm hb A f hf
    obtain ⟨f, rfl⟩ : ∃ g, f = g + 1 := ⟨f - 1, by omega⟩
    refine ⟨mm, ?_, Fr.rf, fun q h1 h2 => by omega⟩
    unfold fX10_fillSuit_11
    exact st_t (nI_le (by first | omega | (dsimp only; omega)) (by first | omega | (dsimp only; omega))) (by rw [nI_1])
  | succ c ih =>
    intro b mm hb A f hf
    obtain ⟨f, rfl⟩ : ∃ g, f = g + 1 := ⟨f - 1, by omega⟩
    obtain ⟨m1, c1, f1, g1⟩ := fs25_l (N := N) (b := b) (k2 := k2) (k11 := fX10_fillSuit_11 N k2 f) hN hi ha (by first | omega | (dsimp only; omega)) A (a + 1) 0 (-1000000) mm (by first | omega | (dsimp only; omega)) Fr.rf (fun y hy => by omega) (Or.inl rfl) N (by first | omega | (dsimp only; omega))
    obtain ⟨m', c2, f2, g2⟩ := ih (b + 1) m1 (by first | omega | (dsimp only; omega)) (A.c (f1.mono (fun k j h => by omega))) f (by first | omega | (dsimp only; omega))
    refine ⟨m', ?_, (f1.mono (fun k j h => by omega)).tr (f2.mono (fun k j h => by omega)), fun q h1 h2 => ?_⟩
    · unfold fX10_fillSuit_11
      exact st_f (nI_ge (by first | omega | (dsimp only; omega)) (by first | omega | (dsimp only; omega))) (c1.trans c2)
    · by_cases hq : q = b
      · subst hq; rw [f2.2 _ _ (by first | omega | (dsimp only; omega))]; exact g1
      · exact g2 q (by first | omega | (dsimp only; omega)) h2
theorem fs2_l {i : Nat} (hN : 100000 ≤ N) (hi : i < n) : ∀ c a mm, a + c = 16 → AFt mm n d K W F i → ∀ f, c < f → ∃ m', fX10_fillSuit_2 N f 52 (17 + i) (nI i) (nI a) mm = some ((), m') ∧ Fr (fun k j => (k = 52 ∧ j = 3) ∨ (k = 53 ∧ (i * 16 + a) * 16 ≤ j ∧ j < i * 256 + 256)) mm m' ∧ ∀ e, a ≤ e → e < 16 → ∀ q, q < 16 → rd m' 53 ((i * 16 + e) * 16 + q) = iI (tvN K W F d n (n - i) e q) := by
  intro c
  induction c with
  | zero =>
    intro a mm ha A f hf
    obtain ⟨f, rfl⟩ : ∃ g, f = g + 1 := ⟨f - 1, by omega⟩
    refine ⟨mm, ?_, Fr.rf, fun q h1 h2 => by omega⟩
    unfold fX10_fillSuit_2
    exact st_t (nI_le (by first | omega | (dsimp only; omega)) (by first | omega | (dsimp only; omega))) rfl
  | succ c ih =>
    intro a mm ha A f hf
    obtain ⟨f, rfl⟩ : ∃ g, f = g + 1 := ⟨f - 1, by omega⟩
    obtain ⟨m1, c1, f1, g1⟩ := fs11_l (N := N) (a := a) (k2 := fX10_fillSuit_2 N f) hN hi (by first | omega | (dsimp only; omega)) 16 0 mm (by first | omega | (dsimp only; omega)) A N (by first | omega | (dsimp only; omega))
    obtain ⟨m', c2, f2, g2⟩ := ih (a + 1) m1 (by first | omega | (dsimp only; omega)) (A.c (f1.mono (fun k j h => by omega))) f (by first | omega | (dsimp only; omega))
    refine ⟨m', ?_, (f1.mono (fun k j h => by omega)).tr (f2.mono (fun k j h => by omega)), fun e h1 h2 q hq => ?_⟩
    · unfold fX10_fillSuit_2
      exact st_f (nI_ge (by first | omega | (dsimp only; omega)) (by first | omega | (dsimp only; omega))) (c1.trans c2)
    · by_cases he : e = a
      · subst he; rw [f2.2 _ _ (by first | omega | (dsimp only; omega))]; exact g1 q (by first | omega | (dsimp only; omega)) hq
      · exact g2 e (by first | omega | (dsimp only; omega)) h2 q hq
/-- cells of the table -/
def SDf (k j : Nat) : Prop := k = 53 ∨ k = 54 ∨ (k = 52 ∧ (j = 2 ∨ j = 3))
/-- the levels from i on stand -/
def LVn (mm : Mm) (n d : Nat) (K W F : Nat → Nat) (i : Nat) : Prop := ∀ q, i ≤ q → q ≤ n → ∀ a b, a < 16 → b < 16 → rd mm 53 ((q * 16 + a) * 16 + b) = iI (tvN K W F d n (n - q) a b)
theorem tfill_l (hN : 100000 ≤ N) (hd9 : d ≤ 9) : ∀ c mm, c ≤ n → CS mm n K W F → rd mm 3 6 = nI d → LVn mm n d K W F c → ∀ f, c < f → ∃ m', fX10_fill_23 N f 52 3 (nI c - 1) mm = some ((), m') ∧ Fr SDf mm m' ∧ rd m' 52 2 = 1 ∧ LVn m' n d K W F 0 := by
  intro c
  induction c with
  | zero =>
    intro mm hc C hd L f hf
    obtain ⟨f, rfl⟩ : ∃ g, f = g + 1 := ⟨f - 1, by omega⟩
    refine ⟨wr mm 52 2 1, ?_, fr_wr Fr.rf (by unfold SDf; omega), by rw [rd_wr_s], fun q h1 h2 a b ha hb => by rw [rd_wr_k (by first | omega | (dsimp only; omega))]; exact L q h1 h2 a b ha hb⟩
    unfold fX10_fill_23
    exact st_t (by decide) (st_n rfl)
  | succ c ih =>
    intro mm hc C hd L f hf
    obtain ⟨f, rfl⟩ : ∃ g, f = g + 1 := ⟨f - 1, by omega⟩
    have hn := C.2.1
    obtain ⟨m1, c1, f1, g1⟩ := cprep_e (N := N) (i := c) hN hd9 (by first | omega | (dsimp only; omega)) C
    have A : AFt m1 n d K W F c := ⟨CS_c C (fun k j h => f1.2 _ _ (by first | omega | (dsimp only; omega))), g1, fun a b ha hb => by rw [f1.2 _ _ (by first | omega | (dsimp only; omega))]; exact L (c + 1) (by first | omega | (dsimp only; omega)) (by first | omega | (dsimp only; omega)) a b ha hb⟩
    obtain ⟨m2, c2, f2, g2⟩ := fs2_l (N := N) hN (by first | omega | (dsimp only; omega)) 16 0 m1 (by first | omega | (dsimp only; omega)) A N (by first | omega | (dsimp only; omega))
    have F2 : Fr (fun k j => k = 54 ∨ (k = 52 ∧ j = 3) ∨ (k = 53 ∧ j < c * 256 + 256)) mm m2 := (f1.mono (fun k j h => Or.inl h)).tr (f2.mono (fun k j h => by omega))
    obtain ⟨m', c3, f3, g3⟩ := ih m2 (by first | omega | (dsimp only; omega)) (CS_c C (fun k j h => F2.2 _ _ (by first | omega | (dsimp only; omega)))) (by rw [F2.2 _ _ (by first | omega | (dsimp only; omega))]; exact hd) (fun q h1 h2 a b ha hb => by
      by_cases hq : q = c
      · subst hq; exact g2 a (by first | omega | (dsimp only; omega)) ha b hb
      · rw [F2.2 _ _ (by first | omega | (dsimp only; omega))]; exact L q (by first | omega | (dsimp only; omega)) h2 a b ha hb) f (by first | omega | (dsimp only; omega))
    refine ⟨m', ?_, (F2.mono (fun k j h => by unfold SDf; omega)).tr f3, g3⟩
    unfold fX10_fill_23 fX10_fill_52
    rw [nI_pred]
    refine st_f (nI_pos (by first | omega | (dsimp only; omega))) (st_b (suitOf_t C (by first | omega | (dsimp only; omega))) (st_c ?_))
    rw [hd]
    have c2' : fX10_fillSuit N 52 (17 + c) (nI c) m1 = some ((), m2) := c2
    refine st_b c1 (st_b c2' ?_)
    rw [show nI c + (-1) = nI c - 1 from (Int32.sub_eq_add_neg _ _).symm]; exact c3
theorem fill_e {mm : Mm} (hN : 100000 ≤ N) (hd9 : d ≤ 9) (C : CS mm n (uK mm) (uW mm) (uF mm)) (hd : rd mm 3 6 = nI d) (T : RTT mm) : ∃ m', fX10_fill N 52 3 mm = some ((), m') ∧ Fr SDf mm m' ∧ rd m' 52 2 = 1 ∧ LVn m' n d (uK mm) (uW mm) (uF mm) 0 := by
  have hn := C.2.1
  unfold fX10_fill
  rcases T with T | ⟨T, n', d', h1, h2, h3, h4, h5⟩
  · obtain ⟨m1, c1, f1, g1⟩ := fill_ok (N := N) (k := 53) (v := 0) (L := 1792) (mm := mm) hN rfl (by first | omega | (dsimp only; omega))
    obtain ⟨m', c2, f2, g2⟩ := tfill_l (N := N) (n := n) hN hd9 n m1 (Nat.le_refl _) (CS_c C (fun k j h => f1.2 _ _ (by first | omega | (dsimp only; omega)))) (by rw [f1.2 _ _ (by first | omega | (dsimp only; omega))]; exact hd) (fun q h1 h2 a b ha hb => by
      obtain rfl : q = n := by omega
      rw [g1 _ (by first | omega | (dsimp only; omega)), Nat.sub_self]; rfl) N (by first | omega | (dsimp only; omega))
    refine ⟨m', ?_, (f1.mono (fun k j h => Or.inl h)).tr f2, g2⟩
    simp only [LXb]
    refine st_t T (st_b c1 ?_)
    rw [f1.2 _ _ (by first | omega | (dsimp only; omega)), C.1]
    exact c2
  · obtain rfl : n' = n := nI_inj (h1.symm.trans C.1) (by first | omega | (dsimp only; omega)) (by first | omega | (dsimp only; omega))
    obtain rfl : d' = d := nI_inj (h2.symm.trans hd) (by first | omega | (dsimp only; omega)) (by first | omega | (dsimp only; omega))
    refine ⟨mm, st_f (by rw [T]; decide) rfl, Fr.rf, T, fun q _ hq a b ha hb => ?_⟩
    rw [h5 q a b hq ha hb, tvR_N]
    rfl
theorem RTT_f {mm m2 : Mm} (C : CS mm n (uK mm) (uW mm) (uF mm)) (hd : rd mm 3 6 = nI d) (hd9 : d ≤ 9) (e : ∀ k j, (17 ≤ k ∧ k ≤ 22) ∨ (k = 3 ∧ (j = 5 ∨ j = 6)) → rd m2 k j = rd mm k j) (h1 : rd m2 52 2 = 1) (L : LVn m2 n d (uK mm) (uW mm) (uF mm) 0) : RTT m2 := by
  have hn := C.2.1
  refine Or.inr ⟨h1, n, d, by rw [e _ _ (by first | omega | (dsimp only; omega))]; exact C.1, by rw [e _ _ (by first | omega | (dsimp only; omega))]; exact hd, hn, hd9, fun i a b hi ha hb => ?_⟩
  rw [L i (by first | omega | (dsimp only; omega)) hi a b ha hb, tvR_c hn (fun k j h => e k j (by first | omega | (dsimp only; omega))) _ (by first | omega | (dsimp only; omega)), tvR_N]
  rfl
end Tab2
