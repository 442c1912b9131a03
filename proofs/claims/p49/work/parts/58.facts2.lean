/-! days, rules that fit, what tells them apart; the law's invariant -/
section Wn
variable {n d s t : Nat} {K W F x y : Nat → Nat}
theorem wh_l {S : Nat → Nat} (h8 : ∀ e, S e ≤ 108) : ∀ c d D, D < d → d + c ≤ 20 → (∀ e, e < d → S e ≤ S D) → ∃ D', D' < d + c ∧ whN S c d (nI D, nI (S D)) = (nI D', nI (S D')) ∧ ∀ e, e < d + c → S e ≤ S D'
  | 0, d, D, hD, hc, h => ⟨D, hD, rfl, h⟩
  | c + 1, d, D, hD, hc, h => by
    have h1 := h8 d
    have h2 := h8 D
    by_cases hle : S d ≤ S D
    · obtain ⟨D', g1, g2, g3⟩ := wh_l h8 c (d + 1) D (by first | omega | (dsimp only; omega)) (by first | omega | (dsimp only; omega)) (fun e he => by
        by_cases hed : e = d
        · rw [hed]; exact hle
        · exact h e (by first | omega | (dsimp only; omega)))
      refine ⟨D', by omega, ?_, fun e he => g3 e (by first | omega | (dsimp only; omega))⟩
      show whN S c (d + 1) (if nI (S d) ≤ nI (S D) then (nI D, nI (S D)) else (nI d, nI (S d))) = _
      rw [if_pos (nI_le hle (by first | omega | (dsimp only; omega)))]
      exact g2
    · obtain ⟨D', g1, g2, g3⟩ := wh_l h8 c (d + 1) d (by first | omega | (dsimp only; omega)) (by first | omega | (dsimp only; omega)) (fun e he => by
        by_cases hed : e = d
        · rw [hed]; exact Nat.le_refl _
        · have := h e (by first | omega | (dsimp only; omega)); first | omega | (dsimp only; omega))
      refine ⟨D', by omega, ?_, fun e he => g3 e (by first | omega | (dsimp only; omega))⟩
      show whN S c (d + 1) (if nI (S d) ≤ nI (S D) then (nI D, nI (S D)) else (nI d, nI (S d))) = _
      rw [if_neg (nI_ge (by first | omega | (dsimp only; omega)) (by first | omega | (dsimp only; omega)))]
      exact g2
theorem scD_b {b : Lf} (hb : (lvA K W F d y 0 s n).foldl (bst n) none = some b) : scD n s K W F y d = b.1 := by
  have e : scD n s K W F y d = scB ((lvA K W F d y 0 s n).foldl (bst n) none) := rfl
  rw [e, hb]
  rfl
theorem scD_8 (h : SuN n K W F) (e : Nat) : scD n s K W F y e ≤ 108 := by
  obtain ⟨b, b1, b2, -⟩ := bst_x (n := n) (K := K) (W := W) (F := F) (z := y) (d := e) (s := s)
  rw [scD_b b1, (best_own h b2).1]
  exact scr_b h.w (by have := h.2.1; first | omega | (dsimp only; omega))
theorem whP_e (h : SuN n K W F) : ∃ D, D ≤ 9 ∧ whP K W F n s y = (nI D, nI (scD n s K W F y D)) ∧ ∀ e, e ≤ 9 → scD n s K W F y e ≤ scD n s K W F y D := by
  have h8 := scD_8 (s := s) (y := y) h
  obtain ⟨D, d1, d2, d3⟩ := wh_l h8 9 1 0 (by first | omega | (dsimp only; omega)) (by first | omega | (dsimp only; omega)) (fun e he => by
    obtain rfl : e = 0 := by omega
    exact Nat.le_refl _)
  refine ⟨D, by omega, ?_, fun e he => d3 e (by first | omega | (dsimp only; omega))⟩
  show whN (scD n s K W F y) 9 1 (if nI (scD n s K W F y 0) ≤ -1 then (0, -1) else (nI 0, nI (scD n s K W F y 0))) = _
  have h0 := h8 0
  rw [if_neg (by
    rw [i_le, nI_toInt (by first | omega | (dsimp only; omega))]
    have : (-1 : Int32).toInt = -1 := rfl
    omega)]
  exact d2
-- rules
theorem mkN_bit {f : Nat → Bool} : ∀ m i, i < m → (mkN f m / 2 ^ i % 2 = 1 ↔ f i = true)
  | 0, i, h => absurd h (by first | omega | (dsimp only; omega))
  | m + 1, i, h => by
    have e : mkN f (m + 1) = mkN f m + (if f m = true then 2 ^ m else 0) := rfl
    have hlt := mkN_lt (f := f) m
    rw [e]
    by_cases him : i = m
    · subst him
      by_cases hf : f i = true
      · rw [if_pos hf]
        have : (mkN f i + 2 ^ i) / 2 ^ i = 1 := by
          rw [Nat.add_div_right _ (Nat.pos_of_ne_zero (by first | omega | (dsimp only; omega))), Nat.div_eq_of_lt hlt]
        rw [this]
        exact ⟨fun _ => hf, fun _ => rfl⟩
      · rw [if_neg hf, Nat.add_zero, Nat.div_eq_of_lt hlt]
        exact ⟨fun q => by omega, fun q => absurd q hf⟩
    · have hi : i < m := by omega
      rw [← mkN_bit m i hi]
      by_cases hf : f m = true
      · rw [if_pos hf]
        have hp : 2 ^ m = 2 ^ (m - i - 1) * 2 * 2 ^ i := by
          rw [← Nat.pow_succ, ← Nat.pow_add]
          congr 1
          omega
        rw [hp, Nat.add_mul_div_right _ _ (Nat.two_pow_pos i), Nat.add_mul_mod_self_right]
      · rw [if_neg hf, Nat.add_zero]
theorem uNk_pos {bit : Nat → Bool} {same : Nat → Nat → Bool} : ∀ m, (∃ o, o < m ∧ bit o = true) → 1 ≤ uNk bit same m
  | 0, h => by obtain ⟨o, h1, -⟩ := h; omega
  | m + 1, h => by
    rw [uNk_S]
    by_cases hx : ∃ o, o < m ∧ bit o = true
    · have := uNk_pos (same := same) m hx
      omega
    · obtain ⟨o, h1, h2⟩ := h
      have hom : o = m := by
        by_cases q : o = m
        · exact q
        · exact absurd ⟨o, by omega, h2⟩ hx
      have : nwB bit same m = true := nwB_t.mpr ⟨by rw [← hom]; exact h2, fun a ha q => hx ⟨a, ha, q.1⟩⟩
      rw [if_pos this]
      omega
/-- rule o has fitted all notes so far -/
def FT (n d t en o : Nat) (K W F : Nat → Nat) (Y : Nat → Nat → Nat) (Z : Nat → Nat) : Prop := ∀ k, k < en → ftB K W F n d t Y Z o k = true
theorem FT_up {en o : Nat} {Y : Nat → Nat → Nat} {Z : Nat → Nat} (h : FT n d t en o K W F Y Z) : FT n d t (en + 1) o K W F (fun k => if k = en then x else Y k) (fun k => if k = en then wsN (wn K F d x (rlA W n t Y en o)) n else Z k) := by
  intro k hk
  have hy : ∀ k, k ≤ en → yN (fun k => if k = en then x else Y k) k = yN Y k := fun k hk => funext fun j => by
    unfold yN
    by_cases h0 : k = 0
    · rw [if_pos h0, if_pos h0]
    · rw [if_neg h0, if_neg h0]
      show (if k - 1 = en then x else Y (k - 1)) j = Y (k - 1) j
      rw [if_neg (by first | omega | (dsimp only; omega))]
  unfold ftB
  rw [hy k (by first | omega | (dsimp only; omega))]
  dsimp only
  refine decide_eq_true ?_
  by_cases hke : k = en
  · simp only [if_pos hke]
    rw [hke]
  · simp only [if_neg hke]
    have := h k (by first | omega | (dsimp only; omega))
    unfold ftB at this
    exact of_decide_eq_true this
theorem FT_bit {en o : Nat} {Y : Nat → Nat → Nat} {Z : Nat → Nat} (ho : o < 6) (h : FT n d t en o K W F Y Z) : mkA K W F n d t en Y Z / 2 ^ o % 2 = 1 := by
  refine (mkN_bit 6 o ho).mpr ?_
  unfold fitB
  exact (alB_t en 0).mpr (fun a _ h2 => h a (by first | omega | (dsimp only; omega)))
/-- the first rule that fits -/
theorem FT_first {en o : Nat} {Y : Nat → Nat → Nat} {Z : Nat → Nat} (ho : o < 6) (h : FT n d t en o K W F Y Z) : ∃ q, q < 6 ∧ q ≤ o ∧ mkA K W F n d t en Y Z / 2 ^ q % 2 = 1 ∧ ∀ j, j < q → mkA K W F n d t en Y Z / 2 ^ j % 2 = 0 := by
  have hb := FT_bit ho h
  have h64 : mkA K W F n d t en Y Z < 64 := mkN_64
  obtain ⟨q, q1, q2, q3⟩ := first_6 h64 (fun e => by rw [e, Nat.zero_div] at hb; first | omega | (dsimp only; omega))
  refine ⟨q, q1, ?_, q2, q3⟩
  by_cases hlt : o < q
  · have := q3 o hlt; omega
  · omega
theorem tell_b {en o : Nat} {Y : Nat → Nat → Nat} {Z : Nat → Nat} (hs : s ≤ 8) (hn : n ≤ 4) (ho : o < 6) (h : FT n d t en o K W F Y Z) : ∃ p, tlP K W F n d s t en Y Z = some p ∧ 1 ≤ p.1 ∧ p.1 ≤ 6 := by
  obtain ⟨p, p1, p2, p3, -⟩ := sf_all (su := suN K F n d (mkA K W F n d t en Y Z) (fun o => rlA W n t Y en o)) (xs := enA n s) enm_ne
  refine ⟨p, p1, ?_, ?_⟩
  · rw [← p3]
    exact uNk_pos 6 ⟨o, ho, decide_eq_true (FT_bit ho h)⟩
  · rw [← p3]
    exact suN_6
end Wn
/-- cells that stay through the checks -/
def Pt (k j : Nat) : Prop := (3 ≤ k ∧ k ≤ 22) ∨ (k = 97 ∧ j = 1) ∨ k = 98 ∨ (k = 175 ∧ j = 18) ∨ (k = 115 ∧ (j = 7 ∨ j = 8)) ∨ k = 118
/-- the scales' first sums, the table -/
def Pa (k j : Nat) : Prop := (j = 0 ∧ (k = 32 ∨ k = 46 ∨ k = 50 ∨ k = 60 ∨ k = 73 ∨ k = 77 ∨ k = 81 ∨ k = 85 ∨ k = 89 ∨ k = 93)) ∨ k = 53 ∨ (k = 52 ∧ j = 2)
/-- what stands through the law -/
def LI (mm : Mm) (n d s t : Nat) (K W F len y : Nat → Nat) : Prop := KD mm n d s t K W F len ∧ RA mm ∧ RTT mm ∧ RX mm 1 n t y ∧ rd mm 175 18 = nI s ∧ KP mm ∧ rd mm 3 7 = 0
section Li
variable {n d s t : Nat} {K W F len y : Nat → Nat} {mm m2 : Mm} {S : Nat → Nat → Prop}
theorem LI.st (h : LI mm n d s t K W F len y) (f : Fi S mm m2) (hS : ∀ k j, S k j → ¬ Pt k j) (hA : RA m2) (hT : RTT m2) : LI m2 n d s t K W F len y := by
  have e : ∀ k j, Pt k j → rd m2 k j = rd mm k j := fun k j hp => f k j (fun q => hS k j q hp)
  unfold Pt at e
  obtain ⟨h1, h2, h3, h4, h5, h6, h7⟩ := h
  exact ⟨h1.c (fun k j q => e _ _ (by first | omega | (dsimp only; omega))), hA, hT, h4.c (fun k j q => e _ _ (by first | omega | (dsimp only; omega))), by rw [e _ _ (by first | omega | (dsimp only; omega))]; exact h5, h6.c (fun k j q => e _ _ (by first | omega | (dsimp only; omega))), by rw [e _ _ (by first | omega | (dsimp only; omega))]; exact h7⟩
theorem LI.tt (h : LI mm n d s t K W F len y) (f : Fi S mm m2) (hS : ∀ k j, S k j → ¬ Pt k j ∧ ¬ (k = 53 ∨ (k = 52 ∧ j = 2))) (hA : RA m2) : LI m2 n d s t K W F len y := by
  refine h.st f (fun k j q => (hS k j q).1) hA (RTT_c h.2.2.1 (fun k j e => f k j (fun q => ?_)))
  have := hS k j q
  unfold Pt at this
  omega
theorem LI.fr (h : LI mm n d s t K W F len y) (f : Fi S mm m2) (hS : ∀ k j, S k j → ¬ Pt k j ∧ ¬ Pa k j) : LI m2 n d s t K W F len y := by
  refine h.tt f (fun k j q => ⟨(hS k j q).1, fun w => (hS k j q).2 (Or.inr w)⟩) (RA_c h.2.1 (fun k e => f k 0 (fun q => (hS k 0 q).2 (Or.inl ⟨rfl, e⟩))))
end Li
