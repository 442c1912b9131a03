/-! pure: the model's Friday; layings held against stocks -/
section Fri
variable {N n d : Nat} {K W F x y : Nat → Nat}
theorem setW_l (hd9 : d ≤ 9) (hn6 : n ≤ 6) (hx : ∀ i, i < n → x i ≤ 1000) (hy : ∀ i, i < n → y i ≤ 1000) : ∀ m i mm, i + m = n → MS mm n K W F → rd mm 175 13 = nI d → HA mm 185 n x → HA mm 186 n y → HA mm 187 i (wn K F d x y) → ∀ f, m < f → ∃ m', fX12_setWinners_2 N f 175 (nI i) mm = some ((), m') ∧ Fr (fun k _ => k = 187) mm m' ∧ HA m' 187 n (wn K F d x y) := by
  intro m
  induction m with
  | zero =>
    intro i mm hi M hd hX hY hW f hf
    obtain ⟨f, rfl⟩ : ∃ g, f = g + 1 := ⟨f - 1, by omega⟩
    obtain rfl : i = n := by omega
    refine ⟨mm, ?_, Fr.rf, hW⟩
    unfold fX12_setWinners_2
    exact st_t (by rw [M.1]; exact nI_le (by first | omega | (dsimp only; omega)) (by first | omega | (dsimp only; omega))) rfl
  | succ m ih =>
    intro i mm hi M hd hX hY hW f hf
    obtain ⟨f, rfl⟩ : ∃ g, f = g + 1 := ⟨f - 1, by omega⟩
    have hin : i < n := by omega
    obtain ⟨-, k1, k2, k3, k4, k5, k6, k7⟩ := M.2.2 i hin
    have hwe : wn K F d x y i = wst K F d (wn K F d x y) i (x i) (y i) := wn_eq k6
    have hfr : Fr (fun k _ => k = 187) mm (wr mm 187 i (nI (wn K F d x y i))) := fr_wr Fr.rf rfl
    obtain ⟨m', h1, h2, h3⟩ := ih (i + 1) (wr mm 187 i (nI (wn K F d x y i))) (by first | omega | (dsimp only; omega)) (MS_c M (fun k j e => hfr.2 _ _ (by first | omega | (dsimp only; omega)))) (by rw [hfr.2 _ _ (by first | omega | (dsimp only; omega))]; exact hd) (hX.c (fun j hj => hfr.2 _ _ (by first | omega | (dsimp only; omega)))) (hY.c (fun j hj => hfr.2 _ _ (by first | omega | (dsimp only; omega)))) (fun j hj => by
      by_cases hji : j = i
      · subst hji; rw [rd_wr_s]
      · rw [rd_wr_j hji]; exact hW j (by first | omega | (dsimp only; omega))) f (by first | omega | (dsimp only; omega))
    refine ⟨m', ?_, hfr.tr h2, h3⟩
    unfold fX12_setWinners_2
    simp only [LXm, nI_nat (show i < 2147483648 by omega)]
    refine st_f (by rw [M.1]; exact nI_ge hin (by first | omega | (dsimp only; omega))) (st_k rfl (by first | omega | (dsimp only; omega)) (by first | omega | (dsimp only; omega)) (st_k rfl (by first | omega | (dsimp only; omega)) (by first | omega | (dsimp only; omega)) ?_))
    rw [hX i hin, hY i hin]
    refine st_b (mwinner_e M hd hd9 hin (hx i hin) (hy i hin) (fun q => ⟨hW _ (k6 q), wn_2⟩)) (st_k rfl (by first | omega | (dsimp only; omega)) (by first | omega | (dsimp only; omega)) (st_n ?_))
    rw [← hwe, nI_1]
    exact h1
theorem setW_e {mm : Mm} (hN : 100000 ≤ N) (hd9 : d ≤ 9) (hx : ∀ i, i < n → x i ≤ 1000) (hy : ∀ i, i < n → y i ≤ 1000) (M : MS mm n K W F) (hd : rd mm 175 13 = nI d) (hX : HA mm 185 n x) (hY : HA mm 186 n y) : ∃ m', fX12_setWinners N 175 mm = some ((), m') ∧ Fr (fun k _ => k = 187) mm m' ∧ HA m' 187 n (wn K F d x y) :=
  setW_l hd9 M.2.1 hx hy n 0 mm (by first | omega | (dsimp only; omega)) M hd hX hY (fun j hj => by omega) N (by have := M.2.1; omega)
theorem score_l {mm : Mm} {w : Nat → Nat} {s : Nat} (hs : s ≤ 1) (hw2 : ∀ i, i < n → w i ≤ 2) (M : MS mm n K W F) (hW : HA mm 187 n w) : ∀ m i, i + m = n → ∀ f, m < f → fX12_scoreOf_4 N f 175 (nI s) (nI (scr W s w i)) (nI i) mm = some (nI (scr W s w n), mm) := by
  have hn := M.2.1
  intro m
  induction m with
  | zero =>
    intro i hi f hf
    obtain ⟨f, rfl⟩ : ∃ g, f = g + 1 := ⟨f - 1, by omega⟩
    obtain rfl : i = n := by omega
    unfold fX12_scoreOf_4
    exact st_t (by rw [M.1]; exact nI_le (by first | omega | (dsimp only; omega)) (by first | omega | (dsimp only; omega))) rfl
  | succ m ih =>
    intro i hi f hf
    obtain ⟨f, rfl⟩ : ∃ g, f = g + 1 := ⟨f - 1, by omega⟩
    have hin : i < n := by omega
    unfold fX12_scoreOf_4
    simp only [LXm, nI_nat (show i < 2147483648 by omega)]
    refine st_f (by rw [M.1]; exact nI_ge hin (by first | omega | (dsimp only; omega))) (st_k rfl (by first | omega | (dsimp only; omega)) (by first | omega | (dsimp only; omega)) ?_)
    rw [hW i hin]
    refine st_b (mworth_e M hin hs (hw2 i hin)) ?_
    rw [nI_add, nI_1]
    exact ih (i + 1) (by first | omega | (dsimp only; omega)) f (by first | omega | (dsimp only; omega))
theorem score_e {mm : Mm} {w : Nat → Nat} {s : Nat} (hN : 100000 ≤ N) (hs : s ≤ 1) (hw2 : ∀ i, i < n → w i ≤ 2) (M : MS mm n K W F) (hW : HA mm 187 n w) : fX12_scoreOf N 175 (nI s) mm = some (nI (scr W s w n), mm) :=
  score_l hs hw2 M hW n 0 (by first | omega | (dsimp only; omega)) N (by have := M.2.1; omega)
/-- both scores together -/
theorem scr_both {w : Nat → Nat} (hw2 : ∀ i, w i ≤ 2) : ∀ n, scr W 0 w n + scr W 1 w n = 2 * smN W n
  | 0 => rfl
  | n + 1 => by
    have h1 := scr_both hw2 n
    have h2 : pts (W n) 0 (w n) + pts (W n) 1 (w n) = 2 * W n := by
      have := hw2 n
      unfold pts
      rcases (by omega : w n = 0 ∨ w n = 1 ∨ w n = 2) with h | h | h <;> rw [h] <;> simp <;> omega
    show (scr W 0 w n + pts (W n) 0 (w n)) + (scr W 1 w n + pts (W n) 1 (w n)) = 2 * (smN W n + W n)
    omega
end Fri
/-- numbers of a row -/
def lO (g : Nat → Int32) (i : Nat) : Nat := (g i).toInt.toNat
/-- each a number of sheets -/
def Wi (g : Nat → Int32) (b : Nat) (i : Nat) : Prop := 0 ≤ (g i).toInt ∧ (g i).toInt ≤ b
theorem Wi_n {g : Nat → Int32} {b i : Nat} (h : Wi g b i) : g i = nI (lO g i) ∧ lO g i ≤ b := by
  obtain ⟨h1, h2⟩ := h
  have := i_b (g i)
  unfold lO
  refine ⟨?_, by omega⟩
  rw [i_eq, nI_toInt (by first | omega | (dsimp only; omega))]
  omega
