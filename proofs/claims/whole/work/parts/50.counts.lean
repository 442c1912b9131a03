/-! pure: sums over suits; mark, count -/
def smN (f : Nat → Nat) : Nat → Nat
  | 0 => 0
  | n + 1 => smN f n + f n
theorem smN_c {f g : Nat → Nat} : ∀ n, (∀ i, i < n → f i = g i) → smN f n = smN g n
  | 0, _ => rfl
  | n + 1, h => by
    show smN f n + f n = smN g n + g n
    rw [smN_c n (fun i hi => h i (by first | omega | (dsimp only; omega))), h n (by first | omega | (dsimp only; omega))]
theorem smN_le {f : Nat → Nat} {b : Nat} : ∀ n, (∀ i, i < n → f i ≤ b) → smN f n ≤ b * n
  | 0, _ => by simp [smN]
  | n + 1, h => by
    have h1 := smN_le n (fun i hi => h i (by first | omega | (dsimp only; omega)))
    have h2 := h n (by first | omega | (dsimp only; omega))
    show smN f n + f n ≤ b * (n + 1)
    rw [Nat.mul_add]; omega
theorem smN_mono {f : Nat → Nat} {i n : Nat} (h : i ≤ n) : smN f i ≤ smN f n := by
  induction n with
  | zero => obtain rfl : i = 0 := by omega
            exact Nat.le_refl _
  | succ n ih =>
    by_cases hi : i = n + 1
    · subst hi; exact Nat.le_refl _
    · exact Nat.le_trans (ih (by first | omega | (dsimp only; omega))) (Nat.le_add_right _ _)
section Cnt
variable {N n : Nat} {K W F : Nat → Nat} {mm : Mm}
theorem worths_l (h : CS mm n K W F) : ∀ m i, i + m = n → ∀ f, m < f → fX0_worths_4 N f 3 (nI (smN W i)) (nI i) mm = some (nI (smN W n), mm) := by
  have hn := h.2.1
  intro m
  induction m with
  | zero =>
    intro i hi f hf
    obtain ⟨f, rfl⟩ : ∃ g, f = g + 1 := ⟨f - 1, by omega⟩
    obtain rfl : i = n := by omega
    unfold fX0_worths_4
    exact st_t (by rw [h.1]; exact nI_le (by first | omega | (dsimp only; omega)) (by first | omega | (dsimp only; omega))) rfl
  | succ m ih =>
    intro i hi f hf
    obtain ⟨f, rfl⟩ : ∃ g, f = g + 1 := ⟨f - 1, by omega⟩
    unfold fX0_worths_4
    simp only [LXa, nI_nat (show i < 2147483648 by omega)]
    refine st_f (by rw [h.1]; exact nI_ge (by first | omega | (dsimp only; omega)) (by first | omega | (dsimp only; omega))) (st_k rfl (by first | omega | (dsimp only; omega)) (by first | omega | (dsimp only; omega)) (st_n ?_))
    rw [(h.2.2 i (by first | omega | (dsimp only; omega))).1.2.1, nI_1, nI_add]
    exact ih (i + 1) (by first | omega | (dsimp only; omega)) f (by first | omega | (dsimp only; omega))
theorem worths_e (hN : 100000 ≤ N) (h : CS mm n K W F) : fX0_worths N 3 mm = some (nI (smN W n), mm) := worths_l h n 0 (by first | omega | (dsimp only; omega)) N (by have := h.2.1; omega)
theorem howMany_l {o : Nat} (ho : 1 ≤ o ∧ o ≤ 5) (h : CS mm n K W F) : ∀ m i, i + m = n → ∀ f, m < f → fX0_howMany_4 N f 3 (nI o) (nI (smN (fun i => isaN (K i) o) i)) (nI i) mm = some (nI (smN (fun i => isaN (K i) o) n), mm) := by
  have hn := h.2.1
  intro m
  induction m with
  | zero =>
    intro i hi f hf
    obtain ⟨f, rfl⟩ : ∃ g, f = g + 1 := ⟨f - 1, by omega⟩
    obtain rfl : i = n := by omega
    unfold fX0_howMany_4
    exact st_t (by rw [h.1]; exact nI_le (by first | omega | (dsimp only; omega)) (by first | omega | (dsimp only; omega))) rfl
  | succ m ih =>
    intro i hi f hf
    obtain ⟨f, rfl⟩ : ∃ g, f = g + 1 := ⟨f - 1, by omega⟩
    unfold fX0_howMany_4 fX0_howMany_28
    simp only [LXa, nI_nat (show i < 2147483648 by omega)]
    have hi2 := h.2.2 i (by first | omega | (dsimp only; omega))
    have ih2 := ih (i + 1) (by first | omega | (dsimp only; omega)) f (by first | omega | (dsimp only; omega))
    refine st_f (by rw [h.1]; exact nI_ge (by first | omega | (dsimp only; omega)) (by first | omega | (dsimp only; omega))) (st_k rfl (by first | omega | (dsimp only; omega)) (by first | omega | (dsimp only; omega)) (st_b (isA_e hi2.1 hi2.2.1 ho) ?_))
    rw [nI_1, nI_1]
    have hs : smN (fun i => isaN (K i) o) (i + 1) = smN (fun i => isaN (K i) o) i + isaN (K i) o := rfl
    rw [hs] at ih2
    rcases (by have := isaN_1 (K i) o; omega : isaN (K i) o = 0 ∨ isaN (K i) o = 1) with hz | hz
    · rw [hz] at ih2 ⊢; exact st_t rfl ih2
    · rw [hz] at ih2 ⊢; exact st_f (by decide) ih2
theorem howMany_e {o : Nat} (hN : 100000 ≤ N) (ho : 1 ≤ o ∧ o ≤ 5) (h : CS mm n K W F) : fX0_howMany N 3 (nI o) mm = some (nI (smN (fun i => isaN (K i) o) n), mm) := howMany_l ho h n 0 (by first | omega | (dsimp only; omega)) N (by have := h.2.1; omega)
theorem ofKind_l {o : Nat} (ho : 1 ≤ o ∧ o ≤ 5) (h : MS mm n K W F) : ∀ m i, i + m = n → ∀ f, m < f → fX12_ofKind_4 N f 175 (nI o) (nI (smN (fun i => isaN (K i) o) i)) (nI i) mm = some (nI (smN (fun i => isaN (K i) o) n), mm) := by
  have hn := h.2.1
  intro m
  induction m with
  | zero =>
    intro i hi f hf
    obtain ⟨f, rfl⟩ : ∃ g, f = g + 1 := ⟨f - 1, by omega⟩
    obtain rfl : i = n := by omega
    unfold fX12_ofKind_4
    exact st_t (by rw [h.1]; exact nI_le (by first | omega | (dsimp only; omega)) (by first | omega | (dsimp only; omega))) rfl
  | succ m ih =>
    intro i hi f hf
    obtain ⟨f, rfl⟩ : ∃ g, f = g + 1 := ⟨f - 1, by omega⟩
    unfold fX12_ofKind_4 fX12_ofKind_27
    have ih2 := ih (i + 1) (by first | omega | (dsimp only; omega)) f (by first | omega | (dsimp only; omega))
    refine st_f (by rw [h.1]; exact nI_ge (by first | omega | (dsimp only; omega)) (by first | omega | (dsimp only; omega))) (st_b (misA_e h (by first | omega | (dsimp only; omega)) ho) ?_)
    rw [nI_1]
    have hs : smN (fun i => isaN (K i) o) (i + 1) = smN (fun i => isaN (K i) o) i + isaN (K i) o := rfl
    rw [hs] at ih2
    rcases (by have := isaN_1 (K i) o; omega : isaN (K i) o = 0 ∨ isaN (K i) o = 1) with hz | hz
    · rw [hz] at ih2 ⊢; exact st_t rfl (by rw [show (0 : Int32) = nI 0 from rfl, nI_add]; exact ih2)
    · rw [hz] at ih2 ⊢; exact st_f (by decide) (by rw [nI_1]; exact ih2)
theorem ofKind_e {o : Nat} (hN : 100000 ≤ N) (ho : 1 ≤ o ∧ o ≤ 5) (h : MS mm n K W F) : fX12_ofKind N 175 (nI o) mm = some (nI (smN (fun i => isaN (K i) o) n), mm) := ofKind_l ho h n 0 (by first | omega | (dsimp only; omega)) N (by have := h.2.1; omega)
def hgN (K F : Nat → Nat) (j i : Nat) : Nat := if K i = 5 ∧ F i = j then 1 else 0
theorem hang_l {j : Nat} (hj : j < 6) (h : CS mm n K W F) : ∀ m i, i + m = n → ∀ f, m < f → fX0_hangingOn_4 N f 3 (nI j) (nI (smN (hgN K F j) i)) (nI i) mm = some (nI (smN (hgN K F j) n), mm) := by
  have hn := h.2.1
  intro m
  induction m with
  | zero =>
    intro i hi f hf
    obtain ⟨f, rfl⟩ : ∃ g, f = g + 1 := ⟨f - 1, by omega⟩
    obtain rfl : i = n := by omega
    unfold fX0_hangingOn_4
    exact st_t (by rw [h.1]; exact nI_le (by first | omega | (dsimp only; omega)) (by first | omega | (dsimp only; omega))) rfl
  | succ m ih =>
    intro i hi f hf
    obtain ⟨f, rfl⟩ : ∃ g, f = g + 1 := ⟨f - 1, by omega⟩
    unfold fX0_hangingOn_4 fX0_hangingOn_41
    simp only [LXa, nI_nat (show i < 2147483648 by omega)]
    obtain ⟨⟨u1, u2, u3⟩, k1, -, -, k4, -, k6, -⟩ := h.2.2 i (by first | omega | (dsimp only; omega))
    have ih2 := ih (i + 1) (by first | omega | (dsimp only; omega)) f (by first | omega | (dsimp only; omega))
    have hs : smN (hgN K F j) (i + 1) = smN (hgN K F j) i + hgN K F j i := rfl
    rw [hs] at ih2
    refine st_f (by rw [h.1]; exact nI_ge (by first | omega | (dsimp only; omega)) (by first | omega | (dsimp only; omega))) (st_k rfl (by first | omega | (dsimp only; omega)) (by first | omega | (dsimp only; omega)) ?_)
    rw [u1, nI_1, nI_1]
    by_cases hk : K i = 5
    · refine st_t (by rw [hk]; rfl) (st_k rfl (by first | omega | (dsimp only; omega)) (by first | omega | (dsimp only; omega)) ?_)
      have hg : gI (K i) (F i) = nI (F i) := by unfold gI; rw [if_neg (by first | omega | (dsimp only; omega))]
      rw [u3, hg]
      by_cases hf : F i = j
      · have : hgN K F j i = 1 := by unfold hgN; rw [if_pos ⟨hk, hf⟩]
        rw [this] at ih2
        exact st_t (by rw [hf]) ih2
      · have : hgN K F j i = 0 := by unfold hgN; rw [if_neg (by first | omega | (dsimp only; omega))]
        rw [this] at ih2
        exact st_f (fun q => hf (nI_inj q (by first | omega | (dsimp only; omega)) (by first | omega | (dsimp only; omega)))) ih2
    · have : hgN K F j i = 0 := by unfold hgN; rw [if_neg (by first | omega | (dsimp only; omega))]
      rw [this] at ih2
      exact st_f (fun q => hk (nI_inj (b := 5) q (by first | omega | (dsimp only; omega)) (by first | omega | (dsimp only; omega)))) ih2
theorem hang_e {j : Nat} (hN : 100000 ≤ N) (hj : j < 6) (h : CS mm n K W F) : fX0_hangingOn N 3 (nI j) mm = some (nI (smN (hgN K F j) n), mm) := hang_l hj h n 0 (by first | omega | (dsimp only; omega)) N (by have := h.2.1; omega)
/-- the model's loop of mark; behind it the switch -/
theorem mmark_l {j o : Nat} {r : Option (Int32 × Mm)} (hj : j < n) (h : MS mm n K W F) (hr : ∀ f, fX12_mark_39 N (f + 1) 175 (nI j) (nI o) (nI (smN (hgN K F j) n)) (nI n) mm = r) : ∀ m i, i + m = n → ∀ f, m < f → fX12_mark_39 N f 175 (nI j) (nI o) (nI (smN (hgN K F j) i)) (nI i) mm = r := by
  have hn := h.2.1
  intro m
  induction m with
  | zero =>
    intro i hi f hf
    obtain ⟨f, rfl⟩ : ∃ g, f = g + 1 := ⟨f - 1, by omega⟩
    obtain rfl : i = n := by omega
    exact hr f
  | succ m ih =>
    intro i hi f hf
    obtain ⟨f, rfl⟩ : ∃ g, f = g + 1 := ⟨f - 1, by omega⟩
    unfold fX12_mark_39 fX12_mark_76 fX12_mark_75 fX12_mark_76
    obtain ⟨-, k1, -, -, k4, -, k6, -⟩ := h.2.2 i (by first | omega | (dsimp only; omega))
    have ih2 := ih (i + 1) (by first | omega | (dsimp only; omega)) f (by first | omega | (dsimp only; omega))
    have hs : smN (hgN K F j) (i + 1) = smN (hgN K F j) i + hgN K F j i := rfl
    rw [hs] at ih2
    refine st_f (by rw [h.1]; exact nI_ge (by first | omega | (dsimp only; omega)) (by first | omega | (dsimp only; omega))) (st_b (of_0 h (by first | omega | (dsimp only; omega))) ?_)
    simp only [nI_1]
    by_cases hk : K i = 5
    · refine st_t (by rw [hk]; rfl) (st_b (of_2 h (by first | omega | (dsimp only; omega))) ?_)
      have hg : gI (K i) (F i) = nI (F i) := by unfold gI; rw [if_neg (by first | omega | (dsimp only; omega))]
      rw [hg]
      by_cases hf : F i = j
      · have : hgN K F j i = 1 := by unfold hgN; rw [if_pos ⟨hk, hf⟩]
        rw [this] at ih2
        exact st_t (by rw [hf]) ih2
      · have : hgN K F j i = 0 := by unfold hgN; rw [if_neg (by first | omega | (dsimp only; omega))]
        rw [this] at ih2
        exact st_f (fun q => hf (nI_inj q (by first | omega | (dsimp only; omega)) (by first | omega | (dsimp only; omega)))) (by rw [show (0 : Int32) = nI 0 from rfl, nI_add]; exact ih2)
    · have : hgN K F j i = 0 := by unfold hgN; rw [if_neg (by first | omega | (dsimp only; omega))]
      rw [this] at ih2
      exact st_f (fun q => hk (nI_inj (b := 5) q (by first | omega | (dsimp only; omega)) (by first | omega | (dsimp only; omega)))) (by rw [show (0 : Int32) = nI 0 from rfl, nI_add]; exact ih2)
end Cnt
theorem ok_11 {N : Nat} (hN : 100000 ≤ N) : OK_11 N Rel := by
  intro a1 a2 mm h
  obtain ⟨n, g3, g4, -⟩ := h.2.2.1
  obtain ⟨C, M⟩ := RS_CS g3
  have hn := C.2.1
  obtain ⟨d, hd9, hd⟩ := g4.2.2.1
  have hdc : rd mm 3 6 = nI d := g4.2.1.trans hd
  have hs0 : rd mm 5 0 = rd mm 183 0 := (g4.1 0 (by first | omega | (dsimp only; omega))).1
  have hs1 : rd mm 5 1 = rd mm 183 1 := (g4.1 1 (by first | omega | (dsimp only; omega))).1
  rcases rng a1 n with ⟨i, hi, -, rfl⟩ | hb
  rotate_left
  · refine ⟨-1, mm, mm, ?_, ?_, h⟩
    · unfold fX11_mark
      exact st_b (suitOf_n C hb) (st_c0 rfl)
    · unfold fX12_mark
      exact st_b (isSuit_n M hb) (st_t rfl rfl)
  by_cases h0 : a2 < 1
  · refine ⟨-1, mm, mm, ?_, ?_, h⟩
    · unfold fX11_mark
      exact st_b (suitOf_t C hi) (st_c (st_t h0 rfl))
    · unfold fX12_mark
      exact st_b (isSuit_t M hi) (st_f (by decide) (st_b (in_f (Or.inl h0)) (st_t rfl rfl)))
  rcases rng a2 6 with ⟨o, ho, -, rfl⟩ | hb2
  rotate_left
  · rcases hb2 with hb2 | ⟨j, h1, h2, rfl⟩
    · exact absurd (by rw [i_lt] at hb2 ⊢; have : (1 : Int32).toInt = 1 := rfl; have : (0 : Int32).toInt = 0 := rfl; omega) h0
    · refine ⟨-1, mm, mm, ?_, ?_, h⟩
      · unfold fX11_mark
        exact st_b (suitOf_t C hi) (st_c (st_f h0 (st_f (nI_ge (by first | omega | (dsimp only; omega)) h2) rfl)))
      · unfold fX12_mark
        exact st_b (isSuit_t M hi) (st_f (by decide) (st_b (in_f (Or.inr (nI_lt (by first | omega | (dsimp only; omega)) h2))) (st_t rfl rfl)))
  have ho1 : 1 ≤ o := by
    rcases Nat.eq_zero_or_pos o with hz | hz
    · subst hz; exact absurd (by decide) h0
    · exact hz
  obtain ⟨u, k1, k2, k3, k4, k5, k6, k7⟩ := C.2.2 i hi
  rcases (by have := isaN_1 (uK mm i) o; omega : isaN (uK mm i) o = 0 ∨ isaN (uK mm i) o = 1) with hz | hz
  · refine ⟨-3, cRef 3 mm, mMeet 3 (cRef 3 mm), ?_, ?_, rel_ref h (f := 3) (by first | omega | (dsimp only; omega))⟩
    · unfold fX11_mark
      refine st_b (suitOf_t C hi) (st_c (st_f h0 (st_t (nI_le (by first | omega | (dsimp only; omega)) (by first | omega | (dsimp only; omega))) (st_b (isA_e u k1 (by first | omega | (dsimp only; omega))) ?_))))
      rw [hz]
      exact st_t rfl (st_b (c_ref 3 rfl (by first | omega | (dsimp only; omega))) rfl)
    · unfold fX12_mark
      have M2 : MS (cRef 3 mm) n (uK mm) (uW mm) (uF mm) := MS_c M (fun k j e => rd_cRef (by first | omega | (dsimp only; omega)) (by first | omega | (dsimp only; omega)))
      refine st_b (isSuit_t M2 hi) (st_f (by decide) (st_b (in_t h0 (nI_nlt (by first | omega | (dsimp only; omega)) (by first | omega | (dsimp only; omega)))) (st_f (by decide) (st_b (misA_e M2 hi (by first | omega | (dsimp only; omega))) ?_))))
      rw [hz]
      exact st_t rfl (st_b (m_meet 3 rfl (by first | omega | (dsimp only; omega))) rfl)
  · have cm : ∀ (v : Int32), (∀ f, fX12_mark_39 N (f + 1) 175 (nI i) (nI o) (nI (smN (hgN (uK mm) (uF mm) i) n)) (nI n) mm = some (v, mm)) → fX12_mark N 175 (nI i) (nI o) mm = some (v, mm) := by
      intro v hv
      unfold fX12_mark
      refine st_b (isSuit_t M hi) (st_f (by decide) (st_b (in_t h0 (nI_nlt (by first | omega | (dsimp only; omega)) (by first | omega | (dsimp only; omega)))) (st_f (by decide) (st_b (misA_e M hi (by first | omega | (dsimp only; omega))) ?_))))
      rw [hz]
      exact st_f (by decide) (mmark_l hi M hv n 0 (by first | omega | (dsimp only; omega)) N (by first | omega | (dsimp only; omega)))
    have hle : rd mm 175 10 ≤ nI n := by rw [M.1]; exact nI_le (Nat.le_refl _) (by first | omega | (dsimp only; omega))
    have hkk : isaN (uK mm i) o = 1 → uK mm i = o ∨ (o = 1 ∧ uK mm i = 5) ∨ (o = 3 ∧ uK mm i = 4) := by unfold isaN; split <;> simp_all
    have hkk := hkk hz
    have cc : ∀ (v : Int32), (if nI o = 1 then (bd2 (fX0_howMany N 3 1 mm) fun x13 m14 => some (x13, m14)) else if nI o = 2 then (bd2 (fX9_winner N (17 + i) 0 0 mm) fun x17 m18 => bd2 (fX9_points N (17 + i) 0 x17 m18) fun x20 m21 => some (x20, m21)) else if nI o = 3 then (bd2 (fX9_extra N (17 + i) (rd mm 3 6) 0 mm) fun x24 m25 => some (x24, m25)) else if nI o = 4 then (gd (inb 0 (ln 5)) <| gd (inb 1 (ln 5)) <| nm (if (rd mm 5 ((0 : Int32).toNatClampNeg)) < (rd mm 5 ((1 : Int32).toNatClampNeg)) then (rd mm 5 ((1 : Int32).toNatClampNeg)) else (rd mm 5 ((0 : Int32).toNatClampNeg))) fun x30 => bd2 (fX9_pilesOf N (17 + i) x30 mm) fun x31 m32 => some (x31, m32)) else (bd2 (fX0_hangingOn N 3 (nI i) mm) fun x34 m35 => some (x34, m35))) = some (v, mm) → fX11_mark N 0 (nI i) (nI o) mm = some (v, mm) := by
      intro v hv
      unfold fX11_mark
      refine st_b (suitOf_t C hi) (st_c (st_f h0 (st_t (nI_le (by first | omega | (dsimp only; omega)) (by first | omega | (dsimp only; omega))) (st_b (isA_e u k1 (by first | omega | (dsimp only; omega))) ?_))))
      rw [hz]
      exact st_f (by decide) hv
    rcases (by omega : o = 1 ∨ o = 2 ∨ o = 3 ∨ o = 4 ∨ o = 5) with rfl | rfl | rfl | rfl | rfl
    · refine ⟨nI (smN (fun i => isaN (uK mm i) 1) n), mm, mm, cc _ ?_, cm _ (fun f => ?_), h⟩
      · exact st_t rfl (st_b (howMany_e (o := 1) hN (by first | omega | (dsimp only; omega)) C) rfl)
      · unfold fX12_mark_39
        exact st_t hle (st_t rfl (st_b (ofKind_e (o := 1) hN (by first | omega | (dsimp only; omega)) M) rfl))
    · have hk : uK mm i = 2 := by omega
      refine ⟨nI (uW mm i), mm, mm, cc _ ?_, cm _ (fun f => ?_), h⟩
      · refine st_f (by decide) (st_t rfl (st_b (winner_e (a := 0) (b := 0) u k1 (by first | omega | (dsimp only; omega)) (by first | omega | (dsimp only; omega))) ?_))
        have hw : wnr (uK mm i) 0 0 = 2 := by rw [hk]; rfl
        rw [hw]
        refine st_b (points_e (s := 0) (e := 2) u (by first | omega | (dsimp only; omega)) (by first | omega | (dsimp only; omega))) ?_
        rfl
      · unfold fX12_mark_39
        exact st_t hle (st_f (by decide) (st_t rfl (st_b (of_1 M hi) rfl)))
    · have hg : gI (uK mm i) (uF mm i) = nI (uF mm i) := by unfold gI; rw [if_neg (by first | omega | (dsimp only; omega))]
      refine ⟨nI (uF mm i * d), mm, mm, cc _ ?_, cm _ (fun f => ?_), h⟩
      · refine st_f (by decide) (st_f (by decide) (st_t rfl ?_))
        rw [hdc]
        refine st_b (extra_e (b := 0) u k1 (by first | omega | (dsimp only; omega))) ?_
        unfold exN
        rw [if_pos (by first | omega | (dsimp only; omega))]
      · unfold fX12_mark_39
        refine st_t hle (st_f (by decide) (st_f (by decide) (st_t rfl (st_b (of_2 M hi) ?_))))
        rw [hd, hg, nI_mul]
    · have hk : uK mm i = 4 := by omega
      have hg : gI (uK mm i) (uF mm i) = nI (uF mm i) := by unfold gI; rw [if_neg (by first | omega | (dsimp only; omega))]
      have hF : 1 ≤ uF mm i := k5 (by first | omega | (dsimp only; omega))
      have hnz : nz (nI (uF mm i)) = true := by
        unfold nz; rw [decide_eq_true_eq]; exact nI_ne0 hF (by first | omega | (dsimp only; omega))
      refine ⟨(if rd mm 5 0 < rd mm 5 1 then rd mm 5 1 else rd mm 5 0) / nI (uF mm i), mm, mm, cc _ ?_, cm _ (fun f => ?_), h⟩
      · refine st_f (by decide) (st_f (by decide) (st_f (by decide) (st_t rfl (st_g (by decide) (st_g (by decide) (st_n ?_))))))
        unfold fX9_pilesOf
        rw [u.2.2, hg]
        exact st_b (st_f (nI_nle hF (by first | omega | (dsimp only; omega))) (st_g hnz rfl)) rfl
      · unfold fX12_mark_39 fX12_mark_171
        refine st_t hle (st_f (by decide) (st_f (by decide) (st_f (by decide) (st_t rfl (st_g (by decide) (st_g (by decide) ?_))))))
        simp only [LXm]
        rw [show ((0 : Int32).toNatClampNeg) = 0 from rfl, show ((1 : Int32).toNatClampNeg) = 1 from rfl, ← hs0, ← hs1]
        by_cases hc : rd mm 5 0 ≤ rd mm 5 1
        · refine st_t hc (st_g (by decide) (st_b (of_2 M hi) ?_))
          rw [hg]
          refine st_g hnz ?_
          by_cases hc2 : rd mm 5 0 < rd mm 5 1
          · rw [if_pos hc2]
          · rw [if_neg hc2]
            have : rd mm 5 0 = rd mm 5 1 := by rw [i_eq]; rw [i_le] at hc; rw [i_lt] at hc2; omega
            rw [this]
        · refine st_f hc (st_g (by decide) (st_b (of_2 M hi) ?_))
          rw [hg]
          refine st_g hnz ?_
          rw [if_neg (by rw [i_lt]; rw [i_le] at hc; omega)]
    · refine ⟨nI (smN (hgN (uK mm) (uF mm) i) n), mm, mm, cc _ ?_, cm _ (fun f => ?_), h⟩
      · exact st_f (by decide) (st_f (by decide) (st_f (by decide) (st_f (by decide) (st_b (hang_e hN (by first | omega | (dsimp only; omega)) C) rfl))))
      · unfold fX12_mark_39
        exact st_t hle (st_f (by decide) (st_f (by decide) (st_f (by decide) (st_f (by decide) rfl))))
