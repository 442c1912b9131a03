/-! pure: rule -/
def yN (Y : Nat → Nat → Nat) (k j : Nat) : Nat := if k = 0 then 0 else Y (k - 1) j
/-- the notes of both -/
def NTs (mm : Mm) (n en : Nat) (Y : Nat → Nat → Nat) (Z : Nat → Nat) : Prop := en ≤ 8 ∧ rd mm 3 7 = nI en ∧ rd mm 175 37 = nI en ∧ ∀ k, k < en → HA mm (8 + k) n (Y k) ∧ (∀ i, i < n → rd mm 193 (7 * k + i) = nI (Y k i)) ∧ (∀ i, i < n → Y k i ≤ 40) ∧ rd mm 16 k = nI (Z k) ∧ rd mm 193 (7 * k + 6) = nI (Z k) ∧ Z k < 2 ^ n
theorem NTs.c {mm m2 : Mm} {n en : Nat} {Y : Nat → Nat → Nat} {Z : Nat → Nat} (h : NTs mm n en Y Z) (e : ∀ k j, (8 ≤ k ∧ k ≤ 16) ∨ (k = 3 ∧ j = 7) ∨ k = 193 ∨ (k = 175 ∧ j = 37) → rd m2 k j = rd mm k j) : NTs m2 n en Y Z := by
  obtain ⟨h1, h2, h3, h4⟩ := h
  refine ⟨h1, by rw [e _ _ (by first | omega | (dsimp only; omega))]; exact h2, by rw [e _ _ (by first | omega | (dsimp only; omega))]; exact h3, fun k hk => ?_⟩
  obtain ⟨a1, a2, a3, a4, a5, a6⟩ := h4 k hk
  exact ⟨a1.c (fun i _ => e _ _ (by first | omega | (dsimp only; omega))), fun i hi => by rw [e _ _ (by first | omega | (dsimp only; omega))]; exact a2 i hi, a3, by rw [e _ _ (by first | omega | (dsimp only; omega))]; exact a4, by rw [e _ _ (by first | omega | (dsimp only; omega))]; exact a5, a6⟩
theorem NTs.yc {mm : Mm} {n en k : Nat} {Y : Nat → Nat → Nat} {Z : Nat → Nat} (h : NTs mm n en Y Z) (hk : k ≤ en) : YC mm n k (yN Y k) ∧ YM mm n k (yN Y k) := by
  obtain ⟨h1, h2, h3, h4⟩ := h
  by_cases h0 : k = 0
  · exact ⟨Or.inl ⟨h0, fun j => by unfold yN; rw [if_pos h0]⟩, Or.inl ⟨h0, fun j => by unfold yN; rw [if_pos h0]⟩⟩
  · obtain ⟨a1, a2, a3, -⟩ := h4 (k - 1) (by first | omega | (dsimp only; omega))
    have e : yN Y k = Y (k - 1) := funext fun j => by unfold yN; rw [if_neg h0]
    rw [e]
    exact ⟨Or.inr ⟨by omega, by omega, a1, a3⟩, Or.inr ⟨by omega, by omega, a2, a3⟩⟩
theorem Rel_notes {mm : Mm} {n : Nat} (h : Rel mm) (hs : rd mm 3 5 = nI n) (hn : n ≤ 6) : ∃ en Y Z, NTs mm n en Y Z := by
  obtain ⟨n', g3, g4, -⟩ := h.2.2.1
  obtain rfl : n' = n := nI_inj (g3.2.1.symm.trans hs) (by have := g3.1; omega) (by first | omega | (dsimp only; omega))
  obtain ⟨-, -, -, -, a5, en, a6, a7, a8⟩ := g4
  refine ⟨en, fun k i => (rd mm 193 (7 * k + i)).toInt.toNat, fun k => (rd mm 193 (7 * k + 6)).toInt.toNat, a6, a5.trans a7, a7, fun k hk => ?_⟩
  obtain ⟨b1, b2, w, hw, b3⟩ := a8 k hk
  dsimp only at b1 b2 b3
  have hp := pw_n n' (by first | omega | (dsimp only; omega))
  have hv : ∀ i, i < n' → ∃ v : Nat, v ≤ 40 ∧ rd mm 193 (7 * k + i) = nI v ∧ (rd mm 193 (7 * k + i)).toInt.toNat = v := fun i hi => by
    obtain ⟨v, hv, e⟩ := (b1 i hi).2
    exact ⟨v, hv, e, by rw [e, nI_toInt (by first | omega | (dsimp only; omega))]; omega⟩
  have hw2 : (rd mm 193 (7 * k + 6)).toInt.toNat = w := by rw [b3, nI_toInt (by first | omega | (dsimp only; omega))]; omega
  refine ⟨fun i hi => ?_, fun i hi => ?_, fun i hi => ?_, ?_, ?_, ?_⟩
  · obtain ⟨v, -, e1, e2⟩ := hv i hi
    dsimp only
    rw [e2, ← e1]
    exact (b1 i hi).1
  · obtain ⟨v, -, e1, e2⟩ := hv i hi
    dsimp only
    rw [e2, ← e1]
  · obtain ⟨v, h40, e1, e2⟩ := hv i hi
    dsimp only
    rw [e2]; exact h40
  · dsimp only
    rw [hw2, ← b3]; exact b2
  · dsimp only
    rw [hw2, ← b3]
  · dsimp only
    rw [hw2]; exact hw
theorem sL_32 {g : Nat → Int32} {x : Nat → Nat} : ∀ n, (∀ i, i < n → g i = nI (x i)) → (sL g n).toInt32 = nI (smN x n)
  | 0, _ => rfl
  | n + 1, h => by
    show (sL g n + (g n).toInt64).toInt32 = nI (smN x n + x n)
    rw [Int64.toInt32_add, sL_32 n (fun i hi => h i (by first | omega | (dsimp only; omega))), Int32.toInt32_toInt64, h n (by first | omega | (dsimp only; omega)), nI_add]
theorem mrule_l {N r n : Nat} {K W F x : Nat → Nat} (hr : r < 6) : ∀ c i mm, i + c = n → MS mm n K W F → HA mm 186 n x → (∀ j, j < i → rd mm 178 (40 * r + j) = nI (x j)) → ∀ f, c < f → ∃ m', fX12_rule_55 N f 175 (nI r) (nI (smN x i)) (nI i) mm = some (nI (smN x n), m') ∧ Fr (fun k j => k = 178 ∧ 40 * r ≤ j ∧ j < 40 * r + 40) mm m' ∧ ∀ j, j < n → rd m' 178 (40 * r + j) = nI (x j) := by
  intro c
  induction c with
  | zero =>
    intro i mm hi M H hd f hf
    obtain ⟨f, rfl⟩ : ∃ g, f = g + 1 := ⟨f - 1, by omega⟩
    obtain rfl : i = n := by omega
    have hn := M.2.1
    refine ⟨mm, ?_, Fr.rf, hd⟩
    unfold fX12_rule_55
    exact st_t (by rw [M.1]; exact nI_le (by first | omega | (dsimp only; omega)) (by first | omega | (dsimp only; omega))) rfl
  | succ c ih =>
    intro i mm hi M H hd f hf
    obtain ⟨f, rfl⟩ : ∃ g, f = g + 1 := ⟨f - 1, by omega⟩
    have hn := M.2.1
    obtain ⟨m', c1, f1, g1⟩ := ih (i + 1) (wr mm 178 (40 * r + i) (nI (x i))) (by first | omega | (dsimp only; omega)) (MS_c M (fun k j e => rd_wr_k (by first | omega | (dsimp only; omega)))) (H.c (fun j _ => rd_wr_k (by first | omega | (dsimp only; omega)))) (fun j hj => by
      by_cases hji : j = i
      · subst hji; rw [rd_wr_s]
      · rw [rd_wr_j (by first | omega | (dsimp only; omega))]; exact hd j (by first | omega | (dsimp only; omega))) f (by first | omega | (dsimp only; omega))
    refine ⟨m', ?_, (fr_wr Fr.rf ⟨rfl, by omega, by omega⟩).tr f1, g1⟩
    unfold fX12_rule_55
    simp only [LXm, nI_nat (show i < 2147483648 by omega)]
    refine st_f (by rw [M.1]; exact nI_ge (by first | omega | (dsimp only; omega)) (by first | omega | (dsimp only; omega))) (st_k rfl (show i < 6 by omega) (by first | omega | (dsimp only; omega)) ?_)
    rw [H i (by first | omega | (dsimp only; omega))]
    refine st_b (setRow_t hr (by first | omega | (dsimp only; omega))) (st_k rfl (show i < 6 by omega) (by first | omega | (dsimp only; omega)) (st_n ?_))
    rw [rd_wr_k (by first | omega | (dsimp only; omega)), H i (by first | omega | (dsimp only; omega)), nI_add, nI_1]
    exact c1
theorem ok_31 {N : Nat} (hN : 100000 ≤ N) : OK_31 N Rel := by
  intro a1 a2 mm h
  obtain ⟨n, K, W, F, d, s, t, C, M, hd, hd', hd9, hs, hs', hs40, ht, ht', ht40⟩ := Rel_data h
  have hn := C.2.1
  obtain ⟨en, Y, Z, T⟩ := Rel_notes h C.1 hn
  rcases rng a1 6 with ⟨o, ho, -, rfl⟩ | hb
  rotate_left
  · refine ⟨-1, mm, mm, ?_, ?_, h⟩
    · unfold fX11_rule
      rcases rng a2 6 with ⟨q, hq, -, rfl⟩ | hb3
      · refine st_b (rowOf_t hq) ?_
        rcases hb with hb | ⟨j, h1, h2, rfl⟩
        · exact st_t hb rfl
        · exact st_f (nI_pos h2) (st_t (nI_le h1 h2) rfl)
      · refine st_b (rowOf_n hb3) ?_
        rcases hb with hb | ⟨j, h1, h2, rfl⟩
        · exact st_t hb rfl
        · exact st_f (nI_pos h2) (st_t (nI_le h1 h2) rfl)
    · unfold fX12_rule
      exact st_b (in_o (n := 6) rfl hb (by first | omega | (dsimp only; omega))) (st_t rfl rfl)
  rcases rng a2 6 with ⟨r, hr, -, rfl⟩ | hb
  rotate_left
  · refine ⟨-1, mm, mm, ?_, ?_, h⟩
    · unfold fX11_rule
      exact st_b (rowOf_n hb) (st_f (nI_pos (by first | omega | (dsimp only; omega))) (st_f (nI_ge ho (by first | omega | (dsimp only; omega))) (st_c0 rfl)))
    · unfold fX12_rule
      exact st_b (in_n (n := 6) rfl ho (by first | omega | (dsimp only; omega))) (st_f (by decide) (st_b (isRow_n hb) (st_t rfl rfl)))
  by_cases h0 : n = 0
  · subst h0
    refine ⟨-3, cRef 4 mm, mMeet 4 (cRef 4 mm), ?_, ?_, rel_ref h (f := 4) (by first | omega | (dsimp only; omega))⟩
    · unfold fX11_rule
      exact st_b (rowOf_t hr) (st_f (nI_pos (by first | omega | (dsimp only; omega))) (st_f (nI_ge ho (by first | omega | (dsimp only; omega))) (st_c (st_t C.1 (st_b (c_ref 4 rfl (by first | omega | (dsimp only; omega))) rfl)))))
    · unfold fX12_rule
      exact st_b (in_n (n := 6) rfl ho (by first | omega | (dsimp only; omega))) (st_f (by decide) (st_b (isRow_t hr) (st_f (by decide) (st_t (by rw [rd_cRef (by first | omega | (dsimp only; omega)) (by first | omega | (dsimp only; omega))]; exact M.1) (st_b (m_meet 4 rfl (by first | omega | (dsimp only; omega))) rfl)))))
  obtain ⟨m1, c1, f1, g1⟩ := layBy_e (N := N) (o := o) hN (by first | omega | (dsimp only; omega)) ho C ht ht40 T.2.1 T.1 (Nat.le_refl en) (T.yc (Nat.le_refl en)).1
  have g1' : HA m1 56 n (rlN W n t o (yN Y en)) := fun j hj => by rw [g1 j (by first | omega | (dsimp only; omega)), if_pos hj]
  obtain ⟨m2, c2, f2, g2, g2'⟩ := take_e (N := N) (p := 56) hr rfl hn (by first | omega | (dsimp only; omega)) g1'
  have F2 : Fr (fun k j => k = 56 ∨ (k = 95 + 2 * r ∧ j = 1) ∨ k = 96 + 2 * r) mm m2 := (f1.mono (fun k j e => Or.inl e)).tr (f2.mono (fun k j e => Or.inr e))
  have M2 : MS m2 n K W F := MS_c M (fun k j e => F2.2 _ _ (by first | omega | (dsimp only; omega)))
  have T2 : NTs m2 n en Y Z := T.c (fun k j e => F2.2 _ _ (by first | omega | (dsimp only; omega)))
  obtain ⟨m3, c3, f3, g3⟩ := layRule_e (N := N) (o := o) (k := en) hN (by first | omega | (dsimp only; omega)) ho M2 (by rw [F2.2 _ _ (by first | omega | (dsimp only; omega))]; exact ht') ht40 (T2.yc (Nat.le_refl en)).2
  obtain ⟨m4, c4, f4, g4, -⟩ := mrow_ok (N := N) (r := r) (n := n) (mm := m3) hN hr (by first | omega | (dsimp only; omega))
  obtain ⟨m5, c5, f5, g5⟩ := mrule_l (N := N) (r := r) (x := rlN W n t o (yN Y en)) hr n 0 m4 (by first | omega | (dsimp only; omega)) (MS_c M2 (fun k j e => by rw [f4.2 _ _ (by first | omega | (dsimp only; omega)), f3.2 _ _ (by first | omega | (dsimp only; omega))])) (g3.c (fun j _ => f4.2 _ _ (by first | omega | (dsimp only; omega)))) (fun j hj => by omega) N (by first | omega | (dsimp only; omega))
  refine ⟨nI (smN (rlN W n t o (yN Y en)) n), m2, m5, ?_, ?_, ?_⟩
  · unfold fX11_rule
    refine st_b (rowOf_t hr) (st_f (nI_pos (by first | omega | (dsimp only; omega))) (st_f (nI_ge ho (by first | omega | (dsimp only; omega))) (st_c (st_f (by simp only [LXa]; rw [C.1]; exact nI_ne0 (by first | omega | (dsimp only; omega)) (by first | omega | (dsimp only; omega))) ?_))))
    simp only [LXa, LXg]
    rw [T.2.1]
    refine st_b c1 ?_
    rw [f1.2 3 5 (by first | omega | (dsimp only; omega)), C.1]
    refine st_b c2 (st_b (total_ok hN (fr_row hr) (ln_row hr) g2 (by first | omega | (dsimp only; omega)) (by first | omega | (dsimp only; omega))) ?_)
    rw [sL_32 n g2']
  · unfold fX12_rule
    refine st_b (in_n (n := 6) rfl ho (by first | omega | (dsimp only; omega))) (st_f (by decide) (st_b (isRow_t hr) (st_f (by decide) (st_f (by rw [M2.1]; exact nI_ne0 (by first | omega | (dsimp only; omega)) (by first | omega | (dsimp only; omega))) ?_))))
    rw [T2.2.2.1]
    refine st_b c3 ?_
    rw [f3.2 175 10 (by first | omega | (dsimp only; omega)), M2.1]
    exact st_b c4 c5
  · have FA : Fr (ScA r) mm m5 := by
      refine (F2.mono (fun k j e => ?_)).tr ((f3.mono (fun k j e => Or.inr (Or.inl ?_))).tr ((f4.mono (fun k j e => Or.inr (Or.inr (Or.inr ?_)))).tr (f5.mono (fun k j e => Or.inr (Or.inr (Or.inr ?_))))))
      · rcases e with e | e
        · exact Or.inl (by unfold ScC; omega)
        · exact Or.inr (Or.inr (Or.inr (by unfold RwC; omega)))
      · unfold ScM; omega
      · unfold RwC; omega
      · unfold RwC; omega
    have e5 : ∀ k j, k < 175 → rd m5 k j = rd m2 k j := fun k j hk => by rw [f5.2 _ _ (by first | omega | (dsimp only; omega)), f4.2 _ _ (by first | omega | (dsimp only; omega)), f3.2 _ _ (by first | omega | (dsimp only; omega))]
    refine Rel_row (r := r) h FA ?_ ?_ (fun _ => Or.inr ⟨n, by omega, by rw [e5 _ _ (by first | omega | (dsimp only; omega))]; exact g2, by rw [f5.2 _ _ (by first | omega | (dsimp only; omega))]; exact g4, fun i hi => ⟨?_, trivial⟩⟩)
    · exact RA_c h.2.2.2.2.1 (fun k e => by rw [e5 _ _ (by first | omega | (dsimp only; omega)), F2.2 _ _ (by first | omega | (dsimp only; omega))])
    · have z := h.2.2.2.1.2.2.1
      rw [e5 0 14 (by first | omega | (dsimp only; omega)), F2.2 0 14 (by first | omega | (dsimp only; omega)), f5.2 _ _ (by first | omega | (dsimp only; omega)), f4.2 _ _ (by first | omega | (dsimp only; omega)), f3.2 _ _ (by first | omega | (dsimp only; omega)), F2.2 _ _ (by first | omega | (dsimp only; omega))]
      exact z
    · dsimp only
      rw [e5 _ _ (by first | omega | (dsimp only; omega)), g2' i hi, g5 i hi]
