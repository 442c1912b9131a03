/-! pure: copy, text, put, findings of texts -/
def Bd (a : Int32) (n c : Nat) : Prop := a < 0 ∨ ∃ i, a = nI i ∧ i < 2147483648 ∧ n < i + c
theorem gb (a : Int32) (n c : Nat) (hn : n ≤ 80) : (∃ i, a = nI i ∧ i + c ≤ n) ∨ Bd a n c := by
  by_cases h : a < 0
  · exact Or.inr (Or.inl h)
  · obtain ⟨i, hi, rfl⟩ := nI_of h
    by_cases h2 : i + c ≤ n
    · exact Or.inl ⟨i, rfl, h2⟩
    · exact Or.inr (Or.inr ⟨i, rfl, hi, by omega⟩)
theorem mcopy_bad {N r q n1 n2 c : Nat} {a b : Int32} {mm : Mm} (hr : r < 6) (hq : q < 6) (h1 : rd mm 177 r = nI n1) (h2 : rd mm 177 q = nI n2) (hn1 : n1 ≤ 40) (hn2 : n2 ≤ 40) (hc : c < 2147483648) (h : Bd a n1 c ∨ ((∃ i, a = nI i ∧ i + c ≤ n1) ∧ Bd b n2 c)) : fX12_copy N 175 (nI r) a (nI q) b (nI c) mm = some (-3, mMeet 2 mm) := by
  unfold fX12_copy
  refine st_b (isRow_t hr) (st_f (by decide) (st_b (isRow_t hq) (st_f (by decide) (st_t (nI_pos' hc) ?_))))
  simp only [LXm, nI_nat (show r < 2147483648 by omega), nI_nat (show q < 2147483648 by omega), h1, h2]
  refine st_k rfl hr (by first | omega | (dsimp only; omega)) (st_f (nI_pos (by first | omega | (dsimp only; omega))) (st_k rfl hq (by first | omega | (dsimp only; omega)) (st_t (nI_pos' (by first | omega | (dsimp only; omega))) ?_)))
  have hm : fX12_copy_95 N 175 mm = some (-3, mMeet 2 mm) := st_b (m_meet 2 rfl (by first | omega | (dsimp only; omega))) rfl
  by_cases ha : a < 0
  · exact st_t ha hm
  refine st_f ha ?_
  by_cases hb : b < 0
  · exact st_t hb hm
  refine st_f hb (st_k rfl hr (by first | omega | (dsimp only; omega)) ?_)
  obtain ⟨i, hi, rfl⟩ := nI_of ha
  obtain ⟨j, hj, rfl⟩ := nI_of hb
  have hx : ((nI i).toInt64 + (nI c).toInt64).toInt = i + c := l_add hi hc
  have hy : ((nI j).toInt64 + (nI c).toInt64).toInt = j + c := l_add hj hc
  have hz1 := l_nI (a := n1) (by first | omega | (dsimp only; omega))
  have hz2 := l_nI (a := n2) (by first | omega | (dsimp only; omega))
  rcases h with h | ⟨⟨i', e, h⟩, h'⟩
  · rcases h with h | ⟨i', e, hi', h⟩
    · exact absurd h ha
    · have := nI_inj e hi (by first | omega | (dsimp only; omega))
      subst this
      exact st_t (by rw [lg_cmp_gt, Int64.lt_iff_toInt_lt, hx, hz1]; omega) hm
  · have := nI_inj e hi (by first | omega | (dsimp only; omega))
    subst this
    refine st_f (by rw [lg_cmp_gt, Int64.lt_iff_toInt_lt, hx, hz1]; omega) (st_k rfl hq (by first | omega | (dsimp only; omega)) ?_)
    rcases h' with h' | ⟨j', e', hj', h'⟩
    · exact absurd h' hb
    · have := nI_inj e' hj (by first | omega | (dsimp only; omega))
      subst this
      exact st_f (by rw [lg_cmp_le, Int64.le_iff_toInt_le, hy, hz2]; omega) hm
theorem ok_4 {N : Nat} (hN : 100000 ≤ N) : OK_4 N Rel := by
  intro a1 a2 a3 a4 a5 mm h
  rcases rng a1 6 with ⟨r, hr, -, rfl⟩ | hb
  rotate_left
  · refine ⟨-1, mm, mm, ?_, ?_, h⟩
    · unfold fX11_copy
      refine st_b (rowOf_n hb) ?_
      rcases rng a3 6 with ⟨q, hq, -, rfl⟩ | hb3
      · exact st_b (rowOf_t hq) (st_c0 rfl)
      · exact st_b (rowOf_n hb3) (st_c0 rfl)
    · unfold fX12_copy
      exact st_b (isRow_n hb) (st_t rfl rfl)
  rcases rng a3 6 with ⟨q, hq, -, rfl⟩ | hb
  rotate_left
  · refine ⟨-1, mm, mm, ?_, ?_, h⟩
    · unfold fX11_copy
      exact st_b (rowOf_t hr) (st_b (rowOf_n hb) (st_c (st_c0 rfl)))
    · unfold fX12_copy
      exact st_b (isRow_t hr) (st_f (by decide) (st_b (isRow_n hb) (st_t rfl rfl)))
  by_cases h5 : a5 < 0
  · have h5' : ¬ (0 : Int32) ≤ a5 := by rw [i_le]; rw [i_lt] at h5; omega
    refine ⟨-3, cRef 5 mm, mMeet 5 (cRef 5 mm), ?_, ?_, rel_ref h (f := 5) (by first | omega | (dsimp only; omega))⟩
    · unfold fX11_copy
      exact st_b (rowOf_t hr) (st_b (rowOf_t hq) (st_c (st_c (st_f h5' (st_b (c_ref 5 rfl (by first | omega | (dsimp only; omega))) rfl)))))
    · unfold fX12_copy
      exact st_b (isRow_t hr) (st_f (by decide) (st_b (isRow_t hq) (st_f (by decide) (st_f h5' (st_b (m_meet 5 rfl (by first | omega | (dsimp only; omega))) rfl)))))
  obtain ⟨c, hc, rfl⟩ := nI_of h5
  have hm1 : ∀ m, fX12_copy_45 N 175 m = some (-3, mMeet 1 m) := fun m => st_b (m_meet 1 rfl (by first | omega | (dsimp only; omega))) rfl
  rcases h.1 r hr with ⟨e1, e2⟩ | ⟨n1, hn1, e1, e2, hv1⟩
  · refine ⟨-3, cRef 1 mm, mMeet 1 (cRef 1 mm), ?_, ?_, rel_ref h (f := 1) (by first | omega | (dsimp only; omega))⟩
    · unfold fX11_copy
      exact st_b (rowOf_t hr) (st_b (rowOf_t hq) (st_c (st_c (st_t (nI_pos' hc) (st_b (miss_t e1) (st_f (by decide) (st_b (c_ref 1 rfl (by first | omega | (dsimp only; omega))) rfl)))))))
    · unfold fX12_copy
      refine st_b (isRow_t hr) (st_f (by decide) (st_b (isRow_t hq) (st_f (by decide) (st_t (nI_pos' hc) ?_))))
      have e3 : rd (cRef 1 mm) 177 r = -9 := by rw [rd_cRef (by first | omega | (dsimp only; omega)) (by first | omega | (dsimp only; omega))]; exact e2
      simp only [LXm, nI_nat (show r < 2147483648 by omega), e3]
      exact st_k rfl hr (by first | omega | (dsimp only; omega)) (st_t (by decide) (hm1 _))
  rcases h.1 q hq with ⟨e3, e4⟩ | ⟨n2, hn2, e3, e4, hv2⟩
  · refine ⟨-3, cRef 1 mm, mMeet 1 (cRef 1 mm), ?_, ?_, rel_ref h (f := 1) (by first | omega | (dsimp only; omega))⟩
    · unfold fX11_copy
      exact st_b (rowOf_t hr) (st_b (rowOf_t hq) (st_c (st_c (st_t (nI_pos' hc) (st_b (miss_f e1 (by first | omega | (dsimp only; omega))) (st_t rfl (st_b (miss_t e3) (st_f (by decide) (st_b (c_ref 1 rfl (by first | omega | (dsimp only; omega))) rfl)))))))))
    · unfold fX12_copy
      refine st_b (isRow_t hr) (st_f (by decide) (st_b (isRow_t hq) (st_f (by decide) (st_t (nI_pos' hc) ?_))))
      have e5 : rd (cRef 1 mm) 177 r = nI n1 := by rw [rd_cRef (by first | omega | (dsimp only; omega)) (by first | omega | (dsimp only; omega))]; exact e2
      have e6 : rd (cRef 1 mm) 177 q = -9 := by rw [rd_cRef (by first | omega | (dsimp only; omega)) (by first | omega | (dsimp only; omega))]; exact e4
      simp only [LXm, nI_nat (show r < 2147483648 by omega), nI_nat (show q < 2147483648 by omega), e5, e6]
      exact st_k rfl hr (by first | omega | (dsimp only; omega)) (st_f (nI_pos (by first | omega | (dsimp only; omega))) (st_k rfl hq (by first | omega | (dsimp only; omega)) (st_f (by decide) (hm1 _))))
  have hc2 : ∀ m, fX11_copy_82 N 0 m = some (-3, cRef 2 m) := fun m => st_b (c_ref 2 rfl (by first | omega | (dsimp only; omega))) rfl
  rcases gb a2 n1 c (by first | omega | (dsimp only; omega)) with ⟨i, rfl, hi⟩ | hbd
  rotate_left
  · refine ⟨-3, cRef 2 mm, mMeet 2 (cRef 2 mm), ?_, mcopy_bad hr hq (n1 := n1) (n2 := n2) ?_ ?_ hn1 hn2 hc (Or.inl hbd), rel_ref h (f := 2) (by first | omega | (dsimp only; omega))⟩
    · unfold fX11_copy
      exact st_b (rowOf_t hr) (st_b (rowOf_t hq) (st_c (st_c (st_t (nI_pos' hc) (st_b (miss_f e1 (by first | omega | (dsimp only; omega))) (st_t rfl (st_b (miss_f e3 (by first | omega | (dsimp only; omega))) (st_t rfl (st_b (hasAll_f e1 (by first | omega | (dsimp only; omega)) hc hbd) (st_t rfl (hc2 _)))))))))))
    · rw [rd_cRef (by first | omega | (dsimp only; omega)) (by first | omega | (dsimp only; omega))]; exact e2
    · rw [rd_cRef (by first | omega | (dsimp only; omega)) (by first | omega | (dsimp only; omega))]; exact e4
  rcases gb a4 n2 c (by first | omega | (dsimp only; omega)) with ⟨j, rfl, hj⟩ | hbd
  rotate_left
  · refine ⟨-3, cRef 2 mm, mMeet 2 (cRef 2 mm), ?_, mcopy_bad hr hq (n1 := n1) (n2 := n2) ?_ ?_ hn1 hn2 hc (Or.inr ⟨⟨i, rfl, hi⟩, hbd⟩), rel_ref h (f := 2) (by first | omega | (dsimp only; omega))⟩
    · unfold fX11_copy
      exact st_b (rowOf_t hr) (st_b (rowOf_t hq) (st_c (st_c (st_t (nI_pos' hc) (st_b (miss_f e1 (by first | omega | (dsimp only; omega))) (st_t rfl (st_b (miss_f e3 (by first | omega | (dsimp only; omega))) (st_t rfl (st_b (hasAll_t e1 (by first | omega | (dsimp only; omega)) hi) (st_f (by decide) (st_b (hasAll_f e3 (by first | omega | (dsimp only; omega)) hc hbd) (st_t rfl (hc2 _)))))))))))))
    · rw [rd_cRef (by first | omega | (dsimp only; omega)) (by first | omega | (dsimp only; omega))]; exact e2
    · rw [rd_cRef (by first | omega | (dsimp only; omega)) (by first | omega | (dsimp only; omega))]; exact e4
  obtain ⟨m2, k1, k2, k3⟩ := cp_tk (N := N) hr hq (i := i) (j := j) (c := c) (by first | omega | (dsimp only; omega)) (by first | omega | (dsimp only; omega)) hN c 0 (cpy mm (96 + 2 * r) (96 + 2 * q) (nI i) (nI j) (nI c)) (by first | omega | (dsimp only; omega)) N (by first | omega | (dsimp only; omega))
  refine ⟨1, cpy mm (96 + 2 * r) (96 + 2 * q) (nI i) (nI j) (nI c), m2, ?_, ?_, ?_⟩
  · unfold fX11_copy
    refine st_b (rowOf_t hr) (st_b (rowOf_t hq) (st_c (st_c (st_t (nI_pos' hc) (st_b (miss_f e1 (by first | omega | (dsimp only; omega))) (st_t rfl (st_b (miss_f e3 (by first | omega | (dsimp only; omega))) (st_t rfl (st_b (hasAll_t e1 (by first | omega | (dsimp only; omega)) hi) (st_f (by decide) (st_b (hasAll_t e3 (by first | omega | (dsimp only; omega)) hj) (st_f (by decide) ?_)))))))))))) 
    rw [fr_row hr, fr_row hq, ln_row hr, ln_row hq]
    exact st_g (cpok_n (by first | omega | (dsimp only; omega)) (by first | omega | (dsimp only; omega)) (by first | omega | (dsimp only; omega)) (by first | omega | (dsimp only; omega))) (st_n rfl)
  · unfold fX12_copy
    refine st_b (isRow_t hr) (st_f (by decide) (st_b (isRow_t hq) (st_f (by decide) (st_t (nI_pos' hc) ?_))))
    have e5 : rd (cpy mm (96 + 2 * r) (96 + 2 * q) (nI i) (nI j) (nI c)) 177 r = nI n1 := by rw [rd_cpy, if_neg (by first | omega | (dsimp only; omega))]; exact e2
    have e6 : rd (cpy mm (96 + 2 * r) (96 + 2 * q) (nI i) (nI j) (nI c)) 177 q = nI n2 := by rw [rd_cpy, if_neg (by first | omega | (dsimp only; omega))]; exact e4
    simp only [LXm, nI_nat (show r < 2147483648 by omega), nI_nat (show q < 2147483648 by omega), e5, e6]
    refine st_k rfl hr (by first | omega | (dsimp only; omega)) (st_f (nI_pos (by first | omega | (dsimp only; omega))) (st_k rfl hq (by first | omega | (dsimp only; omega)) (st_t (nI_pos' (by first | omega | (dsimp only; omega))) (st_f (nI_pos (by first | omega | (dsimp only; omega))) (st_f (nI_pos (by first | omega | (dsimp only; omega))) (st_k rfl hr (by first | omega | (dsimp only; omega)) (st_f ?_ (st_k rfl hq (by first | omega | (dsimp only; omega)) (st_t ?_ k1)))))))))
    · rw [lg_cmp_gt, Int64.lt_iff_toInt_lt, l_add (by first | omega | (dsimp only; omega)) hc, l_nI (by first | omega | (dsimp only; omega))]; omega
    · rw [lg_cmp_le, Int64.le_iff_toInt_le, l_add (by first | omega | (dsimp only; omega)) hc, l_nI (by first | omega | (dsimp only; omega))]; omega
  · refine Rel_RRF h (fun k x e hp => ?_) (RR_upd h.1 (r := q) (fun k x e => ?_) (Or.inr ⟨n2, hn2, ?_, ?_, fun x hx => ⟨?_, trivial⟩⟩)) (RF_c h.2.2.2.1 (fun k x e => ?_) (fun k x e => ?_))
    · have he : k ≠ 179 := fun z => by subst z; revert e; simp only [Es, Bool.or_eq_true, decide_eq_true_eq]; omega
      unfold PF at hp
      rw [k2.2 _ _ (by first | omega | (dsimp only; omega)), rd_cpy, if_neg (by first | omega | (dsimp only; omega))]
    · rw [k2.2 _ _ (by first | omega | (dsimp only; omega)), rd_cpy, if_neg (by first | omega | (dsimp only; omega))]
    · rw [k2.2 _ _ (by first | omega | (dsimp only; omega)), rd_cpy, if_neg (by first | omega | (dsimp only; omega))]; exact e3
    · rw [k2.2 _ _ (by first | omega | (dsimp only; omega)), rd_cpy, if_neg (by first | omega | (dsimp only; omega))]; exact e4
    · simp only
      rw [k2.2 (96 + 2 * q) x (by first | omega | (dsimp only; omega)), rd_cpy, nI_nat (show j < 2147483648 by omega), nI_nat hc, nI_nat (show i < 2147483648 by omega)]
      by_cases hx2 : j ≤ x ∧ x < j + c
      · rw [if_pos (by first | omega | (dsimp only; omega))]
        obtain ⟨y, rfl⟩ : ∃ y, x = j + y := ⟨x - j, by omega⟩
        have := k3 y (by first | omega | (dsimp only; omega))
        rw [if_neg (by first | omega | (dsimp only; omega)), rd_cpy, if_neg (by first | omega | (dsimp only; omega)), show 40 * q + j + y = 40 * q + (j + y) by omega] at this
        rw [this, show i + (j + y - j) = i + y by omega]
        exact (hv1 (i + y) (by first | omega | (dsimp only; omega))).1
      · rw [if_neg (by first | omega | (dsimp only; omega)), k2.2 _ _ (by first | omega | (dsimp only; omega)), rd_cpy, if_neg (by first | omega | (dsimp only; omega))]
        exact (hv2 x hx).1
    · rw [k2.2 _ _ (by first | omega | (dsimp only; omega)), rd_cpy, if_neg (by first | omega | (dsimp only; omega))]
    · rw [k2.L]; rfl
