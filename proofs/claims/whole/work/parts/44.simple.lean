/-! pure: row, lay, at, tear, mean, asked and its like -/
theorem ok_0 {N : Nat} (hN : 100000 ≤ N) : OK_0 N Rel := by
  intro a1 a2 mm h
  rcases rng a1 6 with ⟨r, hr, -, rfl⟩ | hb
  · rcases rng a2 41 with ⟨n, hn, -, rfl⟩ | hb2
    · obtain ⟨m1, c1, f1, v1⟩ := fill_ok (v := 0) (mm := wr mm (95 + 2 * r) 1 (nI n)) hN (ln_row hr) (by first | omega | (dsimp only; omega))
      obtain ⟨m2, c2, f2, s2, v2⟩ := mrow_ok (mm := m1) hN hr (show n ≤ 40 by omega)
      refine ⟨nI n, m1, m2, ?_, c2, ?_⟩
      · unfold fX11_row
        refine st_b (rowOf_t hr) (st_c (st_t (nI_le (by first | omega | (dsimp only; omega)) (by first | omega | (dsimp only; omega))) (st_t (nI_pos' (by first | omega | (dsimp only; omega))) ?_)))
        unfold fX6_renew
        rw [fr_row hr]
        exact st_b (st_n (st_b c1 rfl)) rfl
      · refine Rel_RRF h (fun k j e hp => ?_) (RR_upd h.1 (r := r) (fun k j e => ?_) (Or.inr ⟨n, by omega, ?_, s2, fun i hi => ⟨?_, trivial⟩⟩)) (RF_c h.2.2.2.1 (fun k j e => ?_) (fun k j e => ?_))
        · unfold PF at hp
          rw [f2.2 _ _ (by first | omega | (dsimp only; omega)), f1.2 _ _ (by first | omega | (dsimp only; omega)), rd_wr_k (by first | omega | (dsimp only; omega))]
        · rw [f2.2 _ _ (by first | omega | (dsimp only; omega)), f1.2 _ _ (by first | omega | (dsimp only; omega)), rd_wr, if_neg (by first | omega | (dsimp only; omega))]
        · rw [f2.2 _ _ (by first | omega | (dsimp only; omega)), f1.2 _ _ (by first | omega | (dsimp only; omega)), rd_wr_s]
        · simp only
          rw [v2 i (by first | omega | (dsimp only; omega)), f2.2 _ _ (by first | omega | (dsimp only; omega))]
          exact v1 i (by first | omega | (dsimp only; omega))
        · rw [f2.2 _ _ (by first | omega | (dsimp only; omega)), f1.2 _ _ (by first | omega | (dsimp only; omega)), rd_wr_k (by first | omega | (dsimp only; omega))]
        · rw [f2.L, f1.L]; rfl
    · rcases hb2 with hb2 | ⟨j, h1, h2, rfl⟩
      · have hle : a2 ≤ 40 := by rw [i_le]; rw [i_lt] at hb2; have : (40 : Int32).toInt = 40 := rfl; have : (0 : Int32).toInt = 0 := rfl; omega
        have hlt : ¬ (0 : Int32) ≤ a2 := by rw [i_le]; rw [i_lt] at hb2; omega
        refine ⟨-3, cRef 5 mm, mMeet 5 (cRef 5 mm), ?_, ?_, rel_ref h (f := 5) (by first | omega | (dsimp only; omega))⟩
        · unfold fX11_row
          exact st_b (rowOf_t hr) (st_c (st_t hle (st_f hlt (st_b (c_ref 5 rfl (by first | omega | (dsimp only; omega))) rfl))))
        · unfold fX12_row
          exact st_b (isRow_t hr) (st_f (by decide) (st_t hle (st_f hlt (st_b (m_meet 5 rfl (by first | omega | (dsimp only; omega))) rfl))))
      · refine ⟨-1, mm, mm, ?_, ?_, h⟩
        · unfold fX11_row
          exact st_b (rowOf_t hr) (st_c (st_f (nI_ge (by first | omega | (dsimp only; omega)) (by first | omega | (dsimp only; omega))) rfl))
        · unfold fX12_row
          exact st_b (isRow_t hr) (st_f (by decide) (st_f (nI_ge (by first | omega | (dsimp only; omega)) (by first | omega | (dsimp only; omega))) rfl))
  · refine ⟨-1, mm, mm, ?_, ?_, h⟩
    · unfold fX11_row
      exact st_b (rowOf_n hb) (st_c0 rfl)
    · unfold fX12_row
      exact st_b (isRow_n hb) (st_t rfl rfl)
-- at in the model
theorem mat_n {N : Nat} {a b : Int32} {mm : Mm} (h : Out a 6) : fX12_at N 175 a b mm = some (-1, mm) := by
  unfold fX12_at
  exact st_b (askedRow_n h) (st_f (by decide) rfl)
theorem mat_0 {N r : Nat} {b : Int32} {mm : Mm} (h : r < 6) (e : rd mm 177 r = -9) : fX12_at N 175 (nI r) b mm = some (-3, mMeet 1 mm) := by
  unfold fX12_at
  exact st_b (askedRow_0 h e) (st_f (by decide) rfl)
theorem mat_o {N r n : Nat} {b : Int32} {mm : Mm} (h : r < 6) (hn : n ≤ 40) (e : rd mm 177 r = nI n) (hb : Out b n) : fX12_at N 175 (nI r) b mm = some (-3, mMeet 2 mm) := by
  unfold fX12_at
  refine st_b (askedRow_1 h e (by first | omega | (dsimp only; omega))) (st_t (by decide) ?_)
  simp only [LXm, nI_nat (show r < 2147483648 by omega), e]
  exact st_k rfl h (by first | omega | (dsimp only; omega)) (st_b (in_o rfl hb (by first | omega | (dsimp only; omega))) (st_t rfl (st_b (m_meet 2 rfl (by first | omega | (dsimp only; omega))) rfl)))
theorem mat_t {N r n i : Nat} {mm : Mm} (h : r < 6) (hn : n ≤ 40) (e : rd mm 177 r = nI n) (hi : i < n) : fX12_at N 175 (nI r) (nI i) mm = some (1, wr mm 175 2 (rd mm 178 (40 * r + i))) := by
  unfold fX12_at
  refine st_b (askedRow_1 h e (by first | omega | (dsimp only; omega))) (st_t (by decide) ?_)
  simp only [LXm, nI_nat (show r < 2147483648 by omega), e]
  refine st_k rfl h (by first | omega | (dsimp only; omega)) (st_b (in_n rfl hi (by first | omega | (dsimp only; omega))) (st_f (by decide) (st_b (rowAt_t h (by first | omega | (dsimp only; omega))) ?_)))
  unfold fX12_ask
  rfl
/-- both tell by asked() -/
theorem rel_ask {mm : Mm} (h : Rel mm) {v w : Int32} (hv : v = w) : Rel (wr (wr mm 0 14 v) 175 2 w) := by
  subst hv
  refine Rel_RRF h (fun k j e hp => ?_) (RR_c h.1 (fun k j e => ?_)) (RF_asked h.2.2.2.1 (fun k j e => ?_) rfl ?_)
  · unfold PF at hp
    rw [rd_wr, if_neg (by first | omega | (dsimp only; omega)), rd_wr, if_neg (by first | omega | (dsimp only; omega))]
  · rw [rd_wr, if_neg (by first | omega | (dsimp only; omega)), rd_wr, if_neg (by first | omega | (dsimp only; omega))]
  · rw [rd_wr, if_neg (by first | omega | (dsimp only; omega)), rd_wr, if_neg (by first | omega | (dsimp only; omega))]
  · rw [rd_wr_s, rd_wr_k (by first | omega | (dsimp only; omega)), rd_wr_s]
theorem ok_2 {N : Nat} : OK_2 N Rel := by
  intro a1 a2 mm h
  rcases rng a1 6 with ⟨r, hr, -, rfl⟩ | hb
  · rcases h.1 r hr with ⟨e1, e2⟩ | ⟨n, hn, e1, e2, hv⟩
    · refine ⟨-3, cRef 1 mm, mMeet 1 (cRef 1 mm), ?_, mat_0 hr ?_, rel_ref h (f := 1) (by first | omega | (dsimp only; omega))⟩
      · unfold fX11_at
        exact st_b (rowOf_t hr) (st_c (st_b (miss_t e1) (st_f (by decide) (st_b (c_ref 1 rfl (by first | omega | (dsimp only; omega))) rfl))))
      · rw [rd_cRef (by first | omega | (dsimp only; omega)) (by first | omega | (dsimp only; omega))]; exact e2
    · rcases rng a2 n with ⟨i, hi, -, rfl⟩ | hb2
      · refine ⟨1, _, _, ?_, mat_t hr hn (n := n) ?_ hi, rel_ask (v := rd mm (96 + 2 * r) i) h ?_⟩
        · unfold fX11_at
          refine st_b (rowOf_t hr) (st_c (st_b (miss_f e1 (by first | omega | (dsimp only; omega))) (st_t rfl (st_b (has_t e1 (by first | omega | (dsimp only; omega)) hi) (st_f (by decide) ?_)))))
          rw [fr_row hr, nI_nat (by first | omega | (dsimp only; omega))]
          refine st_k (ln_row hr) (by first | omega | (dsimp only; omega)) (by first | omega | (dsimp only; omega)) ?_
          unfold fX11_told
          rfl
        · rw [rd_wr_k (by first | omega | (dsimp only; omega))]; exact e2
        · rw [rd_wr_k (by first | omega | (dsimp only; omega))]; exact (hv i hi).1
      · refine ⟨-3, cRef 2 mm, mMeet 2 (cRef 2 mm), ?_, mat_o hr hn ?_ hb2, rel_ref h (f := 2) (by first | omega | (dsimp only; omega))⟩
        · unfold fX11_at
          exact st_b (rowOf_t hr) (st_c (st_b (miss_f e1 (by first | omega | (dsimp only; omega))) (st_t rfl (st_b (has_f e1 hb2) (st_t rfl (st_b (c_ref 2 rfl (by first | omega | (dsimp only; omega))) rfl))))))
        · rw [rd_cRef (by first | omega | (dsimp only; omega)) (by first | omega | (dsimp only; omega))]; exact e2
  · refine ⟨-1, mm, mm, ?_, mat_n hb, h⟩
    unfold fX11_at
    exact st_b (rowOf_n hb) (st_c0 rfl)
theorem ok_1 {N : Nat} : OK_1 N Rel := by
  intro a1 a2 a3 mm h
  rcases rng a1 6 with ⟨r, hr, -, rfl⟩ | hb
  · rcases h.1 r hr with ⟨e1, e2⟩ | ⟨n, hn, e1, e2, hv⟩
    · refine ⟨-3, cRef 1 mm, mMeet 1 (cRef 1 mm), ?_, ?_, rel_ref h (f := 1) (by first | omega | (dsimp only; omega))⟩
      · unfold fX11_lay
        exact st_b (rowOf_t hr) (st_c (st_b (miss_t e1) (st_f (by decide) (st_b (c_ref 1 rfl (by first | omega | (dsimp only; omega))) rfl))))
      · unfold fX12_lay
        exact st_b (mat_0 hr (by rw [rd_cRef (by first | omega | (dsimp only; omega)) (by first | omega | (dsimp only; omega))]; exact e2)) (st_f (by decide) rfl)
    · rcases rng a2 n with ⟨i, hi, -, rfl⟩ | hb2
      · refine ⟨1, wr (wr mm (96 + 2 * r) i a3) 0 14 (rd mm (96 + 2 * r) i), wr (wr (wr (wr mm (96 + 2 * r) i a3) 0 14 (rd mm (96 + 2 * r) i)) 175 2 (rd mm 178 (40 * r + i))) 178 (40 * r + i) a3, ?_, ?_, ?_⟩
        · unfold fX11_lay
          refine st_b (rowOf_t hr) (st_c (st_b (miss_f e1 (by first | omega | (dsimp only; omega))) (st_t rfl (st_b (has_t e1 (by first | omega | (dsimp only; omega)) hi) (st_f (by decide) ?_)))))
          rw [fr_row hr, nI_nat (by first | omega | (dsimp only; omega))]
          refine st_k (ln_row hr) (by first | omega | (dsimp only; omega)) (by first | omega | (dsimp only; omega)) (st_n (st_k (ln_row hr) (by first | omega | (dsimp only; omega)) (by first | omega | (dsimp only; omega)) (st_n ?_)))
          unfold fX11_told
          rfl
        · unfold fX12_lay
          refine st_b (mat_t hr hn (n := n) ?_ hi) (st_t (by decide) (st_b (setRow_t hr (by first | omega | (dsimp only; omega))) ?_))
          · rw [rd_wr_k (by first | omega | (dsimp only; omega)), rd_wr_k (by first | omega | (dsimp only; omega))]; exact e2
          · rw [rd_wr_k (by first | omega | (dsimp only; omega)), rd_wr_k (by first | omega | (dsimp only; omega))]
        · refine Rel_RRF h (fun k j e hp => ?_) (RR_upd h.1 (r := r) (fun k j e => ?_) (Or.inr ⟨n, by omega, ?_, ?_, fun q hq => ⟨?_, trivial⟩⟩)) (RF_asked h.2.2.2.1 (fun k j e => ?_) rfl ?_)
          · unfold PF at hp
            rw [rd_wr, if_neg (by first | omega | (dsimp only; omega)), rd_wr, if_neg (by first | omega | (dsimp only; omega)), rd_wr, if_neg (by first | omega | (dsimp only; omega)), rd_wr, if_neg (by first | omega | (dsimp only; omega))]
          · rw [rd_wr, if_neg (by first | omega | (dsimp only; omega)), rd_wr, if_neg (by first | omega | (dsimp only; omega)), rd_wr, if_neg (by first | omega | (dsimp only; omega)), rd_wr, if_neg (by first | omega | (dsimp only; omega))]
          · rw [rd_wr, if_neg (by first | omega | (dsimp only; omega)), rd_wr, if_neg (by first | omega | (dsimp only; omega)), rd_wr, if_neg (by first | omega | (dsimp only; omega)), rd_wr, if_neg (by first | omega | (dsimp only; omega))]; exact e1
          · rw [rd_wr, if_neg (by first | omega | (dsimp only; omega)), rd_wr, if_neg (by first | omega | (dsimp only; omega)), rd_wr, if_neg (by first | omega | (dsimp only; omega)), rd_wr, if_neg (by first | omega | (dsimp only; omega))]; exact e2
          · simp only
            by_cases hqi : q = i
            · subst hqi
              rw [rd_wr_k (by first | omega | (dsimp only; omega)), rd_wr_k (by first | omega | (dsimp only; omega)), rd_wr_k (by first | omega | (dsimp only; omega)), rd_wr_s, rd_wr_s]
            · rw [rd_wr_k (by first | omega | (dsimp only; omega)), rd_wr_k (by first | omega | (dsimp only; omega)), rd_wr_k (by first | omega | (dsimp only; omega)), rd_wr_j hqi, rd_wr_j (by first | omega | (dsimp only; omega)), rd_wr_k (by first | omega | (dsimp only; omega)), rd_wr_k (by first | omega | (dsimp only; omega)), rd_wr_k (by first | omega | (dsimp only; omega))]
              exact (hv q hq).1
          · rw [rd_wr, if_neg (by first | omega | (dsimp only; omega)), rd_wr, if_neg (by first | omega | (dsimp only; omega)), rd_wr, if_neg (by first | omega | (dsimp only; omega)), rd_wr, if_neg (by first | omega | (dsimp only; omega))]
          · rw [rd_wr_k (by first | omega | (dsimp only; omega)), rd_wr_s, rd_wr_k (by first | omega | (dsimp only; omega)), rd_wr_k (by first | omega | (dsimp only; omega)), rd_wr_s]
            exact (hv i hi).1.symm
      · refine ⟨-3, cRef 2 mm, mMeet 2 (cRef 2 mm), ?_, ?_, rel_ref h (f := 2) (by first | omega | (dsimp only; omega))⟩
        · unfold fX11_lay
          exact st_b (rowOf_t hr) (st_c (st_b (miss_f e1 (by first | omega | (dsimp only; omega))) (st_t rfl (st_b (has_f e1 hb2) (st_t rfl (st_b (c_ref 2 rfl (by first | omega | (dsimp only; omega))) rfl))))))
        · unfold fX12_lay
          exact st_b (mat_o hr hn (by rw [rd_cRef (by first | omega | (dsimp only; omega)) (by first | omega | (dsimp only; omega))]; exact e2) hb2) (st_f (by decide) rfl)
  · refine ⟨-1, mm, mm, ?_, ?_, h⟩
    · unfold fX11_lay
      exact st_b (rowOf_n hb) (st_c0 rfl)
    · unfold fX12_lay
      exact st_b (mat_n hb) (st_f (by decide) rfl)
theorem ok_3 {N : Nat} : OK_3 N Rel := by
  intro a1 mm h
  rcases rng a1 6 with ⟨r, hr, -, rfl⟩ | hb
  · rcases h.1 r hr with ⟨e1, e2⟩ | ⟨n, hn, e1, e2, hv⟩
    · refine ⟨-3, cRef 1 mm, mMeet 1 (cRef 1 mm), ?_, ?_, rel_ref h (f := 1) (by first | omega | (dsimp only; omega))⟩
      · unfold fX11_tear
        exact st_b (rowOf_t hr) (st_c (st_b (miss_t e1) (st_f (by decide) (st_b (c_ref 1 rfl (by first | omega | (dsimp only; omega))) rfl))))
      · unfold fX12_tear
        exact st_b (askedRow_0 hr (by rw [rd_cRef (by first | omega | (dsimp only; omega)) (by first | omega | (dsimp only; omega))]; exact e2)) (st_f (by decide) rfl)
    · refine ⟨1, wr mm (95 + 2 * r) 1 (-1), wr (wr mm (95 + 2 * r) 1 (-1)) 177 r (-9), ?_, ?_, ?_⟩
      · unfold fX11_tear
        exact st_b (rowOf_t hr) (st_c (st_b (miss_f e1 (by first | omega | (dsimp only; omega))) (st_t rfl (st_n rfl))))
      · unfold fX12_tear
        refine st_b (askedRow_1 hr (n := n) (by rw [rd_wr_k (by first | omega | (dsimp only; omega))]; exact e2) (by first | omega | (dsimp only; omega))) (st_t (by decide) ?_)
        simp only [LXm, nI_nat (show r < 2147483648 by omega)]
        exact st_k rfl hr (by first | omega | (dsimp only; omega)) (st_n rfl)
      · refine Rel_RRF h (fun k j e hp => ?_) (RR_upd h.1 (r := r) (fun k j e => ?_) (Or.inl ⟨?_, ?_⟩)) (RF_c h.2.2.2.1 (fun k j e => ?_) (fun k j e => rfl))
        · unfold PF at hp
          rw [rd_wr, if_neg (by first | omega | (dsimp only; omega)), rd_wr, if_neg (by first | omega | (dsimp only; omega))]
        · rw [rd_wr, if_neg (by first | omega | (dsimp only; omega)), rd_wr, if_neg (by first | omega | (dsimp only; omega))]
        · rw [rd_wr_k (by first | omega | (dsimp only; omega)), rd_wr_s]
        · rw [rd_wr_s]
        · rw [rd_wr, if_neg (by first | omega | (dsimp only; omega)), rd_wr, if_neg (by first | omega | (dsimp only; omega))]
  · refine ⟨-1, mm, mm, ?_, ?_, h⟩
    · unfold fX11_tear
      exact st_b (rowOf_n hb) (st_c0 rfl)
    · unfold fX12_tear
      exact st_b (askedRow_n hb) (st_f (by decide) rfl)
theorem ok_39 {N : Nat} : OK_39 N Rel := by
  intro mm h
  refine ⟨rd mm 0 14, mm, mm, rfl, ?_, h⟩
  unfold fX12_asked; rw [h.2.2.2.1.2.2.1]
theorem ok_40 {N : Nat} : OK_40 N Rel := by
  intro mm h
  refine ⟨rdL mm 0 15, mm, mm, rfl, ?_, h⟩
  unfold fX12_upper; rw [h.2.2.2.1.2.2.2.1]
theorem ok_41 {N : Nat} : OK_41 N Rel := by
  intro mm h
  refine ⟨rdL mm 0 16, mm, mm, rfl, ?_, h⟩
  unfold fX12_lower; rw [h.2.2.2.1.2.2.2.2]
theorem ok_43 {N : Nat} : OK_43 N Rel := by
  intro mm h
  refine ⟨rd mm 0 13, mm, mm, rfl, ?_, h⟩
  unfold fX12_finding; rw [h.2.2.2.1.1]
theorem ok_44 {N : Nat} : OK_44 N Rel := by
  intro a1 mm h
  by_cases h0 : a1 = 0
  · subst h0
    refine ⟨-1, mm, mm, ?_, ?_, h⟩
    · unfold fX11_findings
      exact st_t (by decide) rfl
    · unfold fX12_findings
      exact st_b (in_f (Or.inl (by decide))) (st_t rfl rfl)
  · rcases rng a1 6 with ⟨f, hf, -, rfl⟩ | hb
    · have h1 : 1 ≤ f := by
        rcases Nat.eq_zero_or_pos f with h1 | h1
        · exact absurd (by rw [h1]; rfl) h0
        · exact h1
      refine ⟨rd mm 94 f, mm, mm, ?_, ?_, h⟩
      · unfold fX11_findings
        refine st_f (nI_nlt h1 (by first | omega | (dsimp only; omega))) (st_t (nI_le (by first | omega | (dsimp only; omega)) (by first | omega | (dsimp only; omega))) ?_)
        simp only [LXa, nI_nat (show f < 2147483648 by omega)]
        exact st_k (L := 6) rfl hf (by first | omega | (dsimp only; omega)) rfl
      · unfold fX12_findings
        refine st_b (in_t (nI_nlt h1 (by first | omega | (dsimp only; omega))) (nI_nlt (by first | omega | (dsimp only; omega)) (by first | omega | (dsimp only; omega)))) (st_f (by decide) ?_)
        simp only [LXm, nI_nat (show f < 2147483648 by omega), h.2.2.2.1.2.1 f hf]
        exact st_k rfl hf (by first | omega | (dsimp only; omega)) rfl
    · refine ⟨-1, mm, mm, ?_, ?_, h⟩
      · unfold fX11_findings
        rcases hb with hb | ⟨j, h1, h2, rfl⟩
        · exact st_t (by rw [i_lt] at hb ⊢; have : (1 : Int32).toInt = 1 := rfl; have : (0 : Int32).toInt = 0 := rfl; omega) rfl
        · exact st_f (nI_nlt (by first | omega | (dsimp only; omega)) (by first | omega | (dsimp only; omega))) (st_f (nI_ge (by first | omega | (dsimp only; omega)) h2) rfl)
      · unfold fX12_findings
        rcases hb with hb | ⟨j, h1, h2, rfl⟩
        · exact st_b (in_f (Or.inl (by rw [i_lt] at hb ⊢; have : (1 : Int32).toInt = 1 := rfl; have : (0 : Int32).toInt = 0 := rfl; omega))) (st_t rfl rfl)
        · exact st_b (in_f (Or.inr (nI_lt (by first | omega | (dsimp only; omega)) h2))) (st_t rfl rfl)
