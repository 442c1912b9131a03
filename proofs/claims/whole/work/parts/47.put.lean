/-! pure: text, put -/
def PT (k : Nat) : Prop := (107 ≤ k ∧ k ≤ 114) ∨ k = 180 ∨ k = 181
theorem Rel_RT {mm m2 : Mm} (h : Rel mm) (e : ∀ k j, Es k j = true → ¬ PT k → rd m2 k j = rd mm k j) (e2 : m2.2 = mm.2) (h1 : RT m2) : Rel m2 := by
  obtain ⟨g1, -, ⟨n, g3, g4, g5⟩, g6, g7, g8⟩ := h
  have hn := g3.1
  refine ⟨?_, h1, ⟨n, ?_, ?_, ?_⟩, ?_, ?_, ?_⟩
  · exact RR_c g1 (fun i j z => e i j (eRR z) (by unfold PT; omega))
  · exact RS_c g3 (fun i j z => e i j (eRS z) (by unfold PT; omega))
  · exact RCm_c g4 hn (fun i j z => e i j (eRC z) (by unfold PT; omega))
  · exact fun q hq => RKt_c (g5 q hq) hn hq (fun i j z => e i j (eRK z) (by unfold PT; omega))
  · exact RF_c g6 (fun i j z => e i j (eRF z) (by unfold PT; omega)) (fun i j z => by unfold rdL; rw [e2])
  · exact RA_c g7 (fun i z => e i 0 (eRA z) (by unfold PT; omega))
  · exact RTT_c g8 (fun i j z => e i j (eRTT z) (by unfold PT; omega))
theorem RT_upd {mm m2 : Mm} (h : RT mm) {r : Nat} (e : ∀ k j, (107 ≤ k ∧ k ≤ 114 ∧ ¬ (k = 107 + 2 * r ∧ j = 1) ∧ k ≠ 108 + 2 * r) ∨ (k = 180 ∧ j ≠ r) ∨ (k = 181 ∧ ¬ (80 * r ≤ j ∧ j < 80 * r + 80)) → rd m2 k j = rd mm k j) (hn : RRow 80 (rd m2 (107 + 2 * r) 1) (rd m2 180 r) (fun i => rd m2 (108 + 2 * r) i) (fun i => rd m2 181 (80 * r + i)) (fun v => -128 ≤ v.toInt ∧ v.toInt ≤ 127)) : RT m2 := fun q hq => by
  by_cases hqr : q = r
  · subst hqr; exact hn
  · rcases h q hq with ⟨h1, h2⟩ | ⟨n, h1, h2, h3, h4⟩
    · exact Or.inl ⟨by rw [e _ _ (by first | omega | (dsimp only; omega))]; exact h1, by rw [e _ _ (by first | omega | (dsimp only; omega))]; exact h2⟩
    · refine Or.inr ⟨n, h1, by rw [e _ _ (by first | omega | (dsimp only; omega))]; exact h2, by rw [e _ _ (by first | omega | (dsimp only; omega))]; exact h3, fun i hi => ?_⟩
      simp only
      rw [e _ _ (by first | omega | (dsimp only; omega)), e _ _ (by first | omega | (dsimp only; omega))]
      exact h4 i hi
theorem mtext_l {N r : Nat} {v : Int32} (hr : r < 4) : ∀ m i mm, i + m = 80 → ∀ f, m < f → ∃ m', fX12_text_34 N f 175 (nI r) v (nI i) mm = some (v, m') ∧ Fr (fun k j => k = 181 ∧ 80 * r ≤ j ∧ j < 80 * r + 80) mm m' ∧ (∀ j, i ≤ j → j < 80 → rd m' 181 (80 * r + j) = 32) ∧ ∀ j, j < i → rd m' 181 (80 * r + j) = rd mm 181 (80 * r + j) := by
  intro m
  induction m with
  | zero =>
    intro i mm hi f hf
    obtain ⟨f, rfl⟩ : ∃ g, f = g + 1 := ⟨f - 1, by omega⟩
    refine ⟨mm, ?_, Fr.rf, fun j h1 h2 => by omega, fun _ _ => rfl⟩
    unfold fX12_text_34
    exact st_t (nI_le (by first | omega | (dsimp only; omega)) (by first | omega | (dsimp only; omega))) rfl
  | succ m ih =>
    intro i mm hi f hf
    obtain ⟨f, rfl⟩ : ∃ g, f = g + 1 := ⟨f - 1, by omega⟩
    obtain ⟨m', h1, h2, h3, h4⟩ := ih (i + 1) (wr mm 181 (80 * r + i) 32) (by first | omega | (dsimp only; omega)) f (by first | omega | (dsimp only; omega))
    refine ⟨m', ?_, fr_st h2 (by first | omega | (dsimp only; omega)), fun j a b => ?_, fun j a => ?_⟩
    · unfold fX12_text_34
      rw [n80]
      simp only [LXm, nI_nat (show 80 * r + i < 2147483648 by omega)]
      refine st_f (nI_ge (by first | omega | (dsimp only; omega)) (by first | omega | (dsimp only; omega))) (st_k rfl (by first | omega | (dsimp only; omega)) (by first | omega | (dsimp only; omega)) (st_n ?_))
      rw [nI_1]
      exact h1
    · by_cases hj : j = i
      · subst hj; rw [h4 _ (by first | omega | (dsimp only; omega)), rd_wr_s]
      · exact h3 j (by first | omega | (dsimp only; omega)) b
    · rw [h4 _ (by first | omega | (dsimp only; omega)), rd_wr_j (by first | omega | (dsimp only; omega))]
theorem mtext_ok {N r n : Nat} {mm : Mm} (hN : 100000 ≤ N) (hr : r < 4) (hn : n ≤ 80) : ∃ m', fX12_text N 175 (nI r) (nI n) mm = some (nI n, m') ∧ Fr (fun k j => (k = 180 ∧ j = r) ∨ (k = 181 ∧ 80 * r ≤ j ∧ j < 80 * r + 80)) mm m' ∧ rd m' 180 r = nI n ∧ ∀ j, j < 80 → rd m' 181 (80 * r + j) = 32 := by
  obtain ⟨m', h1, h2, h3, -⟩ := mtext_l (N := N) (v := nI n) hr 80 0 (wr mm 180 r (nI n)) (by first | omega | (dsimp only; omega)) N (by first | omega | (dsimp only; omega))
  refine ⟨m', ?_, fr_st (h2.mono (fun k j e => by omega)) (by first | omega | (dsimp only; omega)), ?_, fun j hj => h3 j (by first | omega | (dsimp only; omega)) hj⟩
  · unfold fX12_text
    refine st_b (isText_t hr) (st_f (by decide) (st_t (nI_le hn (by first | omega | (dsimp only; omega))) (st_t (nI_pos' (by first | omega | (dsimp only; omega))) ?_)))
    simp only [LXm, nI_nat (show r < 2147483648 by omega)]
    exact st_k rfl hr (by first | omega | (dsimp only; omega)) (st_n h1)
  · rw [h2.2 _ _ (by first | omega | (dsimp only; omega)), rd_wr_s]
theorem ok_6 {N : Nat} (hN : 100000 ≤ N) : OK_6 N Rel := by
  intro a1 a2 mm h
  rcases rng a1 4 with ⟨r, hr, -, rfl⟩ | hb
  · rcases rng a2 81 with ⟨n, hn, -, rfl⟩ | hb2
    · obtain ⟨m1, c1, f1, v1⟩ := fill_ok (v := 32) (mm := wr mm (107 + 2 * r) 1 (nI n)) hN (ln_txt hr) (by first | omega | (dsimp only; omega))
      obtain ⟨m2, c2, f2, s2, v2⟩ := mtext_ok (mm := m1) hN hr (show n ≤ 80 by omega)
      refine ⟨nI n, m1, m2, ?_, c2, ?_⟩
      · unfold fX11_text
        refine st_b (textOf_t hr) (st_c (st_t (nI_le (by first | omega | (dsimp only; omega)) (by first | omega | (dsimp only; omega))) (st_t (nI_pos' (by first | omega | (dsimp only; omega))) ?_)))
        unfold fX6_renew
        rw [fr_txt hr]
        exact st_b (st_n (st_b c1 rfl)) rfl
      · refine Rel_RT h (fun k j e hp => ?_) (by rw [f2.1, f1.1]; rfl) (RT_upd h.2.1 (r := r) (fun k j e => ?_) (Or.inr ⟨n, by omega, ?_, s2, fun i hi => ⟨?_, ?_⟩⟩))
        · unfold PT at hp
          rw [f2.2 _ _ (by first | omega | (dsimp only; omega)), f1.2 _ _ (by first | omega | (dsimp only; omega)), rd_wr_k (by first | omega | (dsimp only; omega))]
        · rw [f2.2 _ _ (by first | omega | (dsimp only; omega)), f1.2 _ _ (by first | omega | (dsimp only; omega)), rd_wr, if_neg (by first | omega | (dsimp only; omega))]
        · rw [f2.2 _ _ (by first | omega | (dsimp only; omega)), f1.2 _ _ (by first | omega | (dsimp only; omega)), rd_wr_s]
        · simp only
          rw [v2 i (by first | omega | (dsimp only; omega)), f2.2 _ _ (by first | omega | (dsimp only; omega))]
          exact v1 i (by first | omega | (dsimp only; omega))
        · simp only
          rw [f2.2 _ _ (by first | omega | (dsimp only; omega)), v1 i (by first | omega | (dsimp only; omega))]
          decide
    · rcases hb2 with hb2 | ⟨j, h1, h2, rfl⟩
      · have hle : a2 ≤ 80 := by rw [i_le]; rw [i_lt] at hb2; have : (80 : Int32).toInt = 80 := rfl; have : (0 : Int32).toInt = 0 := rfl; omega
        have hlt : ¬ (0 : Int32) ≤ a2 := by rw [i_le]; rw [i_lt] at hb2; omega
        refine ⟨-3, cRef 5 mm, mMeet 5 (cRef 5 mm), ?_, ?_, rel_ref h (f := 5) (by first | omega | (dsimp only; omega))⟩
        · unfold fX11_text
          exact st_b (textOf_t hr) (st_c (st_t hle (st_f hlt (st_b (c_ref 5 rfl (by first | omega | (dsimp only; omega))) rfl))))
        · unfold fX12_text
          exact st_b (isText_t hr) (st_f (by decide) (st_t hle (st_f hlt (st_b (m_meet 5 rfl (by first | omega | (dsimp only; omega))) rfl))))
      · refine ⟨-1, mm, mm, ?_, ?_, h⟩
        · unfold fX11_text
          exact st_b (textOf_t hr) (st_c (st_f (nI_ge (by first | omega | (dsimp only; omega)) (by first | omega | (dsimp only; omega))) rfl))
        · unfold fX12_text
          exact st_b (isText_t hr) (st_f (by decide) (st_f (nI_ge (by first | omega | (dsimp only; omega)) (by first | omega | (dsimp only; omega))) rfl))
  · refine ⟨-1, mm, mm, ?_, ?_, h⟩
    · unfold fX11_text
      exact st_b (textOf_n hb) (st_c0 rfl)
    · unfold fX12_text
      exact st_b (isText_n hb) (st_t rfl rfl)
theorem byte_rng (v : Int32) : -128 ≤ v.toInt8.toInt32.toInt ∧ v.toInt8.toInt32.toInt ≤ 127 := by
  rw [Int8.toInt_toInt32]
  have h1 := Int8.le_toInt v.toInt8
  have h2 := Int8.toInt_lt v.toInt8
  omega
theorem ok_7 {N : Nat} : OK_7 N Rel := by
  intro a1 a2 a3 mm h
  rcases rng a1 4 with ⟨r, hr, -, rfl⟩ | hb
  · rcases h.2.1 r hr with ⟨e1, e2⟩ | ⟨n, hn, e1, e2, hv⟩
    · refine ⟨-3, cRef 1 mm, mMeet 1 (cRef 1 mm), ?_, ?_, rel_ref h (f := 1) (by first | omega | (dsimp only; omega))⟩
      · unfold fX11_put
        exact st_b (textOf_t hr) (st_c (st_b (miss_t e1) (st_f (by decide) (st_b (c_ref 1 rfl (by first | omega | (dsimp only; omega))) rfl))))
      · unfold fX12_put
        exact st_b (askedText_0 hr (by rw [rd_cRef (by first | omega | (dsimp only; omega)) (by first | omega | (dsimp only; omega))]; exact e2)) (st_f (by decide) rfl)
    · rcases rng a2 n with ⟨i, hi, -, rfl⟩ | hb2
      · refine ⟨rd mm (108 + 2 * r) i + 1000, wr mm (108 + 2 * r) i a3.toInt8.toInt32, wr (wr mm (108 + 2 * r) i a3.toInt8.toInt32) 181 (80 * r + i) a3.toInt8.toInt32, ?_, ?_, ?_⟩
        · unfold fX11_put
          refine st_b (textOf_t hr) (st_c (st_b (miss_f e1 (by first | omega | (dsimp only; omega))) (st_t rfl (st_b (has_t e1 (by first | omega | (dsimp only; omega)) hi) (st_f (by decide) ?_)))))
          rw [fr_txt hr, nI_nat (by first | omega | (dsimp only; omega))]
          exact st_k (ln_txt hr) (by first | omega | (dsimp only; omega)) (by first | omega | (dsimp only; omega)) (st_n (st_k (ln_txt hr) (by first | omega | (dsimp only; omega)) (by first | omega | (dsimp only; omega)) (st_n rfl)))
        · unfold fX12_put
          have e3 : rd (wr mm (108 + 2 * r) i a3.toInt8.toInt32) 180 r = nI n := by rw [rd_wr_k (by first | omega | (dsimp only; omega))]; exact e2
          refine st_b (askedText_1 hr e3 (by first | omega | (dsimp only; omega))) (st_t (by decide) ?_)
          rw [n80]
          simp only [LXm, nI_nat (show r < 2147483648 by omega), nI_nat (show 80 * r + i < 2147483648 by omega), e3]
          refine st_k rfl hr (by first | omega | (dsimp only; omega)) (st_b (in_n rfl hi (by first | omega | (dsimp only; omega))) (st_f (by decide) (st_k rfl (by first | omega | (dsimp only; omega)) (by first | omega | (dsimp only; omega)) (st_n (st_k rfl (by first | omega | (dsimp only; omega)) (by first | omega | (dsimp only; omega)) (st_n ?_))))))
          rw [rd_wr_k (by first | omega | (dsimp only; omega)), show rd mm 181 (80 * r + i) = rd mm (108 + 2 * r) i from (hv i hi).1.symm]
        · refine Rel_RT h (fun k j e hp => ?_) rfl (RT_upd h.2.1 (r := r) (fun k j e => ?_) (Or.inr ⟨n, by omega, ?_, ?_, fun q hq => ⟨?_, ?_⟩⟩))
          · unfold PT at hp
            rw [rd_wr, if_neg (by first | omega | (dsimp only; omega)), rd_wr, if_neg (by first | omega | (dsimp only; omega))]
          · rw [rd_wr, if_neg (by first | omega | (dsimp only; omega)), rd_wr, if_neg (by first | omega | (dsimp only; omega))]
          · rw [rd_wr, if_neg (by first | omega | (dsimp only; omega)), rd_wr, if_neg (by first | omega | (dsimp only; omega))]; exact e1
          · rw [rd_wr, if_neg (by first | omega | (dsimp only; omega)), rd_wr, if_neg (by first | omega | (dsimp only; omega))]; exact e2
          · simp only
            by_cases hqi : q = i
            · subst hqi
              rw [rd_wr_k (by first | omega | (dsimp only; omega)), rd_wr_s, rd_wr_s]
            · rw [rd_wr_k (by first | omega | (dsimp only; omega)), rd_wr_j hqi, rd_wr_j (by first | omega | (dsimp only; omega)), rd_wr_k (by first | omega | (dsimp only; omega))]
              exact (hv q hq).1
          · simp only
            by_cases hqi : q = i
            · subst hqi
              rw [rd_wr_k (by first | omega | (dsimp only; omega)), rd_wr_s]
              exact byte_rng a3
            · rw [rd_wr_k (by first | omega | (dsimp only; omega)), rd_wr_j hqi]
              exact (hv q hq).2
      · refine ⟨-3, cRef 2 mm, mMeet 2 (cRef 2 mm), ?_, ?_, rel_ref h (f := 2) (by first | omega | (dsimp only; omega))⟩
        · unfold fX11_put
          exact st_b (textOf_t hr) (st_c (st_b (miss_f e1 (by first | omega | (dsimp only; omega))) (st_t rfl (st_b (has_f e1 hb2) (st_t rfl (st_b (c_ref 2 rfl (by first | omega | (dsimp only; omega))) rfl))))))
        · unfold fX12_put
          have e3 : rd (cRef 2 mm) 180 r = nI n := by rw [rd_cRef (by first | omega | (dsimp only; omega)) (by first | omega | (dsimp only; omega))]; exact e2
          refine st_b (askedText_1 hr e3 (by first | omega | (dsimp only; omega))) (st_t (by decide) ?_)
          simp only [LXm, nI_nat (show r < 2147483648 by omega), e3]
          exact st_k rfl hr (by first | omega | (dsimp only; omega)) (st_b (in_o rfl hb2 (by first | omega | (dsimp only; omega))) (st_t rfl (st_b (m_meet 2 rfl (by first | omega | (dsimp only; omega))) rfl)))
  · refine ⟨-1, mm, mm, ?_, ?_, h⟩
    · unfold fX11_put
      exact st_b (textOf_n hb) (st_c0 rfl)
    · unfold fX12_put
      exact st_b (askedText_n hb) (st_f (by decide) rfl)
