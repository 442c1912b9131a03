/-! pure: suit, mark, stock, damp, lender, back -/
def PC (k j : Nat) : Prop := (4 ≤ k ∧ k ≤ 16) ∨ (k = 3 ∧ (j = 6 ∨ j = 7)) ∨ k = 183 ∨ k = 192 ∨ k = 193 ∨ (k = 175 ∧ (j = 13 ∨ j = 37)) ∨ (k = 52 ∧ j = 2)
theorem Rel_RC {mm m2 : Mm} (h : Rel mm) (e : ∀ k j, Es k j = true → ¬ PC k j → rd m2 k j = rd mm k j) (e2 : m2.2 = mm.2) (h4 : ∀ n, n ≤ 6 → RCm mm n → RCm m2 n) (h8 : RTT m2) : Rel m2 := by
  obtain ⟨g1, g2, ⟨n, g3, g4, g5⟩, g6, g7, -⟩ := h
  have hn := g3.1
  refine ⟨?_, ?_, ⟨n, ?_, h4 n hn g4, ?_⟩, ?_, ?_, h8⟩
  · exact RR_c g1 (fun i j z => e i j (eRR z) (by unfold PC; omega))
  · exact RT_c g2 (fun i j z => e i j (eRT z) (by unfold PC; omega))
  · exact RS_c g3 (fun i j z => e i j (eRS z) (by unfold PC; omega))
  · exact fun q hq => RKt_c (g5 q hq) hn hq (fun i j z => e i j (eRK z) (by unfold PC; omega))
  · exact RF_c g6 (fun i j z => e i j (eRF z) (by unfold PC; omega)) (fun i j z => by unfold rdL; rw [e2])
  · exact RA_c g7 (fun i z => e i 0 (eRA z) (by unfold PC; omega))
theorem ok_12 {N : Nat} : OK_12 N Rel := by
  intro a1 a2 mm h
  rcases rng a1 2 with ⟨s, hs, -, rfl⟩ | hb
  · rcases rng a2 41 with ⟨v, hv, -, rfl⟩ | hb2
    · obtain ⟨n, -, g4, -⟩ := h.2.2.1
      have g := (g4.1 s hs).1
      refine ⟨rd mm 5 s, wr mm 5 s (nI v), wr (wr mm 5 s (nI v)) 183 s (nI v), ?_, ?_, ?_⟩
      · unfold fX11_stock
        simp only [LXa, nI_nat (show s < 2147483648 by omega)]
        exact st_f (nI_pos (by first | omega | (dsimp only; omega))) (st_f (nI_nlt (by first | omega | (dsimp only; omega)) (by first | omega | (dsimp only; omega))) (st_f (nI_pos (by first | omega | (dsimp only; omega))) (st_t (nI_le (by first | omega | (dsimp only; omega)) (by first | omega | (dsimp only; omega))) (st_k rfl hs (by first | omega | (dsimp only; omega)) (st_n (st_k rfl hs (by first | omega | (dsimp only; omega)) (st_n rfl)))))))
      · unfold fX12_stock
        refine st_b (in_t (nI_pos (by first | omega | (dsimp only; omega))) (nI_nlt (by first | omega | (dsimp only; omega)) (by first | omega | (dsimp only; omega)))) (st_f (by decide) (st_b (in_t (nI_pos (by first | omega | (dsimp only; omega))) (nI_nlt (by first | omega | (dsimp only; omega)) (by first | omega | (dsimp only; omega)))) (st_f (by decide) ?_)))
        simp only [LXm, nI_nat (show s < 2147483648 by omega)]
        refine st_k rfl hs (by first | omega | (dsimp only; omega)) (st_n (st_k rfl hs (by first | omega | (dsimp only; omega)) (st_n ?_)))
        rw [rd_wr_k (by first | omega | (dsimp only; omega))]
        exact congrArg (fun q => some (q, _)) g.symm
      · refine Rel_RC h (fun k j e hp => ?_) rfl (fun n hn g4 => ?_) (RTT_c h.2.2.2.2.2 (fun k j e => ?_))
        · unfold PC at hp
          rw [rd_wr, if_neg (by first | omega | (dsimp only; omega)), rd_wr, if_neg (by first | omega | (dsimp only; omega))]
        · obtain ⟨a1, a2, a3, a4, a5, en, a6, a7, a8⟩ := g4
          refine ⟨fun q hq => ?_, by rw [rd_wr, if_neg (by first | omega | (dsimp only; omega)), rd_wr, if_neg (by first | omega | (dsimp only; omega)), rd_wr, if_neg (by first | omega | (dsimp only; omega)), rd_wr, if_neg (by first | omega | (dsimp only; omega))]; exact a2, by rw [rd_wr, if_neg (by first | omega | (dsimp only; omega)), rd_wr, if_neg (by first | omega | (dsimp only; omega))]; exact a3, fun q hq => ?_, by rw [rd_wr, if_neg (by first | omega | (dsimp only; omega)), rd_wr, if_neg (by first | omega | (dsimp only; omega)), rd_wr, if_neg (by first | omega | (dsimp only; omega)), rd_wr, if_neg (by first | omega | (dsimp only; omega))]; exact a5, en, a6, by rw [rd_wr, if_neg (by first | omega | (dsimp only; omega)), rd_wr, if_neg (by first | omega | (dsimp only; omega))]; exact a7, fun q hq => ?_⟩
          · simp only
            by_cases hqs : q = s
            · subst hqs
              rw [rd_wr_k (by first | omega | (dsimp only; omega)), rd_wr_s, rd_wr_s]
              exact ⟨rfl, v, by omega, rfl⟩
            · rw [rd_wr, if_neg (by first | omega | (dsimp only; omega)), rd_wr, if_neg (by first | omega | (dsimp only; omega)), rd_wr, if_neg (by first | omega | (dsimp only; omega)), rd_wr, if_neg (by first | omega | (dsimp only; omega))]
              exact a1 q hq
          · simp only
            rw [rd_wr, if_neg (by first | omega | (dsimp only; omega)), rd_wr, if_neg (by first | omega | (dsimp only; omega)), rd_wr, if_neg (by first | omega | (dsimp only; omega)), rd_wr, if_neg (by first | omega | (dsimp only; omega))]
            exact a4 q hq
          · obtain ⟨b1, b2, b3⟩ := a8 q hq
            refine ⟨fun i hi => ?_, ?_, ?_⟩
            · simp only
              rw [rd_wr, if_neg (by first | omega | (dsimp only; omega)), rd_wr, if_neg (by first | omega | (dsimp only; omega)), rd_wr, if_neg (by first | omega | (dsimp only; omega)), rd_wr, if_neg (by first | omega | (dsimp only; omega))]
              exact b1 i hi
            · simp only
              rw [rd_wr, if_neg (by first | omega | (dsimp only; omega)), rd_wr, if_neg (by first | omega | (dsimp only; omega)), rd_wr, if_neg (by first | omega | (dsimp only; omega)), rd_wr, if_neg (by first | omega | (dsimp only; omega))]
              exact b2
            · simp only
              rw [rd_wr, if_neg (by first | omega | (dsimp only; omega)), rd_wr, if_neg (by first | omega | (dsimp only; omega))]
              exact b3
        · rw [rd_wr, if_neg (by first | omega | (dsimp only; omega)), rd_wr, if_neg (by first | omega | (dsimp only; omega))]
    · refine ⟨-1, mm, mm, ?_, ?_, h⟩
      · unfold fX11_stock
        refine st_f (nI_pos (by first | omega | (dsimp only; omega))) (st_f (nI_nlt (by first | omega | (dsimp only; omega)) (by first | omega | (dsimp only; omega))) ?_)
        rcases hb2 with hb2 | ⟨j, h1, h2, rfl⟩
        · exact st_t hb2 rfl
        · exact st_f (nI_pos h2) (st_f (nI_ge (by first | omega | (dsimp only; omega)) h2) rfl)
      · unfold fX12_stock
        exact st_b (in_t (nI_pos (by first | omega | (dsimp only; omega))) (nI_nlt (by first | omega | (dsimp only; omega)) (by first | omega | (dsimp only; omega)))) (st_f (by decide) (st_b (in_o (n := 41) rfl hb2 (by first | omega | (dsimp only; omega))) (st_t rfl rfl)))
  · refine ⟨-1, mm, mm, ?_, ?_, h⟩
    · unfold fX11_stock
      rcases hb with hb | ⟨j, h1, h2, rfl⟩
      · exact st_t hb rfl
      · exact st_f (nI_pos h2) (st_t (nI_lt (by first | omega | (dsimp only; omega)) h2) rfl)
    · unfold fX12_stock
      exact st_b (in_o (n := 2) rfl hb (by first | omega | (dsimp only; omega))) (st_t rfl rfl)
theorem ok_13 {N : Nat} : OK_13 N Rel := by
  intro a1 mm h
  rcases rng a1 10 with ⟨v, hv, -, rfl⟩ | hb
  · obtain ⟨n, -, g4, -⟩ := h.2.2.1
    have g := g4.2.1
    refine ⟨rd mm 3 6, wr (wr mm 3 6 (nI v)) 52 2 0, wr (wr (wr mm 3 6 (nI v)) 52 2 0) 175 13 (nI v), ?_, ?_, ?_⟩
    · unfold fX11_damp fX10_forget
      simp only [LXa]
      exact st_f (nI_pos (by first | omega | (dsimp only; omega))) (st_t (nI_le (by first | omega | (dsimp only; omega)) (by first | omega | (dsimp only; omega))) (st_n (st_b (st_n rfl) rfl)))
    · unfold fX12_damp
      refine st_b (in_t (nI_pos (by first | omega | (dsimp only; omega))) (nI_nlt (by first | omega | (dsimp only; omega)) (by first | omega | (dsimp only; omega)))) (st_f (by decide) (st_n ?_))
      rw [rd_wr_k (by first | omega | (dsimp only; omega)), rd_wr_k (by first | omega | (dsimp only; omega))]
      exact congrArg (fun q => some (q, _)) g.symm
    · refine Rel_RC h (fun k j e hp => ?_) rfl (fun n hn g4 => ?_) (Or.inl ?_)
      · unfold PC at hp
        rw [rd_wr, if_neg (by first | omega | (dsimp only; omega)), rd_wr, if_neg (by first | omega | (dsimp only; omega)), rd_wr, if_neg (by first | omega | (dsimp only; omega))]
      · obtain ⟨a1, a2, a3, a4, a5, en, a6, a7, a8⟩ := g4
        refine ⟨fun q hq => ?_, by rw [rd_wr_k (by first | omega | (dsimp only; omega)), rd_wr_k (by first | omega | (dsimp only; omega)), rd_wr_s, rd_wr_s], by rw [rd_wr_s]; exact ⟨v, by omega, rfl⟩, fun q hq => ?_, ?_, en, a6, ?_, fun q hq => ?_⟩
        · simp only
          rw [rd_wr, if_neg (by first | omega | (dsimp only; omega)), rd_wr, if_neg (by first | omega | (dsimp only; omega)), rd_wr, if_neg (by first | omega | (dsimp only; omega)), rd_wr, if_neg (by first | omega | (dsimp only; omega)), rd_wr, if_neg (by first | omega | (dsimp only; omega)), rd_wr, if_neg (by first | omega | (dsimp only; omega))]
          exact a1 q hq
        · simp only
          rw [rd_wr, if_neg (by first | omega | (dsimp only; omega)), rd_wr, if_neg (by first | omega | (dsimp only; omega)), rd_wr, if_neg (by first | omega | (dsimp only; omega)), rd_wr, if_neg (by first | omega | (dsimp only; omega)), rd_wr, if_neg (by first | omega | (dsimp only; omega)), rd_wr, if_neg (by first | omega | (dsimp only; omega))]
          exact a4 q hq
        · rw [rd_wr, if_neg (by first | omega | (dsimp only; omega)), rd_wr, if_neg (by first | omega | (dsimp only; omega)), rd_wr, if_neg (by first | omega | (dsimp only; omega)), rd_wr, if_neg (by first | omega | (dsimp only; omega)), rd_wr, if_neg (by first | omega | (dsimp only; omega)), rd_wr, if_neg (by first | omega | (dsimp only; omega))]
          exact a5
        · rw [rd_wr, if_neg (by first | omega | (dsimp only; omega)), rd_wr, if_neg (by first | omega | (dsimp only; omega)), rd_wr, if_neg (by first | omega | (dsimp only; omega))]
          exact a7
        · obtain ⟨b1, b2, b3⟩ := a8 q hq
          refine ⟨fun i hi => ?_, ?_, ?_⟩
          · simp only
            rw [rd_wr, if_neg (by first | omega | (dsimp only; omega)), rd_wr, if_neg (by first | omega | (dsimp only; omega)), rd_wr, if_neg (by first | omega | (dsimp only; omega)), rd_wr, if_neg (by first | omega | (dsimp only; omega)), rd_wr, if_neg (by first | omega | (dsimp only; omega)), rd_wr, if_neg (by first | omega | (dsimp only; omega))]
            exact b1 i hi
          · simp only
            rw [rd_wr, if_neg (by first | omega | (dsimp only; omega)), rd_wr, if_neg (by first | omega | (dsimp only; omega)), rd_wr, if_neg (by first | omega | (dsimp only; omega)), rd_wr, if_neg (by first | omega | (dsimp only; omega)), rd_wr, if_neg (by first | omega | (dsimp only; omega)), rd_wr, if_neg (by first | omega | (dsimp only; omega))]
            exact b2
          · simp only
            rw [rd_wr, if_neg (by first | omega | (dsimp only; omega)), rd_wr, if_neg (by first | omega | (dsimp only; omega)), rd_wr, if_neg (by first | omega | (dsimp only; omega))]
            exact b3
      · rw [rd_wr_k (by first | omega | (dsimp only; omega)), rd_wr_s]
  · refine ⟨-1, mm, mm, ?_, ?_, h⟩
    · unfold fX11_damp
      rcases hb with hb | ⟨j, h1, h2, rfl⟩
      · exact st_t hb rfl
      · exact st_f (nI_pos h2) (st_f (nI_ge (by first | omega | (dsimp only; omega)) h2) rfl)
    · unfold fX12_damp
      exact st_b (in_o (n := 10) rfl hb (by first | omega | (dsimp only; omega))) (st_t rfl rfl)
theorem ok_26 {N : Nat} : OK_26 N Rel := by
  intro a1 a2 mm h
  rcases rng a1 4 with ⟨s, hs, -, rfl⟩ | hb
  · rcases rng a2 21 with ⟨v, hv, -, rfl⟩ | hb2
    · obtain ⟨n, -, g4, -⟩ := h.2.2.1
      have g := (g4.2.2.2.1 s hs).1
      refine ⟨rd mm 6 s, wr mm 6 s (nI v), wr (wr mm 6 s (nI v)) 192 s (nI v), ?_, ?_, ?_⟩
      · unfold fX11_lender
        simp only [LXa, nI_nat (show s < 2147483648 by omega)]
        exact st_f (nI_pos (by first | omega | (dsimp only; omega))) (st_f (nI_ge (by first | omega | (dsimp only; omega)) (by first | omega | (dsimp only; omega))) (st_f (nI_pos (by first | omega | (dsimp only; omega))) (st_t (nI_le (by first | omega | (dsimp only; omega)) (by first | omega | (dsimp only; omega))) (st_k rfl hs (by first | omega | (dsimp only; omega)) (st_n (st_k rfl hs (by first | omega | (dsimp only; omega)) (st_n rfl)))))))
      · unfold fX12_lender
        refine st_b (in_t (nI_pos (by first | omega | (dsimp only; omega))) (nI_nlt (by first | omega | (dsimp only; omega)) (by first | omega | (dsimp only; omega)))) (st_f (by decide) (st_b (in_t (nI_pos (by first | omega | (dsimp only; omega))) (nI_nlt (by first | omega | (dsimp only; omega)) (by first | omega | (dsimp only; omega)))) (st_f (by decide) ?_)))
        simp only [LXm, nI_nat (show s < 2147483648 by omega)]
        refine st_k rfl hs (by first | omega | (dsimp only; omega)) (st_n (st_k rfl hs (by first | omega | (dsimp only; omega)) (st_n ?_)))
        rw [rd_wr_k (by first | omega | (dsimp only; omega))]
        exact congrArg (fun q => some (q, _)) g.symm
      · refine Rel_RC h (fun k j e hp => ?_) rfl (fun n hn g4 => ?_) (RTT_c h.2.2.2.2.2 (fun k j e => ?_))
        · unfold PC at hp
          rw [rd_wr, if_neg (by first | omega | (dsimp only; omega)), rd_wr, if_neg (by first | omega | (dsimp only; omega))]
        · obtain ⟨a1, a2, a3, a4, a5, en, a6, a7, a8⟩ := g4
          refine ⟨fun q hq => ?_, by rw [rd_wr, if_neg (by first | omega | (dsimp only; omega)), rd_wr, if_neg (by first | omega | (dsimp only; omega)), rd_wr, if_neg (by first | omega | (dsimp only; omega)), rd_wr, if_neg (by first | omega | (dsimp only; omega))]; exact a2, by rw [rd_wr, if_neg (by first | omega | (dsimp only; omega)), rd_wr, if_neg (by first | omega | (dsimp only; omega))]; exact a3, fun q hq => ?_, by rw [rd_wr, if_neg (by first | omega | (dsimp only; omega)), rd_wr, if_neg (by first | omega | (dsimp only; omega)), rd_wr, if_neg (by first | omega | (dsimp only; omega)), rd_wr, if_neg (by first | omega | (dsimp only; omega))]; exact a5, en, a6, by rw [rd_wr, if_neg (by first | omega | (dsimp only; omega)), rd_wr, if_neg (by first | omega | (dsimp only; omega))]; exact a7, fun q hq => ?_⟩
          · simp only
            rw [rd_wr, if_neg (by first | omega | (dsimp only; omega)), rd_wr, if_neg (by first | omega | (dsimp only; omega)), rd_wr, if_neg (by first | omega | (dsimp only; omega)), rd_wr, if_neg (by first | omega | (dsimp only; omega))]
            exact a1 q hq
          · simp only
            by_cases hqs : q = s
            · subst hqs
              rw [rd_wr_k (by first | omega | (dsimp only; omega)), rd_wr_s, rd_wr_s]
              exact ⟨rfl, v, by omega, rfl⟩
            · rw [rd_wr, if_neg (by first | omega | (dsimp only; omega)), rd_wr, if_neg (by first | omega | (dsimp only; omega)), rd_wr, if_neg (by first | omega | (dsimp only; omega)), rd_wr, if_neg (by first | omega | (dsimp only; omega))]
              exact a4 q hq
          · obtain ⟨b1, b2, b3⟩ := a8 q hq
            refine ⟨fun i hi => ?_, ?_, ?_⟩
            · simp only
              rw [rd_wr, if_neg (by first | omega | (dsimp only; omega)), rd_wr, if_neg (by first | omega | (dsimp only; omega)), rd_wr, if_neg (by first | omega | (dsimp only; omega)), rd_wr, if_neg (by first | omega | (dsimp only; omega))]
              exact b1 i hi
            · simp only
              rw [rd_wr, if_neg (by first | omega | (dsimp only; omega)), rd_wr, if_neg (by first | omega | (dsimp only; omega)), rd_wr, if_neg (by first | omega | (dsimp only; omega)), rd_wr, if_neg (by first | omega | (dsimp only; omega))]
              exact b2
            · simp only
              rw [rd_wr, if_neg (by first | omega | (dsimp only; omega)), rd_wr, if_neg (by first | omega | (dsimp only; omega))]
              exact b3
        · rw [rd_wr, if_neg (by first | omega | (dsimp only; omega)), rd_wr, if_neg (by first | omega | (dsimp only; omega))]
    · refine ⟨-1, mm, mm, ?_, ?_, h⟩
      · unfold fX11_lender
        refine st_f (nI_pos (by first | omega | (dsimp only; omega))) (st_f (nI_ge (by first | omega | (dsimp only; omega)) (by first | omega | (dsimp only; omega))) ?_)
        rcases hb2 with hb2 | ⟨j, h1, h2, rfl⟩
        · exact st_t hb2 rfl
        · exact st_f (nI_pos h2) (st_f (nI_ge (by first | omega | (dsimp only; omega)) h2) rfl)
      · unfold fX12_lender
        exact st_b (in_t (nI_pos (by first | omega | (dsimp only; omega))) (nI_nlt (by first | omega | (dsimp only; omega)) (by first | omega | (dsimp only; omega)))) (st_f (by decide) (st_b (in_o (n := 21) rfl hb2 (by first | omega | (dsimp only; omega))) (st_t rfl rfl)))
  · refine ⟨-1, mm, mm, ?_, ?_, h⟩
    · unfold fX11_lender
      rcases hb with hb | ⟨j, h1, h2, rfl⟩
      · exact st_t hb rfl
      · exact st_f (nI_pos h2) (st_t (nI_le (by first | omega | (dsimp only; omega)) h2) rfl)
    · unfold fX12_lender
      exact st_b (in_o (n := 4) rfl hb (by first | omega | (dsimp only; omega))) (st_t rfl rfl)
theorem ok_33 {N : Nat} : OK_33 N Rel := by
  intro a1 mm h
  obtain ⟨n, -, g4, -⟩ := h.2.2.1
  obtain ⟨-, -, -, -, a5, en, a6, a7, -⟩ := g4
  have a5' : rd mm 3 7 = nI en := a5.trans a7
  rcases rng a1 (en + 1) with ⟨v, hv, -, rfl⟩ | hb
  · refine ⟨nI (en - v), wr mm 3 7 (nI v), wr (wr mm 3 7 (nI v)) 175 37 (nI v), ?_, ?_, ?_⟩
    · unfold fX11_back
      simp only [LXa, a5']
      refine st_f (nI_pos (by first | omega | (dsimp only; omega))) (st_t (nI_le (by first | omega | (dsimp only; omega)) (by first | omega | (dsimp only; omega))) (st_n ?_))
      rw [nI_sub (by first | omega | (dsimp only; omega))]
    · unfold fX12_back
      rw [rd_wr_k (by first | omega | (dsimp only; omega)), a7]
      refine st_b (in_t (nI_pos (by first | omega | (dsimp only; omega))) (nI_nlt (by first | omega | (dsimp only; omega)) (by first | omega | (dsimp only; omega)))) (st_f (by decide) (st_n ?_))
      rw [rd_wr_k (by first | omega | (dsimp only; omega)), a7, nI_sub (by first | omega | (dsimp only; omega))]
    · refine Rel_RC h (fun k j e hp => ?_) rfl (fun n hn g4 => ?_) (RTT_c h.2.2.2.2.2 (fun k j e => ?_))
      · unfold PC at hp
        rw [rd_wr, if_neg (by first | omega | (dsimp only; omega)), rd_wr, if_neg (by first | omega | (dsimp only; omega))]
      · obtain ⟨a1, a2, a3, a4, a5, en', a6, a7', a8⟩ := g4
        have hee : en' = en := nI_inj (a7'.symm.trans a7) (by first | omega | (dsimp only; omega)) (by first | omega | (dsimp only; omega))
        subst hee
        refine ⟨fun q hq => ?_, by rw [rd_wr, if_neg (by first | omega | (dsimp only; omega)), rd_wr, if_neg (by first | omega | (dsimp only; omega)), rd_wr, if_neg (by first | omega | (dsimp only; omega)), rd_wr, if_neg (by first | omega | (dsimp only; omega))]; exact a2, by rw [rd_wr, if_neg (by first | omega | (dsimp only; omega)), rd_wr, if_neg (by first | omega | (dsimp only; omega))]; exact a3, fun q hq => ?_, by rw [rd_wr_k (by first | omega | (dsimp only; omega)), rd_wr_s, rd_wr_s], v, by omega, by rw [rd_wr_s], fun q hq => ?_⟩
        · simp only
          rw [rd_wr, if_neg (by first | omega | (dsimp only; omega)), rd_wr, if_neg (by first | omega | (dsimp only; omega)), rd_wr, if_neg (by first | omega | (dsimp only; omega)), rd_wr, if_neg (by first | omega | (dsimp only; omega))]
          exact a1 q hq
        · simp only
          rw [rd_wr, if_neg (by first | omega | (dsimp only; omega)), rd_wr, if_neg (by first | omega | (dsimp only; omega)), rd_wr, if_neg (by first | omega | (dsimp only; omega)), rd_wr, if_neg (by first | omega | (dsimp only; omega))]
          exact a4 q hq
        · obtain ⟨b1, b2, b3⟩ := a8 q (by first | omega | (dsimp only; omega))
          refine ⟨fun i hi => ?_, ?_, ?_⟩
          · simp only
            rw [rd_wr, if_neg (by first | omega | (dsimp only; omega)), rd_wr, if_neg (by first | omega | (dsimp only; omega)), rd_wr, if_neg (by first | omega | (dsimp only; omega)), rd_wr, if_neg (by first | omega | (dsimp only; omega))]
            exact b1 i hi
          · simp only
            rw [rd_wr, if_neg (by first | omega | (dsimp only; omega)), rd_wr, if_neg (by first | omega | (dsimp only; omega)), rd_wr, if_neg (by first | omega | (dsimp only; omega)), rd_wr, if_neg (by first | omega | (dsimp only; omega))]
            exact b2
          · simp only
            rw [rd_wr, if_neg (by first | omega | (dsimp only; omega)), rd_wr, if_neg (by first | omega | (dsimp only; omega))]
            exact b3
      · rw [rd_wr, if_neg (by first | omega | (dsimp only; omega)), rd_wr, if_neg (by first | omega | (dsimp only; omega))]
  · refine ⟨-1, mm, mm, ?_, ?_, h⟩
    · unfold fX11_back
      simp only [LXa, a5']
      rcases hb with hb | ⟨j, h1, h2, rfl⟩
      · exact st_t hb rfl
      · exact st_f (nI_pos h2) (st_f (nI_ge (by first | omega | (dsimp only; omega)) h2) rfl)
    · unfold fX12_back
      rw [a7]
      rcases hb with hb | ⟨j, h1, h2, rfl⟩
      · exact st_b (in_f (Or.inl hb)) (st_t rfl rfl)
      · exact st_b (in_f (Or.inr (nI_lt (by first | omega | (dsimp only; omega)) h2))) (st_t rfl rfl)
theorem tells_e {N z w : Nat} {mm : Mm} (hw : w < 3) : fX9_tells N z (nI w) mm = some (rd mm z w, mm) := by
  unfold fX9_tells
  rcases (by omega : w = 0 ∨ w = 1 ∨ w = 2) with rfl | rfl | rfl <;> rfl
theorem ok_10 {N : Nat} : OK_10 N Rel := by
  intro a1 a2 mm h
  obtain ⟨n, g3, -, -⟩ := h.2.2.1
  obtain ⟨C, M⟩ := RS_CS g3
  have hn := C.2.1
  rcases rng a1 n with ⟨i, hi, -, rfl⟩ | hb
  · rcases rng a2 3 with ⟨w, hw, -, rfl⟩ | hb2
    · have hx : rd mm 182 (3 * i + w) = rd mm (17 + i) w := by
        obtain ⟨a, b, c, -⟩ := g3.2.2.2 i hi
        rcases (by omega : w = 0 ∨ w = 1 ∨ w = 2) with rfl | rfl | rfl
        · exact a
        · exact b
        · exact c
      refine ⟨1, wr mm 0 14 (rd mm (17 + i) w), _, ?_, ?_, rel_ask h (w := rd mm 182 (3 * i + w)) hx.symm⟩
      · unfold fX11_suit
        refine st_b (suitOf_t C hi) (st_c (st_f (nI_pos (by first | omega | (dsimp only; omega))) (st_t (nI_le (by first | omega | (dsimp only; omega)) (by first | omega | (dsimp only; omega))) (st_b (tells_e hw) ?_))))
        unfold fX11_told
        rfl
      · unfold fX12_suit
        have M2 : MS (wr mm 0 14 (rd mm (17 + i) w)) n (uK mm) (uW mm) (uF mm) := MS_c M (fun k j e => rd_wr_k (by first | omega | (dsimp only; omega)))
        refine st_b (isSuit_t M2 hi) (st_f (by decide) (st_b (in_t (nI_pos (by first | omega | (dsimp only; omega))) (nI_nlt (by first | omega | (dsimp only; omega)) (by first | omega | (dsimp only; omega)))) (st_f (by decide) (st_b (of_e (by first | omega | (dsimp only; omega)) hw) ?_))))
        unfold fX12_ask
        rw [rd_wr_k (by first | omega | (dsimp only; omega))]
        rfl
    · refine ⟨-1, mm, mm, ?_, ?_, h⟩
      · unfold fX11_suit
        refine st_b (suitOf_t C hi) (st_c ?_)
        rcases hb2 with hb2 | ⟨j, h1, h2, rfl⟩
        · exact st_t hb2 rfl
        · exact st_f (nI_pos h2) (st_f (nI_ge (by first | omega | (dsimp only; omega)) h2) rfl)
      · unfold fX12_suit
        exact st_b (isSuit_t M hi) (st_f (by decide) (st_b (in_o (n := 3) rfl hb2 (by first | omega | (dsimp only; omega))) (st_t rfl rfl)))
  · refine ⟨-1, mm, mm, ?_, ?_, h⟩
    · unfold fX11_suit
      exact st_b (suitOf_n C hb) (st_c0 rfl)
    · unfold fX12_suit
      exact st_b (isSuit_n M hb) (st_t rfl rfl)
