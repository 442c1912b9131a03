/-! pure: fault -/
/-- what both read of a text -/
theorem txt_both {N t L : Nat} {mm : Mm} (hN : 100000 ≤ N) (h : RT mm) (ht : t < 4) (hL : rd mm (107 + 2 * t) 1 = nI L) (hL80 : L ≤ 80) (hM : rd mm 180 t = nI L) (hv : ∀ i, i < L → rd mm (108 + 2 * t) i = rd mm 181 (80 * t + i) ∧ -128 ≤ (rd mm (108 + 2 * t) i).toInt ∧ (rd mm (108 + 2 * t) i).toInt ≤ 127) : TXc mm (107 + 2 * t) L (fun i => rd mm (108 + 2 * t) i) ∧ TXm mm t L (fun i => rd mm (108 + 2 * t) i) := by
  refine ⟨⟨hL80, hL, ?_, ?_, by omega, by omega, fun i hi => ?_⟩, hL80, ht, hM, fun i hi => (hv i hi).1.symm, fun i hi => (hv i hi).2⟩
  · rw [fr_txt ht]; omega
  · rw [show 107 + 2 * t + 1 = 108 + 2 * t by omega]; exact ln_txt ht
  · rw [show 107 + 2 * t + 1 = 108 + 2 * t by omega]
theorem ok_8 {N : Nat} (hN : 100000 ≤ N) : OK_8 N Rel := by
  intro a1 mm h
  rcases rng a1 4 with ⟨t, ht, -, rfl⟩ | hb
  rotate_left
  · refine ⟨-1, mm, mm, ?_, ?_, h⟩
    · unfold fX11_fault
      exact st_b (textOf_n hb) (st_c0 rfl)
    · unfold fX12_fault
      exact st_b (askedText_n hb) (st_f (by decide) rfl)
  rcases h.2.1 t ht with ⟨e1, e2⟩ | ⟨L, hL, e1, e2, hv⟩
  · refine ⟨-3, cRef 1 mm, mMeet 1 (cRef 1 mm), ?_, ?_, rel_ref h (f := 1) (by first | omega | (dsimp only; omega))⟩
    · unfold fX11_fault
      exact st_b (textOf_t ht) (st_c (st_b (miss_t e1) (st_f (by decide) (st_b (c_ref 1 rfl (by first | omega | (dsimp only; omega))) rfl))))
    · unfold fX12_fault
      exact st_b (askedText_0 ht (by rw [rd_cRef (by first | omega | (dsimp only; omega)) (by first | omega | (dsimp only; omega))]; exact e2)) (st_f (by decide) rfl)
  · obtain ⟨X, XM⟩ := txt_both hN h.2.1 ht e1 hL e2 hv
    obtain ⟨m1, c1, f1, -⟩ := cread_e (N := N) hN X
    have XM1 := XM.c (m2 := m1) (fun k j e => f1.2 _ _ (by unfold FrR; omega))
    obtain ⟨m2, c2, f2, -⟩ := mread_e (N := N) hN XM1
    refine ⟨oV (-9) (rdN (fun i => rd mm (108 + 2 * t) i) L).1, m1, m2, ?_, ?_, ?_⟩
    · unfold fX11_fault
      refine st_b (textOf_t ht) (st_c (st_b (miss_f e1 (by first | omega | (dsimp only; omega))) (st_t rfl ?_)))
      simp only [LXa]
      exact st_b c1 rfl
    · unfold fX12_fault
      exact st_b (askedText_1 ht XM1.2.2.1 (by first | omega | (dsimp only; omega))) (st_t (by decide) (st_b c2 rfl))
    · refine Rel_row (r := 6) h ((f1.mono (fun k j e => Or.inl ?_)).tr (f2.mono (fun k j e => Or.inr (Or.inl ?_)))) ?_ ?_ (fun q => by omega)
      · unfold ScC; unfold FrR at e; omega
      · unfold ScM; omega
      · exact RA_c h.2.2.2.2.1 (fun k e => by rw [f2.2 _ _ (by first | omega | (dsimp only; omega)), f1.2 _ _ (by unfold FrR; omega)])
      · rw [f2.2 _ _ (by first | omega | (dsimp only; omega)), f1.2 _ _ (by unfold FrR; omega), f2.2 _ _ (by first | omega | (dsimp only; omega)), f1.2 _ _ (by unfold FrR; omega)]
        exact h.2.2.2.1.2.2.1
