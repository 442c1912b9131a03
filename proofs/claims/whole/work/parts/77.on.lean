/-! pure: keep, on -/
section KeepM
variable {N k : Nat}
theorem mkp_n {mm0 : Mm} {w : Int32} (hk : k < 3) (h37 : rd mm0 175 37 = w) : ∀ m i mm, i + m = 56 → Fr (fun q j => q = 196 ∧ 72 * k ≤ j ∧ j < 72 * k + 72) mm0 mm → ∀ f, m < f → ∃ m', fX12_keep_107 N f 175 (nI (72 * k)) (nI i) mm = some (w, m') ∧ Fr (fun q j => q = 196 ∧ 72 * k + 8 + i ≤ j ∧ j < 72 * k + 64) mm m' ∧ ∀ j, i ≤ j → j < 56 → rd m' 196 (72 * k + 8 + j) = rd mm0 193 j := by
  intro m
  induction m with
  | zero =>
    intro i mm hi hF f hf
    obtain ⟨f, rfl⟩ : ∃ g, f = g + 1 := ⟨f - 1, by omega⟩
    refine ⟨mm, ?_, Fr.rf, fun j h1 h2 => by omega⟩
    unfold fX12_keep_107
    exact st_t (nI_le (by first | omega | (dsimp only; omega)) (by first | omega | (dsimp only; omega))) (by rw [hF.2 _ _ (by first | omega | (dsimp only; omega)), h37])
  | succ m ih =>
    intro i mm hi hF f hf
    obtain ⟨f, rfl⟩ : ∃ g, f = g + 1 := ⟨f - 1, by omega⟩
    obtain ⟨m', c1, f1, g1⟩ := ih (i + 1) (wr mm 196 (72 * k + 8 + i) (rd mm0 193 i)) (by first | omega | (dsimp only; omega)) (fr_wr hF ⟨rfl, by omega, by omega⟩) f (by first | omega | (dsimp only; omega))
    refine ⟨m', ?_, (fr_wr Fr.rf ⟨rfl, by omega, by omega⟩).tr (f1.mono (fun q j h => ⟨h.1, by omega, by omega⟩)), fun j h1 h2 => ?_⟩
    · unfold fX12_keep_107
      rw [show (8 : Int32) = nI 8 from rfl, nI_add, nI_add]
      simp only [LXm, nI_nat (show i < 2147483648 by omega), nI_nat (show 72 * k + 8 + i < 2147483648 by omega)]
      refine st_f (nI_ge (by first | omega | (dsimp only; omega)) (by first | omega | (dsimp only; omega))) (st_k rfl (by first | omega | (dsimp only; omega)) (by first | omega | (dsimp only; omega)) (st_k rfl (by first | omega | (dsimp only; omega)) (by first | omega | (dsimp only; omega)) (st_n ?_)))
      rw [hF.2 193 i (by first | omega | (dsimp only; omega)), nI_1]; exact c1
    · by_cases hj : j = i
      · subst hj; rw [f1.2 _ _ (by first | omega | (dsimp only; omega)), rd_wr_s]
      · exact g1 j (by first | omega | (dsimp only; omega)) h2
theorem mkp_l {mm0 : Mm} {w : Int32} (hN : 100000 ≤ N) (hk : k < 3) (h37 : rd mm0 175 37 = w) : ∀ m i mm, i + m = 4 → Fr (fun q j => q = 196 ∧ 72 * k ≤ j ∧ j < 72 * k + 72) mm0 mm → ∀ f, m < f → ∃ m', fX12_keep_78 N f 175 (nI (72 * k)) (nI i) mm = some (w, m') ∧ Fr (fun q j => q = 196 ∧ 72 * k + 4 + i ≤ j ∧ j < 72 * k + 64) mm m' ∧ (∀ j, i ≤ j → j < 4 → rd m' 196 (72 * k + 4 + j) = rd mm0 192 j) ∧ ∀ j, j < 56 → rd m' 196 (72 * k + 8 + j) = rd mm0 193 j := by
  intro m
  induction m with
  | zero =>
    intro i mm hi hF f hf
    obtain ⟨f, rfl⟩ : ∃ g, f = g + 1 := ⟨f - 1, by omega⟩
    obtain ⟨m', c1, f1, g1⟩ := mkp_n (N := N) hk h37 56 0 mm (by first | omega | (dsimp only; omega)) hF N (by first | omega | (dsimp only; omega))
    refine ⟨m', ?_, f1.mono (fun q j h => ⟨h.1, by omega, by omega⟩), fun j h1 h2 => by omega, fun j hj => g1 j (by first | omega | (dsimp only; omega)) hj⟩
    unfold fX12_keep_78
    exact st_t (nI_le (by first | omega | (dsimp only; omega)) (by first | omega | (dsimp only; omega))) c1
  | succ m ih =>
    intro i mm hi hF f hf
    obtain ⟨f, rfl⟩ : ∃ g, f = g + 1 := ⟨f - 1, by omega⟩
    obtain ⟨m', c1, f1, g1, g2⟩ := ih (i + 1) (wr mm 196 (72 * k + 4 + i) (rd mm0 192 i)) (by first | omega | (dsimp only; omega)) (fr_wr hF ⟨rfl, by omega, by omega⟩) f (by first | omega | (dsimp only; omega))
    refine ⟨m', ?_, (fr_wr Fr.rf ⟨rfl, by omega, by omega⟩).tr (f1.mono (fun q j h => ⟨h.1, by omega, by omega⟩)), fun j h1 h2 => ?_, g2⟩
    · unfold fX12_keep_78
      rw [show nI (72 * k) + 4 + nI i = nI (72 * k + 4 + i) by rw [show (4 : Int32) = nI 4 from rfl, nI_add, nI_add]]
      simp only [LXm, nI_nat (show i < 2147483648 by omega), nI_nat (show 72 * k + 4 + i < 2147483648 by omega)]
      refine st_f (nI_ge (by first | omega | (dsimp only; omega)) (by first | omega | (dsimp only; omega))) (st_k rfl (by first | omega | (dsimp only; omega)) (by first | omega | (dsimp only; omega)) (st_k rfl (by first | omega | (dsimp only; omega)) (by first | omega | (dsimp only; omega)) (st_n ?_)))
      rw [hF.2 192 i (by first | omega | (dsimp only; omega)), nI_1]; exact c1
    · by_cases hj : j = i
      · subst hj; rw [f1.2 _ _ (by first | omega | (dsimp only; omega)), rd_wr_s]
      · exact g1 j (by first | omega | (dsimp only; omega)) h2
theorem mkeep_e {mm : Mm} {n : Nat} (hN : 100000 ≤ N) (hk : k < 3) (h10 : rd mm 175 10 = nI n) (h0 : 0 < n) (hn : n ≤ 6) : ∃ m', fX12_keep N 175 (nI k) mm = some (rd mm 175 37, m') ∧ Fr (fun q j => q = 196 ∧ 72 * k ≤ j ∧ j < 72 * k + 72) mm m' ∧ rd m' 196 (72 * k) = rd mm 175 37 ∧ (∀ j, j < 2 → rd m' 196 (72 * k + 1 + j) = rd mm 183 j) ∧ rd m' 196 (72 * k + 3) = rd mm 175 13 ∧ (∀ j, j < 4 → rd m' 196 (72 * k + 4 + j) = rd mm 192 j) ∧ ∀ j, j < 56 → rd m' 196 (72 * k + 8 + j) = rd mm 193 j := by
  obtain ⟨m', c1, f1, g1, g2⟩ := mkp_l (N := N) (k := k) (mm0 := mm) hN hk rfl 4 0 (wr (wr (wr (wr mm 196 (72 * k) (rd mm 175 37)) 196 (72 * k + 1) (rd mm 183 0)) 196 (72 * k + 2) (rd mm 183 1)) 196 (72 * k + 3) (rd mm 175 13)) (by first | omega | (dsimp only; omega)) (fr_wr (fr_wr (fr_wr (fr_wr Fr.rf ⟨rfl, by omega, by omega⟩) ⟨rfl, by omega, by omega⟩) ⟨rfl, by omega, by omega⟩) ⟨rfl, by omega, by omega⟩) N (by first | omega | (dsimp only; omega))
  refine ⟨m', ?_, ?_, ?_, fun j hj => ?_, ?_, fun j hj => g1 j (by first | omega | (dsimp only; omega)) hj, g2⟩
  · unfold fX12_keep
    refine st_b (in_n (n := 3) rfl hk (by first | omega | (dsimp only; omega))) (st_f (by decide) (st_f (by rw [h10]; exact nI_ne0 h0 (by first | omega | (dsimp only; omega))) ?_))
    rw [show (72 : Int32) = nI 72 from rfl, nI_mul, show nI (72 * k) + 1 = nI (72 * k + 1) from nI_1 _, show nI (72 * k) + 2 = nI (72 * k + 2) from nI_add _ _, show nI (72 * k) + 3 = nI (72 * k + 3) from nI_add _ _]
    simp only [LXm, nI_nat (show 72 * k < 2147483648 by omega), nI_nat (show 72 * k + 1 < 2147483648 by omega), nI_nat (show 72 * k + 2 < 2147483648 by omega), nI_nat (show 72 * k + 3 < 2147483648 by omega)]
    refine st_k rfl (by first | omega | (dsimp only; omega)) (by first | omega | (dsimp only; omega)) (st_n (st_k rfl (show (0 : Nat) < 2 by omega) (by first | omega | (dsimp only; omega)) (st_k rfl (by first | omega | (dsimp only; omega)) (by first | omega | (dsimp only; omega)) (st_n (st_k rfl (show (1 : Nat) < 2 by omega) (by first | omega | (dsimp only; omega)) (st_k rfl (by first | omega | (dsimp only; omega)) (by first | omega | (dsimp only; omega)) (st_n (st_k rfl (by first | omega | (dsimp only; omega)) (by first | omega | (dsimp only; omega)) (st_n ?_)))))))))
    rw [rd_wr_k (by first | omega | (dsimp only; omega)), rd_wr_k (by first | omega | (dsimp only; omega)), rd_wr_k (by first | omega | (dsimp only; omega)), rd_wr_k (by first | omega | (dsimp only; omega)), rd_wr_k (by first | omega | (dsimp only; omega)), rd_wr_k (by first | omega | (dsimp only; omega))]
    exact c1
  · exact (fr_wr (fr_wr (fr_wr (fr_wr Fr.rf ⟨rfl, by omega, by omega⟩) ⟨rfl, by omega, by omega⟩) ⟨rfl, by omega, by omega⟩) ⟨rfl, by omega, by omega⟩).tr (f1.mono (fun q j h => ⟨h.1, by omega, by omega⟩))
  · rw [f1.2 _ _ (by first | omega | (dsimp only; omega)), rd_wr_j (by first | omega | (dsimp only; omega)), rd_wr_j (by first | omega | (dsimp only; omega)), rd_wr_j (by first | omega | (dsimp only; omega)), rd_wr_s]
  · rw [f1.2 _ _ (by first | omega | (dsimp only; omega)), rd_wr_j (by first | omega | (dsimp only; omega))]
    rcases (by omega : j = 0 ∨ j = 1) with rfl | rfl
    · rw [rd_wr_j (by first | omega | (dsimp only; omega)), rd_wr_s]
    · rw [rd_wr_s]
  · rw [f1.2 _ _ (by first | omega | (dsimp only; omega)), rd_wr_s]
-- on
theorem mon_n {mm0 : Mm} {w : Int32} (hk : k < 3) (h37 : rd mm0 175 37 = w) : ∀ m i mm, i + m = 56 → Fr (fun q _ => q = 192 ∨ q = 193) mm0 mm → ∀ f, m < f → ∃ m', fX12_on_114 N f 175 (nI (72 * k)) (nI i) mm = some (w, m') ∧ Fr (fun q j => q = 193 ∧ i ≤ j) mm m' ∧ ∀ j, i ≤ j → j < 56 → rd m' 193 j = rd mm0 196 (72 * k + 8 + j) := by
  intro m
  induction m with
  | zero =>
    intro i mm hi hF f hf
    obtain ⟨f, rfl⟩ : ∃ g, f = g + 1 := ⟨f - 1, by omega⟩
    refine ⟨mm, ?_, Fr.rf, fun j h1 h2 => by omega⟩
    unfold fX12_on_114
    exact st_t (nI_le (by first | omega | (dsimp only; omega)) (by first | omega | (dsimp only; omega))) (by rw [hF.2 _ _ (by first | omega | (dsimp only; omega)), h37])
  | succ m ih =>
    intro i mm hi hF f hf
    obtain ⟨f, rfl⟩ : ∃ g, f = g + 1 := ⟨f - 1, by omega⟩
    obtain ⟨m', c1, f1, g1⟩ := ih (i + 1) (wr mm 193 i (rd mm0 196 (72 * k + 8 + i))) (by first | omega | (dsimp only; omega)) (fr_wr hF (Or.inr rfl)) f (by first | omega | (dsimp only; omega))
    refine ⟨m', ?_, (fr_wr Fr.rf ⟨rfl, by omega⟩).tr (f1.mono (fun q j h => ⟨h.1, by omega⟩)), fun j h1 h2 => ?_⟩
    · unfold fX12_on_114
      rw [show (8 : Int32) = nI 8 from rfl, nI_add, nI_add]
      simp only [LXm, nI_nat (show i < 2147483648 by omega), nI_nat (show 72 * k + 8 + i < 2147483648 by omega)]
      refine st_f (nI_ge (by first | omega | (dsimp only; omega)) (by first | omega | (dsimp only; omega))) (st_k rfl (by first | omega | (dsimp only; omega)) (by first | omega | (dsimp only; omega)) (st_k rfl (by first | omega | (dsimp only; omega)) (by first | omega | (dsimp only; omega)) (st_n ?_)))
      rw [hF.2 196 _ (by first | omega | (dsimp only; omega)), nI_1]; exact c1
    · by_cases hj : j = i
      · subst hj; rw [f1.2 _ _ (by first | omega | (dsimp only; omega)), rd_wr_s]
      · exact g1 j (by first | omega | (dsimp only; omega)) h2
theorem mon_l {mm0 : Mm} {w : Int32} (hN : 100000 ≤ N) (hk : k < 3) (h37 : rd mm0 175 37 = w) : ∀ m i mm, i + m = 4 → Fr (fun q _ => q = 192) mm0 mm → ∀ f, m < f → ∃ m', fX12_on_85 N f 175 (nI (72 * k)) (nI i) mm = some (w, m') ∧ Fr (fun q j => (q = 192 ∧ i ≤ j) ∨ q = 193) mm m' ∧ (∀ j, i ≤ j → j < 4 → rd m' 192 j = rd mm0 196 (72 * k + 4 + j)) ∧ ∀ j, j < 56 → rd m' 193 j = rd mm0 196 (72 * k + 8 + j) := by
  intro m
  induction m with
  | zero =>
    intro i mm hi hF f hf
    obtain ⟨f, rfl⟩ : ∃ g, f = g + 1 := ⟨f - 1, by omega⟩
    obtain ⟨m', c1, f1, g1⟩ := mon_n (N := N) hk h37 56 0 mm (by first | omega | (dsimp only; omega)) (hF.mono (fun q j h => Or.inl h)) N (by first | omega | (dsimp only; omega))
    refine ⟨m', ?_, f1.mono (fun q j h => Or.inr h.1), fun j h1 h2 => by omega, fun j hj => g1 j (by first | omega | (dsimp only; omega)) hj⟩
    unfold fX12_on_85
    exact st_t (nI_le (by first | omega | (dsimp only; omega)) (by first | omega | (dsimp only; omega))) c1
  | succ m ih =>
    intro i mm hi hF f hf
    obtain ⟨f, rfl⟩ : ∃ g, f = g + 1 := ⟨f - 1, by omega⟩
    obtain ⟨m', c1, f1, g1, g2⟩ := ih (i + 1) (wr mm 192 i (rd mm0 196 (72 * k + 4 + i))) (by first | omega | (dsimp only; omega)) (fr_wr hF rfl) f (by first | omega | (dsimp only; omega))
    refine ⟨m', ?_, (fr_wr Fr.rf (Or.inl ⟨rfl, by omega⟩)).tr (f1.mono (fun q j h => by omega)), fun j h1 h2 => ?_, g2⟩
    · unfold fX12_on_85
      rw [show nI (72 * k) + 4 + nI i = nI (72 * k + 4 + i) by rw [show (4 : Int32) = nI 4 from rfl, nI_add, nI_add]]
      simp only [LXm, nI_nat (show i < 2147483648 by omega), nI_nat (show 72 * k + 4 + i < 2147483648 by omega)]
      refine st_f (nI_ge (by first | omega | (dsimp only; omega)) (by first | omega | (dsimp only; omega))) (st_k rfl (by first | omega | (dsimp only; omega)) (by first | omega | (dsimp only; omega)) (st_k rfl (by first | omega | (dsimp only; omega)) (by first | omega | (dsimp only; omega)) (st_n ?_)))
      rw [hF.2 196 _ (by first | omega | (dsimp only; omega)), nI_1]; exact c1
    · by_cases hj : j = i
      · subst hj; rw [f1.2 _ _ (by first | omega | (dsimp only; omega)), rd_wr_s]
      · exact g1 j (by first | omega | (dsimp only; omega)) h2
theorem mon_e {mm : Mm} {en : Nat} (hN : 100000 ≤ N) (hk : k < 3) (h0 : rd mm 196 (72 * k) = nI en) (he : en ≤ 8) : ∃ m', fX12_on N 175 (nI k) mm = some (nI en, m') ∧ Fr (fun q j => (q = 175 ∧ (j = 13 ∨ j = 37)) ∨ q = 183 ∨ q = 192 ∨ q = 193) mm m' ∧ rd m' 175 37 = nI en ∧ (∀ j, j < 2 → rd m' 183 j = rd mm 196 (72 * k + 1 + j)) ∧ rd m' 175 13 = rd mm 196 (72 * k + 3) ∧ (∀ j, j < 4 → rd m' 192 j = rd mm 196 (72 * k + 4 + j)) ∧ ∀ j, j < 56 → rd m' 193 j = rd mm 196 (72 * k + 8 + j) := by
  obtain ⟨m', c1, f1, g1, g2⟩ := mon_l (N := N) (k := k) (w := nI en) (mm0 := wr (wr (wr (wr mm 175 37 (nI en)) 183 0 (rd mm 196 (72 * k + 1))) 183 1 (rd mm 196 (72 * k + 2))) 175 13 (rd mm 196 (72 * k + 3))) hN hk (by rw [rd_wr_j (by first | omega | (dsimp only; omega)), rd_wr_k (by first | omega | (dsimp only; omega)), rd_wr_k (by first | omega | (dsimp only; omega)), rd_wr_s]) 4 0 _ (by first | omega | (dsimp only; omega)) Fr.rf N (by first | omega | (dsimp only; omega))
  refine ⟨m', ?_, ?_, ?_, fun j hj => ?_, ?_, fun j hj => ?_, fun j hj => ?_⟩
  · unfold fX12_on
    refine st_b (in_n (n := 3) rfl hk (by first | omega | (dsimp only; omega))) (st_f (by decide) ?_)
    rw [show (72 : Int32) = nI 72 from rfl, nI_mul, show nI (72 * k) + 1 = nI (72 * k + 1) from nI_1 _, show nI (72 * k) + 2 = nI (72 * k + 2) from nI_add _ _, show nI (72 * k) + 3 = nI (72 * k + 3) from nI_add _ _]
    simp only [LXm, nI_nat (show 72 * k < 2147483648 by omega), nI_nat (show 72 * k + 1 < 2147483648 by omega), nI_nat (show 72 * k + 2 < 2147483648 by omega), nI_nat (show 72 * k + 3 < 2147483648 by omega)]
    refine st_k rfl (by first | omega | (dsimp only; omega)) (by first | omega | (dsimp only; omega)) (st_f (by rw [h0]; exact neg9_ne (by first | omega | (dsimp only; omega))) (st_k rfl (by first | omega | (dsimp only; omega)) (by first | omega | (dsimp only; omega)) (st_n (st_k rfl (by first | omega | (dsimp only; omega)) (by first | omega | (dsimp only; omega)) (st_k rfl (show (0 : Nat) < 2 by omega) (by first | omega | (dsimp only; omega)) (st_n (st_k rfl (by first | omega | (dsimp only; omega)) (by first | omega | (dsimp only; omega)) (st_k rfl (show (1 : Nat) < 2 by omega) (by first | omega | (dsimp only; omega)) (st_n (st_k rfl (by first | omega | (dsimp only; omega)) (by first | omega | (dsimp only; omega)) (st_n ?_)))))))))))
    rw [rd_wr_k (by first | omega | (dsimp only; omega)), rd_wr_k (by first | omega | (dsimp only; omega)), rd_wr_k (by first | omega | (dsimp only; omega)), rd_wr_k (by first | omega | (dsimp only; omega)), rd_wr_k (by first | omega | (dsimp only; omega)), rd_wr_k (by first | omega | (dsimp only; omega)), h0]
    exact c1
  · exact (fr_wr (fr_wr (fr_wr (fr_wr Fr.rf (by first | omega | (dsimp only; omega))) (by first | omega | (dsimp only; omega))) (by first | omega | (dsimp only; omega))) (by first | omega | (dsimp only; omega))).tr (f1.mono (fun q j h => by omega))
  · rw [f1.2 _ _ (by first | omega | (dsimp only; omega)), rd_wr_j (by first | omega | (dsimp only; omega)), rd_wr_k (by first | omega | (dsimp only; omega)), rd_wr_k (by first | omega | (dsimp only; omega)), rd_wr_s]
  · rw [f1.2 _ _ (by first | omega | (dsimp only; omega)), rd_wr_k (by first | omega | (dsimp only; omega))]
    rcases (by omega : j = 0 ∨ j = 1) with rfl | rfl
    · rw [rd_wr_j (by first | omega | (dsimp only; omega)), rd_wr_s]
    · rw [rd_wr_s]
  · rw [f1.2 _ _ (by first | omega | (dsimp only; omega)), rd_wr_s]
  · rw [g1 j (by first | omega | (dsimp only; omega)) hj, rd_wr_k (by first | omega | (dsimp only; omega)), rd_wr_k (by first | omega | (dsimp only; omega)), rd_wr_k (by first | omega | (dsimp only; omega)), rd_wr_k (by first | omega | (dsimp only; omega))]
  · rw [g2 j hj, rd_wr_k (by first | omega | (dsimp only; omega)), rd_wr_k (by first | omega | (dsimp only; omega)), rd_wr_k (by first | omega | (dsimp only; omega)), rd_wr_k (by first | omega | (dsimp only; omega))]
end KeepM
theorem keptOf_t {N k : Nat} {mm : Mm} (h : k < 3) : fX11_keptOf N 0 (nI k) mm = some (some (115 + 20 * k), mm) := by
  unfold fX11_keptOf
  refine st_f (nI_pos (by first | omega | (dsimp only; omega))) (st_t (nI_lt h (by first | omega | (dsimp only; omega))) (st_k (L := 3) rfl h (by first | omega | (dsimp only; omega)) ?_))
  rw [nI_nat (by first | omega | (dsimp only; omega))]; rfl
theorem keptOf_n {N : Nat} {a : Int32} {mm : Mm} (h : Out a 3) : fX11_keptOf N 0 a mm = some (none, mm) := by
  unfold fX11_keptOf
  rcases h with h | ⟨j, h1, h2, rfl⟩
  · exact st_t h rfl
  · exact st_f (nI_pos h2) (st_f (nI_nlt h1 h2) rfl)
theorem ok_37 {N : Nat} (hN : 100000 ≤ N) : OK_37 N Rel := by
  intro a1 mm h
  rcases rng a1 3 with ⟨k, hk, -, rfl⟩ | hb
  rotate_left
  · refine ⟨-1, mm, mm, ?_, ?_, h⟩
    · unfold fX11_keep
      exact st_b (keptOf_n hb) (st_c0 rfl)
    · unfold fX12_keep
      exact st_b (in_o (n := 3) rfl hb (by first | omega | (dsimp only; omega))) (st_t rfl rfl)
  obtain ⟨g1, g2, ⟨n, g3, g4, g5⟩, g6, g7, g8⟩ := h
  have hn := g3.1
  by_cases h0 : n = 0
  · subst h0
    refine ⟨-4, mm, mm, ?_, ?_, ⟨g1, g2, ⟨0, g3, g4, g5⟩, g6, g7, g8⟩⟩
    · unfold fX11_keep
      exact st_b (keptOf_t hk) (st_c (st_t g3.2.1 rfl))
    · unfold fX12_keep
      exact st_b (in_n (n := 3) rfl hk (by first | omega | (dsimp only; omega))) (st_f (by decide) (st_t g3.2.2.1 rfl))
  obtain ⟨m1, c1, f1, t0, t2, t3, t13, t5, t14⟩ := ctk_e (N := N) (D := 115 + 20 * k) (S := 3) (mm := mm) hN (CO_k hk) CO_3 (by first | omega | (dsimp only; omega))
  obtain ⟨m2, c2, f2, u0, u1, u3, u4, u8⟩ := mkeep_e (N := N) (k := k) (n := n) (mm := wr m1 (115 + 20 * k) 8 1) hN hk (by rw [rd_wr_k (by first | omega | (dsimp only; omega)), f1.2 _ _ (by first | omega | (dsimp only; omega))]; exact g3.2.2.1) (by first | omega | (dsimp only; omega)) hn
  have F : Fr (fun q j => (115 + 20 * k ≤ q ∧ q < 135 + 20 * k) ∨ (q = 196 ∧ 72 * k ≤ j ∧ j < 72 * k + 72)) mm m2 := ((fr_wr (f1.mono (fun q j h => by omega)) (by first | omega | (dsimp only; omega))).tr (f2.mono (fun q j h => Or.inr h)))
  have A : ∀ q j, q ≤ 174 → rd m2 q j = rd (wr m1 (115 + 20 * k) 8 1) q j := fun q j hq => f2.2 _ _ (by first | omega | (dsimp only; omega))
  refine ⟨rd mm 175 37, wr m1 (115 + 20 * k) 8 1, m2, ?_, ?_, ?_⟩
  · unfold fX11_keep
    simp only [LXa]
    refine st_b (keptOf_t hk) (st_c (st_f (by rw [g3.2.1]; exact nI_ne0 (by first | omega | (dsimp only; omega)) (by first | omega | (dsimp only; omega))) (st_b c1 (st_n ?_))))
    rw [rd_wr_j (by first | omega | (dsimp only; omega)), t0 7 (by first | omega | (dsimp only; omega)) (by first | omega | (dsimp only; omega))]
    exact congrArg (fun z => some (z, _)) g4.2.2.2.2.1
  · rw [c2, rd_wr_k (by first | omega | (dsimp only; omega)), f1.2 _ _ (by first | omega | (dsimp only; omega))]
  · refine ⟨?_, ?_, ⟨n, ?_, ?_, fun q hq => ?_⟩, ?_, ?_, ?_⟩
    · exact RR_c g1 (fun i j z => F.2 _ _ (by first | omega | (dsimp only; omega)))
    · exact RT_c g2 (fun i j z => F.2 _ _ (by first | omega | (dsimp only; omega)))
    · exact RS_c g3 (fun i j z => F.2 _ _ (by first | omega | (dsimp only; omega)))
    · exact RCm_c g4 hn (fun i j z => F.2 _ _ (by first | omega | (dsimp only; omega)))
    · by_cases hqk : q = k
      · subst hqk
        refine Or.inr ⟨by rw [A _ _ (by first | omega | (dsimp only; omega)), rd_wr_s], by omega, by rw [A _ _ (by first | omega | (dsimp only; omega)), rd_wr_j (by first | omega | (dsimp only; omega)), t0 5 (by first | omega | (dsimp only; omega)) (by first | omega | (dsimp only; omega))]; exact g3.2.1, fun i hi j hj => ?_, ?_⟩
        · rw [A _ _ (by first | omega | (dsimp only; omega)), rd_wr_k (by first | omega | (dsimp only; omega)), F.2 (17 + i) j (by first | omega | (dsimp only; omega)), t14 i (by first | omega | (dsimp only; omega)) j hj]
        · refine RC_t g4 hn (fun j hj => by rw [A _ _ (by first | omega | (dsimp only; omega)), rd_wr_k (by first | omega | (dsimp only; omega))]; exact t2 j hj) (fun j hj => by rw [A _ _ (by first | omega | (dsimp only; omega)), rd_wr_k (by first | omega | (dsimp only; omega))]; exact t3 j hj) (by rw [A _ _ (by first | omega | (dsimp only; omega)), rd_wr_j (by first | omega | (dsimp only; omega))]; exact t0 6 (by first | omega | (dsimp only; omega)) (by first | omega | (dsimp only; omega))) (by rw [A _ _ (by first | omega | (dsimp only; omega)), rd_wr_j (by first | omega | (dsimp only; omega))]; exact t0 7 (by first | omega | (dsimp only; omega)) (by first | omega | (dsimp only; omega))) (fun j hj => by rw [A _ _ (by first | omega | (dsimp only; omega)), rd_wr_k (by first | omega | (dsimp only; omega))]; exact t13 j hj) (fun z hz j hj => by rw [A _ _ (by first | omega | (dsimp only; omega)), rd_wr_k (by first | omega | (dsimp only; omega))]; exact t5 z hz j hj) (fun j hj => ?_) ?_ (fun j hj => ?_) ?_ (fun j hj => ?_)
          · rw [u1 j hj, rd_wr_k (by first | omega | (dsimp only; omega)), f1.2 _ _ (by first | omega | (dsimp only; omega))]
          · rw [u3, rd_wr_k (by first | omega | (dsimp only; omega)), f1.2 _ _ (by first | omega | (dsimp only; omega))]
          · rw [u4 j hj, rd_wr_k (by first | omega | (dsimp only; omega)), f1.2 _ _ (by first | omega | (dsimp only; omega))]
          · rw [u0, rd_wr_k (by first | omega | (dsimp only; omega)), f1.2 _ _ (by first | omega | (dsimp only; omega))]
          · rw [u8 j hj, rd_wr_k (by first | omega | (dsimp only; omega)), f1.2 _ _ (by first | omega | (dsimp only; omega))]
      · exact RKt_d (g5 q hq) hn hq (fun i hi j hj => F.2 _ _ (by first | omega | (dsimp only; omega))) (fun z j hz => F.2 _ _ (by first | omega | (dsimp only; omega)))
    · exact RF_c g6 (fun i j z => F.2 _ _ (by first | omega | (dsimp only; omega))) (fun i j z => F.L _ _)
    · exact RA_c g7 (fun i z => F.2 _ _ (by first | omega | (dsimp only; omega)))
    · exact RTT_c g8 (fun i j z => F.2 _ _ (by first | omega | (dsimp only; omega)))
theorem ok_38 {N : Nat} (hN : 100000 ≤ N) : OK_38 N Rel := by
  intro a1 mm h
  rcases rng a1 3 with ⟨k, hk, -, rfl⟩ | hb
  rotate_left
  · refine ⟨-1, mm, mm, ?_, ?_, h⟩
    · unfold fX11_on
      exact st_b (keptOf_n hb) (st_c0 rfl)
    · unfold fX12_on
      exact st_b (in_o (n := 3) rfl hb (by first | omega | (dsimp only; omega))) (st_t rfl rfl)
  have h' := h
  obtain ⟨g1, g2, ⟨n, g3, g4, g5⟩, g6, g7, g8⟩ := h
  have hn := g3.1
  have hK := g5 k hk
  rcases hK with ⟨q1, q2⟩ | ⟨q1, q2, q3, q4, q5⟩
  · refine ⟨-3, cRef 1 mm, mMeet 1 (cRef 1 mm), ?_, ?_, rel_ref h' (f := 1) (by first | omega | (dsimp only; omega))⟩
    · unfold fX11_on
      exact st_b (keptOf_t hk) (st_c (st_t q1 (st_b (c_ref 1 rfl (by first | omega | (dsimp only; omega))) rfl)))
    · unfold fX12_on
      refine st_b (in_n (n := 3) rfl hk (by first | omega | (dsimp only; omega))) (st_f (by decide) ?_)
      rw [show (72 : Int32) = nI 72 from rfl, nI_mul]
      simp only [LXm, nI_nat (show 72 * k < 2147483648 by omega)]
      exact st_k rfl (by first | omega | (dsimp only; omega)) (by first | omega | (dsimp only; omega)) (st_t (by rw [rd_cRef (by first | omega | (dsimp only; omega)) (by first | omega | (dsimp only; omega))]; exact q2) (st_b (m_meet 1 rfl (by first | omega | (dsimp only; omega))) rfl))
  obtain ⟨b1, b2, b3, b4, b5, en, b6, b7, b8⟩ := id q5
  obtain ⟨m1, c1, f1, t0, t2, t3, t13, t5, t14⟩ := ctk_e (N := N) (D := 3) (S := 115 + 20 * k) (mm := mm) hN CO_3 (CO_k hk) (by first | omega | (dsimp only; omega))
  obtain ⟨m2, c2, f2, u0, u1, u3, u4, u8⟩ := mon_e (N := N) (k := k) (en := en) (mm := wr m1 52 2 0) hN hk (by rw [rd_wr_k (by first | omega | (dsimp only; omega)), f1.2 _ _ (by first | omega | (dsimp only; omega))]; exact b7) b6
  have F : Fr (fun q j => (5 ≤ q ∧ q < 23) ∨ (q = 3 ∧ 5 ≤ j ∧ j ≤ 7) ∨ (q = 52 ∧ j = 2) ∨ (q = 175 ∧ (j = 13 ∨ j = 37)) ∨ q = 183 ∨ q = 192 ∨ q = 193) mm m2 := ((fr_wr (f1.mono (fun q j h => by omega)) (by first | omega | (dsimp only; omega))).tr (f2.mono (fun q j h => by omega)))
  have A : ∀ q j, q ≤ 22 → rd m2 q j = rd m1 q j := fun q j hq => by rw [f2.2 _ _ (by first | omega | (dsimp only; omega)), rd_wr_k (by first | omega | (dsimp only; omega))]
  have hsu : ∀ i, i < n → ∀ j, j < 3 → rd m2 (17 + i) j = rd mm (17 + i) j := fun i hi j hj => by
    have := t14 i (by first | omega | (dsimp only; omega)) j hj
    rw [A _ _ (by first | omega | (dsimp only; omega)), show 17 + i = 3 + 14 + i by omega, this, q4 i hi j hj]
  have h5 : rd m2 3 5 = nI n := by rw [A _ _ (by first | omega | (dsimp only; omega)), t0 5 (by first | omega | (dsimp only; omega)) (by first | omega | (dsimp only; omega))]; exact q3
  refine ⟨nI en, wr m1 52 2 0, m2, ?_, c2, ?_⟩
  · unfold fX11_on
    simp only [LXa]
    refine st_b (keptOf_t hk) (st_c (st_f (by rw [q1]; decide) (st_b c1 (st_b (st_n rfl) ?_))))
    rw [rd_wr_k (by first | omega | (dsimp only; omega)), t0 7 (by first | omega | (dsimp only; omega)) (by first | omega | (dsimp only; omega))]
    exact congrArg (fun z => some (z, _)) (b5.trans b7)
  · refine ⟨?_, ?_, ⟨n, ?_, ?_, fun q hq => ?_⟩, ?_, ?_, ?_⟩
    · exact RR_c g1 (fun i j z => F.2 _ _ (by first | omega | (dsimp only; omega)))
    · exact RT_c g2 (fun i j z => F.2 _ _ (by first | omega | (dsimp only; omega)))
    · obtain ⟨z1, z2, z3, z4⟩ := g3
      refine ⟨z1, h5, by rw [F.2 _ _ (by first | omega | (dsimp only; omega))]; exact z3, fun i hi => ?_⟩
      rw [F.2 182 _ (by first | omega | (dsimp only; omega)), F.2 182 _ (by first | omega | (dsimp only; omega)), F.2 182 _ (by first | omega | (dsimp only; omega)), hsu i hi 0 (by first | omega | (dsimp only; omega)), hsu i hi 1 (by first | omega | (dsimp only; omega)), hsu i hi 2 (by first | omega | (dsimp only; omega))]
      exact z4 i hi
    · refine RC_t q5 hn (fun j hj => by rw [A _ _ (by first | omega | (dsimp only; omega))]; exact t2 j hj) (fun j hj => by rw [A _ _ (by first | omega | (dsimp only; omega))]; exact t3 j hj) (by rw [A _ _ (by first | omega | (dsimp only; omega))]; exact t0 6 (by first | omega | (dsimp only; omega)) (by first | omega | (dsimp only; omega))) (by rw [A _ _ (by first | omega | (dsimp only; omega))]; exact t0 7 (by first | omega | (dsimp only; omega)) (by first | omega | (dsimp only; omega))) (fun j hj => by rw [A _ _ (by first | omega | (dsimp only; omega))]; exact t13 j hj) (fun z hz j hj => by rw [A _ _ (by first | omega | (dsimp only; omega))]; exact t5 z hz j hj) (fun j hj => ?_) ?_ (fun j hj => ?_) ?_ (fun j hj => ?_)
      · rw [u1 j hj, rd_wr_k (by first | omega | (dsimp only; omega)), f1.2 _ _ (by first | omega | (dsimp only; omega))]
      · rw [u3, rd_wr_k (by first | omega | (dsimp only; omega)), f1.2 _ _ (by first | omega | (dsimp only; omega))]
      · rw [u4 j hj, rd_wr_k (by first | omega | (dsimp only; omega)), f1.2 _ _ (by first | omega | (dsimp only; omega))]
      · rw [u0, b7]
      · rw [u8 j hj, rd_wr_k (by first | omega | (dsimp only; omega)), f1.2 _ _ (by first | omega | (dsimp only; omega))]
    · exact RKt_d (g5 q hq) hn hq hsu (fun z j hz => F.2 _ _ (by first | omega | (dsimp only; omega)))
    · exact RF_c g6 (fun i j z => F.2 _ _ (by first | omega | (dsimp only; omega))) (fun i j z => F.L _ _)
    · exact RA_c g7 (fun i z => F.2 _ _ (by first | omega | (dsimp only; omega)))
    · exact Or.inl (by rw [f2.2 _ _ (by first | omega | (dsimp only; omega)), rd_wr_s])
