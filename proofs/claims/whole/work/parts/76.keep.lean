/-! pure: keep, on -/
/-- places of a court -/
def CO (c : Nat) : Prop := fr c 0 = c + 1 ∧ fr c 1 = c + 2 ∧ fr c 2 = c + 3 ∧ fr c 3 = c + 4 ∧ fr c 4 = c + 13 ∧ ln (c + 1) = 6 ∧ ln (c + 2) = 2 ∧ ln (c + 3) = 4 ∧ ln (c + 4) = 8 ∧ ln (c + 13) = 8 ∧ (∀ j, el (c + 1) j = c + 14 + j) ∧ (∀ j, el (c + 4) j = c + 5 + j) ∧ ∀ j, j < 8 → ln (c + 5 + j) = 6
theorem CO_3 : CO 3 := ⟨rfl, rfl, rfl, rfl, rfl, rfl, rfl, rfl, rfl, rfl, fun _ => rfl, fun _ => rfl, fun j hj => ln_6 (Or.inl (by first | omega | (dsimp only; omega)))⟩
theorem CO_k {k : Nat} (h : k < 3) : CO (115 + 20 * k) := by
  obtain ⟨h1, h2, h3, h4, h5, h6, h7, h8, h9, h10, h11, h12⟩ := fr_crt h
  refine ⟨by rw [h1]; omega, by rw [h2]; omega, by rw [h3]; omega, by rw [h4]; omega, by rw [h5]; omega, ?_, ?_, ?_, ?_, ?_, fun j => ?_, fun j => ?_, fun j hj => ?_⟩
  · rw [show 115 + 20 * k + 1 = 116 + 20 * k by omega]; exact h6
  · rw [show 115 + 20 * k + 2 = 117 + 20 * k by omega]; exact h7
  · rw [show 115 + 20 * k + 3 = 118 + 20 * k by omega]; exact h8
  · rw [show 115 + 20 * k + 4 = 119 + 20 * k by omega]; exact h9
  · rw [show 115 + 20 * k + 13 = 128 + 20 * k by omega]; exact h10
  · rw [show 115 + 20 * k + 1 = 116 + 20 * k by omega, h11]; omega
  · rw [show 115 + 20 * k + 4 = 119 + 20 * k by omega, h12]; omega
  · exact ln_6 (Or.inr (Or.inr ⟨k, j, h, hj, by omega⟩))
section Take
variable {N D S : Nat}
theorem ctk_n (cD : CO D) (cS : CO S) (hd : D + 20 ≤ S ∨ S + 20 ≤ D) : ∀ m i mm, i + m = 8 → ∀ f, m < f → ∃ m', fX0_take_119 N f D S (nI i) mm = some ((), m') ∧ Fr (fun k _ => D + 5 + i ≤ k ∧ k < D + 13) mm m' ∧ ∀ q, i ≤ q → q < 8 → ∀ j, j < 6 → rd m' (D + 5 + q) j = rd mm (S + 5 + q) j := by
  obtain ⟨d0, d1, d2, d3, d4, l0, l1, l2, l3, l4, e0, e3, l5⟩ := cD
  obtain ⟨s0, s1, s2, s3, s4, k0, k1, k2, k3, k4, f0, f3, k5⟩ := cS
  intro m
  induction m with
  | zero =>
    intro i mm hi f hf
    obtain ⟨f, rfl⟩ : ∃ g, f = g + 1 := ⟨f - 1, by omega⟩
    refine ⟨mm, ?_, Fr.rf, fun q h1 h2 => by omega⟩
    unfold fX0_take_119
    exact st_t (nI_le (by first | omega | (dsimp only; omega)) (by first | omega | (dsimp only; omega))) rfl
  | succ m ih =>
    intro i mm hi f hf
    obtain ⟨f, rfl⟩ : ∃ g, f = g + 1 := ⟨f - 1, by omega⟩
    obtain ⟨m', c1, f1, g1⟩ := ih (i + 1) (cpy mm (S + 5 + i) (D + 5 + i) 0 0 6) (by first | omega | (dsimp only; omega)) f (by first | omega | (dsimp only; omega))
    refine ⟨m', ?_, ?_, fun q h1 h2 j hj => ?_⟩
    · unfold fX0_take_119
      rw [s3, d3, k3, l3, f3, e3]
      simp only [nI_nat (show i < 2147483648 by omega)]
      rw [k5 i (by first | omega | (dsimp only; omega)), l5 i (by first | omega | (dsimp only; omega))]
      refine st_f (nI_ge (by first | omega | (dsimp only; omega)) (by first | omega | (dsimp only; omega))) (st_k rfl (show i < 8 by omega) (by first | omega | (dsimp only; omega)) (st_k rfl (show i < 8 by omega) (by first | omega | (dsimp only; omega)) (st_g (cpok_n (i := 0) (j := 0) (c := 6) (by first | omega | (dsimp only; omega)) (by first | omega | (dsimp only; omega)) (by first | omega | (dsimp only; omega)) (by first | omega | (dsimp only; omega))) (st_n ?_))))
      rw [nI_1]; exact c1
    · exact (fr_cpy Fr.rf (fun j => by omega)).tr (f1.mono (fun k j h => by omega))
    · by_cases hq : q = i
      · subst hq
        rw [f1.2 _ _ (by first | omega | (dsimp only; omega)), rd_cpy, if_pos ⟨rfl, Nat.zero_le _, hj⟩]
        show rd mm (S + 5 + q) (0 + (j - 0)) = _
        rw [Nat.zero_add, Nat.sub_zero]
      · rw [g1 q (by first | omega | (dsimp only; omega)) h2 j hj, rd_cpy, if_neg (by first | omega | (dsimp only; omega))]
theorem ctk_s (hN : 100000 ≤ N) (cD : CO D) (cS : CO S) (hd : D + 20 ≤ S ∨ S + 20 ≤ D) : ∀ m i mm, i + m = 6 → ∀ f, m < f → ∃ m', fX0_take_69 N f D S (nI i) mm = some ((), m') ∧ Fr (fun k _ => (D + 5 ≤ k ∧ k < D + 13) ∨ (D + 14 + i ≤ k ∧ k < D + 20)) mm m' ∧ (∀ q, q < 8 → ∀ j, j < 6 → rd m' (D + 5 + q) j = rd mm (S + 5 + q) j) ∧ ∀ q, i ≤ q → q < 6 → ∀ j, j < 3 → rd m' (D + 14 + q) j = rd mm (S + 14 + q) j := by
  have cD' := cD
  have cS' := cS
  obtain ⟨d0, d1, d2, d3, d4, l0, l1, l2, l3, l4, e0, e3, l5⟩ := cD
  obtain ⟨s0, s1, s2, s3, s4, k0, k1, k2, k3, k4, f0, f3, k5⟩ := cS
  intro m
  induction m with
  | zero =>
    intro i mm hi f hf
    obtain ⟨f, rfl⟩ : ∃ g, f = g + 1 := ⟨f - 1, by omega⟩
    obtain ⟨m', c1, f1, g1⟩ := ctk_n (N := N) cD' cS' hd 8 0 mm (by first | omega | (dsimp only; omega)) N (by first | omega | (dsimp only; omega))
    refine ⟨m', ?_, f1.mono (fun k j h => by omega), fun q h1 j hj => g1 q (by first | omega | (dsimp only; omega)) h1 j hj, fun q h1 h2 => by omega⟩
    unfold fX0_take_69
    exact st_t (nI_le (by first | omega | (dsimp only; omega)) (by first | omega | (dsimp only; omega))) c1
  | succ m ih =>
    intro i mm hi f hf
    obtain ⟨f, rfl⟩ : ∃ g, f = g + 1 := ⟨f - 1, by omega⟩
    obtain ⟨m', c1, f1, g1, h1⟩ := ih (i + 1) (wr (wr (wr mm (D + 14 + i) 0 (rd mm (S + 14 + i) 0)) (D + 14 + i) 1 (rd mm (S + 14 + i) 1)) (D + 14 + i) 2 (rd mm (S + 14 + i) 2)) (by first | omega | (dsimp only; omega)) f (by first | omega | (dsimp only; omega))
    refine ⟨m', ?_, ?_, fun q h2 j hj => ?_, fun q h2 h3 j hj => ?_⟩
    · unfold fX0_take_69
      rw [s0, d0, k0, l0, f0, e0]
      simp only [nI_nat (show i < 2147483648 by omega)]
      refine st_f (nI_ge (by first | omega | (dsimp only; omega)) (by first | omega | (dsimp only; omega))) (st_k rfl (show i < 6 by omega) (by first | omega | (dsimp only; omega)) (st_k rfl (show i < 6 by omega) (by first | omega | (dsimp only; omega)) (st_k rfl (show i < 6 by omega) (by first | omega | (dsimp only; omega)) (st_k rfl (show i < 6 by omega) (by first | omega | (dsimp only; omega)) (st_b rfl ?_)))))
      rw [nI_1]; exact c1
    · exact (fr_wr (fr_wr (fr_wr Fr.rf (by first | omega | (dsimp only; omega))) (by first | omega | (dsimp only; omega))) (by first | omega | (dsimp only; omega))).tr (f1.mono (fun k j h => by omega))
    · rw [g1 q h2 j hj, rd_wr_k (by first | omega | (dsimp only; omega)), rd_wr_k (by first | omega | (dsimp only; omega)), rd_wr_k (by first | omega | (dsimp only; omega))]
    · by_cases hq : q = i
      · subst hq
        rw [f1.2 _ _ (by first | omega | (dsimp only; omega))]
        rcases (by omega : j = 0 ∨ j = 1 ∨ j = 2) with rfl | rfl | rfl
        · rw [rd_wr_j (by first | omega | (dsimp only; omega)), rd_wr_j (by first | omega | (dsimp only; omega)), rd_wr_s]
        · rw [rd_wr_j (by first | omega | (dsimp only; omega)), rd_wr_s]
        · rw [rd_wr_s]
      · rw [h1 q (by first | omega | (dsimp only; omega)) h3 j hj, rd_wr_k (by first | omega | (dsimp only; omega)), rd_wr_k (by first | omega | (dsimp only; omega)), rd_wr_k (by first | omega | (dsimp only; omega))]
theorem ctk_e {mm : Mm} (hN : 100000 ≤ N) (cD : CO D) (cS : CO S) (hd : D + 20 ≤ S ∨ S + 20 ≤ D) : ∃ m', fX0_take N D S mm = some ((), m') ∧ Fr (fun k j => (D + 2 ≤ k ∧ k < D + 20) ∨ (k = D ∧ 5 ≤ j ∧ j ≤ 7)) mm m' ∧ (∀ j, 5 ≤ j → j ≤ 7 → rd m' D j = rd mm S j) ∧ (∀ j, j < 2 → rd m' (D + 2) j = rd mm (S + 2) j) ∧ (∀ j, j < 4 → rd m' (D + 3) j = rd mm (S + 3) j) ∧ (∀ j, j < 8 → rd m' (D + 13) j = rd mm (S + 13) j) ∧ (∀ q, q < 8 → ∀ j, j < 6 → rd m' (D + 5 + q) j = rd mm (S + 5 + q) j) ∧ ∀ q, q < 6 → ∀ j, j < 3 → rd m' (D + 14 + q) j = rd mm (S + 14 + q) j := by
  have cD' := cD
  have cS' := cS
  obtain ⟨d0, d1, d2, d3, d4, l0, l1, l2, l3, l4, e0, e3, l5⟩ := cD
  obtain ⟨s0, s1, s2, s3, s4, k0, k1, k2, k3, k4, f0, f3, k5⟩ := cS
  obtain ⟨m', c1, f1, g1, h1⟩ := ctk_s hN cD' cS' hd 6 0 (cpy (cpy (cpy (wr (wr (wr mm D 5 (rd mm S 5)) D 6 (rd mm S 6)) D 7 (rd mm S 7)) (S + 2) (D + 2) 0 0 2) (S + 3) (D + 3) 0 0 4) (S + 13) (D + 13) 0 0 8) (by first | omega | (dsimp only; omega)) N (by first | omega | (dsimp only; omega))
  refine ⟨m', ?_, ?_, fun j h2 h3 => ?_, fun j hj => ?_, fun j hj => ?_, fun j hj => ?_, fun q hq j hj => ?_, fun q hq j hj => ?_⟩
  · unfold fX0_take
    rw [s1, d1, s2, d2, s4, d4, k1, l1, k2, l2, k4, l4]
    refine st_n (st_n (st_n (st_g (cpok_n (i := 0) (j := 0) (c := 2) (by first | omega | (dsimp only; omega)) (by first | omega | (dsimp only; omega)) (by first | omega | (dsimp only; omega)) (by first | omega | (dsimp only; omega))) (st_n (st_g (cpok_n (i := 0) (j := 0) (c := 4) (by first | omega | (dsimp only; omega)) (by first | omega | (dsimp only; omega)) (by first | omega | (dsimp only; omega)) (by first | omega | (dsimp only; omega))) (st_n (st_g (cpok_n (i := 0) (j := 0) (c := 8) (by first | omega | (dsimp only; omega)) (by first | omega | (dsimp only; omega)) (by first | omega | (dsimp only; omega)) (by first | omega | (dsimp only; omega))) (st_n ?_))))))))
    rw [rd_wr_k (by first | omega | (dsimp only; omega)), rd_wr_k (by first | omega | (dsimp only; omega)), rd_wr_k (by first | omega | (dsimp only; omega))]
    exact c1
  · exact (fr_cpy (fr_cpy (fr_cpy (fr_wr (fr_wr (fr_wr Fr.rf (by first | omega | (dsimp only; omega))) (by first | omega | (dsimp only; omega))) (by first | omega | (dsimp only; omega))) (fun j => by omega)) (fun j => by omega)) (fun j => by omega)).tr (f1.mono (fun k j h => by omega))
  · rw [f1.2 _ _ (by first | omega | (dsimp only; omega)), rd_cpy, if_neg (by first | omega | (dsimp only; omega)), rd_cpy, if_neg (by first | omega | (dsimp only; omega)), rd_cpy, if_neg (by first | omega | (dsimp only; omega))]
    rcases (by omega : j = 5 ∨ j = 6 ∨ j = 7) with rfl | rfl | rfl
    · rw [rd_wr_j (by first | omega | (dsimp only; omega)), rd_wr_j (by first | omega | (dsimp only; omega)), rd_wr_s]
    · rw [rd_wr_j (by first | omega | (dsimp only; omega)), rd_wr_s]
    · rw [rd_wr_s]
  · rw [f1.2 _ _ (by first | omega | (dsimp only; omega)), rd_cpy, if_neg (by first | omega | (dsimp only; omega)), rd_cpy, if_neg (by first | omega | (dsimp only; omega)), rd_cpy, if_pos ⟨rfl, Nat.zero_le _, hj⟩]
    show rd _ (S + 2) (0 + (j - 0)) = _
    rw [Nat.zero_add, Nat.sub_zero, rd_wr_k (by first | omega | (dsimp only; omega)), rd_wr_k (by first | omega | (dsimp only; omega)), rd_wr_k (by first | omega | (dsimp only; omega))]
  · rw [f1.2 _ _ (by first | omega | (dsimp only; omega)), rd_cpy, if_neg (by first | omega | (dsimp only; omega)), rd_cpy, if_pos ⟨rfl, Nat.zero_le _, hj⟩]
    show rd _ (S + 3) (0 + (j - 0)) = _
    rw [Nat.zero_add, Nat.sub_zero, rd_cpy, if_neg (by first | omega | (dsimp only; omega)), rd_wr_k (by first | omega | (dsimp only; omega)), rd_wr_k (by first | omega | (dsimp only; omega)), rd_wr_k (by first | omega | (dsimp only; omega))]
  · rw [f1.2 _ _ (by first | omega | (dsimp only; omega)), rd_cpy, if_pos ⟨rfl, Nat.zero_le _, hj⟩]
    show rd _ (S + 13) (0 + (j - 0)) = _
    rw [Nat.zero_add, Nat.sub_zero, rd_cpy, if_neg (by first | omega | (dsimp only; omega)), rd_cpy, if_neg (by first | omega | (dsimp only; omega)), rd_wr_k (by first | omega | (dsimp only; omega)), rd_wr_k (by first | omega | (dsimp only; omega)), rd_wr_k (by first | omega | (dsimp only; omega))]
  · rw [g1 q hq j hj, rd_cpy, if_neg (by first | omega | (dsimp only; omega)), rd_cpy, if_neg (by first | omega | (dsimp only; omega)), rd_cpy, if_neg (by first | omega | (dsimp only; omega)), rd_wr_k (by first | omega | (dsimp only; omega)), rd_wr_k (by first | omega | (dsimp only; omega)), rd_wr_k (by first | omega | (dsimp only; omega))]
  · rw [h1 q (by first | omega | (dsimp only; omega)) hq j hj, rd_cpy, if_neg (by first | omega | (dsimp only; omega)), rd_cpy, if_neg (by first | omega | (dsimp only; omega)), rd_cpy, if_neg (by first | omega | (dsimp only; omega)), rd_wr_k (by first | omega | (dsimp only; omega)), rd_wr_k (by first | omega | (dsimp only; omega)), rd_wr_k (by first | omega | (dsimp only; omega))]
end Take
theorem RC_t {mm m2 : Mm} {c c' n : Nat} {s s' : Nat → Int32} {d d' : Int32} {l l' : Nat → Int32} {e e' : Int32} {nt nt' : Nat → Int32} (h : RC mm c n s d l e nt) (hn : n ≤ 6) (q2 : ∀ j, j < 2 → rd m2 (c' + 2) j = rd mm (c + 2) j) (q3 : ∀ j, j < 4 → rd m2 (c' + 3) j = rd mm (c + 3) j) (q6 : rd m2 c' 6 = rd mm c 6) (q7 : rd m2 c' 7 = rd mm c 7) (q13 : ∀ j, j < 8 → rd m2 (c' + 13) j = rd mm (c + 13) j) (q5 : ∀ q, q < 8 → ∀ j, j < 6 → rd m2 (c' + 5 + q) j = rd mm (c + 5 + q) j) (e1 : ∀ i, i < 2 → s' i = s i) (e2 : d' = d) (e3 : ∀ i, i < 4 → l' i = l i) (e4 : e' = e) (e5 : ∀ i, i < 56 → nt' i = nt i) : RC m2 c' n s' d' l' e' nt' := by
  obtain ⟨a1, a2, a3, a4, a5, en, a6, a7, a8⟩ := h
  subst e2
  subst e4
  refine ⟨fun i hi => ?_, by rw [q6]; exact a2, a3, fun i hi => ?_, by rw [q7]; exact a5, en, a6, a7, fun k hk => ?_⟩
  · rw [q2 i hi, e1 i hi]; exact a1 i hi
  · rw [q3 i hi, e3 i hi]; exact a4 i hi
  · obtain ⟨b1, b2, b3⟩ := a8 k hk
    refine ⟨fun i hi => ?_, ?_, ?_⟩
    · rw [q5 k (by first | omega | (dsimp only; omega)) i (by first | omega | (dsimp only; omega)), e5 _ (by first | omega | (dsimp only; omega))]; exact b1 i hi
    · rw [q13 k (by first | omega | (dsimp only; omega)), e5 _ (by first | omega | (dsimp only; omega))]; exact b2
    · rw [e5 _ (by first | omega | (dsimp only; omega))]; exact b3
theorem RKt_d {mm m2 : Mm} {n k : Nat} (h : RKt mm n k) (hn : n ≤ 6) (hk : k < 3) (e0 : ∀ i, i < n → ∀ j, j < 3 → rd m2 (17 + i) j = rd mm (17 + i) j) (e : ∀ q j, (115 + 20 * k ≤ q ∧ q < 135 + 20 * k) ∨ (q = 196 ∧ 72 * k ≤ j ∧ j < 72 * k + 72) → rd m2 q j = rd mm q j) : RKt m2 n k := by
  unfold RKt
  rcases h with ⟨h1, h2⟩ | ⟨h1, h2, h3, h4, h5⟩
  · exact Or.inl ⟨by rw [e _ _ (by first | omega | (dsimp only; omega))]; exact h1, by rw [e _ _ (by first | omega | (dsimp only; omega))]; exact h2⟩
  · refine Or.inr ⟨by rw [e _ _ (by first | omega | (dsimp only; omega))]; exact h1, h2, by rw [e _ _ (by first | omega | (dsimp only; omega))]; exact h3, fun i hi j hj => ?_, ?_⟩
    · rw [e _ _ (by first | omega | (dsimp only; omega)), e0 i hi j hj]; exact h4 i hi j hj
    · exact RC_c h5 (fun k j h1 h2 => e _ _ (by first | omega | (dsimp only; omega))) (fun i _ => e _ _ (by first | omega | (dsimp only; omega))) (e _ _ (by first | omega | (dsimp only; omega))) (fun i _ => e _ _ (by first | omega | (dsimp only; omega))) (e _ _ (by first | omega | (dsimp only; omega))) (fun i _ => e _ _ (by first | omega | (dsimp only; omega))) hn
