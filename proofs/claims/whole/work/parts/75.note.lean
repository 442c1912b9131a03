/-! pure: note -/
theorem shl_n : ∀ n, n < 7 → (1 : Int32) <<< (nI n &&& 31) = nI (2 ^ n) := by decide +kernel
theorem pw_n : ∀ n, n < 7 → 2 ^ n ≤ 64 := by decide
theorem cwrite_e {N en L : Nat} {k : Nat} {v : Int32} {mm : Mm} (h7 : rd mm 3 7 = nI en) (he : en < 8) (hk : ln k = L) (hL : 6 ≤ L) (hL2 : L ≤ 80) : ∃ m', fX0_write N 3 k v mm = some ((), m') ∧ Fr (fun k j => k = 8 + en ∨ (k = 16 ∧ j = en) ∨ (k = 3 ∧ j = 7)) mm m' ∧ rd m' 3 7 = nI (en + 1) ∧ rd m' 16 en = v ∧ ∀ i, i < 6 → rd m' (8 + en) i = rd mm k i := by
  have hkk : k ≠ 8 + en ∨ k = 8 + en := by omega
  refine ⟨wr (wr (cpy mm k (8 + en) 0 0 6) 16 en v) 3 7 (nI (en + 1)), ?_, ?_, ?_, ?_, fun i hi => ?_⟩
  · unfold fX0_write
    simp only [LXa, h7, nI_nat (show en < 2147483648 by omega)]
    rw [hk]
    refine st_t (nI_lt he (by first | omega | (dsimp only; omega))) (st_k rfl (show en < 8 by omega) (by first | omega | (dsimp only; omega)) (st_n ?_))
    have hx : (if (6 : Int32) < Int32.ofNat L then (6 : Int32) else Int32.ofNat L) = nI 6 := by
      by_cases hl : 6 < L
      · rw [if_pos (show (6 : Int32) < Int32.ofNat L from nI_lt hl (by first | omega | (dsimp only; omega)))]; rfl
      · obtain rfl : L = 6 := by omega
        rfl
    rw [hx, ln_6 (Or.inl (by first | omega | (dsimp only; omega)))]
    refine st_g (cpok_n (i := 0) (j := 0) (c := 6) (by first | omega | (dsimp only; omega)) (by first | omega | (dsimp only; omega)) (by first | omega | (dsimp only; omega)) (by first | omega | (dsimp only; omega))) (st_n ?_)
    have h7' : rd (cpy mm k (8 + en) 0 0 (nI 6)) 3 7 = nI en := by rw [rd_cpy, if_neg (by first | omega | (dsimp only; omega))]; exact h7
    rw [h7']
    refine st_k rfl (show en < 8 by omega) (by first | omega | (dsimp only; omega)) (st_n ?_)
    simp only [nI_nat (show en < 2147483648 by omega)]
    rw [rd_wr_k (by first | omega | (dsimp only; omega)), h7', nI_1]
    rfl
  · exact fr_wr (fr_wr (fr_cpy Fr.rf (fun j => Or.inl rfl)) (Or.inr (Or.inl ⟨rfl, rfl⟩))) (Or.inr (Or.inr ⟨rfl, rfl⟩))
  · rw [rd_wr_s]
  · rw [rd_wr_k (by first | omega | (dsimp only; omega)), rd_wr_s]
  · rw [rd_wr_k (by first | omega | (dsimp only; omega)), rd_wr_k (by first | omega | (dsimp only; omega)), rd_cpy, if_pos ⟨rfl, Nat.zero_le _, hi⟩]
    show rd mm k (0 + (i - 0)) = rd mm k i
    rw [Nat.zero_add, Nat.sub_zero]
theorem mnote_l {N n en r : Nat} {v : Int32} {mm0 : Mm} (hr : r < 6) (hn : n ≤ 6) (he : en < 8) : ∀ m i mm, i + m = 6 → Fr (fun k j => k = 193 ∧ 7 * en ≤ j ∧ j < 7 * en + 7) mm0 mm → rd mm0 175 10 = nI n → rd mm0 175 37 = nI en → (∀ q, q < i → rd mm 193 (7 * en + q) = if q < n then rd mm0 178 (40 * r + q) else 0) → ∀ f, m < f → ∃ m', fX12_note_53 N f 175 (nI r) v (nI i) mm = some (nI en, m') ∧ Fr (fun k j => (k = 193 ∧ 7 * en ≤ j ∧ j < 7 * en + 7) ∨ (k = 175 ∧ j = 37)) mm0 m' ∧ rd m' 175 37 = nI (en + 1) ∧ rd m' 193 (7 * en + 6) = v ∧ ∀ q, q < 6 → rd m' 193 (7 * en + q) = if q < n then rd mm0 178 (40 * r + q) else 0 := by
  intro m
  induction m with
  | zero =>
    intro i mm hi hF h10 h37 hd f hf
    obtain ⟨f, rfl⟩ : ∃ g, f = g + 1 := ⟨f - 1, by omega⟩
    obtain rfl : i = 6 := by omega
    have h37' : rd mm 175 37 = nI en := by rw [hF.2 _ _ (by first | omega | (dsimp only; omega))]; exact h37
    refine ⟨wr (wr mm 193 (7 * en + 6) v) 175 37 (nI (en + 1)), ?_, ?_, by rw [rd_wr_s], by rw [rd_wr_k (by first | omega | (dsimp only; omega)), rd_wr_s], fun q hq => by rw [rd_wr_k (by first | omega | (dsimp only; omega)), rd_wr_j (by first | omega | (dsimp only; omega))]; exact hd q hq⟩
    · unfold fX12_note_53
      rw [h37', show (7 : Int32) = nI 7 from rfl, nI_mul, show (6 : Int32) = nI 6 from rfl, nI_add]
      simp only [LXm, nI_nat (show 7 * en + 6 < 2147483648 by omega)]
      refine st_t (nI_le (by first | omega | (dsimp only; omega)) (by first | omega | (dsimp only; omega))) (st_k rfl (by first | omega | (dsimp only; omega)) (by first | omega | (dsimp only; omega)) (st_n (st_n ?_)))
      rw [rd_wr_s, rd_wr_k (by first | omega | (dsimp only; omega)), h37', nI_1, nI_pred]
    · exact fr_wr (fr_wr (hF.mono (fun k j h => Or.inl h)) (Or.inl ⟨rfl, by omega, by omega⟩)) (Or.inr ⟨rfl, rfl⟩)
  | succ m ih =>
    intro i mm hi hF h10 h37 hd f hf
    obtain ⟨f, rfl⟩ : ∃ g, f = g + 1 := ⟨f - 1, by omega⟩
    have h37' : rd mm 175 37 = nI en := by rw [hF.2 _ _ (by first | omega | (dsimp only; omega))]; exact h37
    have h10' : rd mm 175 10 = nI n := by rw [hF.2 _ _ (by first | omega | (dsimp only; omega))]; exact h10
    obtain ⟨m', c1, c2⟩ := ih (i + 1) (wr mm 193 (7 * en + i) (if i < n then rd mm0 178 (40 * r + i) else 0)) (by first | omega | (dsimp only; omega)) (fr_wr hF ⟨rfl, by omega, by omega⟩) h10 h37 (fun q hq => by
      by_cases hqi : q = i
      · subst hqi; rw [rd_wr_s]
      · rw [rd_wr_j (by first | omega | (dsimp only; omega))]; exact hd q (by first | omega | (dsimp only; omega))) f (by first | omega | (dsimp only; omega))
    refine ⟨m', ?_, c2⟩
    unfold fX12_note_53 fX12_note_94
    rw [h10', h37', show (7 : Int32) = nI 7 from rfl, nI_mul, nI_add]
    simp only [LXm, nI_nat (show 7 * en + i < 2147483648 by omega)]
    refine st_f (nI_ge (by first | omega | (dsimp only; omega)) (by first | omega | (dsimp only; omega))) ?_
    by_cases hin : i < n
    · rw [if_pos hin] at c1
      refine st_f (nI_ge hin (by first | omega | (dsimp only; omega))) (st_b (rowAt_t hr (by first | omega | (dsimp only; omega))) (st_k rfl (by first | omega | (dsimp only; omega)) (by first | omega | (dsimp only; omega)) (st_n ?_)))
      rw [hF.2 178 (40 * r + i) (by first | omega | (dsimp only; omega)), nI_1]; exact c1
    · rw [if_neg hin] at c1
      refine st_t (nI_le (by first | omega | (dsimp only; omega)) (by first | omega | (dsimp only; omega))) (st_k rfl (by first | omega | (dsimp only; omega)) (by first | omega | (dsimp only; omega)) (st_n ?_))
      rw [nI_1]; exact c1
theorem Rel_RC2 {mm m2 : Mm} {n : Nat} (h : Rel mm) (hs : RS mm n) (e : ∀ k j, Es k j = true → ¬ PC k j → rd m2 k j = rd mm k j) (e2 : m2.2 = mm.2) (h4 : RCm mm n → RCm m2 n) (h8 : RTT m2) : Rel m2 := by
  obtain ⟨g1, g2, ⟨n', g3, g4, g5⟩, g6, g7, -⟩ := h
  obtain rfl : n' = n := nI_inj (g3.2.1.symm.trans hs.2.1) (by have := g3.1; omega) (by have := hs.1; omega)
  have hn := g3.1
  refine ⟨?_, ?_, ⟨n', ?_, h4 g4, ?_⟩, ?_, ?_, h8⟩
  · exact RR_c g1 (fun i j z => e i j (eRR z) (by unfold PC; omega))
  · exact RT_c g2 (fun i j z => e i j (eRT z) (by unfold PC; omega))
  · exact RS_c g3 (fun i j z => e i j (eRS z) (by unfold PC; omega))
  · exact fun q hq => RKt_c (g5 q hq) hn hq (fun i j z => e i j (eRK z) (by unfold PC; omega))
  · exact RF_c g6 (fun i j z => e i j (eRF z) (by unfold PC; omega)) (fun i j z => by unfold rdL; rw [e2])
  · exact RA_c g7 (fun i z => e i 0 (eRA z) (by unfold PC; omega))
theorem ok_32 {N : Nat} (hN : 100000 ≤ N) : OK_32 N Rel := by
  intro a1 a2 mm h
  obtain ⟨n, g3, g4, -⟩ := h.2.2.1
  obtain ⟨C, M⟩ := RS_CS g3
  obtain ⟨n', K', W', F', d, s, t, C', -, hd, hd', hd9, hs, hs', hs40, ht, ht', ht40⟩ := Rel_data h
  have hn := C.2.1
  obtain ⟨a1', -, -, -, a5, en, a6, a7, -⟩ := g4
  have h7 : rd mm 3 7 = nI en := a5.trans a7
  have hp := pw_n n (by first | omega | (dsimp only; omega))
  have hsh : (1 : Int32) <<< (rd mm 3 5 &&& 31) = nI (2 ^ n) := by rw [C.1]; exact shl_n n (by first | omega | (dsimp only; omega))
  have hsm : ∀ m : Mm, rd m 175 10 = nI n → (1 : Int32) <<< (rd m 175 10 &&& 31) - 1 = nI (2 ^ n) - 1 := fun m e => by rw [e, shl_n n (by first | omega | (dsimp only; omega))]
  rcases rng a1 6 with ⟨r, hr, -, rfl⟩ | hb
  rotate_left
  · refine ⟨-1, mm, mm, ?_, ?_, h⟩
    · unfold fX11_note
      exact st_b (rowOf_n hb) (st_c0 rfl)
    · unfold fX12_note
      exact st_b (isRow_n hb) (st_t rfl rfl)
  rcases rng a2 (2 ^ n) with ⟨w, hw, -, rfl⟩ | hb
  rotate_left
  · refine ⟨-1, mm, mm, ?_, ?_, h⟩
    · unfold fX11_note
      simp only [LXa]
      refine st_b (rowOf_t hr) (st_c ?_)
      rcases hb with hb | ⟨j, h1, h2, rfl⟩
      · exact st_t hb rfl
      · exact st_f (nI_pos h2) (st_f (by rw [hsh]; exact nI_nlt h1 h2) rfl)
    · unfold fX12_note
      exact st_b (isRow_t hr) (st_f (by decide) (st_b (in_o (hsm _ M.1) hb (by first | omega | (dsimp only; omega))) (st_t rfl rfl)))
  rcases one_e (a := 0) hN h C M hr (by first | omega | (dsimp only; omega)) hs hs' hs40 with ⟨f, hf, e1, e2⟩ | ⟨e1, -, -, L1, v1, e2⟩
  · refine ⟨-3, cRef f mm, mMeet f (cRef f mm), ?_, ?_, rel_ref h hf⟩
    · unfold fX11_note
      simp only [LXa]
      exact st_b (rowOf_t hr) (st_c (st_f (nI_pos (by first | omega | (dsimp only; omega))) (st_t (by rw [hsh]; exact nI_lt hw (by first | omega | (dsimp only; omega))) (st_b e1 (st_f (by decide) rfl)))))
    · unfold fX12_note
      have A : MA mm (cRef f mm) := fun k j hk => rd_cRef (by first | omega | (dsimp only; omega)) (by first | omega | (dsimp only; omega))
      exact st_b (isRow_t hr) (st_f (by decide) (st_b (in_n (hsm _ ((rd_cRef (by first | omega | (dsimp only; omega)) (by first | omega | (dsimp only; omega))).trans M.1)) hw (by first | omega | (dsimp only; omega))) (st_f (by decide) (st_b (e2 _ A) (st_f (by decide) rfl)))))
  by_cases he : en = 8
  · refine ⟨-2, mm, mm, ?_, ?_, h⟩
    · unfold fX11_note
      simp only [LXa]
      exact st_b (rowOf_t hr) (st_c (st_f (nI_pos (by first | omega | (dsimp only; omega))) (st_t (by rw [hsh]; exact nI_lt hw (by first | omega | (dsimp only; omega))) (st_b e1 (st_t rfl (st_f (by rw [h7, he]; decide) rfl))))))
    · unfold fX12_note
      exact st_b (isRow_t hr) (st_f (by decide) (st_b (in_n (hsm _ M.1) hw (by first | omega | (dsimp only; omega))) (st_f (by decide) (st_b (e2 _ (fun _ _ _ => rfl)) (st_t (by decide) (st_t (by rw [a7, he]; rfl) rfl))))))
  obtain ⟨x1, x2⟩ := lay_n L1
  obtain ⟨m1, c1, f1, w1, w2, w3⟩ := cwrite_e (N := N) (v := nI w) h7 (by first | omega | (dsimp only; omega)) (ln_row hr) (by first | omega | (dsimp only; omega)) (by first | omega | (dsimp only; omega))
  obtain ⟨m2, c2, f2, u1, u2, u3⟩ := mnote_l (N := N) (n := n) (en := en) (r := r) (v := nI w) (mm0 := m1) hr hn (by first | omega | (dsimp only; omega)) 6 0 m1 (by first | omega | (dsimp only; omega)) Fr.rf (by rw [f1.2 _ _ (by first | omega | (dsimp only; omega))]; exact M.1) (by rw [f1.2 _ _ (by first | omega | (dsimp only; omega))]; exact a7) (fun q hq => by omega) N (by first | omega | (dsimp only; omega))
  refine ⟨nI en, m1, m2, ?_, ?_, ?_⟩
  · unfold fX11_note
    simp only [LXa]
    refine st_b (rowOf_t hr) (st_c (st_f (nI_pos (by first | omega | (dsimp only; omega))) (st_t (by rw [hsh]; exact nI_lt hw (by first | omega | (dsimp only; omega))) (st_b e1 (st_t rfl (st_t (by rw [h7]; exact nI_lt (by first | omega | (dsimp only; omega)) (by first | omega | (dsimp only; omega))) ?_))))))
    rw [fr_row hr]
    refine st_b c1 ?_
    rw [w1, nI_pred]
  · unfold fX12_note
    have h10 : rd m1 175 10 = nI n := by rw [f1.2 175 10 (by first | omega | (dsimp only; omega))]; exact M.1
    have h37 : rd m1 175 37 = nI en := by rw [f1.2 175 37 (by first | omega | (dsimp only; omega))]; exact a7
    exact st_b (isRow_t hr) (st_f (by decide) (st_b (in_n (hsm _ h10) hw (by first | omega | (dsimp only; omega))) (st_f (by decide) (st_b (e2 _ (fun k j hk => f1.2 _ _ (by first | omega | (dsimp only; omega)))) (st_t (by decide) (st_f (fun e => he (nI_inj (b := 8) (h37.symm.trans e) (by first | omega | (dsimp only; omega)) (by first | omega | (dsimp only; omega)))) c2))))))
  · refine Rel_RC2 h g3 (fun k j e hp => ?_) (f2.1.trans f1.1) (fun g4 => ?_) (RTT_c h.2.2.2.2.2 (fun k j e => ?_))
    · unfold PC at hp
      rw [f2.2 _ _ (by first | omega | (dsimp only; omega)), f1.2 _ _ (by first | omega | (dsimp only; omega))]
    · have z : ∀ k j, ¬ ((k = 8 + en ∨ (k = 16 ∧ j = en) ∨ (k = 3 ∧ j = 7)) ∨ (k = 193 ∧ 7 * en ≤ j ∧ j < 7 * en + 7) ∨ (k = 175 ∧ j = 37)) → rd m2 k j = rd mm k j := fun k j q => by rw [f2.2 _ _ (by first | omega | (dsimp only; omega)), f1.2 _ _ (by first | omega | (dsimp only; omega))]
      obtain ⟨b1, b2, b3, b4, b5, en', b6, b7, b8⟩ := g4
      obtain rfl : en' = en := nI_inj (b7.symm.trans a7) (by first | omega | (dsimp only; omega)) (by first | omega | (dsimp only; omega))
      refine ⟨fun i hi => ?_, ?_, ?_, fun i hi => ?_, ?_, en' + 1, by omega, u1, fun k hk => ?_⟩
      · dsimp only
        rw [z _ _ (by first | omega | (dsimp only; omega)), z _ _ (by first | omega | (dsimp only; omega))]; exact b1 i hi
      · rw [z _ _ (by first | omega | (dsimp only; omega)), z _ _ (by first | omega | (dsimp only; omega))]; exact b2
      · rw [z _ _ (by first | omega | (dsimp only; omega))]; exact b3
      · dsimp only
        rw [z _ _ (by first | omega | (dsimp only; omega)), z _ _ (by first | omega | (dsimp only; omega))]; exact b4 i hi
      · rw [u1, f2.2 _ _ (by first | omega | (dsimp only; omega)), w1]
      · dsimp only
        by_cases hke : k = en'
        · subst hke
          refine ⟨fun i hi => ?_, ?_, w, hw, u2⟩
          · rw [f2.2 _ _ (by first | omega | (dsimp only; omega)), show 3 + 5 + k = 8 + k by omega, w3 i (by first | omega | (dsimp only; omega)), u3 i (by first | omega | (dsimp only; omega)), if_pos hi, f1.2 _ _ (by first | omega | (dsimp only; omega)), v1 i hi, ← v1 i hi]
            exact ⟨rfl, _, x2 i hi, x1 i hi⟩
          · rw [f2.2 _ _ (by first | omega | (dsimp only; omega)), show 3 + 13 = 16 from rfl, w2, u2]
        · obtain ⟨d1, d2, d3⟩ := b8 k (by first | omega | (dsimp only; omega))
          refine ⟨fun i hi => ?_, ?_, ?_⟩
          · rw [z _ _ (by first | omega | (dsimp only; omega)), z _ _ (by first | omega | (dsimp only; omega))]; exact d1 i hi
          · rw [z _ _ (by first | omega | (dsimp only; omega)), z _ _ (by first | omega | (dsimp only; omega))]; exact d2
          · rw [z _ _ (by first | omega | (dsimp only; omega))]; exact d3
    · rw [f2.2 _ _ (by first | omega | (dsimp only; omega)), f1.2 _ _ (by first | omega | (dsimp only; omega))]
