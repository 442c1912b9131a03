/-! pure: when, lend, adds -/
def scB (o : Option Lf) : Nat := match o with
  | none => 0
  | some y => y.1
/-- days gone through, the best of them -/
def whN (S : Nat → Nat) : Nat → Nat → Int32 × Int32 → Int32 × Int32
  | 0, _, p => p
  | c + 1, d, p => whN S c (d + 1) (if nI (S d) ≤ p.2 then p else (nI d, nI (S d)))
section Wh
variable {N n s : Nat} {K W F z : Nat → Nat}
def scD (n s : Nat) (K W F z : Nat → Nat) (d : Nat) : Nat := scB ((lvs K W F d z 0 s n 0 (fun _ => 0) (fun _ => 0) 0 0).foldl (bst n) none)
theorem cwhen_l {q : Nat} (hN : 100000 ≤ N) (hs : s ≤ 40) (hq : q < 6) (hz : ∀ i, i < n → z i ≤ 1000) : ∀ c d (p : Int32 × Int32) mm, d + c = 10 → CS mm n K W F → rd mm 5 0 = nI s → HA mm (96 + 2 * q) n z → ∀ f, c < f → ∃ m', fX11_when_32 N f 0 (95 + 2 * q) p.1 p.2 (nI d) mm = some ((whN (scD n s K W F z) c d p).1, wr m' 0 14 (whN (scD n s K W F z) c d p).2) ∧ Fr (fun k _ => 35 ≤ k ∧ k ≤ 39) mm m' := by
  intro c
  induction c with
  | zero =>
    intro d p mm hi C h0 hZ f hf
    obtain ⟨f, rfl⟩ : ∃ g, f = g + 1 := ⟨f - 1, by omega⟩
    refine ⟨mm, ?_, Fr.rf⟩
    unfold fX11_when_32
    exact st_t (nI_lt (by first | omega | (dsimp only; omega)) (by first | omega | (dsimp only; omega))) (st_n rfl)
  | succ c ih =>
    intro d p mm hi C h0 hZ f hf
    obtain ⟨f, rfl⟩ : ∃ g, f = g + 1 := ⟨f - 1, by omega⟩
    obtain ⟨m1, c1, c2, c3⟩ := run_e (N := N) (d := d) (most := s) hN (by first | omega | (dsimp only; omega)) (by first | omega | (dsimp only; omega)) (ln_row hq) (by first | omega | (dsimp only; omega)) (by first | omega | (dsimp only; omega)) hz C hZ
    obtain ⟨y, y1, -, -⟩ := bst_e (n := n) _ (lvs_ne (K := K) (W := W) (F := F) (d := d) (s := 0) (L := s) (z := z) n 0 (fun _ => 0) (fun _ => 0) 0 0 (by first | omega | (dsimp only; omega)))
    obtain ⟨-, -, c4, -⟩ := c3
    obtain ⟨b1, -⟩ := c4 y y1
    have hsc : scD n s K W F z d = y.1 := by unfold scD; rw [y1]; rfl
    obtain ⟨m', a1, a2⟩ := ih (d + 1) (if nI (scD n s K W F z d) ≤ p.2 then p else (nI d, nI (scD n s K W F z d))) m1 (by first | omega | (dsimp only; omega)) (CS_c C (fun k j e => c2.2 _ _ (by first | omega | (dsimp only; omega)))) (by rw [c2.2 _ _ (by first | omega | (dsimp only; omega))]; exact h0) (hZ.c (fun i hi => c2.2 _ _ (by first | omega | (dsimp only; omega)))) f (by first | omega | (dsimp only; omega))
    refine ⟨m', ?_, c2.tr a2⟩
    unfold fX11_when_32 fX11_when_89
    simp only [LXa, LXb, fr_row hq, nI_1]
    refine st_f (nI_nlt (by first | omega | (dsimp only; omega)) (by first | omega | (dsimp only; omega))) (st_g (by decide) ?_)
    rw [show ((0 : Int32).toNatClampNeg) = 0 from rfl, h0]
    refine st_b c1 ?_
    rw [b1, ← hsc]
    unfold whN
    by_cases hq : nI (scD n s K W F z d) ≤ p.2
    · rw [if_pos hq] at a1
      refine st_t hq ?_
      rw [if_pos hq]
      exact a1
    · rw [if_neg hq] at a1
      refine st_f hq ?_
      rw [if_neg hq]
      exact a1
theorem mwhen_l {was : Int32} (hN : 100000 ≤ N) (hs : s ≤ 40) (hz : ∀ i, i < n → z i ≤ 1000) : ∀ c d (p : Int32 × Int32) mm, d + c = 10 → MS mm n K W F → rd mm 183 0 = nI s → HA mm 186 n z → ∀ f, c < f → ∃ m', fX12_when_42 N f 175 was p.1 p.2 (nI d) mm = some ((whN (scD n s K W F z) c d p).1, wr (wr m' 175 13 was) 175 2 (whN (scD n s K W F z) c d p).2) ∧ Fr (fun k j => (k = 175 ∧ (j = 13 ∨ j = 22 ∨ j = 24 ∨ j = 25)) ∨ (187 ≤ k ∧ k ≤ 189)) mm m' := by
  intro c
  induction c with
  | zero =>
    intro d p mm hi M h0 hZ f hf
    obtain ⟨f, rfl⟩ : ∃ g, f = g + 1 := ⟨f - 1, by omega⟩
    refine ⟨mm, ?_, Fr.rf⟩
    unfold fX12_when_42
    exact st_t (nI_lt (by first | omega | (dsimp only; omega)) (by first | omega | (dsimp only; omega))) (st_n (st_b rfl rfl))
  | succ c ih =>
    intro d p mm hi M h0 hZ f hf
    obtain ⟨f, rfl⟩ : ∃ g, f = g + 1 := ⟨f - 1, by omega⟩
    have hfr : Fr (fun k j => (k = 175 ∧ (j = 13 ∨ j = 22 ∨ j = 24 ∨ j = 25)) ∨ (187 ≤ k ∧ k ≤ 189)) mm (wr mm 175 13 (nI d)) := fr_wr Fr.rf (by first | omega | (dsimp only; omega))
    have M1 : MS (wr mm 175 13 (nI d)) n K W F := MS_c M (fun k j e => hfr.2 _ _ (by first | omega | (dsimp only; omega)))
    obtain ⟨m1, c1, c2, c3⟩ := setBest_e (N := N) (d := d) (L := s) (z := z) hN (by first | omega | (dsimp only; omega)) (by first | omega | (dsimp only; omega)) hz M1 (by rw [rd_wr_s]) (hZ.c (fun i hi => hfr.2 _ _ (by first | omega | (dsimp only; omega))))
    obtain ⟨y, y1, -, -⟩ := bst_e (n := n) _ (lvs_ne (K := K) (W := W) (F := F) (d := d) (s := 0) (L := s) (z := z) n 0 (fun _ => 0) (fun _ => 0) 0 0 (by first | omega | (dsimp only; omega)))
    obtain ⟨b1, -⟩ := c3.1 y y1
    have hsc : scD n s K W F z d = y.1 := by unfold scD; rw [y1]; rfl
    have hf1 : Fr (fun k j => (k = 175 ∧ (j = 13 ∨ j = 22 ∨ j = 24 ∨ j = 25)) ∨ (187 ≤ k ∧ k ≤ 189)) mm m1 := hfr.tr (c2.mono (fun k j e => by omega))
    obtain ⟨m', a1, a2⟩ := ih (d + 1) (if nI (scD n s K W F z d) ≤ p.2 then p else (nI d, nI (scD n s K W F z d))) m1 (by first | omega | (dsimp only; omega)) (MS_c M (fun k j e => hf1.2 _ _ (by first | omega | (dsimp only; omega)))) (by rw [hf1.2 _ _ (by first | omega | (dsimp only; omega))]; exact h0) (hZ.c (fun i hi => hf1.2 _ _ (by first | omega | (dsimp only; omega)))) f (by first | omega | (dsimp only; omega))
    refine ⟨m', ?_, hf1.tr a2⟩
    unfold fX12_when_42 fX12_when_81 fX12_when_101
    simp only [LXm, nI_1]
    refine st_f (nI_nlt (by first | omega | (dsimp only; omega)) (by first | omega | (dsimp only; omega))) (st_n (st_g (by decide) ?_))
    rw [show ((0 : Int32).toNatClampNeg) = 0 from rfl, rd_wr_k (by first | omega | (dsimp only; omega)), h0]
    refine st_b c1 ?_
    rw [b1, ← hsc]
    unfold whN
    by_cases hq : nI (scD n s K W F z d) ≤ p.2
    · rw [if_pos hq] at a1
      refine st_t hq (st_t hq ?_)
      rw [if_pos hq]
      exact a1
    · rw [if_neg hq] at a1
      refine st_f hq (st_f hq ?_)
      rw [if_neg hq]
      exact a1
end Wh
theorem ok_30 {N : Nat} (hN : 100000 ≤ N) : OK_30 N Rel := by
  intro a1 mm h
  obtain ⟨n, K, W, F, d, s, t, C, M, hd, hd', hd9, hs, hs', hs40, ht, ht', ht40⟩ := Rel_data h
  have hn := C.2.1
  rcases rng a1 6 with ⟨r, hr, -, rfl⟩ | hb
  rotate_left
  · refine ⟨-1, mm, mm, ?_, ?_, h⟩
    · unfold fX11_when
      exact st_b (rowOf_n hb) (st_c0 rfl)
    · unfold fX12_when
      exact st_b (isRow_n hb) (st_t rfl rfl)
  rcases one_e (a := 1) hN h C M hr (by first | omega | (dsimp only; omega)) ht ht' ht40 with ⟨f, hf, e1, e2⟩ | ⟨e1, z1, z2, L1, v1, e2⟩
  · refine ⟨-3, cRef f mm, mMeet f (cRef f mm), ?_, ?_, rel_ref h hf⟩
    · unfold fX11_when
      exact st_b (rowOf_t hr) (st_c (st_b e1 (st_f (by decide) rfl)))
    · unfold fX12_when
      exact st_b (isRow_t hr) (st_f (by decide) (st_b (e2 _ (fun k j hk => rd_cRef (by first | omega | (dsimp only; omega)) (by first | omega | (dsimp only; omega)))) (st_f (by decide) rfl)))
  · obtain ⟨x1, x2⟩ := lay_n L1
    generalize lO (fun j => rd mm (96 + 2 * r) j) = x at x1 x2
    have x1' : HA mm (96 + 2 * r) n x := x1
    have x3 : ∀ i, i < n → x i ≤ 1000 := fun i hi => by have := x2 i hi; omega
    obtain ⟨m1, c1, c2⟩ := cwhen_l (N := N) (s := s) (q := r) hN hs40 hr x3 10 0 (0, -1) mm (by first | omega | (dsimp only; omega)) C hs x1' N (by first | omega | (dsimp only; omega))
    generalize hP : whN (scD n s K W F x) 10 0 (0, -1) = P at c1
    have hA : MA mm (wr m1 0 14 P.2) := fun k j hk => by rw [rd_wr_k (by first | omega | (dsimp only; omega)), c2.2 _ _ (by first | omega | (dsimp only; omega))]
    have M1 := hA.ms M
    obtain ⟨ma, k1, k2, k3⟩ := takes_e (N := N) (s := 1) (x := x) hN hr (by first | omega | (dsimp only; omega)) M1 (fun i hi => by rw [hA _ _ (by first | omega | (dsimp only; omega)), ← v1 i hi]; exact x1 i hi)
    have M2 : MS ma n K W F := MS_c M1 (fun k j e => k2.2 _ _ (by first | omega | (dsimp only; omega)))
    obtain ⟨mb, l1, l2⟩ := mwhen_l (N := N) (s := s) (was := nI d) hN hs40 x3 10 0 (0, -1) ma (by first | omega | (dsimp only; omega)) M2 (by rw [k2.2 _ _ (by first | omega | (dsimp only; omega)), hA _ _ (by first | omega | (dsimp only; omega))]; exact hs') k3 N (by first | omega | (dsimp only; omega))
    rw [hP] at l1
    refine ⟨P.1, wr m1 0 14 P.2, wr (wr mb 175 13 (nI d)) 175 2 P.2, ?_, ?_, ?_⟩
    · unfold fX11_when
      exact st_b (rowOf_t hr) (st_c (st_b e1 (st_t rfl c1)))
    · unfold fX12_when
      refine st_b (isRow_t hr) (st_f (by decide) (st_b (e2 _ hA) (st_t (by decide) (st_b k1 ?_))))
      rw [k2.2 _ _ (by first | omega | (dsimp only; omega)), hA _ _ (by first | omega | (dsimp only; omega)), hd']
      exact l1
    · -- the damp stays
      have hfin : Fr (ScA 6) mm (wr (wr mb 175 13 (nI d)) 175 2 P.2) := by
        have g1 : Fr (fun k j => (35 ≤ k ∧ k ≤ 39) ∨ (k = 0 ∧ j = 14) ∨ (k = 175 ∧ (j = 2 ∨ j = 13 ∨ j = 22 ∨ j = 24 ∨ j = 25)) ∨ (186 ≤ k ∧ k ≤ 189)) mm (wr (wr mb 175 13 (nI d)) 175 2 P.2) :=
          fr_wr (fr_wr ((c2.mono (fun k j e => by omega)).tr (fr_st ((k2.mono (fun k j e => by omega)).tr (l2.mono (fun k j e => by omega))) (by first | omega | (dsimp only; omega)))) (by first | omega | (dsimp only; omega))) (by first | omega | (dsimp only; omega))
        refine ⟨g1.1, fun k j hk => ?_⟩
        by_cases h13 : k = 175 ∧ j = 13
        · obtain ⟨rfl, rfl⟩ := h13
          rw [rd_wr_j (by first | omega | (dsimp only; omega)), rd_wr_s, hd']
        · refine g1.2 k j (fun q => hk ?_)
          rcases q with q | q | q | q
          · exact Or.inl (by unfold ScC; omega)
          · exact Or.inr (Or.inr (Or.inl (Or.inl q)))
          · by_cases h2 : j = 2
            · exact Or.inr (Or.inr (Or.inl (Or.inr ⟨q.1, h2⟩)))
            · exact Or.inr (Or.inl (by unfold ScM; omega))
          · exact Or.inr (Or.inl (by unfold ScM; omega))
      refine Rel_row (r := 6) h hfin ?_ ?_ (fun q => by omega)
      · exact RA_keep h.2.2.2.2.1 (fun k _ _ _ _ _ _ _ _ _ => by rw [rd_wr_k (by first | omega | (dsimp only; omega)), rd_wr_k (by first | omega | (dsimp only; omega)), l2.2 _ _ (by first | omega | (dsimp only; omega)), k2.2 _ _ (by first | omega | (dsimp only; omega)), rd_wr_k (by first | omega | (dsimp only; omega)), c2.2 _ _ (by first | omega | (dsimp only; omega))])
      · rw [rd_wr_s, rd_wr_k (by first | omega | (dsimp only; omega)), rd_wr_k (by first | omega | (dsimp only; omega)), l2.2 _ _ (by first | omega | (dsimp only; omega)), k2.2 _ _ (by first | omega | (dsimp only; omega)), rd_wr_s]
theorem ok_27 {N : Nat} (hN : 100000 ≤ N) : OK_27 N Rel := by
  intro a1 a2 mm h
  obtain ⟨n, K, W, F, d, s, t, C, M, hd, hd', hd9, hs, hs', hs40, ht, ht', ht40⟩ := Rel_data h
  obtain ⟨len, hl, hl', hl20⟩ := Rel_lend h
  have hn := C.2.1
  rcases rng a1 16 with ⟨set, hset, -, rfl⟩ | hb
  rotate_left
  · refine ⟨-1, mm, mm, ?_, ?_, h⟩
    · unfold fX11_lend
      have : ∀ x1, (if a1 < 0 then some ((-1 : Int32), mm) else if (15 : Int32) < a1 then some (-1, mm) else x1) = some (-1, mm) := by
        intro x1
        rcases hb with hb | ⟨j, h1, h2, rfl⟩
        · exact st_t hb rfl
        · exact st_f (nI_pos h2) (st_t (nI_lt (by first | omega | (dsimp only; omega)) h2) rfl)
      rcases rng a2 6 with ⟨r, hr, -, rfl⟩ | hb2
      · exact st_b (rowOf_t hr) (this _)
      · exact st_b (rowOf_n hb2) (this _)
    · unfold fX12_lend
      exact st_b (in_o (n := 16) rfl hb (by first | omega | (dsimp only; omega))) (st_t rfl rfl)
  have hin : ∀ m, fX12_in N (nI set) 0 15 m = some (1, m) := fun m => in_t (nI_pos (by first | omega | (dsimp only; omega))) (nI_nlt (by first | omega | (dsimp only; omega)) (by first | omega | (dsimp only; omega)))
  rcases rng a2 6 with ⟨r, hr, -, rfl⟩ | hb
  rotate_left
  · refine ⟨-1, mm, mm, ?_, ?_, h⟩
    · unfold fX11_lend
      exact st_b (rowOf_n hb) (st_f (nI_pos (by first | omega | (dsimp only; omega))) (st_f (nI_nlt (by first | omega | (dsimp only; omega)) (by first | omega | (dsimp only; omega))) (st_c0 rfl)))
    · unfold fX12_lend
      exact st_b (hin _) (st_f (by decide) (st_b (isRow_n hb) (st_t rfl rfl)))
  rcases one_e (a := 1) hN h C M hr (by first | omega | (dsimp only; omega)) ht ht' ht40 with ⟨f, hf, e1, e2⟩ | ⟨e1, z1, z2, L1, v1, e2⟩
  · refine ⟨-3, cRef f mm, mMeet f (cRef f mm), ?_, ?_, rel_ref h hf⟩
    · unfold fX11_lend
      exact st_b (rowOf_t hr) (st_f (nI_pos (by first | omega | (dsimp only; omega))) (st_f (nI_nlt (by first | omega | (dsimp only; omega)) (by first | omega | (dsimp only; omega))) (st_c (st_b e1 (st_f (by decide) rfl)))))
    · unfold fX12_lend fX12_askedLend
      exact st_b (hin _) (st_f (by decide) (st_b (isRow_t hr) (st_f (by decide) (st_b (st_b (e2 _ (fun k j hk => rd_cRef (by first | omega | (dsimp only; omega)) (by first | omega | (dsimp only; omega)))) (st_f (by decide) rfl)) (st_f (by decide) rfl)))))
  · have hstb := stN_b (set := set) hl20 hs40
    by_cases hst : stN s len set ≤ 40
    rotate_left
    · refine ⟨-6, mm, mm, ?_, ?_, h⟩
      · unfold fX11_lend
        simp only [LXa]
        exact st_b (rowOf_t hr) (st_f (nI_pos (by first | omega | (dsimp only; omega))) (st_f (nI_nlt (by first | omega | (dsimp only; omega)) (by first | omega | (dsimp only; omega))) (st_c (st_b e1 (st_t rfl (st_b (cstock_e hN hset hs hl) (st_f (nI_ge (by first | omega | (dsimp only; omega)) (by first | omega | (dsimp only; omega))) rfl)))))))
      · unfold fX12_lend fX12_askedLend
        exact st_b (hin _) (st_f (by decide) (st_b (isRow_t hr) (st_f (by decide) (st_b (st_b (e2 _ (fun k j hk => rfl)) (st_t (by decide) (st_b (mstock_e hN hset hs' hl') (st_f (nI_ge (by first | omega | (dsimp only; omega)) (by first | omega | (dsimp only; omega))) rfl)))) (st_f (by decide) rfl)))))
    obtain ⟨x1, x2⟩ := lay_n L1
    generalize lO (fun j => rd mm (96 + 2 * r) j) = x at x1 x2
    have x1' : HA mm (96 + 2 * r) n x := x1
    have x3 : ∀ i, i < n → x i ≤ 1000 := fun i hi => by have := x2 i hi; omega
    obtain ⟨m1, c1, c2, c3⟩ := run_e (N := N) (d := d) (most := 40) hN hd9 (by first | omega | (dsimp only; omega)) (ln_row hr) (by first | omega | (dsimp only; omega)) (by first | omega | (dsimp only; omega)) x3 C x1'
    have c31 := c3.1
    have hA : MA mm m1 := fun k j hk => c2.2 _ _ (by first | omega | (dsimp only; omega))
    have M1 := hA.ms M
    obtain ⟨ma, k1, k2, k3⟩ := takes_e (N := N) (s := 1) (x := x) hN hr (by first | omega | (dsimp only; omega)) M1 (fun i hi => by rw [hA _ _ (by first | omega | (dsimp only; omega)), ← v1 i hi]; exact x1 i hi)
    have Z : MZ ma n d s K W F x len := ⟨MS_c M1 (fun k j e => k2.2 _ _ (by first | omega | (dsimp only; omega))), by rw [k2.2 _ _ (by first | omega | (dsimp only; omega)), hA _ _ (by first | omega | (dsimp only; omega))]; exact hd', k3, by rw [k2.2 _ _ (by first | omega | (dsimp only; omega)), hA _ _ (by first | omega | (dsimp only; omega))]; exact hs', hl'.c (fun i hi => by rw [k2.2 _ _ (by first | omega | (dsimp only; omega)), hA _ _ (by first | omega | (dsimp only; omega))])⟩
    obtain ⟨mb, l1, l2⟩ := mscore_e (N := N) (set := set) hN hd9 x3 Z hset hst
    obtain ⟨mc, o1, o2⟩ := mscore_e (N := N) (set := 0) hN hd9 x3 (Z.c l2) (by first | omega | (dsimp only; omega)) (by rw [stN_0]; exact hs40)
    rw [stN_0] at o1
    have hb1 := mostBy_e (N := N) (s := stN s len set) hN c31 (by first | omega | (dsimp only; omega))
    have hb2 := mostBy_e (N := N) (s := s) hN c31 (by first | omega | (dsimp only; omega))
    refine ⟨nI (mN ((lvs K W F d x 0 40 n 0 (fun _ => 0) (fun _ => 0) 0 0).foldl gst (fun _ => none)) (stN s len set + 1)) - nI (mN ((lvs K W F d x 0 40 n 0 (fun _ => 0) (fun _ => 0) 0 0).foldl gst (fun _ => none)) (s + 1)), m1, mc, ?_, ?_, ?_⟩
    · unfold fX11_lend fX11_worthOf
      refine st_b (rowOf_t hr) (st_f (nI_pos (by first | omega | (dsimp only; omega))) (st_f (nI_nlt (by first | omega | (dsimp only; omega)) (by first | omega | (dsimp only; omega))) (st_c (st_b e1 (st_t rfl ?_)))))
      simp only [LXa, fr_row hr, hd]
      refine st_b (cstock_e hN hset hs hl) (st_t (nI_le hst (by first | omega | (dsimp only; omega))) ?_)
      rw [hd]
      refine (st_b c1 (st_b (st_b (cstock_e hN hset (by rw [c2.2 _ _ (by first | omega | (dsimp only; omega))]; exact hs) (hl.c (fun i hi => c2.2 _ _ (by first | omega | (dsimp only; omega))))) (st_b hb1 (st_g (by decide) ?_))) rfl))
      rw [show ((0 : Int32).toNatClampNeg) = 0 from rfl, c2.2 5 0 (by first | omega | (dsimp only; omega)), hs]
      exact st_b hb2 rfl
    · unfold fX12_lend fX12_askedLend
      exact st_b (hin _) (st_f (by decide) (st_b (isRow_t hr) (st_f (by decide) (st_b (st_b (e2 _ hA) (st_t (by decide) (st_b (mstock_e hN hset (by rw [hA _ _ (by first | omega | (dsimp only; omega))]; exact hs') (hl'.c (fun i hi => hA _ _ (by first | omega | (dsimp only; omega))))) (st_t (nI_le hst (by first | omega | (dsimp only; omega))) rfl)))) (st_t (by decide) (st_b k1 (st_b l1 (st_b o1 rfl))))))))
    · refine Rel_row (r := 6) h ((c2.mono (fun k j e => Or.inl ?_)).tr (((k2.mono (fun k j e => Or.inr (Or.inl ?_))).tr (l2.mono (fun k j e => Or.inr (Or.inl ?_)))).tr (o2.mono (fun k j e => Or.inr (Or.inl ?_))))) ?_ ?_ (fun q => by omega)
      · unfold ScC; omega
      · unfold ScM; omega
      · unfold ScM; omega
      · unfold ScM; omega
      · exact RA_keep h.2.2.2.2.1 (fun k _ _ _ _ _ _ _ _ _ => by rw [o2.2 _ _ (by first | omega | (dsimp only; omega)), l2.2 _ _ (by first | omega | (dsimp only; omega)), k2.2 _ _ (by first | omega | (dsimp only; omega)), c2.2 _ _ (by first | omega | (dsimp only; omega))])
      · rw [o2.2 _ _ (by first | omega | (dsimp only; omega)), l2.2 _ _ (by first | omega | (dsimp only; omega)), k2.2 _ _ (by first | omega | (dsimp only; omega)), c2.2 _ _ (by first | omega | (dsimp only; omega)), o2.2 _ _ (by first | omega | (dsimp only; omega)), l2.2 _ _ (by first | omega | (dsimp only; omega)), k2.2 _ _ (by first | omega | (dsimp only; omega)), c2.2 _ _ (by first | omega | (dsimp only; omega))]
        exact h.2.2.2.1.2.2.1
