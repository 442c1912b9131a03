/-! pure: scratch; judge, who -/
/-- cells of the class that no later call reads; the scales' first sums aside -/
def ScC (k j : Nat) : Prop := 24 ≤ k ∧ k ≤ 93 ∧ k ≠ 53 ∧ ¬ (k = 52 ∧ j = 2)
/-- cells of the model that no later call reads -/
def ScM (k j : Nat) : Prop := (k = 175 ∧ j ≠ 0 ∧ j ≠ 2 ∧ j ≠ 10 ∧ j ≠ 13 ∧ j ≠ 37) ∨ k = 179 ∨ (184 ≤ k ∧ k ≤ 191) ∨ k = 194 ∨ k = 195 ∨ (k = 182 ∧ 18 ≤ j)
theorem es_cls {k j : Nat} (h : Es k j = true) (h1 : 23 < k) (h2 : k < 94) : k = 53 ∨ (k = 52 ∧ j = 2) ∨ ((k = 32 ∨ k = 46 ∨ k = 50 ∨ k = 60 ∨ k = 73 ∨ k = 77 ∨ k = 81 ∨ k = 85 ∨ k = 89 ∨ k = 93) ∧ j = 0) := by
  unfold Es at h
  simp only [Bool.or_eq_true, decide_eq_true_eq] at h
  rcases h with ((((((h | h) | h) | h) | h) | h) | h) | h
  · omega
  · omega
  · exact Or.inl h
  · exact Or.inr (Or.inl h)
  · exact Or.inr (Or.inr h)
  · omega
  · omega
  · omega
theorem es_mod {k j : Nat} (h : Es k j = true) (h1 : 175 ≤ k) : (k = 175 ∧ (j = 0 ∨ j = 2 ∨ j = 3 ∨ j = 4 ∨ j = 10 ∨ j = 13 ∨ j = 37)) ∨ (k = 176 ∨ k = 177 ∨ k = 178 ∨ k = 180 ∨ k = 181 ∨ k = 183 ∨ k = 192 ∨ k = 193 ∨ k = 196) ∨ (k = 182 ∧ j < 18) := by
  unfold Es at h
  simp only [Bool.or_eq_true, decide_eq_true_eq] at h
  rcases h with ((((((h | h) | h) | h) | h) | h) | h) | h
  · omega
  · omega
  · omega
  · omega
  · omega
  · exact Or.inl h
  · exact Or.inr (Or.inl h)
  · exact Or.inr (Or.inr h)
/-- cells of a row -/
def RwC (r k j : Nat) : Prop := r < 6 ∧ ((k = 95 + 2 * r ∧ j = 1) ∨ k = 96 + 2 * r ∨ (k = 177 ∧ j = r) ∨ (k = 178 ∧ 40 * r ≤ j ∧ j < 40 * r + 40))
def AsC (k j : Nat) : Prop := (k = 0 ∧ j = 14) ∨ (k = 175 ∧ j = 2)
def ScA (r k j : Nat) : Prop := ScC k j ∨ ScM k j ∨ AsC k j ∨ RwC r k j
theorem Rel_g0 {mm m2 : Mm} {r : Nat} (h : Rel mm) (hk : ∀ k j, ¬ ScA r k j → rd m2 k j = rd mm k j) (hA : RA m2) (hF : RF m2) (hR : RR m2) : Rel m2 := by
  obtain ⟨-, g2, ⟨n, g3, g4, g5⟩, -, -, g8⟩ := h
  have hn := g3.1
  have nS : ∀ {k j : Nat}, ¬ ScC k j → ¬ ScM k j → ¬ AsC k j → ¬ RwC r k j → ¬ ScA r k j := fun a b c d q => by
    rcases q with q | q | q | q
    · exact a q
    · exact b q
    · exact c q
    · exact d q
  refine ⟨hR, ?_, ⟨n, ?_, ?_, ?_⟩, hF, hA, ?_⟩
  · exact RT_c g2 (fun i j z => hk i j (nS (by unfold ScC; omega) (by unfold ScM; omega) (by unfold AsC; omega) (by unfold RwC; omega)))
  · exact RS_c g3 (fun i j z => hk i j (nS (by unfold ScC; omega) (by unfold ScM; omega) (by unfold AsC; omega) (by unfold RwC; omega)))
  · exact RCm_c g4 hn (fun i j z => hk i j (nS (by unfold ScC; omega) (by unfold ScM; omega) (by unfold AsC; omega) (by unfold RwC; omega)))
  · exact fun q hq => RKt_c (g5 q hq) hn hq (fun i j z => hk i j (nS (by unfold ScC; omega) (by unfold ScM; omega) (by unfold AsC; omega) (by unfold RwC; omega)))
  · exact RTT_c g8 (fun i j z => hk i j (nS (by unfold ScC; omega) (by unfold ScM; omega) (by unfold AsC; omega) (by unfold RwC; omega)))
/-- scratch, asked and one row are all that changed -/
theorem Rel_row {mm m2 : Mm} {r : Nat} (h : Rel mm) (f : Fr (ScA r) mm m2) (hA : RA m2) (hk : rd m2 175 2 = rd m2 0 14) (hr : r < 6 → RRow 40 (rd m2 (95 + 2 * r) 1) (rd m2 177 r) (fun i => rd m2 (96 + 2 * r) i) (fun i => rd m2 178 (40 * r + i)) (fun _ => True)) : Rel m2 := by
  have nS : ∀ {k j : Nat}, ¬ ScC k j → ¬ ScM k j → ¬ AsC k j → ¬ RwC r k j → ¬ ScA r k j := fun a b c d q => by
    rcases q with q | q | q | q
    · exact a q
    · exact b q
    · exact c q
    · exact d q
  refine Rel_g0 h f.2 hA (RF_asked h.2.2.2.1 (fun k j e => f.2 k j (nS (by unfold ScC; omega) (by unfold ScM; omega) (by unfold AsC; omega) (by unfold RwC; omega))) f.1 hk) ?_
  by_cases hr6 : r < 6
  · exact RR_upd h.1 (r := r) (fun k j e => f.2 k j (nS (by unfold ScC; omega) (by unfold ScM; omega) (by unfold AsC; omega) (by unfold RwC; omega))) (hr hr6)
  · exact RR_c h.1 (fun k j e => f.2 k j (nS (by unfold ScC; omega) (by unfold ScM; omega) (by unfold AsC; omega) (by unfold RwC; omega)))
/-- what a state tells -/
theorem Rel_data {mm : Mm} (h : Rel mm) : ∃ (n : Nat) (K W F : Nat → Nat) (d s t : Nat), CS mm n K W F ∧ MS mm n K W F ∧ rd mm 3 6 = nI d ∧ rd mm 175 13 = nI d ∧ d ≤ 9 ∧ rd mm 5 0 = nI s ∧ rd mm 183 0 = nI s ∧ s ≤ 40 ∧ rd mm 5 1 = nI t ∧ rd mm 183 1 = nI t ∧ t ≤ 40 := by
  obtain ⟨n, g3, g4, -⟩ := h.2.2.1
  obtain ⟨C, M⟩ := RS_CS g3
  obtain ⟨d, hd9, hd⟩ := g4.2.2.1
  have hdc : rd mm 3 6 = rd mm 175 13 := g4.2.1
  have hs0 : rd mm 5 0 = rd mm 183 0 := (g4.1 0 (by first | omega | (dsimp only; omega))).1
  have hs1 : rd mm 5 1 = rd mm 183 1 := (g4.1 1 (by first | omega | (dsimp only; omega))).1
  obtain ⟨s, hs, hss⟩ := (g4.1 0 (by first | omega | (dsimp only; omega))).2
  obtain ⟨t, ht, htt⟩ := (g4.1 1 (by first | omega | (dsimp only; omega))).2
  exact ⟨n, _, _, _, d, s, t, C, M, hdc.trans hd, hd, hd9, hs0.trans hss, hss, hs, hs1.trans htt, htt, ht⟩
section Tk
variable {N n r s : Nat} {K W F x : Nat → Nat}
theorem takes_l (hr : r < 6) (hs : s ≤ 1) (hn6 : n ≤ 6) : ∀ m i mm, i + m = n → MS mm n K W F → (∀ i, i < n → rd mm 178 (40 * r + i) = nI (x i)) → HA mm (185 + s) i x → ∀ f, m < f → ∃ m', fX12_takes_2 N f 175 (nI r) (nI s) (nI i) mm = some ((), m') ∧ Fr (fun k _ => k = 185 + s) mm m' ∧ HA m' (185 + s) n x := by
  intro m
  induction m with
  | zero =>
    intro i mm hi M hx hH f hf
    obtain ⟨f, rfl⟩ : ∃ g, f = g + 1 := ⟨f - 1, by omega⟩
    obtain rfl : i = n := by omega
    refine ⟨mm, ?_, Fr.rf, hH⟩
    unfold fX12_takes_2
    exact st_t (by rw [M.1]; exact nI_le (by first | omega | (dsimp only; omega)) (by first | omega | (dsimp only; omega))) rfl
  | succ m ih =>
    intro i mm hi M hx hH f hf
    obtain ⟨f, rfl⟩ : ∃ g, f = g + 1 := ⟨f - 1, by omega⟩
    have hin : i < n := by omega
    have hfr : Fr (fun k _ => k = 185 + s) mm (wr mm (185 + s) i (nI (x i))) := fr_wr Fr.rf rfl
    obtain ⟨m', h1, h2, h3⟩ := ih (i + 1) (wr mm (185 + s) i (nI (x i))) (by first | omega | (dsimp only; omega)) (MS_c M (fun k j e => hfr.2 _ _ (by first | omega | (dsimp only; omega)))) (fun j hj => by rw [hfr.2 _ _ (by first | omega | (dsimp only; omega))]; exact hx j hj) (fun j hj => by
      by_cases hji : j = i
      · subst hji; rw [rd_wr_s]
      · rw [rd_wr_j hji]; exact hH j (by first | omega | (dsimp only; omega))) f (by first | omega | (dsimp only; omega))
    refine ⟨m', ?_, hfr.tr h2, h3⟩
    unfold fX12_takes_2 fX12_takes_41
    simp only [LXm, nI_nat (show i < 2147483648 by omega), nI_1]
    refine st_f (by rw [M.1]; exact nI_ge hin (by first | omega | (dsimp only; omega))) ?_
    rcases (by omega : s = 0 ∨ s = 1) with rfl | rfl
    · refine st_t rfl (st_b (rowAt_t hr (by first | omega | (dsimp only; omega))) (st_k rfl (by first | omega | (dsimp only; omega)) (by first | omega | (dsimp only; omega)) (st_n ?_)))
      rw [hx i hin]
      exact h1
    · refine st_f (by decide) (st_b (rowAt_t hr (by first | omega | (dsimp only; omega))) (st_k rfl (by first | omega | (dsimp only; omega)) (by first | omega | (dsimp only; omega)) (st_n ?_)))
      rw [hx i hin]
      exact h1
theorem takes_e {mm : Mm} (hN : 100000 ≤ N) (hr : r < 6) (hs : s ≤ 1) (M : MS mm n K W F) (hx : ∀ i, i < n → rd mm 178 (40 * r + i) = nI (x i)) : ∃ m', fX12_takes N 175 (nI r) (nI s) mm = some ((), m') ∧ Fr (fun k _ => k = 185 + s) mm m' ∧ HA m' (185 + s) n x :=
  takes_l hr hs M.2.1 n 0 mm (by first | omega | (dsimp only; omega)) M hx (fun j hj => by omega) N (by have := M.2.1; omega)
end Tk
theorem SC_29 : SC 29 := ⟨rfl, rfl, rfl, rfl, rfl, rfl, by omega, by omega⟩
theorem SW_0 {mm : Mm} {S d : Nat} {K W F x y : Nat → Nat} (h : rd mm (S + 3) 0 = 0) : SW mm S K W F d x y 0 := ⟨fun j hj => by omega, fun j hj => by
  obtain rfl : j = 0 := by omega
  exact h⟩
/-- numbers of a laying that was held good -/
theorem lay_n {g : Nat → Int32} {n s : Nat} (h : LayOK g n s) : (∀ i, i < n → g i = nI (lO g i)) ∧ ∀ i, i < n → lO g i ≤ 40 := ⟨fun i hi => (Wi_n (h.1 i hi)).1, fun i hi => (Wi_n (h.1 i hi)).2⟩
/-- the model's laying taken, weighed -/
theorem mfri_e {N n d r q : Nat} {K W F x y : Nat → Nat} {mm : Mm} (hN : 100000 ≤ N) (M : MS mm n K W F) (hd : rd mm 175 13 = nI d) (hd9 : d ≤ 9) (hr : r < 6) (hq : q < 6) (hx : ∀ i, i < n → rd mm 178 (40 * r + i) = nI (x i)) (hy : ∀ i, i < n → rd mm 178 (40 * q + i) = nI (y i)) (hx4 : ∀ i, i < n → x i ≤ 1000) (hy4 : ∀ i, i < n → y i ≤ 1000) : ∃ ma mb mc, fX12_takes N 175 (nI r) 0 mm = some ((), ma) ∧ fX12_takes N 175 (nI q) 1 ma = some ((), mb) ∧ fX12_setWinners N 175 mb = some ((), mc) ∧ Fr (fun k _ => k = 185 ∨ k = 186 ∨ k = 187) mm mc ∧ HA mc 185 n x ∧ HA mc 186 n y ∧ HA mc 187 n (wn K F d x y) := by
  obtain ⟨ma, a1, a2, a3⟩ := takes_e (s := 0) (x := x) hN hr (by first | omega | (dsimp only; omega)) M hx
  have M2 := MS_c (m2 := ma) M (fun k j e => a2.2 _ _ (by first | omega | (dsimp only; omega)))
  obtain ⟨mb, b1, b2, b3⟩ := takes_e (s := 1) (x := y) hN hq (by first | omega | (dsimp only; omega)) M2 (fun i hi => by rw [a2.2 _ _ (by first | omega | (dsimp only; omega))]; exact hy i hi)
  have M3 := MS_c (m2 := mb) M2 (fun k j e => b2.2 _ _ (by first | omega | (dsimp only; omega)))
  have a4 : HA mb 185 n x := HA.c a3 (fun i hi => b2.2 _ _ (by first | omega | (dsimp only; omega)))
  obtain ⟨mc, c1, c2, c3⟩ := setW_e (N := N) hN hd9 hx4 hy4 M3 (by rw [b2.2 _ _ (by first | omega | (dsimp only; omega)), a2.2 _ _ (by first | omega | (dsimp only; omega))]; exact hd) a4 b3
  exact ⟨ma, mb, mc, a1, b1, c1, (a2.mono (fun k j e => by omega)).tr ((b2.mono (fun k j e => by omega)).tr (c2.mono (fun k j e => by omega))), HA.c a4 (fun i hi => c2.2 _ _ (by first | omega | (dsimp only; omega))), HA.c b3 (fun i hi => c2.2 _ _ (by first | omega | (dsimp only; omega))), c3⟩
theorem ok_14 {N : Nat} (hN : 100000 ≤ N) : OK_14 N Rel := by
  intro a1 a2 mm h
  obtain ⟨n, K, W, F, d, s, t, C, M, hd, hd', hd9, hs, hs', hs40, ht, ht', ht40⟩ := Rel_data h
  have hn := C.2.1
  rcases rng a1 6 with ⟨r, hr, -, rfl⟩ | hb
  rotate_left
  · refine ⟨-1, mm, mm, ?_, ?_, h⟩
    · unfold fX11_judge
      refine st_b (rowOf_n hb) ?_
      rcases rng a2 6 with ⟨q, hq, -, rfl⟩ | hb3
      · exact st_b (rowOf_t hq) (st_c0 rfl)
      · exact st_b (rowOf_n hb3) (st_c0 rfl)
    · unfold fX12_judge
      exact st_b (isRow_n hb) (st_t rfl rfl)
  rcases rng a2 6 with ⟨q, hq, -, rfl⟩ | hb
  rotate_left
  · refine ⟨-1, mm, mm, ?_, ?_, h⟩
    · unfold fX11_judge
      exact st_b (rowOf_t hr) (st_b (rowOf_n hb) (st_c (st_c0 rfl)))
    · unfold fX12_judge
      exact st_b (isRow_t hr) (st_f (by decide) (st_b (isRow_n hb) (st_t rfl rfl)))
  rcases two_e (a := 0) (b := 1) hN h C M hr hq (by first | omega | (dsimp only; omega)) (by first | omega | (dsimp only; omega)) hs hs' hs40 ht ht' ht40 with ⟨f, hf, e1, e2⟩ | ⟨e1, z1, z2, z3, z4, L1, L2, v1, v2, e2⟩
  · refine ⟨-3, cRef f mm, mMeet f (cRef f mm), ?_, ?_, rel_ref h hf⟩
    · unfold fX11_judge
      exact st_b (rowOf_t hr) (st_b (rowOf_t hq) (st_c (st_c (st_b e1 (st_f (by decide) rfl)))))
    · unfold fX12_judge
      exact st_b (isRow_t hr) (st_f (by decide) (st_b (isRow_t hq) (st_f (by decide) (st_b (e2 _ (fun k j hk => rd_cRef (by first | omega | (dsimp only; omega)) (by first | omega | (dsimp only; omega)))) (st_f (by decide) rfl)))))
  · obtain ⟨x1, x2⟩ := lay_n L1
    obtain ⟨y1, y2⟩ := lay_n L2
    generalize lO (fun j => rd mm (96 + 2 * r) j) = x at x1 x2
    generalize lO (fun j => rd mm (96 + 2 * q) j) = y at y1 y2
    have x1' : HA mm (96 + 2 * r) n x := x1
    have y1' : HA mm (96 + 2 * q) n y := y1
    obtain ⟨m1, c1, f1, w1, g1, -⟩ := weigh_e (N := N) (d := d) (x := x) (y := y) (i := 0) hN SC_29 hd9 (ln_row hr) (ln_row hq) (by first | omega | (dsimp only; omega)) (by first | omega | (dsimp only; omega)) (by first | omega | (dsimp only; omega)) (by first | omega | (dsimp only; omega)) (fun i hi => by have := x2 i hi; omega) (fun i hi => by have := y2 i hi; omega) (by first | omega | (dsimp only; omega)) C hd x1' y1' (SW_0 h.2.2.2.2.1.1)
    have C1 : CS m1 n K W F := CS_c C (fun k j e => f1.2 _ _ (by first | omega | (dsimp only; omega)))
    have hA : MA mm (wr m1 0 14 (nI (scr W 1 (wn K F d x y) n))) := fun k j hk => by rw [rd_wr_k (by first | omega | (dsimp only; omega)), f1.2 _ _ (by first | omega | (dsimp only; omega))]
    have M1 := hA.ms M
    obtain ⟨ma, mb, mc, k1, k2, k3, k4, k5, k6, k7⟩ := mfri_e (N := N) (d := d) (x := x) (y := y) hN M1 (by rw [hA _ _ (by first | omega | (dsimp only; omega))]; exact hd') hd9 hr hq (fun i hi => by rw [hA _ _ (by first | omega | (dsimp only; omega)), ← v1 i hi]; exact x1 i hi) (fun i hi => by rw [hA _ _ (by first | omega | (dsimp only; omega)), ← v2 i hi]; exact y1 i hi) (fun i hi => by have := x2 i hi; omega) (fun i hi => by have := y2 i hi; omega)
    have M2 : MS mc n K W F := MS_c M1 (fun k j e => k4.2 _ _ (by first | omega | (dsimp only; omega)))
    have hb := scr_both (W := W) (w := wn K F d x y) (fun i => wn_2) n
    refine ⟨nI (scr W 0 (wn K F d x y) n), wr m1 0 14 (nI (scr W 1 (wn K F d x y) n)), wr mc 175 2 (nI (scr W 1 (wn K F d x y) n)), ?_, ?_, ?_⟩
    · unfold fX11_judge
      refine st_b (rowOf_t hr) (st_b (rowOf_t hq) (st_c (st_c (st_b e1 (st_t rfl ?_)))))
      simp only [LXa, LXb, fr_row hr, fr_row hq]
      refine st_b c1 (st_b (worths_e hN C1) (st_n ?_))
      rw [g1, show (2 : Int32) = nI 2 from rfl, nI_mul, nI_sub (by first | omega | (dsimp only; omega)), show 2 * smN W n - scr W 0 (wn K F d x y) n = scr W 1 (wn K F d x y) n by omega, rd_wr_k (by first | omega | (dsimp only; omega)), g1]
    · unfold fX12_judge
      refine st_b (isRow_t hr) (st_f (by decide) (st_b (isRow_t hq) (st_f (by decide) (st_b (e2 _ hA) (st_t (by decide) (st_b k1 (st_b k2 (st_b k3 (st_b (score_e (s := 1) hN (by first | omega | (dsimp only; omega)) (fun i _ => wn_2) M2 k7) (st_b (score_e (s := 0) hN (by first | omega | (dsimp only; omega)) (fun i _ => wn_2) M2 k7) ?_))))))))))
      unfold fX12_ask
      rfl
    · refine Rel_row (r := 6) h ?_ ?_ ?_ (fun q => by omega)
      · refine (f1.mono (fun k j e => Or.inl ?_)).tr (fr_wr ((fr_st (k4.mono (fun k j e => Or.inr (Or.inl ?_))) (Or.inr (Or.inr (Or.inl (Or.inl ⟨rfl, rfl⟩)))))) (Or.inr (Or.inr (Or.inl (Or.inr ⟨rfl, rfl⟩)))))
        · unfold ScC; omega
        · unfold ScM; omega
      · have h7 := h.2.2.2.2.1
        obtain ⟨q1, q2, q3, q4, q5⟩ := h7
        refine ⟨?_, ?_, ?_, ?_, fun w hw => ?_⟩
        · rw [rd_wr_k (by first | omega | (dsimp only; omega)), k4.2 _ _ (by first | omega | (dsimp only; omega)), rd_wr_k (by first | omega | (dsimp only; omega))]; exact w1.2 0 (by first | omega | (dsimp only; omega))
        · rw [rd_wr_k (by first | omega | (dsimp only; omega)), k4.2 _ _ (by first | omega | (dsimp only; omega)), rd_wr_k (by first | omega | (dsimp only; omega)), f1.2 _ _ (by first | omega | (dsimp only; omega))]; exact q2
        · rw [rd_wr_k (by first | omega | (dsimp only; omega)), k4.2 _ _ (by first | omega | (dsimp only; omega)), rd_wr_k (by first | omega | (dsimp only; omega)), f1.2 _ _ (by first | omega | (dsimp only; omega))]; exact q3
        · rw [rd_wr_k (by first | omega | (dsimp only; omega)), k4.2 _ _ (by first | omega | (dsimp only; omega)), rd_wr_k (by first | omega | (dsimp only; omega)), f1.2 _ _ (by first | omega | (dsimp only; omega))]; exact q4
        · rw [rd_wr_k (by first | omega | (dsimp only; omega)), k4.2 _ _ (by first | omega | (dsimp only; omega)), rd_wr_k (by first | omega | (dsimp only; omega)), f1.2 _ _ (by first | omega | (dsimp only; omega))]; exact q5 w hw
      · rw [rd_wr_s, rd_wr_k (by first | omega | (dsimp only; omega)), k4.2 _ _ (by first | omega | (dsimp only; omega)), rd_wr_s]
theorem ok_15 {N : Nat} (hN : 100000 ≤ N) : OK_15 N Rel := by
  intro a1 a2 a3 mm h
  obtain ⟨n, K, W, F, d, s, t, C, M, hd, hd', hd9, hs, hs', hs40, ht, ht', ht40⟩ := Rel_data h
  have hn := C.2.1
  rcases rng a1 6 with ⟨r, hr, -, rfl⟩ | hb
  rotate_left
  · refine ⟨-1, mm, mm, ?_, ?_, h⟩
    · unfold fX11_who
      refine st_b (rowOf_n hb) ?_
      rcases rng a2 6 with ⟨q, hq, -, rfl⟩ | hb3
      · exact st_b (rowOf_t hq) (st_c0 rfl)
      · exact st_b (rowOf_n hb3) (st_c0 rfl)
    · unfold fX12_who
      exact st_b (isRow_n hb) (st_t rfl rfl)
  rcases rng a2 6 with ⟨q, hq, -, rfl⟩ | hb
  rotate_left
  · refine ⟨-1, mm, mm, ?_, ?_, h⟩
    · unfold fX11_who
      exact st_b (rowOf_t hr) (st_b (rowOf_n hb) (st_c (st_c0 rfl)))
    · unfold fX12_who
      exact st_b (isRow_t hr) (st_f (by decide) (st_b (isRow_n hb) (st_t rfl rfl)))
  rcases rng a3 n with ⟨i, hi, -, rfl⟩ | hb
  rotate_left
  · refine ⟨-1, mm, mm, ?_, ?_, h⟩
    · unfold fX11_who
      exact st_b (rowOf_t hr) (st_b (rowOf_t hq) (st_c (st_c (st_b (suitOf_n C hb) (st_c0 rfl)))))
    · unfold fX12_who
      exact st_b (isRow_t hr) (st_f (by decide) (st_b (isRow_t hq) (st_f (by decide) (st_b (isSuit_n M hb) (st_t rfl rfl)))))
  rcases two_e (a := 0) (b := 1) hN h C M hr hq (by first | omega | (dsimp only; omega)) (by first | omega | (dsimp only; omega)) hs hs' hs40 ht ht' ht40 with ⟨f, hf, e1, e2⟩ | ⟨e1, z1, z2, z3, z4, L1, L2, v1, v2, e2⟩
  · refine ⟨-3, cRef f mm, mMeet f (cRef f mm), ?_, ?_, rel_ref h hf⟩
    · unfold fX11_who
      exact st_b (rowOf_t hr) (st_b (rowOf_t hq) (st_c (st_c (st_b (suitOf_t C hi) (st_c (st_b e1 (st_f (by decide) rfl)))))))
    · unfold fX12_who
      have A : MA mm (cRef f mm) := fun k j hk => rd_cRef (by first | omega | (dsimp only; omega)) (by first | omega | (dsimp only; omega))
      exact st_b (isRow_t hr) (st_f (by decide) (st_b (isRow_t hq) (st_f (by decide) (st_b (isSuit_t (A.ms M) hi) (st_f (by decide) (st_b (e2 _ A) (st_f (by decide) rfl)))))))
  · obtain ⟨x1, x2⟩ := lay_n L1
    obtain ⟨y1, y2⟩ := lay_n L2
    generalize lO (fun j => rd mm (96 + 2 * r) j) = x at x1 x2
    generalize lO (fun j => rd mm (96 + 2 * q) j) = y at y1 y2
    have x1' : HA mm (96 + 2 * r) n x := x1
    have y1' : HA mm (96 + 2 * q) n y := y1
    obtain ⟨m1, c1, f1, w1, g1, l1⟩ := weigh_e (N := N) (d := d) (x := x) (y := y) (i := 0) hN SC_29 hd9 (ln_row hr) (ln_row hq) (by first | omega | (dsimp only; omega)) (by first | omega | (dsimp only; omega)) (by first | omega | (dsimp only; omega)) (by first | omega | (dsimp only; omega)) (fun i hi => by have := x2 i hi; omega) (fun i hi => by have := y2 i hi; omega) (by first | omega | (dsimp only; omega)) C hd x1' y1' (SW_0 h.2.2.2.2.1.1)
    have hX := x2 i hi
    have hY := y2 i hi
    have hk := M.2.2 i hi
    generalize hD : dfN (wtN K F d (wn K F d x y) i 0 (x i)) (wtN K F d (wn K F d x y) i 1 (y i)) = D
    have hA : MA mm (wr m1 0 14 (nI D)) := fun k j hk => by rw [rd_wr_k (by first | omega | (dsimp only; omega)), f1.2 _ _ (by first | omega | (dsimp only; omega))]
    have M1 := hA.ms M
    obtain ⟨ma, mb, mc, k1, k2, k3, k4, k5, k6, k7⟩ := mfri_e (N := N) (d := d) (x := x) (y := y) hN M1 (by rw [hA _ _ (by first | omega | (dsimp only; omega))]; exact hd') hd9 hr hq (fun i hi => by rw [hA _ _ (by first | omega | (dsimp only; omega)), ← v1 i hi]; exact x1 i hi) (fun i hi => by rw [hA _ _ (by first | omega | (dsimp only; omega)), ← v2 i hi]; exact y1 i hi) (fun i hi => by have := x2 i hi; omega) (fun i hi => by have := y2 i hi; omega)
    have M2 : MS mc n K W F := MS_c M1 (fun k j e => k4.2 _ _ (by first | omega | (dsimp only; omega)))
    have hwi : wn K F d x y i ≤ 2 := wn_2
    refine ⟨if wn K F d x y i = 2 then -9 else nI (wn K F d x y i), wr m1 0 14 (nI D), wr mc 175 2 (nI D), ?_, ?_, ?_⟩
    · unfold fX11_who
      refine st_b (rowOf_t hr) (st_b (rowOf_t hq) (st_c (st_c (st_b (suitOf_t C hi) (st_c (st_b e1 (st_t rfl ?_)))))))
      simp only [LXa, LXb, fr_row hr, fr_row hq, nI_nat (show i < 2147483648 by omega)]
      refine st_b c1 (st_k rfl (by first | omega | (dsimp only; omega)) (by first | omega | (dsimp only; omega)) (st_n (st_k rfl (by first | omega | (dsimp only; omega)) (by first | omega | (dsimp only; omega)) ?_)))
      rw [rd_wr_k (by first | omega | (dsimp only; omega)), l1 i (by first | omega | (dsimp only; omega)) hi, hD, w1.1 i hi]
      by_cases h2 : wn K F d x y i = 2
      · rw [if_pos h2]; exact st_t (by rw [h2]; rfl) rfl
      · rw [if_neg h2]
        exact st_f (fun e => h2 (nI_inj (b := 2) e (by first | omega | (dsimp only; omega)) (by first | omega | (dsimp only; omega)))) (st_k rfl (by first | omega | (dsimp only; omega)) (by first | omega | (dsimp only; omega)) rfl)
    · unfold fX12_who fX12_who_99 fX12_who_120
      refine st_b (isRow_t hr) (st_f (by decide) (st_b (isRow_t hq) (st_f (by decide) (st_b (isSuit_t M1 hi) (st_f (by decide) (st_b (e2 _ hA) (st_t (by decide) (st_b k1 (st_b k2 (st_b k3 ?_))))))))))
      simp only [LXm, nI_nat (show i < 2147483648 by omega)]
      have hd2 : rd mc 175 13 = nI d := by rw [k4.2 _ _ (by first | omega | (dsimp only; omega)), hA _ _ (by first | omega | (dsimp only; omega))]; exact hd'
      have hwf : K i = 5 → rd mc 187 (F i) = nI (wn K F d x y (F i)) ∧ wn K F d x y (F i) ≤ 2 := fun q => ⟨k7 _ (by have := hk.2.2.2.2.2.2.1 q; omega), wn_2⟩
      refine st_k rfl (by first | omega | (dsimp only; omega)) (by first | omega | (dsimp only; omega)) ?_
      rw [k5 i hi]
      refine st_b (mweight_e (s := 0) M2 hd2 hi (by first | omega | (dsimp only; omega)) (by first | omega | (dsimp only; omega)) hwf) (st_k rfl (by first | omega | (dsimp only; omega)) (by first | omega | (dsimp only; omega)) ?_)
      rw [k6 i hi]
      refine st_b (mweight_e (s := 1) M2 hd2 hi (by first | omega | (dsimp only; omega)) (by first | omega | (dsimp only; omega)) hwf) ?_
      have hwa : wtN K F d (wn K F d x y) i 0 (x i) ≤ 200000 := wgt_b hk.2.2.2.2.1 hd9 (by split <;> omega) (by first | omega | (dsimp only; omega))
      have hwb : wtN K F d (wn K F d x y) i 1 (y i) ≤ 200000 := wgt_b hk.2.2.2.2.1 hd9 (by split <;> omega) (by first | omega | (dsimp only; omega))
      have habs := absI (a := wtN K F d (wn K F d x y) i 0 (x i)) (b := wtN K F d (wn K F d x y) i 1 (y i)) (by first | omega | (dsimp only; omega)) (by first | omega | (dsimp only; omega))
      rw [hD] at habs
      change (if (0 : Int32) ≤ nI (wtN K F d (wn K F d x y) i 0 (x i)) - nI (wtN K F d (wn K F d x y) i 1 (y i)) then _ else _) = _
      have fin : ∀ v : Int32, v = nI D → (gd (inb (nI i) 6) (if rd mc 187 i = 2 then (bd2 (fX12_ask N 175 v (-9) mc) fun x1 m2 => some (x1, m2)) else gd (inb (nI i) 6) (bd2 (fX12_ask N 175 v (rd mc 187 i) mc) fun x1 m2 => some (x1, m2)))) = some (if wn K F d x y i = 2 then -9 else nI (wn K F d x y i), wr mc 175 2 (nI D)) := by
        intro v hv
        subst hv
        refine st_k rfl (by first | omega | (dsimp only; omega)) (by first | omega | (dsimp only; omega)) ?_
        rw [k7 i hi]
        by_cases h2 : wn K F d x y i = 2
        · refine st_t (by rw [h2]; rfl) ?_
          rw [if_pos h2]; rfl
        · refine st_f (fun e => h2 (nI_inj (b := 2) e (by first | omega | (dsimp only; omega)) (by first | omega | (dsimp only; omega)))) (st_k rfl (by first | omega | (dsimp only; omega)) (by first | omega | (dsimp only; omega)) ?_)
          rw [if_neg h2]; rfl
      by_cases hc : (0 : Int32) ≤ nI (wtN K F d (wn K F d x y) i 0 (x i)) - nI (wtN K F d (wn K F d x y) i 1 (y i))
      · rw [if_pos hc] at habs
        exact st_t hc (fin _ habs)
      · rw [if_neg hc, Int32.zero_sub] at habs
        exact st_f hc (fin _ habs)
    · refine Rel_row (r := 6) h ?_ ?_ ?_ (fun q => by omega)
      · refine (f1.mono (fun k j e => Or.inl ?_)).tr (fr_wr ((fr_st (k4.mono (fun k j e => Or.inr (Or.inl ?_))) (Or.inr (Or.inr (Or.inl (Or.inl ⟨rfl, rfl⟩)))))) (Or.inr (Or.inr (Or.inl (Or.inr ⟨rfl, rfl⟩)))))
        · unfold ScC; omega
        · unfold ScM; omega
      · have h7 := h.2.2.2.2.1
        obtain ⟨q1, q2, q3, q4, q5⟩ := h7
        refine ⟨?_, ?_, ?_, ?_, fun w hw => ?_⟩
        · rw [rd_wr_k (by first | omega | (dsimp only; omega)), k4.2 _ _ (by first | omega | (dsimp only; omega)), rd_wr_k (by first | omega | (dsimp only; omega))]; exact w1.2 0 (by first | omega | (dsimp only; omega))
        · rw [rd_wr_k (by first | omega | (dsimp only; omega)), k4.2 _ _ (by first | omega | (dsimp only; omega)), rd_wr_k (by first | omega | (dsimp only; omega)), f1.2 _ _ (by first | omega | (dsimp only; omega))]; exact q2
        · rw [rd_wr_k (by first | omega | (dsimp only; omega)), k4.2 _ _ (by first | omega | (dsimp only; omega)), rd_wr_k (by first | omega | (dsimp only; omega)), f1.2 _ _ (by first | omega | (dsimp only; omega))]; exact q3
        · rw [rd_wr_k (by first | omega | (dsimp only; omega)), k4.2 _ _ (by first | omega | (dsimp only; omega)), rd_wr_k (by first | omega | (dsimp only; omega)), f1.2 _ _ (by first | omega | (dsimp only; omega))]; exact q4
        · rw [rd_wr_k (by first | omega | (dsimp only; omega)), k4.2 _ _ (by first | omega | (dsimp only; omega)), rd_wr_k (by first | omega | (dsimp only; omega)), f1.2 _ _ (by first | omega | (dsimp only; omega))]; exact q5 w hw
      · rw [rd_wr_s, rd_wr_k (by first | omega | (dsimp only; omega)), k4.2 _ _ (by first | omega | (dsimp only; omega)), rd_wr_s]
