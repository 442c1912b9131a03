/-! the law's lenders, what they add, the day -/
section La
variable {N n d s t en o L f : Nat} {xs : Nat → Int32} {K W F len x y : Nat → Nat} {mm m2 : Mm}
theorem bw_0 : bwA K W F n d s len y 0 = mN (gsA K W F n d y) (s + 1) := by
  show (if 0 < 16 then mN (gsA K W F n d y) (stN s len 0 + 1) else 0) = _
  rw [if_pos (by first | omega | (dsimp only; omega)), stN_0]
theorem bw_c {c : Nat} (hc : c < 16) : bwA K W F n d s len y c = mN (gsA K W F n d y) (stN s len c + 1) := if_pos hc
theorem bw_le {c : Nat} (hc : c < 16) : bwA K W F n d s len y 0 ≤ bwA K W F n d s len y c ∧ bwA K W F n d s len y c ≤ bwA K W F n d s len y 15 := by
  rw [bw_0, bw_c hc, bw_c (show 15 < 16 by omega)]
  have h1 : s ≤ stN s len c := stN_ge
  have h2 : stN s len c ≤ stN s len 15 := stN_15 hc
  exact ⟨mN_up _ _ _ (by first | omega | (dsimp only; omega)), mN_up _ _ _ (by first | omega | (dsimp only; omega))⟩
/-- what the set of lenders c brings -/
abbrev bwD (K W F : Nat → Nat) (n d s : Nat) (len y : Nat → Nat) (c : Nat) : Nat := bwA K W F n d s len y c - bwA K W F n d s len y 0
theorem lend_d {set : Nat} (hN : 100000 ≤ N) (B : KB n d s t len) (D : KD mm n d s t K W F len) (hset : set < 16) (hy : RX mm 1 n t y) : ∃ m', fX11_lend N 0 (nI set) 1 mm = some (nI (bwD K W F n d s len y set), m') ∧ Fr (fun k _ => 35 ≤ k ∧ k ≤ 39) mm m' := by
  obtain ⟨m', c, f⟩ := lend_e (N := N) (r := 1) hN B D (by first | omega | (dsimp only; omega)) hset hy
  refine ⟨m', ?_, f⟩
  rw [← bw_c (n := n) (d := d) (s := s) (K := K) (W := W) (F := F) (len := len) (y := y) hset, ← bw_0 (n := n) (d := d) (s := s) (K := K) (W := W) (F := F) (len := len) (y := y), nI_sub (bw_le hset).1] at c
  exact c
theorem ad_sum (hW : ∀ i, i < n → W i ≤ 9) (hn : n ≤ 6) : smN (fun j => adN (bwA K W F n d s len y) j 16) 4 = 24 * bwD K W F n d s len y 15 := by
  have := adds_all (bwA K W F n d s len y) (fun l hl c hc hb => bwA_up hc hl hb)
  show 0 + adN _ 0 16 + adN _ 1 16 + adN _ 2 16 + adN _ 3 16 = _
  rw [Nat.zero_add]
  exact this
theorem ad_b (hW : ∀ i, i < n → W i ≤ 9) (hn : n ≤ 6) {l : Nat} (hl : l < 4) : adN (bwA K W F n d s len y) l 16 ≤ 2592 := by
  have h1 := ad_sum (d := d) (s := s) (K := K) (F := F) (len := len) (y := y) hW hn
  have h2 := bwA_8 (d := d) (s := s) (K := K) (F := F) (len := len) (y := y) hW hn 15
  have h3 : ∀ f : Nat → Nat, ∀ k, k < 4 → f k ≤ smN f 4 := fun f k hk => by
    show f k ≤ 0 + f 0 + f 1 + f 2 + f 3
    rcases (by omega : k = 0 ∨ k = 1 ∨ k = 2 ∨ k = 3) with rfl | rfl | rfl | rfl <;> omega
  have h4 := h3 (fun j => adN (bwA K W F n d s len y) j 16) l hl
  rw [h1] at h4
  have h5 : bwD K W F n d s len y 15 ≤ 108 := Nat.le_trans (Nat.sub_le _ _) h2
  omega
theorem l886 (hN : 100000 ≤ N) (hL : L ≤ 260) (B : KB n d s t len) : ∀ c l mm, l + c = 4 → LI mm n d s t K W F len y → ∀ f, c < f → ∃ m', fL_law_886 N L xs f 0 (nI n) 175 177 (nI (scD n s K W F y d)) (nI (bwD K W F n d s len y 15)) (lN (smN (fun j => adN (bwA K W F n d s len y) j 16) l)) (nI l) mm = some (1, m') := by
  intro c
  induction c with
  | zero =>
    intro l mm hl I f hf
    obtain ⟨f, rfl⟩ : ∃ q, f = q + 1 := ⟨f - 1, by omega⟩
    obtain rfl : l = 4 := by omega
    obtain ⟨b1, b2, b3, b4, b5, b6⟩ := id B
    obtain ⟨D, A, T, hy, h18, hK, h7⟩ := I
    have hu := KD.su B D
    have hB := bwA_8 (d := d) (s := s) (K := K) (F := F) (len := len) (y := y) hu.w (show n ≤ 6 by omega) 15
    have hD108 : bwD K W F n d s len y 15 ≤ 108 := Nat.le_trans (Nat.sub_le _ _) hB
    obtain ⟨e, e9, hwh, hmax⟩ := whP_e (n := n) (K := K) (W := W) (F := F) (s := s) (y := y) hu
    obtain ⟨m1, c1, f1, d1⟩ := when_e (N := N) (r := 1) hN B D (by first | omega | (dsimp only; omega)) hy
    rw [hwh] at c1 d1
    have D1 : KD m1 n d s t K W F len := D.c (fun k j q => f1.2 _ _ (by first | omega | (dsimp only; omega)))
    have c2 := damp_e (N := N) (v := e) (d := d) (mm := m1) e9 D1.2.1
    obtain ⟨m2, em2⟩ : ∃ m2, m2 = wr (wr m1 3 6 (nI e)) 52 2 0 := ⟨_, rfl⟩
    rw [← em2] at c2
    have f2 : Fr (fun k j => (k = 3 ∧ j = 6) ∨ (k = 52 ∧ j = 2)) m1 m2 := by
      rw [em2]
      exact fr_wr (fr_wr Fr.rf (by first | omega | (dsimp only; omega))) (by first | omega | (dsimp only; omega))
    have D2 : KD m2 n e s t K W F len := by
      obtain ⟨g1, g2, g3, g4, g5⟩ := D1
      exact ⟨CS_c g1 (fun k j q => f2.2 _ _ (by first | omega | (dsimp only; omega))), by rw [em2, rd_wr_k (by first | omega | (dsimp only; omega)), rd_wr_s], by rw [f2.2 _ _ (by first | omega | (dsimp only; omega))]; exact g3, by rw [f2.2 _ _ (by first | omega | (dsimp only; omega))]; exact g4, g5.c (fun i _ => f2.2 _ _ (by first | omega | (dsimp only; omega)))⟩
    have hy2 : RX m2 1 n t y := (hy.c (fun k j q => f1.2 _ _ (by first | omega | (dsimp only; omega)))).c (fun k j q => f2.2 _ _ (by first | omega | (dsimp only; omega)))
    have Be : KB n e s t len := ⟨b1, b2, e9, b4, b5, b6⟩
    obtain ⟨b, hb, -, -⟩ := bst_x (n := n) (K := K) (W := W) (F := F) (z := y) (d := e) (s := s)
    have hsb := scD_b hb
    have hs8 := scD_8 (s := s) (y := y) hu e
    have hs8d := scD_8 (s := s) (y := y) hu d
    obtain ⟨m3, c3, f3, d3, e3, g3⟩ := best_e (N := N) (r := 1) (q := 2) hN Be D2 (by first | omega | (dsimp only; omega)) (by first | omega | (dsimp only; omega)) hy2 hb
    have D3 : KD m3 n e s t K W F len := D2.c (fun k j q => f3.2 _ _ (by first | omega | (dsimp only; omega)))
    have c4 := damp_e (N := N) (v := d) (d := e) (mm := m3) b3 D3.2.1
    obtain ⟨m4, em4⟩ : ∃ m4, m4 = wr (wr m3 3 6 (nI d)) 52 2 0 := ⟨_, rfl⟩
    rw [← em4] at c4
    have f4 : Fr (fun k j => (k = 3 ∧ j = 6) ∨ (k = 52 ∧ j = 2)) m3 m4 := by
      rw [em4]
      exact fr_wr (fr_wr Fr.rf (by first | omega | (dsimp only; omega))) (by first | omega | (dsimp only; omega))
    have D4 : KD m4 n d s t K W F len := by
      obtain ⟨g1, g2, g3, g4, g5⟩ := D3
      exact ⟨CS_c g1 (fun k j q => f4.2 _ _ (by first | omega | (dsimp only; omega))), by rw [em4, rd_wr_k (by first | omega | (dsimp only; omega)), rd_wr_s], by rw [f4.2 _ _ (by first | omega | (dsimp only; omega))]; exact g3, by rw [f4.2 _ _ (by first | omega | (dsimp only; omega))]; exact g4, g5.c (fun i _ => f4.2 _ _ (by first | omega | (dsimp only; omega)))⟩
    have hy4 : RX m4 1 n t y := (hy2.c (fun k j q => f3.2 _ _ (by first | omega | (dsimp only; omega)))).c (fun k j q => f4.2 _ _ (by first | omega | (dsimp only; omega)))
    obtain ⟨bd, hbd, -, -⟩ := bst_x (n := n) (K := K) (W := W) (F := F) (z := y) (d := d) (s := s)
    have hsd := scD_b hbd
    obtain ⟨m5, c5, f5, d5, e5, g5⟩ := best_e (N := N) (r := 1) (q := 2) hN B D4 (by first | omega | (dsimp only; omega)) (by first | omega | (dsimp only; omega)) hy4 hbd
    have all : ∀ k j, ((3 ≤ k ∧ k ≤ 22 ∧ ¬ (k = 3 ∧ j = 6)) ∨ k = 175 ∨ (115 ≤ k ∧ k ≤ 118) ∨ (j = 0 ∧ (k = 32 ∨ k = 46 ∨ k = 50 ∨ k = 60 ∨ k = 73 ∨ k = 77 ∨ k = 81 ∨ k = 85 ∨ k = 89 ∨ k = 93))) → rd m5 k j = rd mm k j := fun k j q => by
      rw [f5.2 _ _ (by first | omega | (dsimp only; omega)), f4.2 _ _ (by first | omega | (dsimp only; omega)), f3.2 _ _ (by first | omega | (dsimp only; omega)), f2.2 _ _ (by first | omega | (dsimp only; omega)), f1.2 _ _ (by first | omega | (dsimp only; omega))]
    have T5 : NTs m5 n 0 (fun _ _ => 0) (fun _ => 0) := ⟨by omega, by rw [all _ _ (by first | omega | (dsimp only; omega))]; exact h7, fun k hk => absurd hk (by first | omega | (dsimp only; omega))⟩
    have J5 : LJ m5 n d s t 0 K W F len (fun _ _ => 0) (fun _ => 0) := ⟨D4.c (fun k j q => f5.2 _ _ (by first | omega | (dsimp only; omega))), RA_c A (fun k q => all _ _ (by first | omega | (dsimp only; omega))), by rw [all _ _ (by first | omega | (dsimp only; omega))]; exact h18, hK.c (fun k j q => all _ _ (by first | omega | (dsimp only; omega))), T5⟩
    obtain ⟨cv, hcv⟩ := cell_e (N := N) (L := L) (xs := xs) (mm := m5) (k := 23) (by first | omega | (dsimp only; omega)) hL
    obtain ⟨o, o6, ho⟩ := low_e (N := N) (mm := m5) (a := cv) (n := 6) (by first | omega | (dsimp only; omega)) (by first | omega | (dsimp only; omega))
    obtain ⟨m', z⟩ := l1048 (N := N) (L := L) (xs := xs) hN hL B o6 3 0 _ _ m5 (by first | omega | (dsimp only; omega)) J5 (fun k hk => absurd hk (by first | omega | (dsimp only; omega))) N (by first | omega | (dsimp only; omega))
    refine ⟨m', ?_⟩
    unfold fL_law_886
    have hde := hmax d b3
    refine st_t (nI_le (a := 4) (b := 4) (by first | omega | (dsimp only; omega)) (by first | omega | (dsimp only; omega))) (st_t ?_ (st_b c1 (st_b (show fX11_asked N 0 m1 = some (nI (scD n s K W F y e), m1) by unfold fX11_asked; rw [d1]) (st_b c2 (st_f (nI_pos (by first | omega | (dsimp only; omega))) (st_f (nI_nlt (a := 9) (b := e) e9 (by first | omega | (dsimp only; omega))) (st_f (nI_nlt hde (by first | omega | (dsimp only; omega))) (st_b c3 (st_t (by rw [hsb]) (st_b c4 (st_t rfl (st_b c5 (st_t (by rw [hsd]) (st_b hcv (st_b ho z)))))))))))))))
    rw [lg_cmp_eq, ad_sum hu.w (by first | omega | (dsimp only; omega)), nI_l (by first | omega | (dsimp only; omega)), show (24 : Int64) = lN 24 from rfl, lN_mul]
  | succ c ih =>
    intro l mm hl I f hf
    obtain ⟨f, rfl⟩ : ∃ q, f = q + 1 := ⟨f - 1, by omega⟩
    obtain ⟨b1, b2, b3, b4, b5, b6⟩ := id B
    obtain ⟨D, A, T, hy, h18, hK, h7⟩ := id I
    have hu := KD.su B D
    obtain ⟨m1, m0, c1, f1, q1⟩ := adds_e (N := N) (r := 1) (l := l) hN B D (by first | omega | (dsimp only; omega)) (by first | omega | (dsimp only; omega)) hy
    have hub := ad_b (d := d) (s := s) (K := K) (F := F) (len := len) (y := y) hu.w (show n ≤ 6 by omega) (show l < 4 by omega)
    obtain ⟨a, b, g, h1, h2, h3, h4, h5, h6⟩ := fr_num (u := adN (bwA K W F n d s len y) l 16) (w := 24) (by first | omega | (dsimp only; omega)) (by first | omega | (dsimp only; omega)) (by first | omega | (dsimp only; omega))
    have hq1 : rdL m1 0 15 = lN a := q1.2.1.trans h1
    have hq2 : rdL m1 0 16 = lN b := q1.2.2.trans h2
    have hb24 : b ≤ 24 := by rw [← h5]; exact Nat.le_mul_of_pos_right b h3
    have hdiv : 24 / b = g := Nat.div_eq_of_eq_mul_right h6 h5.symm
    obtain ⟨m', z⟩ := ih (l + 1) m1 (by first | omega | (dsimp only; omega)) (I.fr f1 (fun k j q => by unfold Pt Pa; first | omega | (dsimp only; omega))) f (by first | omega | (dsimp only; omega))
    refine ⟨m', ?_⟩
    have up_ : fX11_upper N 0 m1 = some (lN a, m1) := by unfold fX11_upper; rw [hq1]
    have lo_ : fX11_lower N 0 m1 = some (lN b, m1) := by unfold fX11_lower; rw [hq2]
    unfold fL_law_886
    refine st_f (nI_ge (a := l) (b := 4) (by first | omega | (dsimp only; omega)) (by first | omega | (dsimp only; omega))) (st_b c1 (st_t rfl (st_b lo_ (st_g (lN_nz h6 (by first | omega | (dsimp only; omega))) (st_t ?_ (st_b up_ (st_b lo_ (st_g (lN_nz h6 (by first | omega | (dsimp only; omega))) ?_))))))))
    · rw [lg_cmp_eq, show (24 : Int64) = lN 24 from rfl, lN_rem (by first | omega | (dsimp only; omega)) (by first | omega | (dsimp only; omega)) h6, show 24 % b = 0 by rw [← h5, Nat.mul_mod_right]]
      rfl
    · rw [show (24 : Int64) = lN 24 from rfl, lN_div (by first | omega | (dsimp only; omega)) (by first | omega | (dsimp only; omega)), hdiv, lN_mul, h4, lN_add, nI_1]
      exact z
theorem l784 (hN : 100000 ≤ N) (hL : L ≤ 260) : ∀ c l len mm, l + c = 4 → KB n d s t len → LI mm n d s t K W F len y → (∀ j, l ≤ j → j < 4 → len j = 0) → ∀ f, c < f → ∃ m', fL_law_784 N L xs f 0 (nI n) 175 177 (nI (smN W n)) (nI (scD n s K W F y d)) (nI l) mm = some (1, m') := by
  intro c
  induction c with
  | zero =>
    intro l len mm hl B I h0 f hf
    obtain ⟨f, rfl⟩ : ∃ q, f = q + 1 := ⟨f - 1, by omega⟩
    obtain rfl : l = 4 := by omega
    obtain ⟨b1, b2, b3, b4, b5, b6⟩ := id B
    have hu := KD.su B I.1
    obtain ⟨m1, c1, f1⟩ := lend_d (N := N) (set := 15) hN B I.1 (by first | omega | (dsimp only; omega)) I.2.2.2.1
    have I1 : LI m1 n d s t K W F len y := I.fr f1.i (fun k j q => by unfold Pt Pa; first | omega | (dsimp only; omega))
    obtain ⟨cv, hcv⟩ := cell_e (N := N) (L := L) (xs := xs) (mm := m1) (k := 22) (by first | omega | (dsimp only; omega)) hL
    obtain ⟨v, v6, hv⟩ := low_e (N := N) (mm := m1) (a := cv) (n := 16) (by first | omega | (dsimp only; omega)) (by first | omega | (dsimp only; omega))
    obtain ⟨m2, c2, f2⟩ := lend_d (N := N) (set := v) hN B I1.1 v6 I1.2.2.2.1
    have I2 : LI m2 n d s t K W F len y := I1.fr f2.i (fun k j q => by unfold Pt Pa; first | omega | (dsimp only; omega))
    obtain ⟨m3, c3, f3⟩ := lend_d (N := N) (set := 0) hN B I2.1 (by first | omega | (dsimp only; omega)) I2.2.2.2.1
    have I3 : LI m3 n d s t K W F len y := I2.fr f3.i (fun k j q => by unfold Pt Pa; first | omega | (dsimp only; omega))
    obtain ⟨m', z⟩ := l886 (N := N) (L := L) (xs := xs) hN hL B 4 0 m3 (by first | omega | (dsimp only; omega)) I3 N (by first | omega | (dsimp only; omega))
    refine ⟨m', ?_⟩
    have hB := bwA_8 (d := d) (s := s) (K := K) (F := F) (len := len) (y := y) hu.w (show n ≤ 6 by omega) 15
    have hD108 : bwD K W F n d s len y 15 ≤ 108 := Nat.le_trans (Nat.sub_le _ _) hB
    have hv15 : bwD K W F n d s len y v ≤ bwD K W F n d s len y 15 := Nat.sub_le_sub_right (bw_le v6).2 _
    have h2w : bwD K W F n d s len y 15 ≤ 2 * smN W n := by
      refine Nat.le_trans (Nat.sub_le _ _) ?_
      rw [bw_c (by first | omega | (dsimp only; omega))]
      exact gsA_2w hu
    have hw36 := smW_54 hu
    have h00 : bwD K W F n d s len y 0 = 0 := Nat.sub_self _
    unfold fL_law_784
    refine st_t (nI_le (a := 4) (b := 4) (by first | omega | (dsimp only; omega)) (by first | omega | (dsimp only; omega))) (st_b c1 (st_b hcv (st_b hv (st_b c2 (st_f (nI_pos (by first | omega | (dsimp only; omega))) (st_f (nI_nlt hv15 (by first | omega | (dsimp only; omega))) (st_f ?_ (st_b c3 (st_t (by rw [h00]; rfl) z)))))))))
    rw [show (2 : Int32) = nI 2 from rfl, nI_mul]
    exact nI_nlt h2w (by first | omega | (dsimp only; omega))
  | succ c ih =>
    intro l len mm hl B I h0 f hf
    obtain ⟨f, rfl⟩ : ∃ q, f = q + 1 := ⟨f - 1, by omega⟩
    obtain ⟨b1, b2, b3, b4, b5, b6⟩ := id B
    obtain ⟨D, A, T, hy, h18, hK, h7⟩ := id I
    obtain ⟨cv, hcv⟩ := cell_e (N := N) (L := L) (xs := xs) (mm := mm) (k := 18 + l) (by first | omega | (dsimp only; omega)) hL
    obtain ⟨v, v6, hv⟩ := low_e (N := N) (mm := mm) (a := cv) (n := 6) (by first | omega | (dsimp only; omega)) (by first | omega | (dsimp only; omega))
    have c1 := lender_e (N := N) (l := l) (v := v) (mm := mm) (by first | omega | (dsimp only; omega)) (by first | omega | (dsimp only; omega))
    have hz : rd mm 6 l = 0 := by rw [D.2.2.2.2 l (by first | omega | (dsimp only; omega)), h0 l (Nat.le_refl _) (by first | omega | (dsimp only; omega))]; rfl
    rw [hz] at c1
    have D1 : KD (wr mm 6 l (nI v)) n d s t K W F (up len l v) := by
      obtain ⟨g1, g2, g3, g4, g5⟩ := D
      refine ⟨CS_c g1 (fun k j q => rd_wr_k (by first | omega | (dsimp only; omega))), by rw [rd_wr_k (by first | omega | (dsimp only; omega))]; exact g2, by rw [rd_wr_k (by first | omega | (dsimp only; omega))]; exact g3, by rw [rd_wr_k (by first | omega | (dsimp only; omega))]; exact g4, fun i hi => ?_⟩
      by_cases hil : i = l
      · rw [hil, rd_wr_s, up_s]
      · rw [rd_wr_j hil, up_o hil]; exact g5 i hi
    have I1 : LI (wr mm 6 l (nI v)) n d s t K W F (up len l v) y := ⟨D1, RA_c A (fun k q => rd_wr_k (by first | omega | (dsimp only; omega))), RTT_c T (fun k j q => rd_wr_k (by first | omega | (dsimp only; omega))), hy.c (fun k j q => rd_wr_k (by first | omega | (dsimp only; omega))), by rw [rd_wr_k (by first | omega | (dsimp only; omega))]; exact h18, hK.c (fun k j q => rd_wr_k (by first | omega | (dsimp only; omega))), by rw [rd_wr_k (by first | omega | (dsimp only; omega))]; exact h7⟩
    have B1 : KB n d s t (up len l v) := ⟨b1, b2, b3, b4, b5, fun i hi => by
      by_cases hil : i = l
      · rw [hil, up_s]; omega
      · rw [up_o hil]; exact b6 i hi⟩
    obtain ⟨m', z⟩ := ih (l + 1) (up len l v) _ (by first | omega | (dsimp only; omega)) B1 I1 (fun j hj hj4 => by rw [up_o (by first | omega | (dsimp only; omega))]; exact h0 j (by first | omega | (dsimp only; omega)) hj4) f (by first | omega | (dsimp only; omega))
    refine ⟨m', ?_⟩
    unfold fL_law_784
    refine st_f (nI_ge (a := l) (b := 4) (by first | omega | (dsimp only; omega)) (by first | omega | (dsimp only; omega))) ?_
    rw [show (18 : Int32) + nI l = nI (18 + l) from nI_add 18 l]
    refine st_b hcv (st_b hv (st_b c1 (st_t rfl ?_)))
    rw [nI_1]
    exact z
end La
