/-! the class' state as the law sees it; rows; simple calls -/
def KD (mm : Mm) (n d s t : Nat) (K W F len : Nat → Nat) : Prop := CS mm n K W F ∧ rd mm 3 6 = nI d ∧ rd mm 5 0 = nI s ∧ rd mm 5 1 = nI t ∧ HA mm 6 4 len
/-- bounds -/
def KB (n d s t : Nat) (len : Nat → Nat) : Prop := 1 ≤ n ∧ n ≤ 4 ∧ d ≤ 9 ∧ s ≤ 8 ∧ t ≤ 8 ∧ ∀ i, i < 4 → len i ≤ 5
/-- a laying in a row -/
def RX (mm : Mm) (r n S : Nat) (x : Nat → Nat) : Prop := rd mm (95 + 2 * r) 1 = nI n ∧ HA mm (96 + 2 * r) n x ∧ (∀ i, i < n → x i ≤ 40) ∧ smN x n ≤ S
theorem KD.c {mm m2 : Mm} {n d s t : Nat} {K W F len : Nat → Nat} (h : KD mm n d s t K W F len) (e : ∀ k j, 3 ≤ k ∧ k ≤ 22 → rd m2 k j = rd mm k j) : KD m2 n d s t K W F len :=
  ⟨CS_c h.1 (fun k j q => e _ _ (by first | omega | (dsimp only; omega))), by rw [e _ _ (by first | omega | (dsimp only; omega))]; exact h.2.1, by rw [e _ _ (by first | omega | (dsimp only; omega))]; exact h.2.2.1, by rw [e _ _ (by first | omega | (dsimp only; omega))]; exact h.2.2.2.1, h.2.2.2.2.c (fun i _ => e _ _ (by first | omega | (dsimp only; omega)))⟩
theorem RX.c {mm m2 : Mm} {r n S : Nat} {x : Nat → Nat} (h : RX mm r n S x) (e : ∀ k j, (k = 95 + 2 * r ∧ j = 1) ∨ k = 96 + 2 * r → rd m2 k j = rd mm k j) : RX m2 r n S x :=
  ⟨by rw [e _ _ (by first | omega | (dsimp only; omega))]; exact h.1, h.2.1.c (fun i _ => e _ _ (by first | omega | (dsimp only; omega))), h.2.2⟩
theorem RX.b {mm : Mm} {r n S : Nat} {x : Nat → Nat} (h : RX mm r n S x) : ∀ i, i < n → x i ≤ 1000 := fun i hi => by have := h.2.2.1 i hi; omega
theorem RX_lay {mm : Mm} {r n S : Nat} {x : Nat → Nat} (h : RX mm r n S x) : LayOK (fun j => rd mm (96 + 2 * r) j) n S := by
  have hv : ∀ i, i < n → rd mm (96 + 2 * r) i = nI (x i) := h.2.1
  refine ⟨fun i hi => ?_, ?_⟩
  · have h4 := h.2.2.1 i hi
    unfold Wi
    dsimp only
    rw [hv i hi, nI_toInt (by first | omega | (dsimp only; omega))]
    omega
  · have e : smN (lO fun j => rd mm (96 + 2 * r) j) n = smN x n := smN_c n (fun i hi => by
      unfold lO
      dsimp only
      rw [hv i hi]
      exact nI_back (by have := h.2.2.1 i hi; first | omega | (dsimp only; omega)))
    rw [e]
    exact h.2.2.2
theorem RA_32 {mm m2 : Mm} (h : RA mm) (e : ∀ k, 46 ≤ k → k ≤ 93 → rd m2 k 0 = rd mm k 0) (h32 : rd m2 32 0 = 0) : RA m2 := by
  obtain ⟨q1, q2, q3, q4, q5⟩ := h
  exact ⟨h32, by rw [e _ (by first | omega | (dsimp only; omega)) (by first | omega | (dsimp only; omega))]; exact q2, by rw [e _ (by first | omega | (dsimp only; omega)) (by first | omega | (dsimp only; omega))]; exact q3, by rw [e _ (by first | omega | (dsimp only; omega)) (by first | omega | (dsimp only; omega))]; exact q4, fun w hw => by rw [e _ (by first | omega | (dsimp only; omega)) (by first | omega | (dsimp only; omega))]; exact q5 w hw⟩
section Chk
variable {N n r q s t : Nat} {x y : Nat → Nat} {mm : Mm}
theorem isW2 {a b : Nat} (hN : 100000 ≤ N) (hr : r < 6) (hq : q < 6) (ha : a ≤ 1) (hb : b ≤ 1) (hn : rd mm 3 5 = nI n) (hn6 : n ≤ 6) (hs : rd mm 5 a = nI s) (hs40 : s ≤ 40) (ht : rd mm 5 b = nI t) (ht40 : t ≤ 40) (hx : RX mm r n s x) (hy : RX mm q n t y) : fX11_isWrong_ N 0 (95 + 2 * r) (nI a) (95 + 2 * q) (nI b) mm = some (0, mm) := by
  obtain ⟨i, z, v, i1, z1, v1, hi, hz, hv, hf⟩ := isW_e hN hr hq ha hb hn hn6 (Or.inr ⟨n, by omega, hx.1⟩) (Or.inr ⟨n, by omega, hy.1⟩) hs hs40 ht ht40
  have hi0 : i ≠ 0 := fun e => by
    rcases hi.mp e with g | g
    · rw [hx.1] at g; exact neg1_ne (by first | omega | (dsimp only; omega)) g
    · rw [hy.1] at g; exact neg1_ne (by first | omega | (dsimp only; omega)) g
  have hz1 : z = 1 := hz.mpr ⟨hx.1, hy.1⟩
  have hv1 : v = 1 := (hv hz1).mpr ⟨RX_lay hx, RX_lay hy⟩
  have h0 := hf 0 (by rw [if_neg hi0, if_neg (by first | omega | (dsimp only; omega)), if_neg (by first | omega | (dsimp only; omega))])
  rw [if_pos rfl] at h0
  exact h0
theorem isW1 {a : Nat} (hN : 100000 ≤ N) (hr : r < 6) (ha : a ≤ 1) (hn : rd mm 3 5 = nI n) (hn6 : n ≤ 6) (hs : rd mm 5 a = nI s) (hs40 : s ≤ 40) (hx : RX mm r n s x) : fX11_isWrong N 0 (95 + 2 * r) (nI a) mm = some (0, mm) := by
  unfold fX11_isWrong
  exact st_b (isW2 hN hr hr ha ha hn hn6 hs hs40 hs hs40 hx hx) (st_g (by decide) rfl)
end Chk
section Smp
variable {N n r i : Nat} {mm : Mm}
theorem row_e (hN : 100000 ≤ N) (hr : r < 6) (hn : n ≤ 40) : ∃ m', fX11_row N 0 (nI r) (nI n) mm = some (nI n, m') ∧ Fr (fun k j => (k = 95 + 2 * r ∧ j = 1) ∨ k = 96 + 2 * r) mm m' ∧ rd m' (95 + 2 * r) 1 = nI n ∧ ∀ j, j < 40 → rd m' (96 + 2 * r) j = 0 := by
  obtain ⟨m1, c1, f1, v1⟩ := fill_ok (v := 0) (mm := wr mm (95 + 2 * r) 1 (nI n)) hN (ln_row hr) (by first | omega | (dsimp only; omega))
  refine ⟨m1, ?_, fr_st (f1.mono (fun k j e => Or.inr e)) (Or.inl ⟨rfl, rfl⟩), ?_, v1⟩
  · unfold fX11_row
    refine st_b (rowOf_t hr) (st_c (st_t (nI_le (by first | omega | (dsimp only; omega)) (by first | omega | (dsimp only; omega))) (st_t (nI_pos' (by first | omega | (dsimp only; omega))) ?_)))
    unfold fX6_renew
    rw [fr_row hr]
    exact st_b (st_n (st_b c1 rfl)) rfl
  · rw [f1.2 _ _ (by first | omega | (dsimp only; omega)), rd_wr_s]
theorem lay_e {v : Int32} (hr : r < 6) (hs : rd mm (95 + 2 * r) 1 = nI n) (hn : n ≤ 40) (hi : i < n) : fX11_lay N 0 (nI r) (nI i) v mm = some (1, wr (wr mm (96 + 2 * r) i v) 0 14 (rd mm (96 + 2 * r) i)) := by
  unfold fX11_lay
  refine st_b (rowOf_t hr) (st_c (st_b (miss_f hs (by first | omega | (dsimp only; omega))) (st_t rfl (st_b (has_t hs (by first | omega | (dsimp only; omega)) hi) (st_f (by decide) ?_)))))
  rw [fr_row hr, nI_nat (by first | omega | (dsimp only; omega))]
  refine st_k (ln_row hr) (by first | omega | (dsimp only; omega)) (by first | omega | (dsimp only; omega)) (st_n (st_k (ln_row hr) (by first | omega | (dsimp only; omega)) (by first | omega | (dsimp only; omega)) (st_n ?_)))
  unfold fX11_told
  rfl
theorem at_e (hr : r < 6) (hs : rd mm (95 + 2 * r) 1 = nI n) (hn : n ≤ 40) (hi : i < n) : fX11_at N 0 (nI r) (nI i) mm = some (1, wr mm 0 14 (rd mm (96 + 2 * r) i)) := by
  unfold fX11_at
  refine st_b (rowOf_t hr) (st_c (st_b (miss_f hs (by first | omega | (dsimp only; omega))) (st_t rfl (st_b (has_t hs (by first | omega | (dsimp only; omega)) hi) (st_f (by decide) ?_)))))
  rw [fr_row hr, nI_nat (by first | omega | (dsimp only; omega))]
  refine st_k (ln_row hr) (by first | omega | (dsimp only; omega)) (by first | omega | (dsimp only; omega)) ?_
  unfold fX11_told
  rfl
theorem text_e (hN : 100000 ≤ N) (hr : r < 4) (hn : n ≤ 80) : ∃ m', fX11_text N 0 (nI r) (nI n) mm = some (nI n, m') ∧ Fr (fun k j => (k = 107 + 2 * r ∧ j = 1) ∨ k = 108 + 2 * r) mm m' ∧ rd m' (107 + 2 * r) 1 = nI n ∧ ∀ j, j < 80 → rd m' (108 + 2 * r) j = 32 := by
  obtain ⟨m1, c1, f1, v1⟩ := fill_ok (v := 32) (mm := wr mm (107 + 2 * r) 1 (nI n)) hN (ln_txt hr) (by first | omega | (dsimp only; omega))
  refine ⟨m1, ?_, fr_st (f1.mono (fun k j e => Or.inr e)) (Or.inl ⟨rfl, rfl⟩), ?_, v1⟩
  · unfold fX11_text
    refine st_b (textOf_t hr) (st_c (st_t (nI_le (by first | omega | (dsimp only; omega)) (by first | omega | (dsimp only; omega))) (st_t (nI_pos' (by first | omega | (dsimp only; omega))) ?_)))
    unfold fX6_renew
    rw [fr_txt hr]
    exact st_b (st_n (st_b c1 rfl)) rfl
  · rw [f1.2 _ _ (by first | omega | (dsimp only; omega)), rd_wr_s]
theorem put_e {v : Int32} (hr : r < 4) (hs : rd mm (107 + 2 * r) 1 = nI n) (hn : n ≤ 80) (hi : i < n) : fX11_put N 0 (nI r) (nI i) v mm = some (rd mm (108 + 2 * r) i + 1000, wr mm (108 + 2 * r) i v.toInt8.toInt32) := by
  unfold fX11_put
  refine st_b (textOf_t hr) (st_c (st_b (miss_f hs (by first | omega | (dsimp only; omega))) (st_t rfl (st_b (has_t hs (by first | omega | (dsimp only; omega)) hi) (st_f (by decide) ?_)))))
  rw [fr_txt hr, nI_nat (by first | omega | (dsimp only; omega))]
  exact st_k (ln_txt hr) (by first | omega | (dsimp only; omega)) (by first | omega | (dsimp only; omega)) (st_n (st_k (ln_txt hr) (by first | omega | (dsimp only; omega)) (by first | omega | (dsimp only; omega)) (st_n rfl)))
theorem damp_e {v d : Nat} (hv : v ≤ 9) (hd : rd mm 3 6 = nI d) : fX11_damp N 0 (nI v) mm = some (nI d, wr (wr mm 3 6 (nI v)) 52 2 0) := by
  unfold fX11_damp
  simp only [LXa]
  refine st_f (nI_pos (by first | omega | (dsimp only; omega))) (st_t (nI_le (by first | omega | (dsimp only; omega)) (by first | omega | (dsimp only; omega))) (st_n (st_b (st_n rfl) ?_)))
  rw [hd]
theorem lender_e {l v : Nat} (hl : l < 4) (hv : v ≤ 20) : fX11_lender N 0 (nI l) (nI v) mm = some (rd mm 6 l, wr mm 6 l (nI v)) := by
  unfold fX11_lender
  simp only [LXa, nI_nat (show l < 2147483648 by omega)]
  exact st_f (nI_pos (by first | omega | (dsimp only; omega))) (st_f (nI_ge (by first | omega | (dsimp only; omega)) (by first | omega | (dsimp only; omega))) (st_f (nI_pos (by first | omega | (dsimp only; omega))) (st_t (nI_le (by first | omega | (dsimp only; omega)) (by first | omega | (dsimp only; omega))) (st_k rfl (by first | omega | (dsimp only; omega)) (by first | omega | (dsimp only; omega)) (st_n (st_k rfl (by first | omega | (dsimp only; omega)) (by first | omega | (dsimp only; omega)) (st_n rfl)))))))
end Smp
section Jdg
variable {N n d s t r q : Nat} {K W F len x y : Nat → Nat} {mm : Mm}
theorem judge_e (hN : 100000 ≤ N) (B : KB n d s t len) (D : KD mm n d s t K W F len) (hA : RA mm) (hr : r < 6) (hq : q < 6) (hx : RX mm r n s x) (hy : RX mm q n t y) : ∃ m', fX11_judge N 0 (nI r) (nI q) mm = some (nI (scr W 0 (wn K F d x y) n), m') ∧ Fr (fun k j => (29 ≤ k ∧ k ≤ 32) ∨ (k = 0 ∧ j = 14)) mm m' ∧ rd m' 0 14 = nI (scr W 1 (wn K F d x y) n) ∧ RA m' := by
  obtain ⟨b1, b2, b3, b4, b5, b6⟩ := B
  obtain ⟨C, hd, hs, ht, hl⟩ := D
  obtain ⟨m1, c1, f1, w1, g1, -⟩ := weigh_e (N := N) (d := d) (x := x) (y := y) (i := 0) hN SC_29 b3 (ln_row hr) (ln_row hq) (by first | omega | (dsimp only; omega)) (by first | omega | (dsimp only; omega)) (by first | omega | (dsimp only; omega)) (by first | omega | (dsimp only; omega)) hx.b hy.b (by first | omega | (dsimp only; omega)) C hd hx.2.1 hy.2.1 (SW_0 hA.1)
  have C1 : CS m1 n K W F := CS_c C (fun k j e => f1.2 _ _ (by first | omega | (dsimp only; omega)))
  have hb := scr_both (W := W) (w := wn K F d x y) (fun i => wn_2) n
  refine ⟨wr m1 0 14 (nI (scr W 1 (wn K F d x y) n)), ?_, fr_wr (f1.mono (fun k j e => Or.inl e)) (Or.inr ⟨rfl, rfl⟩), rd_wr_s, RA_32 hA (fun k h1 h2 => by rw [rd_wr_k (by first | omega | (dsimp only; omega)), f1.2 _ _ (by first | omega | (dsimp only; omega))]) (by rw [rd_wr_k (by first | omega | (dsimp only; omega))]; exact w1.2 0 (by first | omega | (dsimp only; omega)))⟩
  unfold fX11_judge
  refine st_b (rowOf_t hr) (st_b (rowOf_t hq) (st_c (st_c (st_b (isW2 (a := 0) (b := 1) hN hr hq (by first | omega | (dsimp only; omega)) (by first | omega | (dsimp only; omega)) C.1 (by first | omega | (dsimp only; omega)) hs (by first | omega | (dsimp only; omega)) ht (by first | omega | (dsimp only; omega)) hx hy) (st_t rfl ?_)))))
  simp only [LXa, LXb, fr_row hr, fr_row hq]
  refine st_b c1 (st_b (worths_e hN C1) (st_n ?_))
  rw [g1, show (2 : Int32) = nI 2 from rfl, nI_mul, nI_sub (by first | omega | (dsimp only; omega)), show 2 * smN W n - scr W 0 (wn K F d x y) n = scr W 1 (wn K F d x y) n by omega, rd_wr_k (by first | omega | (dsimp only; omega)), g1]
theorem who_e {i : Nat} (hN : 100000 ≤ N) (B : KB n d s t len) (D : KD mm n d s t K W F len) (hA : RA mm) (hr : r < 6) (hq : q < 6) (hi : i < n) (hx : RX mm r n s x) (hy : RX mm q n t y) : ∃ m', fX11_who N 0 (nI r) (nI q) (nI i) mm = some (if wn K F d x y i = 2 then -9 else nI (wn K F d x y i), m') ∧ Fr (fun k j => (29 ≤ k ∧ k ≤ 32) ∨ (k = 0 ∧ j = 14)) mm m' ∧ RA m' := by
  obtain ⟨b1, b2, b3, b4, b5, b6⟩ := B
  obtain ⟨C, hd, hs, ht, hl⟩ := D
  obtain ⟨m1, c1, f1, w1, g1, l1⟩ := weigh_e (N := N) (d := d) (x := x) (y := y) (i := 0) hN SC_29 b3 (ln_row hr) (ln_row hq) (by first | omega | (dsimp only; omega)) (by first | omega | (dsimp only; omega)) (by first | omega | (dsimp only; omega)) (by first | omega | (dsimp only; omega)) hx.b hy.b (by first | omega | (dsimp only; omega)) C hd hx.2.1 hy.2.1 (SW_0 hA.1)
  have hwi : wn K F d x y i ≤ 2 := wn_2
  generalize hD : dfN (wtN K F d (wn K F d x y) i 0 (x i)) (wtN K F d (wn K F d x y) i 1 (y i)) = D
  refine ⟨wr m1 0 14 (nI D), ?_, fr_wr (f1.mono (fun k j e => Or.inl e)) (Or.inr ⟨rfl, rfl⟩), RA_32 hA (fun k h1 h2 => by rw [rd_wr_k (by first | omega | (dsimp only; omega)), f1.2 _ _ (by first | omega | (dsimp only; omega))]) (by rw [rd_wr_k (by first | omega | (dsimp only; omega))]; exact w1.2 0 (by first | omega | (dsimp only; omega)))⟩
  unfold fX11_who
  refine st_b (rowOf_t hr) (st_b (rowOf_t hq) (st_c (st_c (st_b (suitOf_t C hi) (st_c (st_b (isW2 (a := 0) (b := 1) hN hr hq (by first | omega | (dsimp only; omega)) (by first | omega | (dsimp only; omega)) C.1 (by first | omega | (dsimp only; omega)) hs (by first | omega | (dsimp only; omega)) ht (by first | omega | (dsimp only; omega)) hx hy) (st_t rfl ?_)))))))
  simp only [LXa, LXb, fr_row hr, fr_row hq, nI_nat (show i < 2147483648 by omega)]
  refine st_b c1 (st_k rfl (by first | omega | (dsimp only; omega)) (by first | omega | (dsimp only; omega)) (st_n (st_k rfl (by first | omega | (dsimp only; omega)) (by first | omega | (dsimp only; omega)) ?_)))
  rw [rd_wr_k (by first | omega | (dsimp only; omega)), l1 i (by first | omega | (dsimp only; omega)) hi, hD, w1.1 i hi]
  by_cases h2 : wn K F d x y i = 2
  · rw [if_pos h2]; exact st_t (by rw [h2]; rfl) rfl
  · rw [if_neg h2]
    exact st_f (fun e => h2 (nI_inj (b := 2) e (by first | omega | (dsimp only; omega)) (by first | omega | (dsimp only; omega)))) (st_k rfl (by first | omega | (dsimp only; omega)) (by first | omega | (dsimp only; omega)) rfl)
/-- the best leaf -/
theorem bst_x {z : Nat → Nat} {d s : Nat} : ∃ y, (lvA K W F d z 0 s n).foldl (bst n) none = some y ∧ y ∈ lvA K W F d z 0 s n ∧ ∀ x ∈ lvA K W F d z 0 s n, x.1 < y.1 ∨ (x.1 = y.1 ∧ y.2.1 ≤ x.2.1) := by
  obtain ⟨y, y1, -, -⟩ := bst_e (n := n) _ (lvs_ne (K := K) (W := W) (F := F) (d := d) (s := 0) (L := s) (z := z) n 0 (fun _ => 0) (fun _ => 0) 0 0 (Nat.zero_le _))
  have h2 := bst_q (n := n) (lvA K W F d z 0 s n) [] none (fun y hy => by cases hy) (fun _ => rfl) y y1
  rw [List.nil_append] at h2
  exact ⟨y, y1, h2⟩
theorem best_e {b : Lf} (hN : 100000 ≤ N) (B : KB n d s t len) (D : KD mm n d s t K W F len) (hr : r < 6) (hq : q < 6) (hy : RX mm r n t y) (hb : (lvA K W F d y 0 s n).foldl (bst n) none = some b) : ∃ m', fX11_best N 0 (nI r) (nI q) mm = some (nI b.1, m') ∧ Fr (fun k j => (35 ≤ k ∧ k ≤ 39) ∨ (k = 0 ∧ j = 14) ∨ (k = 95 + 2 * q ∧ j = 1) ∨ k = 96 + 2 * q) mm m' ∧ rd m' 0 14 = nI b.2.1 ∧ rd m' (95 + 2 * q) 1 = nI n ∧ HA m' (96 + 2 * q) n b.2.2 := by
  obtain ⟨b1, b2, b3, b4, b5, b6⟩ := B
  obtain ⟨C, hd, hs, ht, hl⟩ := D
  obtain ⟨m1, c1, c2, c3⟩ := run_e (N := N) (d := d) (most := s) hN b3 (by first | omega | (dsimp only; omega)) (ln_row hr) (by first | omega | (dsimp only; omega)) (by first | omega | (dsimp only; omega)) hy.b C hy.2.1
  obtain ⟨-, -, c4, -⟩ := c3
  obtain ⟨e1, e2, e3, e4, e5, e6⟩ := c4 b hb
  obtain ⟨m2, d1, d2, d3, d4⟩ := take_e (N := N) (p := 36) hq rfl (show n ≤ 6 by omega) (by first | omega | (dsimp only; omega)) e3
  refine ⟨wr m2 0 14 (nI b.2.1), ?_, fr_wr ((c2.mono (fun k j e => Or.inl e)).tr (d2.mono (fun k j e => by omega))) (Or.inr (Or.inl ⟨rfl, rfl⟩)), rd_wr_s, by rw [rd_wr_k (by first | omega | (dsimp only; omega))]; exact d3, d4.c (fun j _ => rd_wr_k (by first | omega | (dsimp only; omega)))⟩
  unfold fX11_best
  refine st_b (rowOf_t hr) (st_b (rowOf_t hq) (st_c (st_c (st_b (isW1 (a := 1) hN hr (by first | omega | (dsimp only; omega)) C.1 (by first | omega | (dsimp only; omega)) ht (by first | omega | (dsimp only; omega)) hy) (st_t rfl ?_)))))
  simp only [LXa, LXb, fr_row hr]
  refine st_g (by decide) ?_
  rw [show ((0 : Int32).toNatClampNeg) = 0 from rfl, hd, hs]
  refine st_b c1 ?_
  rw [c2.2 3 5 (by first | omega | (dsimp only; omega)), C.1]
  refine st_b d1 (st_n ?_)
  rw [d2.2 35 2 (by first | omega | (dsimp only; omega)), e2, rd_wr_k (by first | omega | (dsimp only; omega)), d2.2 35 1 (by first | omega | (dsimp only; omega)), e1]
/-- fewest: p the fewest sheets for v, the most by so many -/
theorem fewest_e {v : Nat} {p : Nat × Nat} (hN : 100000 ≤ N) (B : KB n d s t len) (D : KD mm n d s t K W F len) (hr : r < 6) (hv : v ≤ 108) (hy : RX mm r n t y) (hp : FP v (some p) (lvA K W F d y 0 240 n)) : ∃ m', fX11_fewest N 0 (nI r) (nI v) mm = some (nI p.1, m') ∧ Fr (fun k j => (35 ≤ k ∧ k ≤ 39) ∨ (k = 0 ∧ j = 14)) mm m' ∧ rd m' 0 14 = nI p.2 := by
  obtain ⟨b1, b2, b3, b4, b5, b6⟩ := B
  obtain ⟨C, hd, hs, ht, hl⟩ := D
  obtain ⟨m1, c1, c2, c3⟩ := run_e (N := N) (d := d) (most := 240) hN b3 (by first | omega | (dsimp only; omega)) (ln_row hr) (by first | omega | (dsimp only; omega)) (by first | omega | (dsimp only; omega)) hy.b C hy.2.1
  have cf := cfew_l (N := N) (v := v) c3.1 (by first | omega | (dsimp only; omega)) 241 0 (by first | omega | (dsimp only; omega)) N (by first | omega | (dsimp only; omega))
  have cf' : fX8_fewestFor N 35 (nI v) m1 = _ := cf
  have hG := gst_e (lvA K W F d y 0 240 n)
  have c31 := c3.1
  have few := few_same hG (fun y hy => lvs_sh n 0 (fun _ => 0) (fun _ => 0) 0 0 y (by first | omega | (dsimp only; omega)) hy) hp
  obtain ⟨g1, g2, g3⟩ := few.2 p rfl
  rw [g1] at cf'
  have hmb := mostBy_e (N := N) (s := p.1) hN c31 g3
  rw [g2] at hmb
  refine ⟨wr m1 0 14 (nI p.2), ?_, fr_wr (c2.mono (fun k j e => Or.inl e)) (Or.inr ⟨rfl, rfl⟩), rd_wr_s⟩
  unfold fX11_fewest
  refine st_b (rowOf_t hr) (st_c (st_f (nI_pos (by first | omega | (dsimp only; omega))) (st_t (nI_le (by first | omega | (dsimp only; omega)) (by first | omega | (dsimp only; omega))) (st_b (isW1 (a := 1) hN hr (by first | omega | (dsimp only; omega)) C.1 (by first | omega | (dsimp only; omega)) ht (by first | omega | (dsimp only; omega)) hy) (st_t rfl ?_)))))
  simp only [LXa, fr_row hr, hd]
  exact st_b c1 (st_b cf' (st_f (neg9_ne (by first | omega | (dsimp only; omega))) (st_b hmb (st_n rfl))))
theorem sure_e (hN : 100000 ≤ N) (B : KB n d s t len) (D : KD mm n d s t K W F len) (hr : r < 6) (hx : RX mm r n s x) : ∃ m', fX11_sure N 0 (nI r) mm = some (nI (sureN K W F d t n x), m') ∧ Fr (fun k _ => k = 40 ∨ k = 41) mm m' := by
  obtain ⟨b1, b2, b3, b4, b5, b6⟩ := B
  obtain ⟨C, hd, hs, ht, hl⟩ := D
  obtain ⟨m1, b, c1, c2, c3, c4⟩ := least_c (N := N) (d := d) (T := t) (en := -1) hN b3 (by first | omega | (dsimp only; omega)) (ln_row hr) (by first | omega | (dsimp only; omega)) (by first | omega | (dsimp only; omega)) hx.b C hd ht hx.2.1
  have hb : b = sureN K W F d t n x := by
    rcases c4 with c4 | ⟨c4, -⟩
    · exact c4
    · have : (-1 : Int32).toInt = -1 := rfl
      omega
  rw [hb] at c1
  refine ⟨m1, ?_, c2⟩
  unfold fX11_sure
  refine st_b (rowOf_t hr) (st_c (st_b (isW1 (a := 0) hN hr (by first | omega | (dsimp only; omega)) C.1 (by first | omega | (dsimp only; omega)) hs (by first | omega | (dsimp only; omega)) hx) (st_t rfl ?_)))
  simp only [LXa, fr_row hr]
  exact st_b c1 rfl
end Jdg
