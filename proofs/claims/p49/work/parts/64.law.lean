/-! the law answers yes -/
theorem rd_zr_o {mm : Mm} {a k j : Nat} (h : a ≠ k) : rd (zr mm k) a j = rd mm a j := by
  unfold rd zr
  dsimp only
  rw [if_neg h]
theorem fr_zr {S : Nat → Nat → Prop} {m m2 : Mm} {k : Nat} (h : Fr S m m2) (hk : ∀ j, S k j) : Fr S m (zr m2 k) := ⟨h.1, fun i q e => by
  rw [rd_zr_o (fun z => e (by rw [z]; exact hk q))]
  exact h.2 i q e⟩
theorem RA_0 : RA mm0 := by
  refine ⟨rfl, rfl, rfl, rfl, fun w hw => ?_⟩
  rcases (by omega : w = 0 ∨ w = 1 ∨ w = 2 ∨ w = 3 ∨ w = 4 ∨ w = 5) with rfl | rfl | rfl | rfl | rfl | rfl <;> rfl
section Lz
variable {N n d s t i l L f : Nat} {xs : Nat → Int32} {K W F len x y z : Nat → Nat} {mm m0 m2 : Mm}
theorem l127 (hN : 100000 ≤ N) (hL : L ≤ 260) (B : KB n d s t len) (h0 : ∀ j, j < 4 → len j = 0) {b : Lf} (hb : (lvA K W F d y 0 s n).foldl (bst n) none = some b) (hb2 : b ∈ lvA K W F d y 0 s n) (hb3 : ∀ x ∈ lvA K W F d y 0 s n, x.1 < b.1 ∨ (x.1 = b.1 ∧ b.2.1 ≤ x.2.1)) : ∀ c i mm, i + c = n → LI mm n d s t K W F len y → RX mm 2 n s b.2.2 → ∀ f, c < f → ∃ m', fL_law_127 N L xs f 0 (nI n) 175 177 (nI (smN W n)) (nI b.1) (nI b.2.1) (nI (smN b.2.2 i)) (nI i) mm = some (1, m') := by
  intro c
  induction c with
  | zero =>
    intro i mm hi I hx f hf
    obtain ⟨f, rfl⟩ : ∃ q, f = q + 1 := ⟨f - 1, by omega⟩
    obtain rfl : i = n := by omega
    obtain ⟨b1, b2, b3, b4, b5, b6⟩ := id B
    have hu := KD.su B I.1
    have hw36 := smW_54 hu
    have hsb := scD_b hb
    obtain ⟨o1, o2, o3⟩ := best_own hu hb2
    have hsc108 : b.1 ≤ 108 := by rw [o1]; exact scr_b hu.w (by first | omega | (dsimp only; omega))
    obtain ⟨m1, c1, f1, d1, a1⟩ := judge_e (N := N) (r := 2) (q := 1) hN B I.1 I.2.1 (by first | omega | (dsimp only; omega)) (by first | omega | (dsimp only; omega)) hx I.2.2.2.1
    have hboth := scr_both (W := W) (w := wn K F d b.2.2 y) (fun i => wn_2) i
    rw [← o1] at c1 hboth
    have I1 : LI m1 i d s t K W F len y := I.tt f1.i (fun k j q => by unfold Pt; first | omega | (dsimp only; omega)) a1
    have hp : FP b.1 (some (b.2.1, b.1)) (lvA K W F d y 0 240 i) := best_fp (by first | omega | (dsimp only; omega)) hb2 hb3
    obtain ⟨m2, c2, f2, d2⟩ := fewest_e (N := N) (r := 1) (v := b.1) hN B I1.1 (by first | omega | (dsimp only; omega)) hsc108 I1.2.2.2.1 hp
    have I2 : LI m2 i d s t K W F len y := I1.fr f2.i (fun k j q => by unfold Pt Pa; first | omega | (dsimp only; omega))
    obtain ⟨p, p1, p2, p3, p4⟩ := safe_max (d := d) (t := t) hu b4
    obtain ⟨m3, c3, f3, e3, g3⟩ := safe_e (N := N) (q := 3) hN B I2.1 (by first | omega | (dsimp only; omega)) p1
    have I3 : LI m3 i d s t K W F len y := I2.fr f3.i (fun k j q => by unfold Pt Pa; first | omega | (dsimp only; omega))
    have x3 : RX m3 3 i s p.2 := ⟨e3, g3, p3.1, p3.2⟩
    obtain ⟨m4, c4, f4⟩ := sure_e (N := N) (r := 3) hN B I3.1 (by first | omega | (dsimp only; omega)) x3
    have I4 : LI m4 i d s t K W F len y := I3.fr f4.i (fun k j q => by unfold Pt Pa; first | omega | (dsimp only; omega))
    have x4 : RX m4 3 i s p.2 := x3.c (fun k j q => f4.2 _ _ (by first | omega | (dsimp only; omega)))
    obtain ⟨m', z⟩ := l253 (N := N) (L := L) (xs := xs) hN hL B h0 (z := p.2) (fun x hx => by rw [p2]; exact p4 x hx) 4 0 m4 (by first | omega | (dsimp only; omega)) I4 x4 N (by first | omega | (dsimp only; omega))
    rw [hsb, p2] at z
    have hpb : p.1 ≤ b.1 := by
      rw [← p2]
      exact Nat.le_trans (sure_le (y := y) hu I.2.2.2.1.lay) (best_ge hu hb3 p3)
    refine ⟨m', ?_⟩
    have e18 : rd mm 175 ((18 : Int32).toNatClampNeg) = nI s := I.2.2.2.2.1
    have ask1 : fX11_asked N 0 m1 = some (nI (scr W 1 (wn K F d b.2.2 y) i), m1) := by unfold fX11_asked; rw [d1]
    have ask2 : fX11_asked N 0 m2 = some (nI b.1, m2) := by unfold fX11_asked; rw [d2]
    have hsm : smN b.2.2 i ≤ s := o3.2
    unfold fL_law_127
    refine st_t (nI_le (by first | omega | (dsimp only; omega)) (by first | omega | (dsimp only; omega))) (st_t (by rw [o2]) (st_k (i := 18) (L := 20) rfl (by first | omega | (dsimp only; omega)) (by first | omega | (dsimp only; omega)) ?_))
    rw [e18]
    refine st_f (nI_nlt hsm (by first | omega | (dsimp only; omega))) (st_b c1 (st_t rfl (st_b ask1 (st_t ?_ (st_b c2 (st_t rfl (st_b ask2 (st_t rfl (st_b c3 (st_f (nI_pos (by first | omega | (dsimp only; omega))) (st_f (nI_nlt hpb (by first | omega | (dsimp only; omega))) (st_b c4 (st_t (by rw [p2]) z)))))))))))))
    rw [show (2 : Int32) = nI 2 from rfl, nI_mul, nI_sub (by first | omega | (dsimp only; omega))]
    congr 1
    omega
  | succ c ih =>
    intro i mm hi I hx f hf
    obtain ⟨f, rfl⟩ : ∃ q, f = q + 1 := ⟨f - 1, by omega⟩
    have hn4 := B.2.1
    have hin : i < n := by omega
    have c1 := at_e (N := N) (r := 2) (n := n) (i := i) (mm := mm) (by first | omega | (dsimp only; omega)) hx.1 (by first | omega | (dsimp only; omega)) hin
    have f1 : Fr (fun k j => k = 0 ∧ j = 14) mm (wr mm 0 14 (rd mm (96 + 2 * 2) i)) := fr_wr Fr.rf ⟨rfl, rfl⟩
    have I1 := I.fr f1.i (fun k j q => by unfold Pt Pa; first | omega | (dsimp only; omega))
    have c2 := told_e (N := N) (mm := wr mm 0 14 (rd mm (96 + 2 * 2) i))
    rw [rd_wr_s, hx.2.1 i hin] at c2
    obtain ⟨m', z⟩ := ih (i + 1) _ (by first | omega | (dsimp only; omega)) I1 (hx.c (fun k j q => f1.2 _ _ (by first | omega | (dsimp only; omega)))) f (by first | omega | (dsimp only; omega))
    rw [hx.2.1 i hin] at z
    refine ⟨m', ?_⟩
    rw [hx.2.1 i hin] at c1
    unfold fL_law_127
    refine st_f (nI_ge hin (by first | omega | (dsimp only; omega))) (st_b c1 (st_b c2 ?_))
    rw [nI_add, nI_1]
    exact z
/-- behind the court -/
theorem l69 (hN : 100000 ≤ N) (hL : L ≤ 260) (B : KB n d s t (fun _ => 0)) (D : KD mm n d s t K W F (fun _ => 0)) (A : RA mm) (T : RTT mm) (h18 : rd mm 175 18 = nI s) (h19 : rd mm 175 19 = nI t) (h7 : rd mm 3 7 = 0) : ∃ m', fL_law_69 N L xs 0 (nI n) 175 177 178 mm = some (1, m') := by
  obtain ⟨b1, b2, b3, b4, b5, b6⟩ := id B
  have c1 := count1_e (N := N) hN D.1
  obtain ⟨cv, hcv⟩ := cell_e (N := N) (L := L) (xs := xs) (mm := mm) (k := 7) (by first | omega | (dsimp only; omega)) hL
  obtain ⟨m1, y, c2, y1, f1⟩ := laying_e (N := N) (n := n) (r := 1) (kl := 178) (S := t) (x := cv) (mm := mm) hN (by first | omega | (dsimp only; omega)) (by first | omega | (dsimp only; omega)) (by first | omega | (dsimp only; omega)) rfl (by first | omega | (dsimp only; omega)) (by first | omega | (dsimp only; omega))
  have D1 : KD m1 n d s t K W F (fun _ => 0) := D.c (fun k j q => f1.2 _ _ (by first | omega | (dsimp only; omega)))
  have h71 : rd m1 3 7 = 0 := by rw [f1.2 _ _ (by first | omega | (dsimp only; omega))]; exact h7
  have h60 : rd m1 6 0 = 0 := by rw [D1.2.2.2.2 0 (by first | omega | (dsimp only; omega))]; rfl
  obtain ⟨m2, c3, f2, hK⟩ := keep_e (N := N) hN B D1 h71 h60
  have I2 : LI m2 n d s t K W F (fun _ => 0) y := ⟨D1.c (fun k j q => f2.2 _ _ (by first | omega | (dsimp only; omega))), RA_c A (fun k q => by rw [f2.2 _ _ (by first | omega | (dsimp only; omega)), f1.2 _ _ (by first | omega | (dsimp only; omega))]), RTT_c T (fun k j q => by rw [f2.2 _ _ (by first | omega | (dsimp only; omega)), f1.2 _ _ (by first | omega | (dsimp only; omega))]), y1.c (fun k j q => f2.2 _ _ (by first | omega | (dsimp only; omega))), by rw [f2.2 _ _ (by first | omega | (dsimp only; omega)), f1.2 _ _ (by first | omega | (dsimp only; omega))]; exact h18, hK, by rw [f2.2 _ _ (by first | omega | (dsimp only; omega))]; exact h71⟩
  have hu := KD.su B D
  obtain ⟨b, hb, hb2, hb3⟩ := bst_x (n := n) (K := K) (W := W) (F := F) (z := y) (d := d) (s := s)
  obtain ⟨o1, o2, o3⟩ := best_own hu hb2
  obtain ⟨m3, c4, f3, d3, e3, g3⟩ := best_e (N := N) (r := 1) (q := 2) hN B I2.1 (by first | omega | (dsimp only; omega)) (by first | omega | (dsimp only; omega)) I2.2.2.2.1 hb
  have I3 : LI m3 n d s t K W F (fun _ => 0) y := I2.fr f3.i (fun k j q => by unfold Pt Pa; first | omega | (dsimp only; omega))
  have x3 : RX m3 2 n s b.2.2 := ⟨e3, g3, o3.1, o3.2⟩
  obtain ⟨m', z⟩ := l127 (N := N) (L := L) (xs := xs) hN hL B (fun _ _ => rfl) hb hb2 hb3 n 0 m3 (by first | omega | (dsimp only; omega)) I3 x3 N (by first | omega | (dsimp only; omega))
  refine ⟨m', ?_⟩
  have e19 : rd mm 175 ((19 : Int32).toNatClampNeg) = nI t := h19
  have ask : fX11_asked N 0 m3 = some (nI b.2.1, m3) := by unfold fX11_asked; rw [d3]
  unfold fL_law_69
  refine st_b c1 (st_k (i := 19) (L := 20) rfl (by first | omega | (dsimp only; omega)) (by first | omega | (dsimp only; omega)) ?_)
  rw [e19]
  exact st_b hcv (st_b c2 (st_f (by decide) (st_b c3 (st_t rfl (st_b c4 (st_b ask z))))))
theorem law_e (hN : 100000 ≤ N) (hL : L ≤ 260) : ∃ m', fL_law N L xs = some (1, m') := by
  obtain ⟨x1, hx1⟩ := cell_e (N := N) (L := L) (xs := xs) (mm := mm0) (k := 0) (by first | omega | (dsimp only; omega)) hL
  obtain ⟨v, v4, hv⟩ := low_e (N := N) (mm := mm0) (a := x1) (n := 4) (by first | omega | (dsimp only; omega)) (by first | omega | (dsimp only; omega))
  obtain ⟨m1, em1⟩ : ∃ m1, m1 = zr (zr mm0 175) 176 := ⟨_, rfl⟩
  have f1 : Fr (fun k _ => k = 175 ∨ k = 176) mm0 m1 := by
    rw [em1]
    exact fr_zr (fr_zr Fr.rf (fun j => Or.inl rfl)) (fun j => Or.inr rfl)
  obtain ⟨m2, s, t, K, W, F, c2, hs, ht, f2, D2, h7, h52, h18, h19⟩ := lcourt_e (N := N) (L := L) (xs := xs) (n := 1 + v) (mm := m1) hN hL (by first | omega | (dsimp only; omega)) (by first | omega | (dsimp only; omega))
  obtain ⟨x4, hx4⟩ := cell_e (N := N) (L := L) (xs := xs) (mm := m2) (k := 6) (by first | omega | (dsimp only; omega)) hL
  obtain ⟨d, d5, hd⟩ := low_e (N := N) (mm := m2) (a := x4) (n := 5) (by first | omega | (dsimp only; omega)) (by first | omega | (dsimp only; omega))
  have c3 := damp_e (N := N) (v := d) (d := 0) (mm := m2) (by first | omega | (dsimp only; omega)) D2.2.1
  obtain ⟨m3, em3⟩ : ∃ m3, m3 = zr (zr (wr (wr m2 3 6 (nI d)) 52 2 0) 177) 178 := ⟨_, rfl⟩
  have f3 : Fr (fun k j => (k = 3 ∧ j = 6) ∨ (k = 52 ∧ j = 2) ∨ k = 177 ∨ k = 178) m2 m3 := by
    rw [em3]
    exact fr_zr (fr_zr (fr_wr (fr_wr Fr.rf (by first | omega | (dsimp only; omega))) (by first | omega | (dsimp only; omega))) (fun j => by omega)) (fun j => by omega)
  have D3 : KD m3 (1 + v) d s t K W F (fun _ => 0) := by
    obtain ⟨g1, g2, g3, g4, g5⟩ := D2
    exact ⟨CS_c g1 (fun k j q => f3.2 _ _ (by first | omega | (dsimp only; omega))), by rw [em3, rd_zr_o (by first | omega | (dsimp only; omega)), rd_zr_o (by first | omega | (dsimp only; omega)), rd_wr_k (by first | omega | (dsimp only; omega)), rd_wr_s], by rw [f3.2 _ _ (by first | omega | (dsimp only; omega))]; exact g3, by rw [f3.2 _ _ (by first | omega | (dsimp only; omega))]; exact g4, g5.c (fun i _ => f3.2 _ _ (by first | omega | (dsimp only; omega)))⟩
  have A3 : RA m3 := RA_c RA_0 (fun k q => by rw [f3.2 _ _ (by first | omega | (dsimp only; omega)), f2.2 _ _ (by unfold CoC; first | omega | (dsimp only; omega)), f1.2 _ _ (by first | omega | (dsimp only; omega))])
  have T3 : RTT m3 := Or.inl (by rw [em3, rd_zr_o (by first | omega | (dsimp only; omega)), rd_zr_o (by first | omega | (dsimp only; omega)), rd_wr_s])
  obtain ⟨m', z⟩ := l69 (N := N) (L := L) (xs := xs) hN hL (n := 1 + v) (d := d) ⟨by omega, by omega, by omega, hs, ht, fun i _ => by show 0 ≤ 5; omega⟩ D3 A3 T3 (by rw [f3.2 _ _ (by first | omega | (dsimp only; omega))]; exact h18) (by rw [f3.2 _ _ (by first | omega | (dsimp only; omega))]; exact h19) (by rw [f3.2 _ _ (by first | omega | (dsimp only; omega))]; exact h7)
  refine ⟨m', ?_⟩
  unfold fL_law
  refine st_b hx1 (st_b hv ?_)
  rw [show (1 : Int32) + nI v = nI (1 + v) from nI_add 1 v, ← em1]
  refine st_b c2 (st_f (by decide) (st_b hx4 (st_b hd (st_b c3 (st_t rfl ?_)))))
  rw [← em3]
  exact z
end Lz
