/-! the law's four layings -/
theorem ar_1 {a b g U T w : Nat} (h1 : a * g = U) (h2 : b * g = w) (hT : T ≤ U) : b * T ≤ a * w := by
  refine Nat.le_trans (Nat.mul_le_mul_left b hT) ?_
  rw [← h1, ← h2, Nat.mul_left_comm]
  exact Nat.le_refl _
theorem ar_2 {a b g U a2 b2 g2 V w : Nat} (h1 : a * g = U) (h2 : b * g = w) (h3 : a2 * g2 = V) (h4 : b2 * g2 = w) (hg : 0 < g) (hg2 : 0 < g2) (h : U ≤ V) : a * b2 ≤ a2 * b := by
  have e1 : a * b2 * (g * g2) = U * w := by rw [← h1, ← h4, Nat.mul_mul_mul_comm]
  have e2 : a2 * b * (g * g2) = V * w := by rw [← h3, ← h2, Nat.mul_comm g g2, Nat.mul_mul_mul_comm]
  refine Nat.le_of_mul_le_mul_right ?_ (Nat.mul_pos hg hg2)
  rw [e1, e2]
  exact Nat.mul_le_mul_right w h
theorem ar_3 {a2 b2 g2 V w q : Nat} (h3 : a2 * g2 = V) (h4 : b2 * g2 = w) (hg2 : 0 < g2) (h : w * q ≤ V) : q * b2 ≤ a2 := by
  refine Nat.le_of_mul_le_mul_right ?_ hg2
  rw [h3, Nat.mul_assoc, h4, Nat.mul_comm]
  exact h
section Lw
variable {N n d s t i l L f : Nat} {xs : Nat → Int32} {K W F len x y z : Nat → Nat} {mm m0 m2 : Mm}
theorem FQ.up {u w : Nat} (q : FQ m0 m2 u w) (hu : u ≤ 90000) (hw : w ≤ 90000) (h0 : 0 < w) : ∃ a b g, fX11_upper N 0 m2 = some (lN a, m2) ∧ fX11_lower N 0 m2 = some (lN b, m2) ∧ 0 < g ∧ a * g = u ∧ b * g = w ∧ 0 < b ∧ a ≤ u ∧ b ≤ w := by
  obtain ⟨a, b, g, h1, h2, h3, h4, h5, h6⟩ := fr_num hu hw h0
  refine ⟨a, b, g, ?_, ?_, h3, h4, h5, h6, ?_, ?_⟩
  · unfold fX11_upper; rw [q.2.1, h1]
  · unfold fX11_lower; rw [q.2.2, h2]
  · rw [← h4]; exact Nat.le_mul_of_pos_right a h3
  · rw [← h5]; exact Nat.le_mul_of_pos_right b h3
theorem FQ.one {u v : Nat} (q : FQ m0 m2 (u * v) u) (h0 : 0 < u) (hu : u ≤ 99) (hv : v ≤ 108) : fX11_upper N 0 m2 = some (lN v, m2) ∧ fX11_lower N 0 m2 = some (1, m2) := by
  obtain ⟨h1, h2⟩ := fr_one h0 hu hv
  refine ⟨?_, ?_⟩
  · unfold fX11_upper; rw [q.2.1, h1]
  · unfold fX11_lower; rw [q.2.2, h2]
theorem sure_c (h : SuN n K W F) {x' : Nat → Nat} (e : ∀ j, j < n → x' j = x j) : sureN K W F d t n x ≤ sureN K W F d t n x' := by
  obtain ⟨y, y1, y2⟩ := sure_at (d := d) (t := t) (x := x') h
  rw [← y2, scr_cx h e]
  exact sure_le h y1
theorem safe_max (h : SuN n K W F) (hs : s ≤ 8) : ∃ p, sfP K W F n d s t = some p ∧ sureN K W F d t n p.2 = p.1 ∧ LayN n s p.2 ∧ ∀ x, LayN n s x → sureN K W F d t n x ≤ p.1 := by
  obtain ⟨p, p1, p2, p3, p4⟩ := sf_all (su := sureN K W F d t n) (xs := enA n s) enm_ne
  refine ⟨p, p1, p3, enA_lay hs p2, fun x hx => ?_⟩
  obtain ⟨l, l1, l2⟩ := enA_all (by have := h.2.1; first | omega | (dsimp only; omega)) (by first | omega | (dsimp only; omega)) hx.2
  exact Nat.le_trans (sure_c h l2) (p4 l l1)
theorem l599 (hN : 100000 ≤ N) (hL : L ≤ 260) (B : KB n d s t len) (h0 : ∀ j, j < 4 → len j = 0) (I : LI mm n d s t K W F len y) {v : Nat} (hv : v ≤ 1000) {b : Bool} (hb : b = true ↔ v ≤ scD n s K W F y d) : ∃ m', fL_law_599 N L xs 0 (nI n) 175 177 (nI (smN W n)) (nI (scD n s K W F y d)) (nI v) (if b = true then 1 else 0) mm = some (1, m') := by
  obtain ⟨m', z⟩ := l622 (N := N) (L := L) (xs := xs) hN hL B h0 I n 0 1 (by first | omega | (dsimp only; omega)) N (by have := B.2.1; first | omega | (dsimp only; omega))
  have h108 := scD_8 (s := s) (y := y) (KD.su B I.1) d
  refine ⟨m', ?_⟩
  unfold fL_law_599 fL_law_611
  cases b with
  | true =>
    have := hb.mp rfl
    exact st_f (nI_nlt this (by first | omega | (dsimp only; omega))) (st_t rfl z)
  | false =>
    have : ¬ v ≤ scD n s K W F y d := fun q => by have := hb.mpr q; cases this
    exact st_t (nI_lt (by first | omega | (dsimp only; omega)) (by first | omega | (dsimp only; omega))) (st_t rfl z)
theorem l253 (hN : 100000 ≤ N) (hL : L ≤ 260) (B : KB n d s t len) (h0 : ∀ j, j < 4 → len j = 0) (hmax : ∀ x, LayN n s x → sureN K W F d t n x ≤ sureN K W F d t n z) : ∀ c l mm, l + c = 4 → LI mm n d s t K W F len y → RX mm 3 n s z → ∀ f, c < f → ∃ m', fL_law_253 N L xs f 0 (nI n) 175 177 (nI (smN W n)) (nI (scD n s K W F y d)) (nI (sureN K W F d t n z)) (nI l) mm = some (1, m') := by
  intro c
  induction c with
  | zero =>
    intro l mm hl I hz f hf
    obtain ⟨f, rfl⟩ : ∃ q, f = q + 1 := ⟨f - 1, by omega⟩
    obtain rfl : l = 4 := by omega
    have hu := KD.su B I.1
    obtain ⟨b, hb, hb2, hb3⟩ := bst_x (n := n) (K := K) (W := W) (F := F) (z := y) (d := d) (s := s)
    have hsb := scD_b hb
    obtain ⟨cv, hcv⟩ := cell_e (N := N) (L := L) (xs := xs) (mm := mm) (k := 16) (by first | omega | (dsimp only; omega)) hL
    obtain ⟨v, v40, hv⟩ := low_e (N := N) (mm := mm) (a := cv) (n := 40) (by first | omega | (dsimp only; omega)) (by first | omega | (dsimp only; omega))
    obtain ⟨m1, c1, f1, a1, u1⟩ := ways_e (N := N) (r := 1) (v := v) hN B I.1 I.2.1 (by first | omega | (dsimp only; omega)) (by first | omega | (dsimp only; omega)) I.2.2.2.1
    have I1 : LI m1 n d s t K W F len y := I.tt f1 (fun k j q => by unfold Pt; first | omega | (dsimp only; omega)) a1
    obtain ⟨m2, c2, f2, a2, u2⟩ := ways_e (N := N) (r := 1) (v := v + 1) hN B I1.1 I1.2.1 (by first | omega | (dsimp only; omega)) (by first | omega | (dsimp only; omega)) I1.2.2.2.1
    have I2 : LI m2 n d s t K W F len y := I1.tt f2 (fun k j q => by unfold Pt; first | omega | (dsimp only; omega)) a2
    have hmono : (wyP K W F n d s (v + 1) y).2 ≤ (wyP K W F n d s v y).2 := wy_mono _ _ _ (Nat.le_refl _)
    have hbest := ways_best (v := v) hu B.2.2.2.1 hb2 hb3
    by_cases hp : 0 < (wyP K W F n d s v y).2
    · obtain ⟨m', z1⟩ := l599 (N := N) (L := L) (xs := xs) hN hL B h0 I2 (v := v) (by first | omega | (dsimp only; omega)) (b := true) ⟨fun _ => by rw [hsb]; exact hbest.mp hp, fun _ => rfl⟩
      refine ⟨m', ?_⟩
      unfold fL_law_253
      refine st_t (nI_le (a := 4) (b := 4) (by first | omega | (dsimp only; omega)) (by first | omega | (dsimp only; omega))) (st_b hcv (st_b hv (st_b c1 ?_)))
      rw [nI_1]
      refine st_b c2 (st_f (nI_nlt hmono (by first | omega | (dsimp only; omega))) (st_f ?_ z1))
      exact nI_ge (a := 0) hp (by first | omega | (dsimp only; omega))
    · obtain ⟨m', z1⟩ := l599 (N := N) (L := L) (xs := xs) hN hL B h0 I2 (v := v) (by first | omega | (dsimp only; omega)) (b := false) ⟨fun q => absurd q (by decide), fun q => absurd (hbest.mpr (by rw [← hsb]; exact q)) hp⟩
      refine ⟨m', ?_⟩
      unfold fL_law_253
      refine st_t (nI_le (a := 4) (b := 4) (by first | omega | (dsimp only; omega)) (by first | omega | (dsimp only; omega))) (st_b hcv (st_b hv (st_b c1 ?_)))
      rw [nI_1]
      refine st_b c2 (st_f (nI_nlt hmono (by first | omega | (dsimp only; omega))) (st_t ?_ z1))
      exact nI_le (b := 0) (by first | omega | (dsimp only; omega)) (by first | omega | (dsimp only; omega))
  | succ c ih =>
    intro l mm hl I hz f hf
    obtain ⟨f, rfl⟩ : ∃ q, f = q + 1 := ⟨f - 1, by omega⟩
    obtain ⟨b1, b2, b3, b4, b5, b6⟩ := id B
    have hu := KD.su B I.1
    have hw36 := smW_54 hu
    obtain ⟨b, hb, hb2, hb3⟩ := bst_x (n := n) (K := K) (W := W) (F := F) (z := y) (d := d) (s := s)
    have hsb := scD_b hb
    obtain ⟨cv, hcv⟩ := cell_e (N := N) (L := L) (xs := xs) (mm := mm) (k := 8 + l) (by first | omega | (dsimp only; omega)) hL
    obtain ⟨m1, x, c1, x1, f1⟩ := laying_e (N := N) (n := n) (r := 0) (kl := 177) (S := s) (x := cv) (mm := mm) hN (by first | omega | (dsimp only; omega)) (by first | omega | (dsimp only; omega)) (by first | omega | (dsimp only; omega)) rfl (by first | omega | (dsimp only; omega)) (by first | omega | (dsimp only; omega))
    have I1 : LI m1 n d s t K W F len y := I.fr f1.i (fun k j q => by unfold Pt Pa; first | omega | (dsimp only; omega))
    have z1 : RX m1 3 n s z := hz.c (fun k j q => f1.2 _ _ (by first | omega | (dsimp only; omega)))
    obtain ⟨m2, c2, f2, d2, a2⟩ := judge_e (N := N) (r := 0) (q := 1) hN B I1.1 I1.2.1 (by first | omega | (dsimp only; omega)) (by first | omega | (dsimp only; omega)) x1 I1.2.2.2.1
    have I2 : LI m2 n d s t K W F len y := I1.tt f2.i (fun k j q => by unfold Pt; first | omega | (dsimp only; omega)) a2
    have x2 : RX m2 0 n s x := x1.c (fun k j q => f2.2 _ _ (by first | omega | (dsimp only; omega)))
    have z2 : RX m2 3 n s z := z1.c (fun k j q => f2.2 _ _ (by first | omega | (dsimp only; omega)))
    have hboth := scr_both (W := W) (w := wn K F d x y) (fun i => wn_2) n
    have hge := best_ge (x := x) hu hb3 x1.lay
    obtain ⟨m3, c3, f3⟩ := sure_e (N := N) (r := 0) hN B I2.1 (by first | omega | (dsimp only; omega)) x2
    have I3 : LI m3 n d s t K W F len y := I2.fr f3.i (fun k j q => by unfold Pt Pa; first | omega | (dsimp only; omega))
    have x3 : RX m3 0 n s x := x2.c (fun k j q => f3.2 _ _ (by first | omega | (dsimp only; omega)))
    have z3 : RX m3 3 n s z := z2.c (fun k j q => f3.2 _ _ (by first | omega | (dsimp only; omega)))
    have hsl : sureN K W F d t n x ≤ scr W 0 (wn K F d x y) n := sure_le hu I.2.2.2.1.lay
    have hsm : sureN K W F d t n x ≤ sureN K W F d t n z := hmax x x1.lay
    have hs108 := sure_108 (d := d) (t := t) (x := x) hu
    have hz108 := sure_108 (d := d) (t := t) (x := z) hu
    obtain ⟨m4, n4, c4, f4, a4, q4⟩ := mixed_e (N := N) (r := 0) (q := 0) (p := l) (u := 4) hN B I3.1 I3.2.1 (by first | omega | (dsimp only; omega)) (by first | omega | (dsimp only; omega)) (by first | omega | (dsimp only; omega)) (by first | omega | (dsimp only; omega)) (by first | omega | (dsimp only; omega)) x3 x3
    rw [mxA_same hu b5 (by first | omega | (dsimp only; omega)) (by first | omega | (dsimp only; omega))] at q4
    obtain ⟨u4, l4⟩ := FQ.one (N := N) q4 (by first | omega | (dsimp only; omega)) (by first | omega | (dsimp only; omega)) hs108
    have I4 : LI m4 n d s t K W F len y := I3.tt f4 (fun k j q => by unfold Pt; first | omega | (dsimp only; omega)) a4
    have x4 : RX m4 0 n s x := x3.c (fun k j q => f4 _ _ (by first | omega | (dsimp only; omega)))
    have z4 : RX m4 3 n s z := z3.c (fun k j q => f4 _ _ (by first | omega | (dsimp only; omega)))
    obtain ⟨p, hp⟩ := few_ex (d := d) (x := x) (y := y) hu b4 x1.lay
    have hsc108 : scr W 0 (wn K F d x y) n ≤ 108 := scr_b hu.w (by first | omega | (dsimp only; omega))
    obtain ⟨m5, c5, f5, -⟩ := fewest_e (N := N) (r := 1) (v := scr W 0 (wn K F d x y) n) hN B I4.1 (by first | omega | (dsimp only; omega)) hsc108 I4.2.2.2.1 hp
    have I5 : LI m5 n d s t K W F len y := I4.fr f5.i (fun k j q => by unfold Pt Pa; first | omega | (dsimp only; omega))
    have x5 : RX m5 0 n s x := x4.c (fun k j q => f5.2 _ _ (by first | omega | (dsimp only; omega)))
    have z5 : RX m5 3 n s z := z4.c (fun k j q => f5.2 _ _ (by first | omega | (dsimp only; omega)))
    have p240 : p.1 ≤ 240 := by
      obtain ⟨⟨w, w1, w2, w3, w4⟩, -⟩ := hp.1 p rfl
      obtain ⟨o1, o2, o3⟩ := best_own hu w1
      rw [← w2, o2]
      exact o3.2
    obtain ⟨cw, hcw⟩ := cell_e (N := N) (L := L) (xs := xs) (mm := m5) (k := 12 + l) (by first | omega | (dsimp only; omega)) hL
    obtain ⟨g, g13, hg⟩ := low_e (N := N) (mm := m5) (a := cw) (n := 13) (by first | omega | (dsimp only; omega)) (by first | omega | (dsimp only; omega))
    obtain ⟨m6, c6, f6⟩ := sure_e (N := N) (r := 3) hN B I5.1 (by first | omega | (dsimp only; omega)) z5
    have I6 : LI m6 n d s t K W F len y := I5.fr f6.i (fun k j q => by unfold Pt Pa; first | omega | (dsimp only; omega))
    have x6 : RX m6 0 n s x := x5.c (fun k j q => f6.2 _ _ (by first | omega | (dsimp only; omega)))
    have z6 : RX m6 3 n s z := z5.c (fun k j q => f6.2 _ _ (by first | omega | (dsimp only; omega)))
    obtain ⟨m7, n7, c7, f7, a7, q7⟩ := mixed_e (N := N) (r := 0) (q := 3) (p := g) (u := 12) hN B I6.1 I6.2.1 (by first | omega | (dsimp only; omega)) (by first | omega | (dsimp only; omega)) (by first | omega | (dsimp only; omega)) (by first | omega | (dsimp only; omega)) (by first | omega | (dsimp only; omega)) x6 z6
    have I7 : LI m7 n d s t K W F len y := I6.tt f7 (fun k j q => by unfold Pt; first | omega | (dsimp only; omega)) a7
    have x7 : RX m7 0 n s x := x6.c (fun k j q => f7 _ _ (by first | omega | (dsimp only; omega)))
    have z7 : RX m7 3 n s z := z6.c (fun k j q => f7 _ _ (by first | omega | (dsimp only; omega)))
    have hU := mxA_b (K := K) (F := F) (d := d) (t := t) (x1 := x) (x2 := z) (p := g) (u := 12) hu.w (by first | omega | (dsimp only; omega)) (by first | omega | (dsimp only; omega))
    obtain ⟨a, bb, gg, u7, l7, e1, e2, e3, e4, e5, e6⟩ := FQ.up (N := N) q7 (by first | omega | (dsimp only; omega)) (by first | omega | (dsimp only; omega)) (by first | omega | (dsimp only; omega))
    obtain ⟨m8, n8, c8, f8, a8, q8⟩ := mix_e (N := N) (r := 0) (q := 3) hN B I7.1 I7.2.1 (by first | omega | (dsimp only; omega)) (by first | omega | (dsimp only; omega)) x7 z7
    have I8 : LI m8 n d s t K W F len y := I7.tt f8 (fun k j q => by unfold Pt; first | omega | (dsimp only; omega)) a8
    have z8 : RX m8 3 n s z := z7.c (fun k j q => f8 _ _ (by first | omega | (dsimp only; omega)))
    have hp12 : bpA K W F n d t x z ≤ 12 := bpN_12 12 1 0 (by first | omega | (dsimp only; omega)) (by first | omega | (dsimp only; omega))
    have hV := mxA_b (K := K) (F := F) (d := d) (t := t) (x1 := x) (x2 := z) (p := bpA K W F n d t x z) (u := 12) hu.w (by first | omega | (dsimp only; omega)) hp12
    obtain ⟨a', b', g', u8, l8, r1, r2, r3, r4, r5, r6⟩ := FQ.up (N := N) q8 (by first | omega | (dsimp only; omega)) (by first | omega | (dsimp only; omega)) (by first | omega | (dsimp only; omega))
    have k1 := mxA_ge (d := d) (t := t) (x1 := x) (x2 := z) (p := g) (u := 12) hu b5 (by first | omega | (dsimp only; omega)) (by first | omega | (dsimp only; omega))
    have k2 := bpA_ge (K := K) (W := W) (F := F) (n := n) (d := d) (t := t) (x1 := x) (x2 := z) (q := g) (by first | omega | (dsimp only; omega))
    have k3 := bpA_ge (K := K) (W := W) (F := F) (n := n) (d := d) (t := t) (x1 := x) (x2 := z) (q := 12) (by first | omega | (dsimp only; omega))
    have k4 := mxA_ge (d := d) (t := t) (x1 := x) (x2 := z) (p := 12) (u := 12) hu b5 (by first | omega | (dsimp only; omega)) (by first | omega | (dsimp only; omega))
    have k5 := bpA_ge (K := K) (W := W) (F := F) (n := n) (d := d) (t := t) (x1 := x) (x2 := z) (q := 0) (by first | omega | (dsimp only; omega))
    have k6 := mxA_ge (d := d) (t := t) (x1 := x) (x2 := z) (p := 0) (u := 12) hu b5 (by first | omega | (dsimp only; omega)) (by first | omega | (dsimp only; omega))
    have v1 := ar_1 e2 e3 k1
    have v2 := ar_2 e2 e3 r2 r3 e1 r1 k2
    have v3 : sureN K W F d t n x * b' ≤ a' := ar_3 r2 r3 r1 (by first | omega | (dsimp only; omega))
    have v4 : sureN K W F d t n z * b' ≤ a' := ar_3 r2 r3 r1 (by first | omega | (dsimp only; omega))
    obtain ⟨m', z9⟩ := ih (l + 1) m8 (by first | omega | (dsimp only; omega)) I8 z8 f (by first | omega | (dsimp only; omega))
    refine ⟨m', ?_⟩
    have e18 : rd mm 175 ((18 : Int32).toNatClampNeg) = nI s := I.2.2.2.2.1
    have ask : fX11_asked N 0 m2 = some (nI (scr W 1 (wn K F d x y) n), m2) := by unfold fX11_asked; rw [d2]
    unfold fL_law_253
    refine st_f (nI_ge (a := l) (b := 4) (by first | omega | (dsimp only; omega)) (by first | omega | (dsimp only; omega))) (st_k (i := 18) (L := 20) rfl (by first | omega | (dsimp only; omega)) (by first | omega | (dsimp only; omega)) ?_)
    rw [show (8 : Int32) + nI l = nI (8 + l) from nI_add 8 l, show (12 : Int32) + nI l = nI (12 + l) from nI_add 12 l, e18]
    refine st_b hcv (st_b c1 (st_f (by decide) (st_b c2 (st_f (nI_pos (by first | omega | (dsimp only; omega))) (st_b ask (st_t ?_ (st_t ?_ (st_b c3 (st_f (nI_pos (by first | omega | (dsimp only; omega))) (st_f (nI_nlt hsl (by first | omega | (dsimp only; omega))) (st_f (nI_nlt hsm (by first | omega | (dsimp only; omega))) (st_b c4 (st_t rfl (st_b u4 (st_t ?_ (st_b l4 (st_t ?_ (st_b c5 (st_t ?_ (st_b hcw (st_b hg (st_b c6 (st_b c7 (st_t rfl (st_b u7 (st_b l7 (st_t ?_ (st_b u7 (st_b l7 (st_b c8 (st_f (nI_pos (by first | omega | (dsimp only; omega))) (st_f (nI_nlt hp12 (by first | omega | (dsimp only; omega))) (st_b u8 (st_b l8 (st_f ?_ (st_b u8 (st_b l8 (st_f ?_ (st_b u8 (st_b l8 (st_t ?_ ?_)))))))))))))))))))))))))))))))))))))))))
    · rw [nI_add, show (2 : Int32) = nI 2 from rfl, nI_mul]
      congr 1
      omega
    · rw [hsb]
      exact nI_le hge (by rw [← hsb]; have := scD_8 (s := s) (y := y) hu d; first | omega | (dsimp only; omega))
    · rw [lg_cmp_eq, nI_l (by first | omega | (dsimp only; omega))]
    · rw [lg_cmp_eq]
    · exact nI_le (a := 0) (by first | omega | (dsimp only; omega)) (by first | omega | (dsimp only; omega))
    · have hb1 : a * 12 ≤ 1296 * 12 := Nat.mul_le_mul_right 12 (by first | omega | (dsimp only; omega))
      rw [lg_cmp_ge, show (12 : Int64) = lN 12 from rfl, show (12 : Int32) = nI 12 from rfl, nI_sub (show g ≤ 12 by omega), nI_mul, nI_mul, nI_add, nI_l (by first | omega | (dsimp only; omega)), lN_mul, lN_mul, lN_le (by first | omega | (dsimp only; omega)) (by first | omega | (dsimp only; omega))]
      exact v1
    · have hb2 : a' * bb ≤ 1296 * 12 := Nat.mul_le_mul (by first | omega | (dsimp only; omega)) (by first | omega | (dsimp only; omega))
      rw [lg_cmp_lt, lN_mul, lN_mul, lN_lt (by first | omega | (dsimp only; omega)) (by first | omega | (dsimp only; omega))]
      omega
    · rw [lg_cmp_lt, nI_l (by first | omega | (dsimp only; omega)), lN_mul, lN_lt (by first | omega | (dsimp only; omega)) (by first | omega | (dsimp only; omega))]
      omega
    · rw [lg_cmp_ge, nI_l (by first | omega | (dsimp only; omega)), lN_mul, lN_le (by first | omega | (dsimp only; omega)) (by first | omega | (dsimp only; omega))]
      exact v4
    · rw [nI_1]
      exact z9
end Lw
