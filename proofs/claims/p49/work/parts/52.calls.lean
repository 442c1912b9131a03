/-! calls that go through layings, through leaves, in turn -/
/-- what fraction() leaves -/
def FQ (m m' : Mm) (u w : Nat) : Prop := (∀ k j, rd m' k j = rd m k j) ∧ rdL m' 0 15 = frU u w ∧ rdL m' 0 16 = frL u w
theorem FQ_mk {m : Mm} {u w : Nat} : FQ m (wrL (wrL m 0 15 (frU u w)) 0 16 (frL u w)) u w :=
  ⟨fun k j => by rw [rd_wrL, rd_wrL], by rw [rdL_wrL, if_neg (by first | omega | (dsimp only; omega)), rdL_wrL, if_pos ⟨rfl, rfl⟩], by rw [rdL_wrL, if_pos ⟨rfl, rfl⟩]⟩
/-- all cells outside of S stay -/
def Fi (S : Nat → Nat → Prop) (m m2 : Mm) : Prop := ∀ k j, ¬ S k j → rd m2 k j = rd m k j
theorem Fr.i {S : Nat → Nat → Prop} {m m2 : Mm} (h : Fr S m m2) : Fi S m m2 := h.2
theorem Fi.tr {S : Nat → Nat → Prop} {m m2 m3 : Mm} (h : Fi S m m2) (h2 : Fi S m2 m3) : Fi S m m3 := fun k j q => (h2 k j q).trans (h k j q)
theorem Fi.mono {S T : Nat → Nat → Prop} {m m2 : Mm} (h : Fi S m m2) (q : ∀ k j, S k j → T k j) : Fi T m m2 := fun k j z => h k j (fun w => z (q k j w))
theorem Fi.fq {S : Nat → Nat → Prop} {m m2 m3 : Mm} {u w : Nat} (h : Fi S m m2) (h2 : FQ m2 m3 u w) : Fi S m m3 := fun k j q => (h2.1 k j).trans (h k j q)
theorem rk_12 {n s : Nat} (hn : n ≤ 6) (hs : s ≤ 12) : rkN n s (fun _ => 0) ≤ 18564 := by
  have h1 := rk_cnt (l := fun _ => 0) n 0 s
  have h2 := cnt_12 hn hs
  unfold rkN
  omega
section Cl
variable {N n d s t r q : Nat} {K W F len x y x1 x2 : Nat → Nat} {mm : Mm}
/-- how many layings, how many of them good -/
abbrev wyP (K W F : Nat → Nat) (n d s v : Nat) (y : Nat → Nat) : Nat × Nat := (enA n s).foldl (wyF v (fun x => scr W 0 (wn K F d x y) n)) (0, 0)
theorem ways_e {v : Nat} (hN : 100000 ≤ N) (B : KB n d s t len) (D : KD mm n d s t K W F len) (hA : RA mm) (hr : r < 6) (hv : v ≤ 108) (hy : RX mm r n t y) : ∃ m', fX11_ways N 0 (nI r) (nI v) mm = some (nI (wyP K W F n d s v y).2, m') ∧ Fi (fun k _ => 29 ≤ k ∧ k ≤ 34) mm m' ∧ RA m' ∧ (wyP K W F n d s v y).2 ≤ 20000 := by
  obtain ⟨b1, b2, b3, b4, b5, b6⟩ := B
  obtain ⟨C, hd, hs, ht, hl⟩ := D
  obtain ⟨m0, g1, g2, g3, g4, g5⟩ := cbegin_e (N := N) (n := n) (S := s) (mm := mm) hN (by first | omega | (dsimp only; omega)) (by first | omega | (dsimp only; omega))
  have hz0 : smN (fun _ => 0) n = 0 := smN_0 n
  have hrk := rk_12 (n := n) (s := s) (by first | omega | (dsimp only; omega)) (by first | omega | (dsimp only; omega))
  have h320 : rd m0 32 0 = 0 := by rw [g2.2 _ _ (by first | omega | (dsimp only; omega))]; exact hA.1
  obtain ⟨m1, c1, c2, c3⟩ := cways_l (N := N) (d := d) (S := s) (v := v) (q := r) (y := y) hN b3 (by first | omega | (dsimp only; omega)) hr hy.b (by first | omega | (dsimp only; omega)) 18564 (fun _ => 0) 0 (0, 0) m0 N hrk (by first | omega | (dsimp only; omega)) (by first | omega | (dsimp only; omega)) (by show 0 + 18564 + 2 < 1000000; first | omega | (dsimp only; omega)) (by first | omega | (dsimp only; omega)) (Nat.le_refl _) (CS_c C (fun k j e => g2.2 _ _ (by first | omega | (dsimp only; omega)))) (by rw [g2.2 _ _ (by first | omega | (dsimp only; omega))]; exact hd) (hy.2.1.c (fun j hj => g2.2 _ _ (by first | omega | (dsimp only; omega)))) g3 g4 (by rw [hz0]; exact g5) (SW_0 h320) h320
  obtain ⟨w1, w2, w3⟩ := wy_b (n := n) (S := s) (v := v) (sc := fun x => scr W 0 (wn K F d x y) n) 18564 (fun _ => 0) (0, 0) (Nat.le_refl _)
  have hP : wyP K W F n d s v y = (enm n s 18564 (fun _ => 0)).foldl (wyF v (fun x => scr W 0 (wn K F d x y) n)) (0, 0) := rfl
  rw [← hP] at c1 w1 w2 w3
  generalize wyP K W F n d s v y = P at c1 w1 w2 w3
  have hc148 : fX11_ways_148 N 0 (nI P.1) (nI P.2) m1 = some (nI P.2, wrL (wrL m1 0 15 (frU P.2 P.1)) 0 16 (frL P.2 P.1)) := by
    unfold fX11_ways_148
    rw [nI_l (by first | omega | (dsimp only; omega)), nI_l (by first | omega | (dsimp only; omega))]
    exact st_b (cfrac_e hN (by first | omega | (dsimp only; omega)) (by first | omega | (dsimp only; omega)) (by first | omega | (dsimp only; omega))) rfl
  have F1 : Fi (fun k _ => 29 ≤ k ∧ k ≤ 34) mm m1 := (g2.i.mono (fun k j e => by omega)).tr c2.i
  refine ⟨wrL (wrL m1 0 15 (frU P.2 P.1)) 0 16 (frL P.2 P.1), ?_, F1.fq FQ_mk, RA_32 hA (fun k h1 h2 => ?_) ?_, by omega⟩
  · unfold fX11_ways
    refine st_b (rowOf_t hr) (st_c (st_f (nI_pos (by first | omega | (dsimp only; omega))) (st_t (nI_le (by first | omega | (dsimp only; omega)) (by first | omega | (dsimp only; omega))) ?_)))
    simp only [LXa, LXb]
    refine st_g (by decide) ?_
    rw [show ((0 : Int32).toNatClampNeg) = 0 from rfl, hs]
    refine st_t (nI_le (by first | omega | (dsimp only; omega)) (by first | omega | (dsimp only; omega))) (st_b (isW1 (a := 1) hN hr (by first | omega | (dsimp only; omega)) C.1 (by first | omega | (dsimp only; omega)) ht (by first | omega | (dsimp only; omega)) hy) (st_t rfl (st_g (by decide) ?_)))
    rw [C.1, hs]
    exact st_b g1 (c1.trans hc148)
  · exact (F1.fq FQ_mk) k 0 (by first | omega | (dsimp only; omega))
  · rw [rd_wrL, rd_wrL]; exact c3
/-- the greatest sure -/
abbrev sfP (K W F : Nat → Nat) (n d s t : Nat) : Option (Nat × (Nat → Nat)) := (enA n s).foldl (sfF (sureN K W F d t n)) none
theorem safe_e {p : Nat × (Nat → Nat)} (hN : 100000 ≤ N) (B : KB n d s t len) (D : KD mm n d s t K W F len) (hq : q < 6) (hp : sfP K W F n d s t = some p) : ∃ m', fX11_safe N 0 (nI q) mm = some (nI p.1, m') ∧ Fr (fun k j => k = 33 ∨ k = 34 ∨ k = 40 ∨ k = 41 ∨ (k = 95 + 2 * q ∧ j = 1) ∨ k = 96 + 2 * q) mm m' ∧ rd m' (95 + 2 * q) 1 = nI n ∧ HA m' (96 + 2 * q) n p.2 := by
  obtain ⟨b1, b2, b3, b4, b5, b6⟩ := B
  obtain ⟨C, hd, hs, ht, hl⟩ := D
  have htm : fX11_isTooMuch N 0 0 mm = some (0, mm) := tooMuch_f (a := 0) (by first | omega | (dsimp only; omega)) hs C.1 ⟨by omega, by omega⟩
  obtain ⟨m0, g1, g2, g3, g4, g5⟩ := cbegin_e (N := N) (n := n) (S := s) (mm := mm) hN (by first | omega | (dsimp only; omega)) (by first | omega | (dsimp only; omega))
  have hz0 := smN_0 n
  have hrk := rk_12 (n := n) (s := s) (by first | omega | (dsimp only; omega)) (by first | omega | (dsimp only; omega))
  obtain ⟨m1, c1, c2, c3⟩ := csafe_l (N := N) (d := d) (S := s) (T := t) (q := q) hN b3 (by first | omega | (dsimp only; omega)) (by first | omega | (dsimp only; omega)) hq 18564 (fun _ => 0) 0 0 none m0 N hrk (by first | omega | (dsimp only; omega)) (by first | omega | (dsimp only; omega)) (by first | omega | (dsimp only; omega)) (by first | omega | (dsimp only; omega)) (CS_c C (fun k j e => g2.2 _ _ (by first | omega | (dsimp only; omega)))) (by rw [g2.2 _ _ (by first | omega | (dsimp only; omega))]; exact hd) (by rw [g2.2 _ _ (by first | omega | (dsimp only; omega))]; exact ht) g3 g4 (by rw [hz0]; exact g5) (fun p hp => by cases hp)
  have hp' : (enm n s 18564 (fun _ => 0)).foldl (sfF (sureN K W F d t n)) none = some p := hp
  rw [hp'] at c1 c3
  obtain ⟨u1, u2, u3⟩ := c3 p rfl
  refine ⟨m1, ?_, (g2.mono (fun k j e => by omega)).tr (c2.mono (fun k j e => by omega)), u1, u2⟩
  unfold fX11_safe
  refine st_b (rowOf_t hq) (st_c (st_b htm (st_t rfl ?_)))
  simp only [LXa, LXb]
  refine st_g (by decide) ?_
  rw [show ((0 : Int32).toNatClampNeg) = 0 from rfl, hs, C.1]
  exact st_b g1 c1
/-- the least of p times the one and u - p times the other -/
abbrev mxA (K W F : Nat → Nat) (n d t : Nat) (x1 x2 : Nat → Nat) (p u : Nat) : Nat := (enA n t).foldl (mxF (fun y => scr W 0 (wn K F d x1 y) n) (fun y => scr W 0 (wn K F d x2 y) n) p u) 1000000
theorem mxA_b {p u : Nat} (hW : ∀ i, i < n → W i ≤ 9) (hn : n ≤ 6) (hp : p ≤ u) : mxA K W F n d t x1 x2 p u ≤ u * 108 :=
  mx_b (p := p) (q := u) (xs := enm n t 18564 (fun _ => 0)) (fun y => scr_b hW hn) (fun y => scr_b hW hn) hp enm_ne
theorem CS_9 (C : CS mm n K W F) : ∀ i, i < n → W i ≤ 9 := fun i hi => (C.2.2 i hi).2.2.2.1
theorem mixed_e {p u : Nat} (hN : 100000 ≤ N) (B : KB n d s t len) (D : KD mm n d s t K W F len) (hA : RA mm) (hr : r < 6) (hq : q < 6) (hp : p ≤ u) (hu0 : 1 ≤ u) (hu : u ≤ 99) (hx : RX mm r n s x1) (hy : RX mm q n s x2) : ∃ m' m0, fX11_mixed N 0 (nI r) (nI q) (nI p) (nI u) mm = some (1, m') ∧ Fi (fun k _ => k = 33 ∨ k = 34 ∨ (43 ≤ k ∧ k ≤ 51)) mm m' ∧ RA m' ∧ FQ m0 m' (mxA K W F n d t x1 x2 p u) u := by
  obtain ⟨b1, b2, b3, b4, b5, b6⟩ := B
  obtain ⟨C, hd, hs, ht, hl⟩ := D
  have htm : fX11_isTooMuch N 0 1 mm = some (0, mm) := tooMuch_f (a := 1) (by first | omega | (dsimp only; omega)) ht C.1 ⟨by omega, by omega⟩
  obtain ⟨m1, c1, c2, c3, c4, c5⟩ := call_e (N := N) (d := d) (t := t) (r := r) (q := q) hN b3 (by first | omega | (dsimp only; omega)) hr hq hx.b hy.b C hd ht hx.2.1 hy.2.1 hA.2.1 hA.2.2.1
  have hs1 : ∀ y, scr W 0 (wn K F d x1 y) n ≤ 108 := fun y => scr_b (CS_9 C) C.2.1
  have hs2 : ∀ y, scr W 0 (wn K F d x2 y) n ≤ 108 := fun y => scr_b (CS_9 C) C.2.1
  have hb6 := hF_b (S1 := fun y => scr W 0 (wn K F d x1 y) n) (S2 := fun y => scr W 0 (wn K F d x2 y) n) (xs := enm n t 18564 (fun _ => 0)) hs2
  have hle := cleast_e (N := N) (p := p) (t := u) hN (by first | omega | (dsimp only; omega)) (by first | omega | (dsimp only; omega)) c5 hb6
  rw [mix_same (p := p) (q := u) hs1 hs2] at hle
  have hV := mxA_b (K := K) (W := W) (F := F) (n := n) (d := d) (t := t) (x1 := x1) (x2 := x2) (CS_9 C) C.2.1 hp
  have hle' : fX4_leastBy N 42 (nI p) (nI u) m1 = some (nI (mxA K W F n d t x1 x2 p u), m1) := hle
  generalize mxA K W F n d t x1 x2 p u = V at hV hle' ⊢
  have F1 : Fi (fun k _ => k = 33 ∨ k = 34 ∨ (43 ≤ k ∧ k ≤ 51)) mm m1 := c2.i
  have F2 := F1.fq (FQ_mk (m := m1) (u := V) (w := u))
  refine ⟨wrL (wrL m1 0 15 (frU V u)) 0 16 (frL V u), m1, ?_, F2, ?_, FQ_mk⟩
  · unfold fX11_mixed
    simp only [LXa, fr_row hr, fr_row hq]
    refine st_b (rowOf_t hr) (st_b (rowOf_t hq) (st_c (st_c (st_f (nI_nlt (a := u) (b := 1) (by first | omega | (dsimp only; omega)) (by first | omega | (dsimp only; omega))) (st_f (nI_nlt (by first | omega | (dsimp only; omega)) (by first | omega | (dsimp only; omega))) (st_f (nI_pos (by first | omega | (dsimp only; omega))) (st_t (nI_le (by first | omega | (dsimp only; omega)) (by first | omega | (dsimp only; omega))) (st_b htm (st_t rfl (st_b (isW2 (a := 0) (b := 0) hN hr hq (by first | omega | (dsimp only; omega)) (by first | omega | (dsimp only; omega)) C.1 (by first | omega | (dsimp only; omega)) hs (by first | omega | (dsimp only; omega)) hs (by first | omega | (dsimp only; omega)) hx hy) (st_t rfl ?_)))))))))))
    rw [fr_row hr, fr_row hq]
    refine st_b c1 (st_b hle' ?_)
    rw [nI_l (by first | omega | (dsimp only; omega)), nI_l (by first | omega | (dsimp only; omega))]
    exact st_b (cfrac_e hN (by first | omega | (dsimp only; omega)) (by first | omega | (dsimp only; omega)) (by first | omega | (dsimp only; omega))) rfl
  · obtain ⟨q1, q2, q3, q4, q5⟩ := hA
    exact ⟨by rw [F2 _ _ (by first | omega | (dsimp only; omega))]; exact q1, by rw [rd_wrL, rd_wrL]; exact c3, by rw [rd_wrL, rd_wrL]; exact c4, by rw [F2 _ _ (by first | omega | (dsimp only; omega))]; exact q4, fun w hw => by rw [F2 _ _ (by first | omega | (dsimp only; omega))]; exact q5 w hw⟩
/-- the p by which the least is greatest -/
abbrev bpA (K W F : Nat → Nat) (n d t : Nat) (x1 x2 : Nat → Nat) : Nat := bpN (fun p => mxA K W F n d t x1 x2 p 12) 12 1 0
theorem mix_e (hN : 100000 ≤ N) (B : KB n d s t len) (D : KD mm n d s t K W F len) (hA : RA mm) (hr : r < 6) (hq : q < 6) (hx : RX mm r n s x1) (hy : RX mm q n s x2) : ∃ m' m0, fX11_mix N 0 (nI r) (nI q) mm = some (nI (bpA K W F n d t x1 x2), m') ∧ Fi (fun k _ => k = 33 ∨ k = 34 ∨ (43 ≤ k ∧ k ≤ 51)) mm m' ∧ RA m' ∧ FQ m0 m' (mxA K W F n d t x1 x2 (bpA K W F n d t x1 x2) 12) 12 := by
  obtain ⟨b1, b2, b3, b4, b5, b6⟩ := B
  obtain ⟨C, hd, hs, ht, hl⟩ := D
  have htm : fX11_isTooMuch N 0 1 mm = some (0, mm) := tooMuch_f (a := 1) (by first | omega | (dsimp only; omega)) ht C.1 ⟨by omega, by omega⟩
  obtain ⟨m1, c1, c2, c3, c4, c5⟩ := call_e (N := N) (d := d) (t := t) (r := r) (q := q) hN b3 (by first | omega | (dsimp only; omega)) hr hq hx.b hy.b C hd ht hx.2.1 hy.2.1 hA.2.1 hA.2.2.1
  have hs1 : ∀ y, scr W 0 (wn K F d x1 y) n ≤ 108 := fun y => scr_b (CS_9 C) C.2.1
  have hs2 : ∀ y, scr W 0 (wn K F d x2 y) n ≤ 108 := fun y => scr_b (CS_9 C) C.2.1
  have hb6 := hF_b (S1 := fun y => scr W 0 (wn K F d x1 y) n) (S2 := fun y => scr W 0 (wn K F d x2 y) n) (xs := enm n t 18564 (fun _ => 0)) hs2
  have hsame : ∀ p, lbN p 12 ((enm n t 18564 (fun _ => 0)).foldl (hF (fun y => scr W 0 (wn K F d x1 y) n) (fun y => scr W 0 (wn K F d x2 y) n)) (fun _ => 1000000)) 109 = mxA K W F n d t x1 x2 p 12 := fun p => mix_same (p := p) (q := 12) hs1 hs2
  have hbp := cparts_l (N := N) hN c5 hb6 12 1 0 (by first | omega | (dsimp only; omega)) (by first | omega | (dsimp only; omega)) N (by first | omega | (dsimp only; omega))
  rw [bpN_c hsame] at hbp
  have hbp' : fX4_bestParts_4 N N 42 (nI 0) (nI 1) m1 = some (nI (bpA K W F n d t x1 x2), m1) := hbp
  have hP12 : bpA K W F n d t x1 x2 ≤ 12 := bpN_12 (V := fun p => mxA K W F n d t x1 x2 p 12) 12 1 0 (by first | omega | (dsimp only; omega)) (by first | omega | (dsimp only; omega))
  have hle := cleast_e (N := N) (p := bpA K W F n d t x1 x2) (t := 12) hN hP12 (by first | omega | (dsimp only; omega)) c5 hb6
  rw [hsame] at hle
  have hV := mxA_b (K := K) (W := W) (F := F) (n := n) (d := d) (t := t) (x1 := x1) (x2 := x2) (CS_9 C) C.2.1 hP12
  generalize bpA K W F n d t x1 x2 = P at hbp' hle hV ⊢
  generalize mxA K W F n d t x1 x2 P 12 = V at hV hle ⊢
  have F1 : Fi (fun k _ => k = 33 ∨ k = 34 ∨ (43 ≤ k ∧ k ≤ 51)) mm m1 := c2.i
  have F2 := F1.fq (FQ_mk (m := m1) (u := V) (w := 12))
  refine ⟨wrL (wrL m1 0 15 (frU V 12)) 0 16 (frL V 12), m1, ?_, F2, ?_, FQ_mk⟩
  · unfold fX11_mix
    simp only [LXa]
    refine st_b (rowOf_t hr) (st_b (rowOf_t hq) (st_c (st_c (st_b htm (st_t rfl (st_b (isW2 (a := 0) (b := 0) hN hr hq (by first | omega | (dsimp only; omega)) (by first | omega | (dsimp only; omega)) C.1 (by first | omega | (dsimp only; omega)) hs (by first | omega | (dsimp only; omega)) hs (by first | omega | (dsimp only; omega)) hx hy) (st_t rfl ?_)))))))
    rw [fr_row hr, fr_row hq]
    have hbp2 : fX4_bestParts N 42 m1 = some (nI P, m1) := hbp'
    refine st_b c1 (st_b hbp2 (st_b hle ?_))
    rw [nI_l (by first | omega | (dsimp only; omega))]
    exact st_b (cfrac_e (w := 12) hN (by first | omega | (dsimp only; omega)) (by first | omega | (dsimp only; omega)) (by first | omega | (dsimp only; omega))) rfl
  · obtain ⟨q1, q2, q3, q4, q5⟩ := hA
    exact ⟨by rw [F2 _ _ (by first | omega | (dsimp only; omega))]; exact q1, by rw [rd_wrL, rd_wrL]; exact c3, by rw [rd_wrL, rd_wrL]; exact c4, by rw [F2 _ _ (by first | omega | (dsimp only; omega))]; exact q4, fun w hw => by rw [F2 _ _ (by first | omega | (dsimp only; omega))]; exact q5 w hw⟩
end Cl
section Fm
variable {N n d s t i a b : Nat} {K W F len : Nat → Nat} {mm : Mm}
/-- the suits' data are told by the memory -/
theorem CS_same {mm : Mm} (C : CS mm n K W F) : ∀ i, i < n → uK mm i = K i ∧ uW mm i = W i ∧ (3 ≤ K i → uF mm i = F i) := by
  intro i hi
  obtain ⟨⟨h1, h2, h3⟩, k1, k2, k3, k4, -⟩ := C.2.2 i hi
  refine ⟨?_, ?_, fun h => ?_⟩
  · unfold uK; rw [h1]; exact nI_back (by first | omega | (dsimp only; omega))
  · unfold uW; rw [h2]; exact nI_back (by first | omega | (dsimp only; omega))
  · unfold uF; rw [h3]; unfold gI; rw [if_neg (by first | omega | (dsimp only; omega))]; exact nI_back (by first | omega | (dsimp only; omega))
theorem wgt_f {k f g d b x : Nat} (h : 3 ≤ k → f = g) (hk : k ≤ 5) : wgt k f d b x = wgt k g d b x := by
  by_cases h3 : 3 ≤ k
  · rw [h h3]
  · unfold wgt
    have h1 : ¬ k = 3 := by omega
    have h2 : ¬ k = 4 := by omega
    have h5 : ¬ k = 5 := by omega
    simp only [h1, h2, h5, if_false]
theorem tvN_c {K' W' F' : Nat → Nat} (h : ∀ i, i < n → K i ≤ 5 ∧ K' i = K i ∧ W' i = W i ∧ (3 ≤ K i → F' i = F i)) : ∀ r, r ≤ n → ∀ a b, tvN K' W' F' d n r a b = tvN K W F d n r a b := by
  intro r
  induction r with
  | zero => intro _ a b; rfl
  | succ r ih =>
    intro hr a b
    show mxO _ a = mxO _ a
    refine mxO_c a (fun x hx => mnO_c b (fun y hy => ?_))
    obtain ⟨h5, h1, h2, h3⟩ := h (n - (r + 1)) (by first | omega | (dsimp only; omega))
    rw [ih (by first | omega | (dsimp only; omega))]
    have : gvN K' W' F' d (n - (r + 1)) x y = gvN K W F d (n - (r + 1)) x y := by
      unfold gvN zN
      rw [h1, h2, wgt_f (fun q => h3 q) h5, wgt_f (x := y) (fun q => h3 q) h5]
    rw [this]
theorem from_e (hN : 100000 ≤ N) (B : KB n d s t len) (D : KD mm n d s t K W F len) (T : RTT mm) (ha : a < 16) (hb : b < 16) : ∃ m', fX11_from N 0 0 (nI a) (nI b) mm = some (1, m') ∧ Fr (fun k j => k = 53 ∨ k = 54 ∨ (k = 52 ∧ (j = 2 ∨ j = 3)) ∨ (k = 0 ∧ j = 14)) mm m' ∧ RTT m' ∧ rd m' 0 14 = iI (tvN K W F d n n a b) := by
  obtain ⟨b1, b2, b3, b4, b5, b6⟩ := B
  obtain ⟨C, hd, hs, ht, hl⟩ := D
  have hC := CS_same C
  have C' : CS mm n (uK mm) (uW mm) (uF mm) := by
    refine ⟨C.1, C.2.1, fun i hi => ?_⟩
    obtain ⟨⟨h1, h2, h3⟩, k1, k2, k3, k4, k5, k6, k7⟩ := C.2.2 i hi
    obtain ⟨e1, e2, e3⟩ := hC i hi
    by_cases hk : 3 ≤ K i
    · refine ⟨⟨by rw [e1]; exact h1, by rw [e2]; exact h2, by rw [e1, e3 hk]; exact h3⟩, ?_⟩
      rw [e1, e2, e3 hk]
      exact ⟨k1, k2, k3, k4, k5, k6, k7⟩
    · have e4 : uF mm i = 0 := by
        unfold uF
        rw [h3]
        unfold gI
        rw [if_pos (by first | omega | (dsimp only; omega))]
        rfl
      have e5 := k7 (by first | omega | (dsimp only; omega))
      refine ⟨⟨by rw [e1]; exact h1, by rw [e2]; exact h2, by rw [e1, e4, ← e5]; exact h3⟩, ?_⟩
      rw [e1, e2, e4, ← e5]
      exact ⟨k1, k2, k3, k4, k5, k6, k7⟩
  obtain ⟨m1, c1, f1, i1, L1⟩ := fill_e (N := N) hN b3 C' hd T
  have T1 : RTT m1 := RTT_f C' hd b3 (fun k j e => f1.2 _ _ (by unfold SDf; first | omega | (dsimp only; omega))) i1 L1
  have hv : rd m1 53 ((0 * 16 + a) * 16 + b) = iI (tvN K W F d n n a b) := by
    rw [L1 0 (Nat.le_refl _) (Nat.zero_le _) a b ha hb, Nat.sub_zero, tvN_c (fun i hi => ?_) n (Nat.le_refl _)]
    obtain ⟨e1, e2, e3⟩ := hC i hi
    exact ⟨(C.2.2 i hi).2.1, e1, e2, e3⟩
  refine ⟨wr m1 0 14 (rd m1 53 ((0 * 16 + a) * 16 + b)), ?_, fr_wr (f1.mono (fun k j e => by unfold SDf at e; first | omega | (dsimp only; omega))) (by first | omega | (dsimp only; omega)), RTT_c T1 (fun k j e => rd_wr_k (by first | omega | (dsimp only; omega))), by rw [rd_wr_s]; exact hv⟩
  have hvo : fX10_valueOf N 52 3 0 (nI a) (nI b) mm = some (rd m1 53 ((0 * 16 + a) * 16 + b), m1) := by
    unfold fX10_valueOf
    exact st_b c1 (st_b (value_e (i := 0) (by first | omega | (dsimp only; omega)) ha hb) rfl)
  unfold fX11_from
  simp only [LXa]
  refine st_f (by decide) (st_f (by rw [C.1]; exact nI_nlt (a := n) (b := 0) (by first | omega | (dsimp only; omega)) (by first | omega | (dsimp only; omega))) (st_b (inTurn_t ha) (st_f (by decide) (st_b (inTurn_t hb) (st_f (by decide) (st_b hvo ?_))))))
  unfold fX11_told
  rfl
end Fm
section Ln
variable {N n d s t r : Nat} {K W F len y : Nat → Nat} {mm : Mm}
/-- the greatest scores by sheets -/
abbrev gsA (K W F : Nat → Nat) (n d : Nat) (y : Nat → Nat) : Nat → Option Nat := (lvA K W F d y 0 40 n).foldl gst (fun _ => none)
theorem gsA_8 (hW : ∀ i, i < n → W i ≤ 9) (hn : n ≤ 6) : ∀ u v, gsA K W F n d y u = some v → v ≤ 108 := by
  intro u v h
  obtain ⟨⟨x, x1, x2, x3⟩, -⟩ := (gst_e (lvA K W F d y 0 40 n) u).1 v h
  have := lvs_sc hW n 0 (fun _ => 0) (fun _ => 0) 0 0 x (by first | omega | (dsimp only; omega)) x1
  omega
theorem stN_5 {set : Nat} (hs : s ≤ 8) (hl : ∀ i, i < 4 → len i ≤ 5) : stN s len set ≤ 28 := by
  have := smN_le (f := fun l => if set / 2 ^ l % 2 = 0 then 0 else len l) (b := 5) 4 (fun i hi => by have := hl i hi; split <;> omega)
  unfold stN
  omega
theorem lend_e {set : Nat} (hN : 100000 ≤ N) (B : KB n d s t len) (D : KD mm n d s t K W F len) (hr : r < 6) (hset : set < 16) (hy : RX mm r n t y) : ∃ m', fX11_lend N 0 (nI set) (nI r) mm = some (nI (mN (gsA K W F n d y) (stN s len set + 1)) - nI (mN (gsA K W F n d y) (s + 1)), m') ∧ Fr (fun k _ => 35 ≤ k ∧ k ≤ 39) mm m' := by
  obtain ⟨b1, b2, b3, b4, b5, b6⟩ := B
  obtain ⟨C, hd, hs, ht, hl⟩ := D
  have hst : stN s len set ≤ 28 := stN_5 b4 b6
  obtain ⟨m1, c1, c2, c3⟩ := run_e (N := N) (d := d) (most := 40) hN b3 (by first | omega | (dsimp only; omega)) (ln_row hr) (by first | omega | (dsimp only; omega)) (by first | omega | (dsimp only; omega)) hy.b C hy.2.1
  refine ⟨m1, ?_, c2⟩
  unfold fX11_lend
  refine st_b (rowOf_t hr) (st_f (nI_pos (by first | omega | (dsimp only; omega))) (st_f (nI_nlt (by first | omega | (dsimp only; omega)) (by first | omega | (dsimp only; omega))) (st_c (st_b (isW1 (a := 1) hN hr (by first | omega | (dsimp only; omega)) C.1 (by first | omega | (dsimp only; omega)) ht (by first | omega | (dsimp only; omega)) hy) (st_t rfl ?_)))))
  simp only [LXa, fr_row hr]
  refine st_b (cstock_e hN hset hs hl) (st_t (nI_le (by first | omega | (dsimp only; omega)) (by first | omega | (dsimp only; omega))) ?_)
  rw [hd]
  exact st_b c1 (st_b (worth_e hN hset (by rw [c2.2 _ _ (by first | omega | (dsimp only; omega))]; exact hs) (hl.c (fun i hi => c2.2 _ _ (by first | omega | (dsimp only; omega)))) (by first | omega | (dsimp only; omega)) c3.1) rfl)
/-- what sets have -/
abbrev bwA (K W F : Nat → Nat) (n d s : Nat) (len y : Nat → Nat) (c : Nat) : Nat := if c < 16 then mN (gsA K W F n d y) (stN s len c + 1) else 0
theorem bwA_8 (hW : ∀ i, i < n → W i ≤ 9) (hn : n ≤ 6) (c : Nat) : bwA K W F n d s len y c ≤ 108 := by
  show (if c < 16 then mN (gsA K W F n d y) (stN s len c + 1) else 0) ≤ 108
  split
  · exact mN_108 (fun u v _ hv => gsA_8 hW hn u v hv)
  · omega
theorem bwA_up {l c : Nat} (hc : c < 16) (hl : l < 4) (hb : c / 2 ^ l % 2 = 0) : bwA K W F n d s len y c ≤ bwA K W F n d s len y (c + 2 ^ l) := by
  show (if c < 16 then _ else 0) ≤ (if c + 2 ^ l < 16 then _ else 0)
  rw [if_pos hc, if_pos (or_c c hc l hl hb).2]
  exact mN_up _ _ _ (by have := stN_up (s0 := s) (len := len) hc hl hb; first | omega | (dsimp only; omega))
theorem adds_e {l : Nat} (hN : 100000 ≤ N) (B : KB n d s t len) (D : KD mm n d s t K W F len) (hr : r < 6) (hl4 : l < 4) (hy : RX mm r n t y) : ∃ m' m0, fX11_adds N 0 (nI l) (nI r) mm = some (1, m') ∧ Fi (fun k _ => 35 ≤ k ∧ k ≤ 39) mm m' ∧ FQ m0 m' (adN (bwA K W F n d s len y) l 16) 24 := by
  obtain ⟨b1, b2, b3, b4, b5, b6⟩ := B
  obtain ⟨C, hd, hs, ht, hl⟩ := D
  have hst : ∀ c, stN s len c ≤ 28 := fun c => stN_5 b4 b6
  obtain ⟨m1, c1, c2, c3⟩ := run_e (N := N) (d := d) (most := 40) hN b3 (by first | omega | (dsimp only; omega)) (ln_row hr) (by first | omega | (dsimp only; omega)) (by first | omega | (dsimp only; omega)) hy.b C hy.2.1
  have c31 := c3.1
  have hB8 := bwA_8 (K := K) (W := W) (F := F) (n := n) (d := d) (s := s) (len := len) (y := y) (CS_9 C) C.2.1
  have hBc : ∀ c, c < 16 → bwA K W F n d s len y c = mN (gsA K W F n d y) (stN s len c + 1) := fun c hc => if_pos hc
  have hup : ∀ c, c < 16 → c / 2 ^ l % 2 = 0 → bwA K W F n d s len y c ≤ bwA K W F n d s len y (c + 2 ^ l) := fun c hc hb => bwA_up hc hl4 hb
  have hB0 : ∀ c, c < 16 → mN (gsA K W F n d y) (s + 1) ≤ bwA K W F n d s len y c := fun c hc => by
    rw [hBc c hc]
    exact mN_up _ _ _ (by have := stN_ge (s0 := s) (len := len) (c := c); first | omega | (dsimp only; omega))
  have hcl := cadds_l (N := N) (l := l) (B := bwA K W F n d s len y) (mm := m1) hN hl4 hB8 hB0 hup (fun c hc => by
    rw [hBc c hc]
    exact worth_e hN hc (by rw [c2.2 _ _ (by first | omega | (dsimp only; omega))]; exact hs) (hl.c (fun i hi => c2.2 _ _ (by first | omega | (dsimp only; omega)))) (by have := hst c; first | omega | (dsimp only; omega)) c31) 16 0 (by first | omega | (dsimp only; omega)) N (by first | omega | (dsimp only; omega))
  generalize adN (bwA K W F n d s len y) l 16 = A at hcl ⊢
  have F1 : Fi (fun k _ => 35 ≤ k ∧ k ≤ 39) mm m1 := c2.i
  refine ⟨wrL (wrL m1 0 15 (frU A 24)) 0 16 (frL A 24), m1, ?_, F1.fq FQ_mk, FQ_mk⟩
  unfold fX11_adds
  refine st_b (rowOf_t hr) (st_f (nI_pos (by first | omega | (dsimp only; omega))) (st_f (nI_ge (by first | omega | (dsimp only; omega)) (by first | omega | (dsimp only; omega))) (st_c (st_b (isW1 (a := 1) hN hr (by first | omega | (dsimp only; omega)) C.1 (by first | omega | (dsimp only; omega)) ht (by first | omega | (dsimp only; omega)) hy) (st_t rfl ?_)))))
  simp only [LXa, fr_row hr]
  have h15 := hst 15
  refine st_b (cstock_e (set := 15) hN (by first | omega | (dsimp only; omega)) hs hl) (st_t (nI_le (by first | omega | (dsimp only; omega)) (by first | omega | (dsimp only; omega))) ?_)
  rw [hd]
  exact st_b c1 hcl
/-- days gone through -/
abbrev whP (K W F : Nat → Nat) (n s : Nat) (y : Nat → Nat) : Int32 × Int32 := whN (scD n s K W F y) 10 0 (0, -1)
theorem when_e (hN : 100000 ≤ N) (B : KB n d s t len) (D : KD mm n d s t K W F len) (hr : r < 6) (hy : RX mm r n t y) : ∃ m', fX11_when N 0 (nI r) mm = some ((whP K W F n s y).1, m') ∧ Fr (fun k j => (35 ≤ k ∧ k ≤ 39) ∨ (k = 0 ∧ j = 14)) mm m' ∧ rd m' 0 14 = (whP K W F n s y).2 := by
  obtain ⟨b1, b2, b3, b4, b5, b6⟩ := B
  obtain ⟨C, hd, hs, ht, hl⟩ := D
  obtain ⟨m1, c1, c2⟩ := cwhen_l (N := N) (s := s) (q := r) hN (by first | omega | (dsimp only; omega)) hr hy.b 10 0 (0, -1) mm (by first | omega | (dsimp only; omega)) C hs hy.2.1 N (by first | omega | (dsimp only; omega))
  refine ⟨wr m1 0 14 (whP K W F n s y).2, ?_, fr_wr (c2.mono (fun k j e => Or.inl e)) (Or.inr ⟨rfl, rfl⟩), rd_wr_s⟩
  unfold fX11_when
  exact st_b (rowOf_t hr) (st_c (st_b (isW1 (a := 1) hN hr (by first | omega | (dsimp only; omega)) C.1 (by first | omega | (dsimp only; omega)) ht (by first | omega | (dsimp only; omega)) hy) (st_t rfl c1)))
end Ln
