/-! pure: mixed, mix -/
section Mo
variable {N n d t r q : Nat} {K W F x1 x2 : Nat → Nat}
/-- the model's state while it mixes -/
def MX (mm : Mm) (n d t r q : Nat) (K W F x1 x2 : Nat → Nat) : Prop := MS mm n K W F ∧ rd mm 175 13 = nI d ∧ rd mm 183 1 = nI t ∧ (∀ i, i < n → rd mm 178 (40 * r + i) = nI (x1 i)) ∧ ∀ i, i < n → rd mm 178 (40 * q + i) = nI (x2 i)
theorem MX.c {mm m2 : Mm} (h : MX mm n d t r q K W F x1 x2) (f : Fr (fun k _ => (185 ≤ k ∧ k ≤ 187) ∨ k = 190) mm m2) : MX m2 n d t r q K W F x1 x2 := by
  obtain ⟨h1, h2, h3, h4, h5⟩ := h
  exact ⟨MS_c h1 (fun k j e => f.2 _ _ (by first | omega | (dsimp only; omega))), by rw [f.2 _ _ (by first | omega | (dsimp only; omega))]; exact h2, by rw [f.2 _ _ (by first | omega | (dsimp only; omega))]; exact h3, fun i hi => by rw [f.2 _ _ (by first | omega | (dsimp only; omega))]; exact h4 i hi, fun i hi => by rw [f.2 _ _ (by first | omega | (dsimp only; omega))]; exact h5 i hi⟩
/-- the least mean, q times -/
def mxV (n d t : Nat) (K W F x1 x2 : Nat → Nat) (p u : Nat) : Nat := (enm n t 18564 (fun _ => 0)).foldl (mxF (fun y => scr W 0 (wn K F d x1 y) n) (fun y => scr W 0 (wn K F d x2 y) n) p u) 1000000
theorem mmixed_e {mm : Mm} {p u : Nat} (hN : 100000 ≤ N) (hd9 : d ≤ 9) (ht : t ≤ 10) (hr : r < 6) (hq : q < 6) (hp : p ≤ u) (hu : u ≤ 99) (hx1 : ∀ i, i < n → x1 i ≤ 1000) (hx2 : ∀ i, i < n → x2 i ≤ 1000) (h : MX mm n d t r q K W F x1 x2) : ∃ m', fX12_mixedOf N 175 (nI r) (nI q) (nI p) (nI u) mm = some (nI (mxV n d t K W F x1 x2 p u), m') ∧ Fr (fun k _ => (185 ≤ k ∧ k ≤ 187) ∨ k = 190) mm m' := by
  have hn := h.1.2.1
  obtain ⟨ma, a1, a2, a3⟩ := mfirst_e (N := N) (n := n) (mm := mm) hN hn
  obtain ⟨g1, g2, g3, g4, g5⟩ := h.c (a2.mono (fun k j e => by omega))
  have hrk : rkN n t (fun _ => 0) ≤ 18564 := by
    have h1 := rk_cnt (l := fun _ => 0) n 0 t
    have h2 := cnt_12 hn (show t ≤ 12 by omega)
    unfold rkN; omega
  obtain ⟨m', b1, b2⟩ := mmix_l (N := N) (d := d) (S := t) (r := r) (q := q) (p := p) (t := u) hN hd9 (by first | omega | (dsimp only; omega)) hr hq hp hu hx1 hx2 18564 (fun _ => 0) 1000000 ma N hrk (by rw [smN_0]; omega) (by first | omega | (dsimp only; omega)) (by first | omega | (dsimp only; omega)) g1 g2 g3 g4 g5 a3
  refine ⟨m', ?_, (a2.mono (fun k j e => by omega)).tr b2⟩
  unfold fX12_mixedOf
  exact st_b a1 b1
theorem mmix12_l (hN : 100000 ≤ N) (hd9 : d ≤ 9) (ht : t ≤ 10) (hr : r < 6) (hq : q < 6) (hx1 : ∀ i, i < n → x1 i ≤ 1000) (hx2 : ∀ i, i < n → x2 i ≤ 1000) (hV : ∀ p, p ≤ 12 → mxV n d t K W F x1 x2 p 12 ≤ 2000) : ∀ c p b mm, p + c = 13 → b ≤ 12 → MX mm n d t r q K W F x1 x2 → ∀ f, c < f → ∃ m', fX12_mix_38 N f 175 (nI r) (nI q) (nI b) (nI (mxV n d t K W F x1 x2 b 12)) (nI p) mm = some (nI (bpN (fun p => mxV n d t K W F x1 x2 p 12) c p b), wrL (wrL m' 175 3 (frU (mxV n d t K W F x1 x2 (bpN (fun p => mxV n d t K W F x1 x2 p 12) c p b) 12) 12)) 175 4 (frL (mxV n d t K W F x1 x2 (bpN (fun p => mxV n d t K W F x1 x2 p 12) c p b) 12) 12)) ∧ Fr (fun k _ => (185 ≤ k ∧ k ≤ 187) ∨ k = 190) mm m' := by
  intro c
  induction c with
  | zero =>
    intro p b mm hp hb h f hf
    obtain ⟨f, rfl⟩ : ∃ g, f = g + 1 := ⟨f - 1, by omega⟩
    have hv := hV b hb
    refine ⟨mm, ?_, Fr.rf⟩
    unfold fX12_mix_38
    refine st_t (nI_lt (by first | omega | (dsimp only; omega)) (by first | omega | (dsimp only; omega))) ?_
    rw [nI_l (by first | omega | (dsimp only; omega))]
    exact st_b (mfrac_e (w := 12) hN (by first | omega | (dsimp only; omega)) (by first | omega | (dsimp only; omega)) (by first | omega | (dsimp only; omega))) rfl
  | succ c ih =>
    intro p b mm hp hb h f hf
    obtain ⟨f, rfl⟩ : ∃ g, f = g + 1 := ⟨f - 1, by omega⟩
    have hv1 := hV p (by first | omega | (dsimp only; omega))
    have hv2 := hV b hb
    obtain ⟨m1, a1, a2⟩ := mmixed_e (N := N) (p := p) (u := 12) hN hd9 ht hr hq (by first | omega | (dsimp only; omega)) (by first | omega | (dsimp only; omega)) hx1 hx2 h
    have hu : bpN (fun p => mxV n d t K W F x1 x2 p 12) (c + 1) p b = bpN (fun p => mxV n d t K W F x1 x2 p 12) c (p + 1) (if mxV n d t K W F x1 x2 p 12 ≤ mxV n d t K W F x1 x2 b 12 then b else p) := rfl
    rw [hu]
    by_cases hc : mxV n d t K W F x1 x2 p 12 ≤ mxV n d t K W F x1 x2 b 12
    · rw [if_pos hc]
      obtain ⟨m', b1, b2⟩ := ih (p + 1) b m1 (by first | omega | (dsimp only; omega)) hb (h.c a2) f (by first | omega | (dsimp only; omega))
      refine ⟨m', ?_, a2.tr b2⟩
      unfold fX12_mix_38 fX12_mix_71 fX12_mix_87
      simp only [nI_1]
      exact st_f (nI_nlt (by first | omega | (dsimp only; omega)) (by first | omega | (dsimp only; omega))) (st_b a1 (st_t (nI_le hc (by first | omega | (dsimp only; omega))) (st_t (nI_le hc (by first | omega | (dsimp only; omega))) b1)))
    · rw [if_neg hc]
      obtain ⟨m', b1, b2⟩ := ih (p + 1) p m1 (by first | omega | (dsimp only; omega)) (by first | omega | (dsimp only; omega)) (h.c a2) f (by first | omega | (dsimp only; omega))
      refine ⟨m', ?_, a2.tr b2⟩
      unfold fX12_mix_38 fX12_mix_71 fX12_mix_87
      simp only [nI_1]
      exact st_f (nI_nlt (by first | omega | (dsimp only; omega)) (by first | omega | (dsimp only; omega))) (st_b a1 (st_f (nI_ge (by first | omega | (dsimp only; omega)) (by first | omega | (dsimp only; omega))) (st_f (nI_ge (by first | omega | (dsimp only; omega)) (by first | omega | (dsimp only; omega))) b1)))
/-- the class' table of both layings -/
theorem call_e {mm : Mm} (hN : 100000 ≤ N) (hd9 : d ≤ 9) (ht : t ≤ 10) (hr : r < 6) (hq : q < 6) (hx1 : ∀ i, i < n → x1 i ≤ 1000) (hx2 : ∀ i, i < n → x2 i ≤ 1000) (C : CS mm n K W F) (hd : rd mm 3 6 = nI d) (ht' : rd mm 5 1 = nI t) (h1 : HA mm (96 + 2 * r) n x1) (h2 : HA mm (96 + 2 * q) n x2) (h46 : rd mm 46 0 = 0) (h50 : rd mm 50 0 = 0) : ∃ m', fX4_weighAll N 42 3 33 (96 + 2 * r) (96 + 2 * q) mm = some ((), m') ∧ Fr (fun k _ => k = 33 ∨ k = 34 ∨ (43 ≤ k ∧ k ≤ 51)) mm m' ∧ rd m' 46 0 = 0 ∧ rd m' 50 0 = 0 ∧ ∀ u, u < 109 → rd m' 51 u = nI ((enm n t 18564 (fun _ => 0)).foldl (hF (fun y => scr W 0 (wn K F d x1 y) n) (fun y => scr W 0 (wn K F d x2 y) n)) (fun _ => 1000000) u) := by
  have hn := C.2.1
  obtain ⟨ma, a1, a2, a3⟩ := fill_ok (N := N) (k := 51) (v := 1000000) (mm := mm) hN rfl (by decide)
  obtain ⟨mb, b1, b2, b3, b4, b5⟩ := cbegin_e (N := N) (mm := ma) (S := t) hN hn (by first | omega | (dsimp only; omega))
  have hf : Fr (fun k _ => k = 33 ∨ k = 34 ∨ (43 ≤ k ∧ k ≤ 51)) mm mb := (a2.mono (fun k j e => by omega)).tr (b2.mono (fun k j e => by omega))
  have hrk : rkN n t (fun _ => 0) ≤ 18564 := by
    have h1 := rk_cnt (l := fun _ => 0) n 0 t
    have h2 := cnt_12 hn (show t ≤ 12 by omega)
    unfold rkN; omega
  obtain ⟨m', c1, c2, c3, c4, c5⟩ := call_l (N := N) (d := d) (S := t) (r := r) (q := q) (x1 := x1) (x2 := x2) hN hd9 (by first | omega | (dsimp only; omega)) hr hq hx1 hx2 18564 (fun _ => 0) 0 0 (fun _ => 1000000) mb N hrk (by rw [smN_0]; omega) (by first | omega | (dsimp only; omega)) (by first | omega | (dsimp only; omega)) (by first | omega | (dsimp only; omega)) (CS_c C (fun k j e => hf.2 _ _ (by first | omega | (dsimp only; omega)))) (by rw [hf.2 _ _ (by first | omega | (dsimp only; omega))]; exact hd) (h1.c (fun j hj => hf.2 _ _ (by first | omega | (dsimp only; omega)))) (h2.c (fun j hj => hf.2 _ _ (by first | omega | (dsimp only; omega)))) b3 b4 (by rw [smN_0]; exact b5) (SW_0 (by rw [b2.2 _ _ (by first | omega | (dsimp only; omega)), a2.2 _ _ (by first | omega | (dsimp only; omega))]; exact h46)) (SW_0 (by rw [b2.2 _ _ (by first | omega | (dsimp only; omega)), a2.2 _ _ (by first | omega | (dsimp only; omega))]; exact h50)) (fun u hu => by rw [b2.2 _ _ (by first | omega | (dsimp only; omega))]; exact a3 u hu) (fun u => Nat.le_refl _)
  refine ⟨m', ?_, hf.tr c2, c3, c4, c5⟩
  unfold fX4_weighAll
  simp only [LXa, LXb]
  refine st_b a1 (st_g (by decide) ?_)
  rw [show ((1 : Int32).toNatClampNeg) = 1 from rfl, a2.2 3 5 (by first | omega | (dsimp only; omega)), C.1, a2.2 5 1 (by first | omega | (dsimp only; omega)), ht']
  exact st_b b1 c1
end Mo
theorem tooMuch_t {N n s t a : Nat} {mm : Mm} (ha : a ≤ 1) (hs : rd mm 5 a = nI s) (hs40 : s ≤ 40) (hn : rd mm 3 5 = nI n) (hn6 : n ≤ 6) (h : ¬ (s ≤ 10 ∧ n ≤ 4)) : fX11_isTooMuch N 0 (nI a) mm = some (1, mm) := by
  unfold fX11_isTooMuch
  simp only [LXa, nI_nat (show a < 2147483648 by omega)]
  refine st_k rfl (by first | omega | (dsimp only; omega)) (by first | omega | (dsimp only; omega)) ?_
  rw [hs, hn]
  by_cases h10 : s ≤ 10
  · exact st_f (nI_nlt (by first | omega | (dsimp only; omega)) (by first | omega | (dsimp only; omega))) (st_f (nI_ge (by first | omega | (dsimp only; omega)) (by first | omega | (dsimp only; omega))) rfl)
  · exact st_t (nI_lt (by first | omega | (dsimp only; omega)) (by first | omega | (dsimp only; omega))) rfl
theorem tooMuch_f {N n s a : Nat} {mm : Mm} (ha : a ≤ 1) (hs : rd mm 5 a = nI s) (hn : rd mm 3 5 = nI n) (h : s ≤ 10 ∧ n ≤ 4) : fX11_isTooMuch N 0 (nI a) mm = some (0, mm) := by
  unfold fX11_isTooMuch
  simp only [LXa, nI_nat (show a < 2147483648 by omega)]
  refine st_k rfl (by first | omega | (dsimp only; omega)) (by first | omega | (dsimp only; omega)) ?_
  rw [hs, hn]
  exact st_f (nI_nlt (by first | omega | (dsimp only; omega)) (by first | omega | (dsimp only; omega))) (st_t (nI_le (by first | omega | (dsimp only; omega)) (by first | omega | (dsimp only; omega))) rfl)
theorem askedMixed_e {N n t : Nat} {a b : Int32} {mm : Mm} (ht : rd mm 183 1 = nI t) (ht40 : t ≤ 40) (hn : rd mm 175 10 = nI n) (hn6 : n ≤ 6) : (¬ (t ≤ 10 ∧ n ≤ 4) → fX12_askedMixed N 175 a b mm = some (-6, mm)) ∧ ((t ≤ 10 ∧ n ≤ 4) → ∀ x m', fX12_askedTwo N 175 a 0 b 0 mm = some (x, m') → fX12_askedMixed N 175 a b mm = some (x, m')) := by
  unfold fX12_askedMixed
  simp only [LXm]
  rw [show ((1 : Int32).toNatClampNeg) = 1 from rfl, ht, hn]
  constructor
  · intro h
    refine st_g (by decide) ?_
    by_cases h10 : t ≤ 10
    · exact st_f (nI_nlt (by first | omega | (dsimp only; omega)) (by first | omega | (dsimp only; omega))) (st_f (nI_ge (by first | omega | (dsimp only; omega)) (by first | omega | (dsimp only; omega))) rfl)
    · exact st_t (nI_lt (by first | omega | (dsimp only; omega)) (by first | omega | (dsimp only; omega))) rfl
  · intro h x m' e
    exact st_g (by decide) (st_f (nI_nlt (by first | omega | (dsimp only; omega)) (by first | omega | (dsimp only; omega))) (st_t (nI_le (by first | omega | (dsimp only; omega)) (by first | omega | (dsimp only; omega))) (st_b e rfl)))
/-- what both mixing calls share -/
theorem mix_pre {N : Nat} {mm : Mm} (hN : 100000 ≤ N) (h : Rel mm) {r q : Nat} (hr : r < 6) (hq : q < 6) :
    (fX11_isTooMuch N 0 1 mm = some (1, mm) ∧ ∀ m1, MA mm m1 → fX12_askedMixed N 175 (nI r) (nI q) m1 = some (-6, m1)) ∨
    (fX11_isTooMuch N 0 1 mm = some (0, mm) ∧ ((∃ f, f < 6 ∧ fX11_isWrong_ N 0 (95 + 2 * r) 0 (95 + 2 * q) 0 mm = some (1, cRef f mm) ∧ ∀ m1, MA mm m1 → fX12_askedMixed N 175 (nI r) (nI q) m1 = some (-3, mMeet f m1)) ∨
      (fX11_isWrong_ N 0 (95 + 2 * r) 0 (95 + 2 * q) 0 mm = some (0, mm) ∧ (∀ m1, MA mm m1 → fX12_askedMixed N 175 (nI r) (nI q) m1 = some (0, m1)) ∧ ∃ (n d t : Nat) (K W F x1 x2 : Nat → Nat), d ≤ 9 ∧ t ≤ 10 ∧ n ≤ 6 ∧ (∀ i, i < n → W i ≤ 9) ∧ (∀ i, i < n → x1 i ≤ 1000) ∧ (∀ i, i < n → x2 i ≤ 1000) ∧ (∀ m1, MA mm m1 → MX m1 n d t r q K W F x1 x2) ∧ ∃ m1, fX4_weighAll N 42 3 33 (96 + 2 * r) (96 + 2 * q) mm = some ((), m1) ∧ Fr (fun k _ => k = 33 ∨ k = 34 ∨ (43 ≤ k ∧ k ≤ 51)) mm m1 ∧ rd m1 46 0 = 0 ∧ rd m1 50 0 = 0 ∧ ∀ u, u < 109 → rd m1 51 u = nI ((enm n t 18564 (fun _ => 0)).foldl (hF (fun y => scr W 0 (wn K F d x1 y) n) (fun y => scr W 0 (wn K F d x2 y) n)) (fun _ => 1000000) u)))) := by
  obtain ⟨n, K, W, F, d, s, t, C, M, hd, hd', hd9, hs, hs', hs40, ht, ht', ht40⟩ := Rel_data h
  have hn := C.2.1
  have hask := fun m1 (A : MA mm m1) => askedMixed_e (N := N) (a := nI r) (b := nI q) (mm := m1) (n := n) (t := t) (by rw [A _ _ (by first | omega | (dsimp only; omega))]; exact ht') ht40 (by rw [A _ _ (by first | omega | (dsimp only; omega))]; exact M.1) hn
  by_cases htm : t ≤ 10 ∧ n ≤ 4
  rotate_left
  · exact Or.inl ⟨tooMuch_t (t := t) (a := 1) (by first | omega | (dsimp only; omega)) ht ht40 C.1 hn htm, fun m1 A => (hask m1 A).1 htm⟩
  refine Or.inr ⟨tooMuch_f (a := 1) (by first | omega | (dsimp only; omega)) ht C.1 htm, ?_⟩
  rcases two_e (a := 0) (b := 0) hN h C M hr hq (by first | omega | (dsimp only; omega)) (by first | omega | (dsimp only; omega)) hs hs' hs40 hs hs' hs40 with ⟨f, hf, e1, e2⟩ | ⟨e1, z1, z2, z3, z4, L1, L2, v1, v2, e2⟩
  · exact Or.inl ⟨f, hf, e1, fun m1 A => (hask m1 A).2 htm _ _ (e2 m1 A)⟩
  · obtain ⟨p1, p2⟩ := lay_n L1
    obtain ⟨y1, y2⟩ := lay_n L2
    generalize lO (fun j => rd mm (96 + 2 * r) j) = x1 at p1 p2
    generalize lO (fun j => rd mm (96 + 2 * q) j) = x2 at y1 y2
    have x11 : HA mm (96 + 2 * r) n x1 := p1
    have x21 : HA mm (96 + 2 * q) n x2 := y1
    have x13 : ∀ i, i < n → x1 i ≤ 1000 := fun i hi => by have := p2 i hi; omega
    have x23 : ∀ i, i < n → x2 i ≤ 1000 := fun i hi => by have := y2 i hi; omega
    refine Or.inr ⟨e1, fun m1 A => (hask m1 A).2 htm _ _ (e2 m1 A), n, d, t, K, W, F, x1, x2, hd9, htm.1, hn, fun i hi => (C.2.2 i hi).2.2.2.1, x13, x23, fun m1 A => ⟨A.ms M, by rw [A _ _ (by first | omega | (dsimp only; omega))]; exact hd', by rw [A _ _ (by first | omega | (dsimp only; omega))]; exact ht', fun i hi => by rw [A _ _ (by first | omega | (dsimp only; omega)), ← v1 i hi]; exact p1 i hi, fun i hi => by rw [A _ _ (by first | omega | (dsimp only; omega)), ← v2 i hi]; exact y1 i hi⟩, ?_⟩
    exact call_e hN hd9 htm.1 hr hq x13 x23 C hd ht x11 x21 h.2.2.2.2.1.2.1 h.2.2.2.2.1.2.2.1
/-- Rel after a call that mixes -/
theorem Rel_mix {mm m1 mc : Mm} {A B : Int64} (h : Rel mm) (f1 : Fr (fun k _ => k = 33 ∨ k = 34 ∨ (43 ≤ k ∧ k ≤ 51)) mm m1) (h46 : rd m1 46 0 = 0) (h50 : rd m1 50 0 = 0) (f2 : Fr (fun k _ => (185 ≤ k ∧ k ≤ 187) ∨ k = 190) (wrL (wrL m1 0 15 A) 0 16 B) mc) : Rel (wrL (wrL mc 175 3 A) 175 4 B) := by
  have hk : ∀ k j, ¬ (k = 33 ∨ k = 34 ∨ (43 ≤ k ∧ k ≤ 51) ∨ (185 ≤ k ∧ k ≤ 187) ∨ k = 190) → rd (wrL (wrL mc 175 3 A) 175 4 B) k j = rd mm k j := fun k j hk => by
    rw [rd_wrL, rd_wrL, f2.2 _ _ (by first | omega | (dsimp only; omega)), rd_wrL, rd_wrL, f1.2 _ _ (by first | omega | (dsimp only; omega))]
  refine Rel_g0 (r := 6) h (fun k j q => hk k j (fun w => q ?_)) ?_ (RF_fr h.2.2.2.1 (fun k j e => hk k j (by first | omega | (dsimp only; omega))) ?_ ?_) (RR_c h.1 (fun k j e => hk k j (by first | omega | (dsimp only; omega))))
  · by_cases hk2 : k ≤ 93
    · exact Or.inl (by unfold ScC; omega)
    · exact Or.inr (Or.inl (by unfold ScM; omega))
  · obtain ⟨q1, q2, q3, q4, q5⟩ := h.2.2.2.2.1
    refine ⟨by rw [hk _ _ (by first | omega | (dsimp only; omega))]; exact q1, ?_, ?_, by rw [hk _ _ (by first | omega | (dsimp only; omega))]; exact q4, fun w hw => by rw [hk _ _ (by first | omega | (dsimp only; omega))]; exact q5 w hw⟩
    · rw [rd_wrL, rd_wrL, f2.2 _ _ (by first | omega | (dsimp only; omega)), rd_wrL, rd_wrL]; exact h46
    · rw [rd_wrL, rd_wrL, f2.2 _ _ (by first | omega | (dsimp only; omega)), rd_wrL, rd_wrL]; exact h50
  · have e1 : rdL mc 0 15 = A := by
      rw [f2.L, rdL_wrL, if_neg (by first | omega | (dsimp only; omega)), rdL_wrL, if_pos ⟨rfl, rfl⟩]
    rw [rdL_wrL, if_neg (by first | omega | (dsimp only; omega)), rdL_wrL, if_pos ⟨rfl, rfl⟩, rdL_wrL, if_neg (by first | omega | (dsimp only; omega)), rdL_wrL, if_neg (by first | omega | (dsimp only; omega)), e1]
  · have e1 : rdL mc 0 16 = B := by
      rw [f2.L, rdL_wrL, if_pos ⟨rfl, rfl⟩]
    rw [rdL_wrL, if_pos ⟨rfl, rfl⟩, rdL_wrL, if_neg (by first | omega | (dsimp only; omega)), rdL_wrL, if_neg (by first | omega | (dsimp only; omega)), e1]
/-- the table's numbers -/
theorem hF_b {S1 S2 : (Nat → Nat) → Nat} {xs : List (Nat → Nat)} (h2 : ∀ l, S2 l ≤ 108) : ∀ u, u < 109 → xs.foldl (hF S1 S2) (fun _ => 1000000) u ≤ 1000000 ∧ (xs.foldl (hF S1 S2) (fun _ => 1000000) u < 1000000 → xs.foldl (hF S1 S2) (fun _ => 1000000) u ≤ 108) := by
  have hH := hF_p (S1 := S1) (S2 := S2) xs [] (fun _ => 1000000) (fun u => ⟨Nat.le_refl _, fun w => absurd w (by first | omega | (dsimp only; omega)), fun l hl => (by cases hl)⟩)
  intro u _
  obtain ⟨a, b, -⟩ := hH u
  refine ⟨a, fun w => ?_⟩
  obtain ⟨l, -, -, l3⟩ := b w
  rw [← l3]
  exact h2 l
theorem ok_21 {N : Nat} (hN : 100000 ≤ N) : OK_21 N Rel := by
  intro a1 a2 a3 a4 mm h
  rcases rng a1 6 with ⟨r, hr, -, rfl⟩ | hb
  rotate_left
  · refine ⟨-1, mm, mm, ?_, ?_, h⟩
    · unfold fX11_mixed
      refine st_b (rowOf_n hb) ?_
      rcases rng a2 6 with ⟨q, hq, -, rfl⟩ | hb3
      · exact st_b (rowOf_t hq) (st_c0 rfl)
      · exact st_b (rowOf_n hb3) (st_c0 rfl)
    · unfold fX12_mixed
      exact st_b (isRow_n hb) (st_t rfl rfl)
  rcases rng a2 6 with ⟨q, hq, -, rfl⟩ | hb
  rotate_left
  · refine ⟨-1, mm, mm, ?_, ?_, h⟩
    · unfold fX11_mixed
      exact st_b (rowOf_t hr) (st_b (rowOf_n hb) (st_c (st_c0 rfl)))
    · unfold fX12_mixed
      exact st_b (isRow_t hr) (st_f (by decide) (st_b (isRow_n hb) (st_t rfl rfl)))
  by_cases hu1 : a4 < 1
  · refine ⟨-1, mm, mm, ?_, ?_, h⟩
    · unfold fX11_mixed
      exact st_b (rowOf_t hr) (st_b (rowOf_t hq) (st_c (st_c (st_t hu1 rfl))))
    · unfold fX12_mixed
      exact st_b (isRow_t hr) (st_f (by decide) (st_b (isRow_t hq) (st_f (by decide) (st_b (in_f (Or.inl hu1)) (st_t rfl rfl)))))
  rcases rng a4 100 with ⟨u, hu, -, rfl⟩ | hb
  rotate_left
  · rcases hb with hb | ⟨j, h1, h2, rfl⟩
    · exact absurd (by rw [i_lt] at hb ⊢; have : (1 : Int32).toInt = 1 := rfl; have : (0 : Int32).toInt = 0 := rfl; omega) hu1
    · refine ⟨-1, mm, mm, ?_, ?_, h⟩
      · unfold fX11_mixed
        exact st_b (rowOf_t hr) (st_b (rowOf_t hq) (st_c (st_c (st_f hu1 (st_t (nI_lt (by first | omega | (dsimp only; omega)) h2) rfl)))))
      · unfold fX12_mixed
        exact st_b (isRow_t hr) (st_f (by decide) (st_b (isRow_t hq) (st_f (by decide) (st_b (in_f (Or.inr (nI_lt (by first | omega | (dsimp only; omega)) h2))) (st_t rfl rfl)))))
  have hu0 : 1 ≤ u := by
    rcases Nat.eq_zero_or_pos u with hz | hz
    · subst hz; exact absurd (by decide) hu1
    · exact hz
  rcases rng a3 (u + 1) with ⟨p, hp, -, rfl⟩ | hb
  rotate_left
  · refine ⟨-1, mm, mm, ?_, ?_, h⟩
    · unfold fX11_mixed
      refine st_b (rowOf_t hr) (st_b (rowOf_t hq) (st_c (st_c (st_f hu1 (st_f (nI_nlt (by first | omega | (dsimp only; omega)) (by first | omega | (dsimp only; omega))) ?_)))))
      rcases hb with hb | ⟨j, h1, h2, rfl⟩
      · exact st_t hb rfl
      · exact st_f (nI_pos h2) (st_f (nI_ge (by first | omega | (dsimp only; omega)) h2) rfl)
    · unfold fX12_mixed
      refine st_b (isRow_t hr) (st_f (by decide) (st_b (isRow_t hq) (st_f (by decide) (st_b (in_t hu1 (nI_nlt (by first | omega | (dsimp only; omega)) (by first | omega | (dsimp only; omega)))) (st_f (by decide) ?_)))))
      rcases hb with hb | ⟨j, h1, h2, rfl⟩
      · exact st_b (in_f (Or.inl hb)) (st_t rfl rfl)
      · exact st_b (in_f (Or.inr (nI_lt (by first | omega | (dsimp only; omega)) h2))) (st_t rfl rfl)
  have cst : ∀ R, (bd2 (fX11_isTooMuch N 0 1 mm) fun x15 m16 => if x15 = 0 then (bd2 (fX11_isWrong_ N 0 (95 + 2 * r) 0 (95 + 2 * q) 0 m16) fun x19 m20 => if x19 = 0 then (bd2 (fX4_weighAll N 42 3 33 (96 + 2 * r) (96 + 2 * q) m20) fun x23 m24 => bd2 (fX4_leastBy N 42 (nI p) (nI u) m24) fun x26 m27 => bd2 (fX11_fraction N 0 x26.toInt64 (nI u).toInt64 m27) fun x29 m30 => some (1, m30)) else (some ((-3), m20))) else (some ((-6), m16))) = R → fX11_mixed N 0 (nI r) (nI q) (nI p) (nI u) mm = R := by
    intro R hR
    unfold fX11_mixed
    simp only [LXa, fr_row hr, fr_row hq]
    refine st_b (rowOf_t hr) (st_b (rowOf_t hq) (st_c (st_c (st_f hu1 (st_f (nI_nlt (by first | omega | (dsimp only; omega)) (by first | omega | (dsimp only; omega))) (st_f (nI_pos (by first | omega | (dsimp only; omega))) (st_t (nI_le (by first | omega | (dsimp only; omega)) (by first | omega | (dsimp only; omega))) ?_)))))))
    rw [fr_row hr, fr_row hq]
    exact hR
  have mst : ∀ m1 R, (bd2 (fX12_askedMixed N 175 (nI r) (nI q) m1) fun x17 m18 => if (0 : Int32) ≤ x17 then (bd2 (fX12_mixedOf N 175 (nI r) (nI q) (nI p) (nI u) m18) fun x21 m22 => bd2 (fX12_part N 175 x21.toInt64 (nI u).toInt64 1 m22) fun x24 m25 => some (x24, m25)) else (some (x17, m18))) = R → fX12_mixed N 175 (nI r) (nI q) (nI p) (nI u) m1 = R := by
    intro m1 R hR
    unfold fX12_mixed
    exact st_b (isRow_t hr) (st_f (by decide) (st_b (isRow_t hq) (st_f (by decide) (st_b (in_t hu1 (nI_nlt (by first | omega | (dsimp only; omega)) (by first | omega | (dsimp only; omega)))) (st_f (by decide) (st_b (in_t (nI_pos (by first | omega | (dsimp only; omega))) (nI_nlt (by first | omega | (dsimp only; omega)) (by first | omega | (dsimp only; omega)))) (st_f (by decide) hR)))))))
  rcases mix_pre hN h hr hq with ⟨e1, e2⟩ | ⟨e0, ⟨f, hf, e1, e2⟩ | ⟨e1, e2, n, d, t, K, W, F, x1, x2, hd9, ht10, hn6, hW, x13, x23, hMX, m1, c1, c2, c3, c4, c5⟩⟩
  · exact ⟨-6, mm, mm, cst _ (st_b e1 (st_f (by decide) rfl)), mst _ _ (st_b (e2 _ (fun _ _ _ => rfl)) (st_f (by decide) rfl)), h⟩
  · exact ⟨-3, cRef f mm, mMeet f (cRef f mm), cst _ (st_b e0 (st_t rfl (st_b e1 (st_f (by decide) rfl)))), mst _ _ (st_b (e2 _ (fun k j hk => rd_cRef (by first | omega | (dsimp only; omega)) (by first | omega | (dsimp only; omega)))) (st_f (by decide) rfl)), rel_ref h hf⟩
  · have hs1 : ∀ y, scr W 0 (wn K F d x1 y) n ≤ 108 := fun y => scr_b hW hn6
    have hs2 : ∀ y, scr W 0 (wn K F d x2 y) n ≤ 108 := fun y => scr_b hW hn6
    have hb6 := hF_b (S1 := fun y => scr W 0 (wn K F d x1 y) n) (S2 := fun y => scr W 0 (wn K F d x2 y) n) (xs := enm n t 18564 (fun _ => 0)) hs2
    have hle := cleast_e (N := N) (p := p) (t := u) hN (by first | omega | (dsimp only; omega)) (by first | omega | (dsimp only; omega)) c5 hb6
    rw [mix_same (p := p) (q := u) hs1 hs2] at hle
    have hV : mxV n d t K W F x1 x2 p u ≤ 10692 := by
      have := mx_b (p := p) (q := u) (xs := enm n t 18564 (fun _ => 0)) hs1 hs2 (by first | omega | (dsimp only; omega)) enm_ne
      unfold mxV
      omega
    have hle' : fX4_leastBy N 42 (nI p) (nI u) m1 = some (nI (mxV n d t K W F x1 x2 p u), m1) := hle
    generalize hVV : mxV n d t K W F x1 x2 p u = V at hV hle'
    have hA : MA mm (wrL (wrL m1 0 15 (frU V u)) 0 16 (frL V u)) := fun k j hk => c2.2 _ _ (by first | omega | (dsimp only; omega))
    obtain ⟨mc, p1, p2⟩ := mmixed_e (N := N) (p := p) (u := u) hN hd9 ht10 hr hq (by first | omega | (dsimp only; omega)) (by first | omega | (dsimp only; omega)) x13 x23 (hMX _ hA)
    rw [hVV] at p1
    refine ⟨1, wrL (wrL m1 0 15 (frU V u)) 0 16 (frL V u), wrL (wrL mc 175 3 (frU V u)) 175 4 (frL V u), cst _ (st_b e0 (st_t rfl (st_b e1 (st_t rfl (st_b c1 (st_b hle' ?_)))))), mst _ _ (st_b (e2 _ hA) (st_t (by decide) (st_b p1 ?_))), Rel_mix h c2 c3 c4 p2⟩
    · rw [nI_l (by first | omega | (dsimp only; omega)), nI_l (by first | omega | (dsimp only; omega))]
      exact st_b (cfrac_e hN (by first | omega | (dsimp only; omega)) (by first | omega | (dsimp only; omega)) (by first | omega | (dsimp only; omega))) rfl
    · rw [nI_l (by first | omega | (dsimp only; omega)), nI_l (by first | omega | (dsimp only; omega))]
      exact st_b (mfrac_e hN (by first | omega | (dsimp only; omega)) (by first | omega | (dsimp only; omega)) (by first | omega | (dsimp only; omega))) rfl
theorem bpN_c {V U : Nat → Nat} (h : ∀ p, V p = U p) : ∀ c p b, bpN V c p b = bpN U c p b := by
  have : V = U := funext h
  intro c p b
  rw [this]
theorem ok_22 {N : Nat} (hN : 100000 ≤ N) : OK_22 N Rel := by
  intro a1 a2 mm h
  rcases rng a1 6 with ⟨r, hr, -, rfl⟩ | hb
  rotate_left
  · refine ⟨-1, mm, mm, ?_, ?_, h⟩
    · unfold fX11_mix
      refine st_b (rowOf_n hb) ?_
      rcases rng a2 6 with ⟨q, hq, -, rfl⟩ | hb3
      · exact st_b (rowOf_t hq) (st_c0 rfl)
      · exact st_b (rowOf_n hb3) (st_c0 rfl)
    · unfold fX12_mix
      exact st_b (isRow_n hb) (st_t rfl rfl)
  rcases rng a2 6 with ⟨q, hq, -, rfl⟩ | hb
  rotate_left
  · refine ⟨-1, mm, mm, ?_, ?_, h⟩
    · unfold fX11_mix
      exact st_b (rowOf_t hr) (st_b (rowOf_n hb) (st_c (st_c0 rfl)))
    · unfold fX12_mix
      exact st_b (isRow_t hr) (st_f (by decide) (st_b (isRow_n hb) (st_t rfl rfl)))
  have cst : ∀ R, (bd2 (fX11_isTooMuch N 0 1 mm) fun x11 m12 => if x11 = 0 then (bd2 (fX11_isWrong_ N 0 (95 + 2 * r) 0 (95 + 2 * q) 0 m12) fun x15 m16 => if x15 = 0 then (bd2 (fX4_weighAll N 42 3 33 (96 + 2 * r) (96 + 2 * q) m16) fun x19 m20 => bd2 (fX4_bestParts N 42 m20) fun x22 m23 => bd2 (fX4_leastBy N 42 x22 12 m23) fun x25 m26 => bd2 (fX11_fraction N 0 x25.toInt64 12 m26) fun x28 m29 => some (x22, m29)) else (some ((-3), m16))) else (some ((-6), m12))) = R → fX11_mix N 0 (nI r) (nI q) mm = R := by
    intro R hR
    unfold fX11_mix
    simp only [LXa]
    refine st_b (rowOf_t hr) (st_b (rowOf_t hq) (st_c (st_c ?_)))
    rw [fr_row hr, fr_row hq]
    exact hR
  have mst : ∀ m1 R, (bd2 (fX12_askedMixed N 175 (nI r) (nI q) m1) fun x18 m19 => if (0 : Int32) ≤ x18 then (fX12_mix_38 N N 175 (nI r) (nI q) 0 (-1) 0 m19) else (some (x18, m19))) = R → fX12_mix N 175 (nI r) (nI q) m1 = R := by
    intro m1 R hR
    unfold fX12_mix
    exact st_b (isRow_t hr) (st_f (by decide) (st_b (isRow_t hq) (st_f (by decide) hR)))
  rcases mix_pre hN h hr hq with ⟨e1, e2⟩ | ⟨e0, ⟨f, hf, e1, e2⟩ | ⟨e1, e2, n, d, t, K, W, F, x1, x2, hd9, ht10, hn6, hW, x13, x23, hMX, m1, c1, c2, c3, c4, c5⟩⟩
  · exact ⟨-6, mm, mm, cst _ (st_b e1 (st_f (by decide) rfl)), mst _ _ (st_b (e2 _ (fun _ _ _ => rfl)) (st_f (by decide) rfl)), h⟩
  · exact ⟨-3, cRef f mm, mMeet f (cRef f mm), cst _ (st_b e0 (st_t rfl (st_b e1 (st_f (by decide) rfl)))), mst _ _ (st_b (e2 _ (fun k j hk => rd_cRef (by first | omega | (dsimp only; omega)) (by first | omega | (dsimp only; omega)))) (st_f (by decide) rfl)), rel_ref h hf⟩
  · have hs1 : ∀ y, scr W 0 (wn K F d x1 y) n ≤ 108 := fun y => scr_b hW hn6
    have hs2 : ∀ y, scr W 0 (wn K F d x2 y) n ≤ 108 := fun y => scr_b hW hn6
    have hb6 := hF_b (S1 := fun y => scr W 0 (wn K F d x1 y) n) (S2 := fun y => scr W 0 (wn K F d x2 y) n) (xs := enm n t 18564 (fun _ => 0)) hs2
    have hsame : ∀ p, lbN p 12 ((enm n t 18564 (fun _ => 0)).foldl (hF (fun y => scr W 0 (wn K F d x1 y) n) (fun y => scr W 0 (wn K F d x2 y) n)) (fun _ => 1000000)) 109 = mxV n d t K W F x1 x2 p 12 := fun p => mix_same (p := p) (q := 12) hs1 hs2
    have hV : ∀ p, p ≤ 12 → mxV n d t K W F x1 x2 p 12 ≤ 2000 := fun p hp => by
      have := mx_b (p := p) (q := 12) (xs := enm n t 18564 (fun _ => 0)) hs1 hs2 hp enm_ne
      unfold mxV
      omega
    have hbp := cparts_l (N := N) hN c5 hb6 12 1 0 (by first | omega | (dsimp only; omega)) (by first | omega | (dsimp only; omega)) N (by first | omega | (dsimp only; omega))
    rw [bpN_c hsame] at hbp
    have hP12 := bpN_12 (V := fun p => mxV n d t K W F x1 x2 p 12) 12 1 0 (by first | omega | (dsimp only; omega)) (by first | omega | (dsimp only; omega))
    have hle := cleast_e (N := N) (p := bpN (fun p => mxV n d t K W F x1 x2 p 12) 12 1 0) (t := 12) hN hP12 (by first | omega | (dsimp only; omega)) c5 hb6
    rw [hsame] at hle
    have hmod := fun mb (hb : MX mb n d t r q K W F x1 x2) f (hf : 12 < f) => mmix12_l (N := N) hN hd9 ht10 hr hq x13 x23 hV 12 1 0 mb (by first | omega | (dsimp only; omega)) (by first | omega | (dsimp only; omega)) hb f hf
    generalize hP : bpN (fun p => mxV n d t K W F x1 x2 p 12) 12 1 0 = P at hbp hP12 hle hmod
    have hVP := hV P hP12
    have hA : MA mm (wrL (wrL m1 0 15 (frU (mxV n d t K W F x1 x2 P 12) 12)) 0 16 (frL (mxV n d t K W F x1 x2 P 12) 12)) := fun k j hk => c2.2 _ _ (by first | omega | (dsimp only; omega))
    obtain ⟨mb, o1, o2⟩ := mmixed_e (N := N) (p := 0) (u := 12) hN hd9 ht10 hr hq (by first | omega | (dsimp only; omega)) (by first | omega | (dsimp only; omega)) x13 x23 (hMX _ hA)
    obtain ⟨N', rfl⟩ : ∃ N', N = N' + 1 := ⟨N - 1, by omega⟩
    obtain ⟨mc, p1, p2⟩ := hmod mb ((hMX _ hA).c o2) N' (by first | omega | (dsimp only; omega))
    refine ⟨nI P, wrL (wrL m1 0 15 (frU (mxV n d t K W F x1 x2 P 12) 12)) 0 16 (frL (mxV n d t K W F x1 x2 P 12) 12), wrL (wrL mc 175 3 (frU (mxV n d t K W F x1 x2 P 12) 12)) 175 4 (frL (mxV n d t K W F x1 x2 P 12) 12), cst _ (st_b e0 (st_t rfl (st_b e1 (st_t rfl (st_b c1 (st_b hbp (st_b hle ?_))))))), mst _ _ (st_b (e2 _ hA) (st_t (by decide) ?_)), Rel_mix h c2 c3 c4 (o2.tr p2)⟩
    · rw [nI_l (by first | omega | (dsimp only; omega))]
      exact st_b (cfrac_e (w := 12) hN (by first | omega | (dsimp only; omega)) (by first | omega | (dsimp only; omega)) (by first | omega | (dsimp only; omega))) rfl
    · have hv0 := hV 0 (by first | omega | (dsimp only; omega))
      unfold fX12_mix_38 fX12_mix_71 fX12_mix_87
      have hn1 : ¬ nI (mxV n d t K W F x1 x2 0 12) ≤ -1 := by
        rw [i_le, nI_toInt (by first | omega | (dsimp only; omega))]
        have : (-1 : Int32).toInt = -1 := rfl
        omega
      exact st_f (by decide) (st_b o1 (st_f hn1 (st_f hn1 p1)))
