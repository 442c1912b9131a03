/-! picked out of 71.mixed -/
section Mo
variable {N n d t r q : Nat} {K W F x1 x2 : Nat → Nat}
/-- the least mean, q times -/
def mxV (n d t : Nat) (K W F x1 x2 : Nat → Nat) (p u : Nat) : Nat := (enm n t 18564 (fun _ => 0)).foldl (mxF (fun y => scr W 0 (wn K F d x1 y) n) (fun y => scr W 0 (wn K F d x2 y) n) p u) 1000000
/-- the class' table of both layings -/
theorem call_e {mm : Mm} (hN : 100000 ≤ N) (hd9 : d ≤ 9) (ht : t ≤ 10) (hr : r < 6) (hq : q < 6) (hx1 : ∀ i, i < n → x1 i ≤ 1000) (hx2 : ∀ i, i < n → x2 i ≤ 1000) (C : CS mm n K W F) (hd : rd mm 3 6 = nI d) (ht' : rd mm 5 1 = nI t) (h1 : HA mm (96 + 2 * r) n x1) (h2 : HA mm (96 + 2 * q) n x2) (h46 : rd mm 46 0 = 0) (h50 : rd mm 50 0 = 0) : ∃ m', fX4_weighAll N 42 3 33 (96 + 2 * r) (96 + 2 * q) mm = some ((), m') ∧ Fr (fun k _ => k = 33 ∨ k = 34 ∨ (43 ≤ k ∧ k ≤ 51)) mm m' ∧ rd m' 46 0 = 0 ∧ rd m' 50 0 = 0 ∧ ∀ u, u < 109 → rd m' 51 u = nI ((enm n t 18564 (fun _ => 0)).foldl (hF (fun y => scr W 0 (wn K F d x1 y) n) (fun y => scr W 0 (wn K F d x2 y) n)) (fun _ => 1000000) u) := by
  have hn := C.2.1
  obtain ⟨ma, a1, a2, a3⟩ := fill_ok (N := N) (k := 51) (v := 1000000) (mm := mm) hN rfl (by decide)
  obtain ⟨mb, b1, b2, b3, b4, b5⟩ := cbegin_e (N := N) (mm := ma) (S := t) hN hn (by first | omega | (dsimp only; omega))
  have hf : Fr (fun k _ => k = 33 ∨ k = 34 ∨ (43 ≤ k ∧ k ≤ 51)) mm mb := (a2.mono (fun k j e => by omega)).tr (b2.mono (fun k j e => by omega))
  have hrk : rkN n t (fun _ => 0) ≤ 18564 := by
    have h1 := rk_cnt (l := fun _ => 0) n 0 t
    have h2 := cnt_12 hn (show t ≤ 12 by omega)
    unfold rkN; omega
  obtain ⟨m', c1, c2, c3, c4, c5⟩ := call_l (N := N) (d := d) (S := t) (r := r) (q := q) (x1 := x1) (x2 := x2) hN hd9 (by first | omega | (dsimp only; omega)) hr hq hx1 hx2 18564 (fun _ => 0) 0 0 (fun _ => 1000000) mb N hrk (by rw [smN_0]; omega) (by first | omega | (dsimp only; omega)) (by first | omega | (dsimp only; omega)) (by first | omega | (dsimp only; omega)) (CS_c C (fun k j e => hf.2 _ _ (by first | omega | (dsimp only; omega)))) (by rw [hf.2 _ _ (by first | omega | (dsimp only; omega))]; exact hd) (h1.c (fun j hj => hf.2 _ _ (by first | omega | (dsimp only; omega)))) (h2.c (fun j hj => hf.2 _ _ (by first | omega | (dsimp only; omega)))) b3 b4 (by rw [smN_0]; exact b5) (SW_0 (by rw [b2.2 _ _ (by first | omega | (dsimp only; omega)), a2.2 _ _ (by first | omega | (dsimp only; omega))]; exact h46)) (SW_0 (by rw [b2.2 _ _ (by first | omega | (dsimp only; omega)), a2.2 _ _ (by first | omega | (dsimp only; omega))]; exact h50)) (fun u hu => by rw [b2.2 _ _ (by first | omega | (dsimp only; omega))]; exact a3 u hu) (fun u => Nat.le_refl _)
  refine ⟨m', ?_, hf.tr c2, c3, c4, c5⟩
  unfold fX4_weighAll
  simp only [LXa, LXb]
  refine st_b a1 (st_g (by decide) ?_)
  rw [show ((1 : Int32).toNatClampNeg) = 1 from rfl, a2.2 3 5 (by first | omega | (dsimp only; omega)), C.1, a2.2 5 1 (by first | omega | (dsimp only; omega)), ht']
  exact st_b b1 c1
end Mo
theorem tooMuch_t {N n s t a : Nat} {mm : Mm} (ha : a ≤ 1) (hs : rd mm 5 a = nI s) (hs40 : s ≤ 40) (hn : rd mm 3 5 = nI n) (hn6 : n ≤ 6) (h : ¬ (s ≤ 10 ∧ n ≤ 4)) : fX11_isTooMuch N 0 (nI a) mm = some (1, mm) := by
  unfold fX11_isTooMuch
  simp only [LXa, nI_nat (show a < 2147483648 by omega)]
  refine st_k rfl (by first | omega | (dsimp only; omega)) (by first | omega | (dsimp only; omega)) ?_
  rw [hs, hn]
  by_cases h10 : s ≤ 10
  · exact st_f (nI_nlt (by first | omega | (dsimp only; omega)) (by first | omega | (dsimp only; omega))) (st_f (nI_ge (by first | omega | (dsimp only; omega)) (by first | omega | (dsimp only; omega))) rfl)
  · exact st_t (nI_lt (by first | omega | (dsimp only; omega)) (by first | omega | (dsimp only; omega))) rfl
theorem tooMuch_f {N n s a : Nat} {mm : Mm} (ha : a ≤ 1) (hs : rd mm 5 a = nI s) (hn : rd mm 3 5 = nI n) (h : s ≤ 10 ∧ n ≤ 4) : fX11_isTooMuch N 0 (nI a) mm = some (0, mm) := by
  unfold fX11_isTooMuch
  simp only [LXa, nI_nat (show a < 2147483648 by omega)]
  refine st_k rfl (by first | omega | (dsimp only; omega)) (by first | omega | (dsimp only; omega)) ?_
  rw [hs, hn]
  exact st_f (nI_nlt (by first | omega | (dsimp only; omega)) (by first | omega | (dsimp only; omega))) (st_t (nI_le (by first | omega | (dsimp only; omega)) (by first | omega | (dsimp only; omega))) rfl)
/-- the table's numbers -/
theorem hF_b {S1 S2 : (Nat → Nat) → Nat} {xs : List (Nat → Nat)} (h2 : ∀ l, S2 l ≤ 108) : ∀ u, u < 109 → xs.foldl (hF S1 S2) (fun _ => 1000000) u ≤ 1000000 ∧ (xs.foldl (hF S1 S2) (fun _ => 1000000) u < 1000000 → xs.foldl (hF S1 S2) (fun _ => 1000000) u ≤ 108) := by
  have hH := hF_p (S1 := S1) (S2 := S2) xs [] (fun _ => 1000000) (fun u => ⟨Nat.le_refl _, fun w => absurd w (by first | omega | (dsimp only; omega)), fun l hl => (by cases hl)⟩)
  intro u _
  obtain ⟨a, b, -⟩ := hH u
  refine ⟨a, fun w => ?_⟩
  obtain ⟨l, -, -, l3⟩ := b w
  rw [← l3]
  exact h2 l
theorem bpN_c {V U : Nat → Nat} (h : ∀ p, V p = U p) : ∀ c p b, bpN V c p b = bpN U c p b := by
  have : V = U := funext h
  intro c p b
  rw [this]

/-! picked out of 72.count -/
/-- how many of the first m -/
theorem kept_l {N : Nat} {mm : Mm} (fl : Nat → Nat) (h : ∀ i, i < 3 → (fl i = 0 ∧ rd mm (115 + 20 * i) 8 = 0) ∨ (fl i = 1 ∧ rd mm (115 + 20 * i) 8 ≠ 0)) : ∀ m i, i + m = 3 → ∀ f, m < f → fX11_keptCourts_4 N f 0 (nI (smN fl i)) (nI i) mm = some (nI (smN fl 3), mm) := by
  intro m
  induction m with
  | zero =>
    intro i hi f hf
    obtain ⟨f, rfl⟩ : ∃ g, f = g + 1 := ⟨f - 1, by omega⟩
    obtain rfl : i = 3 := by omega
    unfold fX11_keptCourts_4
    exact st_t (by decide) rfl
  | succ m ih =>
    intro i hi f hf
    obtain ⟨f, rfl⟩ : ∃ g, f = g + 1 := ⟨f - 1, by omega⟩
    unfold fX11_keptCourts_4 fX11_keptCourts_24
    simp only [LXa, nI_nat (show i < 2147483648 by omega)]
    have ih2 := ih (i + 1) (by first | omega | (dsimp only; omega)) f (by first | omega | (dsimp only; omega))
    have hs : smN fl (i + 1) = smN fl i + fl i := rfl
    rw [hs] at ih2
    refine st_f (nI_ge (by first | omega | (dsimp only; omega)) (by first | omega | (dsimp only; omega))) (st_k rfl (by first | omega | (dsimp only; omega)) (by first | omega | (dsimp only; omega)) ?_)
    rw [nI_1, nI_1]
    rcases h i (by first | omega | (dsimp only; omega)) with ⟨z, e⟩ | ⟨z, e⟩
    · rw [z] at ih2; exact st_t e ih2
    · rw [z] at ih2; exact st_f e ih2
theorem there_l {N a L : Nat} {mm : Mm} (fl : Nat → Nat) (hL : ln a = L) (hL6 : L ≤ 6) (h : ∀ i, i < L → (fl i = 0 ∧ rd mm (el a i) 1 = -1) ∨ (fl i = 1 ∧ ∃ n, n < 1000 ∧ rd mm (el a i) 1 = nI n)) : ∀ m i, i + m = L → ∀ f, m < f → fX11_there_4 N f a (nI (smN fl i)) (nI i) mm = some (nI (smN fl L), mm) := by
  intro m
  induction m with
  | zero =>
    intro i hi f hf
    obtain ⟨f, rfl⟩ : ∃ g, f = g + 1 := ⟨f - 1, by omega⟩
    obtain rfl : i = L := by omega
    unfold fX11_there_4
    rw [hL]
    exact st_t (nI_le (by first | omega | (dsimp only; omega)) (by first | omega | (dsimp only; omega))) rfl
  | succ m ih =>
    intro i hi f hf
    obtain ⟨f, rfl⟩ : ∃ g, f = g + 1 := ⟨f - 1, by omega⟩
    unfold fX11_there_4 fX11_there_22
    rw [hL, nI_nat (show i < 2147483648 by omega)]
    have ih2 := ih (i + 1) (by first | omega | (dsimp only; omega)) f (by first | omega | (dsimp only; omega))
    have hs : smN fl (i + 1) = smN fl i + fl i := rfl
    rw [hs] at ih2
    refine st_f (nI_ge (by first | omega | (dsimp only; omega)) (by first | omega | (dsimp only; omega))) (st_k rfl (by first | omega | (dsimp only; omega)) (by first | omega | (dsimp only; omega)) ?_)
    rw [nI_1, nI_1]
    rcases h i (by first | omega | (dsimp only; omega)) with ⟨z, e⟩ | ⟨z, n, hn, e⟩
    · rw [z] at ih2; exact st_b (miss_t e) (st_f (by decide) ih2)
    · rw [z] at ih2; exact st_b (miss_f e (by first | omega | (dsimp only; omega))) (st_t rfl ih2)
theorem nw_ne {w v : Nat} (h : w ≠ v) (hw : w < 2147483648) (hv : v < 2147483648) : nI w ≠ nI v := fun e => h (nI_inj e hw hv)

/-! picked out of 73.digest -/
def j1 (v : Int32) (h : Int64) : Int64 := 31 * h + v.toInt64

/-! picked out of 75.note -/
theorem shl_n : ∀ n, n < 7 → (1 : Int32) <<< (nI n &&& 31) = nI (2 ^ n) := by decide +kernel
theorem pw_n : ∀ n, n < 7 → 2 ^ n ≤ 64 := by decide
theorem cwrite_e {N en L : Nat} {k : Nat} {v : Int32} {mm : Mm} (h7 : rd mm 3 7 = nI en) (he : en < 8) (hk : ln k = L) (hL : 6 ≤ L) (hL2 : L ≤ 80) : ∃ m', fX0_write N 3 k v mm = some ((), m') ∧ Fr (fun k j => k = 8 + en ∨ (k = 16 ∧ j = en) ∨ (k = 3 ∧ j = 7)) mm m' ∧ rd m' 3 7 = nI (en + 1) ∧ rd m' 16 en = v ∧ ∀ i, i < 6 → rd m' (8 + en) i = rd mm k i := by
  have hkk : k ≠ 8 + en ∨ k = 8 + en := by omega
  refine ⟨wr (wr (cpy mm k (8 + en) 0 0 6) 16 en v) 3 7 (nI (en + 1)), ?_, ?_, ?_, ?_, fun i hi => ?_⟩
  · unfold fX0_write
    simp only [LXa, h7, nI_nat (show en < 2147483648 by omega)]
    rw [hk]
    refine st_t (nI_lt he (by first | omega | (dsimp only; omega))) (st_k rfl (show en < 8 by omega) (by first | omega | (dsimp only; omega)) (st_n ?_))
    have hx : (if (6 : Int32) < Int32.ofNat L then (6 : Int32) else Int32.ofNat L) = nI 6 := by
      by_cases hl : 6 < L
      · rw [if_pos (show (6 : Int32) < Int32.ofNat L from nI_lt hl (by first | omega | (dsimp only; omega)))]; rfl
      · obtain rfl : L = 6 := by omega
        rfl
    rw [hx, ln_6 (Or.inl (by first | omega | (dsimp only; omega)))]
    refine st_g (cpok_n (i := 0) (j := 0) (c := 6) (by first | omega | (dsimp only; omega)) (by first | omega | (dsimp only; omega)) (by first | omega | (dsimp only; omega)) (by first | omega | (dsimp only; omega))) (st_n ?_)
    have h7' : rd (cpy mm k (8 + en) 0 0 (nI 6)) 3 7 = nI en := by rw [rd_cpy, if_neg (by first | omega | (dsimp only; omega))]; exact h7
    rw [h7']
    refine st_k rfl (show en < 8 by omega) (by first | omega | (dsimp only; omega)) (st_n ?_)
    simp only [nI_nat (show en < 2147483648 by omega)]
    rw [rd_wr_k (by first | omega | (dsimp only; omega)), h7', nI_1]
    rfl
  · exact fr_wr (fr_wr (fr_cpy Fr.rf (fun j => Or.inl rfl)) (Or.inr (Or.inl ⟨rfl, rfl⟩))) (Or.inr (Or.inr ⟨rfl, rfl⟩))
  · rw [rd_wr_s]
  · rw [rd_wr_k (by first | omega | (dsimp only; omega)), rd_wr_s]
  · rw [rd_wr_k (by first | omega | (dsimp only; omega)), rd_wr_k (by first | omega | (dsimp only; omega)), rd_cpy, if_pos ⟨rfl, Nat.zero_le _, hi⟩]
    show rd mm k (0 + (i - 0)) = rd mm k i
    rw [Nat.zero_add, Nat.sub_zero]

/-! picked out of 76.keep -/
/-- places of a court -/
def CO (c : Nat) : Prop := fr c 0 = c + 1 ∧ fr c 1 = c + 2 ∧ fr c 2 = c + 3 ∧ fr c 3 = c + 4 ∧ fr c 4 = c + 13 ∧ ln (c + 1) = 6 ∧ ln (c + 2) = 2 ∧ ln (c + 3) = 4 ∧ ln (c + 4) = 8 ∧ ln (c + 13) = 8 ∧ (∀ j, el (c + 1) j = c + 14 + j) ∧ (∀ j, el (c + 4) j = c + 5 + j) ∧ ∀ j, j < 8 → ln (c + 5 + j) = 6
theorem CO_3 : CO 3 := ⟨rfl, rfl, rfl, rfl, rfl, rfl, rfl, rfl, rfl, rfl, fun _ => rfl, fun _ => rfl, fun j hj => ln_6 (Or.inl (by first | omega | (dsimp only; omega)))⟩
theorem CO_k {k : Nat} (h : k < 3) : CO (115 + 20 * k) := by
  obtain ⟨h1, h2, h3, h4, h5, h6, h7, h8, h9, h10, h11, h12⟩ := fr_crt h
  refine ⟨by rw [h1]; omega, by rw [h2]; omega, by rw [h3]; omega, by rw [h4]; omega, by rw [h5]; omega, ?_, ?_, ?_, ?_, ?_, fun j => ?_, fun j => ?_, fun j hj => ?_⟩
  · rw [show 115 + 20 * k + 1 = 116 + 20 * k by omega]; exact h6
  · rw [show 115 + 20 * k + 2 = 117 + 20 * k by omega]; exact h7
  · rw [show 115 + 20 * k + 3 = 118 + 20 * k by omega]; exact h8
  · rw [show 115 + 20 * k + 4 = 119 + 20 * k by omega]; exact h9
  · rw [show 115 + 20 * k + 13 = 128 + 20 * k by omega]; exact h10
  · rw [show 115 + 20 * k + 1 = 116 + 20 * k by omega, h11]; omega
  · rw [show 115 + 20 * k + 4 = 119 + 20 * k by omega, h12]; omega
  · exact ln_6 (Or.inr (Or.inr ⟨k, j, h, hj, by omega⟩))
section Take
variable {N D S : Nat}
theorem ctk_n (cD : CO D) (cS : CO S) (hd : D + 20 ≤ S ∨ S + 20 ≤ D) : ∀ m i mm, i + m = 8 → ∀ f, m < f → ∃ m', fX0_take_119 N f D S (nI i) mm = some ((), m') ∧ Fr (fun k _ => D + 5 + i ≤ k ∧ k < D + 13) mm m' ∧ ∀ q, i ≤ q → q < 8 → ∀ j, j < 6 → rd m' (D + 5 + q) j = rd mm (S + 5 + q) j := by
  obtain ⟨d0, d1, d2, d3, d4, l0, l1, l2, l3, l4, e0, e3, l5⟩ := cD
  obtain ⟨s0, s1, s2, s3, s4, k0, k1, k2, k3, k4, f0, f3, k5⟩ := cS
  intro m
  induction m with
  | zero =>
    intro i mm hi f hf
    obtain ⟨f, rfl⟩ : ∃ g, f = g + 1 := ⟨f - 1, by omega⟩
    refine ⟨mm, ?_, Fr.rf, fun q h1 h2 => by omega⟩
    unfold fX0_take_119
    exact st_t (nI_le (by first | omega | (dsimp only; omega)) (by first | omega | (dsimp only; omega))) rfl
  | succ m ih =>
    intro i mm hi f hf
    obtain ⟨f, rfl⟩ : ∃ g, f = g + 1 := ⟨f - 1, by omega⟩
    obtain ⟨m', c1, f1, g1⟩ := ih (i + 1) (cpy mm (S + 5 + i) (D + 5 + i) 0 0 6) (by first | omega | (dsimp only; omega)) f (by first | omega | (dsimp only; omega))
    refine ⟨m', ?_, ?_, fun q h1 h2 j hj => ?_⟩
    · unfold fX0_take_119
      rw [s3, d3, k3, l3, f3, e3]
      simp only [nI_nat (show i < 2147483648 by omega)]
      rw [k5 i (by first | omega | (dsimp only; omega)), l5 i (by first | omega | (dsimp only; omega))]
      refine st_f (nI_ge (by first | omega | (dsimp only; omega)) (by first | omega | (dsimp only; omega))) (st_k rfl (show i < 8 by omega) (by first | omega | (dsimp only; omega)) (st_k rfl (show i < 8 by omega) (by first | omega | (dsimp only; omega)) (st_g (cpok_n (i := 0) (j := 0) (c := 6) (by first | omega | (dsimp only; omega)) (by first | omega | (dsimp only; omega)) (by first | omega | (dsimp only; omega)) (by first | omega | (dsimp only; omega))) (st_n ?_))))
      rw [nI_1]; exact c1
    · exact (fr_cpy Fr.rf (fun j => by omega)).tr (f1.mono (fun k j h => by omega))
    · by_cases hq : q = i
      · subst hq
        rw [f1.2 _ _ (by first | omega | (dsimp only; omega)), rd_cpy, if_pos ⟨rfl, Nat.zero_le _, hj⟩]
        show rd mm (S + 5 + q) (0 + (j - 0)) = _
        rw [Nat.zero_add, Nat.sub_zero]
      · rw [g1 q (by first | omega | (dsimp only; omega)) h2 j hj, rd_cpy, if_neg (by first | omega | (dsimp only; omega))]
theorem ctk_s (hN : 100000 ≤ N) (cD : CO D) (cS : CO S) (hd : D + 20 ≤ S ∨ S + 20 ≤ D) : ∀ m i mm, i + m = 6 → ∀ f, m < f → ∃ m', fX0_take_69 N f D S (nI i) mm = some ((), m') ∧ Fr (fun k _ => (D + 5 ≤ k ∧ k < D + 13) ∨ (D + 14 + i ≤ k ∧ k < D + 20)) mm m' ∧ (∀ q, q < 8 → ∀ j, j < 6 → rd m' (D + 5 + q) j = rd mm (S + 5 + q) j) ∧ ∀ q, i ≤ q → q < 6 → ∀ j, j < 3 → rd m' (D + 14 + q) j = rd mm (S + 14 + q) j := by
  have cD' := cD
  have cS' := cS
  obtain ⟨d0, d1, d2, d3, d4, l0, l1, l2, l3, l4, e0, e3, l5⟩ := cD
  obtain ⟨s0, s1, s2, s3, s4, k0, k1, k2, k3, k4, f0, f3, k5⟩ := cS
  intro m
  induction m with
  | zero =>
    intro i mm hi f hf
    obtain ⟨f, rfl⟩ : ∃ g, f = g + 1 := ⟨f - 1, by omega⟩
    obtain ⟨m', c1, f1, g1⟩ := ctk_n (N := N) cD' cS' hd 8 0 mm (by first | omega | (dsimp only; omega)) N (by first | omega | (dsimp only; omega))
    refine ⟨m', ?_, f1.mono (fun k j h => by omega), fun q h1 j hj => g1 q (by first | omega | (dsimp only; omega)) h1 j hj, fun q h1 h2 => by omega⟩
    unfold fX0_take_69
    exact st_t (nI_le (by first | omega | (dsimp only; omega)) (by first | omega | (dsimp only; omega))) c1
  | succ m ih =>
    intro i mm hi f hf
    obtain ⟨f, rfl⟩ : ∃ g, f = g + 1 := ⟨f - 1, by omega⟩
    obtain ⟨m', c1, f1, g1, h1⟩ := ih (i + 1) (wr (wr (wr mm (D + 14 + i) 0 (rd mm (S + 14 + i) 0)) (D + 14 + i) 1 (rd mm (S + 14 + i) 1)) (D + 14 + i) 2 (rd mm (S + 14 + i) 2)) (by first | omega | (dsimp only; omega)) f (by first | omega | (dsimp only; omega))
    refine ⟨m', ?_, ?_, fun q h2 j hj => ?_, fun q h2 h3 j hj => ?_⟩
    · unfold fX0_take_69
      rw [s0, d0, k0, l0, f0, e0]
      simp only [nI_nat (show i < 2147483648 by omega)]
      refine st_f (nI_ge (by first | omega | (dsimp only; omega)) (by first | omega | (dsimp only; omega))) (st_k rfl (show i < 6 by omega) (by first | omega | (dsimp only; omega)) (st_k rfl (show i < 6 by omega) (by first | omega | (dsimp only; omega)) (st_k rfl (show i < 6 by omega) (by first | omega | (dsimp only; omega)) (st_k rfl (show i < 6 by omega) (by first | omega | (dsimp only; omega)) (st_b rfl ?_)))))
      rw [nI_1]; exact c1
    · exact (fr_wr (fr_wr (fr_wr Fr.rf (by first | omega | (dsimp only; omega))) (by first | omega | (dsimp only; omega))) (by first | omega | (dsimp only; omega))).tr (f1.mono (fun k j h => by omega))
    · rw [g1 q h2 j hj, rd_wr_k (by first | omega | (dsimp only; omega)), rd_wr_k (by first | omega | (dsimp only; omega)), rd_wr_k (by first | omega | (dsimp only; omega))]
    · by_cases hq : q = i
      · subst hq
        rw [f1.2 _ _ (by first | omega | (dsimp only; omega))]
        rcases (by omega : j = 0 ∨ j = 1 ∨ j = 2) with rfl | rfl | rfl
        · rw [rd_wr_j (by first | omega | (dsimp only; omega)), rd_wr_j (by first | omega | (dsimp only; omega)), rd_wr_s]
        · rw [rd_wr_j (by first | omega | (dsimp only; omega)), rd_wr_s]
        · rw [rd_wr_s]
      · rw [h1 q (by first | omega | (dsimp only; omega)) h3 j hj, rd_wr_k (by first | omega | (dsimp only; omega)), rd_wr_k (by first | omega | (dsimp only; omega)), rd_wr_k (by first | omega | (dsimp only; omega))]
theorem ctk_e {mm : Mm} (hN : 100000 ≤ N) (cD : CO D) (cS : CO S) (hd : D + 20 ≤ S ∨ S + 20 ≤ D) : ∃ m', fX0_take N D S mm = some ((), m') ∧ Fr (fun k j => (D + 2 ≤ k ∧ k < D + 20) ∨ (k = D ∧ 5 ≤ j ∧ j ≤ 7)) mm m' ∧ (∀ j, 5 ≤ j → j ≤ 7 → rd m' D j = rd mm S j) ∧ (∀ j, j < 2 → rd m' (D + 2) j = rd mm (S + 2) j) ∧ (∀ j, j < 4 → rd m' (D + 3) j = rd mm (S + 3) j) ∧ (∀ j, j < 8 → rd m' (D + 13) j = rd mm (S + 13) j) ∧ (∀ q, q < 8 → ∀ j, j < 6 → rd m' (D + 5 + q) j = rd mm (S + 5 + q) j) ∧ ∀ q, q < 6 → ∀ j, j < 3 → rd m' (D + 14 + q) j = rd mm (S + 14 + q) j := by
  have cD' := cD
  have cS' := cS
  obtain ⟨d0, d1, d2, d3, d4, l0, l1, l2, l3, l4, e0, e3, l5⟩ := cD
  obtain ⟨s0, s1, s2, s3, s4, k0, k1, k2, k3, k4, f0, f3, k5⟩ := cS
  obtain ⟨m', c1, f1, g1, h1⟩ := ctk_s hN cD' cS' hd 6 0 (cpy (cpy (cpy (wr (wr (wr mm D 5 (rd mm S 5)) D 6 (rd mm S 6)) D 7 (rd mm S 7)) (S + 2) (D + 2) 0 0 2) (S + 3) (D + 3) 0 0 4) (S + 13) (D + 13) 0 0 8) (by first | omega | (dsimp only; omega)) N (by first | omega | (dsimp only; omega))
  refine ⟨m', ?_, ?_, fun j h2 h3 => ?_, fun j hj => ?_, fun j hj => ?_, fun j hj => ?_, fun q hq j hj => ?_, fun q hq j hj => ?_⟩
  · unfold fX0_take
    rw [s1, d1, s2, d2, s4, d4, k1, l1, k2, l2, k4, l4]
    refine st_n (st_n (st_n (st_g (cpok_n (i := 0) (j := 0) (c := 2) (by first | omega | (dsimp only; omega)) (by first | omega | (dsimp only; omega)) (by first | omega | (dsimp only; omega)) (by first | omega | (dsimp only; omega))) (st_n (st_g (cpok_n (i := 0) (j := 0) (c := 4) (by first | omega | (dsimp only; omega)) (by first | omega | (dsimp only; omega)) (by first | omega | (dsimp only; omega)) (by first | omega | (dsimp only; omega))) (st_n (st_g (cpok_n (i := 0) (j := 0) (c := 8) (by first | omega | (dsimp only; omega)) (by first | omega | (dsimp only; omega)) (by first | omega | (dsimp only; omega)) (by first | omega | (dsimp only; omega))) (st_n ?_))))))))
    rw [rd_wr_k (by first | omega | (dsimp only; omega)), rd_wr_k (by first | omega | (dsimp only; omega)), rd_wr_k (by first | omega | (dsimp only; omega))]
    exact c1
  · exact (fr_cpy (fr_cpy (fr_cpy (fr_wr (fr_wr (fr_wr Fr.rf (by first | omega | (dsimp only; omega))) (by first | omega | (dsimp only; omega))) (by first | omega | (dsimp only; omega))) (fun j => by omega)) (fun j => by omega)) (fun j => by omega)).tr (f1.mono (fun k j h => by omega))
  · rw [f1.2 _ _ (by first | omega | (dsimp only; omega)), rd_cpy, if_neg (by first | omega | (dsimp only; omega)), rd_cpy, if_neg (by first | omega | (dsimp only; omega)), rd_cpy, if_neg (by first | omega | (dsimp only; omega))]
    rcases (by omega : j = 5 ∨ j = 6 ∨ j = 7) with rfl | rfl | rfl
    · rw [rd_wr_j (by first | omega | (dsimp only; omega)), rd_wr_j (by first | omega | (dsimp only; omega)), rd_wr_s]
    · rw [rd_wr_j (by first | omega | (dsimp only; omega)), rd_wr_s]
    · rw [rd_wr_s]
  · rw [f1.2 _ _ (by first | omega | (dsimp only; omega)), rd_cpy, if_neg (by first | omega | (dsimp only; omega)), rd_cpy, if_neg (by first | omega | (dsimp only; omega)), rd_cpy, if_pos ⟨rfl, Nat.zero_le _, hj⟩]
    show rd _ (S + 2) (0 + (j - 0)) = _
    rw [Nat.zero_add, Nat.sub_zero, rd_wr_k (by first | omega | (dsimp only; omega)), rd_wr_k (by first | omega | (dsimp only; omega)), rd_wr_k (by first | omega | (dsimp only; omega))]
  · rw [f1.2 _ _ (by first | omega | (dsimp only; omega)), rd_cpy, if_neg (by first | omega | (dsimp only; omega)), rd_cpy, if_pos ⟨rfl, Nat.zero_le _, hj⟩]
    show rd _ (S + 3) (0 + (j - 0)) = _
    rw [Nat.zero_add, Nat.sub_zero, rd_cpy, if_neg (by first | omega | (dsimp only; omega)), rd_wr_k (by first | omega | (dsimp only; omega)), rd_wr_k (by first | omega | (dsimp only; omega)), rd_wr_k (by first | omega | (dsimp only; omega))]
  · rw [f1.2 _ _ (by first | omega | (dsimp only; omega)), rd_cpy, if_pos ⟨rfl, Nat.zero_le _, hj⟩]
    show rd _ (S + 13) (0 + (j - 0)) = _
    rw [Nat.zero_add, Nat.sub_zero, rd_cpy, if_neg (by first | omega | (dsimp only; omega)), rd_cpy, if_neg (by first | omega | (dsimp only; omega)), rd_wr_k (by first | omega | (dsimp only; omega)), rd_wr_k (by first | omega | (dsimp only; omega)), rd_wr_k (by first | omega | (dsimp only; omega))]
  · rw [g1 q hq j hj, rd_cpy, if_neg (by first | omega | (dsimp only; omega)), rd_cpy, if_neg (by first | omega | (dsimp only; omega)), rd_cpy, if_neg (by first | omega | (dsimp only; omega)), rd_wr_k (by first | omega | (dsimp only; omega)), rd_wr_k (by first | omega | (dsimp only; omega)), rd_wr_k (by first | omega | (dsimp only; omega))]
  · rw [h1 q (by first | omega | (dsimp only; omega)) hq j hj, rd_cpy, if_neg (by first | omega | (dsimp only; omega)), rd_cpy, if_neg (by first | omega | (dsimp only; omega)), rd_cpy, if_neg (by first | omega | (dsimp only; omega)), rd_wr_k (by first | omega | (dsimp only; omega)), rd_wr_k (by first | omega | (dsimp only; omega)), rd_wr_k (by first | omega | (dsimp only; omega))]
end Take

/-! picked out of 77.on -/
theorem keptOf_t {N k : Nat} {mm : Mm} (h : k < 3) : fX11_keptOf N 0 (nI k) mm = some (some (115 + 20 * k), mm) := by
  unfold fX11_keptOf
  refine st_f (nI_pos (by first | omega | (dsimp only; omega))) (st_t (nI_lt h (by first | omega | (dsimp only; omega))) (st_k (L := 3) rfl h (by first | omega | (dsimp only; omega)) ?_))
  rw [nI_nat (by first | omega | (dsimp only; omega))]; rfl
theorem keptOf_n {N : Nat} {a : Int32} {mm : Mm} (h : Out a 3) : fX11_keptOf N 0 a mm = some (none, mm) := by
  unfold fX11_keptOf
  rcases h with h | ⟨j, h1, h2, rfl⟩
  · exact st_t h rfl
  · exact st_f (nI_pos h2) (st_f (nI_nlt h1 h2) rfl)

/-! picked out of 78.turns -/
def iI (z : Int) : Int32 := Int32.ofInt z
theorem iI_t {z : Int} (h1 : -2147483648 ≤ z) (h2 : z < 2147483648) : (iI z).toInt = z := by
  unfold iI
  rw [Int32.toInt_ofInt]
  exact bm h1 h2
theorem iI_lt {a b : Int} (h1 : -2147483648 ≤ a) (h2 : a < 2147483648) (h3 : -2147483648 ≤ b) (h4 : b < 2147483648) : iI a < iI b ↔ a < b := by rw [i_lt, iI_t h1 h2, iI_t h3 h4]
theorem iI_eq {a b : Int} (h1 : -2147483648 ≤ a) (h2 : a < 2147483648) (h3 : -2147483648 ≤ b) (h4 : b < 2147483648) : iI a = iI b ↔ a = b := by rw [i_eq, iI_t h1 h2, iI_t h3 h4]
theorem iI_n {n : Nat} (h : n < 2147483648) : nI n = iI n := by rw [i_eq, nI_toInt h, iI_t (by first | omega | (dsimp only; omega)) (by first | omega | (dsimp only; omega))]
theorem iI_add {a b : Int} (h1 : -1000000000 ≤ a) (h2 : a < 1000000000) (h3 : -1000000000 ≤ b) (h4 : b < 1000000000) : iI a + iI b = iI (a + b) := by
  rw [i_eq, i_add _ _ (by rw [iI_t (by first | omega | (dsimp only; omega)) (by first | omega | (dsimp only; omega)), iI_t (by first | omega | (dsimp only; omega)) (by first | omega | (dsimp only; omega))]; omega) (by rw [iI_t (by first | omega | (dsimp only; omega)) (by first | omega | (dsimp only; omega)), iI_t (by first | omega | (dsimp only; omega)) (by first | omega | (dsimp only; omega))]; omega), iI_t (by first | omega | (dsimp only; omega)) (by first | omega | (dsimp only; omega)), iI_t (by first | omega | (dsimp only; omega)) (by first | omega | (dsimp only; omega)), iI_t (by first | omega | (dsimp only; omega)) (by first | omega | (dsimp only; omega))]
theorem iI_sub {a b : Int} (h1 : -1000000000 ≤ a) (h2 : a < 1000000000) (h3 : -1000000000 ≤ b) (h4 : b < 1000000000) : iI a - iI b = iI (a - b) := by
  rw [i_eq, i_sub _ _ (by rw [iI_t (by first | omega | (dsimp only; omega)) (by first | omega | (dsimp only; omega)), iI_t (by first | omega | (dsimp only; omega)) (by first | omega | (dsimp only; omega))]; omega) (by rw [iI_t (by first | omega | (dsimp only; omega)) (by first | omega | (dsimp only; omega)), iI_t (by first | omega | (dsimp only; omega)) (by first | omega | (dsimp only; omega))]; omega), iI_t (by first | omega | (dsimp only; omega)) (by first | omega | (dsimp only; omega)), iI_t (by first | omega | (dsimp only; omega)) (by first | omega | (dsimp only; omega)), iI_t (by first | omega | (dsimp only; omega)) (by first | omega | (dsimp only; omega))]
/-- who wins a suit by x sheets against y -/
def zN (K F : Nat → Nat) (d i x y : Nat) : Nat := wnr (K i) (wgt (K i) (F i) d 0 x) (wgt (K i) (F i) d 0 y)
def pN (w e : Nat) : Int := (pts w 0 e : Int) - (pts w 1 e : Int)
def gvN (K W F : Nat → Nat) (d i x y : Nat) : Int := pN (W i) (zN K F d i x y)
def tvN (K W F : Nat → Nat) (d n : Nat) : Nat → Nat → Nat → Int
  | 0 => fun _ _ => 0
  | r + 1 => fun a b => mxO (fun x => mnO (fun y => gvN K W F d (n - (r + 1)) x y + tvN K W F d n r (a - x) (b - y)) b) a
theorem tvR_N {mm : Mm} {d n : Nat} : ∀ r a b, tvR mm d n r a b = tvN (uK mm) (uW mm) (uF mm) d n r a b := by
  intro r
  induction r with
  | zero => intro a b; rfl
  | succ r ih =>
    intro a b
    show mxO _ a = mxO _ a
    refine mxO_c a (fun x _ => mnO_c b (fun y _ => ?_))
    rw [ih]
    rfl
/-- B is the least of v over 0 .. b, first at p -/
def IsMin (v : Nat → Int) (b : Nat) (B : Int) (p : Nat) : Prop := p ≤ b ∧ v p = B ∧ (∀ y, y ≤ b → B ≤ v y) ∧ ∀ y, y < p → B < v y
theorem mnO_le {v : Nat → Int} : ∀ b y, y ≤ b → mnO v b ≤ v y
  | 0, y, h => by obtain rfl : y = 0 := by omega
                  exact Int.le_refl _
  | b + 1, y, h => by
    show min (mnO v b) (v (b + 1)) ≤ v y
    by_cases hy : y = b + 1
    · rw [hy]; exact Int.min_le_right _ _
    · exact Int.le_trans (Int.min_le_left _ _) (mnO_le b y (by first | omega | (dsimp only; omega)))
theorem mnO_ge {v : Nat → Int} {B : Int} : ∀ b, (∀ y, y ≤ b → B ≤ v y) → B ≤ mnO v b
  | 0, h => h 0 (by first | omega | (dsimp only; omega))
  | b + 1, h => by
    show B ≤ min (mnO v b) (v (b + 1))
    exact Int.le_min.mpr ⟨mnO_ge b (fun y hy => h y (by first | omega | (dsimp only; omega))), h (b + 1) (by first | omega | (dsimp only; omega))⟩
theorem mxO_ge {v : Nat → Int} : ∀ b y, y ≤ b → v y ≤ mxO v b
  | 0, y, h => by obtain rfl : y = 0 := by omega
                  exact Int.le_refl _
  | b + 1, y, h => by
    show v y ≤ max (mxO v b) (v (b + 1))
    by_cases hy : y = b + 1
    · rw [hy]; exact Int.le_max_right _ _
    · exact Int.le_trans (mxO_ge b y (by first | omega | (dsimp only; omega))) (Int.le_max_left _ _)
theorem mxO_le {v : Nat → Int} {B : Int} : ∀ b, (∀ y, y ≤ b → v y ≤ B) → mxO v b ≤ B
  | 0, h => h 0 (by first | omega | (dsimp only; omega))
  | b + 1, h => by
    show max (mxO v b) (v (b + 1)) ≤ B
    exact Int.max_le.mpr ⟨mxO_le b (fun y hy => h y (by first | omega | (dsimp only; omega))), h (b + 1) (by first | omega | (dsimp only; omega))⟩
theorem IsMin.v {v : Nat → Int} {b : Nat} {B : Int} {p : Nat} (h : IsMin v b B p) : mnO v b = B := by
  obtain ⟨h1, h2, h3, -⟩ := h
  have a := mnO_le (v := v) b p h1
  have c := mnO_ge b h3
  omega
theorem pN_b {w e : Nat} (hw : w ≤ 9) : -18 ≤ pN w e ∧ pN w e ≤ 18 := by
  unfold pN pts
  split <;> split <;> (try split) <;> (try split) <;> omega
section Tv
variable {K W F : Nat → Nat} {d n : Nat}
theorem tv_b (hW : ∀ i, i < n → W i ≤ 9) : ∀ r, r ≤ n → ∀ a b, -(18 * (r : Int)) ≤ tvN K W F d n r a b ∧ tvN K W F d n r a b ≤ 18 * (r : Int) := by
  intro r
  induction r with
  | zero => intro _ a b; exact ⟨by show -(18 * ((0 : Nat) : Int)) ≤ 0; omega, by show (0 : Int) ≤ 18 * ((0 : Nat) : Int); omega⟩
  | succ r ih =>
    intro hr a b
    have key : ∀ x, -(18 * ((r + 1 : Nat) : Int)) ≤ mnO (fun y => gvN K W F d (n - (r + 1)) x y + tvN K W F d n r (a - x) (b - y)) b ∧ mnO (fun y => gvN K W F d (n - (r + 1)) x y + tvN K W F d n r (a - x) (b - y)) b ≤ 18 * ((r + 1 : Nat) : Int) := by
      intro x
      have one : ∀ y, -(18 * ((r + 1 : Nat) : Int)) ≤ gvN K W F d (n - (r + 1)) x y + tvN K W F d n r (a - x) (b - y) ∧ gvN K W F d (n - (r + 1)) x y + tvN K W F d n r (a - x) (b - y) ≤ 18 * ((r + 1 : Nat) : Int) := by
        intro y
        have h1 := ih (by first | omega | (dsimp only; omega)) (a - x) (b - y)
        have h2 : -18 ≤ gvN K W F d (n - (r + 1)) x y ∧ gvN K W F d (n - (r + 1)) x y ≤ 18 := pN_b (hW _ (by first | omega | (dsimp only; omega)))
        omega
      exact ⟨mnO_ge b (fun y _ => (one y).1), Int.le_trans (mnO_le b 0 (by first | omega | (dsimp only; omega))) (one 0).2⟩
    show _ ≤ mxO (fun x => mnO (fun y => gvN K W F d (n - (r + 1)) x y + tvN K W F d n r (a - x) (b - y)) b) a ∧ _
    exact ⟨Int.le_trans (key 0).1 (mxO_ge (v := fun x => mnO (fun y => gvN K W F d (n - (r + 1)) x y + tvN K W F d n r (a - x) (b - y)) b) a 0 (by first | omega | (dsimp only; omega))), mxO_le a (fun x _ => (key x).2)⟩
/-- the more sheets the other side has, the worse -/
theorem tv_m : ∀ r a b, tvN K W F d n r a (b + 1) ≤ tvN K W F d n r a b := by
  intro r
  induction r with
  | zero => intro a b; exact Int.le_refl _
  | succ r ih =>
    intro a b
    show mxO _ a ≤ mxO _ a
    refine mxO_le a (fun x hx => Int.le_trans ?_ (mxO_ge (v := fun x => mnO (fun y => gvN K W F d (n - (r + 1)) x y + tvN K W F d n r (a - x) (b - y)) b) a x hx))
    refine mnO_ge b (fun y hy => Int.le_trans (mnO_le (b + 1) y (by first | omega | (dsimp only; omega))) ?_)
    have := ih (a - x) (b - y)
    rw [show b - y + 1 = b + 1 - y by omega] at this
    omega
theorem tv_mm {r a : Nat} : ∀ c b, tvN K W F d n r a (b + c) ≤ tvN K W F d n r a b := by
  intro c
  induction c with
  | zero => intro b; exact Int.le_refl _
  | succ c ih => intro b; exact Int.le_trans (tv_m r a (b + c)) (ih b)
/-- laying x, y on suit i, a, b at hand -/
def vlN (K W F : Nat → Nat) (d n i a b x : Nat) (y : Nat) : Int := gvN K W F d i x y + tvN K W F d n (n - (i + 1)) (a - x) (b - y)
theorem vl_b (hW : ∀ i, i < n → W i ≤ 9) (hn : n ≤ 6) {i a b x y : Nat} (hi : i < n) : -200 ≤ vlN K W F d n i a b x y ∧ vlN K W F d n i a b x y ≤ 200 := by
  unfold vlN
  have h1 := tv_b (K := K) (F := F) (d := d) hW (n - (i + 1)) (by first | omega | (dsimp only; omega)) (a - x) (b - y)
  have h2 : -18 ≤ gvN K W F d i x y ∧ gvN K W F d i x y ≤ 18 := pN_b (hW _ hi)
  omega
theorem tv_vl {i a b : Nat} (hi : i < n) : tvN K W F d n (n - i) a b = mxO (fun x => mnO (vlN K W F d n i a b x) b) a := by
  obtain ⟨r, hr⟩ : ∃ r, n - i = r + 1 := ⟨n - i - 1, by omega⟩
  rw [hr]
  show mxO (fun x => mnO (fun y => gvN K W F d (n - (r + 1)) x y + tvN K W F d n r (a - x) (b - y)) b) a = _
  have e1 : n - (r + 1) = i := by omega
  have e2 : n - (i + 1) = r := by omega
  refine mxO_c a (fun x _ => mnO_c b (fun y _ => ?_))
  unfold vlN
  rw [e1, e2]
theorem mn_b {v : Nat → Int} {b : Nat} {lo hi : Int} (h : ∀ y, lo ≤ v y ∧ v y ≤ hi) : lo ≤ mnO v b ∧ mnO v b ≤ hi := ⟨mnO_ge b (fun y _ => (h y).1), Int.le_trans (mnO_le b 0 (by first | omega | (dsimp only; omega))) (h 0).2⟩
theorem mx_bd {v : Nat → Int} {b : Nat} {lo hi : Int} (h : ∀ y, lo ≤ v y ∧ v y ≤ hi) : lo ≤ mxO v b ∧ mxO v b ≤ hi := ⟨Int.le_trans (h 0).1 (mxO_ge b 0 (by first | omega | (dsimp only; omega))), mxO_le b (fun y _ => (h y).2)⟩
end Tv

/-! picked out of 79.fill -/
def NdX (K F : Nat → Nat) (d i x w : Nat) (R : Int32) : Prop := NdR (fun y => zN K F d i x y = w) R
section Tab
variable {N n d : Nat} {K W F : Nat → Nat}
theorem place_e {i a b : Nat} {mm : Mm} (hi : i ≤ 6) (ha : a < 16) (hb : b < 16) : fX10_placeOf N (nI i) (nI a) (nI b) mm = some (nI ((i * 16 + a) * 16 + b), mm) := by
  unfold fX10_placeOf
  refine st_f (nI_pos (by first | omega | (dsimp only; omega))) (st_f (nI_nlt hi (by first | omega | (dsimp only; omega))) (st_f (nI_pos (by first | omega | (dsimp only; omega))) (st_f (nI_ge ha (by first | omega | (dsimp only; omega))) (st_f (nI_pos (by first | omega | (dsimp only; omega))) (st_t (nI_lt hb (by first | omega | (dsimp only; omega))) ?_)))))
  rw [show (16 : Int32) = nI 16 from rfl, nI_mul, nI_add, nI_mul, nI_add]
theorem value_e {i a b : Nat} {mm : Mm} (hi : i ≤ 6) (ha : a < 16) (hb : b < 16) : fX10_value N 52 (nI i) (nI a) (nI b) mm = some (rd mm 53 ((i * 16 + a) * 16 + b), mm) := by
  unfold fX10_value
  simp only [LXb]
  refine st_b (place_e hi ha hb) (st_t (nI_pos' (by first | omega | (dsimp only; omega))) (st_k rfl (by first | omega | (dsimp only; omega)) (by first | omega | (dsimp only; omega)) ?_))
  rw [nI_nat (by first | omega | (dsimp only; omega))]
theorem cprep_20 {i x : Nat} {R : Option (Unit × Mm)} {k10 : Nat → Nat → Int32 → Int32 → Mm → Option (Unit × Mm)} (hd9 : d ≤ 9) (hi : i < n) (hx : x < 16) : ∀ c w mm, w + c = 3 → CS mm n K W F → ∀ f, c < f → ∃ m', fX10_prepare_20 N k10 f 52 (17 + i) (nI (exN (K i) (F i) d 0)) (nI x) (nI w) mm = k10 52 (17 + i) (nI (exN (K i) (F i) d 0)) (nI (x + 1)) m' ∧ Fr (fun k j => k = 54 ∧ x * 3 ≤ j ∧ j < x * 3 + 3) mm m' ∧ (∀ v, w ≤ v → v < 3 → NdX K F d i x v (rd m' 54 (x * 3 + v))) ∧ ∀ v, v < w → rd m' 54 (x * 3 + v) = rd mm 54 (x * 3 + v) := by
  intro c
  induction c with
  | zero =>
    intro w mm hw C f hf
    obtain ⟨f, rfl⟩ : ∃ g, f = g + 1 := ⟨f - 1, by omega⟩
    obtain rfl : w = 3 := by omega
    refine ⟨mm, ?_, Fr.rf, fun v h1 h2 => by omega, fun _ _ => rfl⟩
    unfold fX10_prepare_20
    exact st_t (by decide) (by rw [nI_1])
  | succ c ih =>
    intro w mm hw C f hf
    obtain ⟨f, rfl⟩ : ∃ g, f = g + 1 := ⟨f - 1, by omega⟩
    obtain ⟨hs, hk, hW1, hW9, hf9, -, -, -⟩ := C.2.2 i hi
    have hn := C.2.1
    have hex : exN (K i) (F i) d 0 ≤ 1000 := by
      have : F i * d ≤ 9 * 9 := Nat.mul_le_mul hf9 hd9
      unfold exN
      split
      · omega
      · split <;> omega
    have hwg : ∀ y, (if y < lsN (K i) (F i) then 0 else y + exN (K i) (F i) d 0) = wgt (K i) (F i) d 0 y := fun y => wgt_ex (b := 0) hk (fun _ => rfl)
    have hwb : wgt (K i) (F i) d 0 x ≤ 200000 := wgt_b hf9 hd9 (by first | omega | (dsimp only; omega)) (by first | omega | (dsimp only; omega))
    obtain ⟨R, e1, e2⟩ := need_z (N := N) (s := 1) (e := w) (ag := wgt (K i) (F i) d 0 x) (ex := exN (K i) (F i) d 0) (mm := mm) hs hk hf9 (by first | omega | (dsimp only; omega)) (by first | omega | (dsimp only; omega)) hex hwb
    have e2' : NdX K F d i x w R := by
      have : (fun y => zN K F d i x y = w) = (fun y => wnx (K i) 1 (lsN (K i) (F i)) (exN (K i) (F i) d 0) (wgt (K i) (F i) d 0 x) y = w) := by
        funext y
        unfold wnx wtZ
        rw [if_neg (by first | omega | (dsimp only; omega)), hwg y]
        rfl
      unfold NdX
      rw [this]
      exact e2
    obtain ⟨m', c1, f1, g1, g2⟩ := ih (w + 1) (wr mm 54 (x * 3 + w) R) (by first | omega | (dsimp only; omega)) (CS_c C (fun k j e => rd_wr_k (by first | omega | (dsimp only; omega)))) f (by first | omega | (dsimp only; omega))
    refine ⟨m', ?_, (fr_wr Fr.rf ⟨rfl, by omega, by omega⟩).tr f1, fun v h1 h2 => ?_, fun v hv => ?_⟩
    · unfold fX10_prepare_20
      rw [show (3 : Int32) = nI 3 from rfl, nI_mul, nI_add]
      simp only [LXb, nI_nat (show x * 3 + w < 2147483648 by omega)]
      refine st_f (nI_ge (by first | omega | (dsimp only; omega)) (by first | omega | (dsimp only; omega))) (st_b (weight_e hs hk hf9 (by first | omega | (dsimp only; omega))) ?_)
      rw [hwg x]
      refine st_b e1 (st_k rfl (by first | omega | (dsimp only; omega)) (by first | omega | (dsimp only; omega)) (st_n ?_))
      rw [nI_1]; exact c1
    · by_cases hv : v = w
      · subst hv
        rw [g2 v (by first | omega | (dsimp only; omega)), rd_wr_s]; exact e2'
      · exact g1 v (by first | omega | (dsimp only; omega)) h2
    · rw [g2 v (by first | omega | (dsimp only; omega)), rd_wr_j (by first | omega | (dsimp only; omega))]
theorem cprep_10 {i : Nat} (hN : 100000 ≤ N) (hd9 : d ≤ 9) (hi : i < n) : ∀ c x mm, x + c = 16 → CS mm n K W F → ∀ f, c < f → ∃ m', fX10_prepare_10 N f 52 (17 + i) (nI (exN (K i) (F i) d 0)) (nI x) mm = some ((), m') ∧ Fr (fun k j => k = 54 ∧ x * 3 ≤ j ∧ j < 48) mm m' ∧ ∀ y, x ≤ y → y < 16 → ∀ v, v < 3 → NdX K F d i y v (rd m' 54 (y * 3 + v)) := by
  intro c
  induction c with
  | zero =>
    intro x mm hx C f hf
    obtain ⟨f, rfl⟩ : ∃ g, f = g + 1 := ⟨f - 1, by omega⟩
    obtain rfl : x = 16 := by omega
    refine ⟨mm, ?_, Fr.rf, fun y h1 h2 => by omega⟩
    unfold fX10_prepare_10
    exact st_t (by decide) rfl
  | succ c ih =>
    intro x mm hx C f hf
    obtain ⟨f, rfl⟩ : ∃ g, f = g + 1 := ⟨f - 1, by omega⟩
    obtain ⟨m1, c1, f1, g1, -⟩ := cprep_20 (N := N) (R := none) (k10 := fX10_prepare_10 N f) (x := x) hd9 hi (by first | omega | (dsimp only; omega)) 3 0 mm (by first | omega | (dsimp only; omega)) C N (by first | omega | (dsimp only; omega))
    obtain ⟨m', c2, f2, g2⟩ := ih (x + 1) m1 (by first | omega | (dsimp only; omega)) (CS_c C (fun k j e => f1.2 _ _ (by first | omega | (dsimp only; omega)))) f (by first | omega | (dsimp only; omega))
    refine ⟨m', ?_, (f1.mono (fun k j h => ⟨h.1, by omega, by omega⟩)).tr (f2.mono (fun k j h => ⟨h.1, by omega, by omega⟩)), fun y h1 h2 v hv => ?_⟩
    · unfold fX10_prepare_10
      exact st_f (nI_ge (by first | omega | (dsimp only; omega)) (by first | omega | (dsimp only; omega))) (c1.trans c2)
    · by_cases hy : y = x
      · subst hy
        rw [f2.2 _ _ (by first | omega | (dsimp only; omega))]; exact g1 v (by first | omega | (dsimp only; omega)) hv
      · exact g2 y (by first | omega | (dsimp only; omega)) h2 v hv
theorem cprep_e {i : Nat} {mm : Mm} (hN : 100000 ≤ N) (hd9 : d ≤ 9) (hi : i < n) (C : CS mm n K W F) : ∃ m', fX10_prepare N 52 (17 + i) (nI d) mm = some ((), m') ∧ Fr (fun k _ => k = 54) mm m' ∧ ∀ y, y < 16 → ∀ v, v < 3 → NdX K F d i y v (rd m' 54 (y * 3 + v)) := by
  obtain ⟨hs, hk, -⟩ := C.2.2 i hi
  obtain ⟨m', c1, f1, g1⟩ := cprep_10 hN hd9 hi 16 0 mm (by first | omega | (dsimp only; omega)) C N (by first | omega | (dsimp only; omega))
  refine ⟨m', ?_, f1.mono (fun k j h => h.1), fun y hy => g1 y (by first | omega | (dsimp only; omega)) hy⟩
  unfold fX10_prepare
  exact st_b (extra_e (b := 0) hs hk (by first | omega | (dsimp only; omega))) c1
/-- what the class' after stands on -/
def AFt (mm : Mm) (n d : Nat) (K W F : Nat → Nat) (i : Nat) : Prop := CS mm n K W F ∧ (∀ y, y < 16 → ∀ v, v < 3 → NdX K F d i y v (rd mm 54 (y * 3 + v))) ∧ ∀ a b, a < 16 → b < 16 → rd mm 53 (((i + 1) * 16 + a) * 16 + b) = iI (tvN K W F d n (n - (i + 1)) a b)
theorem AFt.c {i : Nat} {mm m2 : Mm} (h : AFt mm n d K W F i) (e : Fr (fun k j => (k = 52 ∧ j = 3) ∨ (k = 53 ∧ j < (i + 1) * 256)) mm m2) : AFt m2 n d K W F i :=
  ⟨CS_c h.1 (fun k j q => e.2 _ _ (by first | omega | (dsimp only; omega))), fun y hy v hv => by rw [e.2 _ _ (by first | omega | (dsimp only; omega))]; exact h.2.1 y hy v hv, fun a b ha hb => by rw [e.2 _ _ (by first | omega | (dsimp only; omega))]; exact h.2.2 a b ha hb⟩
theorem CS_W {mm : Mm} (C : CS mm n K W F) : ∀ i, i < n → W i ≤ 9 := fun i hi => (C.2.2 i hi).2.2.2.1
theorem after_l {i a b x : Nat} {mm0 : Mm} (hi : i < n) (ha : a < 16) (hb : b < 16) (hx : x < 16) (A : AFt mm0 n d K W F i) : ∀ c w B p mm, w + c = 3 → Fr (fun k j => k = 52 ∧ j = 3) mm0 mm → rd mm 52 3 = nI p → p ≤ 15 → (B = 1000000 ∨ (p ≤ b ∧ gvN K W F d i x p + tvN K W F d n (n - (i + 1)) a (b - p) = B)) → (∀ y, y ≤ b → zN K F d i x y < w → B < gvN K W F d i x y + tvN K W F d n (n - (i + 1)) a (b - y) ∨ (B = gvN K W F d i x y + tvN K W F d n (n - (i + 1)) a (b - y) ∧ p ≤ y)) → ∀ f, c < f → ∃ m' B' p', fX10_after_12 N f 52 (17 + i) (nI i) (nI a) (nI b) (nI x) (iI B) (nI w) mm = some (iI B', m') ∧ Fr (fun k j => k = 52 ∧ j = 3) mm m' ∧ rd m' 52 3 = nI p' ∧ IsMin (fun y => gvN K W F d i x y + tvN K W F d n (n - (i + 1)) a (b - y)) b B' p' := by
  have hn := A.1.2.1
  have hW := CS_W A.1
  have hv : ∀ y, -200 ≤ gvN K W F d i x y + tvN K W F d n (n - (i + 1)) a (b - y) ∧ gvN K W F d i x y + tvN K W F d n (n - (i + 1)) a (b - y) ≤ 200 := fun y => by
    have h1 := tv_b (K := K) (F := F) (d := d) hW (n - (i + 1)) (by first | omega | (dsimp only; omega)) a (b - y)
    have h2 : -18 ≤ gvN K W F d i x y ∧ gvN K W F d i x y ≤ 18 := pN_b (hW _ hi)
    omega
  intro c
  induction c with
  | zero =>
    intro w B p mm hw hF hp hp15 hB hall f hf
    obtain ⟨f, rfl⟩ : ∃ g, f = g + 1 := ⟨f - 1, by omega⟩
    obtain rfl : w = 3 := by omega
    have hz : ∀ y, zN K F d i x y < 3 := fun y => by
      have := wnr_2 (K i) (wgt (K i) (F i) d 0 x) (wgt (K i) (F i) d 0 y)
      unfold zN; omega
    refine ⟨mm, B, p, ?_, Fr.rf, hp, ?_⟩
    · unfold fX10_after_12
      exact st_t (by decide) rfl
    · have h0 := hall 0 (by first | omega | (dsimp only; omega)) (hz 0)
      have hv0 := hv 0
      have hB' : p ≤ b ∧ gvN K W F d i x p + tvN K W F d n (n - (i + 1)) a (b - p) = B := by
        rcases hB with hB | hB
        · omega
        · exact hB
      refine ⟨hB'.1, hB'.2, fun y hy => ?_, fun y hy => ?_⟩
      · have := hall y hy (hz y); dsimp only; omega
      · have := hall y (by first | omega | (dsimp only; omega)) (hz y); dsimp only; omega
  | succ c ih =>
    intro w B p mm hw hF hp hp15 hB hall f hf
    obtain ⟨f, rfl⟩ : ∃ g, f = g + 1 := ⟨f - 1, by omega⟩
    have hBb : -200 ≤ B ∧ B ≤ 1000000 := by
      rcases hB with hB | ⟨-, hB⟩
      · omega
      · have := hv p; omega
    have A1 := A.c (m2 := mm) (hF.mono (fun k j h => Or.inl h))
    have hnd : NdX K F d i x w (rd mm 54 (x * 3 + w)) := A1.2.1 x hx w (by first | omega | (dsimp only; omega))
    have hs := (A1.1.2.2 i hi).1
    have skip : (∀ y, y ≤ b → zN K F d i x y ≠ w) → ∃ m' B' p', fX10_after_12 N f 52 (17 + i) (nI i) (nI a) (nI b) (nI x) (iI B) (nI w + 1) mm = some (iI B', m') ∧ Fr (fun k j => k = 52 ∧ j = 3) mm m' ∧ rd m' 52 3 = nI p' ∧ IsMin (fun y => gvN K W F d i x y + tvN K W F d n (n - (i + 1)) a (b - y)) b B' p' := by
      intro hno
      rw [nI_1]
      exact ih (w + 1) B p mm (by first | omega | (dsimp only; omega)) hF hp hp15 hB (fun y hy hz => hall y hy (by have := hno y hy; omega)) f (by first | omega | (dsimp only; omega))
    have pre : ∀ {r : Option (Int32 × Mm)}, fX10_after_54 N (fX10_after_12 N f) 52 (17 + i) (nI i) (nI a) (nI b) (nI x) (iI B) (nI w) (rd mm 54 (x * 3 + w)) mm = r → fX10_after_12 N (f + 1) 52 (17 + i) (nI i) (nI a) (nI b) (nI x) (iI B) (nI w) mm = r := by
      intro r hr
      unfold fX10_after_12
      rw [show (3 : Int32) = nI 3 from rfl, nI_mul, nI_add]
      simp only [LXb, nI_nat (show x * 3 + w < 2147483648 by omega)]
      exact st_f (nI_ge (by first | omega | (dsimp only; omega)) (by first | omega | (dsimp only; omega))) (st_f (nI_pos (by first | omega | (dsimp only; omega))) (st_f (nI_ge (show x * 3 + w < 48 by omega) (by first | omega | (dsimp only; omega))) (st_k rfl (by first | omega | (dsimp only; omega)) (by first | omega | (dsimp only; omega)) hr)))
    rcases hnd with ⟨e9, hno⟩ | ⟨y, hy3, ey, hyw, hyf⟩
    · obtain ⟨m', B', p', q1, q2⟩ := skip (fun y hy => hno y (by first | omega | (dsimp only; omega)))
      refine ⟨m', B', p', pre ?_, q2⟩
      unfold fX10_after_54 fX10_after_136
      exact st_t (by rw [e9]; decide) q1
    by_cases hyb : b < y
    · obtain ⟨m', B', p', q1, q2⟩ := skip (fun t ht => hyf t (by first | omega | (dsimp only; omega)))
      refine ⟨m', B', p', pre ?_, q2⟩
      unfold fX10_after_54 fX10_after_136
      exact st_f (by rw [ey]; exact nI_pos (by first | omega | (dsimp only; omega))) (st_t (by rw [ey]; exact nI_lt hyb (by first | omega | (dsimp only; omega))) q1)
    have hpw : ∀ t, zN K F d i x t = w → gvN K W F d i x t = (pts (W i) 0 w : Int) - (pts (W i) 1 w : Int) := fun t ht => by
      unfold gvN pN; rw [ht]
    have hP : pts (W i) 0 w ≤ 18 ∧ pts (W i) 1 w ≤ 18 := by
      have := hW i hi
      unfold pts
      constructor <;> (split <;> (try split) <;> omega)
    have hVb := hv y
    have hval : ∀ t, t ≤ b → zN K F d i x t = w → gvN K W F d i x y + tvN K W F d n (n - (i + 1)) a (b - y) ≤ gvN K W F d i x t + tvN K W F d n (n - (i + 1)) a (b - t) ∧ y ≤ t := fun t ht htw => by
      have hyt : y ≤ t := by
        apply Decidable.byContradiction
        intro hlt
        exact hyf t (by first | omega | (dsimp only; omega)) htw
      have := tv_mm (K := K) (W := W) (F := F) (d := d) (n := n) (r := n - (i + 1)) (a := a) (t - y) (b - t)
      rw [show b - t + (t - y) = b - y by omega] at this
      rw [hpw t htw, hpw y hyw]
      omega
    have hT := A1.2.2 a (b - y) ha (by first | omega | (dsimp only; omega))
    have hTb := tv_b (K := K) (F := F) (d := d) hW (n - (i + 1)) (by first | omega | (dsimp only; omega)) a (b - y)
    have hsum : nI (pts (W i) 0 w) - nI (pts (W i) 1 w) + rd mm 53 (((i + 1) * 16 + a) * 16 + (b - y)) = iI (gvN K W F d i x y + tvN K W F d n (n - (i + 1)) a (b - y)) := by
      rw [hT, iI_n (by first | omega | (dsimp only; omega)), iI_n (by first | omega | (dsimp only; omega)), iI_sub (by first | omega | (dsimp only; omega)) (by first | omega | (dsimp only; omega)) (by first | omega | (dsimp only; omega)) (by first | omega | (dsimp only; omega)), iI_add (by first | omega | (dsimp only; omega)) (by first | omega | (dsimp only; omega)) (by first | omega | (dsimp only; omega)) (by first | omega | (dsimp only; omega)), hpw y hyw]
    generalize hVd : gvN K W F d i x y + tvN K W F d n (n - (i + 1)) a (b - y) = V at hVb hval hsum
    have go54 : ∀ {r : Option (Int32 × Mm)}, (if iI V < iI B then (fX10_after_126 N (fX10_after_12 N f) 52 (17 + i) (nI i) (nI a) (nI b) (nI x) (nI w) (nI y) (iI V) mm) else (if iI V = iI B then (if (rd mm 52 3) ≤ nI y then (fX10_after_136 N (fX10_after_12 N f) 52 (17 + i) (nI i) (nI a) (nI b) (nI x) (iI B) (nI w) mm) else (fX10_after_126 N (fX10_after_12 N f) 52 (17 + i) (nI i) (nI a) (nI b) (nI x) (nI w) (nI y) (iI V) mm)) else (fX10_after_136 N (fX10_after_12 N f) 52 (17 + i) (nI i) (nI a) (nI b) (nI x) (iI B) (nI w) mm))) = r → fX10_after_54 N (fX10_after_12 N f) 52 (17 + i) (nI i) (nI a) (nI b) (nI x) (iI B) (nI w) (rd mm 54 (x * 3 + w)) mm = r := by
      intro r hr
      unfold fX10_after_54
      rw [ey, nI_sub (by first | omega | (dsimp only; omega)), nI_1]
      refine st_f (nI_pos (by first | omega | (dsimp only; omega))) (st_f (nI_nlt (by first | omega | (dsimp only; omega)) (by first | omega | (dsimp only; omega))) (st_b (points_e (s := 0) hs (by first | omega | (dsimp only; omega)) (by first | omega | (dsimp only; omega))) (st_b (points_e (s := 1) hs (by first | omega | (dsimp only; omega)) (by first | omega | (dsimp only; omega))) (st_b (value_e (by first | omega | (dsimp only; omega)) ha (by first | omega | (dsimp only; omega))) ?_))))
      rw [hsum]
      exact hr
    have take : (V < B ∨ (V = B ∧ y < p)) → ∃ m' B' p', fX10_after_126 N (fX10_after_12 N f) 52 (17 + i) (nI i) (nI a) (nI b) (nI x) (nI w) (nI y) (iI V) mm = some (iI B', m') ∧ Fr (fun k j => k = 52 ∧ j = 3) mm m' ∧ rd m' 52 3 = nI p' ∧ IsMin (fun y => gvN K W F d i x y + tvN K W F d n (n - (i + 1)) a (b - y)) b B' p' := by
      intro hlt
      obtain ⟨m', B', p', q1, q2, q3⟩ := ih (w + 1) V y (wr mm 52 3 (nI y)) (by first | omega | (dsimp only; omega)) (fr_wr hF ⟨rfl, rfl⟩) (by rw [rd_wr_s]) (by first | omega | (dsimp only; omega)) (Or.inr ⟨by omega, hVd⟩) (fun t ht hz => by
        by_cases htw : zN K F d i x t = w
        · have := hval t ht htw; omega
        · have := hall t ht (by first | omega | (dsimp only; omega)); omega) f (by first | omega | (dsimp only; omega))
      refine ⟨m', B', p', ?_, (fr_wr Fr.rf ⟨rfl, rfl⟩).tr q2, q3⟩
      unfold fX10_after_126 fX10_after_136
      refine st_n ?_
      rw [nI_1]; exact q1
    have keep : (B < V ∨ (V = B ∧ p ≤ y)) → ∃ m' B' p', fX10_after_136 N (fX10_after_12 N f) 52 (17 + i) (nI i) (nI a) (nI b) (nI x) (iI B) (nI w) mm = some (iI B', m') ∧ Fr (fun k j => k = 52 ∧ j = 3) mm m' ∧ rd m' 52 3 = nI p' ∧ IsMin (fun y => gvN K W F d i x y + tvN K W F d n (n - (i + 1)) a (b - y)) b B' p' := by
      intro hlt
      unfold fX10_after_136
      rw [nI_1]
      exact ih (w + 1) B p mm (by first | omega | (dsimp only; omega)) hF hp hp15 hB (fun t ht hz => by
        by_cases htw : zN K F d i x t = w
        · have := hval t ht htw; omega
        · exact hall t ht (by first | omega | (dsimp only; omega))) f (by first | omega | (dsimp only; omega))
    rcases Int.lt_trichotomy V B with hlt | heq | hgt
    · obtain ⟨m', B', p', q1, q2⟩ := take (Or.inl hlt)
      exact ⟨m', B', p', pre (go54 (st_t ((iI_lt (by first | omega | (dsimp only; omega)) (by first | omega | (dsimp only; omega)) (by first | omega | (dsimp only; omega)) (by first | omega | (dsimp only; omega))).mpr hlt) q1)), q2⟩
    · by_cases hpy : p ≤ y
      · obtain ⟨m', B', p', q1, q2⟩ := keep (Or.inr ⟨heq, hpy⟩)
        exact ⟨m', B', p', pre (go54 (st_f (fun e => by have := (iI_lt (by first | omega | (dsimp only; omega)) (by first | omega | (dsimp only; omega)) (by first | omega | (dsimp only; omega)) (by first | omega | (dsimp only; omega))).mp e; omega) (st_t (by rw [heq]) (st_t (by rw [hp]; exact nI_le hpy (by first | omega | (dsimp only; omega))) q1)))), q2⟩
      · obtain ⟨m', B', p', q1, q2⟩ := take (Or.inr ⟨heq, by omega⟩)
        exact ⟨m', B', p', pre (go54 (st_f (fun e => by have := (iI_lt (by first | omega | (dsimp only; omega)) (by first | omega | (dsimp only; omega)) (by first | omega | (dsimp only; omega)) (by first | omega | (dsimp only; omega))).mp e; omega) (st_t (by rw [heq]) (st_f (by rw [hp]; exact nI_ge (by first | omega | (dsimp only; omega)) (by first | omega | (dsimp only; omega))) q1)))), q2⟩
    · obtain ⟨m', B', p', q1, q2⟩ := keep (Or.inl hgt)
      exact ⟨m', B', p', pre (go54 (st_f (fun e => by have := (iI_lt (by first | omega | (dsimp only; omega)) (by first | omega | (dsimp only; omega)) (by first | omega | (dsimp only; omega)) (by first | omega | (dsimp only; omega))).mp e; omega) (st_f (fun e => by have := (iI_eq (by first | omega | (dsimp only; omega)) (by first | omega | (dsimp only; omega)) (by first | omega | (dsimp only; omega)) (by first | omega | (dsimp only; omega))).mp e; omega) q1))), q2⟩
theorem after_e {i a b x : Nat} {mm : Mm} (hN : 100000 ≤ N) (hi : i < n) (ha : a < 16) (hb : b < 16) (hx : x < 16) (A : AFt mm n d K W F i) : ∃ m' B p, fX10_after N 52 (17 + i) (nI i) (nI a) (nI b) (nI x) mm = some (iI B, m') ∧ Fr (fun k j => k = 52 ∧ j = 3) mm m' ∧ rd m' 52 3 = nI p ∧ IsMin (fun y => gvN K W F d i x y + tvN K W F d n (n - (i + 1)) a (b - y)) b B p := by
  obtain ⟨m', B, p, q1, q2, q3⟩ := after_l (N := N) hi ha hb hx (A.c (m2 := wr mm 52 3 0) (fr_wr Fr.rf (Or.inl ⟨rfl, rfl⟩))) 3 0 1000000 0 _ (by first | omega | (dsimp only; omega)) Fr.rf (by rw [rd_wr_s]; rfl) (by first | omega | (dsimp only; omega)) (Or.inl rfl) (fun y _ h => by omega) N (by first | omega | (dsimp only; omega))
  refine ⟨m', B, p, ?_, (fr_wr Fr.rf ⟨rfl, rfl⟩).tr q2, q3⟩
  unfold fX10_after
  exact st_n q1
end Tab
