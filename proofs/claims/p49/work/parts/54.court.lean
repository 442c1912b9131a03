/-! a court by the law's text -/
section Tx
variable {g : Nat → Int32} {L n : Nat} {K W F : Nat → Nat} {pos : Nat → Nat}
/-- the letter of a kind -/
def ltN (k : Nat) : Nat := if k = 0 then 115 else if k = 1 then 111 else if k = 2 then 102 else if k = 3 then 100 else if k = 4 then 112 else 104
/-- places of suits -/
def poN (K : Nat → Nat) : Nat → Nat
  | 0 => 4
  | i + 1 => poN K i + (if K i < 3 then 2 else 3)
theorem poN_le (K : Nat → Nat) : ∀ i, 4 + 2 * i ≤ poN K i ∧ poN K i ≤ 4 + 3 * i
  | 0 => ⟨Nat.le_refl _, Nat.le_refl _⟩
  | i + 1 => by
    have h := poN_le K i
    have e : poN K (i + 1) = poN K i + (if K i < 3 then 2 else 3) := rfl
    rw [e]
    split <;> omega
theorem poN_lt {K : Nat → Nat} {i j : Nat} (h : i < j) : poN K i + 2 ≤ poN K j := by
  obtain ⟨c, rfl⟩ : ∃ c, j = i + 1 + c := ⟨j - (i + 1), by omega⟩
  induction c with
  | zero =>
    have e : poN K (i + 1) = poN K i + (if K i < 3 then 2 else 3) := rfl
    show _ ≤ poN K (i + 1)
    rw [e]
    split <;> omega
  | succ c ih =>
    have h1 := ih (by first | omega | (dsimp only; omega))
    have e : poN K (i + 1 + (c + 1)) = poN K (i + 1 + c) + (if K (i + 1 + c) < 3 then 2 else 3) := rfl
    rw [e]
    omega
/-- a suit stands in the text -/
def TxS (g : Nat → Int32) (K W F : Nat → Nat) (i : Nat) : Prop := g (poN K i) = nI (ltN (K i)) ∧ g (poN K i + 1) = nI (48 + W i) ∧ (3 ≤ K i → g (poN K i + 2) = nI (48 + F i))
/-- the text of a court -/
def TxC (g : Nat → Int32) (n s t : Nat) (K W F : Nat → Nat) : Prop := g 0 = nI 110 ∧ g 1 = nI (48 + s) ∧ g 2 = nI 58 ∧ g 3 = nI (48 + t) ∧ ∀ i, i < n → TxS g K W F i
theorem fgN_t {p v : Nat} (hp : p < L) (hv : v ≤ 9) (h : g p = nI (48 + v)) : fgN g L p = some v := by
  have e : (g p).toInt = 48 + v := by rw [h, nI_toInt (by first | omega | (dsimp only; omega))]; omega
  unfold fgN
  rw [if_pos hp, if_pos (by first | omega | (dsimp only; omega)), e]
  congr 1
  omega
theorem fgN_f {p v : Nat} (hv : 58 ≤ v) (hv2 : v < 200) (h : g p = nI v) : fgN g L p = none := by
  have e : (g p).toInt = v := by rw [h, nI_toInt (by first | omega | (dsimp only; omega))]
  unfold fgN
  by_cases hp : p < L
  · rw [if_pos hp, if_neg (by first | omega | (dsimp only; omega))]
  · rw [if_neg hp]
theorem kdN_t {k : Nat} (hk : k ≤ 5) : kdN (nI (ltN k)) = some k := by
  rcases (by omega : k = 0 ∨ k = 1 ∨ k = 2 ∨ k = 3 ∨ k = 4 ∨ k = 5) with rfl | rfl | rfl | rfl | rfl | rfl <;> decide
theorem ltN_b (k : Nat) : 58 ≤ ltN k ∧ ltN k < 200 := by
  unfold ltN
  split
  · omega
  · split
    · omega
    · split
      · omega
      · split
        · omega
        · split <;> omega
theorem rsN_t {i : Nat} (hi : i < n) (hn : n ≤ 6) (hL : poN K n = L) (hk : kok (K i) (W i) (F i) i) (h : TxS g K W F i) : rsN g L (poN K i) i = (true, poN K (i + 1), K i, W i, F i) := by
  obtain ⟨k1, k2, k3, k4, k5, k6, k7⟩ := hk
  obtain ⟨h1, h2, h3⟩ := h
  have e : poN K (i + 1) = poN K i + (if K i < 3 then 2 else 3) := rfl
  have hle : poN K (i + 1) ≤ L := by
    rw [← hL]
    by_cases hq : i + 1 = n
    · rw [hq]; exact Nat.le_refl _
    · have := poN_lt (K := K) (show i + 1 < n by omega); omega
  have hle2 : poN K i + 2 ≤ poN K (i + 1) := poN_lt (Nat.lt_succ_self i)
  unfold rsN
  rw [h1, kdN_t k1]
  try dsimp only
  rw [if_pos (by first | omega | (dsimp only; omega)), fgN_t (by first | omega | (dsimp only; omega)) k3 h2]
  try dsimp only
  rw [if_neg (by first | omega | (dsimp only; omega))]
  by_cases hk3 : K i < 3
  · rw [if_pos hk3, e, if_pos hk3, k7 (by first | omega | (dsimp only; omega))]
  · rw [if_neg hk3]
    rw [if_neg hk3] at e
    rw [fgN_t (by first | omega | (dsimp only; omega)) k4 (h3 (by first | omega | (dsimp only; omega)))]
    try dsimp only
    by_cases hk5 : K i = 5
    · rw [if_pos hk5, if_pos (k6 hk5), e]
    · rw [if_neg hk5, if_neg (by have := k5 (by first | omega | (dsimp only; omega)); first | omega | (dsimp only; omega)), e]
theorem skB_n {p v : Nat} (h : g p = nI v) (hv : 33 ≤ v) (hv2 : v < 200) : skB g L p = p := skB_f (fun q => by
  have := q.2
  rw [h] at this
  exact absurd (nI_inj (a := v) (b := 32) this (by first | omega | (dsimp only; omega)) (by first | omega | (dsimp only; omega))) (by first | omega | (dsimp only; omega)))
theorem prN_t (hn : n ≤ 6) (hL : poN K n = L) (hk : ∀ i, i < n → kok (K i) (W i) (F i) i) (h : ∀ i, i < n → TxS g K W F i) : ∀ c i T f, i + c = n → c < f → (∀ j, j < i → T j = (K j, W j, F j)) → ∃ T', prN g L f (poN K i) i T = (none, n, T') ∧ ∀ j, j < n → T' j = (K j, W j, F j) := by
  intro c
  induction c with
  | zero =>
    intro i T f hi hf hT
    obtain ⟨f, rfl⟩ : ∃ q, f = q + 1 := ⟨f - 1, by omega⟩
    obtain rfl : i = n := by omega
    refine ⟨T, ?_, hT⟩
    have hs : skB g L (poN K i) = poN K i := skB_f (fun q => by omega)
    unfold prN
    rw [hs, if_neg (by first | omega | (dsimp only; omega))]
  | succ c ih =>
    intro i T f hi hf hT
    obtain ⟨f, rfl⟩ : ∃ q, f = q + 1 := ⟨f - 1, by omega⟩
    have hin : i < n := by omega
    have hb := ltN_b (K i)
    have hs : skB g L (poN K i) = poN K i := skB_n (h i hin).1 (by first | omega | (dsimp only; omega)) hb.2
    have hr := rsN_t hin hn hL (hk i hin) (h i hin)
    have hpl : poN K i < L := by have := poN_lt (K := K) hin; omega
    obtain ⟨T', t1, t2⟩ := ih (i + 1) (fun j => if j = i then (K i, W i, F i) else T j) f (by first | omega | (dsimp only; omega)) (by first | omega | (dsimp only; omega)) (fun j hj => by
      try dsimp only
      by_cases hji : j = i
      · rw [if_pos hji, hji]
      · rw [if_neg hji]; exact hT j (by first | omega | (dsimp only; omega)))
    refine ⟨T', ?_, t2⟩
    unfold prN
    rw [hs, if_pos hpl, hr]
    try dsimp only
    rw [if_pos rfl]
    exact t1
/-- such a text reads as the court -/
theorem rdN_t {s t : Nat} (h0 : 1 ≤ n) (hn : n ≤ 6) (hs : s ≤ 9) (ht : t ≤ 9) (hL : poN K n = L) (hk : ∀ i, i < n → kok (K i) (W i) (F i) i) (h : TxC g n s t K W F) : ∃ T', rdN g L = (none, s, t, n, T') ∧ ∀ j, j < n → T' j = (K j, W j, F j) := by
  obtain ⟨g0, g1, g2, g3, g4⟩ := h
  have hp := poN_le K n
  have hl0 := ltN_b (K 0)
  obtain ⟨T', t1, t2⟩ := prN_t hn hL hk g4 n 0 T0 7 (by first | omega | (dsimp only; omega)) (by first | omega | (dsimp only; omega)) (fun j hj => by omega)
  refine ⟨T', ?_, t2⟩
  have s0 : skB g L 0 = 0 := skB_n g0 (by first | omega | (dsimp only; omega)) (by first | omega | (dsimp only; omega))
  have e1 : sgN g L 0 110 = true := decide_eq_true ⟨by omega, g0⟩
  have n1 : nuN g L 1 = (2, s, true) := by
    unfold nuN
    rw [fgN_t (by first | omega | (dsimp only; omega)) hs g1]
    try dsimp only
    rw [fgN_f (p := 2) (v := 58) (by first | omega | (dsimp only; omega)) (by first | omega | (dsimp only; omega)) g2]
    try dsimp only
    rw [decide_eq_true (show s ≤ 40 by omega)]
  have e2 : sgN g L 2 58 = true := decide_eq_true ⟨by omega, g2⟩
  have n3 : nuN g L 3 = (4, t, true) := by
    unfold nuN
    rw [fgN_t (by first | omega | (dsimp only; omega)) ht g3]
    try dsimp only
    rw [fgN_f (p := 4) (v := ltN (K 0)) hl0.1 hl0.2 (g4 0 (by first | omega | (dsimp only; omega))).1]
    try dsimp only
    rw [decide_eq_true (show t ≤ 40 by omega)]
  unfold rdN
  rw [s0, e1, if_pos rfl, show 0 + 1 = 1 from rfl, n1]
  unfold rdN1
  try dsimp only
  rw [if_pos rfl, e2, if_pos rfl, show 2 + 1 = 3 from rfl, n3]
  unfold rdN2
  try dsimp only
  rw [if_pos rfl]
  have t1' : prN g L 7 4 0 T0 = (none, n, T') := t1
  rw [t1']
end Tx
section Ct
variable {N n L s t : Nat} {K W F : Nat → Nat} {g : Nat → Int32} {mm : Mm}
theorem TX_3 (hL : L ≤ 80) (h1 : rd mm 113 1 = nI L) (hg : ∀ i, i < L → rd mm 114 i = g i) : TXc mm 113 L g := ⟨hL, h1, fr_txt (r := 3) (by first | omega | (dsimp only; omega)), ln_txt (r := 3) (by first | omega | (dsimp only; omega)), by omega, by omega, hg⟩
theorem fault_e (hN : 100000 ≤ N) (X : TXc mm 113 L g) (h : (rdN g L).1 = none) : ∃ m', fX11_fault N 0 3 mm = some (-9, m') ∧ Fr (fun k j => 24 ≤ k ∧ k ≤ 28) mm m' := by
  obtain ⟨m1, c1, f1, -⟩ := cread_e (N := N) hN X
  rw [h] at c1
  refine ⟨m1, ?_, f1.mono (fun k j e => by unfold FrR at e; first | omega | (dsimp only; omega))⟩
  unfold fX11_fault
  refine st_b (textOf_t (r := 3) (by first | omega | (dsimp only; omega))) (st_c (st_b (miss_f X.2.1 (by have := X.1; first | omega | (dsimp only; omega))) (st_t rfl ?_)))
  simp only [LXa]
  exact st_b c1 rfl
theorem court_e {T : Nat → Nat × Nat × Nat} (hN : 100000 ≤ N) (X : TXc mm 113 L g) (hn : n ≤ 6) (h : rdN g L = (none, s, t, n, T)) (hT : ∀ j, j < n → T j = (K j, W j, F j)) (hk : ∀ i, i < n → kok (K i) (W i) (F i) i) : ∃ m', fX11_court N 0 3 mm = some (nI n, m') ∧ Fr (fun k j => k ≤ 6 ∨ (17 ≤ k ∧ k ≤ 28) ∨ (k = 52 ∧ j = 2) ∨ ((k = 115 ∨ k = 135 ∨ k = 155) ∧ j = 8)) mm m' ∧ KD m' n 0 s t K W F (fun _ => 0) ∧ rd m' 3 7 = 0 ∧ rd m' 52 2 = 0 := by
  obtain ⟨m1, c1, f1, g1⟩ := cread_e (N := N) hN X
  rw [h] at c1 g1
  obtain ⟨r1, r2, r3, r4⟩ := g1 rfl
  dsimp only at r1 r2 r3 r4
  have f1' : Fr (fun k j => 24 ≤ k ∧ k ≤ 28) mm m1 := f1.mono (fun k j e => by unfold FrR at e; first | omega | (dsimp only; omega))
  obtain ⟨m2, c2, f2, o1, o2, o3, o4, o5⟩ := copen_l (N := N) (n := n) (T := T) hN hn n 0 (wr m1 3 5 (nI n)) (by first | omega | (dsimp only; omega)) rd_wr_s (fun j hj => by
    obtain ⟨z1, z2, z3⟩ := r4 j hj
    exact ⟨by rw [rd_wr_k (by first | omega | (dsimp only; omega))]; exact z1, by rw [rd_wr_k (by first | omega | (dsimp only; omega))]; exact z2, by rw [rd_wr_k (by first | omega | (dsimp only; omega))]; exact z3⟩) (fun j hj => by omega) N (by first | omega | (dsimp only; omega))
  have h35 : rd m2 3 5 = nI n := by rw [f2.2 _ _ (by first | omega | (dsimp only; omega)), rd_wr_s]
  obtain ⟨m3, c3, f3, k1, k2⟩ := ckept_l (N := N) (v := nI n) 3 0 m2 (by first | omega | (dsimp only; omega)) h35 (fun j hj => by omega) N (by first | omega | (dsimp only; omega))
  have hop : fX0_open N 3 24 m1 = some ((), m2) := by
    unfold fX0_open
    refine st_n ?_
    rw [r3]
    exact c2
  refine ⟨m3, ?_, (f1'.mono (fun k j e => by omega)).tr ((fr_st (f2.mono (fun k j e => by omega)) (by first | omega | (dsimp only; omega))).tr (f3.mono (fun k j e => by omega))), ⟨⟨by rw [f3.2 _ _ (by first | omega | (dsimp only; omega))]; exact h35, hn, fun i hi => ?_⟩, by rw [f3.2 _ _ (by first | omega | (dsimp only; omega))]; exact o4, ?_, ?_, fun j hj => by rw [f3.2 _ _ (by first | omega | (dsimp only; omega))]; exact o3 j hj⟩, by rw [f3.2 _ _ (by first | omega | (dsimp only; omega))]; exact o5, k2⟩
  · unfold fX11_court
    refine st_b (textOf_t (r := 3) (by first | omega | (dsimp only; omega))) (st_c (st_b (miss_f X.2.1 (by have := X.1; first | omega | (dsimp only; omega))) (st_t rfl ?_)))
    simp only [LXa]
    refine st_b c1 (st_t rfl (st_b hop ?_))
    exact c3
  · obtain ⟨z1, z2, z3⟩ := o1 i hi
    rw [hT i hi] at z1 z2 z3
    exact ⟨⟨by rw [f3.2 _ _ (by first | omega | (dsimp only; omega))]; exact z1, by rw [f3.2 _ _ (by first | omega | (dsimp only; omega))]; exact z2, by rw [f3.2 _ _ (by first | omega | (dsimp only; omega))]; exact z3⟩, hk i hi⟩
  · rw [f3.2 _ _ (by first | omega | (dsimp only; omega)), o2 0 (by first | omega | (dsimp only; omega)), rd_wr_k (by first | omega | (dsimp only; omega))]; exact r1
  · rw [f3.2 _ _ (by first | omega | (dsimp only; omega)), o2 1 (by first | omega | (dsimp only; omega)), rd_wr_k (by first | omega | (dsimp only; omega))]; exact r2
end Ct
