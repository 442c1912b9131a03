/-! picked out of 67.layings -/
/-- the laying behind one: c suits are looked at yet, so many sheets are left -/
def nxR : Nat → (Nat → Nat) → Nat → Option (Nat × (Nat → Nat))
  | 0, _, _ => none
  | i + 1, l, left => if 0 < left then some (i, up l i (l i + 1)) else nxR i (up l i 0) (left + l i)
theorem smN_up {l : Nat → Nat} {i v : Nat} : ∀ n, smN (up l i v) n = if i < n then smN l n - l i + v else smN l n := by
  intro n
  induction n with
  | zero => rw [if_neg (by first | omega | (dsimp only; omega))]; rfl
  | succ n ih =>
    show smN (up l i v) n + up l i v n = _
    rw [ih]
    have hs : smN l (n + 1) = smN l n + l n := rfl
    rw [hs]
    by_cases h : i < n
    · have hle : l i ≤ smN l n := Nat.le_trans (Nat.le_add_left _ _) (smN_mono (f := l) (i := i + 1) (n := n) (by first | omega | (dsimp only; omega)))
      rw [if_pos h, if_pos (by first | omega | (dsimp only; omega)), up_o (by first | omega | (dsimp only; omega))]
      omega
    · rw [if_neg h]
      by_cases h2 : i = n
      · subst h2; rw [if_pos (by first | omega | (dsimp only; omega)), up_s]; omega
      · rw [if_neg (by first | omega | (dsimp only; omega)), up_o (by first | omega | (dsimp only; omega))]
theorem smN_at {l : Nat → Nat} {i n : Nat} (h : i < n) : l i ≤ smN l n := Nat.le_trans (Nat.le_add_left _ _) (smN_mono (f := l) (i := i + 1) (n := n) (by first | omega | (dsimp only; omega)))
theorem nxR_p {n S : Nat} : ∀ c l left, c ≤ n → smN l n + left = S → ∀ p, nxR c l left = some p → p.1 < c ∧ (∀ j, j < p.1 → p.2 j = l j) ∧ p.2 p.1 = l p.1 + 1 ∧ smN p.2 n ≤ S := by
  intro c
  induction c with
  | zero => intro l left _ _ p hp; cases hp
  | succ i ih =>
    intro l left hc hs p hp
    unfold nxR at hp
    by_cases h : 0 < left
    · rw [if_pos h] at hp
      cases hp
      refine ⟨by show i < i + 1; omega, fun j hj => up_o (by show j ≠ i; have : j < i := hj; omega), up_s, ?_⟩
      show smN (up l i (l i + 1)) n ≤ S
      have := smN_at (l := l) (i := i) (n := n) (by first | omega | (dsimp only; omega))
      rw [smN_up, if_pos (by first | omega | (dsimp only; omega))]
      omega
    · rw [if_neg h] at hp
      have hat := smN_at (l := l) (i := i) (n := n) (by first | omega | (dsimp only; omega))
      obtain ⟨h1, h2, h3, h4⟩ := ih (up l i 0) (left + l i) (by first | omega | (dsimp only; omega)) (by rw [smN_up, if_pos (by first | omega | (dsimp only; omega))]; omega) p hp
      refine ⟨by omega, fun j hj => ?_, ?_, h4⟩
      · rw [h2 j hj, up_o (by first | omega | (dsimp only; omega))]
      · rw [h3, up_o (by first | omega | (dsimp only; omega))]
/-- how many layings of k suits of at most s sheets -/
def cnt : Nat → Nat → Nat
  | 0, _ => 1
  | k + 1, s => smN (cnt k) (s + 1)
/-- how many layings come behind one -/
def rkR (l : Nat → Nat) : Nat → Nat → Nat → Nat
  | 0, _, _ => 0
  | k + 1, i, s => rkR l k (i + 1) (s - l i) + smN (cnt k) (s - l i)
theorem rk_cnt {l : Nat → Nat} : ∀ k i s, rkR l k i s < cnt k s := by
  intro k
  induction k with
  | zero => intro i s; show 0 < 1; omega
  | succ k ih =>
    intro i s
    have h1 := ih (i + 1) (s - l i)
    have h2 : smN (cnt k) (s - l i + 1) = smN (cnt k) (s - l i) + cnt k (s - l i) := rfl
    have h3 := smN_mono (f := cnt k) (i := s - l i + 1) (n := s + 1) (by first | omega | (dsimp only; omega))
    show rkR l k (i + 1) (s - l i) + smN (cnt k) (s - l i) < smN (cnt k) (s + 1)
    omega
theorem rk_lt {l l' : Nat → Nat} {p : Nat} : ∀ k i s, i ≤ p → p < i + k → (∀ j, j < p → l' j = l j) → l' p = l p + 1 → smN l' (p + 1) ≤ smN l' i + s → rkR l' k i s < rkR l k i s := by
  intro k
  induction k with
  | zero => intro i s h1 h2; omega
  | succ k ih =>
    intro i s h1 h2 h3 h4 h5
    show rkR l' k (i + 1) (s - l' i) + smN (cnt k) (s - l' i) < rkR l k (i + 1) (s - l i) + smN (cnt k) (s - l i)
    have hs1 : smN l' (i + 1) = smN l' i + l' i := rfl
    by_cases hp : p = i
    · subst hp
      have hlt := rk_cnt (l := l') k (p + 1) (s - l' p)
      have h6 : smN (cnt k) (s - l' p + 1) = smN (cnt k) (s - l' p) + cnt k (s - l' p) := rfl
      have h7 : s - l p = s - l' p + 1 := by omega
      rw [h7]
      omega
    · have hm := smN_mono (f := l') (i := i + 1) (n := p + 1) (by first | omega | (dsimp only; omega))
      rw [h3 i (by first | omega | (dsimp only; omega))] at hs1 ⊢
      have := ih (i + 1) (s - l i) (by first | omega | (dsimp only; omega)) (by first | omega | (dsimp only; omega)) h3 h4 (by first | omega | (dsimp only; omega))
      omega
/-- the rank of a laying -/
def rkN (n S : Nat) (l : Nat → Nat) : Nat := rkR l n 0 S
theorem nx_rk {n S : Nat} {l : Nat → Nat} {p : Nat × (Nat → Nat)} (hs : smN l n ≤ S) (hp : nxR n l (S - smN l n) = some p) : p.1 < n ∧ (∀ j, j < p.1 → p.2 j = l j) ∧ smN p.2 n ≤ S ∧ rkN n S p.2 < rkN n S l := by
  obtain ⟨h1, h2, h3, h4⟩ := nxR_p (n := n) (S := S) n l (S - smN l n) (Nat.le_refl _) (by first | omega | (dsimp only; omega)) p hp
  refine ⟨h1, h2, h4, rk_lt n 0 S (by first | omega | (dsimp only; omega)) (by first | omega | (dsimp only; omega)) h2 h3 ?_⟩
  have := smN_mono (f := p.2) (i := p.1 + 1) (n := n) (by first | omega | (dsimp only; omega))
  show _ ≤ 0 + S
  omega
/-- one laying and all behind it -/
def enm (n S : Nat) : Nat → (Nat → Nat) → List (Nat → Nat)
  | 0, l => [l]
  | m + 1, l => l :: match nxR n l (S - smN l n) with
    | none => []
    | some p => enm n S m p.2
theorem cnt_mono (k : Nat) {s s' : Nat} (h : s ≤ s') : cnt k s ≤ cnt k s' := by
  cases k with
  | zero => exact Nat.le_refl _
  | succ k => exact smN_mono (by first | omega | (dsimp only; omega))
theorem cnt_12 {k s : Nat} (hk : k ≤ 6) (hs : s ≤ 12) : cnt k s ≤ 18564 := by
  refine Nat.le_trans (cnt_mono k hs) ?_
  rcases (by omega : k = 0 ∨ k = 1 ∨ k = 2 ∨ k = 3 ∨ k = 4 ∨ k = 5 ∨ k = 6) with rfl | rfl | rfl | rfl | rfl | rfl | rfl <;> decide +kernel
section Nx
variable {N n S : Nat} {K W F : Nat → Nat}
theorem nI_m1 (c : Nat) : nI c + (-1) = nI c - 1 := by rw [Int32.sub_eq_add_neg]
theorem cnext_l (hn6 : n ≤ 6) (hS : S ≤ 40) : ∀ c l left mm, c ≤ n → HA mm 34 n l → rd mm 33 2 = nI left → smN l n + left = S → ∀ f, c < f → ∃ m', Fr (fun k j => (k = 33 ∧ j = 2) ∨ k = 34) mm m' ∧ ((nxR c l left = none ∧ fX3_next_7 N f 33 (nI c - 1) mm = some (-9, m')) ∨ ∃ p, nxR c l left = some p ∧ fX3_next_7 N f 33 (nI c - 1) mm = some (nI p.1, m') ∧ HA m' 34 n p.2 ∧ rd m' 33 2 = nI (S - smN p.2 n)) := by
  intro c
  induction c with
  | zero =>
    intro l left mm hc hH hl hs f hf
    obtain ⟨f, rfl⟩ : ∃ g, f = g + 1 := ⟨f - 1, by omega⟩
    refine ⟨mm, Fr.rf, Or.inl ⟨rfl, ?_⟩⟩
    unfold fX3_next_7
    exact st_t (by decide) rfl
  | succ i ih =>
    intro l left mm hc hH hl hs f hf
    obtain ⟨f, rfl⟩ : ∃ g, f = g + 1 := ⟨f - 1, by omega⟩
    have hat := smN_at (l := l) (i := i) (n := n) (by first | omega | (dsimp only; omega))
    rw [nI_pred]
    unfold fX3_next_7 nxR
    simp only [LXb, nI_nat (show i < 2147483648 by omega), hl, nI_m1]
    by_cases h0 : 0 < left
    · rw [if_pos h0]
      refine ⟨wr (wr mm 34 i (nI (l i + 1))) 33 2 (nI (left - 1)), fr_wr (fr_wr Fr.rf (by first | omega | (dsimp only; omega))) (by first | omega | (dsimp only; omega)), Or.inr ⟨(i, up l i (l i + 1)), rfl, ?_, fun j hj => ?_, ?_⟩⟩
      · refine st_f (nI_pos (by first | omega | (dsimp only; omega))) (st_f (nI_nle h0 (by first | omega | (dsimp only; omega))) (st_k rfl (by first | omega | (dsimp only; omega)) (by first | omega | (dsimp only; omega)) (st_k rfl (by first | omega | (dsimp only; omega)) (by first | omega | (dsimp only; omega)) (st_n (st_n ?_)))))
        rw [hH i (by first | omega | (dsimp only; omega)), nI_1, rd_wr_k (by first | omega | (dsimp only; omega)), hl, show (1 : Int32) = nI 1 from rfl, nI_sub (by first | omega | (dsimp only; omega))]
      · show rd _ 34 j = nI (up l i (l i + 1) j)
        rw [rd_wr_k (by first | omega | (dsimp only; omega))]
        by_cases hji : j = i
        · subst hji; rw [rd_wr_s, up_s]
        · rw [rd_wr_j hji, up_o hji]; exact hH j hj
      · show rd _ 33 2 = nI (S - smN (up l i (l i + 1)) n)
        rw [rd_wr_s, smN_up, if_pos (by first | omega | (dsimp only; omega)), show left - 1 = S - (smN l n - l i + (l i + 1)) by omega]
    · rw [if_neg h0]
      have hl0 : left = 0 := by omega
      subst hl0
      have hfr : Fr (fun k j => (k = 33 ∧ j = 2) ∨ k = 34) mm (wr (wr mm 33 2 (nI (0 + l i))) 34 i 0) := fr_wr (fr_wr Fr.rf (by first | omega | (dsimp only; omega))) (by first | omega | (dsimp only; omega))
      obtain ⟨m', a1, a2⟩ := ih (up l i 0) (0 + l i) (wr (wr mm 33 2 (nI (0 + l i))) 34 i 0) (by first | omega | (dsimp only; omega)) (fun j hj => by
        by_cases hji : j = i
        · subst hji; rw [rd_wr_s, up_s]; rfl
        · rw [rd_wr_j hji, rd_wr_k (by first | omega | (dsimp only; omega)), up_o hji]; exact hH j hj) (by rw [rd_wr_k (by first | omega | (dsimp only; omega)), rd_wr_s]) (by rw [smN_up, if_pos (by first | omega | (dsimp only; omega))]; omega) f (by first | omega | (dsimp only; omega))
      have step : ∀ R, fX3_next_7 N f 33 (nI i - 1) (wr (wr mm 33 2 (nI (0 + l i))) 34 i 0) = R → (if nI i < 0 then (some (-9, mm)) else (if nI 0 ≤ 0 then (gd (inb (nI i) 6) <| nm (wr mm 33 2 (nI 0 + rd mm 34 i)) fun m4 => gd (inb (nI i) 6) <| nm (wr m4 34 i 0) fun m6 => fX3_next_7 N f 33 (nI i - 1) m6) else (gd (inb (nI i) 6) <| gd (inb (nI i) 6) <| nm (wr mm 34 i (rd mm 34 i + 1)) fun m9 => nm (wr m9 33 2 (rd m9 33 2 - 1)) fun m10 => some (nI i, m10)))) = R := by
        intro R hR
        refine st_f (nI_pos (by first | omega | (dsimp only; omega))) (st_t (by decide) (st_k rfl (by first | omega | (dsimp only; omega)) (by first | omega | (dsimp only; omega)) (st_n (st_k rfl (by first | omega | (dsimp only; omega)) (by first | omega | (dsimp only; omega)) (st_n ?_)))))
        rw [hH i (by first | omega | (dsimp only; omega)), nI_add]
        exact hR
      refine ⟨m', hfr.tr a1, ?_⟩
      rcases a2 with ⟨b1, b2⟩ | ⟨p, b1, b2, b3, b4⟩
      · exact Or.inl ⟨b1, step _ b2⟩
      · exact Or.inr ⟨p, b1, step _ b2, b3, b4⟩
/-- the class' next laying -/
theorem cnext_e {l : Nat → Nat} {mm : Mm} (hN : 100000 ≤ N) (hn6 : n ≤ 6) (hS : S ≤ 40) (hH : HA mm 34 n l) (h1 : rd mm 33 1 = nI n) (h2 : rd mm 33 2 = nI (S - smN l n)) (hs : smN l n ≤ S) : ∃ m', Fr (fun k j => (k = 33 ∧ j = 2) ∨ k = 34) mm m' ∧ ((nxR n l (S - smN l n) = none ∧ fX3_next N 33 mm = some (-9, m')) ∨ ∃ p, nxR n l (S - smN l n) = some p ∧ fX3_next N 33 mm = some (nI p.1, m') ∧ HA m' 34 n p.2 ∧ rd m' 33 2 = nI (S - smN p.2 n)) := by
  obtain ⟨m', a1, a2⟩ := cnext_l (N := N) hn6 hS n l (S - smN l n) mm (Nat.le_refl _) hH h2 (by first | omega | (dsimp only; omega)) N (by first | omega | (dsimp only; omega))
  refine ⟨m', a1, ?_⟩
  unfold fX3_next
  rw [h1]
  exact a2
theorem cbegin_e {mm : Mm} (hN : 100000 ≤ N) (hn6 : n ≤ 6) (hS : S ≤ 40) : ∃ m', fX3_begin N 33 (nI n) (nI S) mm = some ((), m') ∧ Fr (fun k _ => k = 33 ∨ k = 34) mm m' ∧ HA m' 34 n (fun _ => 0) ∧ rd m' 33 1 = nI n ∧ rd m' 33 2 = nI S := by
  obtain ⟨m', a1, a2, a3⟩ := fill_ok (N := N) (k := 34) (v := 0) (mm := wr (wr mm 33 1 (nI n)) 33 2 (nI S)) hN rfl (by decide)
  refine ⟨m', ?_, (fr_wr (fr_wr Fr.rf (by first | omega | (dsimp only; omega))) (by first | omega | (dsimp only; omega))).tr (a2.mono (fun k j e => by omega)), fun i hi => a3 i (by show i < 6; omega), ?_, ?_⟩
  · unfold fX3_begin
    simp only [LXb]
    refine st_n ?_
    have e1 : (if (6 : Int32) < nI n then 6 else nI n) = nI n := if_neg (nI_nlt (a := 6) (by first | omega | (dsimp only; omega)) (by first | omega | (dsimp only; omega)))
    rw [e1]
    exact st_n (st_n (st_b a1 rfl))
  · rw [a2.2 _ _ (by first | omega | (dsimp only; omega)), rd_wr_j (by first | omega | (dsimp only; omega)), rd_wr_s]
  · rw [a2.2 _ _ (by first | omega | (dsimp only; omega)), rd_wr_s]
end Nx

/-! picked out of 68.ways -/
theorem SW_pre {mm : Mm} {S d n i : Nat} {K W F x x' y : Nat → Nat} (h : SW mm S K W F d x y n) (hk : ∀ j, j < n → K j = 5 → F j < j) (hi : i ≤ n) (hx : ∀ j, j < i → x' j = x j) : SW mm S K W F d x' y i := by
  have e : ∀ j, j < i → wn K F d x' y j = wn K F d x y j := wn_c i (fun j hj => hk j (by first | omega | (dsimp only; omega))) (fun j hj => ⟨hx j hj, rfl⟩)
  refine ⟨fun j hj => by rw [h.1 j (by first | omega | (dsimp only; omega)), e j hj], fun j hj => ?_⟩
  rw [h.2 j (by first | omega | (dsimp only; omega))]
  exact congrArg nI (scr_c (fun q hq => (e q (by first | omega | (dsimp only; omega))).symm))
theorem SW_preY {mm : Mm} {S d n i : Nat} {K W F x y y' : Nat → Nat} (h : SW mm S K W F d x y n) (hk : ∀ j, j < n → K j = 5 → F j < j) (hi : i ≤ n) (hy : ∀ j, j < i → y' j = y j) : SW mm S K W F d x y' i := by
  have e : ∀ j, j < i → wn K F d x y' j = wn K F d x y j := wn_c i (fun j hj => hk j (by first | omega | (dsimp only; omega))) (fun j hj => ⟨rfl, hy j hj⟩)
  refine ⟨fun j hj => by rw [h.1 j (by first | omega | (dsimp only; omega)), e j hj], fun j hj => ?_⟩
  rw [h.2 j (by first | omega | (dsimp only; omega))]
  exact congrArg nI (scr_c (fun q hq => (e q (by first | omega | (dsimp only; omega))).symm))
/-- counts of layings and of good ones -/
def wyF (v : Nat) (sc : (Nat → Nat) → Nat) (p : Nat × Nat) (l : Nat → Nat) : Nat × Nat := (p.1 + 1, p.2 + if v ≤ sc l then 1 else 0)
theorem wy_b {n S v : Nat} {sc : (Nat → Nat) → Nat} : ∀ m l (p : Nat × Nat), p.2 ≤ p.1 → ((enm n S m l).foldl (wyF v sc) p).2 ≤ ((enm n S m l).foldl (wyF v sc) p).1 ∧ p.1 + 1 ≤ ((enm n S m l).foldl (wyF v sc) p).1 ∧ ((enm n S m l).foldl (wyF v sc) p).1 ≤ p.1 + m + 1 := by
  intro m
  induction m with
  | zero =>
    intro l p hp
    show (p.2 + if v ≤ sc l then 1 else 0) ≤ p.1 + 1 ∧ p.1 + 1 ≤ p.1 + 1 ∧ p.1 + 1 ≤ p.1 + 0 + 1
    refine ⟨?_, by omega, by omega⟩
    split <;> omega
  | succ m ih =>
    intro l p hp
    have h1 : (wyF v sc p l).2 ≤ (wyF v sc p l).1 := by
      show (p.2 + if v ≤ sc l then 1 else 0) ≤ p.1 + 1
      split <;> omega
    have h2 : (wyF v sc p l).1 = p.1 + 1 := rfl
    unfold enm
    rw [List.foldl_cons]
    cases hx : nxR n l (S - smN l n) with
    | none => exact ⟨h1, by show _ ≤ (wyF v sc p l).1; omega, by show (wyF v sc p l).1 ≤ _; omega⟩
    | some q =>
      obtain ⟨a1, a2, a3⟩ := ih q.2 (wyF v sc p l) h1
      exact ⟨a1, by show p.1 + 1 ≤ ((enm n S m q.2).foldl (wyF v sc) (wyF v sc p l)).1; omega, by show ((enm n S m q.2).foldl (wyF v sc) (wyF v sc p l)).1 ≤ _; omega⟩
section Wy
variable {N n d S v q : Nat} {K W F y : Nat → Nat}
theorem cways_l (hN : 100000 ≤ N) (hd9 : d ≤ 9) (hS : S ≤ 40) (hq : q < 6) (hy : ∀ i, i < n → y i ≤ 1000) (hv : v ≤ 108) : ∀ m l i p mm f, rkN n S l ≤ m → smN l n ≤ S → i ≤ n → p.1 + m + 2 < 1000000 → m + 1 < f → p.2 ≤ p.1 → CS mm n K W F → rd mm 3 6 = nI d → HA mm (96 + 2 * q) n y → HA mm 34 n l → rd mm 33 1 = nI n → rd mm 33 2 = nI (S - smN l n) → SW mm 29 K W F d l y i → rd mm 32 0 = 0 → ∃ m', fX11_ways_83 N f 0 (nI v) (95 + 2 * q) (nI p.1) (nI p.2) (nI i) mm = fX11_ways_148 N 0 (nI ((enm n S m l).foldl (wyF v (fun x => scr W 0 (wn K F d x y) n)) p).1) (nI ((enm n S m l).foldl (wyF v (fun x => scr W 0 (wn K F d x y) n)) p).2) m' ∧ Fr (fun k _ => 29 ≤ k ∧ k ≤ 34) mm m' ∧ rd m' 32 0 = 0 := by
  intro m
  induction m with
  | zero =>
    intro l i p mm f hrk hsl hi hp hf hp2 C hd hY hL h1 h2 hW h0
    obtain ⟨f, rfl⟩ : ∃ g, f = g + 1 := ⟨f - 1, by omega⟩
    obtain ⟨f, rfl⟩ : ∃ g, f = g + 1 := ⟨f - 1, by omega⟩
    have hn := C.2.1
    have hl40 : ∀ i, i < n → l i ≤ 1000 := fun i hi => by have := smN_at (l := l) hi; omega
    obtain ⟨m1, c1, c2, c3, c4, -⟩ := weigh_e (N := N) (d := d) (x := l) (y := y) (i := i) hN SC_29 hd9 rfl (ln_row hq) (by decide) (by first | omega | (dsimp only; omega)) (by first | omega | (dsimp only; omega)) (by first | omega | (dsimp only; omega)) hl40 hy hi C hd hL hY hW
    have hsb := scr_b (W := W) (w := wn K F d l y) (s := 0) (n := n) (fun j hj => (C.2.2 j hj).2.2.2.1) hn
    obtain ⟨m2, a1, a2⟩ := cnext_e (N := N) (S := S) (l := l) (mm := m1) hN hn hS (hL.c (fun j hj => c2.2 _ _ (by first | omega | (dsimp only; omega)))) (by rw [c2.2 _ _ (by first | omega | (dsimp only; omega))]; exact h1) (by rw [c2.2 _ _ (by first | omega | (dsimp only; omega))]; exact h2) hsl
    have hnx : fX3_next N 33 m1 = some (-9, m2) := by
      rcases a2 with ⟨-, b2⟩ | ⟨p', b1, -⟩
      · exact b2
      · have := (nx_rk hsl b1).2.2.2; omega
    have step : ∀ R x4, fX3_next N 33 m1 = some (x4, m2) → (∀ e : Nat, e = (if v ≤ scr W 0 (wn K F d l y) n then 1 else 0) → fX11_ways_83 N (f + 1) 0 (nI v) (95 + 2 * q) (nI (p.1 + 1)) (nI (p.2 + e)) x4 m2 = R) → fX11_ways_83 N ((f + 1) + 1) 0 (nI v) (95 + 2 * q) (nI p.1) (nI p.2) (nI i) mm = R := by
      intro R x4 hx hR
      unfold fX11_ways_83 fX11_ways_136
      simp only [LXa, LXb, fr_row hq]
      refine st_f (nI_pos (by first | omega | (dsimp only; omega))) (st_f (nI_ge (b := 1000000) (by first | omega | (dsimp only; omega)) (by first | omega | (dsimp only; omega))) (st_b c1 ?_))
      rw [c4, nI_1, nI_1]
      by_cases hc : v ≤ scr W 0 (wn K F d l y) n
      · exact st_f (nI_nlt hc (by first | omega | (dsimp only; omega))) (st_b hx (hR 1 (by rw [if_pos hc])))
      · exact st_t (nI_lt (by first | omega | (dsimp only; omega)) (by first | omega | (dsimp only; omega))) (st_b hx (hR 0 (by rw [if_neg hc])))
    refine ⟨m2, ?_, (c2.mono (fun k j e => by omega)).tr (a1.mono (fun k j e => by omega)), ?_⟩
    · refine step _ _ hnx (fun e he => ?_)
      rw [he]
      unfold fX11_ways_83
      exact st_t (by decide) rfl
    · rw [a1.2 _ _ (by first | omega | (dsimp only; omega))]
      exact c3.2 0 (by first | omega | (dsimp only; omega))
  | succ m ih =>
    intro l i p mm f hrk hsl hi hp hf hp2 C hd hY hL h1 h2 hW h0
    obtain ⟨f, rfl⟩ : ∃ g, f = g + 1 := ⟨f - 1, by omega⟩
    have hn := C.2.1
    have hl40 : ∀ i, i < n → l i ≤ 1000 := fun i hi => by have := smN_at (l := l) hi; omega
    obtain ⟨m1, c1, c2, c3, c4, -⟩ := weigh_e (N := N) (d := d) (x := l) (y := y) (i := i) hN SC_29 hd9 rfl (ln_row hq) (by decide) (by first | omega | (dsimp only; omega)) (by first | omega | (dsimp only; omega)) (by first | omega | (dsimp only; omega)) hl40 hy hi C hd hL hY hW
    have hsb := scr_b (W := W) (w := wn K F d l y) (s := 0) (n := n) (fun j hj => (C.2.2 j hj).2.2.2.1) hn
    obtain ⟨m2, a1, a2⟩ := cnext_e (N := N) (S := S) (l := l) (mm := m1) hN hn hS (hL.c (fun j hj => c2.2 _ _ (by first | omega | (dsimp only; omega)))) (by rw [c2.2 _ _ (by first | omega | (dsimp only; omega))]; exact h1) (by rw [c2.2 _ _ (by first | omega | (dsimp only; omega))]; exact h2) hsl
    have hf12 : Fr (fun k _ => 29 ≤ k ∧ k ≤ 34) mm m2 := (c2.mono (fun k j e => by omega)).tr (a1.mono (fun k j e => by omega))
    have c5 : SW m2 29 K W F d l y n := c3.c (fun k j e => a1.2 _ _ (by first | omega | (dsimp only; omega)))
    have step : ∀ R x4, fX3_next N 33 m1 = some (x4, m2) → (∀ e : Nat, e = (if v ≤ scr W 0 (wn K F d l y) n then 1 else 0) → fX11_ways_83 N f 0 (nI v) (95 + 2 * q) (nI (p.1 + 1)) (nI (p.2 + e)) x4 m2 = R) → fX11_ways_83 N (f + 1) 0 (nI v) (95 + 2 * q) (nI p.1) (nI p.2) (nI i) mm = R := by
      intro R x4 hx hR
      unfold fX11_ways_83 fX11_ways_136
      simp only [LXa, LXb, fr_row hq]
      refine st_f (nI_pos (by first | omega | (dsimp only; omega))) (st_f (nI_ge (b := 1000000) (by first | omega | (dsimp only; omega)) (by first | omega | (dsimp only; omega))) (st_b c1 ?_))
      rw [c4, nI_1, nI_1]
      by_cases hc : v ≤ scr W 0 (wn K F d l y) n
      · exact st_f (nI_nlt hc (by first | omega | (dsimp only; omega))) (st_b hx (hR 1 (by rw [if_pos hc])))
      · exact st_t (nI_lt (by first | omega | (dsimp only; omega)) (by first | omega | (dsimp only; omega))) (st_b hx (hR 0 (by rw [if_neg hc])))
    rcases a2 with ⟨b1, b2⟩ | ⟨p', b1, b2, b3, b4⟩
    · refine ⟨m2, step _ _ b2 (fun e he => ?_), hf12, ?_⟩
      · have e1 : enm n S (m + 1) l = [l] := by unfold enm; rw [b1]
        rw [e1, he]
        obtain ⟨f, rfl⟩ : ∃ g, f = g + 1 := ⟨f - 1, by omega⟩
        unfold fX11_ways_83
        exact st_t (by decide) rfl
      · exact c5.2 0 (by first | omega | (dsimp only; omega))
    · obtain ⟨g1, g2, g3, g4⟩ := nx_rk hsl b1
      have e1 : enm n S (m + 1) l = l :: enm n S m p'.2 := by
        show l :: (match nxR n l (S - smN l n) with | none => [] | some p => enm n S m p.2) = _
        rw [b1]
      obtain ⟨m', r1, r2, r3⟩ := ih p'.2 p'.1 (wyF v (fun x => scr W 0 (wn K F d x y) n) p l) m2 f (by first | omega | (dsimp only; omega)) g3 (by first | omega | (dsimp only; omega)) (by show p.1 + 1 + m + 2 < 1000000; omega) (by first | omega | (dsimp only; omega)) (by show (p.2 + if v ≤ scr W 0 (wn K F d l y) n then 1 else 0) ≤ p.1 + 1; split <;> omega) (CS_c C (fun k j e => hf12.2 _ _ (by first | omega | (dsimp only; omega)))) (by rw [hf12.2 _ _ (by first | omega | (dsimp only; omega))]; exact hd) (hY.c (fun j hj => hf12.2 _ _ (by first | omega | (dsimp only; omega)))) b3 (by rw [a1.2 _ _ (by first | omega | (dsimp only; omega)), c2.2 _ _ (by first | omega | (dsimp only; omega))]; exact h1) b4 (SW_pre c5 (fun j hj => (C.2.2 j hj).2.2.2.2.2.2.1) (by first | omega | (dsimp only; omega)) g2) (c5.2 0 (by first | omega | (dsimp only; omega)))
      refine ⟨m', step _ _ b2 (fun e he => ?_), hf12.tr r2, r3⟩
      rw [e1, he]
      exact r1
end Wy

/-! picked out of 69.safe -/
def sfF (su : (Nat → Nat) → Nat) (st : Option (Nat × (Nat → Nat))) (l : Nat → Nat) : Option (Nat × (Nat → Nat)) := match st with
  | none => some (su l, l)
  | some p => if su l ≤ p.1 then some p else some (su l, l)
def grI (st : Option (Nat × (Nat → Nat))) : Int32 := match st with
  | none => -1
  | some p => nI p.1
theorem sf_some {su : (Nat → Nat) → Nat} : ∀ (xs : List (Nat → Nat)) st, (st ≠ none ∨ xs ≠ []) → ∃ p, xs.foldl (sfF su) st = some p := by
  intro xs
  induction xs with
  | nil =>
    intro st h
    cases st with
    | none => rcases h with h | h <;> exact absurd rfl h
    | some p => exact ⟨p, rfl⟩
  | cons x xs ih =>
    intro st _
    refine ih (sfF su st x) (Or.inl ?_)
    cases st with
    | none => intro e; cases e
    | some p =>
      show (if su x ≤ p.1 then some p else some (su x, x)) ≠ none
      split <;> (intro e; cases e)
theorem enm_ne {n S m : Nat} {l : Nat → Nat} : enm n S m l ≠ [] := by
  cases m with
  | zero => intro e; cases e
  | succ m => intro e; cases e
theorem enm_u {n S m : Nat} {l : Nat → Nat} {p : Nat × (Nat → Nat)} (h : nxR n l (S - smN l n) = some p) : enm n S (m + 1) l = l :: enm n S m p.2 := by
  show l :: (match nxR n l (S - smN l n) with | none => [] | some p => enm n S m p.2) = _
  rw [h]
theorem enm_z {n S m : Nat} {l : Nat → Nat} (h : nxR n l (S - smN l n) = none) : enm n S m l = [l] := by
  cases m with
  | zero => rfl
  | succ m =>
    show l :: (match nxR n l (S - smN l n) with | none => [] | some p => enm n S m p.2) = _
    rw [h]
section Sf
variable {N n d S T q : Nat} {K W F : Nat → Nat}
theorem csafe_l (hN : 100000 ≤ N) (hd9 : d ≤ 9) (hS : S ≤ 40) (hT : T ≤ 40) (hq : q < 6) : ∀ m l i c st mm f, rkN n S l ≤ m → smN l n ≤ S → i ≤ n → c + m + 2 < 1000000 → m + 1 < f → CS mm n K W F → rd mm 3 6 = nI d → rd mm 5 1 = nI T → HA mm 34 n l → rd mm 33 1 = nI n → rd mm 33 2 = nI (S - smN l n) → (∀ p, st = some p → rd mm (95 + 2 * q) 1 = nI n ∧ HA mm (96 + 2 * q) n p.2 ∧ p.1 ≤ 108) → ∃ m', fX11_safe_54 N f 0 (95 + 2 * q) (grI st) (nI i) (nI c) mm = some (grI ((enm n S m l).foldl (sfF (sureN K W F d T n)) st), m') ∧ Fr (fun k j => k = 33 ∨ k = 34 ∨ k = 40 ∨ k = 41 ∨ (k = 95 + 2 * q ∧ j = 1) ∨ k = 96 + 2 * q) mm m' ∧ ∀ p, (enm n S m l).foldl (sfF (sureN K W F d T n)) st = some p → rd m' (95 + 2 * q) 1 = nI n ∧ HA m' (96 + 2 * q) n p.2 ∧ p.1 ≤ 108 := by
  -- one laying
  have one : ∀ l i c st mm f, smN l n ≤ S → i ≤ n → c < 1000000 → CS mm n K W F → rd mm 3 6 = nI d → rd mm 5 1 = nI T → HA mm 34 n l → rd mm 33 1 = nI n → rd mm 33 2 = nI (S - smN l n) → (∀ p, st = some p → rd mm (95 + 2 * q) 1 = nI n ∧ HA mm (96 + 2 * q) n p.2 ∧ p.1 ≤ 108) → ∃ m1 m2, Fr (fun k j => k = 40 ∨ k = 41 ∨ (k = 95 + 2 * q ∧ j = 1) ∨ k = 96 + 2 * q) mm m1 ∧ Fr (fun k j => (k = 33 ∧ j = 2) ∨ k = 34) m1 m2 ∧ (∀ p, sfF (sureN K W F d T n) st l = some p → rd m2 (95 + 2 * q) 1 = nI n ∧ HA m2 (96 + 2 * q) n p.2 ∧ p.1 ≤ 108) ∧ ((nxR n l (S - smN l n) = none ∧ fX3_next N 33 m1 = some (-9, m2)) ∨ ∃ p, nxR n l (S - smN l n) = some p ∧ fX3_next N 33 m1 = some (nI p.1, m2) ∧ HA m2 34 n p.2 ∧ rd m2 33 2 = nI (S - smN p.2 n)) ∧ ∀ R x1, fX3_next N 33 m1 = some (x1, m2) → fX11_safe_54 N f 0 (95 + 2 * q) (grI (sfF (sureN K W F d T n) st l)) x1 (nI (c + 1)) m2 = R → fX11_safe_54 N (f + 1) 0 (95 + 2 * q) (grI st) (nI i) (nI c) mm = R := by
    intro l i c st mm f hsl hi hc C hd ht hL h1 h2 hst
    have hn := C.2.1
    have hl40 : ∀ i, i < n → l i ≤ 1000 := fun i hi => by have := smN_at (l := l) hi; omega
    obtain ⟨s1, -⟩ := sure_b (K := K) (W := W) (F := F) (d := d) (z := l) (T := T) (fun i hi => (C.2.2 i hi).2.2.2.1) hn
    obtain ⟨ma, b, a1, a2, a3, a4⟩ := least_c (N := N) (d := d) (T := T) (en := grI st) (q := 34) hN hd9 hT rfl (by decide) (by first | omega | (dsimp only; omega)) hl40 C hd ht hL
    -- taken or not
    have nxt : ∀ m1, Fr (fun k j => k = 40 ∨ k = 41 ∨ (k = 95 + 2 * q ∧ j = 1) ∨ k = 96 + 2 * q) mm m1 → ∃ m2, Fr (fun k j => (k = 33 ∧ j = 2) ∨ k = 34) m1 m2 ∧ ((nxR n l (S - smN l n) = none ∧ fX3_next N 33 m1 = some (-9, m2)) ∨ ∃ p, nxR n l (S - smN l n) = some p ∧ fX3_next N 33 m1 = some (nI p.1, m2) ∧ HA m2 34 n p.2 ∧ rd m2 33 2 = nI (S - smN p.2 n)) := by
      intro m1 f1
      exact cnext_e (N := N) (S := S) (l := l) (mm := m1) hN hn hS (hL.c (fun j hj => f1.2 _ _ (by first | omega | (dsimp only; omega)))) (by rw [f1.2 _ _ (by first | omega | (dsimp only; omega))]; exact h1) (by rw [f1.2 _ _ (by first | omega | (dsimp only; omega))]; exact h2) hsl
    have hf0 : Fr (fun k j => k = 40 ∨ k = 41 ∨ (k = 95 + 2 * q ∧ j = 1) ∨ k = 96 + 2 * q) mm ma := a2.mono (fun k j e => by omega)
    have go : ∀ R, (if nI b ≤ grI st then (bd2 (fX3_next N 33 ma) fun x1 m2 => fX11_safe_54 N f 0 (95 + 2 * q) (grI st) x1 (nI (c + 1)) m2) else (bd2 (fX6_take N (95 + 2 * q) 34 (nI n) ma) fun x10 m11 => bd2 (fX3_next N 33 m11) fun x1 m2 => fX11_safe_54 N f 0 (95 + 2 * q) (nI b) x1 (nI (c + 1)) m2)) = R → fX11_safe_54 N (f + 1) 0 (95 + 2 * q) (grI st) (nI i) (nI c) mm = R := by
      intro R hR
      unfold fX11_safe_54 fX11_safe_114
      simp only [LXa, LXb, nI_1]
      refine st_f (nI_pos (by first | omega | (dsimp only; omega))) (st_f (nI_ge (b := 1000000) (by first | omega | (dsimp only; omega)) (by first | omega | (dsimp only; omega))) (st_b a1 ?_))
      rw [a2.2 3 5 (by first | omega | (dsimp only; omega)), C.1]
      exact hR
    have hkeep : nI b ≤ grI st → sfF (sureN K W F d T n) st l = st := by
      intro hb
      cases st with
      | none =>
        have hb' : nI b ≤ (-1 : Int32) := hb
        rw [i_le, nI_toInt (by first | omega | (dsimp only; omega))] at hb'
        have : (-1 : Int32).toInt = -1 := rfl
        omega
      | some p =>
        have hp := (hst p rfl).2.2
        have hb' : nI b ≤ nI p.1 := hb
        rw [i_le, nI_toInt (by first | omega | (dsimp only; omega)), nI_toInt (by first | omega | (dsimp only; omega))] at hb'
        refine if_pos ?_
        rcases a4 with a4 | ⟨-, a4⟩ <;> omega
    have htake : ¬ nI b ≤ grI st → b = sureN K W F d T n l ∧ sfF (sureN K W F d T n) st l = some (b, l) := by
      intro hb
      have hbs : b = sureN K W F d T n l := by
        rcases a4 with a4 | ⟨a4, -⟩
        · exact a4
        · exfalso
          apply hb
          rw [i_le, nI_toInt (by first | omega | (dsimp only; omega))]
          exact a4
      refine ⟨hbs, ?_⟩
      rw [hbs]
      cases st with
      | none => rfl
      | some p =>
        have hp := (hst p rfl).2.2
        have hb' : ¬ nI b ≤ nI p.1 := hb
        rw [i_le, nI_toInt (by first | omega | (dsimp only; omega)), nI_toInt (by first | omega | (dsimp only; omega))] at hb'
        exact if_neg (by rw [← hbs]; omega)
    by_cases hb : nI b ≤ grI st
    · obtain ⟨m2, n1, n2⟩ := nxt ma hf0
      rw [hkeep hb]
      refine ⟨ma, m2, hf0, n1, fun p hp => ?_, n2, fun R x1 hx hR => go R (st_t hb (st_b hx hR))⟩
      obtain ⟨g1, g2, g3⟩ := hst p hp
      exact ⟨by rw [n1.2 _ _ (by first | omega | (dsimp only; omega)), a2.2 _ _ (by first | omega | (dsimp only; omega))]; exact g1, g2.c (fun j hj => by rw [n1.2 _ _ (by first | omega | (dsimp only; omega)), a2.2 _ _ (by first | omega | (dsimp only; omega))]), g3⟩
    · obtain ⟨hbs, hsf⟩ := htake hb
      obtain ⟨mb, t1, t2, t3, t4⟩ := take_e (N := N) (p := 34) (v := l) hq rfl hn (by first | omega | (dsimp only; omega)) (HA.c hL (fun j hj => a2.2 _ _ (by first | omega | (dsimp only; omega))) : HA ma 34 n l)
      have hf1 : Fr (fun k j => k = 40 ∨ k = 41 ∨ (k = 95 + 2 * q ∧ j = 1) ∨ k = 96 + 2 * q) mm mb := hf0.tr (t2.mono (fun k j e => by omega))
      obtain ⟨m2, n1, n2⟩ := nxt mb hf1
      rw [hsf]
      refine ⟨mb, m2, hf1, n1, fun p hp => ?_, n2, fun R x1 hx hR => go R (st_f hb (st_b t1 (st_b hx hR)))⟩
      cases hp
      exact ⟨by rw [n1.2 _ _ (by first | omega | (dsimp only; omega))]; exact t3, t4.c (fun j hj => n1.2 _ _ (by first | omega | (dsimp only; omega))), by show b ≤ 108; omega⟩
  intro m
  induction m with
  | zero =>
    intro l i c st mm f hrk hsl hi hc hf C hd ht hL h1 h2 hst
    obtain ⟨f, rfl⟩ : ∃ g, f = g + 1 := ⟨f - 1, by omega⟩
    obtain ⟨f, rfl⟩ : ∃ g, f = g + 1 := ⟨f - 1, by omega⟩
    obtain ⟨m1, m2, f1, f2, g1, g2, g3⟩ := one l i c st mm (f + 1) hsl hi (by first | omega | (dsimp only; omega)) C hd ht hL h1 h2 hst
    have hnx : fX3_next N 33 m1 = some (-9, m2) := by
      rcases g2 with ⟨-, q⟩ | ⟨p', q, -⟩
      · exact q
      · have := (nx_rk hsl q).2.2.2; omega
    refine ⟨m2, g3 _ _ hnx ?_, (f1.mono (fun k j e => by omega)).tr (f2.mono (fun k j e => by omega)), g1⟩
    unfold fX11_safe_54
    exact st_t (by decide) rfl
  | succ m ih =>
    intro l i c st mm f hrk hsl hi hc hf C hd ht hL h1 h2 hst
    obtain ⟨f, rfl⟩ : ∃ g, f = g + 1 := ⟨f - 1, by omega⟩
    obtain ⟨m1, m2, f1, f2, g1, g2, g3⟩ := one l i c st mm f hsl hi (by first | omega | (dsimp only; omega)) C hd ht hL h1 h2 hst
    have hf12 : Fr (fun k j => k = 33 ∨ k = 34 ∨ k = 40 ∨ k = 41 ∨ (k = 95 + 2 * q ∧ j = 1) ∨ k = 96 + 2 * q) mm m2 := (f1.mono (fun k j e => by omega)).tr (f2.mono (fun k j e => by omega))
    rcases g2 with ⟨b1, b2⟩ | ⟨p', b1, b2, b3, b4⟩
    · rw [enm_z b1]
      refine ⟨m2, g3 _ _ b2 ?_, hf12, g1⟩
      obtain ⟨f, rfl⟩ : ∃ g, f = g + 1 := ⟨f - 1, by omega⟩
      unfold fX11_safe_54
      exact st_t (by decide) rfl
    · obtain ⟨o1, o2, o3, o4⟩ := nx_rk hsl b1
      rw [enm_u b1]
      have hn := C.2.1
      obtain ⟨m', r1, r2, r3⟩ := ih p'.2 p'.1 (c + 1) (sfF (sureN K W F d T n) st l) m2 f (by first | omega | (dsimp only; omega)) o3 (by first | omega | (dsimp only; omega)) (by first | omega | (dsimp only; omega)) (by first | omega | (dsimp only; omega)) (CS_c C (fun k j e => hf12.2 _ _ (by first | omega | (dsimp only; omega)))) (by rw [hf12.2 _ _ (by first | omega | (dsimp only; omega))]; exact hd) (by rw [hf12.2 _ _ (by first | omega | (dsimp only; omega))]; exact ht) b3 (by rw [f2.2 _ _ (by first | omega | (dsimp only; omega)), f1.2 _ _ (by first | omega | (dsimp only; omega))]; exact h1) b4 g1
      exact ⟨m', g3 _ _ b2 r1, hf12.tr r2, r3⟩
end Sf
theorem smN_0 : ∀ n, smN (fun _ => 0) n = 0
  | 0 => rfl
  | n + 1 => by show smN (fun _ => 0) n + 0 = 0; rw [smN_0 n]

/-! picked out of 70.mixes -/
section Hm
variable {S1 S2 : (Nat → Nat) → Nat}
def hF (S1 S2 : (Nat → Nat) → Nat) (H : Nat → Nat) (l : Nat → Nat) : Nat → Nat := fun u => if u = S1 l then (if S2 l < H u then S2 l else H u) else H u
def mvN (S1 S2 : (Nat → Nat) → Nat) (p q : Nat) (l : Nat → Nat) : Nat := p * S1 l + (q - p) * S2 l
def mxF (S1 S2 : (Nat → Nat) → Nat) (p q a : Nat) (l : Nat → Nat) : Nat := if a ≤ mvN S1 S2 p q l then a else mvN S1 S2 p q l
/-- the class' least by its table, of the first scores -/
def lbN (p q : Nat) (H : Nat → Nat) : Nat → Nat
  | 0 => 1000000
  | c + 1 => if 1000000 ≤ H c then lbN p q H c else (if p * c + (q - p) * H c < lbN p q H c then p * c + (q - p) * H c else lbN p q H c)
theorem hF_p : ∀ (xs : List (Nat → Nat)) (ys : List (Nat → Nat)) (H : Nat → Nat), (∀ u, H u ≤ 1000000 ∧ (H u < 1000000 → ∃ l ∈ ys, S1 l = u ∧ S2 l = H u) ∧ ∀ l ∈ ys, S1 l = u → H u ≤ S2 l) → ∀ u, xs.foldl (hF S1 S2) H u ≤ 1000000 ∧ (xs.foldl (hF S1 S2) H u < 1000000 → ∃ l ∈ ys ++ xs, S1 l = u ∧ S2 l = xs.foldl (hF S1 S2) H u) ∧ ∀ l ∈ ys ++ xs, S1 l = u → xs.foldl (hF S1 S2) H u ≤ S2 l := by
  intro xs
  induction xs with
  | nil => intro ys H h; rw [List.append_nil]; exact h
  | cons a xs ih =>
    intro ys H h
    have hap : ys ++ a :: xs = (ys ++ [a]) ++ xs := by rw [List.append_assoc]; rfl
    rw [hap]
    show ∀ u, xs.foldl (hF S1 S2) (hF S1 S2 H a) u ≤ 1000000 ∧ _
    refine ih (ys ++ [a]) (hF S1 S2 H a) (fun u => ?_)
    obtain ⟨h1, h2, h3⟩ := h u
    have hin : ∀ x, x ∈ ys ++ [a] ↔ x ∈ ys ∨ x = a := fun x => by rw [List.mem_append, List.mem_singleton]
    by_cases hu : u = S1 a
    · have e : hF S1 S2 H a u = if S2 a < H u then S2 a else H u := if_pos hu
      rw [e]
      by_cases hc : S2 a < H u
      · rw [if_pos hc]
        refine ⟨by omega, fun _ => ⟨a, (hin a).mpr (Or.inr rfl), hu.symm, rfl⟩, fun l hl hlu => ?_⟩
        rcases (hin l).mp hl with q | q
        · have := h3 l q hlu; omega
        · rw [q]; exact Nat.le_refl _
      · rw [if_neg hc]
        refine ⟨h1, fun w => ?_, fun l hl hlu => ?_⟩
        · obtain ⟨l, l1, l2, l3⟩ := h2 w
          exact ⟨l, (hin l).mpr (Or.inl l1), l2, l3⟩
        · rcases (hin l).mp hl with q | q
          · exact h3 l q hlu
          · rw [q]; omega
    · have e : hF S1 S2 H a u = H u := if_neg hu
      rw [e]
      refine ⟨h1, fun w => ?_, fun l hl hlu => ?_⟩
      · obtain ⟨l, l1, l2, l3⟩ := h2 w
        exact ⟨l, (hin l).mpr (Or.inl l1), l2, l3⟩
      · rcases (hin l).mp hl with q | q
        · exact h3 l q hlu
        · rw [q] at hlu; exact absurd hlu.symm hu
theorem lbN_le {p q : Nat} {H : Nat → Nat} : ∀ c v, lbN p q H c ≤ v ↔ 1000000 ≤ v ∨ ∃ u, u < c ∧ H u < 1000000 ∧ p * u + (q - p) * H u ≤ v := by
  intro c
  induction c with
  | zero => intro v; exact ⟨fun h => Or.inl h, fun h => by rcases h with h | ⟨u, hu, _⟩; exact h; omega⟩
  | succ c ih =>
    intro v
    show (if 1000000 ≤ H c then lbN p q H c else (if p * c + (q - p) * H c < lbN p q H c then p * c + (q - p) * H c else lbN p q H c)) ≤ v ↔ _
    by_cases h1 : 1000000 ≤ H c
    · rw [if_pos h1, ih]
      constructor
      · rintro (h | ⟨u, a, b⟩)
        · exact Or.inl h
        · exact Or.inr ⟨u, by omega, b⟩
      · rintro (h | ⟨u, a, b, e⟩)
        · exact Or.inl h
        · refine Or.inr ⟨u, ?_, b, e⟩
          by_cases huc : u = c
          · subst huc; omega
          · omega
    · rw [if_neg h1]
      constructor
      · intro h
        by_cases h2 : p * c + (q - p) * H c < lbN p q H c
        · rw [if_pos h2] at h; exact Or.inr ⟨c, by omega, by omega, h⟩
        · rw [if_neg h2] at h
          rcases (ih v).mp h with w | ⟨u, a, b⟩
          · exact Or.inl w
          · exact Or.inr ⟨u, by omega, b⟩
      · rintro (h | ⟨u, a, b, e⟩)
        · have := (ih v).mpr (Or.inl h)
          split <;> omega
        · by_cases huc : u = c
          · subst huc; split <;> omega
          · have := (ih v).mpr (Or.inr ⟨u, by omega, b, e⟩)
            split <;> omega
theorem mxF_le {p q : Nat} : ∀ (xs : List (Nat → Nat)) a v, xs.foldl (mxF S1 S2 p q) a ≤ v ↔ a ≤ v ∨ ∃ l ∈ xs, mvN S1 S2 p q l ≤ v := by
  intro xs
  induction xs with
  | nil => intro a v; exact ⟨fun h => Or.inl h, fun h => by rcases h with h | ⟨x, hx, _⟩; exact h; cases hx⟩
  | cons y xs ih =>
    intro a v
    show xs.foldl (mxF S1 S2 p q) (mxF S1 S2 p q a y) ≤ v ↔ _
    rw [ih]
    have e : mxF S1 S2 p q a y = if a ≤ mvN S1 S2 p q y then a else mvN S1 S2 p q y := rfl
    rw [e]
    constructor
    · rintro (h | ⟨x, hx, h⟩)
      · by_cases hc : a ≤ mvN S1 S2 p q y
        · rw [if_pos hc] at h; exact Or.inl h
        · rw [if_neg hc] at h; exact Or.inr ⟨y, List.mem_cons_self, h⟩
      · exact Or.inr ⟨x, List.mem_cons_of_mem _ hx, h⟩
    · rintro (h | ⟨x, hx, h⟩)
      · left; split <;> omega
      · rcases List.mem_cons.mp hx with w | w
        · left; rw [w] at h; split <;> omega
        · exact Or.inr ⟨x, w, h⟩
/-- both come to the same -/
theorem mix_same {p q : Nat} {xs : List (Nat → Nat)} (h1 : ∀ l, S1 l ≤ 108) (h2 : ∀ l, S2 l ≤ 108) : lbN p q (xs.foldl (hF S1 S2) (fun _ => 1000000)) 109 = xs.foldl (mxF S1 S2 p q) 1000000 := by
  have hH := hF_p (S1 := S1) (S2 := S2) xs [] (fun _ => 1000000) (fun u => ⟨Nat.le_refl _, fun w => absurd w (by first | omega | (dsimp only; omega)), fun l hl => (by cases hl)⟩)
  rw [List.nil_append] at hH
  generalize xs.foldl (hF S1 S2) (fun _ => 1000000) = H at hH
  have key : ∀ v, lbN p q H 109 ≤ v ↔ xs.foldl (mxF S1 S2 p q) 1000000 ≤ v := by
    intro v
    rw [lbN_le, mxF_le]
    constructor
    · rintro (h | ⟨u, a, b, e⟩)
      · exact Or.inl h
      · obtain ⟨l, l1, l2, l3⟩ := (hH u).2.1 b
        refine Or.inr ⟨l, l1, ?_⟩
        unfold mvN
        rw [l2, l3]
        exact e
    · rintro (h | ⟨l, l1, e⟩)
      · exact Or.inl h
      · have hle := (hH (S1 l)).2.2 l l1 rfl
        have := h1 l
        have := h2 l
        refine Or.inr ⟨S1 l, by omega, by omega, ?_⟩
        unfold mvN at e
        have := Nat.mul_le_mul_left (q - p) hle
        omega
  exact Nat.le_antisymm ((key _).mpr (Nat.le_refl _)) ((key _).mp (Nat.le_refl _))
theorem mx_b {p q : Nat} {xs : List (Nat → Nat)} (h1 : ∀ l, S1 l ≤ 108) (h2 : ∀ l, S2 l ≤ 108) (hpq : p ≤ q) (hx : xs ≠ []) : xs.foldl (mxF S1 S2 p q) 1000000 ≤ q * 108 := by
  cases xs with
  | nil => exact absurd rfl hx
  | cons l xs =>
    refine (mxF_le _ _ _).mpr (Or.inr ⟨l, List.mem_cons_self, ?_⟩)
    unfold mvN
    have a := Nat.mul_le_mul_left p (h1 l)
    have b := Nat.mul_le_mul_left (q - p) (h2 l)
    have c : p * 108 + (q - p) * 108 = q * 108 := by rw [← Nat.add_mul]; congr 1; omega
    omega
theorem mx_6 {p q a : Nat} {xs : List (Nat → Nat)} (ha : a ≤ 1000000) : xs.foldl (mxF S1 S2 p q) a ≤ 1000000 := (mxF_le _ _ _).mpr (Or.inl ha)
/-- the p by which it is greatest -/
def bpN (V : Nat → Nat) : Nat → Nat → Nat → Nat
  | 0, _, b => b
  | c + 1, p, b => bpN V c (p + 1) (if V p ≤ V b then b else p)
theorem bpN_12 {V : Nat → Nat} : ∀ c p b, p + c = 13 → b ≤ 12 → bpN V c p b ≤ 12 := by
  intro c
  induction c with
  | zero => intro p b _ h; exact h
  | succ c ih =>
    intro p b h1 h2
    exact ih (p + 1) _ (by first | omega | (dsimp only; omega)) (by split <;> omega)
end Hm
section Mxs
variable {N n d S r q : Nat} {K W F x1 x2 : Nat → Nat}
theorem SC_43 : SC 43 := ⟨rfl, rfl, rfl, rfl, rfl, rfl, by omega, by omega⟩
theorem SC_47 : SC 47 := ⟨rfl, rfl, rfl, rfl, rfl, rfl, by omega, by omega⟩
theorem call_l (hN : 100000 ≤ N) (hd9 : d ≤ 9) (hS : S ≤ 40) (hr : r < 6) (hq : q < 6) (hx1 : ∀ i, i < n → x1 i ≤ 1000) (hx2 : ∀ i, i < n → x2 i ≤ 1000) : ∀ m l i c H mm f, rkN n S l ≤ m → smN l n ≤ S → i ≤ n → c + m + 2 < 1000000 → m + 1 < f → CS mm n K W F → rd mm 3 6 = nI d → HA mm (96 + 2 * r) n x1 → HA mm (96 + 2 * q) n x2 → HA mm 34 n l → rd mm 33 1 = nI n → rd mm 33 2 = nI (S - smN l n) → SW mm 43 K W F d x1 l i → SW mm 47 K W F d x2 l i → (∀ u, u < 109 → rd mm 51 u = nI (H u)) → (∀ u, H u ≤ 1000000) → ∃ m', fX4_weighAll_29 N f 42 3 33 (96 + 2 * r) (96 + 2 * q) (nI i) (nI c) mm = some ((), m') ∧ Fr (fun k _ => k = 33 ∨ k = 34 ∨ (43 ≤ k ∧ k ≤ 51)) mm m' ∧ rd m' 46 0 = 0 ∧ rd m' 50 0 = 0 ∧ ∀ u, u < 109 → rd m' 51 u = nI ((enm n S m l).foldl (hF (fun y => scr W 0 (wn K F d x1 y) n) (fun y => scr W 0 (wn K F d x2 y) n)) H u) := by
  have one : ∀ l i c H mm f, smN l n ≤ S → i ≤ n → c < 1000000 → CS mm n K W F → rd mm 3 6 = nI d → HA mm (96 + 2 * r) n x1 → HA mm (96 + 2 * q) n x2 → HA mm 34 n l → rd mm 33 1 = nI n → rd mm 33 2 = nI (S - smN l n) → SW mm 43 K W F d x1 l i → SW mm 47 K W F d x2 l i → (∀ u, u < 109 → rd mm 51 u = nI (H u)) → (∀ u, H u ≤ 1000000) → ∃ m1 m2, Fr (fun k _ => 43 ≤ k ∧ k ≤ 51) mm m1 ∧ Fr (fun k j => (k = 33 ∧ j = 2) ∨ k = 34) m1 m2 ∧ SW m2 43 K W F d x1 l n ∧ SW m2 47 K W F d x2 l n ∧ (∀ u, u < 109 → rd m2 51 u = nI (hF (fun y => scr W 0 (wn K F d x1 y) n) (fun y => scr W 0 (wn K F d x2 y) n) H l u)) ∧ ((nxR n l (S - smN l n) = none ∧ fX3_next N 33 m1 = some (-9, m2)) ∨ ∃ p, nxR n l (S - smN l n) = some p ∧ fX3_next N 33 m1 = some (nI p.1, m2) ∧ HA m2 34 n p.2 ∧ rd m2 33 2 = nI (S - smN p.2 n)) ∧ ∀ R x, fX3_next N 33 m1 = some (x, m2) → fX4_weighAll_29 N f 42 3 33 (96 + 2 * r) (96 + 2 * q) x (nI (c + 1)) m2 = R → fX4_weighAll_29 N (f + 1) 42 3 33 (96 + 2 * r) (96 + 2 * q) (nI i) (nI c) mm = R := by
    intro l i c H mm f hsl hi hc C hd h1 h2 hL g1 g2 w1 w2 hH hH6
    have hn := C.2.1
    have hl40 : ∀ i, i < n → l i ≤ 1000 := fun i hi => by have := smN_at (l := l) hi; omega
    obtain ⟨ma, a1, a2, a3, a4, -⟩ := weigh_e (N := N) (d := d) (x := x1) (y := l) (i := i) hN SC_43 hd9 (ln_row hr) rfl (by first | omega | (dsimp only; omega)) (by decide) (by first | omega | (dsimp only; omega)) (by first | omega | (dsimp only; omega)) hx1 hl40 hi C hd h1 hL w1
    have Ca : CS ma n K W F := CS_c C (fun k j e => a2.2 _ _ (by first | omega | (dsimp only; omega)))
    obtain ⟨mb, b1, b2, b3, b4, -⟩ := weigh_e (N := N) (d := d) (x := x2) (y := l) (i := i) hN SC_47 hd9 (ln_row hq) rfl (by first | omega | (dsimp only; omega)) (by decide) (by first | omega | (dsimp only; omega)) (by first | omega | (dsimp only; omega)) hx2 hl40 hi Ca (by rw [a2.2 _ _ (by first | omega | (dsimp only; omega))]; exact hd) (h2.c (fun j hj => a2.2 _ _ (by first | omega | (dsimp only; omega)))) (hL.c (fun j hj => a2.2 _ _ (by first | omega | (dsimp only; omega)))) (w2.c (fun k j e => a2.2 _ _ (by first | omega | (dsimp only; omega))))
    have hs1 := scr_b (W := W) (w := wn K F d x1 l) (s := 0) (n := n) (fun j hj => (C.2.2 j hj).2.2.2.1) hn
    have hs2 := scr_b (W := W) (w := wn K F d x2 l) (s := 0) (n := n) (fun j hj => (C.2.2 j hj).2.2.2.1) hn
    obtain ⟨s1, es1⟩ : ∃ s, s = scr W 0 (wn K F d x1 l) n := ⟨_, rfl⟩
    obtain ⟨s2, es2⟩ : ∃ s, s = scr W 0 (wn K F d x2 l) n := ⟨_, rfl⟩
    rw [← es1] at hs1 a4
    rw [← es2] at hs2 b4
    have hH' : ∀ u, hF (fun y => scr W 0 (wn K F d x1 y) n) (fun y => scr W 0 (wn K F d x2 y) n) H l u = if u = s1 then (if s2 < H u then s2 else H u) else H u := fun u => by
      show (if u = scr W 0 (wn K F d x1 l) n then (if scr W 0 (wn K F d x2 l) n < H u then scr W 0 (wn K F d x2 l) n else H u) else H u) = _
      rw [← es1, ← es2]
    have hf0 : Fr (fun k _ => 43 ≤ k ∧ k ≤ 51) mm (wr mb 51 s1 (nI (if s2 < H s1 then s2 else H s1))) := fr_wr ((a2.mono (fun k j e => by omega)).tr (b2.mono (fun k j e => by omega))) (by first | omega | (dsimp only; omega))
    obtain ⟨m2, n1, n2⟩ := cnext_e (N := N) (S := S) (l := l) (mm := wr mb 51 s1 (nI (if s2 < H s1 then s2 else H s1))) hN hn hS (hL.c (fun j hj => hf0.2 _ _ (by first | omega | (dsimp only; omega)))) (by rw [hf0.2 _ _ (by first | omega | (dsimp only; omega))]; exact g1) (by rw [hf0.2 _ _ (by first | omega | (dsimp only; omega))]; exact g2) hsl
    refine ⟨_, m2, hf0, n1, a3.c (fun k j e => by rw [n1.2 _ _ (by first | omega | (dsimp only; omega)), rd_wr_k (by first | omega | (dsimp only; omega)), b2.2 _ _ (by first | omega | (dsimp only; omega))]), b3.c (fun k j e => by rw [n1.2 _ _ (by first | omega | (dsimp only; omega)), rd_wr_k (by first | omega | (dsimp only; omega))]), fun u hu => ?_, n2, fun R x hx hR => ?_⟩
    · rw [n1.2 _ _ (by first | omega | (dsimp only; omega)), hH' u]
      by_cases hus : u = s1
      · subst hus; rw [rd_wr_s, if_pos rfl]
      · rw [rd_wr_j hus, if_neg hus, b2.2 _ _ (by first | omega | (dsimp only; omega)), a2.2 _ _ (by first | omega | (dsimp only; omega))]
        exact hH u hu
    · have e43 : rd mb 43 3 = nI s1 := by rw [b2.2 _ _ (by first | omega | (dsimp only; omega))]; exact a4
      have e51 : rd mb 51 s1 = nI (H s1) := by rw [b2.2 _ _ (by first | omega | (dsimp only; omega)), a2.2 _ _ (by first | omega | (dsimp only; omega))]; exact hH s1 (by first | omega | (dsimp only; omega))
      have hmin : (if nI s2 < nI (H s1) then nI s2 else nI (H s1)) = nI (if s2 < H s1 then s2 else H s1) := by
        have := hH6 s1
        by_cases hc : s2 < H s1
        · rw [if_pos hc, if_pos (nI_lt hc (by first | omega | (dsimp only; omega)))]
        · rw [if_neg hc, if_neg (nI_nlt (by first | omega | (dsimp only; omega)) (by first | omega | (dsimp only; omega)))]
      unfold fX4_weighAll_29 fX4_weighAll_131
      simp only [LXb, nI_1]
      refine st_f (nI_pos (by first | omega | (dsimp only; omega))) (st_f (nI_ge (b := 1000000) (by first | omega | (dsimp only; omega)) (by first | omega | (dsimp only; omega))) (st_b a1 (st_b b1 ?_)))
      rw [e43, b4, nI_nat (show s1 < 2147483648 by omega), e51, hmin]
      exact st_f (nI_pos (by first | omega | (dsimp only; omega))) (st_f (nI_ge (b := 109) (by first | omega | (dsimp only; omega)) (by first | omega | (dsimp only; omega))) (st_k rfl (by first | omega | (dsimp only; omega)) (by first | omega | (dsimp only; omega)) (st_n (st_k rfl (by first | omega | (dsimp only; omega)) (by first | omega | (dsimp only; omega)) (st_n (st_b hx hR))))))
  intro m
  induction m with
  | zero =>
    intro l i c H mm f hrk hsl hi hc hf C hd h1 h2 hL g1 g2 w1 w2 hH hH6
    obtain ⟨f, rfl⟩ : ∃ g, f = g + 1 := ⟨f - 1, by omega⟩
    obtain ⟨f, rfl⟩ : ∃ g, f = g + 1 := ⟨f - 1, by omega⟩
    obtain ⟨ma, mb, a1, a2, a3, a4, a5, a6, a7⟩ := one l i c H mm (f + 1) hsl hi (by first | omega | (dsimp only; omega)) C hd h1 h2 hL g1 g2 w1 w2 hH hH6
    have hnx : fX3_next N 33 ma = some (-9, mb) := by
      rcases a6 with ⟨-, q⟩ | ⟨p', q, -⟩
      · exact q
      · have := (nx_rk hsl q).2.2.2; omega
    refine ⟨mb, a7 _ _ hnx ?_, (a1.mono (fun k j e => by omega)).tr (a2.mono (fun k j e => by omega)), a3.2 0 (by first | omega | (dsimp only; omega)), a4.2 0 (by first | omega | (dsimp only; omega)), a5⟩
    unfold fX4_weighAll_29
    exact st_t (by decide) rfl
  | succ m ih =>
    intro l i c H mm f hrk hsl hi hc hf C hd h1 h2 hL g1 g2 w1 w2 hH hH6
    obtain ⟨f, rfl⟩ : ∃ g, f = g + 1 := ⟨f - 1, by omega⟩
    obtain ⟨ma, mb, a1, a2, a3, a4, a5, a6, a7⟩ := one l i c H mm f hsl hi (by first | omega | (dsimp only; omega)) C hd h1 h2 hL g1 g2 w1 w2 hH hH6
    have hf12 : Fr (fun k _ => k = 33 ∨ k = 34 ∨ (43 ≤ k ∧ k ≤ 51)) mm mb := (a1.mono (fun k j e => by omega)).tr (a2.mono (fun k j e => by omega))
    rcases a6 with ⟨b1, b2⟩ | ⟨p', b1, b2, b3, b4⟩
    · rw [enm_z b1]
      refine ⟨mb, a7 _ _ b2 ?_, hf12, a3.2 0 (by first | omega | (dsimp only; omega)), a4.2 0 (by first | omega | (dsimp only; omega)), a5⟩
      obtain ⟨f, rfl⟩ : ∃ g, f = g + 1 := ⟨f - 1, by omega⟩
      unfold fX4_weighAll_29
      exact st_t (by decide) rfl
    · obtain ⟨o1, o2, o3, o4⟩ := nx_rk hsl b1
      rw [enm_u b1]
      have hk : ∀ j, j < n → K j = 5 → F j < j := fun j hj => (C.2.2 j hj).2.2.2.2.2.2.1
      have hn := C.2.1
      obtain ⟨m', r1, r2, r3, r4, r5⟩ := ih p'.2 p'.1 (c + 1) (hF (fun y => scr W 0 (wn K F d x1 y) n) (fun y => scr W 0 (wn K F d x2 y) n) H l) mb f (by first | omega | (dsimp only; omega)) o3 (by first | omega | (dsimp only; omega)) (by first | omega | (dsimp only; omega)) (by first | omega | (dsimp only; omega)) (CS_c C (fun k j e => hf12.2 _ _ (by first | omega | (dsimp only; omega)))) (by rw [hf12.2 _ _ (by first | omega | (dsimp only; omega))]; exact hd) (h1.c (fun j hj => hf12.2 _ _ (by first | omega | (dsimp only; omega)))) (h2.c (fun j hj => hf12.2 _ _ (by first | omega | (dsimp only; omega)))) b3 (by rw [a2.2 _ _ (by first | omega | (dsimp only; omega)), a1.2 _ _ (by first | omega | (dsimp only; omega))]; exact g1) b4 (SW_preY a3 hk (by first | omega | (dsimp only; omega)) o2) (SW_preY a4 hk (by first | omega | (dsimp only; omega)) o2) a5 (fun u => by
        show (if u = scr W 0 (wn K F d x1 l) n then (if scr W 0 (wn K F d x2 l) n < H u then scr W 0 (wn K F d x2 l) n else H u) else H u) ≤ 1000000
        have := hH6 u
        split <;> (try split) <;> omega)
      exact ⟨m', a7 _ _ b2 r1, hf12.tr r2, r3, r4, r5⟩
theorem cleast_l {p t : Nat} {H : Nat → Nat} {mm : Mm} (hp : p ≤ t) (ht : t ≤ 99) (hH : ∀ u, u < 109 → rd mm 51 u = nI (H u)) (hH6 : ∀ u, u < 109 → H u ≤ 1000000 ∧ (H u < 1000000 → H u ≤ 108)) : ∀ c i, i + c = 109 → ∀ f, c < f → fX4_leastBy_6 N f 42 (nI p) (nI t) (nI (lbN p t H i)) (nI i) mm = some (nI (lbN p t H 109), mm) := by
  have hb : ∀ i, lbN p t H i ≤ 1000000 := fun i => (lbN_le i _).mpr (Or.inl (Nat.le_refl _))
  intro c
  induction c with
  | zero =>
    intro i hi f hf
    obtain ⟨f, rfl⟩ : ∃ g, f = g + 1 := ⟨f - 1, by omega⟩
    obtain rfl : i = 109 := by omega
    unfold fX4_leastBy_6
    exact st_t (by decide) rfl
  | succ c ih =>
    intro i hi f hf
    obtain ⟨f, rfl⟩ : ∃ g, f = g + 1 := ⟨f - 1, by omega⟩
    have ih2 := ih (i + 1) (by first | omega | (dsimp only; omega)) f (by first | omega | (dsimp only; omega))
    have hu : lbN p t H (i + 1) = if 1000000 ≤ H i then lbN p t H i else (if p * i + (t - p) * H i < lbN p t H i then p * i + (t - p) * H i else lbN p t H i) := rfl
    rw [hu] at ih2
    obtain ⟨q1, q2⟩ := hH6 i (by first | omega | (dsimp only; omega))
    have hbi := hb i
    unfold fX4_leastBy_6 fX4_leastBy_49
    simp only [LXb, nI_nat (show i < 2147483648 by omega), nI_1]
    refine st_f (nI_ge (b := 109) (by first | omega | (dsimp only; omega)) (by first | omega | (dsimp only; omega))) (st_k rfl (by first | omega | (dsimp only; omega)) (by first | omega | (dsimp only; omega)) ?_)
    rw [hH i (by first | omega | (dsimp only; omega))]
    by_cases hc : 1000000 ≤ H i
    · rw [if_pos hc] at ih2
      exact st_t (nI_le (a := 1000000) hc (by first | omega | (dsimp only; omega))) ih2
    · rw [if_neg hc] at ih2
      have h108 := q2 (by first | omega | (dsimp only; omega))
      refine st_f (nI_ge (b := 1000000) (by first | omega | (dsimp only; omega)) (by first | omega | (dsimp only; omega))) (st_k rfl (by first | omega | (dsimp only; omega)) (by first | omega | (dsimp only; omega)) (st_n ?_))
      have hm1 : p * i ≤ 99 * 109 := Nat.mul_le_mul (by first | omega | (dsimp only; omega)) (by first | omega | (dsimp only; omega))
      have hm2 : (t - p) * H i ≤ 99 * 108 := Nat.mul_le_mul (by first | omega | (dsimp only; omega)) h108
      rw [nI_sub hp, nI_mul, nI_mul, nI_add]
      by_cases hl : p * i + (t - p) * H i < lbN p t H i
      · rw [if_pos hl] at ih2
        rw [if_pos (nI_lt hl (by first | omega | (dsimp only; omega)))]
        exact ih2
      · rw [if_neg hl] at ih2
        rw [if_neg (nI_nlt (by first | omega | (dsimp only; omega)) (by first | omega | (dsimp only; omega)))]
        exact ih2
theorem cleast_e {p t : Nat} {H : Nat → Nat} {mm : Mm} (hN : 100000 ≤ N) (hp : p ≤ t) (ht : t ≤ 99) (hH : ∀ u, u < 109 → rd mm 51 u = nI (H u)) (hH6 : ∀ u, u < 109 → H u ≤ 1000000 ∧ (H u < 1000000 → H u ≤ 108)) : fX4_leastBy N 42 (nI p) (nI t) mm = some (nI (lbN p t H 109), mm) := cleast_l hp ht hH hH6 109 0 (by first | omega | (dsimp only; omega)) N (by first | omega | (dsimp only; omega))
theorem cparts_l {H : Nat → Nat} {mm : Mm} (hN : 100000 ≤ N) (hH : ∀ u, u < 109 → rd mm 51 u = nI (H u)) (hH6 : ∀ u, u < 109 → H u ≤ 1000000 ∧ (H u < 1000000 → H u ≤ 108)) : ∀ c p b, p + c = 13 → b ≤ 12 → ∀ f, c < f → fX4_bestParts_4 N f 42 (nI b) (nI p) mm = some (nI (bpN (fun p => lbN p 12 H 109) c p b), mm) := by
  have hb6 : ∀ p, lbN p 12 H 109 ≤ 1000000 := fun p => (lbN_le 109 _).mpr (Or.inl (Nat.le_refl _))
  intro c
  induction c with
  | zero =>
    intro p b hp hb f hf
    obtain ⟨f, rfl⟩ : ∃ g, f = g + 1 := ⟨f - 1, by omega⟩
    unfold fX4_bestParts_4
    exact st_t (nI_lt (by first | omega | (dsimp only; omega)) (by first | omega | (dsimp only; omega))) rfl
  | succ c ih =>
    intro p b hp hb f hf
    obtain ⟨f, rfl⟩ : ∃ g, f = g + 1 := ⟨f - 1, by omega⟩
    have h1 := hb6 p
    have h2 := hb6 b
    have hu : bpN (fun p => lbN p 12 H 109) (c + 1) p b = bpN (fun p => lbN p 12 H 109) c (p + 1) (if lbN p 12 H 109 ≤ lbN b 12 H 109 then b else p) := rfl
    rw [hu]
    unfold fX4_bestParts_4 fX4_bestParts_29
    simp only [nI_1]
    refine st_f (nI_nlt (by first | omega | (dsimp only; omega)) (by first | omega | (dsimp only; omega))) (st_b (cleast_e (t := 12) hN (by first | omega | (dsimp only; omega)) (by first | omega | (dsimp only; omega)) hH hH6) (st_b (cleast_e (t := 12) hN (by first | omega | (dsimp only; omega)) (by first | omega | (dsimp only; omega)) hH hH6) ?_))
    by_cases hc : lbN p 12 H 109 ≤ lbN b 12 H 109
    · rw [if_pos hc]
      exact st_t (nI_le hc (by first | omega | (dsimp only; omega))) (ih (p + 1) b (by first | omega | (dsimp only; omega)) hb f (by first | omega | (dsimp only; omega)))
    · rw [if_neg hc]
      exact st_f (nI_ge (by first | omega | (dsimp only; omega)) (by first | omega | (dsimp only; omega))) (ih (p + 1) p (by first | omega | (dsimp only; omega)) (by first | omega | (dsimp only; omega)) f (by first | omega | (dsimp only; omega)))
end Mxs
