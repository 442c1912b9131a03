/-! pure: all layings, one after another -/
/-- the laying behind one: c suits are looked at yet, so many sheets are left -/
def nxR : Nat → (Nat → Nat) → Nat → Option (Nat × (Nat → Nat))
  | 0, _, _ => none
  | i + 1, l, left => if 0 < left then some (i, up l i (l i + 1)) else nxR i (up l i 0) (left + l i)
theorem smN_up {l : Nat → Nat} {i v : Nat} : ∀ n, smN (up l i v) n = if i < n then smN l n - l i + v else smN l n := by
  intro n
  induction n with
  | zero => rw [if_neg (by first | omega | (dsimp only; omega))]; rfl
  | succ n ih =>
    show smN (up l i v) n + up l i v n = _
    rw [ih]
    have hs : smN l (n + 1) = smN l n + l n := rfl
    rw [hs]
    by_cases h : i < n
    · have hle : l i ≤ smN l n := Nat.le_trans (Nat.le_add_left _ _) (smN_mono (f := l) (i := i + 1) (n := n) (by first | omega | (dsimp only; omega)))
      rw [if_pos h, if_pos (by first | omega | (dsimp only; omega)), up_o (by first | omega | (dsimp only; omega))]
      omega
    · rw [if_neg h]
      by_cases h2 : i = n
      · subst h2; rw [if_pos (by first | omega | (dsimp only; omega)), up_s]; omega
      · rw [if_neg (by first | omega | (dsimp only; omega)), up_o (by first | omega | (dsimp only; omega))]
theorem smN_at {l : Nat → Nat} {i n : Nat} (h : i < n) : l i ≤ smN l n := Nat.le_trans (Nat.le_add_left _ _) (smN_mono (f := l) (i := i + 1) (n := n) (by first | omega | (dsimp only; omega)))
theorem nxR_p {n S : Nat} : ∀ c l left, c ≤ n → smN l n + left = S → ∀ p, nxR c l left = some p → p.1 < c ∧ (∀ j, j < p.1 → p.2 j = l j) ∧ p.2 p.1 = l p.1 + 1 ∧ smN p.2 n ≤ S := by
  intro c
  induction c with
  | zero => intro l left _ _ p hp; cases hp
  | succ i ih =>
    intro l left hc hs p hp
    unfold nxR at hp
    by_cases h : 0 < left
    · rw [if_pos h] at hp
      cases hp
      refine ⟨by show i < i + 1; omega, fun j hj => up_o (by show j ≠ i; have : j < i := hj; omega), up_s, ?_⟩
      show smN (up l i (l i + 1)) n ≤ S
      have := smN_at (l := l) (i := i) (n := n) (by first | omega | (dsimp only; omega))
      rw [smN_up, if_pos (by first | omega | (dsimp only; omega))]
      omega
    · rw [if_neg h] at hp
      have hat := smN_at (l := l) (i := i) (n := n) (by first | omega | (dsimp only; omega))
      obtain ⟨h1, h2, h3, h4⟩ := ih (up l i 0) (left + l i) (by first | omega | (dsimp only; omega)) (by rw [smN_up, if_pos (by first | omega | (dsimp only; omega))]; omega) p hp
      refine ⟨by omega, fun j hj => ?_, ?_, h4⟩
      · rw [h2 j hj, up_o (by first | omega | (dsimp only; omega))]
      · rw [h3, up_o (by first | omega | (dsimp only; omega))]
/-- how many layings of k suits of at most s sheets -/
def cnt : Nat → Nat → Nat
  | 0, _ => 1
  | k + 1, s => smN (cnt k) (s + 1)
/-- how many layings come behind one -/
def rkR (l : Nat → Nat) : Nat → Nat → Nat → Nat
  | 0, _, _ => 0
  | k + 1, i, s => rkR l k (i + 1) (s - l i) + smN (cnt k) (s - l i)
theorem rk_cnt {l : Nat → Nat} : ∀ k i s, rkR l k i s < cnt k s := by
  intro k
  induction k with
  | zero => intro i s; show 0 < 1; omega
  | succ k ih =>
    intro i s
    have h1 := ih (i + 1) (s - l i)
    have h2 : smN (cnt k) (s - l i + 1) = smN (cnt k) (s - l i) + cnt k (s - l i) := rfl
    have h3 := smN_mono (f := cnt k) (i := s - l i + 1) (n := s + 1) (by first | omega | (dsimp only; omega))
    show rkR l k (i + 1) (s - l i) + smN (cnt k) (s - l i) < smN (cnt k) (s + 1)
    omega
theorem rk_lt {l l' : Nat → Nat} {p : Nat} : ∀ k i s, i ≤ p → p < i + k → (∀ j, j < p → l' j = l j) → l' p = l p + 1 → smN l' (p + 1) ≤ smN l' i + s → rkR l' k i s < rkR l k i s := by
  intro k
  induction k with
  | zero => intro i s h1 h2; omega
  | succ k ih =>
    intro i s h1 h2 h3 h4 h5
    show rkR l' k (i + 1) (s - l' i) + smN (cnt k) (s - l' i) < rkR l k (i + 1) (s - l i) + smN (cnt k) (s - l i)
    have hs1 : smN l' (i + 1) = smN l' i + l' i := rfl
    by_cases hp : p = i
    · subst hp
      have hlt := rk_cnt (l := l') k (p + 1) (s - l' p)
      have h6 : smN (cnt k) (s - l' p + 1) = smN (cnt k) (s - l' p) + cnt k (s - l' p) := rfl
      have h7 : s - l p = s - l' p + 1 := by omega
      rw [h7]
      omega
    · have hm := smN_mono (f := l') (i := i + 1) (n := p + 1) (by first | omega | (dsimp only; omega))
      rw [h3 i (by first | omega | (dsimp only; omega))] at hs1 ⊢
      have := ih (i + 1) (s - l i) (by first | omega | (dsimp only; omega)) (by first | omega | (dsimp only; omega)) h3 h4 (by first | omega | (dsimp only; omega))
      omega
/-- the rank of a laying -/
def rkN (n S : Nat) (l : Nat → Nat) : Nat := rkR l n 0 S
theorem nx_rk {n S : Nat} {l : Nat → Nat} {p : Nat × (Nat → Nat)} (hs : smN l n ≤ S) (hp : nxR n l (S - smN l n) = some p) : p.1 < n ∧ (∀ j, j < p.1 → p.2 j = l j) ∧ smN p.2 n ≤ S ∧ rkN n S p.2 < rkN n S l := by
  obtain ⟨h1, h2, h3, h4⟩ := nxR_p (n := n) (S := S) n l (S - smN l n) (Nat.le_refl _) (by first | omega | (dsimp only; omega)) p hp
  refine ⟨h1, h2, h4, rk_lt n 0 S (by first | omega | (dsimp only; omega)) (by first | omega | (dsimp only; omega)) h2 h3 ?_⟩
  have := smN_mono (f := p.2) (i := p.1 + 1) (n := n) (by first | omega | (dsimp only; omega))
  show _ ≤ 0 + S
  omega
/-- one laying and all behind it -/
def enm (n S : Nat) : Nat → (Nat → Nat) → List (Nat → Nat)
  | 0, l => [l]
  | m + 1, l => l :: match nxR n l (S - smN l n) with
    | none => []
    | some p => enm n S m p.2
theorem cnt_mono (k : Nat) {s s' : Nat} (h : s ≤ s') : cnt k s ≤ cnt k s' := by
  cases k with
  | zero => exact Nat.le_refl _
  | succ k => exact smN_mono (by first | omega | (dsimp only; omega))
theorem cnt_12 {k s : Nat} (hk : k ≤ 6) (hs : s ≤ 12) : cnt k s ≤ 18564 := by
  refine Nat.le_trans (cnt_mono k hs) ?_
  rcases (by omega : k = 0 ∨ k = 1 ∨ k = 2 ∨ k = 3 ∨ k = 4 ∨ k = 5 ∨ k = 6) with rfl | rfl | rfl | rfl | rfl | rfl | rfl <;> decide +kernel
section Nx
variable {N n S : Nat} {K W F : Nat → Nat}
theorem nI_m1 (c : Nat) : nI c + (-1) = nI c - 1 := by rw [Int32.sub_eq_add_neg]
theorem cnext_l (hn6 : n ≤ 6) (hS : S ≤ 40) : ∀ c l left mm, c ≤ n → HA mm 34 n l → rd mm 33 2 = nI left → smN l n + left = S → ∀ f, c < f → ∃ m', Fr (fun k j => (k = 33 ∧ j = 2) ∨ k = 34) mm m' ∧ ((nxR c l left = none ∧ fX3_next_7 N f 33 (nI c - 1) mm = some (-9, m')) ∨ ∃ p, nxR c l left = some p ∧ fX3_next_7 N f 33 (nI c - 1) mm = some (nI p.1, m') ∧ HA m' 34 n p.2 ∧ rd m' 33 2 = nI (S - smN p.2 n)) := by
  intro c
  induction c with
  | zero =>
    intro l left mm hc hH hl hs f hf
    obtain ⟨f, rfl⟩ : ∃ g, f = g + 1 := ⟨f - 1, by omega⟩
    refine ⟨mm, Fr.rf, Or.inl ⟨rfl, ?_⟩⟩
    unfold fX3_next_7
    exact st_t (by decide) rfl
  | succ i ih =>
    intro l left mm hc hH hl hs f hf
    obtain ⟨f, rfl⟩ : ∃ g, f = g + 1 := ⟨f - 1, by omega⟩
    have hat := smN_at (l := l) (i := i) (n := n) (by first | omega | (dsimp only; omega))
    rw [nI_pred]
    unfold fX3_next_7 nxR
    simp only [LXb, nI_nat (show i < 2147483648 by omega), hl, nI_m1]
    by_cases h0 : 0 < left
    · rw [if_pos h0]
      refine ⟨wr (wr mm 34 i (nI (l i + 1))) 33 2 (nI (left - 1)), fr_wr (fr_wr Fr.rf (by first | omega | (dsimp only; omega))) (by first | omega | (dsimp only; omega)), Or.inr ⟨(i, up l i (l i + 1)), rfl, ?_, fun j hj => ?_, ?_⟩⟩
      · refine st_f (nI_pos (by first | omega | (dsimp only; omega))) (st_f (nI_nle h0 (by first | omega | (dsimp only; omega))) (st_k rfl (by first | omega | (dsimp only; omega)) (by first | omega | (dsimp only; omega)) (st_k rfl (by first | omega | (dsimp only; omega)) (by first | omega | (dsimp only; omega)) (st_n (st_n ?_)))))
        rw [hH i (by first | omega | (dsimp only; omega)), nI_1, rd_wr_k (by first | omega | (dsimp only; omega)), hl, show (1 : Int32) = nI 1 from rfl, nI_sub (by first | omega | (dsimp only; omega))]
      · show rd _ 34 j = nI (up l i (l i + 1) j)
        rw [rd_wr_k (by first | omega | (dsimp only; omega))]
        by_cases hji : j = i
        · subst hji; rw [rd_wr_s, up_s]
        · rw [rd_wr_j hji, up_o hji]; exact hH j hj
      · show rd _ 33 2 = nI (S - smN (up l i (l i + 1)) n)
        rw [rd_wr_s, smN_up, if_pos (by first | omega | (dsimp only; omega)), show left - 1 = S - (smN l n - l i + (l i + 1)) by omega]
    · rw [if_neg h0]
      have hl0 : left = 0 := by omega
      subst hl0
      have hfr : Fr (fun k j => (k = 33 ∧ j = 2) ∨ k = 34) mm (wr (wr mm 33 2 (nI (0 + l i))) 34 i 0) := fr_wr (fr_wr Fr.rf (by first | omega | (dsimp only; omega))) (by first | omega | (dsimp only; omega))
      obtain ⟨m', a1, a2⟩ := ih (up l i 0) (0 + l i) (wr (wr mm 33 2 (nI (0 + l i))) 34 i 0) (by first | omega | (dsimp only; omega)) (fun j hj => by
        by_cases hji : j = i
        · subst hji; rw [rd_wr_s, up_s]; rfl
        · rw [rd_wr_j hji, rd_wr_k (by first | omega | (dsimp only; omega)), up_o hji]; exact hH j hj) (by rw [rd_wr_k (by first | omega | (dsimp only; omega)), rd_wr_s]) (by rw [smN_up, if_pos (by first | omega | (dsimp only; omega))]; omega) f (by first | omega | (dsimp only; omega))
      have step : ∀ R, fX3_next_7 N f 33 (nI i - 1) (wr (wr mm 33 2 (nI (0 + l i))) 34 i 0) = R → (if nI i < 0 then (some (-9, mm)) else (if nI 0 ≤ 0 then (gd (inb (nI i) 6) <| nm (wr mm 33 2 (nI 0 + rd mm 34 i)) fun m4 => gd (inb (nI i) 6) <| nm (wr m4 34 i 0) fun m6 => fX3_next_7 N f 33 (nI i - 1) m6) else (gd (inb (nI i) 6) <| gd (inb (nI i) 6) <| nm (wr mm 34 i (rd mm 34 i + 1)) fun m9 => nm (wr m9 33 2 (rd m9 33 2 - 1)) fun m10 => some (nI i, m10)))) = R := by
        intro R hR
        refine st_f (nI_pos (by first | omega | (dsimp only; omega))) (st_t (by decide) (st_k rfl (by first | omega | (dsimp only; omega)) (by first | omega | (dsimp only; omega)) (st_n (st_k rfl (by first | omega | (dsimp only; omega)) (by first | omega | (dsimp only; omega)) (st_n ?_)))))
        rw [hH i (by first | omega | (dsimp only; omega)), nI_add]
        exact hR
      refine ⟨m', hfr.tr a1, ?_⟩
      rcases a2 with ⟨b1, b2⟩ | ⟨p, b1, b2, b3, b4⟩
      · exact Or.inl ⟨b1, step _ b2⟩
      · exact Or.inr ⟨p, b1, step _ b2, b3, b4⟩
/-- the class' next laying -/
theorem cnext_e {l : Nat → Nat} {mm : Mm} (hN : 100000 ≤ N) (hn6 : n ≤ 6) (hS : S ≤ 40) (hH : HA mm 34 n l) (h1 : rd mm 33 1 = nI n) (h2 : rd mm 33 2 = nI (S - smN l n)) (hs : smN l n ≤ S) : ∃ m', Fr (fun k j => (k = 33 ∧ j = 2) ∨ k = 34) mm m' ∧ ((nxR n l (S - smN l n) = none ∧ fX3_next N 33 mm = some (-9, m')) ∨ ∃ p, nxR n l (S - smN l n) = some p ∧ fX3_next N 33 mm = some (nI p.1, m') ∧ HA m' 34 n p.2 ∧ rd m' 33 2 = nI (S - smN p.2 n)) := by
  obtain ⟨m', a1, a2⟩ := cnext_l (N := N) hn6 hS n l (S - smN l n) mm (Nat.le_refl _) hH h2 (by first | omega | (dsimp only; omega)) N (by first | omega | (dsimp only; omega))
  refine ⟨m', a1, ?_⟩
  unfold fX3_next
  rw [h1]
  exact a2
theorem cbegin_e {mm : Mm} (hN : 100000 ≤ N) (hn6 : n ≤ 6) (hS : S ≤ 40) : ∃ m', fX3_begin N 33 (nI n) (nI S) mm = some ((), m') ∧ Fr (fun k _ => k = 33 ∨ k = 34) mm m' ∧ HA m' 34 n (fun _ => 0) ∧ rd m' 33 1 = nI n ∧ rd m' 33 2 = nI S := by
  obtain ⟨m', a1, a2, a3⟩ := fill_ok (N := N) (k := 34) (v := 0) (mm := wr (wr mm 33 1 (nI n)) 33 2 (nI S)) hN rfl (by decide)
  refine ⟨m', ?_, (fr_wr (fr_wr Fr.rf (by first | omega | (dsimp only; omega))) (by first | omega | (dsimp only; omega))).tr (a2.mono (fun k j e => by omega)), fun i hi => a3 i (by show i < 6; omega), ?_, ?_⟩
  · unfold fX3_begin
    simp only [LXb]
    refine st_n ?_
    have e1 : (if (6 : Int32) < nI n then 6 else nI n) = nI n := if_neg (nI_nlt (a := 6) (by first | omega | (dsimp only; omega)) (by first | omega | (dsimp only; omega)))
    rw [e1]
    exact st_n (st_n (st_b a1 rfl))
  · rw [a2.2 _ _ (by first | omega | (dsimp only; omega)), rd_wr_j (by first | omega | (dsimp only; omega)), rd_wr_s]
  · rw [a2.2 _ _ (by first | omega | (dsimp only; omega)), rd_wr_s]
-- the model's
theorem mnext_l (hn6 : n ≤ 6) (hS : S ≤ 40) : ∀ c l sum mm, c ≤ n → HA mm 190 n l → smN l n = sum → sum ≤ S → ∀ f, c < f → ∃ m', Fr (fun k _ => k = 190) mm m' ∧ ((nxR c l (S - sum) = none ∧ fX12_nextStep_34 N f 175 (nI S) (nI sum) (nI c - 1) mm = some (0, m')) ∨ ∃ p, nxR c l (S - sum) = some p ∧ fX12_nextStep_34 N f 175 (nI S) (nI sum) (nI c - 1) mm = some (1, m') ∧ HA m' 190 n p.2) := by
  intro c
  induction c with
  | zero =>
    intro l sum mm hc hH hs hsS f hf
    obtain ⟨f, rfl⟩ : ∃ g, f = g + 1 := ⟨f - 1, by omega⟩
    refine ⟨mm, Fr.rf, Or.inl ⟨rfl, ?_⟩⟩
    unfold fX12_nextStep_34
    exact st_t (by decide) rfl
  | succ i ih =>
    intro l sum mm hc hH hs hsS f hf
    obtain ⟨f, rfl⟩ : ∃ g, f = g + 1 := ⟨f - 1, by omega⟩
    have hat := smN_at (l := l) (i := i) (n := n) (by first | omega | (dsimp only; omega))
    rw [nI_pred]
    unfold fX12_nextStep_34 nxR
    simp only [LXm, nI_nat (show i < 2147483648 by omega), nI_m1]
    by_cases h0 : 0 < S - sum
    · rw [if_pos h0]
      refine ⟨wr mm 190 i (nI (l i + 1)), fr_wr Fr.rf rfl, Or.inr ⟨(i, up l i (l i + 1)), rfl, ?_, fun j hj => ?_⟩⟩
      · refine st_f (nI_pos (by first | omega | (dsimp only; omega))) (st_f (nI_ge (by first | omega | (dsimp only; omega)) (by first | omega | (dsimp only; omega))) (st_k rfl (by first | omega | (dsimp only; omega)) (by first | omega | (dsimp only; omega)) (st_k rfl (by first | omega | (dsimp only; omega)) (by first | omega | (dsimp only; omega)) (st_n ?_))))
        rw [hH i (by first | omega | (dsimp only; omega)), nI_1]
      · show rd _ 190 j = nI (up l i (l i + 1) j)
        by_cases hji : j = i
        · subst hji; rw [rd_wr_s, up_s]
        · rw [rd_wr_j hji, up_o hji]; exact hH j hj
    · rw [if_neg h0]
      have hfr : Fr (fun k _ => k = 190) mm (wr mm 190 i 0) := fr_wr Fr.rf rfl
      obtain ⟨m', a1, a2⟩ := ih (up l i 0) (sum - l i) (wr mm 190 i 0) (by first | omega | (dsimp only; omega)) (fun j hj => by
        by_cases hji : j = i
        · subst hji; rw [rd_wr_s, up_s]; rfl
        · rw [rd_wr_j hji, up_o hji]; exact hH j hj) (by rw [smN_up, if_pos (by first | omega | (dsimp only; omega))]; omega) (by first | omega | (dsimp only; omega)) f (by first | omega | (dsimp only; omega))
      rw [show S - (sum - l i) = S - sum + l i by omega] at a2
      have step : ∀ R, fX12_nextStep_34 N f 175 (nI S) (nI (sum - l i)) (nI i - 1) (wr mm 190 i 0) = R → (if nI i < 0 then (some ((0 : Int32), mm)) else (if nI S ≤ nI sum then (gd (inb (nI i) 6) <| nm (nI sum - rd mm 190 i) fun x4 => gd (inb (nI i) 6) <| nm (wr mm 190 i 0) fun m6 => fX12_nextStep_34 N f 175 (nI S) x4 (nI i - 1) m6) else (gd (inb (nI i) 6) <| gd (inb (nI i) 6) <| nm (wr mm 190 i (rd mm 190 i + 1)) fun m9 => some (1, m9)))) = R := by
        intro R hR
        refine st_f (nI_pos (by first | omega | (dsimp only; omega))) (st_t (nI_le (by first | omega | (dsimp only; omega)) (by first | omega | (dsimp only; omega))) (st_k rfl (by first | omega | (dsimp only; omega)) (by first | omega | (dsimp only; omega)) (st_n (st_k rfl (by first | omega | (dsimp only; omega)) (by first | omega | (dsimp only; omega)) (st_n ?_)))))
        rw [hH i (by first | omega | (dsimp only; omega)), nI_sub (by first | omega | (dsimp only; omega))]
        exact hR
      refine ⟨m', hfr.tr a1, ?_⟩
      rcases a2 with ⟨b1, b2⟩ | ⟨p, b1, b2, b3⟩
      · exact Or.inl ⟨b1, step _ b2⟩
      · exact Or.inr ⟨p, b1, step _ b2, b3⟩
theorem msum_l {l : Nat → Nat} {mm : Mm} {st : Int32} (M : MS mm n K W F) (hH : HA mm 190 n l) : ∀ c i, i + c = n → ∀ f, c < f → fX12_nextStep_4 N f 175 st (nI (smN l i)) (nI i) mm = fX12_nextStep_34 N N 175 st (nI (smN l n)) (nI n - 1) mm := by
  have hn := M.2.1
  intro c
  induction c with
  | zero =>
    intro i hi f hf
    obtain ⟨f, rfl⟩ : ∃ g, f = g + 1 := ⟨f - 1, by omega⟩
    obtain rfl : i = n := by omega
    unfold fX12_nextStep_4
    rw [M.1]
    exact st_t (nI_le (by first | omega | (dsimp only; omega)) (by first | omega | (dsimp only; omega))) rfl
  | succ c ih =>
    intro i hi f hf
    obtain ⟨f, rfl⟩ : ∃ g, f = g + 1 := ⟨f - 1, by omega⟩
    have hin : i < n := by omega
    unfold fX12_nextStep_4
    simp only [LXm, nI_nat (show i < 2147483648 by omega), nI_1, M.1]
    refine st_f (nI_ge hin (by first | omega | (dsimp only; omega))) (st_k rfl (by first | omega | (dsimp only; omega)) (by first | omega | (dsimp only; omega)) (st_n ?_))
    rw [hH i hin, nI_add]
    exact ih (i + 1) (by first | omega | (dsimp only; omega)) f (by first | omega | (dsimp only; omega))
/-- the model's next laying -/
theorem mnext_e {l : Nat → Nat} {mm : Mm} (hN : 100000 ≤ N) (hS : S ≤ 40) (M : MS mm n K W F) (hH : HA mm 190 n l) (hs : smN l n ≤ S) : ∃ m', Fr (fun k _ => k = 190) mm m' ∧ ((nxR n l (S - smN l n) = none ∧ fX12_nextStep N 175 (nI S) mm = some (0, m')) ∨ ∃ p, nxR n l (S - smN l n) = some p ∧ fX12_nextStep N 175 (nI S) mm = some (1, m') ∧ HA m' 190 n p.2) := by
  have hn := M.2.1
  obtain ⟨m', a1, a2⟩ := mnext_l (N := N) hn hS n l (smN l n) mm (Nat.le_refl _) hH rfl hs N (by first | omega | (dsimp only; omega))
  refine ⟨m', a1, ?_⟩
  have hst : fX12_nextStep N 175 (nI S) mm = fX12_nextStep_34 N N 175 (nI S) (nI (smN l n)) (nI n - 1) mm := msum_l M hH n 0 (by first | omega | (dsimp only; omega)) N (by first | omega | (dsimp only; omega))
  rw [hst]
  exact a2
theorem mfirst_l : ∀ c i mm, i + c = 6 → (∀ j, j < i → rd mm 190 j = 0) → ∀ f, c < f → ∃ m', fX12_firstStep_2 N f 175 (nI i) mm = some ((), m') ∧ Fr (fun k _ => k = 190) mm m' ∧ ∀ j, j < 6 → rd m' 190 j = 0 := by
  intro c
  induction c with
  | zero =>
    intro i mm hi hH f hf
    obtain ⟨f, rfl⟩ : ∃ g, f = g + 1 := ⟨f - 1, by omega⟩
    obtain rfl : i = 6 := by omega
    refine ⟨mm, ?_, Fr.rf, hH⟩
    unfold fX12_firstStep_2
    exact st_t (nI_le (by first | omega | (dsimp only; omega)) (by first | omega | (dsimp only; omega))) rfl
  | succ c ih =>
    intro i mm hi hH f hf
    obtain ⟨f, rfl⟩ : ∃ g, f = g + 1 := ⟨f - 1, by omega⟩
    obtain ⟨m', a1, a2, a3⟩ := ih (i + 1) (wr mm 190 i 0) (by first | omega | (dsimp only; omega)) (fun j hj => by
      by_cases hji : j = i
      · subst hji; rw [rd_wr_s]
      · rw [rd_wr_j hji]; exact hH j (by first | omega | (dsimp only; omega))) f (by first | omega | (dsimp only; omega))
    refine ⟨m', ?_, fr_st a2 rfl, a3⟩
    unfold fX12_firstStep_2
    simp only [LXm, nI_nat (show i < 2147483648 by omega), nI_1]
    exact st_f (nI_ge (by first | omega | (dsimp only; omega)) (by first | omega | (dsimp only; omega))) (st_k rfl (by first | omega | (dsimp only; omega)) (by first | omega | (dsimp only; omega)) (st_n a1))
theorem mfirst_e {mm : Mm} (hN : 100000 ≤ N) (hn6 : n ≤ 6) : ∃ m', fX12_firstStep N 175 mm = some ((), m') ∧ Fr (fun k _ => k = 190) mm m' ∧ HA m' 190 n (fun _ => 0) := by
  obtain ⟨m', a1, a2, a3⟩ := mfirst_l (N := N) 6 0 mm (by first | omega | (dsimp only; omega)) (fun j hj => by omega) N (by first | omega | (dsimp only; omega))
  exact ⟨m', a1, a2, fun i hi => a3 i (by first | omega | (dsimp only; omega))⟩
theorem mstepF_l {l : Nat → Nat} {s : Nat} (hs : s ≤ 1) (hn6 : n ≤ 6) : ∀ c i mm, i + c = n → MS mm n K W F → HA mm 190 n l → HA mm (185 + s) i l → ∀ f, c < f → ∃ m', fX12_stepFor_2 N f 175 (nI s) (nI i) mm = some ((), m') ∧ Fr (fun k _ => k = 185 + s) mm m' ∧ HA m' (185 + s) n l := by
  intro c
  induction c with
  | zero =>
    intro i mm hi M hH hL f hf
    obtain ⟨f, rfl⟩ : ∃ g, f = g + 1 := ⟨f - 1, by omega⟩
    obtain rfl : i = n := by omega
    refine ⟨mm, ?_, Fr.rf, hL⟩
    unfold fX12_stepFor_2
    exact st_t (by rw [M.1]; exact nI_le (by first | omega | (dsimp only; omega)) (by first | omega | (dsimp only; omega))) rfl
  | succ c ih =>
    intro i mm hi M hH hL f hf
    obtain ⟨f, rfl⟩ : ∃ g, f = g + 1 := ⟨f - 1, by omega⟩
    have hin : i < n := by omega
    have hfr : Fr (fun k _ => k = 185 + s) mm (wr mm (185 + s) i (nI (l i))) := fr_wr Fr.rf rfl
    obtain ⟨m', a1, a2, a3⟩ := ih (i + 1) (wr mm (185 + s) i (nI (l i))) (by first | omega | (dsimp only; omega)) (MS_c M (fun k j e => hfr.2 _ _ (by first | omega | (dsimp only; omega)))) (hH.c (fun j hj => hfr.2 _ _ (by first | omega | (dsimp only; omega)))) (fun j hj => by
      by_cases hji : j = i
      · subst hji; rw [rd_wr_s]
      · rw [rd_wr_j hji]; exact hL j (by first | omega | (dsimp only; omega))) f (by first | omega | (dsimp only; omega))
    refine ⟨m', ?_, hfr.tr a2, a3⟩
    unfold fX12_stepFor_2 fX12_stepFor_41
    simp only [LXm, nI_nat (show i < 2147483648 by omega), nI_1, hH i hin]
    refine st_f (by rw [M.1]; exact nI_ge hin (by first | omega | (dsimp only; omega))) ?_
    rcases (by omega : s = 0 ∨ s = 1) with rfl | rfl
    · exact st_t rfl (st_k rfl (by first | omega | (dsimp only; omega)) (by first | omega | (dsimp only; omega)) (st_k rfl (by first | omega | (dsimp only; omega)) (by first | omega | (dsimp only; omega)) (st_n a1)))
    · exact st_f (by decide) (st_k rfl (by first | omega | (dsimp only; omega)) (by first | omega | (dsimp only; omega)) (st_k rfl (by first | omega | (dsimp only; omega)) (by first | omega | (dsimp only; omega)) (st_n a1)))
theorem mstepF_e {l : Nat → Nat} {s : Nat} {mm : Mm} (hN : 100000 ≤ N) (hs : s ≤ 1) (M : MS mm n K W F) (hH : HA mm 190 n l) : ∃ m', fX12_stepFor N 175 (nI s) mm = some ((), m') ∧ Fr (fun k _ => k = 185 + s) mm m' ∧ HA m' (185 + s) n l :=
  mstepF_l hs M.2.1 n 0 mm (by first | omega | (dsimp only; omega)) M hH (fun j hj => by omega) N (by have := M.2.1; omega)
end Nx
