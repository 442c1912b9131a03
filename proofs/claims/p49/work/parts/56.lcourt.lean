/-! the law draws a court, told by text 3 -/
theorem byte_n {v : Nat} (h : v < 128) : (nI v).toInt8.toInt32 = nI v := by
  rw [i_eq, Int8.toInt_toInt32, Int32.toInt_toInt8, nI_toInt (by first | omega | (dsimp only; omega))]
  exact Int.bmod_eq_of_le_mul_two (by show -((256 : Nat) : Int) ≤ _; first | omega | (dsimp only; omega)) (by show _ < ((256 : Nat) : Int); first | omega | (dsimp only; omega))
theorem poN_c {K K' : Nat → Nat} : ∀ m, (∀ j, j < m → K j = K' j) → poN K m = poN K' m
  | 0, _ => rfl
  | m + 1, h => by
    show poN K m + (if K m < 3 then 2 else 3) = poN K' m + (if K' m < 3 then 2 else 3)
    rw [poN_c m (fun j hj => h j (by first | omega | (dsimp only; omega))), h m (by first | omega | (dsimp only; omega))]
theorem ln_175 : ln 175 = 20 := rfl
theorem ln_176 : ln 176 = 32 := rfl
section Lc
variable {N n L s t : Nat} {xs : Nat → Int32}
/-- the law's arrays, i suits being drawn -/
def CI (mm : Mm) (s t i : Nat) (K W F : Nat → Nat) : Prop := rd mm 175 18 = nI s ∧ rd mm 175 19 = nI t ∧ TxC (fun j => rd mm 176 j) i s t K W F ∧ (∀ j, j < i → kok (K j) (W j) (F j) j) ∧ ∀ j, j < poN K i → ∃ v, v < 128 ∧ rd mm 176 j = nI v
/-- cells of the law's arrays -/
def CA (k j : Nat) : Prop := k = 176 ∨ (k = 175 ∧ j < 18)
theorem TxS_c {g g' : Nat → Int32} {K W F K' W' F' : Nat → Nat} {i : Nat} (h : TxS g K W F i) (e : ∀ j, poN K i ≤ j → j < poN K (i + 1) → g' j = g j) (e2 : ∀ j, j ≤ i → K' j = K j ∧ W' j = W j ∧ F' j = F j) : TxS g' K' W' F' i := by
  obtain ⟨h1, h2, h3⟩ := h
  have ep : poN K' i = poN K i := poN_c i (fun j hj => (e2 j (by first | omega | (dsimp only; omega))).1)
  have es : poN K (i + 1) = poN K i + (if K i < 3 then 2 else 3) := rfl
  obtain ⟨a1, a2, a3⟩ := e2 i (Nat.le_refl _)
  have hge : poN K i + 2 ≤ poN K (i + 1) := poN_lt (Nat.lt_succ_self i)
  refine ⟨by rw [ep, a1, e _ (by first | omega | (dsimp only; omega)) (by first | omega | (dsimp only; omega))]; exact h1, by rw [ep, a2, e _ (by first | omega | (dsimp only; omega)) (by first | omega | (dsimp only; omega))]; exact h2, fun h => ?_⟩
  rw [a1] at h
  rw [if_neg (by first | omega | (dsimp only; omega))] at es
  rw [ep, a3, e _ (by first | omega | (dsimp only; omega)) (by first | omega | (dsimp only; omega))]
  exact h3 h
/-- one suit more -/
theorem CI_up {mm m2 : Mm} {i k w f : Nat} {K W F : Nat → Nat} (h : CI mm s t i K W F) (hk : kok k w f i) (e175 : ∀ j, 18 ≤ j → rd m2 175 j = rd mm 175 j) (e176 : ∀ j, j < poN K i → rd m2 176 j = rd mm 176 j) (g1 : rd m2 176 (poN K i) = nI (ltN k)) (g2 : rd m2 176 (poN K i + 1) = nI (48 + w)) (g3 : 3 ≤ k → rd m2 176 (poN K i + 2) = nI (48 + f)) : CI m2 s t (i + 1) (up K i k) (up W i w) (up F i f) := by
  obtain ⟨h1, h2, ⟨x0, x1, x2, x3, x4⟩, h4, h5⟩ := h
  have hp := poN_le K i
  have hup : ∀ j, j < i → up K i k j = K j ∧ up W i w j = W j ∧ up F i f j = F j := fun j hj => ⟨up_o (by first | omega | (dsimp only; omega)), up_o (by first | omega | (dsimp only; omega)), up_o (by first | omega | (dsimp only; omega))⟩
  have ep : poN (up K i k) i = poN K i := poN_c i (fun j hj => (hup j hj).1)
  have ep1 : poN (up K i k) (i + 1) = poN K i + (if k < 3 then 2 else 3) := by
    show poN (up K i k) i + (if up K i k i < 3 then 2 else 3) = _
    rw [ep, up_s]
  have hb := ltN_b k
  obtain ⟨k1, k2, k3, k4, k5, k6, k7⟩ := id hk
  refine ⟨by rw [e175 _ (by first | omega | (dsimp only; omega))]; exact h1, by rw [e175 _ (by first | omega | (dsimp only; omega))]; exact h2, ⟨(e176 0 (by first | omega | (dsimp only; omega))).trans x0, (e176 1 (by first | omega | (dsimp only; omega))).trans x1, (e176 2 (by first | omega | (dsimp only; omega))).trans x2, (e176 3 (by first | omega | (dsimp only; omega))).trans x3, fun j hj => ?_⟩, fun j hj => ?_, fun j hj => ?_⟩
  · by_cases hji : j = i
    · subst hji
      refine ⟨?_, ?_, fun h => ?_⟩
      · rw [ep, up_s]; exact g1
      · rw [ep, up_s]; exact g2
      · rw [up_s] at h
        rw [ep, up_s]; exact g3 h
    · have hj2 : j < i := by omega
      have hle : poN K (j + 1) ≤ poN K i := by
        by_cases hq : j + 1 = i
        · rw [hq]; exact Nat.le_refl _
        · have := poN_lt (K := K) (show j + 1 < i by omega); omega
      exact TxS_c (x4 j hj2) (fun q _ hq => e176 q (by first | omega | (dsimp only; omega))) (fun q hq => hup q (by first | omega | (dsimp only; omega)))
  · by_cases hji : j = i
    · subst hji; rw [up_s, up_s, up_s]; exact hk
    · obtain ⟨u1, u2, u3⟩ := hup j (by first | omega | (dsimp only; omega))
      rw [u1, u2, u3]; exact h4 j (by first | omega | (dsimp only; omega))
  · rw [ep1] at hj
    by_cases hlt : j < poN K i
    · obtain ⟨v, v1, v2⟩ := h5 j hlt
      exact ⟨v, v1, by rw [e176 j hlt]; exact v2⟩
    · by_cases hj0 : j = poN K i
      · exact ⟨ltN k, by
          unfold ltN
          split
          · omega
          · split
            · omega
            · split
              · omega
              · split
                · omega
                · split <;> omega, by rw [hj0]; exact g1⟩
      · by_cases hj1 : j = poN K i + 1
        · exact ⟨48 + w, by omega, by rw [hj1]; exact g2⟩
        · have hk3 : ¬ k < 3 := fun q => by rw [if_pos q] at hj; omega
          rw [if_neg hk3] at hj
          exact ⟨48 + f, by omega, by rw [show j = poN K i + 2 by omega]; exact g3 (by first | omega | (dsimp only; omega))⟩
/-- letter, worth, figure come into the text -/
theorem lc280 {mm : Mm} {i k w f p a2 : Nat} {k88 : Nat → Int32 → Int32 → Nat → Nat → Int32 → Int32 → Mm → Option (Int32 × Mm)} (hi : i < 4) (hp : p ≤ 4 + 3 * i) (hw : rd mm 175 (3 * i + 1) = nI w) (hf : 3 ≤ k → rd mm 175 (3 * i + 2) = nI f) (hk : k ≤ 5) : ∃ m', Fr (fun q j => q = 176 ∧ p ≤ j) mm m' ∧ rd m' 176 p = nI (ltN k) ∧ rd m' 176 (p + 1) = nI (48 + w) ∧ (3 ≤ k → rd m' 176 (p + 2) = nI (48 + f)) ∧ fL_court_280 N L xs k88 0 (nI a2) (nI n) 175 176 (nI p) (nI i) (nI k) 176 (nI p) (nI (ltN k)) mm = k88 0 (nI a2) (nI n) 175 176 (nI (p + (if k < 3 then 2 else 3))) (nI (i + 1)) m' := by
  have e1 : (3 : Int32) * nI i + 1 = nI (3 * i + 1) := n3 i 1
  have e2 : (3 : Int32) * nI i + 2 = nI (3 * i + 2) := n3 i 2
  have e3 : nI p + 2 = nI (p + 2) := nI_add p 2
  by_cases hk3 : k < 3
  · refine ⟨wr (wr mm 176 p (nI (ltN k))) 176 (p + 1) (nI (48 + w)), fr_wr (fr_wr Fr.rf ⟨rfl, Nat.le_refl _⟩) ⟨rfl, by omega⟩, by rw [rd_wr_j (by first | omega | (dsimp only; omega)), rd_wr_s], rd_wr_s, fun q => by omega, ?_⟩
    unfold fL_court_280
    rw [e1, e2, e3, nI_1, nI_1, nI_nat (show p < 2147483648 by omega), nI_nat (show 3 * i + 1 < 2147483648 by omega), nI_nat (show p + 1 < 2147483648 by omega), nI_nat (show 3 * i + 2 < 2147483648 by omega), nI_nat (show p + 2 < 2147483648 by omega)]
    refine st_k ln_176 (by first | omega | (dsimp only; omega)) (by first | omega | (dsimp only; omega)) (st_n (st_k ln_175 (by first | omega | (dsimp only; omega)) (by first | omega | (dsimp only; omega)) (st_k ln_176 (by first | omega | (dsimp only; omega)) (by first | omega | (dsimp only; omega)) (st_n ?_))))
    rw [rd_wr_k (show (175 : Nat) ≠ 176 by omega), hw, show (48 : Int32) = nI 48 from rfl, nI_add]
    refine st_t (nI_le (a := k) (b := 2) (by first | omega | (dsimp only; omega)) (by first | omega | (dsimp only; omega))) ?_
    unfold fL_court_329
    rw [nI_1, if_pos hk3]
  · refine ⟨wr (wr (wr mm 176 p (nI (ltN k))) 176 (p + 1) (nI (48 + w))) 176 (p + 2) (nI (48 + f)), fr_wr (fr_wr (fr_wr Fr.rf ⟨rfl, Nat.le_refl _⟩) ⟨rfl, by omega⟩) ⟨rfl, by omega⟩, by rw [rd_wr_j (by first | omega | (dsimp only; omega)), rd_wr_j (by first | omega | (dsimp only; omega)), rd_wr_s], by rw [rd_wr_j (by first | omega | (dsimp only; omega)), rd_wr_s], fun q => rd_wr_s, ?_⟩
    unfold fL_court_280
    rw [e1, e2, e3, nI_1, nI_1, nI_nat (show p < 2147483648 by omega), nI_nat (show 3 * i + 1 < 2147483648 by omega), nI_nat (show p + 1 < 2147483648 by omega), nI_nat (show 3 * i + 2 < 2147483648 by omega), nI_nat (show p + 2 < 2147483648 by omega)]
    refine st_k ln_176 (by first | omega | (dsimp only; omega)) (by first | omega | (dsimp only; omega)) (st_n (st_k ln_175 (by first | omega | (dsimp only; omega)) (by first | omega | (dsimp only; omega)) (st_k ln_176 (by first | omega | (dsimp only; omega)) (by first | omega | (dsimp only; omega)) (st_n ?_))))
    rw [rd_wr_k (show (175 : Nat) ≠ 176 by omega), hw, show (48 : Int32) = nI 48 from rfl, nI_add]
    refine st_f (nI_ge (a := 2) (b := k) (by first | omega | (dsimp only; omega)) (by first | omega | (dsimp only; omega))) (st_k ln_175 (by first | omega | (dsimp only; omega)) (by first | omega | (dsimp only; omega)) (st_k ln_176 (by first | omega | (dsimp only; omega)) (by first | omega | (dsimp only; omega)) (st_n ?_)))
    unfold fL_court_329
    rw [rd_wr_k (show (175 : Nat) ≠ 176 by omega), rd_wr_k (show (175 : Nat) ≠ 176 by omega), hf (by first | omega | (dsimp only; omega)), nI_add, nI_1, if_neg hk3]
/-- behind the figure: the letter is chosen -/
theorem lc219 {mm : Mm} {i k w f p a2 : Nat} {v : Int32} {k88 : Nat → Int32 → Int32 → Nat → Nat → Int32 → Int32 → Mm → Option (Int32 × Mm)} (hi : i < 4) (hp : p ≤ 4 + 3 * i) (hw : rd mm 175 (3 * i + 1) = nI w) (hv : 3 ≤ k → v = nI f) (hk : k ≤ 5) : ∃ m', Fr (fun q j => (q = 176 ∧ p ≤ j) ∨ (q = 175 ∧ j = 3 * i + 2)) mm m' ∧ rd m' 176 p = nI (ltN k) ∧ rd m' 176 (p + 1) = nI (48 + w) ∧ (3 ≤ k → rd m' 176 (p + 2) = nI (48 + f)) ∧ fL_court_219 N L xs k88 0 (nI a2) (nI n) 175 176 (nI p) (nI i) (nI k) 175 ((3 : Int32) * nI i + 2) v mm = k88 0 (nI a2) (nI n) 175 176 (nI (p + (if k < 3 then 2 else 3))) (nI (i + 1)) m' := by
  have e2 : (3 : Int32) * nI i + 2 = nI (3 * i + 2) := n3 i 2
  obtain ⟨m', f1, g1, g2, g3, hh⟩ := lc280 (N := N) (L := L) (xs := xs) (n := n) (mm := wr mm 175 (3 * i + 2) v) (i := i) (k := k) (w := w) (f := f) (p := p) (a2 := a2) (k88 := k88) hi hp (by rw [rd_wr_j (by first | omega | (dsimp only; omega))]; exact hw) (fun q => by rw [rd_wr_s]; exact hv q) hk
  refine ⟨m', (fr_wr Fr.rf (Or.inr ⟨rfl, rfl⟩)).tr (f1.mono (fun q j z => Or.inl z)), g1, g2, g3, ?_⟩
  unfold fL_court_219
  rw [e2, nI_nat (show 3 * i + 2 < 2147483648 by omega)]
  refine st_k ln_175 (by first | omega | (dsimp only; omega)) (by first | omega | (dsimp only; omega)) (st_n ?_)
  rcases (by omega : k = 0 ∨ k = 1 ∨ k = 2 ∨ k = 3 ∨ k = 4 ∨ k = 5) with rfl | rfl | rfl | rfl | rfl | rfl
  · exact st_t (by decide) hh
  · exact st_f (by decide) (st_t (by decide) hh)
  · exact st_f (by decide) (st_f (by decide) (st_t (by decide) hh))
  · exact st_f (by decide) (st_f (by decide) (st_f (by decide) (st_t (by decide) hh)))
  · exact st_f (by decide) (st_f (by decide) (st_f (by decide) (st_f (by decide) (st_t (by decide) hh))))
  · exact st_f (by decide) (st_f (by decide) (st_f (by decide) (st_f (by decide) (st_f (by decide) hh))))
/-- one suit is drawn -/
theorem lc119 {mm : Mm} {i p a2 b0 : Nat} {x : Int32} {k88 : Nat → Int32 → Int32 → Nat → Nat → Int32 → Int32 → Mm → Option (Int32 × Mm)} (hi : i < 4) (hp : p ≤ 4 + 3 * i) (hb : b0 = if i = 0 then 5 else 6) : ∃ m' k w f, kok k w f i ∧ Fr (fun q j => (q = 176 ∧ p ≤ j) ∨ (q = 175 ∧ j < 18)) mm m' ∧ rd m' 176 p = nI (ltN k) ∧ rd m' 176 (p + 1) = nI (48 + w) ∧ (3 ≤ k → rd m' 176 (p + 2) = nI (48 + f)) ∧ fL_court_119 N L xs k88 0 (nI a2) (nI n) 175 176 (nI p) (nI i) x x (nI b0) mm = k88 0 (nI a2) (nI n) 175 176 (nI (p + (if k < 3 then 2 else 3))) (nI (i + 1)) m' := by
  have hb5 : 5 ≤ b0 ∧ b0 ≤ 6 := by rw [hb]; split <;> omega
  have hb6 : i = 0 → b0 = 5 := fun q => by rw [hb, if_pos q]
  have e0 : (3 : Int32) * nI i = nI (3 * i) := by rw [show (3 : Int32) = nI 3 from rfl, nI_mul]
  have e1 : (3 : Int32) * nI i + 1 = nI (3 * i + 1) := n3 i 1
  obtain ⟨k, k1, k2⟩ := low_e (N := N) (mm := mm) (a := x) (n := b0) (by first | omega | (dsimp only; omega)) (by first | omega | (dsimp only; omega))
  obtain ⟨w, w1, w2⟩ := low_e (N := N) (mm := wr mm 175 (3 * i) (nI k)) (a := x >>> ((4 : Int32) &&& 31)) (n := 9) (by first | omega | (dsimp only; omega)) (by first | omega | (dsimp only; omega))
  obtain ⟨m2, e2⟩ : ∃ m2, m2 = wr (wr mm 175 (3 * i) (nI k)) 175 (3 * i + 1) (nI (1 + w)) := ⟨_, rfl⟩
  have hw2 : rd m2 175 (3 * i + 1) = nI (1 + w) := by rw [e2, rd_wr_s]
  have hf2 : Fr (fun q j => (q = 176 ∧ p ≤ j) ∨ (q = 175 ∧ j < 18)) mm m2 := by rw [e2]; exact fr_wr (fr_wr Fr.rf (Or.inr ⟨rfl, by omega⟩)) (Or.inr ⟨rfl, by omega⟩)
  have pre : ∀ R, (if (3 : Int32) ≤ nI k then (if nI k = 5 then (bd2 (fL_low N (x >>> ((8 : Int32) &&& 31)) (nI i) m2) fun x52 m53 => fL_court_219 N L xs k88 0 (nI a2) (nI n) 175 176 (nI p) (nI i) (nI k) 175 (((3 : Int32) * nI i) + 2) x52 m53) else (bd2 (fL_low N (x >>> ((12 : Int32) &&& 31)) 2 m2) fun x48 m49 => if x48 = 0 then (fL_court_215 N L xs k88 0 (nI a2) (nI n) 175 176 (nI p) (nI i) (nI k) 175 (((3 : Int32) * nI i) + 2) 1 (x >>> ((8 : Int32) &&& 31)) 3 m49) else (fL_court_215 N L xs k88 0 (nI a2) (nI n) 175 176 (nI p) (nI i) (nI k) 175 (((3 : Int32) * nI i) + 2) 1 (x >>> ((8 : Int32) &&& 31)) 9 m49))) else (fL_court_219 N L xs k88 0 (nI a2) (nI n) 175 176 (nI p) (nI i) (nI k) 175 (((3 : Int32) * nI i) + 2) (-9) m2)) = R → fL_court_119 N L xs k88 0 (nI a2) (nI n) 175 176 (nI p) (nI i) x x (nI b0) mm = R := by
    intro R hR
    unfold fL_court_119
    refine st_b k2 ?_
    rw [e1, nI_nat (show 3 * i + 1 < 2147483648 by omega), e0, nI_nat (show 3 * i < 2147483648 by omega)]
    refine st_k ln_175 (by first | omega | (dsimp only; omega)) (by first | omega | (dsimp only; omega)) (st_n (st_b w2 (st_k ln_175 (by first | omega | (dsimp only; omega)) (by first | omega | (dsimp only; omega)) (st_n ?_))))
    rw [e0, e2] at hR
    rw [show (1 : Int32) + nI w = nI (1 + w) from nI_add 1 w]
    exact hR
  have fin : ∀ f v, (3 ≤ k → v = nI f) → kok k (1 + w) f i → ∃ m', Fr (fun q j => (q = 176 ∧ p ≤ j) ∨ (q = 175 ∧ j < 18)) mm m' ∧ rd m' 176 p = nI (ltN k) ∧ rd m' 176 (p + 1) = nI (48 + (1 + w)) ∧ (3 ≤ k → rd m' 176 (p + 2) = nI (48 + f)) ∧ fL_court_219 N L xs k88 0 (nI a2) (nI n) 175 176 (nI p) (nI i) (nI k) 175 ((3 : Int32) * nI i + 2) v m2 = k88 0 (nI a2) (nI n) 175 176 (nI (p + (if k < 3 then 2 else 3))) (nI (i + 1)) m' := by
    intro f v hv hk
    obtain ⟨m', f1, z⟩ := lc219 (N := N) (L := L) (xs := xs) (n := n) (a2 := a2) (k88 := k88) (f := f) (v := v) hi hp hw2 hv (by first | omega | (dsimp only; omega))
    exact ⟨m', hf2.tr (f1.mono (fun q j z => by omega)), z⟩
  by_cases h3 : 3 ≤ k
  · have c3 : (3 : Int32) ≤ nI k := nI_le (a := 3) (b := k) h3 (by first | omega | (dsimp only; omega))
    by_cases h5 : k = 5
    · have hi0 : i ≠ 0 := fun q => by have := hb6 q; omega
      obtain ⟨f, f1, f2⟩ := low_e (N := N) (mm := m2) (a := x >>> ((8 : Int32) &&& 31)) (n := i) (by first | omega | (dsimp only; omega)) (by first | omega | (dsimp only; omega))
      have hk : kok k (1 + w) f i := ⟨by omega, by omega, by omega, by omega, fun q => by omega, fun _ => f1, fun q => by omega⟩
      obtain ⟨m', z1, z2, z3, z4, z5⟩ := fin f (nI f) (fun _ => rfl) hk
      exact ⟨m', k, 1 + w, f, hk, z1, z2, z3, z4, pre _ (st_t c3 (st_t (by rw [h5]; rfl) (st_b f2 z5)))⟩
    · have c5 : ¬ nI k = 5 := fun q => h5 (nI_inj (b := 5) q (by first | omega | (dsimp only; omega)) (by first | omega | (dsimp only; omega)))
      obtain ⟨b, b1, b2⟩ := low_e (N := N) (mm := m2) (a := x >>> ((12 : Int32) &&& 31)) (n := 2) (by first | omega | (dsimp only; omega)) (by first | omega | (dsimp only; omega))
      have go : ∀ c, 1 ≤ c → c ≤ 8 ∨ c = 9 → ∃ m' f, kok k (1 + w) f i ∧ Fr (fun q j => (q = 176 ∧ p ≤ j) ∨ (q = 175 ∧ j < 18)) mm m' ∧ rd m' 176 p = nI (ltN k) ∧ rd m' 176 (p + 1) = nI (48 + (1 + w)) ∧ (3 ≤ k → rd m' 176 (p + 2) = nI (48 + f)) ∧ fL_court_215 N L xs k88 0 (nI a2) (nI n) 175 176 (nI p) (nI i) (nI k) 175 ((3 : Int32) * nI i + 2) 1 (x >>> ((8 : Int32) &&& 31)) (nI c) m2 = k88 0 (nI a2) (nI n) 175 176 (nI (p + (if k < 3 then 2 else 3))) (nI (i + 1)) m' := by
        intro c c1 c2
        obtain ⟨f, f1, f2⟩ := low_e (N := N) (mm := m2) (a := x >>> ((8 : Int32) &&& 31)) (n := c) c1 (by first | omega | (dsimp only; omega))
        have hk : kok k (1 + w) (1 + f) i := ⟨by omega, by omega, by omega, by omega, fun _ => by omega, fun q => absurd q h5, fun q => by omega⟩
        obtain ⟨m', z1, z2, z3, z4, z5⟩ := fin (1 + f) (nI (1 + f)) (fun _ => rfl) hk
        refine ⟨m', 1 + f, hk, z1, z2, z3, z4, ?_⟩
        unfold fL_court_215
        refine st_b f2 ?_
        rw [show (1 : Int32) + nI f = nI (1 + f) from nI_add 1 f]
        exact z5
      by_cases hb0 : nI b = 0
      · obtain ⟨m', f, z0, z1, z2, z3, z4, z5⟩ := go 3 (by first | omega | (dsimp only; omega)) (by first | omega | (dsimp only; omega))
        exact ⟨m', k, 1 + w, f, z0, z1, z2, z3, z4, pre _ (st_t c3 (st_f c5 (st_b b2 (st_t hb0 z5))))⟩
      · obtain ⟨m', f, z0, z1, z2, z3, z4, z5⟩ := go 9 (by first | omega | (dsimp only; omega)) (by first | omega | (dsimp only; omega))
        exact ⟨m', k, 1 + w, f, z0, z1, z2, z3, z4, pre _ (st_t c3 (st_f c5 (st_b b2 (st_f hb0 z5))))⟩
  · have hk : kok k (1 + w) 0 i := ⟨by omega, by omega, by omega, by omega, fun q => by omega, fun q => by omega, fun _ => rfl⟩
    obtain ⟨m', z1, z2, z3, z4, z5⟩ := fin 0 (-9) (fun q => absurd q h3) hk
    exact ⟨m', k, 1 + w, 0, hk, z1, z2, z3, z4, pre _ (st_f (nI_ge (a := k) (b := 3) (by first | omega | (dsimp only; omega)) (by first | omega | (dsimp only; omega))) z5)⟩
-- the text is put
theorem lc357 (hN : 100000 ≤ N) {K W F : Nat → Nat} (h0 : 1 ≤ n) (hn : n ≤ 4) (hs : s ≤ 8) (ht : t ≤ 8) {L' : Nat} (hL' : poN K n = L') (hL2 : L' ≤ 32) : ∀ c i mm, i + c = L' → CI mm s t n K W F → rd mm 113 1 = nI L' → (∀ j, i ≤ j → j < 80 → rd mm 114 j = 32) → (∀ j, j < i → rd mm 114 j = rd mm 176 j) → ∀ f, c < f → ∃ m', fL_court_357 N L xs f 0 (nI n) 176 (nI L') 1 (nI i) mm = some (1, m') ∧ Fr (fun k j => k ≤ 6 ∨ (17 ≤ k ∧ k ≤ 28) ∨ (k = 52 ∧ j = 2) ∨ ((k = 115 ∨ k = 135 ∨ k = 155) ∧ j = 8) ∨ k = 114) mm m' ∧ KD m' n 0 s t K W F (fun _ => 0) ∧ rd m' 3 7 = 0 ∧ rd m' 52 2 = 0 := by
  intro c
  induction c with
  | zero =>
    intro i mm hi hC h1 hb hp f hf
    obtain ⟨f, rfl⟩ : ∃ q, f = q + 1 := ⟨f - 1, by omega⟩
    obtain rfl : i = L' := by omega
    obtain ⟨g1, g2, g3, g4, g5⟩ := hC
    have X : TXc mm 113 i (fun j => rd mm 176 j) := TX_3 (by first | omega | (dsimp only; omega)) h1 hp
    obtain ⟨T', t1, t2⟩ := rdN_t (g := fun j => rd mm 176 j) h0 (by first | omega | (dsimp only; omega)) (show s ≤ 9 by omega) (show t ≤ 9 by omega) hL' g4 g3
    obtain ⟨m1, c1, f1⟩ := fault_e (N := N) hN X (by rw [t1])
    obtain ⟨m2, c2, f2, d2, d3, d4⟩ := court_e (N := N) (mm := m1) hN (X.c (fun k j e => f1.2 _ _ (by first | omega | (dsimp only; omega)))) (show n ≤ 6 by omega) t1 t2 g4
    refine ⟨m2, ?_, (f1.mono (fun k j e => by omega)).tr (f2.mono (fun k j e => by omega)), d2, d3, d4⟩
    unfold fL_court_357
    refine st_t (nI_le (by first | omega | (dsimp only; omega)) (by first | omega | (dsimp only; omega))) ?_
    unfold fL_court_400
    exact st_f (by decide) (st_b c1 (st_t rfl (st_b c2 (st_t rfl rfl))))
  | succ c ih =>
    intro i mm hi hC h1 hb hp f hf
    obtain ⟨f, rfl⟩ : ∃ q, f = q + 1 := ⟨f - 1, by omega⟩
    obtain ⟨g1, g2, g3, g4, g5⟩ := id hC
    obtain ⟨v, v1, v2⟩ := g5 i (by first | omega | (dsimp only; omega))
    have hput := put_e (N := N) (n := L') (i := i) (mm := mm) (v := rd mm 176 i) (r := 3) (by first | omega | (dsimp only; omega)) h1 (by first | omega | (dsimp only; omega)) (by first | omega | (dsimp only; omega))
    have hbyte : (rd mm 176 i).toInt8.toInt32 = rd mm 176 i := by rw [v2]; exact byte_n v1
    have hC1 : CI (wr mm 114 i (rd mm 176 i)) s t n K W F := by
      refine ⟨by rw [rd_wr_k (by first | omega | (dsimp only; omega))]; exact g1, by rw [rd_wr_k (by first | omega | (dsimp only; omega))]; exact g2, ?_, g4, fun j hj => by rw [rd_wr_k (by first | omega | (dsimp only; omega))]; exact g5 j hj⟩
      have : (fun j => rd (wr mm 114 i (rd mm 176 i)) 176 j) = fun j => rd mm 176 j := funext fun j => rd_wr_k (by first | omega | (dsimp only; omega))
      rw [this]
      exact g3
    obtain ⟨m', c1, f1, d1⟩ := ih (i + 1) (wr mm 114 i (rd mm 176 i)) (by first | omega | (dsimp only; omega)) hC1 (by rw [rd_wr_k (by first | omega | (dsimp only; omega))]; exact h1) (fun j hj1 hj2 => by rw [rd_wr_j (by first | omega | (dsimp only; omega))]; exact hb j (by first | omega | (dsimp only; omega)) hj2) (fun j hj => by
      rw [rd_wr_k (show (176 : Nat) ≠ 114 by omega)]
      by_cases hji : j = i
      · rw [hji, rd_wr_s]
      · rw [rd_wr_j hji]; exact hp j (by first | omega | (dsimp only; omega))) f (by first | omega | (dsimp only; omega))
    refine ⟨m', ?_, fr_st f1 (by first | omega | (dsimp only; omega)), d1⟩
    unfold fL_court_357
    refine st_f (nI_ge (by first | omega | (dsimp only; omega)) (by first | omega | (dsimp only; omega))) (st_f (by decide) ?_)
    rw [nI_nat (by first | omega | (dsimp only; omega))]
    refine st_k ln_176 (by first | omega | (dsimp only; omega)) (by first | omega | (dsimp only; omega)) (st_b hput ?_)
    rw [hbyte]
    refine st_t (by rw [show 108 + 2 * 3 = 114 from rfl, hb i (Nat.le_refl _) (by first | omega | (dsimp only; omega))]; decide) ?_
    unfold fL_court_392
    rw [nI_1]
    exact c1
/-- cells that court() changes -/
def CoC (k j : Nat) : Prop := k ≤ 6 ∨ (17 ≤ k ∧ k ≤ 28) ∨ (k = 52 ∧ j = 2) ∨ ((k = 115 ∨ k = 135 ∨ k = 155) ∧ j = 8) ∨ k = 113 ∨ k = 114 ∨ (k = 175 ∧ j < 20) ∨ k = 176
theorem lc88 (hN : 100000 ≤ N) (hL : L ≤ 260) (h0 : 1 ≤ n) (hn : n ≤ 4) (hs : s ≤ 8) (ht : t ≤ 8) {a2 : Nat} (ha : a2 ≤ 100) : ∀ c i K W F mm, i + c = n → CI mm s t i K W F → ∀ f, c < f → ∃ m' K' W' F', fL_court_88 N L xs f 0 (nI a2) (nI n) 175 176 (nI (poN K i)) (nI i) mm = some (1, m') ∧ Fr CoC mm m' ∧ KD m' n 0 s t K' W' F' (fun _ => 0) ∧ rd m' 3 7 = 0 ∧ rd m' 52 2 = 0 ∧ rd m' 175 18 = nI s ∧ rd m' 175 19 = nI t := by
  intro c
  induction c with
  | zero =>
    intro i K W F mm hi hC f hf
    obtain ⟨f, rfl⟩ : ∃ q, f = q + 1 := ⟨f - 1, by omega⟩
    obtain rfl : i = n := by omega
    have hp := poN_le K i
    obtain ⟨m1, c1, f1, s1, b1⟩ := text_e (N := N) (n := poN K i) (r := 3) (mm := mm) hN (by first | omega | (dsimp only; omega)) (by first | omega | (dsimp only; omega))
    have e1 : ∀ k j, k = 175 ∨ k = 176 → rd m1 k j = rd mm k j := fun k j hk => f1.2 _ _ (by first | omega | (dsimp only; omega))
    obtain ⟨g1, g2, g3, g4, g5⟩ := hC
    have hC1 : CI m1 s t i K W F := by
      refine ⟨by rw [e1 _ _ (by first | omega | (dsimp only; omega))]; exact g1, by rw [e1 _ _ (by first | omega | (dsimp only; omega))]; exact g2, ?_, g4, fun j hj => by rw [e1 _ _ (by first | omega | (dsimp only; omega))]; exact g5 j hj⟩
      have : (fun j => rd m1 176 j) = fun j => rd mm 176 j := funext fun j => e1 _ _ (by first | omega | (dsimp only; omega))
      rw [this]
      exact g3
    obtain ⟨m2, c2, f2, d2, d3, d4⟩ := lc357 (N := N) (L := L) (xs := xs) hN h0 hn hs ht (K := K) (W := W) (F := F) rfl (by first | omega | (dsimp only; omega)) (poN K i) 0 m1 (by first | omega | (dsimp only; omega)) hC1 s1 (fun j _ hj => b1 j hj) (fun j hj => by omega) N (by first | omega | (dsimp only; omega))
    refine ⟨m2, K, W, F, ?_, (f1.mono (fun k j e => by unfold CoC; first | omega | (dsimp only; omega))).tr (f2.mono (fun k j e => by unfold CoC; first | omega | (dsimp only; omega))), d2, d3, d4, by rw [f2.2 _ _ (by first | omega | (dsimp only; omega))]; exact hC1.1, by rw [f2.2 _ _ (by first | omega | (dsimp only; omega))]; exact hC1.2.1⟩
    unfold fL_court_88
    refine st_t (nI_le (by first | omega | (dsimp only; omega)) (by first | omega | (dsimp only; omega))) (st_b c1 (st_t rfl ?_))
    unfold fL_court_352
    exact c2
  | succ c ih =>
    intro i K W F mm hi hC f hf
    obtain ⟨f, rfl⟩ : ∃ q, f = q + 1 := ⟨f - 1, by omega⟩
    have hin : i < n := by omega
    have hp := poN_le K i
    obtain ⟨v, hv⟩ := cell_e (N := N) (L := L) (xs := xs) (mm := mm) (k := a2 + 1 + i) (by first | omega | (dsimp only; omega)) hL
    have go : ∀ b0, b0 = (if i = 0 then 5 else 6) → ∃ m' K' W' F', fL_court_119 N L xs (fL_court_88 N L xs f) 0 (nI a2) (nI n) 175 176 (nI (poN K i)) (nI i) v v (nI b0) mm = some (1, m') ∧ Fr CoC mm m' ∧ KD m' n 0 s t K' W' F' (fun _ => 0) ∧ rd m' 3 7 = 0 ∧ rd m' 52 2 = 0 ∧ rd m' 175 18 = nI s ∧ rd m' 175 19 = nI t := by
      intro b0 hb0
      obtain ⟨m1, k, w, g, hk, f1, g1, g2, g3, z0⟩ := lc119 (N := N) (L := L) (xs := xs) (n := n) (mm := mm) (i := i) (p := poN K i) (a2 := a2) (b0 := b0) (x := v) (k88 := fL_court_88 N L xs f) (by first | omega | (dsimp only; omega)) (by first | omega | (dsimp only; omega)) hb0
      have hC1 := CI_up (m2 := m1) hC hk (fun j hj => f1.2 _ _ (by first | omega | (dsimp only; omega))) (fun j hj => f1.2 _ _ (by first | omega | (dsimp only; omega))) g1 g2 g3
      have ep : poN (up K i k) (i + 1) = poN K i + (if k < 3 then 2 else 3) := by
        show poN (up K i k) i + (if up K i k i < 3 then 2 else 3) = _
        rw [up_s, poN_c i (fun j hj => up_o (by first | omega | (dsimp only; omega)))]
      obtain ⟨m2, K', W', F', z1, z2, z3⟩ := ih (i + 1) _ _ _ m1 (by first | omega | (dsimp only; omega)) hC1 f (by first | omega | (dsimp only; omega))
      rw [ep] at z1
      exact ⟨m2, K', W', F', z0.trans z1, (f1.mono (fun k j e => by unfold CoC; first | omega | (dsimp only; omega))).tr z2, z3⟩
    have e2 : nI a2 + 1 + nI i = nI (a2 + 1 + i) := by rw [nI_1, nI_add]
    by_cases hi0 : i = 0
    · obtain ⟨m', K', W', F', z1, z2⟩ := go 5 (by rw [if_pos hi0])
      refine ⟨m', K', W', F', ?_, z2⟩
      unfold fL_court_88
      refine st_f (nI_ge hin (by first | omega | (dsimp only; omega))) ?_
      rw [e2]
      exact st_b hv (st_t (by rw [hi0]; rfl) z1)
    · obtain ⟨m', K', W', F', z1, z2⟩ := go 6 (by rw [if_neg hi0])
      refine ⟨m', K', W', F', ?_, z2⟩
      unfold fL_court_88
      refine st_f (nI_ge hin (by first | omega | (dsimp only; omega))) ?_
      rw [e2]
      exact st_b hv (st_f (nI_ne0 (by first | omega | (dsimp only; omega)) (by first | omega | (dsimp only; omega))) z1)
/-- the law's court -/
theorem lcourt_e {mm : Mm} (hN : 100000 ≤ N) (hL : L ≤ 260) (h0 : 1 ≤ n) (hn : n ≤ 4) : ∃ m' s t K W F, fL_court_6 N L xs 0 1 (nI n) 8 175 176 mm = some (1, m') ∧ s ≤ 8 ∧ t ≤ 8 ∧ Fr CoC mm m' ∧ KD m' n 0 s t K W F (fun _ => 0) ∧ rd m' 3 7 = 0 ∧ rd m' 52 2 = 0 ∧ rd m' 175 18 = nI s ∧ rd m' 175 19 = nI t := by
  obtain ⟨c1, hc1⟩ := cell_e (N := N) (L := L) (xs := xs) (mm := mm) (k := 1) (by first | omega | (dsimp only; omega)) hL
  obtain ⟨s, s1, s2⟩ := low_e (N := N) (mm := mm) (a := c1) (n := 9) (by first | omega | (dsimp only; omega)) (by first | omega | (dsimp only; omega))
  obtain ⟨c2, hc2⟩ := cell_e (N := N) (L := L) (xs := xs) (mm := wr mm 175 18 (nI s)) (k := 1) (by first | omega | (dsimp only; omega)) hL
  obtain ⟨t, t1, t2⟩ := low_e (N := N) (mm := wr mm 175 18 (nI s)) (a := c2 >>> ((8 : Int32) &&& 31)) (n := 9) (by first | omega | (dsimp only; omega)) (by first | omega | (dsimp only; omega))
  obtain ⟨m1, e1⟩ : ∃ m1, m1 = wr (wr (wr mm 175 18 (nI s)) 175 19 (nI t)) 176 0 (nI 110) := ⟨_, rfl⟩
  have n1 := number_e (N := N) (k := 176) (at_ := 1) (v := s) (mm := m1) ln_176 (by first | omega | (dsimp only; omega)) (by first | omega | (dsimp only; omega))
  obtain ⟨m2, e2⟩ : ∃ m2, m2 = wr (wr m1 176 1 (nI (48 + s))) 176 2 (nI 58) := ⟨_, rfl⟩
  have n2 := number_e (N := N) (k := 176) (at_ := 3) (v := t) (mm := m2) ln_176 (by first | omega | (dsimp only; omega)) (by first | omega | (dsimp only; omega))
  obtain ⟨m3, e3⟩ : ∃ m3, m3 = wr m2 176 3 (nI (48 + t)) := ⟨_, rfl⟩
  rw [← e3] at n2
  have r18 : rd m1 175 18 = nI s := by rw [e1, rd_wr_k (by first | omega | (dsimp only; omega)), rd_wr_j (by first | omega | (dsimp only; omega)), rd_wr_s]
  have r19 : rd m2 175 19 = nI t := by rw [e2, rd_wr_k (by first | omega | (dsimp only; omega)), rd_wr_k (by first | omega | (dsimp only; omega)), e1, rd_wr_k (by first | omega | (dsimp only; omega)), rd_wr_s]
  have q0 : rd m3 176 0 = nI 110 := by rw [e3, rd_wr_j (by first | omega | (dsimp only; omega)), e2, rd_wr_j (by first | omega | (dsimp only; omega)), rd_wr_j (by first | omega | (dsimp only; omega)), e1, rd_wr_s]
  have q1 : rd m3 176 1 = nI (48 + s) := by rw [e3, rd_wr_j (by first | omega | (dsimp only; omega)), e2, rd_wr_j (by first | omega | (dsimp only; omega)), rd_wr_s]
  have q2 : rd m3 176 2 = nI 58 := by rw [e3, rd_wr_j (by first | omega | (dsimp only; omega)), e2, rd_wr_s]
  have q3 : rd m3 176 3 = nI (48 + t) := by rw [e3, rd_wr_s]
  have hC : CI m3 s t 0 (fun _ => 0) (fun _ => 0) (fun _ => 0) := by
    refine ⟨?_, ?_, ⟨q0, q1, q2, q3, fun i hi => by omega⟩, fun j hj => by omega, fun j hj => ?_⟩
    · rw [e3, rd_wr_k (by first | omega | (dsimp only; omega)), e2, rd_wr_k (by first | omega | (dsimp only; omega)), rd_wr_k (by first | omega | (dsimp only; omega))]; exact r18
    · rw [e3, rd_wr_k (by first | omega | (dsimp only; omega))]; exact r19
    · have hj4 : j < 4 := hj
      rcases (by omega : j = 0 ∨ j = 1 ∨ j = 2 ∨ j = 3) with rfl | rfl | rfl | rfl
      · exact ⟨110, by omega, q0⟩
      · exact ⟨48 + s, by omega, q1⟩
      · exact ⟨58, by omega, q2⟩
      · exact ⟨48 + t, by omega, q3⟩
  have hF : Fr CoC mm m3 := by
    rw [e3, e2, e1]
    exact fr_wr (fr_wr (fr_wr (fr_wr (fr_wr (fr_wr Fr.rf (by unfold CoC; first | omega | (dsimp only; omega))) (by unfold CoC; first | omega | (dsimp only; omega))) (by unfold CoC; first | omega | (dsimp only; omega))) (by unfold CoC; first | omega | (dsimp only; omega))) (by unfold CoC; first | omega | (dsimp only; omega))) (by unfold CoC; first | omega | (dsimp only; omega))
  obtain ⟨m', K, W, F, z1, z2, z3⟩ := lc88 (N := N) (L := L) (xs := xs) (s := s) (t := t) hN hL h0 hn (by first | omega | (dsimp only; omega)) (by first | omega | (dsimp only; omega)) (a2 := 1) (by first | omega | (dsimp only; omega)) n 0 _ _ _ m3 (by first | omega | (dsimp only; omega)) hC N (by first | omega | (dsimp only; omega))
  refine ⟨m', s, t, K, W, F, ?_, by omega, by omega, hF.tr z2, z3⟩
  unfold fL_court_6
  refine st_b hc1 (st_b s2 (st_k (i := 18) ln_175 (by first | omega | (dsimp only; omega)) (by first | omega | (dsimp only; omega)) (st_n (st_b hc2 (st_b t2 (st_k (i := 19) ln_175 (by first | omega | (dsimp only; omega)) (by first | omega | (dsimp only; omega)) (st_n (st_k (i := 0) ln_176 (by first | omega | (dsimp only; omega)) (by first | omega | (dsimp only; omega)) (st_n (st_k (i := 18) ln_175 (by first | omega | (dsimp only; omega)) (by first | omega | (dsimp only; omega)) ?_))))))))))
  change bd2 (fL_number N 176 1 (rd (wr (wr (wr mm 175 18 (nI s)) 175 19 (nI t)) 176 0 (nI 110)) 175 18) (wr (wr (wr mm 175 18 (nI s)) 175 19 (nI t)) 176 0 (nI 110))) _ = _
  rw [← e1, r18]
  refine st_b n1 (st_k (i := 2) ln_176 (by first | omega | (dsimp only; omega)) (by first | omega | (dsimp only; omega)) (st_n (st_k (i := 19) ln_175 (by first | omega | (dsimp only; omega)) (by first | omega | (dsimp only; omega)) ?_)))
  change bd2 (fL_number N 176 (nI 3) (rd (wr (wr m1 176 1 (nI (48 + s))) 176 2 (nI 58)) 175 19) (wr (wr m1 176 1 (nI (48 + s))) 176 2 (nI 58))) _ = _
  rw [← e2, r19]
  exact st_b n2 z1
end Lc
