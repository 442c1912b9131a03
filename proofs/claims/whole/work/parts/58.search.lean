/-! pure: the class' search -/
/-- what a search has found: the best leaf b, the greatest score G by sheets -/
def SR (mm : Mm) (n : Nat) (b : Option Lf) (G : Nat → Option Nat) : Prop := (∀ u, u ≤ 240 → rd mm 37 u = oV (-1) (G u) ∧ ∀ v, G u = some v → v ≤ 108) ∧ (∀ j, n ≤ j → j < 6 → rd mm 36 j = 0) ∧ (∀ y, b = some y → rd mm 35 1 = nI y.1 ∧ rd mm 35 2 = nI y.2.1 ∧ HA mm 36 n y.2.2 ∧ y.1 ≤ 108 ∧ y.2.1 ≤ 240 ∧ ∀ j, j < n → y.2.2 j ≤ 40) ∧ (b = none → rd mm 35 1 = -1)
theorem SR.c {mm m2 : Mm} {n : Nat} {b : Option Lf} {G : Nat → Option Nat} (h : SR mm n b G) (e : ∀ k j, (k = 35 ∧ (j = 1 ∨ j = 2)) ∨ k = 36 ∨ k = 37 → rd m2 k j = rd mm k j) : SR m2 n b G := by
  obtain ⟨h1, h2, h3, h4⟩ := h
  refine ⟨fun u hu => by rw [e _ _ (by first | omega | (dsimp only; omega))]; exact h1 u hu, fun j a b => by rw [e _ _ (by first | omega | (dsimp only; omega))]; exact h2 j a b, fun y hy => ?_, fun hb => by rw [e _ _ (by first | omega | (dsimp only; omega))]; exact h4 hb⟩
  obtain ⟨a1, a2, a3, a4⟩ := h3 y hy
  exact ⟨by rw [e _ _ (by first | omega | (dsimp only; omega))]; exact a1, by rw [e _ _ (by first | omega | (dsimp only; omega))]; exact a2, a3.c (fun i hi => e _ _ (by first | omega | (dsimp only; omega))), a4⟩
section Cs
variable {N n : Nat}
theorem earl_l {mm : Mm} {l v : Nat → Nat} (hn6 : n ≤ 6) (h1 : HA mm 39 n l) (h2 : HA mm 36 n v) (h3 : ∀ j, n ≤ j → j < 6 → rd mm 39 j = 0) (h4 : ∀ j, n ≤ j → j < 6 → rd mm 36 j = 0) (hl : ∀ j, j < n → l j ≤ 40) (hv : ∀ j, j < n → v j ≤ 40) : ∀ c i, i + c = 6 → ∀ f, c < f → fX8_isEarlier_2 N f 35 (nI i) mm = some (if lexL l v (n - i) i = true then 1 else 0, mm) := by
  intro c
  induction c with
  | zero =>
    intro i hi f hf
    obtain ⟨f, rfl⟩ : ∃ g, f = g + 1 := ⟨f - 1, by omega⟩
    have : n - i = 0 := by omega
    rw [this]
    unfold fX8_isEarlier_2
    exact st_t (nI_le (by first | omega | (dsimp only; omega)) (by first | omega | (dsimp only; omega))) rfl
  | succ c ih =>
    intro i hi f hf
    obtain ⟨f, rfl⟩ : ∃ g, f = g + 1 := ⟨f - 1, by omega⟩
    have ih2 := ih (i + 1) (by first | omega | (dsimp only; omega)) f (by first | omega | (dsimp only; omega))
    unfold fX8_isEarlier_2
    simp only [LXb, nI_nat (show i < 2147483648 by omega), nI_1]
    refine st_f (nI_ge (by first | omega | (dsimp only; omega)) (by first | omega | (dsimp only; omega))) (st_k rfl (by first | omega | (dsimp only; omega)) (by first | omega | (dsimp only; omega)) (st_k rfl (by first | omega | (dsimp only; omega)) (by first | omega | (dsimp only; omega)) ?_))
    by_cases hin : i < n
    · rw [h1 i hin, h2 i hin]
      have e1 : n - i = (n - (i + 1)) + 1 := by omega
      have := hl i hin
      have := hv i hin
      rw [e1]
      unfold lexL
      by_cases hq : l i = v i
      · rw [if_pos hq]
        exact st_t (by rw [hq]) ih2
      · rw [if_neg hq]
        refine st_f (fun q => hq (nI_inj q (by first | omega | (dsimp only; omega)) (by first | omega | (dsimp only; omega)))) (st_k rfl (by first | omega | (dsimp only; omega)) (by first | omega | (dsimp only; omega)) (st_k rfl (by first | omega | (dsimp only; omega)) (by first | omega | (dsimp only; omega)) ?_))
        by_cases hlt : v i ≤ l i
        · rw [if_neg (show ¬ decide (l i < v i) = true by rw [decide_eq_true_eq]; omega)]
          exact st_t (nI_le hlt (by first | omega | (dsimp only; omega))) rfl
        · rw [if_pos (show decide (l i < v i) = true by rw [decide_eq_true_eq]; omega)]
          exact st_f (nI_ge (by first | omega | (dsimp only; omega)) (by first | omega | (dsimp only; omega))) rfl
    · rw [h3 i (by first | omega | (dsimp only; omega)) (by first | omega | (dsimp only; omega)), h4 i (by first | omega | (dsimp only; omega)) (by first | omega | (dsimp only; omega))]
      have e1 : n - i = 0 := by omega
      have e2 : n - (i + 1) = 0 := by omega
      rw [e2] at ih2
      rw [e1]
      exact st_t rfl ih2
theorem earl_e {mm : Mm} {l v : Nat → Nat} (hN : 100000 ≤ N) (hn6 : n ≤ 6) (h1 : HA mm 39 n l) (h2 : HA mm 36 n v) (h3 : ∀ j, n ≤ j → j < 6 → rd mm 39 j = 0) (h4 : ∀ j, n ≤ j → j < 6 → rd mm 36 j = 0) (hl : ∀ j, j < n → l j ≤ 40) (hv : ∀ j, j < n → v j ≤ 40) : fX8_isEarlier N 35 mm = some (if lexL l v n 0 = true then 1 else 0, mm) :=
  earl_l hn6 h1 h2 h3 h4 hl hv 6 0 (by first | omega | (dsimp only; omega)) N (by first | omega | (dsimp only; omega))
theorem close_e {mm : Mm} {b : Option Lf} {G : Nat → Option Nat} {l : Nat → Nat} {sc sh : Nat} (hN : 100000 ≤ N) (hn6 : n ≤ 6) (hS : SR mm n b G) (hL : HA mm 39 n l) (h3 : ∀ j, n ≤ j → j < 6 → rd mm 39 j = 0) (hl : ∀ j, j < n → l j ≤ 40) (hsc : sc ≤ 108) (hsh : sh ≤ 240) : ∃ m', fX8_close N 35 (nI sh) (nI sc) mm = some ((), m') ∧ Fr (fun k j => (k = 35 ∧ (j = 1 ∨ j = 2)) ∨ k = 36 ∨ k = 37) mm m' ∧ SR m' n (bst n b (sc, sh, l)) (gst G (sc, sh, l)) := by
  obtain ⟨s1, s2, s3, s4⟩ := hS
  -- what close_69 leaves
  have h69 : ∀ (m1 : Mm), (∀ j, j < 6 → rd m1 39 j = rd mm 39 j) → ∃ m', fX8_close_69 N 35 (nI sh) (nI sc) m1 = some ((), m') ∧ Fr (fun k j => (k = 35 ∧ (j = 1 ∨ j = 2)) ∨ k = 36) m1 m' ∧ rd m' 35 1 = nI sc ∧ rd m' 35 2 = nI sh ∧ HA m' 36 n l ∧ ∀ j, n ≤ j → j < 6 → rd m' 36 j = 0 := by
    intro m1 e
    refine ⟨cpy (wr (wr m1 35 1 (nI sc)) 35 2 (nI sh)) 39 36 0 0 6, ?_, fr_cpy (fr_wr (fr_wr Fr.rf (by first | omega | (dsimp only; omega))) (by first | omega | (dsimp only; omega))) (fun j => by omega), ?_, ?_, fun i hi => ?_, fun j a c => ?_⟩
    · unfold fX8_close_69
      refine st_n (st_n ?_)
      simp only [LXb]
      exact st_g (by decide) (st_n rfl)
    · rw [rd_cpy, if_neg (by first | omega | (dsimp only; omega)), rd_wr_j (by first | omega | (dsimp only; omega)), rd_wr_s]
    · rw [rd_cpy, if_neg (by first | omega | (dsimp only; omega)), rd_wr_s]
    · rw [rd_cpy, if_pos ⟨rfl, by show (0 : Nat) ≤ i; omega, by show i < 0 + 6; omega⟩]
      show rd _ 39 (0 + (i - 0)) = _
      rw [show 0 + (i - 0) = i by omega, rd_wr_k (by first | omega | (dsimp only; omega)), rd_wr_k (by first | omega | (dsimp only; omega)), e i (by first | omega | (dsimp only; omega))]
      exact hL i hi
    · rw [rd_cpy, if_pos ⟨rfl, by show (0 : Nat) ≤ j; omega, by show j < 0 + 6; omega⟩]
      show rd _ 39 (0 + (j - 0)) = _
      rw [show 0 + (j - 0) = j by omega, rd_wr_k (by first | omega | (dsimp only; omega)), rd_wr_k (by first | omega | (dsimp only; omega)), e j c]
      exact h3 j a c
  -- what close_30 leaves
  have h30 : ∀ (m1 : Mm), (∀ k j, k ≠ 37 → rd m1 k j = rd mm k j) → ∃ m', fX8_close_30 N 35 (nI sh) (nI sc) m1 = some ((), m') ∧ Fr (fun k j => (k = 35 ∧ (j = 1 ∨ j = 2)) ∨ k = 36) m1 m' ∧ (∀ j, n ≤ j → j < 6 → rd m' 36 j = 0) ∧ (∀ y, bst n b (sc, sh, l) = some y → rd m' 35 1 = nI y.1 ∧ rd m' 35 2 = nI y.2.1 ∧ HA m' 36 n y.2.2 ∧ y.1 ≤ 108 ∧ y.2.1 ≤ 240 ∧ ∀ j, j < n → y.2.2 j ≤ 40) ∧ (bst n b (sc, sh, l) = none → rd m' 35 1 = -1) := by
    intro m1 e
    obtain ⟨m', r1, r2, r3, r4, r5, r6⟩ := h69 m1 (fun j _ => e _ _ (by first | omega | (dsimp only; omega)))
    have new : ∀ y, some (sc, sh, l) = some y → rd m' 35 1 = nI y.1 ∧ rd m' 35 2 = nI y.2.1 ∧ HA m' 36 n y.2.2 ∧ y.1 ≤ 108 ∧ y.2.1 ≤ 240 ∧ ∀ j, j < n → y.2.2 j ≤ 40 := by
      intro y hy
      cases hy
      exact ⟨r3, r4, r5, hsc, hsh, hl⟩
    unfold fX8_close_30
    cases b with
    | none =>
      refine ⟨m', st_t ?_ r1, r2, r6, new, fun q => by cases q⟩
      rw [e 35 1 (by first | omega | (dsimp only; omega)), s4 rfl, i_lt, nI_toInt (by first | omega | (dsimp only; omega))]
      have : (-1 : Int32).toInt = -1 := rfl
      omega
    | some y =>
      obtain ⟨a1, a2, a3, a4, a5, a6⟩ := s3 y rfl
      have old : ∀ v, some y = some v → rd m1 35 1 = nI v.1 ∧ rd m1 35 2 = nI v.2.1 ∧ HA m1 36 n v.2.2 ∧ v.1 ≤ 108 ∧ v.2.1 ≤ 240 ∧ ∀ j, j < n → v.2.2 j ≤ 40 := by
        intro v hv
        cases hv
        exact ⟨by rw [e _ _ (by first | omega | (dsimp only; omega))]; exact a1, by rw [e _ _ (by first | omega | (dsimp only; omega))]; exact a2, a3.c (fun i hi => e _ _ (by first | omega | (dsimp only; omega))), a4, a5, a6⟩
      have old6 : ∀ j, n ≤ j → j < 6 → rd m1 36 j = 0 := fun j a c => by rw [e _ _ (by first | omega | (dsimp only; omega))]; exact s2 j a c
      have hb : bst n (some y) (sc, sh, l) = if btr n (sc, sh, l) y = true then some (sc, sh, l) else some y := rfl
      rw [hb, e 35 1 (by first | omega | (dsimp only; omega)), e 35 2 (by first | omega | (dsimp only; omega)), a1, a2]
      have hB : btr n (sc, sh, l) y = true ↔ y.1 < sc ∨ (sc = y.1 ∧ (sh < y.2.1 ∨ (sh = y.2.1 ∧ lexL l y.2.2 n 0 = true))) := by
        unfold btr
        simp only [Bool.or_eq_true, Bool.and_eq_true, decide_eq_true_eq]
      by_cases c1 : y.1 < sc
      · rw [if_pos (hB.mpr (Or.inl c1))]
        exact ⟨m', st_t (nI_lt c1 (by first | omega | (dsimp only; omega))) r1, r2, r6, new, fun q => by cases q⟩
      by_cases c2 : sc = y.1
      · by_cases c3 : sh < y.2.1
        · rw [if_pos (hB.mpr (Or.inr ⟨c2, Or.inl c3⟩))]
          exact ⟨m', st_f (nI_nlt (by first | omega | (dsimp only; omega)) (by first | omega | (dsimp only; omega))) (st_t (by rw [c2]) (st_t (nI_lt c3 (by first | omega | (dsimp only; omega))) r1)), r2, r6, new, fun q => by cases q⟩
        by_cases c4 : sh = y.2.1
        · have he := earl_e (N := N) (mm := m1) (l := l) (v := y.2.2) hN hn6 (hL.c (fun i hi => e _ _ (by first | omega | (dsimp only; omega)))) (a3.c (fun i hi => e _ _ (by first | omega | (dsimp only; omega)))) (fun j a c => by rw [e _ _ (by first | omega | (dsimp only; omega))]; exact h3 j a c) old6 hl a6
          by_cases c5 : lexL l y.2.2 n 0 = true
          · rw [if_pos (hB.mpr (Or.inr ⟨c2, Or.inr ⟨c4, c5⟩⟩))]
            rw [if_pos c5] at he
            exact ⟨m', st_f (nI_nlt (by first | omega | (dsimp only; omega)) (by first | omega | (dsimp only; omega))) (st_t (by rw [c2]) (st_f (nI_nlt (by first | omega | (dsimp only; omega)) (by first | omega | (dsimp only; omega))) (st_t (by rw [c4]) (st_b he (st_f (by decide) r1))))), r2, r6, new, fun q => by cases q⟩
          · rw [if_neg (show ¬ btr n (sc, sh, l) y = true from fun q => by rcases hB.mp q with q | ⟨q, q' | ⟨q', q''⟩⟩ <;> first | omega | exact c5 q'')]
            rw [if_neg c5] at he
            exact ⟨m1, st_f (nI_nlt (by first | omega | (dsimp only; omega)) (by first | omega | (dsimp only; omega))) (st_t (by rw [c2]) (st_f (nI_nlt (by first | omega | (dsimp only; omega)) (by first | omega | (dsimp only; omega))) (st_t (by rw [c4]) (st_b he (st_t rfl rfl))))), Fr.rf, old6, old, fun q => by cases q⟩
        · rw [if_neg (show ¬ btr n (sc, sh, l) y = true from fun q => by rcases hB.mp q with q | ⟨q, q' | ⟨q', q''⟩⟩ <;> omega)]
          exact ⟨m1, st_f (nI_nlt (by first | omega | (dsimp only; omega)) (by first | omega | (dsimp only; omega))) (st_t (by rw [c2]) (st_f (nI_nlt (by first | omega | (dsimp only; omega)) (by first | omega | (dsimp only; omega))) (st_f (fun q => c4 (nI_inj q (by first | omega | (dsimp only; omega)) (by first | omega | (dsimp only; omega)))) rfl))), Fr.rf, old6, old, fun q => by cases q⟩
      · rw [if_neg (show ¬ btr n (sc, sh, l) y = true from fun q => by rcases hB.mp q with q | ⟨q, q' | ⟨q', q''⟩⟩ <;> omega)]
        exact ⟨m1, st_f (nI_nlt (by first | omega | (dsimp only; omega)) (by first | omega | (dsimp only; omega))) (st_f (fun q => c2 (nI_inj q (by first | omega | (dsimp only; omega)) (by first | omega | (dsimp only; omega)))) rfl), Fr.rf, old6, old, fun q => by cases q⟩
  -- greatest
  obtain ⟨g1, g2⟩ := s1 sh hsh
  have fin : ∀ m1 : Mm, Fr (fun k _ => k = 37) mm m1 → (∀ u, u ≤ 240 → rd m1 37 u = oV (-1) (gst G (sc, sh, l) u)) → fX8_close N 35 (nI sh) (nI sc) mm = fX8_close_30 N 35 (nI sh) (nI sc) m1 → ∃ m', fX8_close N 35 (nI sh) (nI sc) mm = some ((), m') ∧ Fr (fun k j => (k = 35 ∧ (j = 1 ∨ j = 2)) ∨ k = 36 ∨ k = 37) mm m' ∧ SR m' n (bst n b (sc, sh, l)) (gst G (sc, sh, l)) := by
    intro m1 f1 f2 f3
    obtain ⟨m', r1, r2, r3, r4, r5⟩ := h30 m1 (fun k j hk => f1.2 _ _ hk)
    refine ⟨m', f3.trans r1, (f1.mono (fun k j e => by omega)).tr (r2.mono (fun k j e => by omega)), fun u hu => ⟨?_, fun v hv => ?_⟩, r3, r4, r5⟩
    · rw [r2.2 _ _ (by first | omega | (dsimp only; omega))]; exact f2 u hu
    · unfold gst at hv
      by_cases hus : u = sh
      · rw [if_pos hus] at hv
        unfold omx at hv
        cases hG : G u with
        | none => rw [hG] at hv; cases hv; exact hsc
        | some q =>
          rw [hG] at hv
          have := (s1 u hu).2 q hG
          cases hv
          show (if q < sc then sc else q) ≤ 108
          split <;> omega
      · rw [if_neg hus] at hv; exact (s1 u hu).2 v hv
  have hcl : ∀ m1, (if nI sc ≤ rd mm 37 sh then fX8_close_30 N 35 (nI sh) (nI sc) mm else (gd (inb (nI sh) 241) <| nm (wr mm 37 sh (nI sc)) fun m18 => fX8_close_30 N 35 (nI sh) (nI sc) m18)) = fX8_close_30 N 35 (nI sh) (nI sc) m1 → fX8_close N 35 (nI sh) (nI sc) mm = fX8_close_30 N 35 (nI sh) (nI sc) m1 := by
    intro m1 e
    unfold fX8_close
    simp only [LXb, nI_nat (show sh < 2147483648 by omega)]
    exact st_f (nI_pos (by first | omega | (dsimp only; omega))) (st_f (nI_ge (b := 241) (by first | omega | (dsimp only; omega)) (by first | omega | (dsimp only; omega))) (st_k rfl (by first | omega | (dsimp only; omega)) (by first | omega | (dsimp only; omega)) e))
  by_cases hc : nI sc ≤ rd mm 37 sh
  · refine fin mm Fr.rf (fun u hu => ?_) (hcl mm (st_t hc rfl))
    rw [(s1 u hu).1]
    by_cases hus : u = sh
    · subst hus
      unfold gst
      rw [if_pos rfl]
      cases hG : G u with
      | none =>
        rw [g1, hG] at hc
        rw [i_le, nI_toInt (by first | omega | (dsimp only; omega))] at hc
        have : (oV (-1) none).toInt = -1 := rfl
        omega
      | some q =>
        have hq := g2 q hG
        rw [g1, hG] at hc
        have hc' : nI sc ≤ nI q := hc
        rw [i_le, nI_toInt (by first | omega | (dsimp only; omega)), nI_toInt (by first | omega | (dsimp only; omega))] at hc'
        show nI q = nI (if q < sc then sc else q)
        rw [if_neg (by first | omega | (dsimp only; omega))]
    · unfold gst; rw [if_neg hus]
  · refine fin (wr mm 37 sh (nI sc)) (fr_wr Fr.rf rfl) (fun u hu => ?_) (hcl _ (st_f hc (st_k rfl (by first | omega | (dsimp only; omega)) (by first | omega | (dsimp only; omega)) (st_n rfl))))
    by_cases hus : u = sh
    · subst hus
      rw [rd_wr_s]
      unfold gst
      rw [if_pos rfl]
      cases hG : G u with
      | none => rfl
      | some q =>
        have hq := g2 q hG
        rw [g1, hG] at hc
        have hc' : ¬ nI sc ≤ nI q := hc
        rw [i_le, nI_toInt (by first | omega | (dsimp only; omega)), nI_toInt (by first | omega | (dsimp only; omega))] at hc'
        show nI sc = nI (if q < sc then sc else q)
        rw [if_pos (by first | omega | (dsimp only; omega))]
    · rw [rd_wr_j hus, (s1 u hu).1]
      unfold gst; rw [if_neg hus]
end Cs
section Br
variable {N n d q Q L : Nat} {K W F z : Nat → Nat}
/-- what stands while the class searches, the suits ahead of i being fixed -/
def BI (mm : Mm) (n d q L i : Nat) (K W F z w l : Nat → Nat) : Prop := CS mm n K W F ∧ rd mm 35 7 = nI d ∧ rd mm 35 6 = nI L ∧ HA mm q n z ∧ HA mm 38 i w ∧ HA mm 39 i l ∧ (∀ j, n ≤ j → j < 6 → rd mm 39 j = 0) ∧ (∀ j, j < i → w j ≤ 2 ∧ l j ≤ 40)
theorem BI.c {mm m2 : Mm} {i : Nat} {w l : Nat → Nat} (h : BI mm n d q L i K W F z w l) (hq : q < 35 ∨ 39 < q) (hi : i ≤ n) (f : Fr (fun k j => (k = 35 ∧ (j = 1 ∨ j = 2)) ∨ k = 36 ∨ k = 37 ∨ ((k = 38 ∨ k = 39) ∧ i ≤ j ∧ j < n)) mm m2) : BI m2 n d q L i K W F z w l := by
  obtain ⟨h1, h2, h3, h4, h5, h6, h7, h8⟩ := h
  exact ⟨CS_c h1 (fun k j e => f.2 _ _ (by first | omega | (dsimp only; omega))), by rw [f.2 _ _ (by first | omega | (dsimp only; omega))]; exact h2, by rw [f.2 _ _ (by first | omega | (dsimp only; omega))]; exact h3, h4.c (fun j hj => f.2 _ _ (by first | omega | (dsimp only; omega))), h5.c (fun j hj => f.2 _ _ (by first | omega | (dsimp only; omega))), h6.c (fun j hj => f.2 _ _ (by first | omega | (dsimp only; omega))), fun j a b => by rw [f.2 _ _ (by first | omega | (dsimp only; omega))]; exact h7 j a b, h8⟩
theorem branch_l (hN : 100000 ≤ N) (hd9 : d ≤ 9) (hL : L ≤ 240) (hQ : ln q = Q) (hQ6 : 6 ≤ Q ∧ Q ≤ 1000) (hq : q < 35 ∨ 39 < q) (hz : ∀ i, i < n → z i ≤ 1000) (hn6 : n ≤ 6) : ∀ r i w l sc sh mm b G D, i + r = n → r < D → BI mm n d q L i K W F z w l → SR mm n b G → sc ≤ 18 * i → sh ≤ 240 → ∃ m', fX8_branch N D 35 3 q (nI i) (nI sh) (nI sc) mm = some ((), m') ∧ Fr (fun k j => (k = 35 ∧ (j = 1 ∨ j = 2)) ∨ k = 36 ∨ k = 37 ∨ ((k = 38 ∨ k = 39) ∧ i ≤ j ∧ j < n)) mm m' ∧ SR m' n ((lvs K W F d z 0 L r i w l sc sh).foldl (bst n) b) ((lvs K W F d z 0 L r i w l sc sh).foldl gst G) := by
  intro r
  induction r with
  | zero =>
    intro i w l sc sh mm b G D hi hD hB hS hsc hsh
    obtain ⟨D, rfl⟩ : ∃ g, D = g + 1 := ⟨D - 1, by omega⟩
    obtain rfl : i = n := by omega
    obtain ⟨h1, h2, h3, h4, h5, h6, h7, h8⟩ := hB
    obtain ⟨m', c1, c2, c3⟩ := close_e (N := N) (l := l) (sc := sc) (sh := sh) hN hn6 hS h6 h7 (fun j hj => (h8 j hj).2) (by first | omega | (dsimp only; omega)) hsh
    refine ⟨m', ?_, c2.mono (fun k j e => by omega), c3⟩
    unfold fX8_branch fX8_branch_0 fX8_branch_24
    exact st_b (suitOf_e h1) (st_c0 (st_b c1 rfl))
  | succ r ih =>
    intro i w l sc sh mm b G D hi hD hB hS hsc hsh
    obtain ⟨D, rfl⟩ : ∃ g, D = g + 1 := ⟨D - 1, by omega⟩
    have hin : i < n := by omega
    -- the loop over the ends
    have loop : ∀ c e mm b G, e + c = 3 → BI mm n d q L i K W F z w l → SR mm n b G → ∀ f, c < f → ∃ m', fX8_branch_36 N (fX8_branch N D) f 35 3 q (nI i) (nI sh) (nI sc) (17 + i) (nI e) mm = some ((), m') ∧ Fr (fun k j => (k = 35 ∧ (j = 1 ∨ j = 2)) ∨ k = 36 ∨ k = 37 ∨ ((k = 38 ∨ k = 39) ∧ i ≤ j ∧ j < n)) mm m' ∧ SR m' n ((lvC (fun e => match nd K F d w z 0 i e with
        | none => []
        | some x => if sh + x ≤ L then lvs K W F d z 0 L r (i + 1) (up w i e) (up l i x) (sc + pts (W i) 0 e) (sh + x) else []) c e).foldl (bst n) b) ((lvC (fun e => match nd K F d w z 0 i e with
        | none => []
        | some x => if sh + x ≤ L then lvs K W F d z 0 L r (i + 1) (up w i e) (up l i x) (sc + pts (W i) 0 e) (sh + x) else []) c e).foldl gst G) := by
      intro c
      induction c with
      | zero =>
        intro e mm b G he hB hS f hf
        obtain ⟨f, rfl⟩ : ∃ g, f = g + 1 := ⟨f - 1, by omega⟩
        refine ⟨mm, ?_, Fr.rf, hS⟩
        unfold fX8_branch_36
        exact st_t (nI_le (by first | omega | (dsimp only; omega)) (by first | omega | (dsimp only; omega))) rfl
      | succ c ihc =>
        intro e mm b G he hB hS f hf
        obtain ⟨f, rfl⟩ : ∃ g, f = g + 1 := ⟨f - 1, by omega⟩
        obtain ⟨h1, h2, h3, h4, h5, h6, h7, h8⟩ := hB
        obtain ⟨u, k1, k2, k3, k4, k5, k6, k7⟩ := h1.2.2 i hin
        obtain ⟨R, r1, r2⟩ := cneed_e (N := N) (d := d) (w := w) (z := z) (p := 38) (s := 0) (i := i) (e := e) h1 hd9 hin (by first | omega | (dsimp only; omega)) (by first | omega | (dsimp only; omega)) rfl (fun q => ⟨h5 _ (k6 q), (h8 _ (k6 q)).1⟩) (hz i hin)
        have pts18 := pts_18 (s := 0) (e := e) k3
        have hstep : ∀ rr, (if R < 0 then fX8_branch_36 N (fX8_branch N D) f 35 3 q (nI i) (nI sh) (nI sc) (17 + i) (nI (e + 1)) mm else if (40 : Int32) < R then fX8_branch_36 N (fX8_branch N D) f 35 3 q (nI i) (nI sh) (nI sc) (17 + i) (nI (e + 1)) mm else if nI L < nI sh + R then fX8_branch_36 N (fX8_branch N D) f 35 3 q (nI i) (nI sh) (nI sc) (17 + i) (nI (e + 1)) mm else bd2 (fX9_points N (17 + i) 0 (nI e) (wr (wr mm 38 i (nI e)) 39 i R)) fun x13 m14 => bd2 (fX8_branch N D 35 3 q (nI (i + 1)) (nI sh + R) (nI sc + x13) m14) fun x16 m17 => fX8_branch_36 N (fX8_branch N D) f 35 3 q (nI i) (nI sh) (nI sc) (17 + i) (nI (e + 1)) m17) = rr → fX8_branch_36 N (fX8_branch N D) (f + 1) 35 3 q (nI i) (nI sh) (nI sc) (17 + i) (nI e) mm = rr := by
          intro rr hrr
          unfold fX8_branch_36 fX8_branch_128
          simp only [LXb, nI_nat (show i < 2147483648 by omega), nI_1, h2, h4 i hin]
          refine st_f (nI_ge (by first | omega | (dsimp only; omega)) (by first | omega | (dsimp only; omega))) (st_k hQ (by first | omega | (dsimp only; omega)) (by first | omega | (dsimp only; omega)) (st_b r1 ?_))
          rw [← hrr, h3]
          by_cases c1 : R < 0
          · rw [if_pos c1, if_pos c1]
          rw [if_neg c1, if_neg c1]
          by_cases c2 : (40 : Int32) < R
          · rw [if_pos c2, if_pos c2]
          rw [if_neg c2, if_neg c2]
          by_cases c3 : nI L < nI sh + R
          · rw [if_pos c3, if_pos c3]
          rw [if_neg c3, if_neg c3]
          exact st_k rfl (by first | omega | (dsimp only; omega)) (by first | omega | (dsimp only; omega)) (st_n (st_k rfl (by first | omega | (dsimp only; omega)) (by first | omega | (dsimp only; omega)) (st_n rfl)))
        have skip : (match nd K F d w z 0 i e with
            | none => []
            | some x => if sh + x ≤ L then lvs K W F d z 0 L r (i + 1) (up w i e) (up l i x) (sc + pts (W i) 0 e) (sh + x) else []) = [] → (R < 0 ∨ (40 : Int32) < R ∨ nI L < nI sh + R) → ∃ m', fX8_branch_36 N (fX8_branch N D) (f + 1) 35 3 q (nI i) (nI sh) (nI sc) (17 + i) (nI e) mm = some ((), m') ∧ Fr (fun k j => (k = 35 ∧ (j = 1 ∨ j = 2)) ∨ k = 36 ∨ k = 37 ∨ ((k = 38 ∨ k = 39) ∧ i ≤ j ∧ j < n)) mm m' ∧ SR m' n ((lvC (fun e => match nd K F d w z 0 i e with
              | none => []
              | some x => if sh + x ≤ L then lvs K W F d z 0 L r (i + 1) (up w i e) (up l i x) (sc + pts (W i) 0 e) (sh + x) else []) (c + 1) e).foldl (bst n) b) ((lvC (fun e => match nd K F d w z 0 i e with
              | none => []
              | some x => if sh + x ≤ L then lvs K W F d z 0 L r (i + 1) (up w i e) (up l i x) (sc + pts (W i) 0 e) (sh + x) else []) (c + 1) e).foldl gst G) := by
          intro hnil hR
          obtain ⟨m', a1, a2, a3⟩ := ihc (e + 1) mm b G (by first | omega | (dsimp only; omega)) ⟨h1, h2, h3, h4, h5, h6, h7, h8⟩ hS f (by first | omega | (dsimp only; omega))
          refine ⟨m', hstep _ ?_, a2, ?_⟩
          · by_cases c1 : R < 0
            · exact st_t c1 a1
            · refine st_f c1 ?_
              by_cases c2 : (40 : Int32) < R
              · exact st_t c2 a1
              · refine st_f c2 ?_
                rcases hR with q | q | q
                · exact absurd q c1
                · exact absurd q c2
                · exact st_t q a1
          · unfold lvC
            rw [hnil]
            exact a3
        rcases r2 with ⟨q1, q2⟩ | ⟨y, qy, q1, q3⟩
        · exact skip (by rw [q2]) (Or.inl (by rw [q1]; decide))
        · by_cases hy : y ≤ 40
          · rw [if_pos hy] at q3
            by_cases hLy : sh + y ≤ L
            · -- taken
              have hup : Fr (fun k j => (k = 35 ∧ (j = 1 ∨ j = 2)) ∨ k = 36 ∨ k = 37 ∨ ((k = 38 ∨ k = 39) ∧ i ≤ j ∧ j < n)) mm (wr (wr mm 38 i (nI e)) 39 i (nI y)) := fr_wr (fr_wr Fr.rf (by first | omega | (dsimp only; omega))) (by first | omega | (dsimp only; omega))
              have hB0 : BI mm n d q L i K W F z w l := ⟨h1, h2, h3, h4, h5, h6, h7, h8⟩
              obtain ⟨p1, p2, p3, p4, p5, p6, p7, p8⟩ := hB0.c hq (by first | omega | (dsimp only; omega)) hup
              have hB1 : BI (wr (wr mm 38 i (nI e)) 39 i (nI y)) n d q L (i + 1) K W F z (up w i e) (up l i y) := by
                refine ⟨p1, p2, p3, p4, fun j hj => ?_, fun j hj => ?_, p7, fun j hj => ?_⟩
                · by_cases hji : j = i
                  · subst hji; rw [up_s, rd_wr_k (by first | omega | (dsimp only; omega)), rd_wr_s]
                  · rw [up_o hji]; exact p5 j (by first | omega | (dsimp only; omega))
                · by_cases hji : j = i
                  · subst hji; rw [up_s, rd_wr_s]
                  · rw [up_o hji]; exact p6 j (by first | omega | (dsimp only; omega))
                · by_cases hji : j = i
                  · subst hji; rw [up_s, up_s]; omega
                  · rw [up_o hji, up_o hji]; exact h8 j (by first | omega | (dsimp only; omega))
              obtain ⟨m1, a1, a2, a3⟩ := ih (i + 1) (up w i e) (up l i y) (sc + pts (W i) 0 e) (sh + y) _ b G D (by first | omega | (dsimp only; omega)) (by first | omega | (dsimp only; omega)) hB1 (hS.c (fun k j e => by rw [rd_wr, if_neg (by first | omega | (dsimp only; omega)), rd_wr, if_neg (by first | omega | (dsimp only; omega))])) (by first | omega | (dsimp only; omega)) (by first | omega | (dsimp only; omega))
              have hfr1 : Fr (fun k j => (k = 35 ∧ (j = 1 ∨ j = 2)) ∨ k = 36 ∨ k = 37 ∨ ((k = 38 ∨ k = 39) ∧ i ≤ j ∧ j < n)) mm m1 := hup.tr (a2.mono (fun k j e => by omega))
              obtain ⟨m2, b1, b2, b3⟩ := ihc (e + 1) m1 _ _ (by first | omega | (dsimp only; omega)) (hB0.c hq (by first | omega | (dsimp only; omega)) hfr1) a3 f (by first | omega | (dsimp only; omega))
              refine ⟨m2, hstep _ ?_, hfr1.tr b2, ?_⟩
              · rw [q1, nI_add]
                refine st_f (nI_pos (by first | omega | (dsimp only; omega))) (st_f (nI_nlt (by first | omega | (dsimp only; omega)) (by first | omega | (dsimp only; omega))) (st_f (nI_nlt (by first | omega | (dsimp only; omega)) (by first | omega | (dsimp only; omega))) ?_))
                have u2 : SU (wr (wr mm 38 i (nI e)) 39 i (nI y)) (17 + i) (K i) (W i) (F i) := (p1.2.2 i hin).1
                refine st_b (points_e (s := 0) u2 (by first | omega | (dsimp only; omega)) (by first | omega | (dsimp only; omega))) ?_
                rw [nI_add]
                exact st_b a1 b1
              · unfold lvC
                rw [List.foldl_append, List.foldl_append]
                simp only [q3, if_pos hLy]
                exact b3
            · refine skip (by rw [q3]; exact if_neg hLy) (Or.inr (Or.inr ?_))
              rw [q1, nI_add]
              exact nI_lt (by first | omega | (dsimp only; omega)) (by first | omega | (dsimp only; omega))
          · rw [if_neg hy] at q3
            refine skip (by rw [q3]) (Or.inr (Or.inl ?_))
            rw [q1]
            exact nI_lt (by first | omega | (dsimp only; omega)) (by first | omega | (dsimp only; omega))
    obtain ⟨m', l1, l2, l3⟩ := loop 3 0 mm b G (by first | omega | (dsimp only; omega)) hB hS N (by first | omega | (dsimp only; omega))
    refine ⟨m', ?_, l2, l3⟩
    unfold fX8_branch fX8_branch_0
    refine st_b (suitOf_t hB.1 hin) (st_c (st_f (nI_ge (by first | omega | (dsimp only; omega)) (by first | omega | (dsimp only; omega))) (st_t ?_ l1)))
    rw [hQ]
    exact nI_lt (by first | omega | (dsimp only; omega)) (by first | omega | (dsimp only; omega))
/-- the class' run of a search -/
theorem run_e {mm : Mm} {most : Nat} (hN : 100000 ≤ N) (hd9 : d ≤ 9) (hm : most ≤ 240) (hQ : ln q = Q) (hQ6 : 6 ≤ Q ∧ Q ≤ 1000) (hq : q < 35 ∨ 39 < q) (hz : ∀ i, i < n → z i ≤ 1000) (C : CS mm n K W F) (hZ : HA mm q n z) : ∃ m', fX8_run N 35 3 (nI d) q (nI most) mm = some ((), m') ∧ Fr (fun k j => 35 ≤ k ∧ k ≤ 39) mm m' ∧ SR m' n ((lvs K W F d z 0 most n 0 (fun _ => 0) (fun _ => 0) 0 0).foldl (bst n) none) ((lvs K W F d z 0 most n 0 (fun _ => 0) (fun _ => 0) 0 0).foldl gst (fun _ => none)) := by
  have hn6 := C.2.1
  obtain ⟨ma, a1, a2, a3⟩ := fill_ok (N := N) (k := 37) (v := -1) (mm := wr (wr (wr (wr mm 35 7 (nI d)) 35 6 (nI most)) 35 1 (-1)) 35 2 0) hN rfl (by decide)
  obtain ⟨mb, b1, b2, b3⟩ := fill_ok (N := N) (k := 36) (v := 0) (mm := ma) hN rfl (by decide)
  obtain ⟨mc, c1, c2, c3⟩ := fill_ok (N := N) (k := 39) (v := 0) (mm := mb) hN rfl (by decide)
  have f0 : Fr (fun k j => 35 ≤ k ∧ k ≤ 39) mm mc := (fr_wr (fr_wr (fr_wr (fr_wr Fr.rf (by first | omega | (dsimp only; omega))) (by first | omega | (dsimp only; omega))) (by first | omega | (dsimp only; omega))) (by first | omega | (dsimp only; omega))).tr ((a2.mono (fun k j e => by omega)).tr ((b2.mono (fun k j e => by omega)).tr (c2.mono (fun k j e => by omega))))
  have r35 : ∀ j, rd mc 35 j = rd (wr (wr (wr (wr mm 35 7 (nI d)) 35 6 (nI most)) 35 1 (-1)) 35 2 0) 35 j := fun j => by rw [c2.2 _ _ (by first | omega | (dsimp only; omega)), b2.2 _ _ (by first | omega | (dsimp only; omega)), a2.2 _ _ (by first | omega | (dsimp only; omega))]
  have hB : BI mc n d q most 0 K W F z (fun _ => 0) (fun _ => 0) := by
    refine ⟨CS_c C (fun k j e => f0.2 _ _ (by first | omega | (dsimp only; omega))), ?_, ?_, hZ.c (fun j hj => f0.2 _ _ (by first | omega | (dsimp only; omega))), fun j hj => by omega, fun j hj => by omega, fun j a b => c3 j b, fun j hj => by omega⟩
    · rw [r35, rd_wr_j (by first | omega | (dsimp only; omega)), rd_wr_j (by first | omega | (dsimp only; omega)), rd_wr_j (by first | omega | (dsimp only; omega)), rd_wr_s]
    · rw [r35, rd_wr_j (by first | omega | (dsimp only; omega)), rd_wr_j (by first | omega | (dsimp only; omega)), rd_wr_s]
  have hS : SR mc n none (fun _ => none) := by
    refine ⟨fun u hu => ⟨?_, fun v hv => by cases hv⟩, fun j a b => ?_, fun y hy => (by cases hy), fun _ => ?_⟩
    · rw [c2.2 _ _ (by first | omega | (dsimp only; omega)), b2.2 _ _ (by first | omega | (dsimp only; omega))]; exact a3 u (by show u < 241; omega)
    · rw [c2.2 _ _ (by first | omega | (dsimp only; omega))]; exact b3 j b
    · rw [r35, rd_wr_j (by first | omega | (dsimp only; omega)), rd_wr_s]
  obtain ⟨m', d1, d2, d3⟩ := branch_l (N := N) (d := d) (q := q) (L := most) hN hd9 hm hQ hQ6 hq hz hn6 n 0 _ _ 0 0 mc none _ 9 (by first | omega | (dsimp only; omega)) (by first | omega | (dsimp only; omega)) hB hS (by first | omega | (dsimp only; omega)) (by first | omega | (dsimp only; omega))
  refine ⟨m', ?_, f0.tr (d2.mono (fun k j e => by omega)), d3⟩
  unfold fX8_run
  simp only [LXb]
  refine st_n (st_n ?_)
  have e1 : (if (240 : Int32) < nI most then 240 else nI most) = nI most := if_neg (nI_nlt (a := 240) (by first | omega | (dsimp only; omega)) (by first | omega | (dsimp only; omega)))
  rw [e1]
  exact st_n (st_n (st_n (st_b a1 (st_b b1 (st_b c1 (st_b d1 rfl))))))
end Br
