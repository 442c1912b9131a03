/-! pure: court -/
section Mcr
variable {N : Nat}
theorem mc118_l {v : Int32} : ∀ c i mm, i + c = 3 → rd mm 175 10 = v → (∀ j, j < i → rd mm 196 (72 * j) = -9) → ∀ f, c < f → ∃ m', fX12_court_118 N f 175 (nI i) mm = some (v, m') ∧ Fr (fun k _ => k = 196) mm m' ∧ ∀ j, j < 3 → rd m' 196 (72 * j) = -9 := by
  intro c
  induction c with
  | zero =>
    intro i mm hi h10 hd f hf
    obtain ⟨f, rfl⟩ : ∃ g, f = g + 1 := ⟨f - 1, by omega⟩
    obtain rfl : i = 3 := by omega
    refine ⟨mm, ?_, Fr.rf, hd⟩
    unfold fX12_court_118
    exact st_t (nI_le (by first | omega | (dsimp only; omega)) (by first | omega | (dsimp only; omega))) (by rw [h10])
  | succ c ih =>
    intro i mm hi h10 hd f hf
    obtain ⟨f, rfl⟩ : ∃ g, f = g + 1 := ⟨f - 1, by omega⟩
    obtain ⟨m', c1, f1, g1⟩ := ih (i + 1) (wr mm 196 (72 * i) (-9)) (by first | omega | (dsimp only; omega)) (by rw [rd_wr_k (by first | omega | (dsimp only; omega))]; exact h10) (fun j hj => by
      by_cases hji : j = i
      · subst hji; rw [rd_wr_s]
      · rw [rd_wr_j (by first | omega | (dsimp only; omega))]; exact hd j (by first | omega | (dsimp only; omega))) f (by first | omega | (dsimp only; omega))
    refine ⟨m', ?_, (fr_wr (S := fun k _ => k = 196) Fr.rf rfl).tr f1, g1⟩
    unfold fX12_court_118
    rw [show (72 : Int32) = nI 72 from rfl, nI_mul]
    simp only [LXm, nI_nat (show 72 * i < 2147483648 by omega)]
    refine st_f (nI_ge (by first | omega | (dsimp only; omega)) (by first | omega | (dsimp only; omega))) (st_k rfl (show 72 * i < 216 by omega) (by first | omega | (dsimp only; omega)) (st_n ?_))
    rw [nI_1]; exact c1
theorem mc93_l {v : Int32} (hN : 100000 ≤ N) : ∀ c i mm, i + c = 4 → rd mm 175 10 = v → (∀ j, j < i → rd mm 192 j = 0) → ∀ f, c < f → ∃ m', fX12_court_93 N f 175 (nI i) mm = some (v, m') ∧ Fr (fun k j => k = 192 ∨ k = 196 ∨ (k = 175 ∧ j = 37)) mm m' ∧ (∀ j, j < 4 → rd m' 192 j = 0) ∧ rd m' 175 37 = 0 ∧ ∀ j, j < 3 → rd m' 196 (72 * j) = -9 := by
  intro c
  induction c with
  | zero =>
    intro i mm hi h10 hd f hf
    obtain ⟨f, rfl⟩ : ∃ g, f = g + 1 := ⟨f - 1, by omega⟩
    obtain rfl : i = 4 := by omega
    obtain ⟨m', c1, f1, g1⟩ := mc118_l (N := N) (v := v) 3 0 (wr mm 175 37 0) (by first | omega | (dsimp only; omega)) (by rw [rd_wr_j (by first | omega | (dsimp only; omega))]; exact h10) (fun j hj => by omega) N (by first | omega | (dsimp only; omega))
    refine ⟨m', ?_, (fr_wr (S := fun k j => k = 192 ∨ k = 196 ∨ (k = 175 ∧ j = 37)) Fr.rf (by first | omega | (dsimp only; omega))).tr (f1.mono (fun k j e => Or.inr (Or.inl e))), fun j hj => by rw [f1.2 _ _ (by first | omega | (dsimp only; omega)), rd_wr_k (by first | omega | (dsimp only; omega))]; exact hd j hj, by rw [f1.2 _ _ (by first | omega | (dsimp only; omega)), rd_wr_s], g1⟩
    unfold fX12_court_93
    exact st_t (nI_le (by first | omega | (dsimp only; omega)) (by first | omega | (dsimp only; omega))) (st_n c1)
  | succ c ih =>
    intro i mm hi h10 hd f hf
    obtain ⟨f, rfl⟩ : ∃ g, f = g + 1 := ⟨f - 1, by omega⟩
    obtain ⟨m', c1, f1, g1⟩ := ih (i + 1) (wr mm 192 i 0) (by first | omega | (dsimp only; omega)) (by rw [rd_wr_k (by first | omega | (dsimp only; omega))]; exact h10) (fun j hj => by
      by_cases hji : j = i
      · subst hji; rw [rd_wr_s]
      · rw [rd_wr_j hji]; exact hd j (by first | omega | (dsimp only; omega))) f (by first | omega | (dsimp only; omega))
    refine ⟨m', ?_, (fr_wr (S := fun k j => k = 192 ∨ k = 196 ∨ (k = 175 ∧ j = 37)) Fr.rf (Or.inl rfl)).tr f1, g1⟩
    unfold fX12_court_93
    simp only [LXm, nI_nat (show i < 2147483648 by omega)]
    refine st_f (nI_ge (by first | omega | (dsimp only; omega)) (by first | omega | (dsimp only; omega))) (st_k rfl (show i < 4 by omega) (by first | omega | (dsimp only; omega)) (st_n ?_))
    rw [nI_1]; exact c1
theorem mc35_l {v : Int32} {mm0 : Mm} (hN : 100000 ≤ N) : ∀ c i mm, i + c = 18 → Fr (fun k j => k = 182 ∧ j < 18) mm0 mm → rd mm0 175 10 = v → (∀ j, j < i → rd mm 182 j = rd mm0 182 (18 + j)) → ∀ f, c < f → ∃ m', fX12_court_35 N f 175 (nI i) mm = some (v, m') ∧ Fr (fun k j => (k = 182 ∧ j < 18) ∨ k = 183 ∨ k = 192 ∨ k = 196 ∨ (k = 175 ∧ (j = 13 ∨ j = 37))) mm0 m' ∧ (∀ j, j < 18 → rd m' 182 j = rd mm0 182 (18 + j)) ∧ (∀ j, j < 2 → rd m' 183 j = rd mm0 184 j) ∧ rd m' 175 13 = 0 ∧ (∀ j, j < 4 → rd m' 192 j = 0) ∧ rd m' 175 37 = 0 ∧ ∀ j, j < 3 → rd m' 196 (72 * j) = -9 := by
  intro c
  induction c with
  | zero =>
    intro i mm hi hF h10 hd f hf
    obtain ⟨f, rfl⟩ : ∃ g, f = g + 1 := ⟨f - 1, by omega⟩
    obtain rfl : i = 18 := by omega
    obtain ⟨m', c1, f1, g1, g2, g3⟩ := mc93_l (N := N) (v := v) hN 4 0 (wr (wr (wr mm 183 0 (rd mm0 184 0)) 183 1 (rd mm0 184 1)) 175 13 0) (by first | omega | (dsimp only; omega)) (by rw [rd_wr_j (by first | omega | (dsimp only; omega)), rd_wr_k (by first | omega | (dsimp only; omega)), rd_wr_k (by first | omega | (dsimp only; omega)), hF.2 _ _ (by first | omega | (dsimp only; omega))]; exact h10) (fun j hj => by omega) N (by first | omega | (dsimp only; omega))
    refine ⟨m', ?_, (fr_wr (fr_wr (fr_wr (hF.mono (T := fun k j => (k = 182 ∧ j < 18) ∨ k = 183 ∨ k = 192 ∨ k = 196 ∨ (k = 175 ∧ (j = 13 ∨ j = 37))) (fun k j e => Or.inl e)) (Or.inr (Or.inl rfl))) (Or.inr (Or.inl rfl))) (by first | omega | (dsimp only; omega))).tr (f1.mono (fun k j e => by omega)), fun j hj => ?_, fun j hj => ?_, ?_, g1, g2, g3⟩
    · unfold fX12_court_35
      simp only [LXm]
      refine st_t (nI_le (by first | omega | (dsimp only; omega)) (by first | omega | (dsimp only; omega))) (st_k rfl (show (0 : Nat) < 2 by omega) (by first | omega | (dsimp only; omega)) (st_k rfl (show (0 : Nat) < 2 by omega) (by first | omega | (dsimp only; omega)) (st_n (st_k rfl (show (1 : Nat) < 2 by omega) (by first | omega | (dsimp only; omega)) (st_k rfl (show (1 : Nat) < 2 by omega) (by first | omega | (dsimp only; omega)) (st_n (st_n ?_)))))))
      rw [show (0 : Int32).toNatClampNeg = 0 from rfl, show (1 : Int32).toNatClampNeg = 1 from rfl, rd_wr_k (by first | omega | (dsimp only; omega)), hF.2 184 0 (by first | omega | (dsimp only; omega)), hF.2 184 1 (by first | omega | (dsimp only; omega))]
      exact c1
    · rw [f1.2 _ _ (by first | omega | (dsimp only; omega)), rd_wr_k (by first | omega | (dsimp only; omega)), rd_wr_k (by first | omega | (dsimp only; omega)), rd_wr_k (by first | omega | (dsimp only; omega))]; exact hd j hj
    · rw [f1.2 _ _ (by first | omega | (dsimp only; omega)), rd_wr_k (by first | omega | (dsimp only; omega))]
      rcases (by omega : j = 0 ∨ j = 1) with rfl | rfl
      · rw [rd_wr_j (by first | omega | (dsimp only; omega)), rd_wr_s]
      · rw [rd_wr_s]
    · rw [f1.2 _ _ (by first | omega | (dsimp only; omega)), rd_wr_s]
  | succ c ih =>
    intro i mm hi hF h10 hd f hf
    obtain ⟨f, rfl⟩ : ∃ g, f = g + 1 := ⟨f - 1, by omega⟩
    obtain ⟨m', c1, g1⟩ := ih (i + 1) (wr mm 182 i (rd mm0 182 (18 + i))) (by first | omega | (dsimp only; omega)) (fr_wr hF ⟨rfl, by omega⟩) h10 (fun j hj => by
      by_cases hji : j = i
      · subst hji; rw [rd_wr_s]
      · rw [rd_wr_j hji]; exact hd j (by first | omega | (dsimp only; omega))) f (by first | omega | (dsimp only; omega))
    refine ⟨m', ?_, g1⟩
    unfold fX12_court_35
    rw [show (18 : Int32) + nI i = nI (18 + i) by rw [show (18 : Int32) = nI 18 from rfl, nI_add]]
    simp only [LXm, nI_nat (show i < 2147483648 by omega), nI_nat (show 18 + i < 2147483648 by omega)]
    refine st_f (nI_ge (by first | omega | (dsimp only; omega)) (by first | omega | (dsimp only; omega))) (st_k rfl (show 18 + i < 36 by omega) (by first | omega | (dsimp only; omega)) (st_k rfl (show i < 36 by omega) (by first | omega | (dsimp only; omega)) (st_n ?_)))
    rw [hF.2 182 (18 + i) (by first | omega | (dsimp only; omega)), nI_1]; exact c1
end Mcr
theorem sok_k {i k w f : Nat} (h : kok k w f i) : SOK i (nI k) (nI w) (gI k f) := by
  obtain ⟨h1, h2, h3, h4, h5, h6, h7⟩ := h
  refine ⟨k, w, h1, h2, h3, rfl, rfl, ?_⟩
  unfold gI
  by_cases hk : k ≤ 2
  · rw [if_pos hk]; exact Or.inl ⟨hk, rfl⟩
  · rw [if_neg hk]
    refine Or.inr ⟨f, rfl, ?_⟩
    by_cases h55 : k = 5
    · exact Or.inr ⟨h55, h6 h55⟩
    · exact Or.inl ⟨by omega, h5 (by first | omega | (dsimp only; omega)), h4⟩
theorem prN_b {g : Nat → Int32} {L : Nat} : ∀ c p k T q, p ≤ L → (prN g L c p k T).1 = some q → q ≤ L := by
  intro c
  induction c with
  | zero => intro p k T q hp h; cases h; exact hp
  | succ c ih =>
    intro p k T q hp h
    have e : prN g L (c + 1) p k T = if skB g L p < L then (if (rsN g L (skB g L p) k).1 = true then prN g L c (rsN g L (skB g L p) k).2.1 (k + 1) (fun j => if j = k then (rsN g L (skB g L p) k).2.2 else T j) else (some (rsN g L (skB g L p) k).2.1, k, T)) else (none, k, T) := rfl
    by_cases hlt : skB g L p < L
    · rw [if_pos hlt] at e
      obtain ⟨r1, r2, r3⟩ := rsN_ok (k := k) (g := g) hlt
      cases hb : (rsN g L (skB g L p) k).1
      · rw [hb, if_neg (by decide)] at e
        rw [e] at h; cases h; exact r1
      · rw [hb, if_pos rfl] at e
        rw [e] at h
        exact ih _ _ _ q r1 h
    · rw [if_neg hlt] at e
      rw [e] at h; cases h
theorem rdN_b {g : Nat → Int32} {L q : Nat} (h : (rdN g L).1 = some q) : q ≤ L := by
  have e0 : rdN g L = if sgN g L (skB g L 0) 110 = true then rdN1 g L (nuN g L (skB g L 0 + 1)) else (some (skB g L 0), 0, 0, 0, T0) := rfl
  cases hb1 : sgN g L (skB g L 0) 110
  · rw [hb1, if_neg (by decide)] at e0
    rw [e0] at h; cases h
    exact (skB_le (g := g) (L := L) (p := 0) (by first | omega | (dsimp only; omega))).1
  rw [hb1, if_pos rfl] at e0
  have hlt := (of_decide_eq_true hb1).1
  obtain ⟨-, n2, -, n4⟩ := nuN_le (g := g) (L := L) (p := skB g L 0 + 1) (by first | omega | (dsimp only; omega))
  generalize nuN g L (skB g L 0 + 1) = u at e0 n2 n4
  have e1 : rdN1 g L u = if u.2.2 = true then (if sgN g L u.1 58 = true then rdN2 g L u.2.1 (nuN g L (u.1 + 1)) else (some u.1, 0, 0, 0, T0)) else (some u.1, 0, 0, 0, T0) := rfl
  cases hb2 : u.2.2
  · rw [hb2, if_neg (by decide)] at e1
    rw [e0, e1] at h; cases h; exact n2
  rw [hb2, if_pos rfl] at e1
  cases hb3 : sgN g L u.1 58
  · rw [hb3, if_neg (by decide)] at e1
    rw [e0, e1] at h; cases h; exact n2
  rw [hb3, if_pos rfl] at e1
  have hl3 := (of_decide_eq_true hb3).1
  obtain ⟨-, o2, -, o4⟩ := nuN_le (g := g) (L := L) (p := u.1 + 1) (by first | omega | (dsimp only; omega))
  generalize nuN g L (u.1 + 1) = w at e1 o2 o4
  have e2 : rdN2 g L u.2.1 w = if w.2.2 = true then ((prN g L 7 w.1 0 T0).1, u.2.1, w.2.1, (prN g L 7 w.1 0 T0).2.1, (prN g L 7 w.1 0 T0).2.2) else (some w.1, 0, 0, 0, T0) := rfl
  cases hb4 : w.2.2
  · rw [hb4, if_neg (by decide)] at e2
    rw [e0, e1, e2] at h; cases h; exact o2
  rw [hb4, if_pos rfl] at e2
  rw [e0, e1, e2] at h
  exact prN_b 7 w.1 0 T0 q o2 h
theorem ok_9 {N : Nat} (hN : 100000 ≤ N) : OK_9 N Rel := by
  intro a1 mm h
  rcases rng a1 4 with ⟨t, ht, -, rfl⟩ | hb
  rotate_left
  · refine ⟨-1, mm, mm, ?_, ?_, h⟩
    · unfold fX11_court
      exact st_b (textOf_n hb) (st_c0 rfl)
    · unfold fX12_court
      exact st_b (askedText_n hb) (st_f (by decide) rfl)
  rcases h.2.1 t ht with ⟨e1, e2⟩ | ⟨L, hL, e1, e2, hv⟩
  · refine ⟨-3, cRef 1 mm, mMeet 1 (cRef 1 mm), ?_, ?_, rel_ref h (f := 1) (by first | omega | (dsimp only; omega))⟩
    · unfold fX11_court
      exact st_b (textOf_t ht) (st_c (st_b (miss_t e1) (st_f (by decide) (st_b (c_ref 1 rfl (by first | omega | (dsimp only; omega))) rfl))))
    · unfold fX12_court
      exact st_b (askedText_0 ht (by rw [rd_cRef (by first | omega | (dsimp only; omega)) (by first | omega | (dsimp only; omega))]; exact e2)) (st_f (by decide) rfl)
  obtain ⟨X, XM⟩ := txt_both hN h.2.1 ht e1 hL e2 hv
  obtain ⟨m1, c1, f1, v1⟩ := cread_e (N := N) hN X
  have hok := rdN_ok (g := fun i => rd mm (108 + 2 * t) i) (L := L)
  have pre : ∀ {r : Option (Int32 × Mm)}, (if oV (-9) (rdN (fun i => rd mm (108 + 2 * t) i) L).1 = -9 then (bd2 (fX0_open N 3 24 m1) fun x20 m21 => fX11_court_54 N N 0 0 m21) else (some ((-4), m1))) = r → fX11_court N 0 (nI t) mm = r := by
    intro r hr
    unfold fX11_court
    refine st_b (textOf_t ht) (st_c (st_b (miss_f e1 (by first | omega | (dsimp only; omega))) (st_t rfl ?_)))
    simp only [LXa]
    exact st_b c1 hr
  have mrd := fun m2 XM2 => mread_e (N := N) (t := t) (L := L) (g := fun i => rd mm (108 + 2 * t) i) (mm := m2) hN XM2
  have hbd := fun q => rdN_b (g := fun i => rd mm (108 + 2 * t) i) (L := L) (q := q)
  generalize rdN (fun i => rd mm (108 + 2 * t) i) L = D at c1 v1 hok pre mrd hbd
  obtain ⟨o, s0, s1, n, T⟩ := D
  dsimp only at c1 v1 hok pre mrd hbd
  have XM1 := XM.c (m2 := m1) (fun k j e => f1.2 _ _ (by unfold FrR; omega))
  cases o with
  | some q =>
    have hq := hbd q rfl
    have hne : oV (-9) (some q) ≠ -9 := neg9_ne (by first | omega | (dsimp only; omega))
    obtain ⟨m2, d1, d2, -⟩ := mrd m1 XM1
    refine ⟨-4, m1, m2, pre (st_f hne rfl), ?_, ?_⟩
    · unfold fX12_court
      exact st_b (askedText_1 ht XM1.2.2.1 (by first | omega | (dsimp only; omega))) (st_t (by decide) (st_b d1 (st_f hne rfl)))
    · refine Rel_row (r := 6) h ((f1.mono (fun k j e => Or.inl ?_)).tr (d2.mono (fun k j e => Or.inr (Or.inl ?_)))) ?_ ?_ (fun q => by omega)
      · unfold ScC; unfold FrR at e; omega
      · unfold ScM; omega
      · exact RA_c h.2.2.2.2.1 (fun k e => by rw [d2.2 _ _ (by first | omega | (dsimp only; omega)), f1.2 _ _ (by unfold FrR; omega)])
      · rw [d2.2 _ _ (by first | omega | (dsimp only; omega)), f1.2 _ _ (by unfold FrR; omega), d2.2 _ _ (by first | omega | (dsimp only; omega)), f1.2 _ _ (by unfold FrR; omega)]
        exact h.2.2.2.1.2.2.1
  | none =>
    obtain ⟨v10, v11, v12, v13⟩ := v1 rfl
    obtain ⟨k1, k2, k3, k4⟩ := hok rfl
    obtain ⟨m2, c2, f2, g2, g3, g4, g5, g6⟩ := copen_l (N := N) (n := n) (T := T) hN k3 n 0 (wr m1 3 5 (nI n)) (by first | omega | (dsimp only; omega)) rd_wr_s (fun j hj => by
      obtain ⟨z1, z2, z3⟩ := v13 j hj
      exact ⟨by rw [rd_wr_k (by first | omega | (dsimp only; omega))]; exact z1, by rw [rd_wr_k (by first | omega | (dsimp only; omega))]; exact z2, by rw [rd_wr_k (by first | omega | (dsimp only; omega))]; exact z3⟩) (fun j hj => by omega) N (by first | omega | (dsimp only; omega))
    have h52 : rd m2 3 5 = nI n := by rw [f2.2 _ _ (by first | omega | (dsimp only; omega)), rd_wr_s]
    obtain ⟨m3, c3, f3, g7, g8⟩ := ckept_l (N := N) (v := nI n) 3 0 m2 (by first | omega | (dsimp only; omega)) h52 (fun j hj => by omega) N (by first | omega | (dsimp only; omega))
    have F3 : Fr (fun k j => FrR k j ∨ (17 ≤ k ∧ k ≤ 22) ∨ k = 5 ∨ k = 6 ∨ (k = 3 ∧ (j = 5 ∨ j = 6 ∨ j = 7)) ∨ (k = 52 ∧ j = 2) ∨ ((k = 115 ∨ k = 135 ∨ k = 155) ∧ j = 8)) mm m3 := (fr_wr (f1.mono (fun k j e => Or.inl e)) (by first | omega | (dsimp only; omega))).tr ((f2.mono (fun k j e => by omega)).tr (f3.mono (fun k j e => by omega)))
    have XM3 := XM.c (m2 := m3) (fun k j e => F3.2 _ _ (by unfold FrR; omega))
    obtain ⟨m4, d1, d2, d3⟩ := mrd m3 XM3
    obtain ⟨w1, w2, w3, w4⟩ := d3 rfl
    obtain ⟨m5, b1, b2, b3, b4, b5, b6, b7, b8⟩ := mc35_l (N := N) (v := nI n) (mm0 := wr m4 175 10 (nI n)) hN 18 0 (wr m4 175 10 (nI n)) (by first | omega | (dsimp only; omega)) Fr.rf rd_wr_s (fun j hj => by omega) N (by first | omega | (dsimp only; omega))
    have F5 : Fr (fun k j => (k = 175 ∧ ((14 ≤ j ∧ j ≤ 17) ∨ j = 10 ∨ j = 13 ∨ j = 37)) ∨ (182 ≤ k ∧ k ≤ 184) ∨ k = 192 ∨ k = 196) m3 m5 := (fr_wr (d2.mono (fun k j e => by omega)) (by first | omega | (dsimp only; omega))).tr (b2.mono (fun k j e => by omega))
    refine ⟨nI n, m3, m5, pre (st_t rfl (st_b (a := ()) (m1 := m2) (st_n ?_) c3)), ?_, ?_⟩
    · rw [v12]; exact c2
    · unfold fX12_court
      refine st_b (askedText_1 ht XM3.2.2.1 (by first | omega | (dsimp only; omega))) (st_t (by decide) (st_b d1 (st_t rfl (st_n ?_))))
      rw [w3]; exact b1
    · have hS5 : ∀ i, i < n → rd m5 (17 + i) 0 = nI (T i).1 ∧ rd m5 (17 + i) 1 = nI (T i).2.1 ∧ rd m5 (17 + i) 2 = gI (T i).1 (T i).2.2 := fun i hi => by
        obtain ⟨z1, z2, z3⟩ := g2 i hi
        have e : ∀ j, rd m5 (17 + i) j = rd m2 (17 + i) j := fun j => by rw [F5.2 _ _ (by first | omega | (dsimp only; omega)), f3.2 _ _ (by first | omega | (dsimp only; omega))]
        exact ⟨(e 0).trans z1, (e 1).trans z2, (e 2).trans z3⟩
      have hM5 : ∀ i, i < n → rd m5 182 (3 * i) = nI (T i).1 ∧ rd m5 182 (3 * i + 1) = nI (T i).2.1 ∧ rd m5 182 (3 * i + 2) = gI (T i).1 (T i).2.2 := fun i hi => by
        obtain ⟨z1, z2, z3⟩ := w4 i hi
        refine ⟨?_, ?_, ?_⟩
        · rw [b3 _ (by first | omega | (dsimp only; omega)), rd_wr_k (by first | omega | (dsimp only; omega))]; exact z1
        · rw [b3 _ (by first | omega | (dsimp only; omega)), rd_wr_k (by first | omega | (dsimp only; omega)), show 18 + (3 * i + 1) = 18 + 3 * i + 1 by omega]; exact z2
        · rw [b3 _ (by first | omega | (dsimp only; omega)), rd_wr_k (by first | omega | (dsimp only; omega)), show 18 + (3 * i + 2) = 18 + 3 * i + 2 by omega]; exact z3
      have hx : ∀ k j, (k = 3 ∧ (j = 5 ∨ j = 6 ∨ j = 7)) ∨ k = 5 ∨ k = 6 → rd m5 k j = rd m2 k j := fun k j e => by rw [F5.2 _ _ (by first | omega | (dsimp only; omega)), f3.2 _ _ (by first | omega | (dsimp only; omega))]
      refine ⟨?_, ?_, ⟨n, ⟨k3, ?_, ?_, fun i hi => ?_⟩, ⟨fun i hi => ?_, ?_, ?_, fun i hi => ?_, ?_, 0, by omega, b7, fun k hk => absurd hk (Nat.not_lt_zero k)⟩, fun k hk => Or.inl ⟨?_, b8 k hk⟩⟩, ?_, ?_, Or.inl ?_⟩
      · exact RR_c h.1 (fun k j e => by rw [F5.2 _ _ (by first | omega | (dsimp only; omega)), F3.2 _ _ (by unfold FrR; omega)])
      · exact RT_c h.2.1 (fun k j e => by rw [F5.2 _ _ (by first | omega | (dsimp only; omega)), F3.2 _ _ (by unfold FrR; omega)])
      · rw [hx _ _ (by first | omega | (dsimp only; omega))]; exact h52
      · rw [b2.2 _ _ (by first | omega | (dsimp only; omega)), rd_wr_s]
      · obtain ⟨z1, z2, z3⟩ := hS5 i hi
        obtain ⟨y1, y2, y3⟩ := hM5 i hi
        refine ⟨y1.trans z1.symm, y2.trans z2.symm, y3.trans z3.symm, ?_⟩
        rw [z1, z2, z3]; exact sok_k (k4 i hi)
      · rcases (by omega : i = 0 ∨ i = 1) with rfl | rfl
        · have e1 : rd m5 5 0 = nI s0 := by rw [hx _ _ (by first | omega | (dsimp only; omega)), g3 _ (by first | omega | (dsimp only; omega)), rd_wr_k (by first | omega | (dsimp only; omega))]; exact v10
          have e2 : rd m5 183 0 = nI s0 := by rw [b4 _ (by first | omega | (dsimp only; omega)), rd_wr_k (by first | omega | (dsimp only; omega))]; exact w1
          exact ⟨e1.trans e2.symm, s0, k1, e2⟩
        · have e1 : rd m5 5 1 = nI s1 := by rw [hx _ _ (by first | omega | (dsimp only; omega)), g3 _ (by first | omega | (dsimp only; omega)), rd_wr_k (by first | omega | (dsimp only; omega))]; exact v11
          have e2 : rd m5 183 1 = nI s1 := by rw [b4 _ (by first | omega | (dsimp only; omega)), rd_wr_k (by first | omega | (dsimp only; omega))]; exact w2
          exact ⟨e1.trans e2.symm, s1, k2, e2⟩
      · have e1 : rd m5 3 6 = 0 := by rw [hx _ _ (by first | omega | (dsimp only; omega))]; exact g5
        exact e1.trans b5.symm
      · exact ⟨0, by omega, b5⟩
      · have e1 : rd m5 6 i = 0 := by rw [hx _ _ (by first | omega | (dsimp only; omega))]; exact g4 i hi
        have e2 : rd m5 192 i = 0 := b6 i hi
        exact ⟨e1.trans e2.symm, 0, by omega, e2⟩
      · have e1 : rd m5 3 7 = 0 := by rw [hx _ _ (by first | omega | (dsimp only; omega))]; exact g6
        exact e1.trans b7.symm
      · rw [F5.2 _ _ (by first | omega | (dsimp only; omega))]; exact g7 k hk
      · exact RF_c h.2.2.2.1 (fun k j e => by rw [F5.2 _ _ (by first | omega | (dsimp only; omega)), F3.2 _ _ (by unfold FrR; omega)]) (fun k j e => by rw [F5.L, F3.L])
      · exact RA_c h.2.2.2.2.1 (fun k e => by rw [F5.2 _ _ (by first | omega | (dsimp only; omega)), F3.2 _ _ (by unfold FrR; omega)])
      · rw [F5.2 _ _ (by first | omega | (dsimp only; omega))]; exact g8
