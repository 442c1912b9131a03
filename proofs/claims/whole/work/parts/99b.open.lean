/-! pure: a court by a text -/
theorem prN_ok {g : Nat → Int32} {L : Nat} : ∀ c p k T, p ≤ L → k ≤ 6 → (∀ j, j < k → kok (T j).1 (T j).2.1 (T j).2.2 j) → (prN g L c p k T).1 = none → (prN g L c p k T).2.1 ≤ 6 ∧ ∀ j, j < (prN g L c p k T).2.1 → kok ((prN g L c p k T).2.2 j).1 ((prN g L c p k T).2.2 j).2.1 ((prN g L c p k T).2.2 j).2.2 j := by
  intro c
  induction c with
  | zero => intro p k T hp hk H h; cases h
  | succ c ih =>
    intro p k T hp hk H h
    have e : prN g L (c + 1) p k T = if skB g L p < L then (if (rsN g L (skB g L p) k).1 = true then prN g L c (rsN g L (skB g L p) k).2.1 (k + 1) (fun j => if j = k then (rsN g L (skB g L p) k).2.2 else T j) else (some (rsN g L (skB g L p) k).2.1, k, T)) else (none, k, T) := rfl
    by_cases hlt : skB g L p < L
    · rw [if_pos hlt] at e
      obtain ⟨r1, r2, r3⟩ := rsN_ok (k := k) (g := g) hlt
      cases hb : (rsN g L (skB g L p) k).1
      · rw [hb, if_neg (by decide)] at e
        rw [e] at h; cases h
      · rw [hb, if_pos rfl] at e
        obtain ⟨z1, z2⟩ := r3 hb
        rw [e] at h ⊢
        refine ih _ (k + 1) _ r1 (by first | omega | (dsimp only; omega)) (fun j hj => ?_) h
        by_cases hjk : j = k
        · subst hjk; rw [if_pos rfl]; exact z2
        · rw [if_neg hjk]; exact H j (by first | omega | (dsimp only; omega))
    · rw [if_neg hlt] at e
      rw [e]
      exact ⟨hk, H⟩
theorem rdN_ok {g : Nat → Int32} {L : Nat} (h : (rdN g L).1 = none) : (rdN g L).2.1 ≤ 40 ∧ (rdN g L).2.2.1 ≤ 40 ∧ (rdN g L).2.2.2.1 ≤ 6 ∧ ∀ j, j < (rdN g L).2.2.2.1 → kok ((rdN g L).2.2.2.2 j).1 ((rdN g L).2.2.2.2 j).2.1 ((rdN g L).2.2.2.2 j).2.2 j := by
  have e0 : rdN g L = if sgN g L (skB g L 0) 110 = true then rdN1 g L (nuN g L (skB g L 0 + 1)) else (some (skB g L 0), 0, 0, 0, T0) := rfl
  cases hb1 : sgN g L (skB g L 0) 110
  · rw [hb1, if_neg (by decide)] at e0
    rw [e0] at h; cases h
  rw [hb1, if_pos rfl] at e0
  have hlt := (of_decide_eq_true hb1).1
  obtain ⟨-, n2, -, n4⟩ := nuN_le (g := g) (L := L) (p := skB g L 0 + 1) (by first | omega | (dsimp only; omega))
  generalize nuN g L (skB g L 0 + 1) = u at e0 n2 n4
  have e1 : rdN1 g L u = if u.2.2 = true then (if sgN g L u.1 58 = true then rdN2 g L u.2.1 (nuN g L (u.1 + 1)) else (some u.1, 0, 0, 0, T0)) else (some u.1, 0, 0, 0, T0) := rfl
  cases hb2 : u.2.2
  · rw [hb2, if_neg (by decide)] at e1
    rw [e0, e1] at h; cases h
  rw [hb2, if_pos rfl] at e1
  cases hb3 : sgN g L u.1 58
  · rw [hb3, if_neg (by decide)] at e1
    rw [e0, e1] at h; cases h
  rw [hb3, if_pos rfl] at e1
  have hl3 := (of_decide_eq_true hb3).1
  obtain ⟨-, o2, -, o4⟩ := nuN_le (g := g) (L := L) (p := u.1 + 1) (by first | omega | (dsimp only; omega))
  generalize nuN g L (u.1 + 1) = w at e1 o2 o4
  have e2 : rdN2 g L u.2.1 w = if w.2.2 = true then ((prN g L 7 w.1 0 T0).1, u.2.1, w.2.1, (prN g L 7 w.1 0 T0).2.1, (prN g L 7 w.1 0 T0).2.2) else (some w.1, 0, 0, 0, T0) := rfl
  cases hb4 : w.2.2
  · rw [hb4, if_neg (by decide)] at e2
    rw [e0, e1, e2] at h; cases h
  rw [hb4, if_pos rfl] at e2
  rw [e0, e1, e2] at h ⊢
  obtain ⟨z1, z2⟩ := prN_ok 7 w.1 0 T0 o2 (by first | omega | (dsimp only; omega)) (fun j hj => by omega) h
  exact ⟨n4 hb2, o4 hb4, z1, z2⟩
section Opn
variable {N : Nat}
theorem copen_l {n : Nat} {T : Nat → Nat × Nat × Nat} (hN : 100000 ≤ N) (hn : n ≤ 6) : ∀ c i mm, i + c = n → rd mm 3 5 = nI n → RdC mm n T → (∀ j, j < i → SU mm (17 + j) (T j).1 (T j).2.1 (T j).2.2) → ∀ f, c < f → ∃ m', fX0_open_10 N f 3 24 (nI i) mm = some ((), m') ∧ Fr (fun k j => (17 ≤ k ∧ k ≤ 22) ∨ k = 5 ∨ k = 6 ∨ (k = 3 ∧ (j = 6 ∨ j = 7))) mm m' ∧ (∀ j, j < n → SU m' (17 + j) (T j).1 (T j).2.1 (T j).2.2) ∧ (∀ j, j < 2 → rd m' 5 j = rd mm 25 j) ∧ (∀ j, j < 4 → rd m' 6 j = 0) ∧ rd m' 3 6 = 0 ∧ rd m' 3 7 = 0 := by
  intro c
  induction c with
  | zero =>
    intro i mm hi h5 H hS f hf
    obtain ⟨f, rfl⟩ : ∃ g, f = g + 1 := ⟨f - 1, by omega⟩
    obtain rfl : i = n := by omega
    obtain ⟨m1, c1, f1, g1⟩ := fill_ok (N := N) (k := 6) (v := 0) (L := 4) (mm := cpy mm 25 5 0 0 2) hN rfl (by first | omega | (dsimp only; omega))
    have hA : ∀ k j, k ≠ 5 → k ≠ 6 → k ≠ 3 → rd (wr (wr m1 3 6 0) 3 7 0) k j = rd mm k j := fun k j h1 h2 h3 => by rw [rd_wr_k h3, rd_wr_k h3, f1.2 _ _ h2, rd_cpy, if_neg (fun q => h1 q.1)]
    refine ⟨wr (wr m1 3 6 0) 3 7 0, ?_, ?_, fun j hj => ?_, fun j hj => ?_, fun j hj => ?_, ?_, rd_wr_s⟩
    · unfold fX0_open_10
      simp only [LXa, LXb]
      refine st_t (by rw [h5]; exact nI_le (by first | omega | (dsimp only; omega)) (by first | omega | (dsimp only; omega))) (st_g (cpok_n (i := 0) (j := 0) (c := 2) (by first | omega | (dsimp only; omega)) (by first | omega | (dsimp only; omega)) (by first | omega | (dsimp only; omega)) (by first | omega | (dsimp only; omega))) (st_n (st_b c1 rfl)))
    · exact fr_wr (fr_wr ((fr_cpy Fr.rf (fun j => Or.inr (Or.inl rfl))).tr (f1.mono (fun k j e => Or.inr (Or.inr (Or.inl e))))) (Or.inr (Or.inr (Or.inr ⟨rfl, Or.inl rfl⟩)))) (Or.inr (Or.inr (Or.inr ⟨rfl, Or.inr rfl⟩)))
    · obtain ⟨z1, z2, z3⟩ := hS j hj
      exact ⟨by rw [hA _ _ (by first | omega | (dsimp only; omega)) (by first | omega | (dsimp only; omega)) (by first | omega | (dsimp only; omega))]; exact z1, by rw [hA _ _ (by first | omega | (dsimp only; omega)) (by first | omega | (dsimp only; omega)) (by first | omega | (dsimp only; omega))]; exact z2, by rw [hA _ _ (by first | omega | (dsimp only; omega)) (by first | omega | (dsimp only; omega)) (by first | omega | (dsimp only; omega))]; exact z3⟩
    · rw [rd_wr_k (by first | omega | (dsimp only; omega)), rd_wr_k (by first | omega | (dsimp only; omega)), f1.2 _ _ (by first | omega | (dsimp only; omega)), rd_cpy, if_pos ⟨rfl, Nat.zero_le _, hj⟩]
      show rd mm 25 (0 + (j - 0)) = _
      rw [Nat.zero_add, Nat.sub_zero]
    · rw [rd_wr_k (by first | omega | (dsimp only; omega)), rd_wr_k (by first | omega | (dsimp only; omega))]; exact g1 j hj
    · rw [rd_wr_j (by first | omega | (dsimp only; omega)), rd_wr_s]
  | succ c ih =>
    intro i mm hi h5 H hS f hf
    obtain ⟨f, rfl⟩ : ∃ g, f = g + 1 := ⟨f - 1, by omega⟩
    obtain ⟨y1, y2, y3⟩ := H i (by first | omega | (dsimp only; omega))
    obtain ⟨m', c1, f1, g1⟩ := ih (i + 1) (wr (wr (wr mm (17 + i) 0 (nI (T i).1)) (17 + i) 1 (nI (T i).2.1)) (17 + i) 2 (gI (T i).1 (T i).2.2)) (by first | omega | (dsimp only; omega)) (by rw [rd_wr_k (by first | omega | (dsimp only; omega)), rd_wr_k (by first | omega | (dsimp only; omega)), rd_wr_k (by first | omega | (dsimp only; omega))]; exact h5) (fun j hj => by
      obtain ⟨z1, z2, z3⟩ := H j hj
      exact ⟨by rw [rd_wr_k (by first | omega | (dsimp only; omega)), rd_wr_k (by first | omega | (dsimp only; omega)), rd_wr_k (by first | omega | (dsimp only; omega))]; exact z1, by rw [rd_wr_k (by first | omega | (dsimp only; omega)), rd_wr_k (by first | omega | (dsimp only; omega)), rd_wr_k (by first | omega | (dsimp only; omega))]; exact z2, by rw [rd_wr_k (by first | omega | (dsimp only; omega)), rd_wr_k (by first | omega | (dsimp only; omega)), rd_wr_k (by first | omega | (dsimp only; omega))]; exact z3⟩) (fun j hj => by
      by_cases hji : j = i
      · subst hji
        exact ⟨by rw [rd_wr_j (by first | omega | (dsimp only; omega)), rd_wr_j (by first | omega | (dsimp only; omega)), rd_wr_s], by rw [rd_wr_j (by first | omega | (dsimp only; omega)), rd_wr_s], by rw [rd_wr_s]⟩
      · obtain ⟨z1, z2, z3⟩ := hS j (by first | omega | (dsimp only; omega))
        exact ⟨by rw [rd_wr_k (by first | omega | (dsimp only; omega)), rd_wr_k (by first | omega | (dsimp only; omega)), rd_wr_k (by first | omega | (dsimp only; omega))]; exact z1, by rw [rd_wr_k (by first | omega | (dsimp only; omega)), rd_wr_k (by first | omega | (dsimp only; omega)), rd_wr_k (by first | omega | (dsimp only; omega))]; exact z2, by rw [rd_wr_k (by first | omega | (dsimp only; omega)), rd_wr_k (by first | omega | (dsimp only; omega)), rd_wr_k (by first | omega | (dsimp only; omega))]; exact z3⟩) f (by first | omega | (dsimp only; omega))
    obtain ⟨g1, g2, g3⟩ := g1
    refine ⟨m', ?_, (fr_wr (fr_wr (fr_wr Fr.rf (by first | omega | (dsimp only; omega))) (by first | omega | (dsimp only; omega))) (by first | omega | (dsimp only; omega))).tr f1, g1, fun j hj => ?_, g3⟩
    · unfold fX0_open_10
      simp only [LXa, LXb, nI_nat (show i < 2147483648 by omega)]
      refine st_f (by rw [h5]; exact nI_ge (by first | omega | (dsimp only; omega)) (by first | omega | (dsimp only; omega))) (st_k rfl (show i < 6 by omega) (by first | omega | (dsimp only; omega)) (st_k rfl (show i < 6 by omega) (by first | omega | (dsimp only; omega)) (st_k rfl (show i < 6 by omega) (by first | omega | (dsimp only; omega)) (st_k rfl (show i < 6 by omega) (by first | omega | (dsimp only; omega)) (st_b rfl ?_)))))
      rw [y1, y2, y3, nI_1]; exact c1
    · rw [g2 j hj, rd_wr_k (by first | omega | (dsimp only; omega)), rd_wr_k (by first | omega | (dsimp only; omega)), rd_wr_k (by first | omega | (dsimp only; omega))]
theorem ckept_l {v : Int32} : ∀ c i mm, i + c = 3 → rd mm 3 5 = v → (∀ j, j < i → rd mm (115 + 20 * j) 8 = 0) → ∀ f, c < f → ∃ m', fX11_court_54 N f 0 (nI i) mm = some (v, m') ∧ Fr (fun k j => (k = 52 ∧ j = 2) ∨ ((k = 115 ∨ k = 135 ∨ k = 155) ∧ j = 8)) mm m' ∧ (∀ j, j < 3 → rd m' (115 + 20 * j) 8 = 0) ∧ rd m' 52 2 = 0 := by
  intro c
  induction c with
  | zero =>
    intro i mm hi h5 hd f hf
    obtain ⟨f, rfl⟩ : ∃ g, f = g + 1 := ⟨f - 1, by omega⟩
    obtain rfl : i = 3 := by omega
    refine ⟨wr mm 52 2 0, ?_, fr_wr Fr.rf (Or.inl ⟨rfl, rfl⟩), fun j hj => by rw [rd_wr_k (by first | omega | (dsimp only; omega))]; exact hd j hj, rd_wr_s⟩
    unfold fX11_court_54
    simp only [LXa]
    refine st_t (nI_le (by first | omega | (dsimp only; omega)) (by first | omega | (dsimp only; omega))) (st_b (st_n rfl) ?_)
    rw [rd_wr_k (by first | omega | (dsimp only; omega)), h5]
  | succ c ih =>
    intro i mm hi h5 hd f hf
    obtain ⟨f, rfl⟩ : ∃ g, f = g + 1 := ⟨f - 1, by omega⟩
    obtain ⟨m', c1, f1, g1⟩ := ih (i + 1) (wr mm (115 + 20 * i) 8 0) (by first | omega | (dsimp only; omega)) (by rw [rd_wr_k (by first | omega | (dsimp only; omega))]; exact h5) (fun j hj => by
      by_cases hji : j = i
      · subst hji; rw [rd_wr_s]
      · rw [rd_wr_k (by first | omega | (dsimp only; omega))]; exact hd j (by first | omega | (dsimp only; omega))) f (by first | omega | (dsimp only; omega))
    refine ⟨m', ?_, (fr_wr (S := fun k j => (k = 52 ∧ j = 2) ∨ ((k = 115 ∨ k = 135 ∨ k = 155) ∧ j = 8)) Fr.rf (by first | omega | (dsimp only; omega))).tr f1, g1⟩
    unfold fX11_court_54
    simp only [LXa, nI_nat (show i < 2147483648 by omega)]
    refine st_f (nI_ge (by first | omega | (dsimp only; omega)) (by first | omega | (dsimp only; omega))) (st_k rfl (show i < 3 by omega) (by first | omega | (dsimp only; omega)) (st_n ?_))
    rw [nI_1]; exact c1
end Opn
