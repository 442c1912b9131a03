/-! pure: rules -/
section Ru
variable {N n d t : Nat} {K W F : Nat → Nat}
theorem msr19_l {o : Nat} {x : Nat → Nat} {k2 : Nat → Int32 → Mm → Option (Unit × Mm)} (ho : o < 6) : ∀ c i mm, i + c = n → MS mm n K W F → HA mm 186 n x → (∀ j, j < i → rd mm 194 (6 * o + j) = nI (x j)) → ∀ f, c < f → ∃ m', fX12_setRuled_19 N k2 f 175 (nI o) (nI i) mm = k2 175 (nI (o + 1)) m' ∧ Fr (fun k j => k = 194 ∧ 6 * o ≤ j ∧ j < 6 * o + 6) mm m' ∧ ∀ j, j < n → rd m' 194 (6 * o + j) = nI (x j) := by
  intro c
  induction c with
  | zero =>
    intro i mm hi M H hd f hf
    obtain ⟨f, rfl⟩ : ∃ g, f = g + 1 := ⟨f - 1, by omega⟩
    obtain rfl : i = n := by omega
    have hn := M.2.1
    refine ⟨mm, ?_, Fr.rf, hd⟩
    unfold fX12_setRuled_19
    exact st_t (by rw [M.1]; exact nI_le (by first | omega | (dsimp only; omega)) (by first | omega | (dsimp only; omega))) (by rw [nI_1])
  | succ c ih =>
    intro i mm hi M H hd f hf
    obtain ⟨f, rfl⟩ : ∃ g, f = g + 1 := ⟨f - 1, by omega⟩
    have hn := M.2.1
    obtain ⟨m', c1, f1, g1⟩ := ih (i + 1) (wr mm 194 (6 * o + i) (nI (x i))) (by first | omega | (dsimp only; omega)) (MS_c M (fun k j e => rd_wr_k (by first | omega | (dsimp only; omega)))) (H.c (fun j _ => rd_wr_k (by first | omega | (dsimp only; omega)))) (fun j hj => by
      by_cases hji : j = i
      · subst hji; rw [rd_wr_s]
      · rw [rd_wr_j (by first | omega | (dsimp only; omega))]; exact hd j (by first | omega | (dsimp only; omega))) f (by first | omega | (dsimp only; omega))
    refine ⟨m', ?_, (fr_wr (S := fun k j => k = 194 ∧ 6 * o ≤ j ∧ j < 6 * o + 6) Fr.rf ⟨rfl, by omega, by omega⟩).tr f1, g1⟩
    unfold fX12_setRuled_19
    rw [show (6 : Int32) * nI o + nI i = nI (6 * o + i) by rw [show (6 : Int32) = nI 6 from rfl, nI_mul, nI_add]]
    simp only [LXm, nI_nat (show i < 2147483648 by omega), nI_nat (show 6 * o + i < 2147483648 by omega)]
    refine st_f (by rw [M.1]; exact nI_ge (by first | omega | (dsimp only; omega)) (by first | omega | (dsimp only; omega))) (st_k rfl (show i < 6 by omega) (by first | omega | (dsimp only; omega)) (st_k rfl (show 6 * o + i < 36 by omega) (by first | omega | (dsimp only; omega)) (st_n ?_)))
    rw [H i (by first | omega | (dsimp only; omega)), nI_1]; exact c1
theorem msr_l {en : Nat} {Y : Nat → Nat → Nat} {Z : Nat → Nat} (hN : 100000 ≤ N) (h0 : 0 < n) (ht40 : t ≤ 40) : ∀ c o mm, o + c = 6 → GM mm n d t en K W F Y Z → ∀ f, c < f → ∃ m', fX12_setRuled_2 N f 175 (nI o) mm = some ((), m') ∧ Fr (fun k j => k = 186 ∨ (k = 194 ∧ 6 * o ≤ j)) mm m' ∧ ∀ q, o ≤ q → q < 6 → ∀ j, j < n → rd m' 194 (6 * q + j) = nI (rlN W n t q (yN Y en) j) := by
  intro c
  induction c with
  | zero =>
    intro o mm ho G f hf
    obtain ⟨f, rfl⟩ : ∃ g, f = g + 1 := ⟨f - 1, by omega⟩
    refine ⟨mm, ?_, Fr.rf, fun q h1 h2 => by omega⟩
    unfold fX12_setRuled_2
    exact st_t (nI_le (by first | omega | (dsimp only; omega)) (by first | omega | (dsimp only; omega))) rfl
  | succ c ih =>
    intro o mm ho G f hf
    obtain ⟨f, rfl⟩ : ∃ g, f = g + 1 := ⟨f - 1, by omega⟩
    obtain ⟨M, hd, ht, T⟩ := id G
    have hn := M.2.1
    obtain ⟨m1, c1, f1, g1⟩ := layRule_e (N := N) (o := o) (k := en) hN h0 (by first | omega | (dsimp only; omega)) M ht ht40 (T.yc (Nat.le_refl en)).2
    obtain ⟨m2, c2, f2, g2⟩ := msr19_l (N := N) (o := o) (x := rlN W n t o (yN Y en)) (k2 := fX12_setRuled_2 N f) (by first | omega | (dsimp only; omega)) n 0 m1 (by first | omega | (dsimp only; omega)) (MS_c M (fun k j e => f1.2 _ _ (by first | omega | (dsimp only; omega)))) g1 (fun j hj => by omega) N (by first | omega | (dsimp only; omega))
    obtain ⟨m', c3, f3, g3⟩ := ih (o + 1) m2 (by first | omega | (dsimp only; omega)) (G.c (fun k j e => by rw [f2.2 _ _ (by first | omega | (dsimp only; omega)), f1.2 _ _ (by first | omega | (dsimp only; omega))])) f (by first | omega | (dsimp only; omega))
    refine ⟨m', ?_, (f1.mono (fun k j e => Or.inl e)).tr ((f2.mono (fun k j e => by omega)).tr (f3.mono (fun k j e => by omega))), fun q h1 h2 j hj => ?_⟩
    · unfold fX12_setRuled_2
      rw [T.2.2.1]
      exact st_f (nI_ge (by first | omega | (dsimp only; omega)) (by first | omega | (dsimp only; omega))) (st_b c1 (c2.trans c3))
    · by_cases hq : q = o
      · subst hq
        rw [f3.2 _ _ (by first | omega | (dsimp only; omega))]; exact g2 j hj
      · exact g3 q (by first | omega | (dsimp only; omega)) h2 j hj
theorem alike_l {o a : Nat} {L : Nat → Nat → Nat} {mm : Mm} (M : MS mm n K W F) (ho : o < 6) (ha : a < 6) (hL : ∀ q, q < 6 → ∀ j, j < n → rd mm 194 (6 * q + j) = nI (L q j)) (hL4 : ∀ q, q < 6 → ∀ j, j < n → L q j ≤ 40) : ∀ c j (b : Bool), j + c = n → ∀ f, c < f → fX12_areAlike_5 N f 175 (nI o) (nI a) (bI b) (nI j) mm = some (bI (b && alB (fun j => decide (L o j = L a j)) c j), mm) := by
  have hn := M.2.1
  intro c
  induction c with
  | zero =>
    intro j b hj f hf
    obtain ⟨f, rfl⟩ : ∃ g, f = g + 1 := ⟨f - 1, by omega⟩
    unfold fX12_areAlike_5
    refine st_t (by rw [M.1]; exact nI_le (by first | omega | (dsimp only; omega)) (by first | omega | (dsimp only; omega))) ?_
    cases b
    · exact st_g (by decide) rfl
    · exact st_g (by decide) rfl
  | succ c ih =>
    intro j b hj f hf
    obtain ⟨f, rfl⟩ : ∃ g, f = g + 1 := ⟨f - 1, by omega⟩
    unfold fX12_areAlike_5 fX12_areAlike_50 fX12_areAlike_49 fX12_areAlike_50
    refine st_f (by rw [M.1]; exact nI_ge (by first | omega | (dsimp only; omega)) (by first | omega | (dsimp only; omega))) ?_
    rw [nI_1]
    have ih1 := fun b => ih (j + 1) b (by first | omega | (dsimp only; omega)) f (by first | omega | (dsimp only; omega))
    have e : alB (fun j => decide (L o j = L a j)) (c + 1) j = (decide (L o j = L a j) && alB (fun j => decide (L o j = L a j)) c (j + 1)) := rfl
    rw [e]
    cases b
    · refine st_t rfl ?_
      have := ih1 false
      rw [Bool.false_and] at this ⊢
      exact this
    · rw [show (6 : Int32) * nI o + nI j = nI (6 * o + j) by rw [show (6 : Int32) = nI 6 from rfl, nI_mul, nI_add], show (6 : Int32) * nI a + nI j = nI (6 * a + j) by rw [show (6 : Int32) = nI 6 from rfl, nI_mul, nI_add]]
      simp only [LXm, nI_nat (show 6 * o + j < 2147483648 by omega), nI_nat (show 6 * a + j < 2147483648 by omega)]
      refine st_f (by decide) (st_k rfl (show 6 * o + j < 36 by omega) (by first | omega | (dsimp only; omega)) (st_k rfl (show 6 * a + j < 36 by omega) (by first | omega | (dsimp only; omega)) ?_))
      rw [hL a ha j (by first | omega | (dsimp only; omega)), hL o ho j (by first | omega | (dsimp only; omega)), Bool.true_and]
      have h1 := hL4 a ha j (by first | omega | (dsimp only; omega))
      have h2 := hL4 o ho j (by first | omega | (dsimp only; omega))
      by_cases he : L o j = L a j
      · have := ih1 true
        rw [Bool.true_and] at this
        rw [decide_eq_true he, Bool.true_and]
        exact st_t (by rw [he]) this
      · have := ih1 false
        rw [Bool.false_and] at this
        rw [decide_eq_false he, Bool.false_and]
        exact st_f (nw_ne he (by first | omega | (dsimp only; omega)) (by first | omega | (dsimp only; omega))) this
theorem ru51_l {o Mk A : Nat} {L : Nat → Nat → Nat} {k26 : Nat → Int32 → Int32 → Int32 → Mm → Option (Int32 × Mm)} {mm : Mm} (hN : 100000 ≤ N) (hM : Mk < 64) (M : MS mm n K W F) (ho : o < 6) (hL : ∀ q, q < 6 → ∀ j, j < n → rd mm 194 (6 * q + j) = nI (L q j)) (hL4 : ∀ q, q < 6 → ∀ j, j < n → L q j ≤ 40) : ∀ c a (b : Bool), a + c = o → ∀ f, c < f → fX12_rules_51 N k26 f 175 (nI Mk) (nI A) (nI o) (bI b) (nI a) mm = k26 175 (nI Mk) (nI (A + if (b && alB (fun a => !(bitN Mk a && alB (fun j => decide (L o j = L a j)) n 0)) c a) = true then 1 else 0)) (nI (o + 1)) mm := by
  have hn := M.2.1
  intro c
  induction c with
  | zero =>
    intro a b ha f hf
    obtain ⟨f, rfl⟩ : ∃ g, f = g + 1 := ⟨f - 1, by omega⟩
    unfold fX12_rules_51 fX12_rules_105
    refine st_t (nI_le (by first | omega | (dsimp only; omega)) (by first | omega | (dsimp only; omega))) ?_
    rw [nI_1 o]
    cases b
    · exact st_t rfl (by rw [show (0 : Int32) = nI 0 from rfl, nI_add]; rfl)
    · exact st_f (by decide) (by rw [nI_1 A]; rfl)
  | succ c ih =>
    intro a b ha f hf
    obtain ⟨f, rfl⟩ : ∃ g, f = g + 1 := ⟨f - 1, by omega⟩
    unfold fX12_rules_51 fX12_rules_85 fX12_rules_81 fX12_rules_86
    rw [nI_1 a]
    refine st_f (nI_ge (by first | omega | (dsimp only; omega)) (by first | omega | (dsimp only; omega))) ?_
    have e : alB (fun a => !(bitN Mk a && alB (fun j => decide (L o j = L a j)) n 0)) (c + 1) a = ((!(bitN Mk a && alB (fun j => decide (L o j = L a j)) n 0)) && alB (fun a => !(bitN Mk a && alB (fun j => decide (L o j = L a j)) n 0)) c (a + 1)) := rfl
    rw [e]
    cases b
    · refine st_t rfl ?_
      have := ih (a + 1) false (by first | omega | (dsimp only; omega)) f (by first | omega | (dsimp only; omega))
      rw [Bool.false_and] at this ⊢
      exact this
    · have i1 := ih (a + 1) true (by first | omega | (dsimp only; omega)) f (by first | omega | (dsimp only; omega))
      have i0 := ih (a + 1) false (by first | omega | (dsimp only; omega)) f (by first | omega | (dsimp only; omega))
      rw [Bool.true_and] at i1 ⊢
      rw [Bool.false_and] at i0
      refine st_f (by decide) ?_
      cases hb : bitN Mk a
      · rw [Bool.false_and, Bool.not_false, Bool.true_and]
        exact st_t (bit_f hM (by first | omega | (dsimp only; omega)) hb) i1
      · have hal : fX12_areAlike N 175 (nI o) (nI a) mm = some (bI (alB (fun j => decide (L o j = L a j)) n 0), mm) := alike_l (N := N) M ho (by first | omega | (dsimp only; omega)) hL hL4 n 0 true (by first | omega | (dsimp only; omega)) N (by first | omega | (dsimp only; omega))
        refine st_f (bit_t hM (by first | omega | (dsimp only; omega)) hb) (st_b hal ?_)
        rw [Bool.true_and]
        cases he : alB (fun j => decide (L o j = L a j)) n 0
        · rw [Bool.not_false, Bool.true_and]
          exact st_t rfl i1
        · rw [Bool.not_true, Bool.false_and]
          exact st_f (by decide) i0
theorem ru26_l {Mk : Nat} {L : Nat → Nat → Nat} {mm : Mm} (hN : 100000 ≤ N) (hM : Mk < 64) (M : MS mm n K W F) (hL : ∀ q, q < 6 → ∀ j, j < n → rd mm 194 (6 * q + j) = nI (L q j)) (hL4 : ∀ q, q < 6 → ∀ j, j < n → L q j ≤ 40) : ∀ c o, o + c = 6 → ∀ f, c < f → fX12_rules_26 N f 175 (nI Mk) (nI (uNk (bitN Mk) (fun a o => alB (fun j => decide (L o j = L a j)) n 0) o)) (nI o) mm = some (nI Mk, wr mm 175 2 (nI (uNk (bitN Mk) (fun a o => alB (fun j => decide (L o j = L a j)) n 0) 6))) := by
  intro c
  induction c with
  | zero =>
    intro o ho f hf
    obtain ⟨f, rfl⟩ : ∃ g, f = g + 1 := ⟨f - 1, by omega⟩
    obtain rfl : o = 6 := by omega
    unfold fX12_rules_26
    exact st_t (nI_le (by first | omega | (dsimp only; omega)) (by first | omega | (dsimp only; omega))) rfl
  | succ c ih =>
    intro o ho f hf
    obtain ⟨f, rfl⟩ : ∃ g, f = g + 1 := ⟨f - 1, by omega⟩
    have ih1 := ih (o + 1) (by first | omega | (dsimp only; omega)) f (by first | omega | (dsimp only; omega))
    rw [uNk_S] at ih1
    have go : fX12_rules_46 N (fX12_rules_26 N f) 175 (nI Mk) (nI (uNk (bitN Mk) (fun a o => alB (fun j => decide (L o j = L a j)) n 0) o)) (nI o) (bI (bitN Mk o)) mm = some (nI Mk, wr mm 175 2 (nI (uNk (bitN Mk) (fun a o => alB (fun j => decide (L o j = L a j)) n 0) 6))) :=
      (ru51_l (N := N) (k26 := fX12_rules_26 N f) hN hM M (by first | omega | (dsimp only; omega)) hL hL4 o 0 (bitN Mk o) (by first | omega | (dsimp only; omega)) N (by first | omega | (dsimp only; omega))).trans ih1
    unfold fX12_rules_26
    refine st_f (nI_ge (by first | omega | (dsimp only; omega)) (by first | omega | (dsimp only; omega))) ?_
    cases hb : bitN Mk o
    · rw [hb] at go
      refine st_f ?_ go
      rw [bit_f hM (by first | omega | (dsimp only; omega)) hb]; decide
    · rw [hb] at go
      refine st_t ?_ go
      rw [bt_6 Mk hM o (by first | omega | (dsimp only; omega)), of_decide_eq_true hb]; rfl
end Ru
theorem ok_34 {N : Nat} (hN : 100000 ≤ N) : OK_34 N Rel := by
  intro mm h
  obtain ⟨n, K, W, F, d, s, t, C, M, hd, hd', hd9, hs, hs', hs40, ht, ht', ht40⟩ := Rel_data h
  have hn := C.2.1
  obtain ⟨en, Y, Z, T⟩ := Rel_notes h C.1 hn
  by_cases h0 : n = 0
  · subst h0
    refine ⟨-3, cRef 4 mm, mMeet 4 (cRef 4 mm), ?_, ?_, rel_ref h (f := 4) (by first | omega | (dsimp only; omega))⟩
    · unfold fX11_rules
      exact st_t C.1 (st_b (c_ref 4 rfl (by first | omega | (dsimp only; omega))) rfl)
    · unfold fX12_rules
      exact st_t (by rw [rd_cRef (by first | omega | (dsimp only; omega)) (by first | omega | (dsimp only; omega))]; exact M.1) (st_b (m_meet 4 rfl (by first | omega | (dsimp only; omega))) rfl)
  have hA7 := h.2.2.2.2.1
  have hW : 0 < smN W n := wsum_pos (by first | omega | (dsimp only; omega)) (fun i hi => (C.2.2 i hi).2.2.1)
  have GC0 : GC mm n d t en K W F Y Z := ⟨C, hd, ht, T⟩
  have GM0 : GM mm n d t en K W F Y Z := ⟨M, hd', ht', T⟩
  obtain ⟨m1, c1, f1, g1⟩ := cfit_e (N := N) hN (by first | omega | (dsimp only; omega)) hd9 ht40 GC0 hA7.2.2.2.1
  obtain ⟨m2, c2, f2, g2, g2'⟩ := cprepG_e (N := N) (M := mkN (fitB K W F n d t en Y Z) 6) (mm := m1) hN (by first | omega | (dsimp only; omega)) ht40 (GC0.c (fun k j e => f1.2 _ _ (by first | omega | (dsimp only; omega))))
  have hMk : mkN (fitB K W F n d t en Y Z) 6 < 64 := mkN_64
  have hrl : ∀ q j, j < n → rlN W n t q (yN Y en) j ≤ 40 := fun q j hj => by have := rl_b (W := W) (t := t) (o := q) (y := yN Y en) (by first | omega | (dsimp only; omega)) hW hj; omega
  obtain ⟨m3, c3, f3⟩ := uLay_l (N := N) (M := mkN (fitB K W F n d t en Y Z) 6) (L := fun q j => if j < n then rlN W n t q (yN Y en) j else 0) hN hMk (fun q j => by
    by_cases hj : j < n
    · rw [if_pos hj]; exact hrl q j hj
    · rw [if_neg hj]; omega) 6 0 m2 (by first | omega | (dsimp only; omega)) g2 g2' (fun q hq => by omega) N (by first | omega | (dsimp only; omega))
  have hcnt : uNk (bitN (mkN (fitB K W F n d t en Y Z) 6)) (fun a o => alB (fun j => decide ((if j < n then rlN W n t a (yN Y en) j else 0) = (if j < n then rlN W n t o (yN Y en) j else 0))) 6 0) 6 = uNk (bitN (mkN (fitB K W F n d t en Y Z) 6)) (fun a o => alB (fun j => decide (rlN W n t o (yN Y en) j = rlN W n t a (yN Y en) j)) n 0) 6 := by
    refine uNk_c 6 (fun o _ _ => ?_)
    have : ∀ a, alB (fun j => decide ((if j < n then rlN W n t a (yN Y en) j else 0) = (if j < n then rlN W n t o (yN Y en) j else 0))) 6 0 = true ↔ alB (fun j => decide (rlN W n t o (yN Y en) j = rlN W n t a (yN Y en) j)) n 0 = true := by
      intro a
      rw [alB_t, alB_t]
      constructor
      · intro q j j1 j2
        have := of_decide_eq_true (q j (by first | omega | (dsimp only; omega)) (by first | omega | (dsimp only; omega)))
        rw [if_pos (by first | omega | (dsimp only; omega)), if_pos (by first | omega | (dsimp only; omega))] at this
        exact decide_eq_true this.symm
      · intro q j j1 j2
        refine decide_eq_true ?_
        by_cases hj : j < n
        · rw [if_pos hj, if_pos hj]; exact (of_decide_eq_true (q j (by first | omega | (dsimp only; omega)) (by first | omega | (dsimp only; omega)))).symm
        · rw [if_neg hj, if_neg hj]
    constructor
    · rintro ⟨a, h1, h2, h3⟩; exact ⟨a, h1, h2, (this a).mp h3⟩
    · rintro ⟨a, h1, h2, h3⟩; exact ⟨a, h1, h2, (this a).mpr h3⟩
  rw [hcnt] at c3
  have F3 : Fr (fun k j => (k = 55 ∧ j = 5) ∨ (56 ≤ k ∧ k ≤ 69)) mm m3 := (f1.mono (fun k j e => by omega)).tr ((f2.mono (fun k j e => by omega)).tr (f3.mono (fun k j e => by omega)))
  generalize hcv : uNk (bitN (mkN (fitB K W F n d t en Y Z) 6)) (fun a o => alB (fun j => decide (rlN W n t o (yN Y en) j = rlN W n t a (yN Y en) j)) n 0) 6 = cv at c3
  have hB : ∀ k j, k ≤ 22 ∨ 175 ≤ k → rd (wr m3 0 14 (nI cv)) k j = if k = 0 ∧ j = 14 then nI cv else rd mm k j := fun k j hk => by
    rw [rd_wr]
    split
    · rfl
    · exact F3.2 _ _ (by first | omega | (dsimp only; omega))
  have GM3 : GM (wr m3 0 14 (nI cv)) n d t en K W F Y Z := ⟨MS_c M (fun k j e => by rw [rd_wr_k (by first | omega | (dsimp only; omega)), F3.2 _ _ (by first | omega | (dsimp only; omega))]), by rw [rd_wr_k (by first | omega | (dsimp only; omega)), F3.2 _ _ (by first | omega | (dsimp only; omega))]; exact hd', by rw [rd_wr_k (by first | omega | (dsimp only; omega)), F3.2 _ _ (by first | omega | (dsimp only; omega))]; exact ht', T.c (fun k j e => by rw [rd_wr_k (by first | omega | (dsimp only; omega)), F3.2 _ _ (by first | omega | (dsimp only; omega))])⟩
  obtain ⟨m4, c4, f4⟩ := mfit_e (N := N) hN (by first | omega | (dsimp only; omega)) hd9 ht40 GM3
  obtain ⟨m5, c5, f5, g5⟩ := msr_l (N := N) hN (by first | omega | (dsimp only; omega)) ht40 6 0 m4 (by first | omega | (dsimp only; omega)) (GM3.c (fun k j e => f4.2 _ _ (by first | omega | (dsimp only; omega)))) N (by first | omega | (dsimp only; omega))
  have M5 : MS m5 n K W F := MS_c GM3.1 (fun k j e => by rw [f5.2 _ _ (by first | omega | (dsimp only; omega)), f4.2 _ _ (by first | omega | (dsimp only; omega))])
  have c6 := ru26_l (N := N) (Mk := mkN (fitB K W F n d t en Y Z) 6) (L := fun q => rlN W n t q (yN Y en)) (mm := m5) hN hMk M5 (fun q hq j hj => g5 q (by first | omega | (dsimp only; omega)) hq j hj) (fun q _ j hj => hrl q j hj) 6 0 (by first | omega | (dsimp only; omega)) N (by first | omega | (dsimp only; omega))
  rw [hcv] at c6
  refine ⟨nI (mkN (fitB K W F n d t en Y Z) 6), wr m3 0 14 (nI cv), wr m5 175 2 (nI cv), ?_, ?_, ?_⟩
  · unfold fX11_rules
    refine st_f (by simp only [LXa]; rw [C.1]; exact nI_ne0 (by first | omega | (dsimp only; omega)) (by first | omega | (dsimp only; omega))) ?_
    simp only [LXa]
    refine st_b c1 ?_
    have c3' : fX2_unlikeLayings N 55 3 (nI (mkN (fitB K W F n d t en Y Z) 6)) m1 = some (nI cv, m3) := by
      unfold fX2_unlikeLayings
      exact st_b c2 c3
    exact st_b c3' rfl
  · unfold fX12_rules
    have hs5 : fX12_setRuled N 175 m4 = some ((), m5) := c5
    exact st_f (by rw [GM3.1.1]; exact nI_ne0 (by first | omega | (dsimp only; omega)) (by first | omega | (dsimp only; omega))) (st_b c4 (st_b hs5 c6))
  · have F5 : Fr (fun k j => (185 ≤ k ∧ k ≤ 187) ∨ k = 194 ∨ (k = 175 ∧ j = 2)) (wr m3 0 14 (nI cv)) (wr m5 175 2 (nI cv)) := fr_wr ((f4.mono (fun k j e => by omega)).tr (f5.mono (fun k j e => by omega))) (by first | omega | (dsimp only; omega))
    refine Rel_row (r := 6) h ((fr_wr (F3.mono (T := ScA 6) (fun k j e => Or.inl ?_)) (Or.inr (Or.inr (Or.inl (Or.inl ⟨rfl, rfl⟩))))).tr (F5.mono (T := ScA 6) (fun k j e => ?_))) ?_ ?_ (fun q => by omega)
    · unfold ScC; omega
    · rcases e with e | e | e
      · exact Or.inr (Or.inl (by unfold ScM; omega))
      · exact Or.inr (Or.inl (by unfold ScM; omega))
      · exact Or.inr (Or.inr (Or.inl (Or.inr e)))
    · obtain ⟨q1, q2, q3, q4, q5⟩ := hA7
      refine ⟨?_, ?_, ?_, ?_, fun w hw => ?_⟩
      · rw [F5.2 _ _ (by first | omega | (dsimp only; omega)), rd_wr_k (by first | omega | (dsimp only; omega)), F3.2 _ _ (by first | omega | (dsimp only; omega))]; exact q1
      · rw [F5.2 _ _ (by first | omega | (dsimp only; omega)), rd_wr_k (by first | omega | (dsimp only; omega)), F3.2 _ _ (by first | omega | (dsimp only; omega))]; exact q2
      · rw [F5.2 _ _ (by first | omega | (dsimp only; omega)), rd_wr_k (by first | omega | (dsimp only; omega)), F3.2 _ _ (by first | omega | (dsimp only; omega))]; exact q3
      · rw [F5.2 _ _ (by first | omega | (dsimp only; omega)), rd_wr_k (by first | omega | (dsimp only; omega)), f3.2 _ _ (by first | omega | (dsimp only; omega)), f2.2 _ _ (by first | omega | (dsimp only; omega))]; exact g1
      · rw [F5.2 _ _ (by first | omega | (dsimp only; omega)), rd_wr_k (by first | omega | (dsimp only; omega)), F3.2 _ _ (by first | omega | (dsimp only; omega))]; exact q5 w hw
    · rw [rd_wr_s, F5.2 0 14 (by first | omega | (dsimp only; omega)), rd_wr_s]
