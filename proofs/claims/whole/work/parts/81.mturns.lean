/-! pure: the model's turns -/
section MTu
variable {N n d : Nat} {K W F : Nat → Nat}
theorem pN_0 {w : Nat} : pN w 0 = 2 * (w : Int) := by unfold pN pts; simp
theorem pN_1 {w : Nat} : pN w 1 = -(2 * (w : Int)) := by unfold pN pts; simp
theorem pN_2 {w : Nat} : pN w 2 = 0 := by unfold pN pts; simp
theorem gives44_e {i wx wy : Nat} {mm : Mm} (M : MS mm n K W F) (hi : i < n) (hx : wx < 1000000) (hy : wy < 1000000) : fX12_gives_44 N 175 (nI i) (nI wx) (nI wy) mm = some (iI (pN (W i) (wnr (K i) wx wy)), mm) := by
  obtain ⟨hk, hW1, hW9, -⟩ := (M.2.2 i hi).2
  have h2w : (2 : Int32) * nI (W i) = iI (2 * (W i : Int)) := by rw [show (2 : Int32) = nI 2 from rfl, nI_mul, iI_n (by first | omega | (dsimp only; omega))]; rfl
  have hneg : -((2 : Int32) * nI (W i)) = iI (-(2 * (W i : Int))) := by rw [h2w, iI_neg (by first | omega | (dsimp only; omega)) (by first | omega | (dsimp only; omega))]
  unfold fX12_gives_44
  refine st_b (of_1 M hi) ?_
  by_cases he : wx = wy
  · refine st_t (by rw [he]) (st_b (misA_e (o := 1) M hi (by first | omega | (dsimp only; omega))) ?_)
    by_cases hk15 : K i = 1 ∨ K i = 5
    · have e1 : isaN (K i) 1 = 1 := by unfold isaN; exact if_pos (by first | omega | (dsimp only; omega))
      have e2 : wnr (K i) wx wy = 0 := by unfold wnr; rw [if_pos he, if_pos hk15]
      rw [e1, e2, pN_0, h2w]
      exact st_f (by decide) rfl
    · have e1 : isaN (K i) 1 = 0 := by unfold isaN; exact if_neg (by first | omega | (dsimp only; omega))
      have e2 : wnr (K i) wx wy = 2 := by unfold wnr; rw [if_pos he, if_neg hk15]
      rw [e1, e2, pN_2]
      exact st_t rfl rfl
  · refine st_f (fun e => he (nI_inj e (by first | omega | (dsimp only; omega)) (by first | omega | (dsimp only; omega)))) ?_
    unfold fX12_gives_91 fX12_gives_106
    by_cases hlt : wx < wy
    · refine st_t (nI_le (by first | omega | (dsimp only; omega)) (by first | omega | (dsimp only; omega))) (st_b (of_0 M hi) ?_)
      by_cases hk2 : K i = 2
      · have e2 : wnr (K i) wx wy = 0 := by rw [hk2, wnr_fly, if_neg he, if_pos hlt]
        rw [e2, pN_0, h2w]
        exact st_t (by rw [hk2]; rfl) (st_t rfl rfl)
      · have e2 : wnr (K i) wx wy = 1 := by
          unfold wnr
          rw [if_neg he, if_neg (fun e => by have : wy < wx := by rw [e]; exact hk2
                                             omega)]
        rw [e2, pN_1, hneg]
        exact st_f (fun e => hk2 (nI_inj (b := 2) e (by first | omega | (dsimp only; omega)) (by first | omega | (dsimp only; omega)))) (st_f (by decide) rfl)
    · refine st_f (nI_ge (by first | omega | (dsimp only; omega)) (by first | omega | (dsimp only; omega))) (st_b (of_0 M hi) ?_)
      by_cases hk2 : K i = 2
      · have e2 : wnr (K i) wx wy = 1 := by rw [hk2, wnr_fly, if_neg he, if_neg hlt]
        rw [e2, pN_1, hneg]
        exact st_t (by rw [hk2]; rfl) (st_f (by decide) rfl)
      · have e2 : wnr (K i) wx wy = 0 := by
          unfold wnr
          rw [if_neg he, if_pos (propext ⟨fun _ => hk2, fun _ => by omega⟩)]
        rw [e2, pN_0, h2w]
        exact st_f (fun e => hk2 (nI_inj (b := 2) e (by first | omega | (dsimp only; omega)) (by first | omega | (dsimp only; omega)))) (st_t rfl rfl)
theorem gives_e {i x y : Nat} {mm : Mm} (M : MS mm n K W F) (hd : rd mm 175 13 = nI d) (hd9 : d ≤ 9) (hi : i < n) (hx : x < 1000) (hy : y < 1000) : fX12_gives N 175 (nI i) (nI x) (nI y) mm = some (iI (gvN K W F d i x y), mm) := by
  obtain ⟨hk, hW1, hW9, hf9, -⟩ := (M.2.2 i hi).2
  have hwx : wgt (K i) (F i) d 0 x ≤ 200000 := wgt_b hf9 hd9 (by first | omega | (dsimp only; omega)) (by first | omega | (dsimp only; omega))
  have hwy : wgt (K i) (F i) d 0 y ≤ 200000 := wgt_b hf9 hd9 (by first | omega | (dsimp only; omega)) (by first | omega | (dsimp only; omega))
  have fin := gives44_e (N := N) (wx := wgt (K i) (F i) d 0 x) (wy := wgt (K i) (F i) d 0 y) M hi (by first | omega | (dsimp only; omega)) (by first | omega | (dsimp only; omega))
  unfold fX12_gives fX12_gives_21
  refine st_b (of_0 M hi) ?_
  by_cases h5 : K i = 5
  · rw [h5, wgt_5, wgt_5] at fin
    refine st_t (by rw [h5]; rfl) (st_b (of_0 M hi) (st_t (by rw [h5]; rfl) (fin.trans ?_)))
    unfold gvN zN
    rw [h5, wgt_5, wgt_5]
  · have n5 : nI (K i) ≠ 5 := fun e => h5 (nI_inj (b := 5) e (by first | omega | (dsimp only; omega)) (by first | omega | (dsimp only; omega)))
    have w0 := mweight_e (N := N) (s := 0) (x := x) (wf := fun _ => 2) M hd hi (by first | omega | (dsimp only; omega)) (by first | omega | (dsimp only; omega)) (fun e => absurd e h5)
    have w1 := mweight_e (N := N) (s := 1) (x := y) (wf := fun _ => 2) M hd hi (by first | omega | (dsimp only; omega)) (by first | omega | (dsimp only; omega)) (fun e => absurd e h5)
    rw [wgt_k (b' := 0) (fun e => absurd e h5)] at w0 w1
    exact st_f n5 (st_b w0 (st_b (of_0 M hi) (st_f n5 (st_b w1 fin))))
theorem turnAt_e {i a b : Nat} {mm : Mm} (hi : i ≤ 6) (ha : a < 16) (hb : b < 16) : fX12_turnAt N 175 (nI i) (nI a) (nI b) mm = some (rd mm 191 (256 * i + 16 * a + b), mm) := by
  unfold fX12_turnAt
  rw [show (256 : Int32) = nI 256 from rfl, show (16 : Int32) = nI 16 from rfl, nI_mul, nI_mul, nI_add, nI_add]
  simp only [LXm, nI_nat (show 256 * i + 16 * a + b < 2147483648 by omega)]
  exact st_k rfl (by first | omega | (dsimp only; omega)) (by first | omega | (dsimp only; omega)) rfl
/-- what the model's words stand on -/
def MTt (mm : Mm) (n d : Nat) (K W F : Nat → Nat) (i : Nat) : Prop := MS mm n K W F ∧ rd mm 175 13 = nI d ∧ d ≤ 9 ∧ ∀ a b, a < 16 → b < 16 → rd mm 191 (256 * (i + 1) + 16 * a + b) = iI (tvN K W F d n (n - (i + 1)) a b)
theorem MTt.c {i : Nat} {mm m2 : Mm} (h : MTt mm n d K W F i) (e : Fr (fun k j => (k = 175 ∧ (j = 33 ∨ j = 34)) ∨ (k = 191 ∧ j < 256 * (i + 1))) mm m2) : MTt m2 n d K W F i :=
  ⟨MS_c h.1 (fun k j q => e.2 _ _ (by first | omega | (dsimp only; omega))), by rw [e.2 _ _ (by first | omega | (dsimp only; omega))]; exact h.2.1, h.2.2.1, fun a b ha hb => by rw [e.2 _ _ (by first | omega | (dsimp only; omega))]; exact h.2.2.2 a b ha hb⟩
theorem MS_W {mm : Mm} (C : MS mm n K W F) : ∀ i, i < n → W i ≤ 9 := fun i hi => (C.2.2 i hi).2.2.2.1
theorem IsMin_up {v : Nat → Int} {y : Nat} {B : Int} {p : Nat} (h : IsMin v y B p) : (B ≤ v (y + 1) → IsMin v (y + 1) B p) ∧ (v (y + 1) < B → IsMin v (y + 1) (v (y + 1)) (y + 1)) := by
  obtain ⟨h1, h2, h3, h4⟩ := h
  refine ⟨fun hle => ⟨by omega, h2, fun t ht => ?_, h4⟩, fun hlt => ⟨by omega, rfl, fun t ht => ?_, fun t ht => ?_⟩⟩
  · by_cases he : t = y + 1
    · rw [he]; exact hle
    · exact h3 t (by first | omega | (dsimp only; omega))
  · by_cases he : t = y + 1
    · rw [he]; omega
    · have := h3 t (by first | omega | (dsimp only; omega)); omega
  · have := h3 t (by first | omega | (dsimp only; omega)); omega
theorem IsMax_up {v : Nat → Int} {y : Nat} {B : Int} {p : Nat} (h : IsMax v y B p) : (v (y + 1) ≤ B → IsMax v (y + 1) B p) ∧ (B < v (y + 1) → IsMax v (y + 1) (v (y + 1)) (y + 1)) := by
  obtain ⟨h1, h2, h3, h4⟩ := h
  refine ⟨fun hle => ⟨by omega, h2, fun t ht => ?_, h4⟩, fun hlt => ⟨by omega, rfl, fun t ht => ?_, fun t ht => ?_⟩⟩
  · by_cases he : t = y + 1
    · rw [he]; exact hle
    · exact h3 t (by first | omega | (dsimp only; omega))
  · by_cases he : t = y + 1
    · rw [he]; omega
    · have := h3 t (by first | omega | (dsimp only; omega)); omega
  · have := h3 t (by first | omega | (dsimp only; omega)); omega
theorem answ_l {i a b x : Nat} {mm0 : Mm} (hi : i < n) (hxa : x ≤ a) (ha : a < 16) (hb : b < 16) (A : MTt mm0 n d K W F i) : ∀ c y B p mm, y + c = b + 1 → Fr (fun k j => k = 175 ∧ j = 33) mm0 mm → ((y = 0 ∧ B = 1000) ∨ (0 < y ∧ IsMin (vlN K W F d n i a b x) (y - 1) B p ∧ rd mm 175 33 = nI p)) → ∀ f, c < f → ∃ m' B' p', fX12_answered_8 N f 175 (nI i) (nI a) (nI b) (nI x) (iI B) (nI y) mm = some (iI B', m') ∧ Fr (fun k j => k = 175 ∧ j = 33) mm m' ∧ rd m' 175 33 = nI p' ∧ IsMin (vlN K W F d n i a b x) b B' p' := by
  have hn := A.1.2.1
  have hW := MS_W A.1
  have hvb : ∀ y, -200 ≤ vlN K W F d n i a b x y ∧ vlN K W F d n i a b x y ≤ 200 := fun y => vl_b hW hn hi
  intro c
  induction c with
  | zero =>
    intro y B p mm hy hF hB f hf
    obtain ⟨f, rfl⟩ : ∃ g, f = g + 1 := ⟨f - 1, by omega⟩
    obtain rfl : y = b + 1 := by omega
    rcases hB with hB | ⟨-, hB, hp⟩
    · omega
    · refine ⟨mm, B, p, ?_, Fr.rf, hp, hB⟩
      unfold fX12_answered_8
      exact st_t (nI_lt (by first | omega | (dsimp only; omega)) (by first | omega | (dsimp only; omega))) rfl
  | succ c ih =>
    intro y B p mm hy hF hB f hf
    obtain ⟨f, rfl⟩ : ∃ g, f = g + 1 := ⟨f - 1, by omega⟩
    have A1 := A.c (m2 := mm) (hF.mono (fun k j h => Or.inl ⟨h.1, Or.inl h.2⟩))
    have hV : iI (gvN K W F d i x y) + rd mm 191 (256 * (i + 1) + 16 * (a - x) + (b - y)) = iI (vlN K W F d n i a b x y) := by
      have h1 := tv_b (K := K) (F := F) (d := d) hW (n - (i + 1)) (by first | omega | (dsimp only; omega)) (a - x) (b - y)
      have h2 : -18 ≤ gvN K W F d i x y ∧ gvN K W F d i x y ≤ 18 := pN_b (hW _ hi)
      rw [A1.2.2.2 (a - x) (b - y) (by first | omega | (dsimp only; omega)) (by first | omega | (dsimp only; omega)), iI_add (by first | omega | (dsimp only; omega)) (by first | omega | (dsimp only; omega)) (by first | omega | (dsimp only; omega)) (by first | omega | (dsimp only; omega))]
      rfl
    have hVb := hvb y
    have hBb : -200 ≤ B ∧ B ≤ 1000 := by
      rcases hB with hB | ⟨-, hB, -⟩
      · omega
      · have := hvb p; have := hB.2.1; omega
    have pre : ∀ {r : Option (Int32 × Mm)}, (if iI B ≤ iI (vlN K W F d n i a b x y) then (fX12_answered_58 N (fX12_answered_8 N f) 175 (nI i) (nI a) (nI b) (nI x) (iI B) (nI y) (iI (vlN K W F d n i a b x y)) 175 (rd mm 175 33) mm) else (fX12_answered_58 N (fX12_answered_8 N f) 175 (nI i) (nI a) (nI b) (nI x) (iI B) (nI y) (iI (vlN K W F d n i a b x y)) 175 (nI y) mm)) = r → fX12_answered_8 N (f + 1) 175 (nI i) (nI a) (nI b) (nI x) (iI B) (nI y) mm = r := by
      intro r hr
      unfold fX12_answered_8
      refine st_f (nI_nlt (by first | omega | (dsimp only; omega)) (by first | omega | (dsimp only; omega))) (st_b (gives_e A1.1 A1.2.1 A1.2.2.1 hi (by first | omega | (dsimp only; omega)) (by first | omega | (dsimp only; omega))) ?_)
      rw [nI_1, nI_sub (by first | omega | (dsimp only; omega)), nI_sub (by first | omega | (dsimp only; omega))]
      refine st_b (turnAt_e (by first | omega | (dsimp only; omega)) (by first | omega | (dsimp only; omega)) (by first | omega | (dsimp only; omega))) ?_
      rw [hV]
      exact hr
    by_cases hle : B ≤ vlN K W F d n i a b x y
    · rcases hB with hB | ⟨h0, hB, hp⟩
      · omega
      obtain ⟨m', B', p', q1, q2, q3⟩ := ih (y + 1) B p (wr mm 175 33 (rd mm 175 33)) (by first | omega | (dsimp only; omega)) (fr_wr hF ⟨rfl, rfl⟩) (Or.inr ⟨by omega, by
        have := (IsMin_up hB).1
        rw [show y - 1 + 1 = y + 1 - 1 by omega] at this
        exact this (by rw [show y + 1 - 1 = y by omega]; exact hle), by rw [rd_wr_s]; exact hp⟩) f (by first | omega | (dsimp only; omega))
      refine ⟨m', B', p', pre (st_t ((iI_le (by first | omega | (dsimp only; omega)) (by first | omega | (dsimp only; omega)) (by first | omega | (dsimp only; omega)) (by first | omega | (dsimp only; omega))).mpr hle) ?_), (fr_wr Fr.rf ⟨rfl, rfl⟩).tr q2, q3⟩
      unfold fX12_answered_58 fX12_answered_75
      refine st_n (st_t ((iI_le (by first | omega | (dsimp only; omega)) (by first | omega | (dsimp only; omega)) (by first | omega | (dsimp only; omega)) (by first | omega | (dsimp only; omega))).mpr hle) ?_)
      rw [nI_1]; exact q1
    · obtain ⟨m', B', p', q1, q2, q3⟩ := ih (y + 1) (vlN K W F d n i a b x y) y (wr mm 175 33 (nI y)) (by first | omega | (dsimp only; omega)) (fr_wr hF ⟨rfl, rfl⟩) (Or.inr ⟨by omega, by
        rw [show y + 1 - 1 = y by omega]
        rcases hB with hB | ⟨h0, hB, hp⟩
        · obtain rfl : y = 0 := hB.1
          exact ⟨by omega, rfl, fun t ht => by obtain rfl : t = 0 := by omega
                                               exact Int.le_refl _, fun t ht => by omega⟩
        · have := (IsMin_up hB).2
          rw [show y - 1 + 1 = y by omega] at this
          exact this (by first | omega | (dsimp only; omega)), by rw [rd_wr_s]⟩) f (by first | omega | (dsimp only; omega))
      have hn' : ¬ iI B ≤ iI (vlN K W F d n i a b x y) := fun e => hle ((iI_le (by first | omega | (dsimp only; omega)) (by first | omega | (dsimp only; omega)) (by first | omega | (dsimp only; omega)) (by first | omega | (dsimp only; omega))).mp e)
      refine ⟨m', B', p', pre (st_f hn' ?_), (fr_wr Fr.rf ⟨rfl, rfl⟩).tr q2, q3⟩
      unfold fX12_answered_58 fX12_answered_75
      refine st_n (st_f hn' ?_)
      rw [nI_1]; exact q1
theorem answ_e {i a b x : Nat} {mm : Mm} (hN : 100000 ≤ N) (hi : i < n) (hxa : x ≤ a) (ha : a < 16) (hb : b < 16) (A : MTt mm n d K W F i) : ∃ m' B p, fX12_answered N 175 (nI i) (nI a) (nI b) (nI x) mm = some (iI B, m') ∧ Fr (fun k j => k = 175 ∧ j = 33) mm m' ∧ rd m' 175 33 = nI p ∧ IsMin (vlN K W F d n i a b x) b B p :=
  answ_l (N := N) hi hxa ha hb A (b + 1) 0 1000 0 mm (by first | omega | (dsimp only; omega)) Fr.rf (Or.inl ⟨rfl, rfl⟩) N (by first | omega | (dsimp only; omega))
theorem laid_l {i a b : Nat} {mm0 : Mm} (hN : 100000 ≤ N) (hi : i < n) (ha : a < 16) (hb : b < 16) (A : MTt mm0 n d K W F i) : ∀ c x B p mm, x + c = a + 1 → Fr (fun k j => k = 175 ∧ (j = 33 ∨ j = 34)) mm0 mm → ((x = 0 ∧ B = -1000) ∨ (0 < x ∧ IsMax (fun x => mnO (vlN K W F d n i a b x) b) (x - 1) B p ∧ rd mm 175 34 = nI p)) → ∀ f, c < f → ∃ m' B' p', fX12_laidIn_8 N f 175 (nI i) (nI a) (nI b) (iI B) (nI x) mm = some (iI B', m') ∧ Fr (fun k j => k = 175 ∧ (j = 33 ∨ j = 34)) mm m' ∧ rd m' 175 34 = nI p' ∧ IsMax (fun x => mnO (vlN K W F d n i a b x) b) a B' p' := by
  have hn := A.1.2.1
  have hW := MS_W A.1
  have hmb : ∀ y, -200 ≤ mnO (vlN K W F d n i a b y) b ∧ mnO (vlN K W F d n i a b y) b ≤ 200 := fun y => mn_b (fun t => vl_b hW hn hi)
  intro c
  induction c with
  | zero =>
    intro y B p mm hy hF hB f hf
    obtain ⟨f, rfl⟩ : ∃ g, f = g + 1 := ⟨f - 1, by omega⟩
    obtain rfl : y = a + 1 := by omega
    rcases hB with hB | ⟨-, hB, hp⟩
    · omega
    · refine ⟨mm, B, p, ?_, Fr.rf, hp, hB⟩
      unfold fX12_laidIn_8
      exact st_t (nI_lt (by first | omega | (dsimp only; omega)) (by first | omega | (dsimp only; omega))) rfl
  | succ c ih =>
    intro x B p mm hx hF hB f hf
    obtain ⟨f, rfl⟩ : ∃ g, f = g + 1 := ⟨f - 1, by omega⟩
    obtain ⟨m1, V, pv, c1, f1, -, g1⟩ := answ_e (N := N) (x := x) hN hi (by first | omega | (dsimp only; omega)) ha hb (A.c (m2 := mm) (hF.mono (fun k j h => Or.inl h)))
    have hV : mnO (vlN K W F d n i a b x) b = V := g1.v
    have hVb := hmb x
    rw [hV] at hVb
    have hBb : -1000 ≤ B ∧ B ≤ 200 := by
      rcases hB with hB | ⟨-, hB, -⟩
      · omega
      · have := hmb p; have := hB.2.1; dsimp only at this; omega
    have hF1 : Fr (fun k j => k = 175 ∧ (j = 33 ∨ j = 34)) mm m1 := f1.mono (fun k j h => ⟨h.1, Or.inl h.2⟩)
    have h34 : rd m1 175 34 = rd mm 175 34 := f1.2 _ _ (by first | omega | (dsimp only; omega))
    by_cases hle : V ≤ B
    · rcases hB with hB | ⟨h0, hB, hp⟩
      · omega
      obtain ⟨m', B', p', q1, q2, q3⟩ := ih (x + 1) B p (wr m1 175 34 (rd m1 175 34)) (by first | omega | (dsimp only; omega)) (fr_wr (hF.tr hF1) ⟨rfl, Or.inr rfl⟩) (Or.inr ⟨by omega, by
        have := (IsMax_up hB).1
        rw [show x - 1 + 1 = x + 1 - 1 by omega] at this
        exact this (by rw [show x + 1 - 1 = x by omega, hV]; exact hle), by rw [rd_wr_s, h34]; exact hp⟩) f (by first | omega | (dsimp only; omega))
      refine ⟨m', B', p', ?_, hF1.tr ((fr_wr Fr.rf ⟨rfl, Or.inr rfl⟩).tr q2), q3⟩
      unfold fX12_laidIn_8 fX12_laidIn_42 fX12_laidIn_59
      refine st_f (nI_nlt (by first | omega | (dsimp only; omega)) (by first | omega | (dsimp only; omega))) (st_b c1 (st_t ((iI_le (by first | omega | (dsimp only; omega)) (by first | omega | (dsimp only; omega)) (by first | omega | (dsimp only; omega)) (by first | omega | (dsimp only; omega))).mpr hle) (st_n (st_t ((iI_le (by first | omega | (dsimp only; omega)) (by first | omega | (dsimp only; omega)) (by first | omega | (dsimp only; omega)) (by first | omega | (dsimp only; omega))).mpr hle) ?_))))
      rw [nI_1]; exact q1
    · obtain ⟨m', B', p', q1, q2, q3⟩ := ih (x + 1) V x (wr m1 175 34 (nI x)) (by first | omega | (dsimp only; omega)) (fr_wr (hF.tr hF1) ⟨rfl, Or.inr rfl⟩) (Or.inr ⟨by omega, by
        rw [show x + 1 - 1 = x by omega]
        rcases hB with hB | ⟨h0, hB, hp⟩
        · obtain rfl : x = 0 := hB.1
          exact ⟨by omega, hV, fun t ht => by obtain rfl : t = 0 := by omega
                                              rw [← hV]; exact Int.le_refl _, fun t ht => by omega⟩
        · have := (IsMax_up hB).2
          rw [show x - 1 + 1 = x by omega, hV] at this
          exact this (by first | omega | (dsimp only; omega)), by rw [rd_wr_s]⟩) f (by first | omega | (dsimp only; omega))
      have hn' : ¬ iI V ≤ iI B := fun e => hle ((iI_le (by first | omega | (dsimp only; omega)) (by first | omega | (dsimp only; omega)) (by first | omega | (dsimp only; omega)) (by first | omega | (dsimp only; omega))).mp e)
      refine ⟨m', B', p', ?_, hF1.tr ((fr_wr Fr.rf ⟨rfl, Or.inr rfl⟩).tr q2), q3⟩
      unfold fX12_laidIn_8 fX12_laidIn_42 fX12_laidIn_59
      refine st_f (nI_nlt (by first | omega | (dsimp only; omega)) (by first | omega | (dsimp only; omega))) (st_b c1 (st_f hn' (st_n (st_f hn' ?_))))
      rw [nI_1]; exact q1
theorem laid_e {i a b : Nat} {mm : Mm} (hN : 100000 ≤ N) (hi : i < n) (ha : a < 16) (hb : b < 16) (A : MTt mm n d K W F i) : ∃ m' B p, fX12_laidIn N 175 (nI i) (nI a) (nI b) mm = some (iI B, m') ∧ Fr (fun k j => k = 175 ∧ (j = 33 ∨ j = 34)) mm m' ∧ rd m' 175 34 = nI p ∧ IsMax (fun x => mnO (vlN K W F d n i a b x) b) a B p :=
  laid_l (N := N) hN hi ha hb A (a + 1) 0 (-1000) 0 mm (by first | omega | (dsimp only; omega)) Fr.rf (Or.inl ⟨rfl, rfl⟩) N (by first | omega | (dsimp only; omega))
end MTu
