/-! pure: count -/
theorem neg_nI {x : Int32} (h : x = -1) : x < 0 := by rw [h]; decide
/-- how many of the first m -/
theorem kept_l {N : Nat} {mm : Mm} (fl : Nat → Nat) (h : ∀ i, i < 3 → (fl i = 0 ∧ rd mm (115 + 20 * i) 8 = 0) ∨ (fl i = 1 ∧ rd mm (115 + 20 * i) 8 ≠ 0)) : ∀ m i, i + m = 3 → ∀ f, m < f → fX11_keptCourts_4 N f 0 (nI (smN fl i)) (nI i) mm = some (nI (smN fl 3), mm) := by
  intro m
  induction m with
  | zero =>
    intro i hi f hf
    obtain ⟨f, rfl⟩ : ∃ g, f = g + 1 := ⟨f - 1, by omega⟩
    obtain rfl : i = 3 := by omega
    unfold fX11_keptCourts_4
    exact st_t (by decide) rfl
  | succ m ih =>
    intro i hi f hf
    obtain ⟨f, rfl⟩ : ∃ g, f = g + 1 := ⟨f - 1, by omega⟩
    unfold fX11_keptCourts_4 fX11_keptCourts_24
    simp only [LXa, nI_nat (show i < 2147483648 by omega)]
    have ih2 := ih (i + 1) (by first | omega | (dsimp only; omega)) f (by first | omega | (dsimp only; omega))
    have hs : smN fl (i + 1) = smN fl i + fl i := rfl
    rw [hs] at ih2
    refine st_f (nI_ge (by first | omega | (dsimp only; omega)) (by first | omega | (dsimp only; omega))) (st_k rfl (by first | omega | (dsimp only; omega)) (by first | omega | (dsimp only; omega)) ?_)
    rw [nI_1, nI_1]
    rcases h i (by first | omega | (dsimp only; omega)) with ⟨z, e⟩ | ⟨z, e⟩
    · rw [z] at ih2; exact st_t e ih2
    · rw [z] at ih2; exact st_f e ih2
theorem there_l {N a L : Nat} {mm : Mm} (fl : Nat → Nat) (hL : ln a = L) (hL6 : L ≤ 6) (h : ∀ i, i < L → (fl i = 0 ∧ rd mm (el a i) 1 = -1) ∨ (fl i = 1 ∧ ∃ n, n < 1000 ∧ rd mm (el a i) 1 = nI n)) : ∀ m i, i + m = L → ∀ f, m < f → fX11_there_4 N f a (nI (smN fl i)) (nI i) mm = some (nI (smN fl L), mm) := by
  intro m
  induction m with
  | zero =>
    intro i hi f hf
    obtain ⟨f, rfl⟩ : ∃ g, f = g + 1 := ⟨f - 1, by omega⟩
    obtain rfl : i = L := by omega
    unfold fX11_there_4
    rw [hL]
    exact st_t (nI_le (by first | omega | (dsimp only; omega)) (by first | omega | (dsimp only; omega))) rfl
  | succ m ih =>
    intro i hi f hf
    obtain ⟨f, rfl⟩ : ∃ g, f = g + 1 := ⟨f - 1, by omega⟩
    unfold fX11_there_4 fX11_there_22
    rw [hL, nI_nat (show i < 2147483648 by omega)]
    have ih2 := ih (i + 1) (by first | omega | (dsimp only; omega)) f (by first | omega | (dsimp only; omega))
    have hs : smN fl (i + 1) = smN fl i + fl i := rfl
    rw [hs] at ih2
    refine st_f (nI_ge (by first | omega | (dsimp only; omega)) (by first | omega | (dsimp only; omega))) (st_k rfl (by first | omega | (dsimp only; omega)) (by first | omega | (dsimp only; omega)) ?_)
    rw [nI_1, nI_1]
    rcases h i (by first | omega | (dsimp only; omega)) with ⟨z, e⟩ | ⟨z, n, hn, e⟩
    · rw [z] at ih2; exact st_b (miss_t e) (st_f (by decide) ih2)
    · rw [z] at ih2; exact st_b (miss_f e (by first | omega | (dsimp only; omega))) (st_t rfl ih2)
/-- the model's loop: its flag at i is fl i -/
theorem counts_l {N n w : Nat} {K W F : Nat → Nat} {mm : Mm} {R : Option (Int32 × Mm)} (M : MS mm n K W F) (fl g : Nat → Nat) (hg : ∀ i, i < 6 → g i = if i < n then W i else 0)
    (hfl : ∀ i, i < 6 → ∀ k7 a3 s0, (if (nI w) = 6 then (gd (inb (nI i) (ln (fr 175 5))) <| if (0 : Int32) ≤ (rd mm (fr 175 5) (nI i).toNatClampNeg) then (fX12_counts_79 N k7 175 (nI w) a3 (nI i) s0 mm) else (fX12_counts_31 N k7 175 (nI w) a3 (nI i) s0 mm)) else (fX12_counts_31 N k7 175 (nI w) a3 (nI i) s0 mm)) = fX12_counts_84 N k7 175 (nI w) a3 (nI i) s0 (nI (fl i)) mm)
    (hR : ∀ f, 0 < f → fX12_counts_7 N f 175 (nI w) (nI (smN fl 6)) (nI (smN g 6)) (nI 6) mm = R) : ∀ m i, i + m = 6 → ∀ f, m < f → fX12_counts_7 N f 175 (nI w) (nI (smN fl i)) (nI (smN g i)) (nI i) mm = R := by
  have hn := M.2.1
  intro m
  induction m with
  | zero =>
    intro i hi f hf
    obtain rfl : i = 6 := by omega
    exact hR f hf
  | succ m ih =>
    intro i hi f hf
    obtain ⟨f, rfl⟩ : ∃ g, f = g + 1 := ⟨f - 1, by omega⟩
    have ih2 := ih (i + 1) (by first | omega | (dsimp only; omega)) f (by first | omega | (dsimp only; omega))
    have hs : smN fl (i + 1) = smN fl i + fl i := rfl
    have hs2 : smN g (i + 1) = smN g i + g i := rfl
    rw [hs, hs2] at ih2
    unfold fX12_counts_7
    refine st_f (nI_ge (by first | omega | (dsimp only; omega)) (by first | omega | (dsimp only; omega))) ?_
    refine (hfl i (by first | omega | (dsimp only; omega)) (fX12_counts_7 N f) _ _).trans ?_
    unfold fX12_counts_84 fX12_counts_107
    rw [hg i (by first | omega | (dsimp only; omega))] at ih2
    rw [M.1, nI_1]
    by_cases hin : i < n
    · rw [if_pos hin] at ih2
      refine st_f (nI_ge hin (by first | omega | (dsimp only; omega))) (st_b (of_1 M hin) ?_)
      rw [nI_add, nI_add]; exact ih2
    · rw [if_neg hin] at ih2
      refine st_t (nI_le (by first | omega | (dsimp only; omega)) (by first | omega | (dsimp only; omega))) ?_
      rw [nI_add, show (0 : Int32) = nI 0 from rfl, nI_add]; exact ih2
theorem smN_g {W g : Nat → Nat} {n : Nat} (hn : n ≤ 6) (hg : ∀ i, i < 6 → g i = if i < n then W i else 0) : smN g 6 = smN W n := by
  have h1 : ∀ k, n + k ≤ 6 → smN g (n + k) = smN W n := by
    intro k
    induction k with
    | zero => intro _; exact smN_c n (fun i hi => by rw [hg i (by first | omega | (dsimp only; omega)), if_pos hi])
    | succ k ih =>
      intro hk
      show smN g (n + k) + g (n + k) = _
      rw [ih (by first | omega | (dsimp only; omega)), hg _ (by first | omega | (dsimp only; omega)), if_neg (by first | omega | (dsimp only; omega))]; rfl
  have := h1 (6 - n) (by first | omega | (dsimp only; omega))
  rw [show n + (6 - n) = 6 by omega] at this
  exact this
theorem nw_ne {w v : Nat} (h : w ≠ v) (hw : w < 2147483648) (hv : v < 2147483648) : nI w ≠ nI v := fun e => h (nI_inj e hw hv)
theorem count_e {N w : Nat} {mm : Mm} (hN : 100000 ≤ N) (h : Rel mm) (hw : w < 8) : ∃ v : Int32, fX11_count N 0 (nI w) mm = some (v, mm) ∧ ∀ m2, (∀ k j, rd m2 k j = rd mm k j) → fX12_counts N 175 (nI w) m2 = some (v, m2) := by
  obtain ⟨n, g3, g4, g5⟩ := h.2.2.1
  obtain ⟨C, M⟩ := RS_CS g3
  have hn := C.2.1
  generalize uK mm = K at C M
  generalize uW mm = W at C M
  generalize uF mm = F at C M
  have g7 := g4.2.2.2.2.1
  have M' : ∀ m2, (∀ k j, rd m2 k j = rd mm k j) → MS m2 n K W F := fun m2 e => MS_c M (fun k j _ => e k j)
  have hG : ∀ i, i < 6 → (fun i => if i < n then W i else 0) i = if i < n then W i else 0 := fun _ _ => rfl
  have hgs := smN_g hn hG
  -- the loop where no flag is
  have lo : ∀ m2, (∀ k j, rd m2 k j = rd mm k j) → w ≠ 5 → w ≠ 6 → w ≠ 7 → ∀ R, (∀ f, 0 < f → fX12_counts_7 N f 175 (nI w) (nI (smN (fun _ => 0) 6)) (nI (smN W n)) (nI 6) m2 = R) → fX12_counts N 175 (nI w) m2 = R := by
    intro m2 e h5 h6 h7 R hR
    have := counts_l (N := N) (w := w) (R := R) (M' m2 e) (fun _ => 0) (fun i => if i < n then W i else 0) hG (fun i hi k7 a3 s0 => ?_) (by rw [hgs]; exact hR) 6 0 (by first | omega | (dsimp only; omega)) N (by first | omega | (dsimp only; omega))
    · exact this
    · refine st_f (nw_ne (v := 6) h6 (by first | omega | (dsimp only; omega)) (by first | omega | (dsimp only; omega))) ?_
      unfold fX12_counts_31
      refine st_f (nw_ne (v := 5) h5 (by first | omega | (dsimp only; omega)) (by first | omega | (dsimp only; omega))) ?_
      unfold fX12_counts_57
      refine st_f (nw_ne (v := 7) h7 (by first | omega | (dsimp only; omega)) (by first | omega | (dsimp only; omega))) ?_
      rfl
  have fin : ∀ (m2 : Mm) (f : Nat) (a b : Int32) (R : Option (Int32 × Mm)), 0 < f → (if nI w = 0 then (some (rd m2 175 10, m2)) else if nI w = 1 then (some (b, m2)) else if nI w = 2 then (bd2 (fX12_ofKind N 175 1 m2) fun x17 m18 => some (x17, m18)) else if nI w = 3 then (bd2 (fX12_ofKind N 175 3 m2) fun x21 m22 => some (x21, m22)) else if nI w = 4 then (some (rd m2 175 37, m2)) else (some (a, m2))) = R → fX12_counts_7 N f 175 (nI w) a b (nI 6) m2 = R := by
    intro m2 f a b R hf e
    obtain ⟨f, rfl⟩ : ∃ g, f = g + 1 := ⟨f - 1, by omega⟩
    unfold fX12_counts_7
    exact st_t (by decide) e
  rcases (by omega : w = 0 ∨ w = 1 ∨ w = 2 ∨ w = 3 ∨ w = 4 ∨ w = 5 ∨ w = 6 ∨ w = 7) with rfl | rfl | rfl | rfl | rfl | rfl | rfl | rfl
  · refine ⟨nI n, ?_, fun m2 e => lo m2 e (by first | omega | (dsimp only; omega)) (by first | omega | (dsimp only; omega)) (by first | omega | (dsimp only; omega)) _ (fun f hf => fin m2 f _ _ _ hf ?_)⟩
    · unfold fX11_count
      exact st_t rfl (by simp only [LXa]; rw [C.1])
    · exact st_t rfl (by rw [(M' m2 e).1])
  · refine ⟨nI (smN W n), ?_, fun m2 e => lo m2 e (by first | omega | (dsimp only; omega)) (by first | omega | (dsimp only; omega)) (by first | omega | (dsimp only; omega)) _ (fun f hf => fin m2 f _ _ _ hf ?_)⟩
    · unfold fX11_count
      exact st_f (by decide) (st_t rfl (st_b (worths_e hN C) rfl))
    · exact st_f (by decide) (st_t rfl rfl)
  · refine ⟨nI (smN (fun i => isaN (K i) 1) n), ?_, fun m2 e => lo m2 e (by first | omega | (dsimp only; omega)) (by first | omega | (dsimp only; omega)) (by first | omega | (dsimp only; omega)) _ (fun f hf => fin m2 f _ _ _ hf ?_)⟩
    · unfold fX11_count
      exact st_f (by decide) (st_f (by decide) (st_t rfl (st_b (howMany_e (o := 1) hN (by first | omega | (dsimp only; omega)) C) rfl)))
    · exact st_f (by decide) (st_f (by decide) (st_t rfl (st_b (ofKind_e (o := 1) hN (by first | omega | (dsimp only; omega)) (M' m2 e)) rfl)))
  · refine ⟨nI (smN (fun i => isaN (K i) 3) n), ?_, fun m2 e => lo m2 e (by first | omega | (dsimp only; omega)) (by first | omega | (dsimp only; omega)) (by first | omega | (dsimp only; omega)) _ (fun f hf => fin m2 f _ _ _ hf ?_)⟩
    · unfold fX11_count
      exact st_f (by decide) (st_f (by decide) (st_f (by decide) (st_t rfl (st_b (howMany_e (o := 3) hN (by first | omega | (dsimp only; omega)) C) rfl))))
    · exact st_f (by decide) (st_f (by decide) (st_f (by decide) (st_t rfl (st_b (ofKind_e (o := 3) hN (by first | omega | (dsimp only; omega)) (M' m2 e)) rfl))))
  · refine ⟨rd mm 175 37, ?_, fun m2 e => lo m2 e (by first | omega | (dsimp only; omega)) (by first | omega | (dsimp only; omega)) (by first | omega | (dsimp only; omega)) _ (fun f hf => fin m2 f _ _ _ hf ?_)⟩
    · unfold fX11_count
      exact st_f (by decide) (st_f (by decide) (st_f (by decide) (st_f (by decide) (st_t rfl (by simp only [LXa]; rw [g7])))))
    · exact st_f (by decide) (st_f (by decide) (st_f (by decide) (st_f (by decide) (st_t rfl (by rw [e])))))
  · -- kept
    have hk : ∀ i, i < 3 → ((if rd mm (115 + 20 * i) 8 = 0 then 0 else 1) = 0 ∧ rd mm (115 + 20 * i) 8 = 0 ∧ rd mm 196 (72 * i) = -9) ∨ ((if rd mm (115 + 20 * i) 8 = 0 then 0 else 1) = 1 ∧ rd mm (115 + 20 * i) 8 ≠ 0 ∧ rd mm 196 (72 * i) ≠ -9) := by
      intro i hi
      rcases g5 i hi with ⟨e1, e2⟩ | ⟨e1, e2, e3, e4, e5⟩
      · exact Or.inl ⟨if_pos e1, e1, e2⟩
      · have : rd mm (115 + 20 * i) 8 ≠ 0 := by rw [e1]; decide
        obtain ⟨-, -, -, -, -, en, h8, e7, -⟩ := e5
        exact Or.inr ⟨if_neg this, this, by rw [e7]; exact neg9_ne (by first | omega | (dsimp only; omega))⟩
    refine ⟨nI (smN (fun i => if i < 3 then (if rd mm (115 + 20 * i) 8 = 0 then 0 else 1) else 0) 3), ?_, fun m2 e => ?_⟩
    · unfold fX11_count
      refine st_f (by decide) (st_f (by decide) (st_f (by decide) (st_f (by decide) (st_f (by decide) (st_t rfl (st_b ?_ rfl))))))
      refine kept_l _ (fun i hi => ?_) 3 0 rfl N (by first | omega | (dsimp only; omega))
      rcases hk i hi with ⟨q1, q2, -⟩ | ⟨q1, q2, -⟩
      · exact Or.inl ⟨by simp only [if_pos hi]; exact q1, q2⟩
      · exact Or.inr ⟨by simp only [if_pos hi]; exact q1, q2⟩
    · have hsum : smN (fun i => if i < 3 then (if rd mm (115 + 20 * i) 8 = 0 then 0 else 1) else 0) 6 = smN (fun i => if i < 3 then (if rd mm (115 + 20 * i) 8 = 0 then 0 else 1) else 0) 3 := rfl
      have := counts_l (N := N) (w := 5) (R := some (nI (smN (fun i => if i < 3 then (if rd mm (115 + 20 * i) 8 = 0 then 0 else 1) else 0) 3), m2)) (M' m2 e) (fun i => if i < 3 then (if rd mm (115 + 20 * i) 8 = 0 then 0 else 1) else 0) (fun i => if i < n then W i else 0) hG (fun i hi k7 a3 s0 => ?_) (fun f hf => fin m2 f _ _ _ hf ?_) 6 0 (by first | omega | (dsimp only; omega)) N (by first | omega | (dsimp only; omega))
      · exact this
      · refine st_f (by decide) ?_
        unfold fX12_counts_31
        refine st_t rfl ?_
        by_cases hi3 : i < 3
        · refine st_f (nI_ge hi3 (by first | omega | (dsimp only; omega))) ?_
          rw [show (72 : Int32) = nI 72 from rfl, nI_mul]
          simp only [LXm, nI_nat (show 72 * i < 2147483648 by omega), if_pos hi3]
          rw [e]
          refine st_k rfl (by first | omega | (dsimp only; omega)) (by first | omega | (dsimp only; omega)) ?_
          rcases hk i hi3 with ⟨q1, q2, q3⟩ | ⟨q1, q2, q3⟩
          · rw [q1]; refine st_t q3 ?_
            unfold fX12_counts_57
            exact st_f (by decide) rfl
          · rw [q1]; exact st_f q3 rfl
        · refine st_t (nI_le (by first | omega | (dsimp only; omega)) (by first | omega | (dsimp only; omega))) ?_
          simp only [if_neg hi3]
          unfold fX12_counts_57
          exact st_f (by decide) rfl
      · refine st_f (by decide) (st_f (by decide) (st_f (by decide) (st_f (by decide) (st_f (by decide) ?_))))
        rw [hsum]
  · -- rows
    have hk : ∀ i, i < 6 → ((if rd mm 177 i = -9 then 0 else 1) = 0 ∧ rd mm (95 + 2 * i) 1 = -1 ∧ rd mm 177 i = -9) ∨ ((if rd mm 177 i = -9 then 0 else 1) = 1 ∧ ∃ n, n < 1000 ∧ rd mm (95 + 2 * i) 1 = nI n ∧ rd mm 177 i = nI n) := by
      intro i hi
      rcases h.1 i hi with ⟨e1, e2⟩ | ⟨q, h1, e1, e2, -⟩
      · exact Or.inl ⟨if_pos e2, e1, e2⟩
      · exact Or.inr ⟨if_neg (by rw [e2]; exact neg9_ne (by first | omega | (dsimp only; omega))), q, by omega, e1, e2⟩
    refine ⟨nI (smN (fun i => if rd mm 177 i = -9 then 0 else 1) 6), ?_, fun m2 e => ?_⟩
    · unfold fX11_count
      refine st_f (by decide) (st_f (by decide) (st_f (by decide) (st_f (by decide) (st_f (by decide) (st_f (by decide) (st_t rfl (st_b ?_ rfl)))))))
      refine there_l (a := 1) (L := 6) _ rfl (by first | omega | (dsimp only; omega)) (fun i hi => ?_) 6 0 rfl N (by first | omega | (dsimp only; omega))
      rcases hk i hi with ⟨q1, q2, -⟩ | ⟨q1, q, q2, q3, -⟩
      · exact Or.inl ⟨q1, q2⟩
      · exact Or.inr ⟨q1, q, q2, q3⟩
    · have := counts_l (N := N) (w := 6) (R := some (nI (smN (fun i => if rd mm 177 i = -9 then 0 else 1) 6), m2)) (M' m2 e) (fun i => if rd mm 177 i = -9 then 0 else 1) (fun i => if i < n then W i else 0) hG (fun i hi k7 a3 s0 => ?_) (fun f hf => fin m2 f _ _ _ hf ?_) 6 0 (by first | omega | (dsimp only; omega)) N (by first | omega | (dsimp only; omega))
      · exact this
      · refine st_t rfl ?_
        simp only [LXm, nI_nat (show i < 2147483648 by omega)]
        rw [e]
        refine st_k rfl (by first | omega | (dsimp only; omega)) (by first | omega | (dsimp only; omega)) ?_
        rcases hk i hi with ⟨q1, q2, q3⟩ | ⟨q1, q, q2, q3, q4⟩
        · rw [q1]; refine st_f (by rw [q3]; decide) ?_
          unfold fX12_counts_31
          refine st_f (by decide) ?_
          unfold fX12_counts_57
          exact st_f (by decide) rfl
        · rw [q1]; exact st_t (by rw [q4]; exact nI_pos' (by first | omega | (dsimp only; omega))) rfl
      · exact st_f (by decide) (st_f (by decide) (st_f (by decide) (st_f (by decide) (st_f (by decide) rfl))))
  · -- texts
    have hk : ∀ i, i < 4 → ((if rd mm 180 i = -9 then 0 else 1) = 0 ∧ rd mm (107 + 2 * i) 1 = -1 ∧ rd mm 180 i = -9) ∨ ((if rd mm 180 i = -9 then 0 else 1) = 1 ∧ ∃ n, n < 1000 ∧ rd mm (107 + 2 * i) 1 = nI n ∧ rd mm 180 i = nI n) := by
      intro i hi
      rcases h.2.1 i hi with ⟨e1, e2⟩ | ⟨q, h1, e1, e2, -⟩
      · exact Or.inl ⟨if_pos e2, e1, e2⟩
      · exact Or.inr ⟨if_neg (by rw [e2]; exact neg9_ne (by first | omega | (dsimp only; omega))), q, by omega, e1, e2⟩
    refine ⟨nI (smN (fun i => if i < 4 then (if rd mm 180 i = -9 then 0 else 1) else 0) 4), ?_, fun m2 e => ?_⟩
    · unfold fX11_count
      refine st_f (by decide) (st_f (by decide) (st_f (by decide) (st_f (by decide) (st_f (by decide) (st_f (by decide) (st_f (by decide) (st_t rfl (st_b ?_ rfl))))))))
      refine there_l (a := 2) (L := 4) _ rfl (by first | omega | (dsimp only; omega)) (fun i hi => ?_) 4 0 rfl N (by first | omega | (dsimp only; omega))
      rcases hk i hi with ⟨q1, q2, -⟩ | ⟨q1, q, q2, q3, -⟩
      · exact Or.inl ⟨by simp only [if_pos hi]; exact q1, q2⟩
      · exact Or.inr ⟨by simp only [if_pos hi]; exact q1, q, q2, q3⟩
    · have hsum : smN (fun i => if i < 4 then (if rd mm 180 i = -9 then 0 else 1) else 0) 6 = smN (fun i => if i < 4 then (if rd mm 180 i = -9 then 0 else 1) else 0) 4 := rfl
      have := counts_l (N := N) (w := 7) (R := some (nI (smN (fun i => if i < 4 then (if rd mm 180 i = -9 then 0 else 1) else 0) 4), m2)) (M' m2 e) (fun i => if i < 4 then (if rd mm 180 i = -9 then 0 else 1) else 0) (fun i => if i < n then W i else 0) hG (fun i hi k7 a3 s0 => ?_) (fun f hf => fin m2 f _ _ _ hf ?_) 6 0 (by first | omega | (dsimp only; omega)) N (by first | omega | (dsimp only; omega))
      · exact this
      · refine st_f (by decide) ?_
        unfold fX12_counts_31
        refine st_f (by decide) ?_
        unfold fX12_counts_57
        refine st_t rfl ?_
        by_cases hi4 : i < 4
        · refine st_f (nI_ge hi4 (by first | omega | (dsimp only; omega))) ?_
          simp only [LXm, nI_nat (show i < 2147483648 by omega), if_pos hi4]
          rw [e]
          refine st_k rfl (by first | omega | (dsimp only; omega)) (by first | omega | (dsimp only; omega)) ?_
          rcases hk i hi4 with ⟨q1, q2, q3⟩ | ⟨q1, q, q2, q3, q4⟩
          · rw [q1]; exact st_t (by rw [q3]; decide) rfl
          · rw [q1]; exact st_f (by rw [q4]; exact nI_pos (by first | omega | (dsimp only; omega))) rfl
        · simp only [if_neg hi4]
          exact st_t (nI_le (by first | omega | (dsimp only; omega)) (by first | omega | (dsimp only; omega))) rfl
      · refine st_f (by decide) (st_f (by decide) (st_f (by decide) (st_f (by decide) (st_f (by decide) ?_))))
        rw [hsum]
theorem ok_42 {N : Nat} (hN : 100000 ≤ N) : OK_42 N Rel := by
  intro a1 mm h
  rcases rng a1 8 with ⟨w, hw, -, rfl⟩ | hb
  · obtain ⟨v, c1, c2⟩ := count_e hN h hw
    refine ⟨v, mm, mm, c1, ?_, h⟩
    unfold fX12_count
    exact st_b (in_n (n := 8) rfl hw (by first | omega | (dsimp only; omega))) (st_f (by decide) (st_b (c2 mm (fun _ _ => rfl)) rfl))
  · refine ⟨-1, mm, mm, ?_, ?_, h⟩
    · unfold fX11_count
      have : ∀ q, q < 8 → a1 ≠ nI q := by
        intro q hq e
        subst e
        rcases hb with hb | ⟨j, h1, h2, e⟩
        · exact absurd hb (nI_pos (by first | omega | (dsimp only; omega)))
        · have := nI_inj e (by first | omega | (dsimp only; omega)) h2; omega
      exact st_f (this 0 (by first | omega | (dsimp only; omega))) (st_f (this 1 (by first | omega | (dsimp only; omega))) (st_f (this 2 (by first | omega | (dsimp only; omega))) (st_f (this 3 (by first | omega | (dsimp only; omega))) (st_f (this 4 (by first | omega | (dsimp only; omega))) (st_f (this 5 (by first | omega | (dsimp only; omega))) (st_f (this 6 (by first | omega | (dsimp only; omega))) (st_f (this 7 (by first | omega | (dsimp only; omega))) rfl)))))))
    · unfold fX12_count
      exact st_b (in_o (n := 8) rfl hb (by first | omega | (dsimp only; omega))) (st_t rfl rfl)
