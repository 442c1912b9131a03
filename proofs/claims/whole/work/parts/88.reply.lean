/-! pure: reply -/
theorem bt_6 : ∀ M, M < 64 → ∀ o, o < 6 → (nI M >>> (nI o &&& 31)) &&& 1 = nI (M / 2 ^ o % 2) := by decide +kernel
theorem first_6 {M : Nat} (h : M < 64) (h0 : M ≠ 0) : ∃ o, o < 6 ∧ M / 2 ^ o % 2 = 1 ∧ ∀ j, j < o → M / 2 ^ j % 2 = 0 := by
  have e1 : (2 : Nat) ^ 0 = 1 := rfl
  have e2 : (2 : Nat) ^ 1 = 2 := rfl
  have e3 : (2 : Nat) ^ 2 = 4 := rfl
  have e4 : (2 : Nat) ^ 3 = 8 := rfl
  have e5 : (2 : Nat) ^ 4 = 16 := rfl
  have e6 : (2 : Nat) ^ 5 = 32 := rfl
  by_cases b0 : M / 1 % 2 = 1
  · exact ⟨0, by omega, by rw [e1]; exact b0, fun j hj => by omega⟩
  by_cases b1 : M / 2 % 2 = 1
  · refine ⟨1, by omega, by rw [e2]; exact b1, fun j hj => ?_⟩
    obtain rfl : j = 0 := by omega
    rw [e1]; omega
  by_cases b2 : M / 4 % 2 = 1
  · refine ⟨2, by omega, by rw [e3]; exact b2, fun j hj => ?_⟩
    rcases (by omega : j = 0 ∨ j = 1) with rfl | rfl
    · rw [e1]; omega
    · rw [e2]; omega
  by_cases b3 : M / 8 % 2 = 1
  · refine ⟨3, by omega, by rw [e4]; exact b3, fun j hj => ?_⟩
    rcases (by omega : j = 0 ∨ j = 1 ∨ j = 2) with rfl | rfl | rfl
    · rw [e1]; omega
    · rw [e2]; omega
    · rw [e3]; omega
  by_cases b4 : M / 16 % 2 = 1
  · refine ⟨4, by omega, by rw [e5]; exact b4, fun j hj => ?_⟩
    rcases (by omega : j = 0 ∨ j = 1 ∨ j = 2 ∨ j = 3) with rfl | rfl | rfl | rfl
    · rw [e1]; omega
    · rw [e2]; omega
    · rw [e3]; omega
    · rw [e4]; omega
  · refine ⟨5, by omega, by rw [e6]; omega, fun j hj => ?_⟩
    rcases (by omega : j = 0 ∨ j = 1 ∨ j = 2 ∨ j = 3 ∨ j = 4) with rfl | rfl | rfl | rfl | rfl
    · rw [e1]; omega
    · rw [e2]; omega
    · rw [e3]; omega
    · rw [e4]; omega
    · rw [e5]; omega
theorem cfirst_l {N M o : Nat} {mm : Mm} (hM : M < 64) (ho : o < 6) (h1 : M / 2 ^ o % 2 = 1) (h2 : ∀ j, j < o → M / 2 ^ j % 2 = 0) : ∀ c i, i + c = o → ∀ f, c < f → fX2_firstOf_2 N f (nI M) (nI i) mm = some (nI o, mm) := by
  intro c
  induction c with
  | zero =>
    intro i hi f hf
    obtain ⟨f, rfl⟩ : ∃ g, f = g + 1 := ⟨f - 1, by omega⟩
    obtain rfl : i = o := by omega
    unfold fX2_firstOf_2
    by_cases h5 : 5 ≤ i
    · exact st_t (nI_le h5 (by first | omega | (dsimp only; omega))) rfl
    · refine st_f (nI_ge (by first | omega | (dsimp only; omega)) (by first | omega | (dsimp only; omega))) (st_f ?_ rfl)
      rw [bt_6 M hM i ho, h1]; decide
  | succ c ih =>
    intro i hi f hf
    obtain ⟨f, rfl⟩ : ∃ g, f = g + 1 := ⟨f - 1, by omega⟩
    unfold fX2_firstOf_2
    refine st_f (nI_ge (by first | omega | (dsimp only; omega)) (by first | omega | (dsimp only; omega))) (st_t ?_ ?_)
    · rw [bt_6 M hM i (by first | omega | (dsimp only; omega)), h2 i (by first | omega | (dsimp only; omega))]; rfl
    · rw [nI_1]; exact ih (i + 1) (by first | omega | (dsimp only; omega)) f (by first | omega | (dsimp only; omega))
theorem mfirst_l2 {N M o : Nat} {a1 : Int32} {mm : Mm} {R : Option (Int32 × Mm)} (hM : M < 64) (ho : o < 6) (h1 : M / 2 ^ o % 2 = 1) (h2 : ∀ j, j < o → M / 2 ^ j % 2 = 0) (hR : (bd2 (fX12_layRule N 175 (nI o) (rd mm 175 37) mm) fun x2 m3 => gd (inb 0 (ln (fr 175 12))) <| bd2 (fX12_setBest N 175 (rd m3 (fr 175 12) ((0 : Int32).toNatClampNeg)) m3) fun x6 m7 => bd2 (fX12_layBest N 175 a1 m7) fun x9 m10 => bd2 (fX12_ask N 175 (nI o) (rd m10 175 24) m10) fun x12 m13 => some (x12, m13)) = R) : ∀ c i, i + c = o → ∀ f, c < f → fX12_reply_36 N f 175 a1 (nI M) (nI i) mm = R := by
  intro c
  induction c with
  | zero =>
    intro i hi f hf
    obtain ⟨f, rfl⟩ : ∃ g, f = g + 1 := ⟨f - 1, by omega⟩
    obtain rfl : i = o := by omega
    unfold fX12_reply_36
    refine st_f ?_ hR
    rw [bt_6 M hM i ho, h1]; decide
  | succ c ih =>
    intro i hi f hf
    obtain ⟨f, rfl⟩ : ∃ g, f = g + 1 := ⟨f - 1, by omega⟩
    unfold fX12_reply_36
    refine st_t ?_ ?_
    · rw [bt_6 M hM i (by first | omega | (dsimp only; omega)), h2 i (by first | omega | (dsimp only; omega))]; rfl
    · rw [nI_1]; exact ih (i + 1) (by first | omega | (dsimp only; omega)) f (by first | omega | (dsimp only; omega))
theorem ok_35 {N : Nat} (hN : 100000 ≤ N) : OK_35 N Rel := by
  intro a1 mm h
  obtain ⟨n, K, W, F, d, s, t, C, M, hd, hd', hd9, hs, hs', hs40, ht, ht', ht40⟩ := Rel_data h
  have hn := C.2.1
  obtain ⟨en, Y, Z, T⟩ := Rel_notes h C.1 hn
  rcases rng a1 6 with ⟨r, hr, -, rfl⟩ | hb
  rotate_left
  · refine ⟨-1, mm, mm, ?_, ?_, h⟩
    · unfold fX11_reply
      exact st_b (rowOf_n hb) (st_c0 rfl)
    · unfold fX12_reply
      exact st_b (isRow_n hb) (st_t rfl rfl)
  by_cases h0 : n = 0
  · subst h0
    refine ⟨-3, cRef 4 mm, mMeet 4 (cRef 4 mm), ?_, ?_, rel_ref h (f := 4) (by first | omega | (dsimp only; omega))⟩
    · unfold fX11_reply
      exact st_b (rowOf_t hr) (st_c (st_t C.1 (st_b (c_ref 4 rfl (by first | omega | (dsimp only; omega))) rfl)))
    · unfold fX12_reply
      exact st_b (isRow_t hr) (st_f (by decide) (st_t (by rw [rd_cRef (by first | omega | (dsimp only; omega)) (by first | omega | (dsimp only; omega))]; exact M.1) (st_b (m_meet 4 rfl (by first | omega | (dsimp only; omega))) rfl)))
  have hA7 := h.2.2.2.2.1
  have hask := h.2.2.2.1.2.2.1
  obtain ⟨m1, c1, f1, g1⟩ := cfit_e (N := N) hN (by first | omega | (dsimp only; omega)) hd9 ht40 ⟨C, hd, ht, T⟩ hA7.2.2.2.1
  have hMk : mkN (fitB K W F n d t en Y Z) 6 < 64 := mkN_64
  -- the model's fitting over any such memory
  have mfit : ∀ mq, (∀ k j, 175 ≤ k → rd mq k j = rd mm k j) → NTs mq n en Y Z → ∃ m', fX12_fitting N 175 mq = some (nI (mkN (fitB K W F n d t en Y Z) 6), m') ∧ Fr (fun k _ => 185 ≤ k ∧ k ≤ 187) mq m' := fun mq e Tq =>
    mfit_e hN (by first | omega | (dsimp only; omega)) hd9 ht40 ⟨MS_c M (fun k j q => e _ _ (by first | omega | (dsimp only; omega))), by rw [e _ _ (by first | omega | (dsimp only; omega))]; exact hd', by rw [e _ _ (by first | omega | (dsimp only; omega))]; exact ht', Tq⟩
  generalize mkN (fitB K W F n d t en Y Z) 6 = Mk at c1 hMk mfit
  by_cases hM0 : Mk = 0
  · obtain ⟨m2, c2, f2⟩ := mfit m1 (fun k j hk => f1.2 _ _ (by first | omega | (dsimp only; omega))) (T.c (fun k j e => f1.2 _ _ (by first | omega | (dsimp only; omega))))
    refine ⟨-9, m1, m2, ?_, ?_, ?_⟩
    · unfold fX11_reply
      refine st_b (rowOf_t hr) (st_c (st_f (by simp only [LXa]; rw [C.1]; exact nI_ne0 (by first | omega | (dsimp only; omega)) (by first | omega | (dsimp only; omega))) ?_))
      simp only [LXa]
      exact st_b c1 (st_t (by rw [hM0]; rfl) rfl)
    · unfold fX12_reply
      exact st_b (isRow_t hr) (st_f (by decide) (st_f (by rw [f1.2 _ _ (by first | omega | (dsimp only; omega)), M.1]; exact nI_ne0 (by first | omega | (dsimp only; omega)) (by first | omega | (dsimp only; omega))) (st_b c2 (st_t (by rw [hM0]; rfl) rfl))))
    · refine Rel_row (r := 6) h ((f1.mono (fun k j e => Or.inl ?_)).tr (f2.mono (fun k j e => Or.inr (Or.inl ?_)))) ?_ ?_ (fun q => by omega)
      · unfold ScC; omega
      · unfold ScM; omega
      · obtain ⟨q1, q2, q3, q4, q5⟩ := hA7
        refine ⟨?_, ?_, ?_, ?_, fun w hw => ?_⟩
        · rw [f2.2 _ _ (by first | omega | (dsimp only; omega)), f1.2 _ _ (by first | omega | (dsimp only; omega))]; exact q1
        · rw [f2.2 _ _ (by first | omega | (dsimp only; omega)), f1.2 _ _ (by first | omega | (dsimp only; omega))]; exact q2
        · rw [f2.2 _ _ (by first | omega | (dsimp only; omega)), f1.2 _ _ (by first | omega | (dsimp only; omega))]; exact q3
        · rw [f2.2 _ _ (by first | omega | (dsimp only; omega))]; exact g1
        · rw [f2.2 _ _ (by first | omega | (dsimp only; omega)), f1.2 _ _ (by first | omega | (dsimp only; omega))]; exact q5 w hw
      · rw [f2.2 _ _ (by first | omega | (dsimp only; omega)), f1.2 _ _ (by first | omega | (dsimp only; omega)), f2.2 _ _ (by first | omega | (dsimp only; omega)), f1.2 _ _ (by first | omega | (dsimp only; omega))]; exact hask
  obtain ⟨o, ho, ho1, ho2⟩ := first_6 hMk hM0
  have hW : 0 < smN W n := wsum_pos (by first | omega | (dsimp only; omega)) (fun i hi => (C.2.2 i hi).2.2.1)
  have C1 : CS m1 n K W F := CS_c C (fun k j e => f1.2 _ _ (by first | omega | (dsimp only; omega)))
  have T1 : NTs m1 n en Y Z := T.c (fun k j e => f1.2 _ _ (by first | omega | (dsimp only; omega)))
  obtain ⟨m2, c2, f2, g2⟩ := layBy_e (N := N) (o := o) hN (by first | omega | (dsimp only; omega)) ho C1 (by rw [f1.2 _ _ (by first | omega | (dsimp only; omega))]; exact ht) ht40 T1.2.1 T1.1 (Nat.le_refl en) (T1.yc (Nat.le_refl en)).1
  generalize hx : rlN W n t o (yN Y en) = x at g2
  have hx40 : ∀ i, i < n → x i ≤ 40 := fun i hi => by rw [← hx]; have := rl_b (W := W) (t := t) (o := o) (y := yN Y en) (by first | omega | (dsimp only; omega)) hW hi; omega
  have hx3 : ∀ i, i < n → x i ≤ 1000 := fun i hi => by have := hx40 i hi; omega
  have g2' : HA m2 56 n x := fun j hj => by rw [g2 j (by first | omega | (dsimp only; omega)), if_pos hj]
  have C2 : CS m2 n K W F := CS_c C1 (fun k j e => f2.2 _ _ (by first | omega | (dsimp only; omega)))
  obtain ⟨m3, c3, f3, q3⟩ := run_e (N := N) (d := d) (q := 56) (Q := 6) (most := s) hN hd9 (by first | omega | (dsimp only; omega)) rfl ⟨Nat.le_refl _, by decide⟩ (Or.inr (by decide)) hx3 C2 g2'
  obtain ⟨y, y1, y2, y3⟩ := bst_e (n := n) _ (lvs_ne (K := K) (W := W) (F := F) (d := d) (s := 0) (L := s) (z := x) n 0 (fun _ => 0) (fun _ => 0) 0 0 (by first | omega | (dsimp only; omega)))
  obtain ⟨-, -, q4, -⟩ := q3
  obtain ⟨b1, b2, b3, b4, b5, b6⟩ := q4 y y1
  obtain ⟨m4, c4, f4, g4, g4'⟩ := take_e (N := N) (p := 36) hr rfl hn (by first | omega | (dsimp only; omega)) b3
  -- the model
  have F4 : Fr (fun k j => (35 ≤ k ∧ k ≤ 39) ∨ (56 ≤ k ∧ k ≤ 60) ∨ (k = 95 + 2 * r ∧ j = 1) ∨ k = 96 + 2 * r) mm m4 := (f1.mono (fun k j e => Or.inr (Or.inl e))).tr ((f2.mono (fun k j e => by omega)).tr ((f3.mono (fun k j e => Or.inl e)).tr (f4.mono (fun k j e => Or.inr (Or.inr e)))))
  have hA : ∀ k j, 175 ≤ k → rd (wr m4 0 14 (nI o)) k j = rd mm k j := fun k j hk => by rw [rd_wr_k (by first | omega | (dsimp only; omega)), F4.2 _ _ (by first | omega | (dsimp only; omega))]
  obtain ⟨m5, c5, f5⟩ := mfit (wr m4 0 14 (nI o)) hA (T.c (fun k j e => by rw [rd_wr_k (by first | omega | (dsimp only; omega)), F4.2 _ _ (by first | omega | (dsimp only; omega))]))
  have hA5 : ∀ k j, 175 ≤ k → ¬ (185 ≤ k ∧ k ≤ 187) → rd m5 k j = rd mm k j := fun k j hk hn => by rw [f5.2 _ _ hn]; exact hA k j hk
  have M5 : MS m5 n K W F := MS_c M (fun k j e => hA5 _ _ (by first | omega | (dsimp only; omega)) (by first | omega | (dsimp only; omega)))
  have T5 : NTs m5 n en Y Z := T.c (fun k j e => by rw [f5.2 _ _ (by first | omega | (dsimp only; omega)), rd_wr_k (by first | omega | (dsimp only; omega)), F4.2 _ _ (by first | omega | (dsimp only; omega))])
  obtain ⟨m6, c6, f6, g6⟩ := layRule_e (N := N) (o := o) (k := en) hN (by first | omega | (dsimp only; omega)) ho M5 (by rw [hA5 _ _ (by first | omega | (dsimp only; omega)) (by first | omega | (dsimp only; omega))]; exact ht') ht40 (T5.yc (Nat.le_refl en)).2
  rw [hx] at g6
  have M6 : MS m6 n K W F := MS_c M5 (fun k j e => f6.2 _ _ (by first | omega | (dsimp only; omega)))
  obtain ⟨m7, c7, f7, q7, -⟩ := setBest_e (N := N) (d := d) (L := s) (z := x) hN hd9 (by first | omega | (dsimp only; omega)) hx3 M6 (by rw [f6.2 _ _ (by first | omega | (dsimp only; omega)), hA5 _ _ (by first | omega | (dsimp only; omega)) (by first | omega | (dsimp only; omega))]; exact hd') g6
  obtain ⟨e1, e2, e3, -⟩ := q7 y y1
  have M7 : MS m7 n K W F := MS_c M6 (fun k j e => f7.2 _ _ (by first | omega | (dsimp only; omega)))
  obtain ⟨m8, c8, f8, g8, g8'⟩ := layB_e (N := N) (r := r) hN hr M7 e3
  refine ⟨nI y.1, wr m4 0 14 (nI o), wr m8 175 2 (nI o), ?_, ?_, ?_⟩
  · unfold fX11_reply
    refine st_b (rowOf_t hr) (st_c (st_f (by simp only [LXa]; rw [C.1]; exact nI_ne0 (by first | omega | (dsimp only; omega)) (by first | omega | (dsimp only; omega))) ?_))
    simp only [LXa]
    refine st_b c1 (st_f (nw_ne (v := 0) hM0 (by first | omega | (dsimp only; omega)) (by first | omega | (dsimp only; omega))) (st_b (cfirst_l (N := N) hMk ho ho1 ho2 o 0 (by first | omega | (dsimp only; omega)) N (by first | omega | (dsimp only; omega))) ?_))
    rw [T1.2.1]
    refine st_b c2 (st_g (by decide) ?_)
    simp only [LXg]
    rw [show ((0 : Int32).toNatClampNeg) = 0 from rfl, f2.2 3 6 (by first | omega | (dsimp only; omega)), f1.2 3 6 (by first | omega | (dsimp only; omega)), hd, f2.2 5 0 (by first | omega | (dsimp only; omega)), f1.2 5 0 (by first | omega | (dsimp only; omega)), hs]
    refine st_b c3 ?_
    simp only [LXb]
    rw [f3.2 3 5 (by first | omega | (dsimp only; omega)), C2.1]
    refine st_b c4 (st_n ?_)
    rw [rd_wr_k (by first | omega | (dsimp only; omega)), f4.2 35 1 (by first | omega | (dsimp only; omega)), b1]
  · unfold fX12_reply
    refine st_b (isRow_t hr) (st_f (by decide) (st_f (by rw [hA _ _ (by first | omega | (dsimp only; omega)), M.1]; exact nI_ne0 (by first | omega | (dsimp only; omega)) (by first | omega | (dsimp only; omega))) (st_b c5 (st_f (nw_ne (v := 0) hM0 (by first | omega | (dsimp only; omega)) (by first | omega | (dsimp only; omega))) ?_))))
    refine mfirst_l2 hMk ho ho1 ho2 ?_ o 0 (by first | omega | (dsimp only; omega)) N (by first | omega | (dsimp only; omega))
    rw [T5.2.2.1]
    refine st_b c6 ?_
    simp only [LXm]
    refine st_g (by decide) ?_
    rw [show ((0 : Int32).toNatClampNeg) = 0 from rfl, f6.2 183 0 (by first | omega | (dsimp only; omega)), hA5 183 0 (by first | omega | (dsimp only; omega)) (by first | omega | (dsimp only; omega)), hs']
    refine st_b c7 (st_b c8 ?_)
    rw [f8.2 175 24 (by first | omega | (dsimp only; omega)), e1]
    rfl
  · have FA : Fr (ScA r) mm (wr m8 175 2 (nI o)) := by
      refine (fr_wr (F4.mono (T := ScA r) (fun k j e => ?_)) (Or.inr (Or.inr (Or.inl (Or.inl ⟨rfl, rfl⟩))))).tr (fr_wr ((f5.mono (T := ScA r) (fun k j e => Or.inr (Or.inl ?_))).tr ((f6.mono (fun k j e => Or.inr (Or.inl ?_))).tr ((f7.mono (fun k j e => Or.inr (Or.inl ?_))).tr (f8.mono (fun k j e => Or.inr (Or.inr (Or.inr ?_))))))) (Or.inr (Or.inr (Or.inl (Or.inr ⟨rfl, rfl⟩)))))
      · by_cases hk : k ≤ 93
        · exact Or.inl (by unfold ScC; omega)
        · exact Or.inr (Or.inr (Or.inr (by unfold RwC; omega)))
      · unfold ScM; omega
      · unfold ScM; omega
      · unfold ScM; omega
      · unfold RwC; omega
    have e8 : ∀ k j, k < 175 → rd (wr m8 175 2 (nI o)) k j = rd (wr m4 0 14 (nI o)) k j := fun k j hk => by rw [rd_wr_k (by first | omega | (dsimp only; omega)), f8.2 _ _ (by first | omega | (dsimp only; omega)), f7.2 _ _ (by first | omega | (dsimp only; omega)), f6.2 _ _ (by first | omega | (dsimp only; omega)), f5.2 _ _ (by first | omega | (dsimp only; omega))]
    refine Rel_row (r := r) h FA ?_ ?_ (fun _ => Or.inr ⟨n, by omega, by rw [e8 _ _ (by first | omega | (dsimp only; omega)), rd_wr_k (by first | omega | (dsimp only; omega))]; exact g4, by rw [rd_wr_k (by first | omega | (dsimp only; omega))]; exact g8, fun i hi => ⟨?_, trivial⟩⟩)
    · obtain ⟨q1, q2, q3, q4, q5⟩ := hA7
      refine ⟨?_, ?_, ?_, ?_, fun w hw => ?_⟩
      · rw [e8 _ _ (by first | omega | (dsimp only; omega)), rd_wr_k (by first | omega | (dsimp only; omega)), F4.2 _ _ (by first | omega | (dsimp only; omega))]; exact q1
      · rw [e8 _ _ (by first | omega | (dsimp only; omega)), rd_wr_k (by first | omega | (dsimp only; omega)), F4.2 _ _ (by first | omega | (dsimp only; omega))]; exact q2
      · rw [e8 _ _ (by first | omega | (dsimp only; omega)), rd_wr_k (by first | omega | (dsimp only; omega)), F4.2 _ _ (by first | omega | (dsimp only; omega))]; exact q3
      · rw [e8 _ _ (by first | omega | (dsimp only; omega)), rd_wr_k (by first | omega | (dsimp only; omega)), f4.2 _ _ (by first | omega | (dsimp only; omega)), f3.2 _ _ (by first | omega | (dsimp only; omega)), f2.2 _ _ (by first | omega | (dsimp only; omega))]; exact g1
      · rw [e8 _ _ (by first | omega | (dsimp only; omega)), rd_wr_k (by first | omega | (dsimp only; omega)), F4.2 _ _ (by first | omega | (dsimp only; omega))]; exact q5 w hw
    · rw [e8 0 14 (by first | omega | (dsimp only; omega)), rd_wr_s, rd_wr_s]
    · dsimp only
      rw [e8 _ _ (by first | omega | (dsimp only; omega)), rd_wr_k (by first | omega | (dsimp only; omega)), g4' i hi, rd_wr_k (by first | omega | (dsimp only; omega)), g8' i hi]
