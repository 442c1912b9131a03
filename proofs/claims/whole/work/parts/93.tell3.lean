/-! pure: tell -/
theorem ok_36 {N : Nat} (hN : 100000 ≤ N) : OK_36 N Rel := by
  intro a1 mm h
  obtain ⟨n, K, W, F, d, s, t, C, M, hd, hd', hd9, hs, hs', hs40, ht, ht', ht40⟩ := Rel_data h
  have hn := C.2.1
  obtain ⟨en, Y, Z, T⟩ := Rel_notes h C.1 hn
  rcases rng a1 6 with ⟨q, hq, -, rfl⟩ | hb
  rotate_left
  · refine ⟨-1, mm, mm, ?_, ?_, h⟩
    · unfold fX11_tell
      exact st_b (rowOf_n hb) (st_c0 rfl)
    · unfold fX12_tell
      exact st_b (isRow_n hb) (st_t rfl rfl)
  by_cases hsp : s ≤ 10 ∧ n ≤ 4
  rotate_left
  · refine ⟨-6, mm, mm, ?_, ?_, h⟩
    · have htm : fX11_isTooMuch N 0 0 mm = some (1, mm) := tooMuch_t (t := t) (a := 0) (by first | omega | (dsimp only; omega)) hs hs40 C.1 hn hsp
      unfold fX11_tell
      exact st_b (rowOf_t hq) (st_c (st_b htm (st_f (by decide) rfl)))
    · unfold fX12_tell
      simp only [LXm]
      refine st_b (isRow_t hq) (st_f (by decide) (st_g (by decide) ?_))
      rw [show ((0 : Int32).toNatClampNeg) = 0 from rfl, hs', M.1]
      by_cases h10 : s ≤ 10
      · exact st_f (nI_nlt (by first | omega | (dsimp only; omega)) (by first | omega | (dsimp only; omega))) (st_f (nI_ge (by first | omega | (dsimp only; omega)) (by first | omega | (dsimp only; omega))) rfl)
      · exact st_t (nI_lt (by first | omega | (dsimp only; omega)) (by first | omega | (dsimp only; omega))) rfl
  obtain ⟨h10, h4⟩ := hsp
  have htm : fX11_isTooMuch N 0 0 mm = some (0, mm) := tooMuch_f (a := 0) (by first | omega | (dsimp only; omega)) hs C.1 ⟨h10, h4⟩
  by_cases h0 : n = 0
  · subst h0
    refine ⟨-3, cRef 4 mm, mMeet 4 (cRef 4 mm), ?_, ?_, rel_ref h (f := 4) (by first | omega | (dsimp only; omega))⟩
    · unfold fX11_tell
      exact st_b (rowOf_t hq) (st_c (st_b htm (st_t rfl (st_t C.1 (st_b (c_ref 4 rfl (by first | omega | (dsimp only; omega))) rfl)))))
    · unfold fX12_tell
      simp only [LXm]
      refine st_b (isRow_t hq) (st_f (by decide) (st_g (by decide) ?_))
      rw [show ((0 : Int32).toNatClampNeg) = 0 from rfl]
      exact st_f (by rw [rd_cRef (by first | omega | (dsimp only; omega)) (by first | omega | (dsimp only; omega)), hs']; exact nI_nlt (by first | omega | (dsimp only; omega)) (by first | omega | (dsimp only; omega))) (st_t (by rw [rd_cRef (by first | omega | (dsimp only; omega)) (by first | omega | (dsimp only; omega)), M.1]; decide) (st_t (by rw [rd_cRef (by first | omega | (dsimp only; omega)) (by first | omega | (dsimp only; omega))]; exact M.1) (st_b (m_meet 4 rfl (by first | omega | (dsimp only; omega))) rfl)))
  have hA7 := h.2.2.2.2.1
  have hW : 0 < smN W n := wsum_pos (by first | omega | (dsimp only; omega)) (fun i hi => (C.2.2 i hi).2.2.1)
  have GC0 : GC mm n d t en K W F Y Z := ⟨C, hd, ht, T⟩
  obtain ⟨m1, c1, f1, g1⟩ := cfit_e (N := N) hN (by first | omega | (dsimp only; omega)) hd9 ht40 GC0 hA7.2.2.2.1
  obtain ⟨m2, c2, f2, g2, g2'⟩ := cprepG_e (N := N) (M := mkN (fitB K W F n d t en Y Z) 6) (mm := m1) hN (by first | omega | (dsimp only; omega)) ht40 (GC0.c (fun k j e => f1.2 _ _ (by first | omega | (dsimp only; omega))))
  have hMk : mkN (fitB K W F n d t en Y Z) 6 < 64 := mkN_64
  have hR3 : ∀ q, q < 6 → ∀ j, j < n → rlN W n t q (yN Y en) j ≤ 1000 := fun q _ j hj => by have := rl_b (W := W) (t := t) (o := q) (y := yN Y en) (by first | omega | (dsimp only; omega)) hW hj; omega
  obtain ⟨m3, b1, b2, b3, b4, b5⟩ := cbegin_e (N := N) (mm := m2) hN hn hs40
  have F3 : Fr (fun k j => (k = 33 ∨ k = 34) ∨ (k = 55 ∧ j = 5) ∨ (56 ≤ k ∧ k ≤ 67)) mm m3 := (f1.mono (fun k j e => by omega)).tr ((f2.mono (fun k j e => by omega)).tr (b2.mono (fun k j e => Or.inl e)))
  have hz0 := smN_0 n
  have hrk : rkN n s (fun _ => 0) ≤ 18564 := by
    have h1 := rk_cnt (l := fun _ => 0) n 0 s
    have h2 := cnt_12 hn (show s ≤ 12 by omega)
    unfold rkN; omega
  have Q3 : TQ m3 n d (mkN (fitB K W F n d t en Y Z) 6) K W F (fun o => rlN W n t o (yN Y en)) := ⟨CS_c C (fun k j e => F3.2 _ _ (by first | omega | (dsimp only; omega))), by rw [F3.2 _ _ (by first | omega | (dsimp only; omega))]; exact hd, by rw [b2.2 _ _ (by first | omega | (dsimp only; omega))]; exact g2, fun o ho j hj => by rw [b2.2 _ _ (by first | omega | (dsimp only; omega)), g2' o ho j (by first | omega | (dsimp only; omega)), if_pos hj]⟩
  have S3 : SWa m3 d (mkN (fitB K W F n d t en Y Z) 6) K W F (fun o => rlN W n t o (yN Y en)) (fun _ => 0) 0 := by
    have z : ∀ o, o < 6 → rd m3 (73 + 4 * o) 0 = 0 := fun o ho => by rw [F3.2 _ _ (by first | omega | (dsimp only; omega))]; exact hA7.2.2.2.2 o ho
    exact ⟨fun o ho _ => SW_0 (by rw [show 70 + 4 * o + 3 = 73 + 4 * o by omega]; exact z o ho), z⟩
  obtain ⟨m4, c4, f4, z4, g4⟩ := ctell_l (N := N) (S := s) (q := q) hN hd9 hMk hs40 hq hR3 18564 (fun _ => 0) 0 0 none m3 N hrk (by first | omega | (dsimp only; omega)) (by first | omega | (dsimp only; omega)) (by first | omega | (dsimp only; omega)) (by first | omega | (dsimp only; omega)) Q3 S3 b3 b4 (by rw [hz0]; exact b5) (fun p hp => by cases hp)
  have hmt := fun mb Qb h2 h3 => mtell_l (N := N) (n := n) (K := K) (W := W) (F := F) (d := d) (M := mkN (fitB K W F n d t en Y Z) 6) (R := fun o => rlN W n t o (yN Y en)) (S := s) (q := q) hN hd9 hMk hs40 hq hR3 18564 (fun _ => 0) none mb N hrk (by first | omega | (dsimp only; omega)) (by first | omega | (dsimp only; omega)) Qb h2 h3 (fun p hp => by cases hp)
  obtain ⟨p, hp⟩ := sf_some (su := suN K F n d (mkN (fitB K W F n d t en Y Z) 6) (fun o => rlN W n t o (yN Y en))) (enm n s 18564 (fun _ => 0)) none (Or.inr enm_ne)
  rw [hp] at c4 g4 hmt
  obtain ⟨u1, u2, u3⟩ := g4 p rfl
  have F4 : Fr (fun k j => (k = 33 ∨ k = 34) ∨ (k = 55 ∧ j = 5) ∨ (56 ≤ k ∧ k ≤ 93) ∨ (k = 95 + 2 * q ∧ j = 1) ∨ k = 96 + 2 * q) mm m4 := (F3.mono (fun k j e => by omega)).tr (f4.mono (fun k j e => by omega))
  have GM4 : GM m4 n d t en K W F Y Z := ⟨MS_c M (fun k j e => F4.2 _ _ (by first | omega | (dsimp only; omega))), by rw [F4.2 _ _ (by first | omega | (dsimp only; omega))]; exact hd', by rw [F4.2 _ _ (by first | omega | (dsimp only; omega))]; exact ht', T.c (fun k j e => F4.2 _ _ (by first | omega | (dsimp only; omega)))⟩
  obtain ⟨m5, c5, f5⟩ := mfit_e (N := N) hN (by first | omega | (dsimp only; omega)) hd9 ht40 GM4
  have GM5 : GM m5 n d t en K W F Y Z := GM4.c (fun k j e => f5.2 _ _ (by first | omega | (dsimp only; omega)))
  obtain ⟨m6, c6, f6, g6⟩ := msr_l (N := N) hN (by first | omega | (dsimp only; omega)) ht40 6 0 m5 (by first | omega | (dsimp only; omega)) GM5 N (by first | omega | (dsimp only; omega))
  obtain ⟨m7, c7, f7, g7⟩ := mfirst_e (N := N) (n := n) (mm := m6) hN hn
  have hm7 : ∀ k j, k ≤ 184 ∨ k = 192 ∨ k = 193 ∨ k = 196 → rd m7 k j = rd m4 k j := fun k j hk => by rw [f7.2 _ _ (by first | omega | (dsimp only; omega)), f6.2 _ _ (by first | omega | (dsimp only; omega)), f5.2 _ _ (by first | omega | (dsimp only; omega))]
  obtain ⟨m8, c8, f8, g8⟩ := hmt m7 ⟨MS_c GM4.1 (fun k j e => hm7 _ _ (by first | omega | (dsimp only; omega))), by rw [hm7 _ _ (by first | omega | (dsimp only; omega))]; exact GM4.2.1, fun o ho j hj => by rw [f7.2 _ _ (by first | omega | (dsimp only; omega))]; exact g6 o (by first | omega | (dsimp only; omega)) ho j hj⟩ (by rw [hm7 _ _ (by first | omega | (dsimp only; omega)), F4.2 _ _ (by first | omega | (dsimp only; omega))]; exact hs') g7
  obtain ⟨v1, v2⟩ := g8 p rfl
  refine ⟨nI p.1, m4, m8, ?_, ?_, ?_⟩
  · unfold fX11_tell
    refine st_b (rowOf_t hq) (st_c (st_b htm (st_t rfl (st_f (by simp only [LXa]; rw [C.1]; exact nI_ne0 (by first | omega | (dsimp only; omega)) (by first | omega | (dsimp only; omega))) ?_))))
    simp only [LXa]
    refine st_b c1 (st_b c2 (st_g (by decide) ?_))
    rw [show ((0 : Int32).toNatClampNeg) = 0 from rfl, f2.2 5 0 (by first | omega | (dsimp only; omega)), f1.2 5 0 (by first | omega | (dsimp only; omega)), hs, f2.2 3 5 (by first | omega | (dsimp only; omega)), f1.2 3 5 (by first | omega | (dsimp only; omega)), C.1]
    exact st_b b1 c4
  · unfold fX12_tell
    simp only [LXm]
    refine st_b (isRow_t hq) (st_f (by decide) (st_g (by decide) ?_))
    rw [show ((0 : Int32).toNatClampNeg) = 0 from rfl]
    have c6' : fX12_setRuled N 175 m5 = some ((), m6) := c6
    exact st_f (by rw [F4.2 _ _ (by first | omega | (dsimp only; omega)), hs']; exact nI_nlt (by first | omega | (dsimp only; omega)) (by first | omega | (dsimp only; omega))) (st_t (by rw [GM4.1.1]; exact nI_le (by first | omega | (dsimp only; omega)) (by first | omega | (dsimp only; omega))) (st_f (by rw [GM4.1.1]; exact nI_ne0 (by first | omega | (dsimp only; omega)) (by first | omega | (dsimp only; omega))) (st_b c5 (st_b c6' (st_b c7 c8)))))
  · have F8 : Fr (fun k j => (185 ≤ k ∧ k ≤ 190) ∨ k = 194 ∨ k = 195 ∨ (k = 177 ∧ j = q) ∨ (k = 178 ∧ 40 * q ≤ j ∧ j < 40 * q + 40)) m4 m8 := (f5.mono (fun k j e => by omega)).tr ((f6.mono (fun k j e => by omega)).tr ((f7.mono (fun k j e => by omega)).tr (f8.mono (fun k j e => by omega))))
    refine Rel_row (r := q) h ((F4.mono (T := ScA q) (fun k j e => ?_)).tr (F8.mono (T := ScA q) (fun k j e => ?_))) ?_ ?_ (fun _ => Or.inr ⟨n, by omega, ?_, v1, fun i hi => ⟨?_, trivial⟩⟩)
    · by_cases hk : k ≤ 93
      · exact Or.inl (by unfold ScC; omega)
      · exact Or.inr (Or.inr (Or.inr (by unfold RwC; omega)))
    · by_cases hk : k = 177 ∨ k = 178
      · exact Or.inr (Or.inr (Or.inr (by unfold RwC; omega)))
      · exact Or.inr (Or.inl (by unfold ScM; omega))
    · obtain ⟨q1, q2, q3, q4, q5⟩ := hA7
      refine ⟨?_, ?_, ?_, ?_, fun w hw => ?_⟩
      · rw [F8.2 _ _ (by first | omega | (dsimp only; omega)), F4.2 _ _ (by first | omega | (dsimp only; omega))]; exact q1
      · rw [F8.2 _ _ (by first | omega | (dsimp only; omega)), F4.2 _ _ (by first | omega | (dsimp only; omega))]; exact q2
      · rw [F8.2 _ _ (by first | omega | (dsimp only; omega)), F4.2 _ _ (by first | omega | (dsimp only; omega))]; exact q3
      · rw [F8.2 _ _ (by first | omega | (dsimp only; omega)), f4.2 _ _ (by first | omega | (dsimp only; omega)), b2.2 _ _ (by first | omega | (dsimp only; omega)), f2.2 _ _ (by first | omega | (dsimp only; omega))]; exact g1
      · rw [F8.2 _ _ (by first | omega | (dsimp only; omega))]; exact z4 w hw
    · rw [F8.2 _ _ (by first | omega | (dsimp only; omega)), F4.2 _ _ (by first | omega | (dsimp only; omega)), F8.2 _ _ (by first | omega | (dsimp only; omega)), F4.2 _ _ (by first | omega | (dsimp only; omega))]
      exact h.2.2.2.1.2.2.1
    · rw [F8.2 _ _ (by first | omega | (dsimp only; omega))]; exact u1
    · dsimp only
      rw [F8.2 (96 + 2 * q) i (by first | omega | (dsimp only; omega)), u2 i hi, v2 i hi]
