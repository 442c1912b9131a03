/-! calls on rules, notes, kept courts, counts -/
section Rl
variable {N n d s t r q o en : Nat} {K W F len x y : Nat → Nat} {Y : Nat → Nat → Nat} {Z : Nat → Nat} {mm : Mm}
theorem CS_w (C : CS mm n K W F) (h : 1 ≤ n) : 0 < smN W n := wsum_pos h (fun i hi => (C.2.2 i hi).2.2.1)
/-- what rule o lays, en notes being there -/
abbrev rlA (W : Nat → Nat) (n t : Nat) (Y : Nat → Nat → Nat) (en o : Nat) : Nat → Nat := rlN W n t o (yN Y en)
theorem rlA_40 (h0 : 0 < n) (hW : 0 < smN W n) (ht : t ≤ 8) : ∀ i, i < n → rlA W n t Y en o i ≤ 8 := fun i hi => by
  have := rl_b (W := W) (t := t) (o := o) (y := yN Y en) h0 hW hi
  show rlN W n t o (yN Y en) i ≤ 8
  omega
theorem rule_e (hN : 100000 ≤ N) (B : KB n d s t len) (D : KD mm n d s t K W F len) (T : NTs mm n en Y Z) (ho : o < 6) (hr : r < 6) : ∃ m' v, fX11_rule N 0 (nI o) (nI r) mm = some (nI v, m') ∧ v ≤ 1000 ∧ Fr (fun k j => k = 56 ∨ (k = 95 + 2 * r ∧ j = 1) ∨ k = 96 + 2 * r) mm m' ∧ rd m' (95 + 2 * r) 1 = nI n ∧ HA m' (96 + 2 * r) n (rlA W n t Y en o) := by
  obtain ⟨b1, b2, b3, b4, b5, b6⟩ := B
  obtain ⟨C, hd, hs, ht, hl⟩ := D
  have hW := CS_w C b1
  obtain ⟨m1, c1, f1, g1⟩ := layBy_e (N := N) (o := o) hN (by first | omega | (dsimp only; omega)) ho C ht (by first | omega | (dsimp only; omega)) T.2.1 T.1 (Nat.le_refl en) (T.yc (Nat.le_refl en))
  have g1' : HA m1 56 n (rlN W n t o (yN Y en)) := fun j hj => by rw [g1 j (by first | omega | (dsimp only; omega)), if_pos hj]
  obtain ⟨m2, c2, f2, g2, g2'⟩ := take_e (N := N) (p := 56) hr rfl (show n ≤ 6 by omega) (by first | omega | (dsimp only; omega)) g1'
  refine ⟨m2, smN (rlN W n t o (yN Y en)) n, ?_, ?_, (f1.mono (fun k j e => Or.inl e)).tr (f2.mono (fun k j e => Or.inr e)), g2, g2'⟩
  · unfold fX11_rule
    refine st_b (rowOf_t hr) (st_f (nI_pos (by first | omega | (dsimp only; omega))) (st_f (nI_ge ho (by first | omega | (dsimp only; omega))) (st_c (st_f (by simp only [LXa]; rw [C.1]; exact nI_ne0 (by first | omega | (dsimp only; omega)) (by first | omega | (dsimp only; omega))) ?_))))
    simp only [LXa, LXg]
    rw [T.2.1]
    refine st_b c1 ?_
    rw [f1.2 3 5 (by first | omega | (dsimp only; omega)), C.1]
    refine st_b c2 (st_b (total_ok hN (fr_row hr) (ln_row hr) g2 (by first | omega | (dsimp only; omega)) (by first | omega | (dsimp only; omega))) ?_)
    rw [sL_32 n g2']
  · have h1 := smN_le (f := rlN W n t o (yN Y en)) (b := 40) n (fun i hi => by have := rl_b (W := W) (t := t) (o := o) (y := yN Y en) (show 0 < n by omega) hW hi; first | omega | (dsimp only; omega))
    omega
theorem note_e {w : Nat} (hN : 100000 ≤ N) (B : KB n d s t len) (D : KD mm n d s t K W F len) (T : NTs mm n en Y Z) (he : en < 8) (hr : r < 6) (hw : w < 2 ^ n) (hx : RX mm r n s x) : ∃ m', fX11_note N 0 (nI r) (nI w) mm = some (nI en, m') ∧ Fr (fun k j => k = 8 + en ∨ (k = 16 ∧ j = en) ∨ (k = 3 ∧ j = 7)) mm m' ∧ NTs m' n (en + 1) (fun k => if k = en then x else Y k) (fun k => if k = en then w else Z k) := by
  obtain ⟨b1, b2, b3, b4, b5, b6⟩ := B
  obtain ⟨C, hd, hs, ht, hl⟩ := D
  have hp := pw_n n (by first | omega | (dsimp only; omega))
  have hsh : (1 : Int32) <<< (rd mm 3 5 &&& 31) = nI (2 ^ n) := by rw [C.1]; exact shl_n n (by first | omega | (dsimp only; omega))
  have h7 := T.2.1
  obtain ⟨m1, c1, f1, w1, w2, w3⟩ := cwrite_e (N := N) (v := nI w) h7 (by first | omega | (dsimp only; omega)) (ln_row hr) (by first | omega | (dsimp only; omega)) (by first | omega | (dsimp only; omega))
  refine ⟨m1, ?_, f1, ⟨by omega, w1, fun k hk => ?_⟩⟩
  · unfold fX11_note
    simp only [LXa]
    refine st_b (rowOf_t hr) (st_c (st_f (nI_pos (by first | omega | (dsimp only; omega))) (st_t (by rw [hsh]; exact nI_lt hw (by first | omega | (dsimp only; omega))) (st_b (isW1 (a := 0) hN hr (by first | omega | (dsimp only; omega)) C.1 (by first | omega | (dsimp only; omega)) hs (by first | omega | (dsimp only; omega)) hx) (st_t rfl (st_t (by rw [h7]; exact nI_lt (by first | omega | (dsimp only; omega)) (by first | omega | (dsimp only; omega))) ?_))))))
    rw [fr_row hr]
    refine st_b c1 ?_
    rw [w1, nI_pred]
  · dsimp only
    by_cases hke : k = en
    · subst hke
      rw [if_pos rfl, if_pos rfl]
      refine ⟨fun i hi => ?_, hx.2.2.1, w2, hw⟩
      rw [w3 i (by first | omega | (dsimp only; omega))]
      exact hx.2.1 i hi
    · rw [if_neg hke, if_neg hke]
      obtain ⟨a1, a2, a3, a4⟩ := T.2.2 k (by first | omega | (dsimp only; omega))
      exact ⟨a1.c (fun i _ => f1.2 _ _ (by first | omega | (dsimp only; omega))), a2, by rw [f1.2 _ _ (by first | omega | (dsimp only; omega))]; exact a3, a4⟩
/-- the rules that fit -/
abbrev mkA (K W F : Nat → Nat) (n d t en : Nat) (Y : Nat → Nat → Nat) (Z : Nat → Nat) : Nat := mkN (fitB K W F n d t en Y Z) 6
theorem rules_e (hN : 100000 ≤ N) (B : KB n d s t len) (D : KD mm n d s t K W F len) (hA : RA mm) (T : NTs mm n en Y Z) : ∃ m', fX11_rules N 0 mm = some (nI (mkA K W F n d t en Y Z), m') ∧ Fr (fun k j => (k = 55 ∧ j = 5) ∨ (56 ≤ k ∧ k ≤ 69) ∨ (k = 0 ∧ j = 14)) mm m' ∧ RA m' := by
  obtain ⟨b1, b2, b3, b4, b5, b6⟩ := B
  obtain ⟨C, hd, hs, ht, hl⟩ := D
  have hW := CS_w C b1
  have GC0 : GC mm n d t en K W F Y Z := ⟨C, hd, ht, T⟩
  obtain ⟨m1, c1, f1, g1⟩ := cfit_e (N := N) hN (by first | omega | (dsimp only; omega)) b3 (by first | omega | (dsimp only; omega)) GC0 hA.2.2.2.1
  obtain ⟨m2, c2, f2, g2, g2'⟩ := cprepG_e (N := N) (M := mkN (fitB K W F n d t en Y Z) 6) (mm := m1) hN (by first | omega | (dsimp only; omega)) (by first | omega | (dsimp only; omega)) (GC0.c (fun k j e => f1.2 _ _ (by first | omega | (dsimp only; omega))))
  have hMk : mkN (fitB K W F n d t en Y Z) 6 < 64 := mkN_64
  have hrl : ∀ q j, j < n → rlN W n t q (yN Y en) j ≤ 40 := fun q j hj => by have := rl_b (W := W) (t := t) (o := q) (y := yN Y en) (show 0 < n by omega) hW hj; omega
  obtain ⟨m3, c3, f3⟩ := uLay_l (N := N) (M := mkN (fitB K W F n d t en Y Z) 6) (L := fun q j => if j < n then rlN W n t q (yN Y en) j else 0) hN hMk (fun q j => by
    by_cases hj : j < n
    · rw [if_pos hj]; exact hrl q j hj
    · rw [if_neg hj]; first | omega | (dsimp only; omega)) 6 0 m2 (by first | omega | (dsimp only; omega)) g2 g2' (fun q hq => by omega) N (by first | omega | (dsimp only; omega))
  generalize hcv : uNk (bitN (mkN (fitB K W F n d t en Y Z) 6)) (fun a o => alB (fun j => decide ((if j < n then rlN W n t a (yN Y en) j else 0) = (if j < n then rlN W n t o (yN Y en) j else 0))) 6 0) 6 = cv at c3
  have F3 : Fr (fun k j => (k = 55 ∧ j = 5) ∨ (56 ≤ k ∧ k ≤ 69) ∨ (k = 0 ∧ j = 14)) mm m3 := (f1.mono (fun k j e => by omega)).tr ((f2.mono (fun k j e => by omega)).tr (f3.mono (fun k j e => by omega)))
  refine ⟨wr m3 0 14 (nI cv), ?_, fr_wr F3 (by first | omega | (dsimp only; omega)), ?_⟩
  · unfold fX11_rules
    refine st_f (by simp only [LXa]; rw [C.1]; exact nI_ne0 (by first | omega | (dsimp only; omega)) (by first | omega | (dsimp only; omega))) ?_
    simp only [LXa]
    refine st_b c1 ?_
    have c3' : fX2_unlikeLayings N 55 3 (nI (mkN (fitB K W F n d t en Y Z) 6)) m1 = some (nI cv, m3) := by
      unfold fX2_unlikeLayings
      exact st_b c2 c3
    exact st_b c3' rfl
  · obtain ⟨q1, q2, q3, q4, q5⟩ := hA
    refine ⟨?_, ?_, ?_, ?_, fun w hw => ?_⟩
    · rw [rd_wr_k (by first | omega | (dsimp only; omega)), F3.2 _ _ (by first | omega | (dsimp only; omega))]; exact q1
    · rw [rd_wr_k (by first | omega | (dsimp only; omega)), F3.2 _ _ (by first | omega | (dsimp only; omega))]; exact q2
    · rw [rd_wr_k (by first | omega | (dsimp only; omega)), F3.2 _ _ (by first | omega | (dsimp only; omega))]; exact q3
    · rw [rd_wr_k (by first | omega | (dsimp only; omega)), f3.2 _ _ (by first | omega | (dsimp only; omega)), f2.2 _ _ (by first | omega | (dsimp only; omega))]; exact g1
    · rw [rd_wr_k (by first | omega | (dsimp only; omega)), F3.2 _ _ (by first | omega | (dsimp only; omega))]; exact q5 w hw
theorem reply_e {b : Lf} (hN : 100000 ≤ N) (B : KB n d s t len) (D : KD mm n d s t K W F len) (hA : RA mm) (T : NTs mm n en Y Z) (hr : r < 6) (ho : o < 6) (ho1 : mkA K W F n d t en Y Z / 2 ^ o % 2 = 1) (ho2 : ∀ j, j < o → mkA K W F n d t en Y Z / 2 ^ j % 2 = 0) (hb : (lvA K W F d (rlA W n t Y en o) 0 s n).foldl (bst n) none = some b) : ∃ m', fX11_reply N 0 (nI r) mm = some (nI b.1, m') ∧ Fr (fun k j => (35 ≤ k ∧ k ≤ 39) ∨ (56 ≤ k ∧ k ≤ 60) ∨ (k = 0 ∧ j = 14) ∨ (k = 95 + 2 * r ∧ j = 1) ∨ k = 96 + 2 * r) mm m' ∧ RA m' ∧ rd m' 0 14 = nI o ∧ rd m' (95 + 2 * r) 1 = nI n ∧ HA m' (96 + 2 * r) n b.2.2 := by
  obtain ⟨b1, b2, b3, b4, b5, b6⟩ := B
  obtain ⟨C, hd, hs, ht, hl⟩ := D
  have hW := CS_w C b1
  obtain ⟨m1, c1, f1, g1⟩ := cfit_e (N := N) hN (by first | omega | (dsimp only; omega)) b3 (by first | omega | (dsimp only; omega)) ⟨C, hd, ht, T⟩ hA.2.2.2.1
  have hMk : mkN (fitB K W F n d t en Y Z) 6 < 64 := mkN_64
  have hmk : mkA K W F n d t en Y Z = mkN (fitB K W F n d t en Y Z) 6 := rfl
  rw [hmk] at ho1 ho2
  generalize mkN (fitB K W F n d t en Y Z) 6 = Mk at c1 hMk ho1 ho2
  have hM0 : Mk ≠ 0 := fun e => by rw [e, Nat.zero_div] at ho1; omega
  have C1 : CS m1 n K W F := CS_c C (fun k j e => f1.2 _ _ (by first | omega | (dsimp only; omega)))
  have T1 : NTs m1 n en Y Z := T.c (fun k j e => f1.2 _ _ (by first | omega | (dsimp only; omega)))
  obtain ⟨m2, c2, f2, g2⟩ := layBy_e (N := N) (o := o) hN (by first | omega | (dsimp only; omega)) ho C1 (by rw [f1.2 _ _ (by first | omega | (dsimp only; omega))]; exact ht) (by first | omega | (dsimp only; omega)) T1.2.1 T1.1 (Nat.le_refl en) (T1.yc (Nat.le_refl en))
  have hrx : rlA W n t Y en o = rlN W n t o (yN Y en) := rfl
  rw [hrx] at hb
  have hx8 := rlA_40 (W := W) (n := n) (t := t) (Y := Y) (en := en) (o := o) (by first | omega | (dsimp only; omega)) hW b5
  rw [hrx] at hx8
  generalize rlN W n t o (yN Y en) = x at g2 hb hx8
  have hx3 : ∀ i, i < n → x i ≤ 1000 := fun i hi => by have := hx8 i hi; omega
  have g2' : HA m2 56 n x := fun j hj => by rw [g2 j (by first | omega | (dsimp only; omega)), if_pos hj]
  have C2 : CS m2 n K W F := CS_c C1 (fun k j e => f2.2 _ _ (by first | omega | (dsimp only; omega)))
  obtain ⟨m3, c3, f3, q3⟩ := run_e (N := N) (d := d) (q := 56) (Q := 6) (most := s) hN b3 (by first | omega | (dsimp only; omega)) rfl ⟨Nat.le_refl _, by decide⟩ (Or.inr (by decide)) hx3 C2 g2'
  obtain ⟨-, -, q4, -⟩ := q3
  obtain ⟨e1, e2, e3, e4, e5, e6⟩ := q4 b hb
  obtain ⟨m4, c4, f4, g4, g4'⟩ := take_e (N := N) (p := 36) hr rfl (show n ≤ 6 by omega) (by first | omega | (dsimp only; omega)) e3
  have F4 : Fr (fun k j => (35 ≤ k ∧ k ≤ 39) ∨ (56 ≤ k ∧ k ≤ 60) ∨ (k = 0 ∧ j = 14) ∨ (k = 95 + 2 * r ∧ j = 1) ∨ k = 96 + 2 * r) mm m4 := (f1.mono (fun k j e => Or.inr (Or.inl e))).tr ((f2.mono (fun k j e => by omega)).tr ((f3.mono (fun k j e => Or.inl e)).tr (f4.mono (fun k j e => by omega))))
  refine ⟨wr m4 0 14 (nI o), ?_, fr_wr F4 (by first | omega | (dsimp only; omega)), ?_, rd_wr_s, by rw [rd_wr_k (by first | omega | (dsimp only; omega))]; exact g4, g4'.c (fun j _ => rd_wr_k (by first | omega | (dsimp only; omega)))⟩
  · unfold fX11_reply
    refine st_b (rowOf_t hr) (st_c (st_f (by simp only [LXa]; rw [C.1]; exact nI_ne0 (by first | omega | (dsimp only; omega)) (by first | omega | (dsimp only; omega))) ?_))
    simp only [LXa]
    refine st_b c1 (st_f (nw_ne (v := 0) hM0 (by first | omega | (dsimp only; omega)) (by first | omega | (dsimp only; omega))) (st_b (cfirst_l (N := N) hMk ho ho1 ho2 o 0 (by first | omega | (dsimp only; omega)) N (by first | omega | (dsimp only; omega))) ?_))
    rw [T1.2.1]
    refine st_b c2 (st_g (by decide) ?_)
    simp only [LXg]
    rw [show ((0 : Int32).toNatClampNeg) = 0 from rfl, f2.2 3 6 (by first | omega | (dsimp only; omega)), f1.2 3 6 (by first | omega | (dsimp only; omega)), hd, f2.2 5 0 (by first | omega | (dsimp only; omega)), f1.2 5 0 (by first | omega | (dsimp only; omega)), hs]
    refine st_b c3 ?_
    simp only [LXb]
    rw [f3.2 3 5 (by first | omega | (dsimp only; omega)), C2.1]
    refine st_b c4 (st_n ?_)
    rw [rd_wr_k (by first | omega | (dsimp only; omega)), f4.2 35 1 (by first | omega | (dsimp only; omega)), e1]
  · obtain ⟨q1, q2, q3, q4, q5⟩ := hA
    refine ⟨?_, ?_, ?_, ?_, fun w hw => ?_⟩
    · rw [rd_wr_k (by first | omega | (dsimp only; omega)), F4.2 _ _ (by first | omega | (dsimp only; omega))]; exact q1
    · rw [rd_wr_k (by first | omega | (dsimp only; omega)), F4.2 _ _ (by first | omega | (dsimp only; omega))]; exact q2
    · rw [rd_wr_k (by first | omega | (dsimp only; omega)), F4.2 _ _ (by first | omega | (dsimp only; omega))]; exact q3
    · rw [rd_wr_k (by first | omega | (dsimp only; omega)), f4.2 _ _ (by first | omega | (dsimp only; omega)), f3.2 _ _ (by first | omega | (dsimp only; omega)), f2.2 _ _ (by first | omega | (dsimp only; omega))]; exact g1
    · rw [rd_wr_k (by first | omega | (dsimp only; omega)), F4.2 _ _ (by first | omega | (dsimp only; omega))]; exact q5 w hw
/-- the laying that tells most -/
abbrev tlP (K W F : Nat → Nat) (n d s t en : Nat) (Y : Nat → Nat → Nat) (Z : Nat → Nat) : Option (Nat × (Nat → Nat)) := (enA n s).foldl (sfF (suN K F n d (mkA K W F n d t en Y Z) (fun o => rlA W n t Y en o))) none
theorem tell_e {p : Nat × (Nat → Nat)} (hN : 100000 ≤ N) (B : KB n d s t len) (D : KD mm n d s t K W F len) (hA : RA mm) (T : NTs mm n en Y Z) (hq : q < 6) (hp : tlP K W F n d s t en Y Z = some p) : ∃ m', fX11_tell N 0 (nI q) mm = some (nI p.1, m') ∧ Fr (fun k j => (k = 33 ∨ k = 34) ∨ (k = 55 ∧ j = 5) ∨ (56 ≤ k ∧ k ≤ 93) ∨ (k = 95 + 2 * q ∧ j = 1) ∨ k = 96 + 2 * q) mm m' := by
  obtain ⟨b1, b2, b3, b4, b5, b6⟩ := B
  obtain ⟨C, hd, hs, ht, hl⟩ := D
  have hn : n ≤ 6 := by omega
  have htm : fX11_isTooMuch N 0 0 mm = some (0, mm) := tooMuch_f (a := 0) (by first | omega | (dsimp only; omega)) hs C.1 ⟨by omega, by omega⟩
  have hW := CS_w C b1
  have GC0 : GC mm n d t en K W F Y Z := ⟨C, hd, ht, T⟩
  obtain ⟨m1, c1, f1, g1⟩ := cfit_e (N := N) hN (by first | omega | (dsimp only; omega)) b3 (by first | omega | (dsimp only; omega)) GC0 hA.2.2.2.1
  obtain ⟨m2, c2, f2, g2, g2'⟩ := cprepG_e (N := N) (M := mkN (fitB K W F n d t en Y Z) 6) (mm := m1) hN (by first | omega | (dsimp only; omega)) (by first | omega | (dsimp only; omega)) (GC0.c (fun k j e => f1.2 _ _ (by first | omega | (dsimp only; omega))))
  have hMk : mkN (fitB K W F n d t en Y Z) 6 < 64 := mkN_64
  have hR3 : ∀ q, q < 6 → ∀ j, j < n → rlN W n t q (yN Y en) j ≤ 1000 := fun q _ j hj => by have := rl_b (W := W) (t := t) (o := q) (y := yN Y en) (show 0 < n by omega) hW hj; omega
  obtain ⟨m3, e1, e2, e3, e4, e5⟩ := cbegin_e (N := N) (n := n) (S := s) (mm := m2) hN hn (by first | omega | (dsimp only; omega))
  have F3 : Fr (fun k j => (k = 33 ∨ k = 34) ∨ (k = 55 ∧ j = 5) ∨ (56 ≤ k ∧ k ≤ 67)) mm m3 := (f1.mono (fun k j e => by omega)).tr ((f2.mono (fun k j e => by omega)).tr (e2.mono (fun k j e => Or.inl e)))
  have hz0 := smN_0 n
  have hrk := rk_12 (n := n) (s := s) hn (by first | omega | (dsimp only; omega))
  have Q3 : TQ m3 n d (mkN (fitB K W F n d t en Y Z) 6) K W F (fun o => rlN W n t o (yN Y en)) := ⟨CS_c C (fun k j e => F3.2 _ _ (by first | omega | (dsimp only; omega))), by rw [F3.2 _ _ (by first | omega | (dsimp only; omega))]; exact hd, by rw [e2.2 _ _ (by first | omega | (dsimp only; omega))]; exact g2, fun o ho j hj => by rw [e2.2 _ _ (by first | omega | (dsimp only; omega)), g2' o ho j (by first | omega | (dsimp only; omega)), if_pos hj]⟩
  have S3 : SWa m3 d (mkN (fitB K W F n d t en Y Z) 6) K W F (fun o => rlN W n t o (yN Y en)) (fun _ => 0) 0 := by
    have z : ∀ o, o < 6 → rd m3 (73 + 4 * o) 0 = 0 := fun o ho => by rw [F3.2 _ _ (by first | omega | (dsimp only; omega))]; exact hA.2.2.2.2 o ho
    exact ⟨fun o ho _ => SW_0 (by rw [show 70 + 4 * o + 3 = 73 + 4 * o by omega]; exact z o ho), z⟩
  obtain ⟨m4, c4, f4, z4, g4⟩ := ctell_l (N := N) (S := s) (q := q) hN b3 hMk (by first | omega | (dsimp only; omega)) hq hR3 18564 (fun _ => 0) 0 0 none m3 N hrk (by first | omega | (dsimp only; omega)) (by first | omega | (dsimp only; omega)) (by first | omega | (dsimp only; omega)) (by first | omega | (dsimp only; omega)) Q3 S3 e3 e4 (by rw [hz0]; exact e5) (fun p hp => by cases hp)
  have hp' : (enm n s 18564 (fun _ => 0)).foldl (sfF (suN K F n d (mkN (fitB K W F n d t en Y Z) 6) (fun o => rlN W n t o (yN Y en)))) none = some p := hp
  rw [hp'] at c4
  refine ⟨m4, ?_, (F3.mono (fun k j e => by omega)).tr (f4.mono (fun k j e => by omega))⟩
  unfold fX11_tell
  refine st_b (rowOf_t hq) (st_c (st_b htm (st_t rfl (st_f (by simp only [LXa]; rw [C.1]; exact nI_ne0 (by first | omega | (dsimp only; omega)) (by first | omega | (dsimp only; omega))) ?_))))
  simp only [LXa]
  refine st_b c1 (st_b c2 (st_g (by decide) ?_))
  rw [show ((0 : Int32).toNatClampNeg) = 0 from rfl, f2.2 5 0 (by first | omega | (dsimp only; omega)), f1.2 5 0 (by first | omega | (dsimp only; omega)), hs, f2.2 3 5 (by first | omega | (dsimp only; omega)), f1.2 3 5 (by first | omega | (dsimp only; omega)), C.1]
  exact st_b e1 c4
/-- the court is kept, without notes, without lent sheets -/
def KP (mm : Mm) : Prop := rd mm 115 8 = 1 ∧ rd mm 115 7 = 0 ∧ rd mm 118 0 = 0
theorem KP.c {m2 : Mm} (h : KP mm) (e : ∀ k j, (k = 115 ∧ (j = 7 ∨ j = 8)) ∨ k = 118 → rd m2 k j = rd mm k j) : KP m2 :=
  ⟨by rw [e _ _ (by first | omega | (dsimp only; omega))]; exact h.1, by rw [e _ _ (by first | omega | (dsimp only; omega))]; exact h.2.1, by rw [e _ _ (by first | omega | (dsimp only; omega))]; exact h.2.2⟩
theorem keep_e (hN : 100000 ≤ N) (B : KB n d s t len) (D : KD mm n d s t K W F len) (h7 : rd mm 3 7 = 0) (h60 : rd mm 6 0 = 0) : ∃ m', fX11_keep N 0 0 mm = some (0, m') ∧ Fr (fun q j => 115 ≤ q ∧ q < 135) mm m' ∧ KP m' := by
  obtain ⟨b1, b2, b3, b4, b5, b6⟩ := B
  obtain ⟨C, hd, hs, ht, hl⟩ := D
  obtain ⟨m1, c1, f1, t0, t2, t3, t13, t5, t14⟩ := ctk_e (N := N) (D := 115) (S := 3) (mm := mm) hN (CO_k (k := 0) (by first | omega | (dsimp only; omega))) CO_3 (by first | omega | (dsimp only; omega))
  refine ⟨wr m1 115 8 1, ?_, fr_wr (f1.mono (fun q j h => by omega)) (by first | omega | (dsimp only; omega)), rd_wr_s, by rw [rd_wr_j (by first | omega | (dsimp only; omega)), t0 7 (by first | omega | (dsimp only; omega)) (by first | omega | (dsimp only; omega))]; exact h7, by rw [rd_wr_k (by first | omega | (dsimp only; omega))]; exact (t3 0 (by first | omega | (dsimp only; omega))).trans h60⟩
  unfold fX11_keep
  simp only [LXa]
  refine st_b (keptOf_t (k := 0) (by first | omega | (dsimp only; omega))) (st_c (st_f (by rw [C.1]; exact nI_ne0 (by first | omega | (dsimp only; omega)) (by first | omega | (dsimp only; omega))) (st_b c1 (st_n ?_))))
  rw [rd_wr_j (by first | omega | (dsimp only; omega)), t0 7 (by first | omega | (dsimp only; omega)) (by first | omega | (dsimp only; omega)), h7]
theorem on_e (hN : 100000 ≤ N) (h : KP mm) : ∃ m', fX11_on N 0 0 mm = some (0, m') ∧ rd m' 3 7 = 0 ∧ rd m' 6 0 = 0 := by
  obtain ⟨q1, q2, q3⟩ := h
  obtain ⟨m1, c1, f1, t0, t2, t3, t13, t5, t14⟩ := ctk_e (N := N) (D := 3) (S := 115) (mm := mm) hN CO_3 (CO_k (k := 0) (by first | omega | (dsimp only; omega))) (by first | omega | (dsimp only; omega))
  have h7 : rd m1 3 7 = 0 := (t0 7 (by first | omega | (dsimp only; omega)) (by first | omega | (dsimp only; omega))).trans q2
  refine ⟨wr m1 52 2 0, ?_, by rw [rd_wr_k (by first | omega | (dsimp only; omega))]; exact h7, by rw [rd_wr_k (by first | omega | (dsimp only; omega))]; exact (t3 0 (by first | omega | (dsimp only; omega))).trans q3⟩
  unfold fX11_on
  simp only [LXa]
  refine st_b (keptOf_t (k := 0) (by first | omega | (dsimp only; omega))) (st_c (st_f (by rw [q1]; decide) (st_b c1 (st_b (st_n rfl) ?_))))
  rw [rd_wr_k (by first | omega | (dsimp only; omega)), h7]
theorem count1_e (hN : 100000 ≤ N) (C : CS mm n K W F) : fX11_count N 0 1 mm = some (nI (smN W n), mm) := by
  unfold fX11_count
  simp only [LXa]
  exact st_f (by decide) (st_t (by decide) (st_b (worths_e hN C) rfl))
theorem count4_e (h7 : rd mm 3 7 = 0) : fX11_count N 0 4 mm = some (0, mm) := by
  unfold fX11_count
  simp only [LXa]
  refine st_f (by decide) (st_f (by decide) (st_f (by decide) (st_f (by decide) (st_t (by decide) ?_))))
  rw [h7]
end Rl
