/-! pure: a Friday weighed -/
/-- who won the first suits, told up to one -/
def wnl (K F : Nat → Nat) (d : Nat) (x y : Nat → Nat) : Nat → Nat → Nat
  | 0 => fun _ => 2
  | i + 1 => fun j => if j = i then wst K F d (wnl K F d x y i) i (x i) (y i) else wnl K F d x y i j
/-- who won a suit -/
def wn (K F : Nat → Nat) (d : Nat) (x y : Nat → Nat) (i : Nat) : Nat := wnl K F d x y (i + 1) i
theorem wnl_lt {K F : Nat → Nat} {d : Nat} {x y : Nat → Nat} : ∀ m j, j < m → wnl K F d x y m j = wn K F d x y j := by
  intro m
  induction m with
  | zero => intro j h; omega
  | succ m ih =>
    intro j h
    by_cases hj : j = m
    · subst hj; rfl
    · show (if j = m then _ else _) = _
      rw [if_neg hj]
      exact ih j (by first | omega | (dsimp only; omega))
theorem wst_c {K F : Nat → Nat} {d i a b : Nat} {w v : Nat → Nat} (h : K i = 5 → w (F i) = v (F i)) : wst K F d w i a b = wst K F d v i a b := by
  unfold wst
  rw [wgt_k (b' := if v (F i) = 0 then 2 else 0) (fun q => by rw [h q]), wgt_k (b := if w (F i) = 1 then 2 else 0) (b' := if v (F i) = 1 then 2 else 0) (fun q => by rw [h q])]
theorem wn_eq {K F : Nat → Nat} {d i : Nat} {x y : Nat → Nat} (h : K i = 5 → F i < i) : wn K F d x y i = wst K F d (wn K F d x y) i (x i) (y i) := by
  show (if i = i then wst K F d (wnl K F d x y i) i (x i) (y i) else _) = _
  rw [if_pos rfl]
  exact wst_c (fun q => wnl_lt i _ (h q))
theorem wn_2 {K F : Nat → Nat} {d i : Nat} {x y : Nat → Nat} : wn K F d x y i ≤ 2 := by
  show (if i = i then wst K F d (wnl K F d x y i) i (x i) (y i) else _) ≤ 2
  rw [if_pos rfl]
  exact wst_2 _ _ _ _ _ _ _
theorem wn_c {K F : Nat → Nat} {d : Nat} {x y x' y' : Nat → Nat} : ∀ m, (∀ i, i < m → K i = 5 → F i < i) → (∀ i, i < m → x i = x' i ∧ y i = y' i) → ∀ i, i < m → wn K F d x y i = wn K F d x' y' i := by
  intro m hk
  induction m with
  | zero => intro _ i hi; omega
  | succ m ih =>
    intro h i hi
    rw [wn_eq (hk i hi), wn_eq (hk i hi), (h i hi).1, (h i hi).2]
    refine wst_c (fun q => ih (fun j hj => hk j (by first | omega | (dsimp only; omega))) (fun j hj => h j (by first | omega | (dsimp only; omega))) _ ?_)
    have := hk i hi q
    omega
/-- SCORE of a side of the first suits -/
def scr (W : Nat → Nat) (s : Nat) (w : Nat → Nat) (n : Nat) : Nat := smN (fun i => pts (W i) s (w i)) n
theorem scr_c {W w v : Nat → Nat} {s n : Nat} (h : ∀ i, i < n → w i = v i) : scr W s w n = scr W s v n := smN_c n (fun i hi => by rw [h i hi])
theorem scr_b {W w : Nat → Nat} {s n : Nat} (h : ∀ i, i < n → W i ≤ 9) (hn : n ≤ 6) : scr W s w n ≤ 108 := by
  have := smN_le (f := fun i => pts (W i) s (w i)) (b := 18) n (fun i hi => pts_18 (h i hi))
  unfold scr; omega
/-- weights of both sides -/
def wtN (K F : Nat → Nat) (d : Nat) (w : Nat → Nat) (i s a : Nat) : Nat := wgt (K i) (F i) d (if w (F i) = s then 2 else 0) a
def dfN (a b : Nat) : Nat := if b ≤ a then a - b else b - a
theorem absI {a b : Nat} (ha : a < 1000000) (hb : b < 1000000) : (if (0 : Int32) ≤ nI a - nI b then nI a - nI b else 0 - (nI a - nI b)) = nI (dfN a b) := by
  have h0 : (0 : Int32).toInt = 0 := rfl
  unfold dfN
  by_cases h : b ≤ a
  · rw [nI_sub h, if_pos (nI_pos' (by first | omega | (dsimp only; omega))), if_pos h]
  · have e : (nI a - nI b).toInt = (a : Int) - b := by
      rw [i_sub _ _ (by rw [nI_toInt (by first | omega | (dsimp only; omega)), nI_toInt (by first | omega | (dsimp only; omega))]; omega) (by rw [nI_toInt (by first | omega | (dsimp only; omega)), nI_toInt (by first | omega | (dsimp only; omega))]; omega), nI_toInt (by first | omega | (dsimp only; omega)), nI_toInt (by first | omega | (dsimp only; omega))]
    rw [if_neg (by rw [i_le, e, h0]; omega), if_neg h, Int32.zero_sub, Int32.neg_sub, nI_sub (by first | omega | (dsimp only; omega))]
/-- a scale -/
def SC (S : Nat) : Prop := fr S 0 = S + 1 ∧ fr S 1 = S + 2 ∧ fr S 2 = S + 3 ∧ ln (S + 1) = 6 ∧ ln (S + 2) = 6 ∧ ln (S + 3) = 7 ∧ 29 ≤ S ∧ S ≤ 90
/-- places of an array hold numbers -/
def HA (mm : Mm) (p n : Nat) (x : Nat → Nat) : Prop := ∀ i, i < n → rd mm p i = nI (x i)
theorem HA.c {mm m2 : Mm} {p n : Nat} {x : Nat → Nat} (h : HA mm p n x) (e : ∀ i, i < n → rd m2 p i = rd mm p i) : HA m2 p n x := fun i hi => (e i hi).trans (h i hi)
theorem wgt_bo {k f d s b x : Nat} {w : Nat → Nat} (hk : k ≤ 5) (hs : s ≤ 1) (hb : b = if ahN k f w = s then 1 else 0) : (if x < lsN k f then 0 else x + exN k f d b) = wgt k f d (if w f = s then 2 else 0) x := by
  rw [wgt_ex hk (fun h => by
    have e : ahN k f w = 2 := by unfold ahN; rw [if_neg (show ¬ k = 5 by omega)]
    rw [hb, e, if_neg (show ¬ 2 = s by omega)])]
  refine wgt_k (fun h5 => ?_)
  have e : ahN k f w = w f := by unfold ahN; rw [if_pos h5]
  rw [hb, e]
  by_cases h : w f = s
  · simp [h]
  · simp [h]
section Wgh
variable {N n d S p q L M : Nat} {K W F x y : Nat → Nat}
theorem wg_step {mm : Mm} {r : Option (Unit × Mm)} {i : Nat} {k24 : Nat → Nat → Nat → Nat → Int32 → Int32 → Mm → Option (Unit × Mm)} {a5 : Int32} {w : Nat → Nat} {sc : Nat} (hS : SC S) (C : CS mm n K W F) (hd9 : d ≤ 9) (hi : i < n) (hx : x i ≤ 1000) (hy : y i ≤ 1000) (hsc : rd mm (S + 3) i = nI sc) (hlt : sc ≤ 1000)
    (k : k24 S 3 p q a5 (nI (i + 1)) (wr (wr (wr mm (S + 1) i (nI (wst K F d w i (x i) (y i)))) (S + 2) i (nI (dfN (wtN K F d w i 0 (x i)) (wtN K F d w i 1 (y i))))) (S + 3) (i + 1) (nI (sc + pts (W i) 0 (wst K F d w i (x i) (y i))))) = r) {b1 : Nat} (hb1 : b1 = if ahN (K i) (F i) w = 1 then 1 else 0) : fX7_weigh_115 N k24 S 3 p q a5 (nI i) (17 + i) (nI (wtN K F d w i 0 (x i))) (17 + i) (nI (y i)) (17 + i) (nI d) (nI b1) mm = r := by
  have hn := C.2.1
  obtain ⟨u, k1, k2, k3, k4, k5, k6, k7⟩ := C.2.2 i hi
  obtain ⟨s0, s1, s2, s3, s4, s5, s6, s7⟩ := hS
  have hb1' : b1 ≤ 1 := by rw [hb1]; split <;> omega
  have hA : wtN K F d w i 0 (x i) ≤ 200000 := wgt_b k4 hd9 (by split <;> omega) (by first | omega | (dsimp only; omega))
  have hB : wtN K F d w i 1 (y i) ≤ 200000 := wgt_b k4 hd9 (by split <;> omega) (by first | omega | (dsimp only; omega))
  have hw2 := wst_2 K F d w i (x i) (y i)
  unfold fX7_weigh_115 fX7_weigh_184
  simp only [s0, s1, s2, nI_1, nI_nat (show i < 2147483648 by omega), nI_nat (show i + 1 < 2147483648 by omega)]
  refine st_b (extra_e u k1 hb1') (st_b (weight_e u k1 k4 (by first | omega | (dsimp only; omega))) ?_)
  rw [wgt_bo k1 (by first | omega | (dsimp only; omega)) hb1]
  change bd2 (fX9_winner N (17 + i) (nI (wtN K F d w i 0 (x i))) (nI (wtN K F d w i 1 (y i))) mm) _ = r
  refine st_b (winner_e u k1 (by first | omega | (dsimp only; omega)) (by first | omega | (dsimp only; omega))) ?_
  change gd (inb (nI i) (ln (S + 1))) _ = r
  refine st_k s3 (by first | omega | (dsimp only; omega)) (by first | omega | (dsimp only; omega)) (st_n (st_n ?_))
  rw [absI (by show wtN K F d w i 0 (x i) < 1000000; omega) (by show wtN K F d w i 1 (y i) < 1000000; omega)]
  refine st_k s4 (by first | omega | (dsimp only; omega)) (by first | omega | (dsimp only; omega)) (st_n (st_k s5 (by first | omega | (dsimp only; omega)) (by first | omega | (dsimp only; omega)) (st_k s3 (by first | omega | (dsimp only; omega)) (by first | omega | (dsimp only; omega)) ?_)))
  have e1 : rd (wr (wr mm (S + 1) i (nI (wst K F d w i (x i) (y i)))) (S + 2) i (nI (dfN (wtN K F d w i 0 (x i)) (wtN K F d w i 1 (y i))))) (S + 1) i = nI (wst K F d w i (x i) (y i)) := by rw [rd_wr_k (by first | omega | (dsimp only; omega)), rd_wr_s]
  have e2 : rd (wr (wr mm (S + 1) i (nI (wst K F d w i (x i) (y i)))) (S + 2) i (nI (dfN (wtN K F d w i 0 (x i)) (wtN K F d w i 1 (y i))))) (S + 3) i = nI sc := by rw [rd_wr_k (by first | omega | (dsimp only; omega)), rd_wr_k (by first | omega | (dsimp only; omega))]; exact hsc
  have u2 : SU (wr (wr mm (S + 1) i (nI (wst K F d w i (x i) (y i)))) (S + 2) i (nI (dfN (wtN K F d w i 0 (x i)) (wtN K F d w i 1 (y i))))) (17 + i) (K i) (W i) (F i) := by
    unfold SU
    rw [rd_wr_k (by first | omega | (dsimp only; omega)), rd_wr_k (by first | omega | (dsimp only; omega)), rd_wr_k (by first | omega | (dsimp only; omega)), rd_wr_k (by first | omega | (dsimp only; omega)), rd_wr_k (by first | omega | (dsimp only; omega)), rd_wr_k (by first | omega | (dsimp only; omega))]
    exact u
  change bd2 (fX9_points N (17 + i) 0 (rd (wr (wr mm (S + 1) i (nI (wst K F d w i (x i) (y i)))) (S + 2) i (nI (dfN (wtN K F d w i 0 (x i)) (wtN K F d w i 1 (y i))))) (S + 1) i) _) _ = r
  rw [e1]
  refine st_b (points_e (s := 0) u2 (by first | omega | (dsimp only; omega)) hw2) (st_k s5 (by first | omega | (dsimp only; omega)) (by first | omega | (dsimp only; omega)) (st_n ?_))
  change k24 S 3 p q a5 (nI (i + 1)) (wr _ (S + 3) (i + 1) (rd (wr (wr mm (S + 1) i (nI (wst K F d w i (x i) (y i)))) (S + 2) i (nI (dfN (wtN K F d w i 0 (x i)) (wtN K F d w i 1 (y i))))) (S + 3) i + nI (pts (W i) 0 (wst K F d w i (x i) (y i))))) = r
  rw [e2, nI_add]
  exact k
/-- the first i suits are weighed -/
def SW (mm : Mm) (S : Nat) (K W F : Nat → Nat) (d : Nat) (x y : Nat → Nat) (i : Nat) : Prop := (∀ j, j < i → rd mm (S + 1) j = nI (wn K F d x y j)) ∧ ∀ j, j ≤ i → rd mm (S + 3) j = nI (scr W 0 (wn K F d x y) j)
theorem SW.c {mm m2 : Mm} {i : Nat} (h : SW mm S K W F d x y i) (e : ∀ k j, S ≤ k ∧ k ≤ S + 3 → rd m2 k j = rd mm k j) : SW m2 S K W F d x y i := ⟨fun j hj => by rw [e _ _ (by first | omega | (dsimp only; omega))]; exact h.1 j hj, fun j hj => by rw [e _ _ (by first | omega | (dsimp only; omega))]; exact h.2 j hj⟩
theorem weigh_l (hS : SC S) (hd9 : d ≤ 9) (hn6 : n ≤ 6) (hp : ln p = L) (hq : ln q = M) (hL : 6 ≤ L ∧ L ≤ 1000) (hM : 6 ≤ M ∧ M ≤ 1000) (hpS : p < S ∨ S + 3 < p) (hqS : q < S ∨ S + 3 < q) (hx : ∀ i, i < n → x i ≤ 1000) (hy : ∀ i, i < n → y i ≤ 1000) : ∀ m i mm, i + m = n → CS mm n K W F → rd mm 3 6 = nI d → HA mm p n x → HA mm q n y → SW mm S K W F d x y i → ∀ f, m < f → ∃ m', fX7_weigh_24 N f S 3 p q (nI n) (nI i) mm = some ((), m') ∧ Fr (fun k _ => S ≤ k ∧ k ≤ S + 3) mm m' ∧ SW m' S K W F d x y n ∧ rd m' S 3 = nI (scr W 0 (wn K F d x y) n) ∧ (∀ j, i ≤ j → j < n → rd m' (S + 2) j = nI (dfN (wtN K F d (wn K F d x y) j 0 (x j)) (wtN K F d (wn K F d x y) j 1 (y j)))) ∧ ∀ j, j < i → rd m' (S + 2) j = rd mm (S + 2) j := by
  intro m
  have hSs := hS
  obtain ⟨s0, s1, s2, s3, s4, s5, s6, s7⟩ := hS
  induction m with
  | zero =>
    intro i mm hi C hd hX hY hW f hf
    obtain ⟨f, rfl⟩ : ∃ g, f = g + 1 := ⟨f - 1, by omega⟩
    obtain rfl : i = n := by omega
    refine ⟨wr mm S 3 (rd mm (S + 3) i), ?_, fr_wr Fr.rf (by first | omega | (dsimp only; omega)), ⟨fun j hj => by rw [rd_wr_k (by first | omega | (dsimp only; omega))]; exact hW.1 j hj, fun j hj => by rw [rd_wr_k (by first | omega | (dsimp only; omega))]; exact hW.2 j hj⟩, ?_, fun j h1 h2 => by omega, fun j hj => by rw [rd_wr_k (by first | omega | (dsimp only; omega))]⟩
    · unfold fX7_weigh_24 fX7_weigh_190 fX7_weigh_214
      simp only [s2, nI_nat (show i < 2147483648 by omega)]
      exact st_t (nI_le (Nat.le_refl _) (by first | omega | (dsimp only; omega))) (st_f (nI_pos (by first | omega | (dsimp only; omega))) (st_t (nI_le hn6 (by first | omega | (dsimp only; omega))) (st_k s5 (by first | omega | (dsimp only; omega)) (by first | omega | (dsimp only; omega)) (st_n rfl))))
    · rw [rd_wr_s]; exact hW.2 i (Nat.le_refl _)
  | succ m ih =>
    intro i mm hi C hd hX hY hW f hf
    obtain ⟨f, rfl⟩ : ∃ g, f = g + 1 := ⟨f - 1, by omega⟩
    have hin : i < n := by omega
    obtain ⟨u, k1, k2, k3, k4, k5, k6, k7⟩ := C.2.2 i hin
    have hwe : wn K F d x y i = wst K F d (wn K F d x y) i (x i) (y i) := wn_eq k6
    have hsb : ∀ j, j ≤ n → scr W 0 (wn K F d x y) j ≤ 108 := fun j hj => scr_b (fun q hq => (C.2.2 q (by first | omega | (dsimp only; omega))).2.2.2.1) (by first | omega | (dsimp only; omega))
    generalize hm3 : wr (wr (wr mm (S + 1) i (nI (wst K F d (wn K F d x y) i (x i) (y i)))) (S + 2) i (nI (dfN (wtN K F d (wn K F d x y) i 0 (x i)) (wtN K F d (wn K F d x y) i 1 (y i))))) (S + 3) (i + 1) (nI (scr W 0 (wn K F d x y) i + pts (W i) 0 (wst K F d (wn K F d x y) i (x i) (y i)))) = m3
    have hfr : Fr (fun k _ => S ≤ k ∧ k ≤ S + 3) mm m3 := by
      rw [← hm3]
      exact fr_wr (fr_wr (fr_wr Fr.rf (by first | omega | (dsimp only; omega))) (by first | omega | (dsimp only; omega))) (by first | omega | (dsimp only; omega))
    obtain ⟨m', h1, h2, h3, h4, h5, h6⟩ := ih (i + 1) m3 (by first | omega | (dsimp only; omega)) (CS_c C (fun k j e => hfr.2 _ _ (by first | omega | (dsimp only; omega)))) (by rw [hfr.2 _ _ (by first | omega | (dsimp only; omega))]; exact hd) (hX.c (fun j hj => hfr.2 _ _ (by first | omega | (dsimp only; omega)))) (hY.c (fun j hj => hfr.2 _ _ (by first | omega | (dsimp only; omega)))) ⟨fun j hj => by
      rw [← hm3, rd_wr_k (by first | omega | (dsimp only; omega)), rd_wr_k (by first | omega | (dsimp only; omega))]
      by_cases hji : j = i
      · subst hji; rw [rd_wr_s, hwe]
      · rw [rd_wr_j hji]; exact hW.1 j (by first | omega | (dsimp only; omega)), fun j hj => by
      rw [← hm3]
      by_cases hji : j = i + 1
      · subst hji; rw [rd_wr_s, ← hwe]; rfl
      · rw [rd_wr_j hji, rd_wr_k (by first | omega | (dsimp only; omega)), rd_wr_k (by first | omega | (dsimp only; omega))]; exact hW.2 j (by first | omega | (dsimp only; omega))⟩ f (by first | omega | (dsimp only; omega))
    refine ⟨m', ?_, hfr.tr h2, h3, h4, fun j a b => ?_, fun j hj => ?_⟩
    · unfold fX7_weigh_24 fX7_weigh_84
      simp only [s0, nI_nat (show i < 2147483648 by omega), hX i hin]
      refine st_f (nI_ge hin (by first | omega | (dsimp only; omega))) (st_f (nI_ge (by first | omega | (dsimp only; omega)) (by first | omega | (dsimp only; omega))) (st_b (suitOf_t C hin) (st_c (st_b (ahead_e (wf := wn K F d x y) u k1 (fun q => by have := k6 q; omega) s3 (fun q => hW.1 _ (k6 q))) (st_k hp (by first | omega | (dsimp only; omega)) (by first | omega | (dsimp only; omega)) ?_)))))
      simp only [hX i hin, hd]
      rw [← hm3] at h1
      have hah : ahN (K i) (F i) (wn K F d x y) ≤ 2 := by unfold ahN; split; exact wn_2; omega
      have hf0 : ∀ b0 : Nat, b0 = (if ahN (K i) (F i) (wn K F d x y) = 0 then 1 else 0) → (bd2 (fX9_extra N (17 + i) (nI d) (nI b0) mm) fun x26 m27 => bd2 (fX9_weight N (17 + i) (nI (x i)) x26 m27) fun x29 m30 => gd (inb (nI i) (ln q)) <| if nI (ahN (K i) (F i) (wn K F d x y)) = 1 then (fX7_weigh_115 N (fX7_weigh_24 N f) S 3 p q (nI n) (nI i) (17 + i) x29 (17 + i) (rd m30 q i) (17 + i) (rd m30 3 6) 1 m30) else (fX7_weigh_115 N (fX7_weigh_24 N f) S 3 p q (nI n) (nI i) (17 + i) x29 (17 + i) (rd m30 q i) (17 + i) (rd m30 3 6) 0 m30)) = some ((), m') := by
        intro b0 hb0
        have hb0' : b0 ≤ 1 := by rw [hb0]; split <;> omega
        refine st_b (extra_e u k1 hb0') (st_b (weight_e u k1 k4 (by have := hx i hin; omega)) ?_)
        rw [wgt_bo k1 (by first | omega | (dsimp only; omega)) hb0]
        refine st_k hq (by first | omega | (dsimp only; omega)) (by first | omega | (dsimp only; omega)) ?_
        rw [hY i hin, hd]
        by_cases ha1 : ahN (K i) (F i) (wn K F d x y) = 1
        · refine st_t (by rw [ha1]; rfl) ?_
          exact wg_step (b1 := 1) hSs C hd9 hin (hx i hin) (hy i hin) (hW.2 i (Nat.le_refl _)) (by have := hsb i (by first | omega | (dsimp only; omega)); omega) h1 (by rw [if_pos ha1])
        · refine st_f (fun e => ha1 (nI_inj (b := 1) e (by first | omega | (dsimp only; omega)) (by first | omega | (dsimp only; omega)))) ?_
          exact wg_step (b1 := 0) hSs C hd9 hin (hx i hin) (hy i hin) (hW.2 i (Nat.le_refl _)) (by have := hsb i (by first | omega | (dsimp only; omega)); omega) h1 (by rw [if_neg ha1])
      by_cases ha0 : ahN (K i) (F i) (wn K F d x y) = 0
      · exact st_t (by rw [ha0]; rfl) (hf0 1 (by rw [if_pos ha0]))
      · exact st_f (fun e => ha0 (nI_inj (b := 0) e (by first | omega | (dsimp only; omega)) (by first | omega | (dsimp only; omega)))) (hf0 0 (by rw [if_neg ha0]))
    · by_cases hji : j = i
      · rw [hji, h6 i (by first | omega | (dsimp only; omega)), ← hm3, rd_wr_k (by first | omega | (dsimp only; omega)), rd_wr_s]
      · exact h5 j (by first | omega | (dsimp only; omega)) b
    · rw [h6 j (by first | omega | (dsimp only; omega)), ← hm3, rd_wr_k (by first | omega | (dsimp only; omega)), rd_wr_j (by first | omega | (dsimp only; omega)), rd_wr_k (by first | omega | (dsimp only; omega))]
theorem weigh_e {i : Nat} {mm : Mm} (hN : 100000 ≤ N) (hS : SC S) (hd9 : d ≤ 9) (hp : ln p = L) (hq : ln q = M) (hL : 6 ≤ L ∧ L ≤ 1000) (hM : 6 ≤ M ∧ M ≤ 1000) (hpS : p < S ∨ S + 3 < p) (hqS : q < S ∨ S + 3 < q) (hx : ∀ i, i < n → x i ≤ 1000) (hy : ∀ i, i < n → y i ≤ 1000) (hi : i ≤ n) (C : CS mm n K W F) (hd : rd mm 3 6 = nI d) (hX : HA mm p n x) (hY : HA mm q n y) (hW : SW mm S K W F d x y i) : ∃ m', fX7_weigh N S 3 p q (nI i) mm = some ((), m') ∧ Fr (fun k _ => S ≤ k ∧ k ≤ S + 3) mm m' ∧ SW m' S K W F d x y n ∧ rd m' S 3 = nI (scr W 0 (wn K F d x y) n) ∧ ∀ j, i ≤ j → j < n → rd m' (S + 2) j = nI (dfN (wtN K F d (wn K F d x y) j 0 (x j)) (wtN K F d (wn K F d x y) j 1 (y j))) := by
  have hn := C.2.1
  obtain ⟨m', h1, h2, h3, h4, h5, -⟩ := weigh_l (N := N) hS hd9 hn hp hq hL hM hpS hqS hx hy (n - i) i mm (by first | omega | (dsimp only; omega)) C hd hX hY hW N (by first | omega | (dsimp only; omega))
  refine ⟨m', ?_, h2, h3, h4, h5⟩
  unfold fX7_weigh
  rw [hp, hq, C.1]
  have e1 : (if nI M < nI L then nI M else nI L) = nI (if M < L then M else L) := by
    by_cases h : M < L
    · rw [if_pos h, if_pos (nI_lt h (by first | omega | (dsimp only; omega)))]
    · rw [if_neg h, if_neg (nI_nlt (by first | omega | (dsimp only; omega)) (by first | omega | (dsimp only; omega)))]
  have hml : 6 ≤ (if M < L then M else L) ∧ (if M < L then M else L) ≤ 1000 := by split <;> omega
  refine st_n (st_n (st_n ?_))
  change fX7_weigh_24 N N S 3 p q (if (if nI M < nI L then nI M else nI L) < nI n then (if nI M < nI L then nI M else nI L) else nI n) (if nI i < 0 then 0 else nI i) mm = _
  rw [e1, if_neg (nI_nlt (by first | omega | (dsimp only; omega)) (by first | omega | (dsimp only; omega))), if_neg (nI_pos (by first | omega | (dsimp only; omega)))]
  exact h1
end Wgh
