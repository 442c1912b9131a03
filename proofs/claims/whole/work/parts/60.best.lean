/-! pure: what leaves tell; best, when -/
theorem lvC_mem {X : Type} {f : Nat → List X} {x : X} : ∀ c e0, x ∈ lvC f c e0 ↔ ∃ e, e0 ≤ e ∧ e < e0 + c ∧ x ∈ f e := by
  intro c
  induction c with
  | zero => intro e0; exact ⟨fun h => (by cases h), fun ⟨e, h1, h2, _⟩ => (by first | omega | (dsimp only; omega))⟩
  | succ c ih =>
    intro e0
    show x ∈ f e0 ++ lvC f c (e0 + 1) ↔ _
    rw [List.mem_append, ih]
    constructor
    · rintro (h | ⟨e, h1, h2, h3⟩)
      · exact ⟨e0, Nat.le_refl _, by omega, h⟩
      · exact ⟨e, by omega, by omega, h3⟩
    · rintro ⟨e, h1, h2, h3⟩
      by_cases he : e = e0
      · rw [he] at h3; exact Or.inl h3
      · exact Or.inr ⟨e, by omega, by omega, h3⟩
section Lv
variable {K W F : Nat → Nat} {d s L : Nat} {z : Nat → Nat}
theorem lvs_u {r i : Nat} {w l : Nat → Nat} {sc sh : Nat} : lvs K W F d z s L (r + 1) i w l sc sh = lvC (fun e => match nd K F d w z s i e with
    | none => []
    | some x => if sh + x ≤ L then lvs K W F d z s L r (i + 1) (up w i e) (up l i x) (sc + pts (W i) 0 e) (sh + x) else []) 3 0 := rfl
theorem lvs_s {r i : Nat} {w l : Nat → Nat} {sc sh : Nat} {x : Lf} : x ∈ lvs K W F d z s L (r + 1) i w l sc sh ↔ ∃ e y, e < 3 ∧ nd K F d w z s i e = some y ∧ sh + y ≤ L ∧ x ∈ lvs K W F d z s L r (i + 1) (up w i e) (up l i y) (sc + pts (W i) 0 e) (sh + y) := by
  rw [lvs_u, lvC_mem]
  constructor
  · rintro ⟨e, -, h2, h3⟩
    cases hy : nd K F d w z s i e with
    | none => rw [hy] at h3; cases h3
    | some y =>
      rw [hy] at h3
      by_cases hL : sh + y ≤ L
      · exact ⟨e, y, by omega, hy, hL, by simpa only [if_pos hL] using h3⟩
      · simp only [if_neg hL] at h3; cases h3
  · rintro ⟨e, y, h1, h2, h3, h4⟩
    refine ⟨e, by omega, by omega, ?_⟩
    rw [h2]
    simpa only [if_pos h3] using h4
theorem lvs_ge : ∀ r i w l sc sh x, x ∈ lvs K W F d z s L r i w l sc sh → sc ≤ x.1 ∧ sh ≤ x.2.1 := by
  intro r
  induction r with
  | zero =>
    intro i w l sc sh x h
    obtain rfl : x = (sc, sh, l) := List.mem_singleton.mp h
    exact ⟨Nat.le_refl _, Nat.le_refl _⟩
  | succ r ih =>
    intro i w l sc sh x h
    obtain ⟨e, y, h1, h2, h3, h4⟩ := lvs_s.mp h
    have := ih _ _ _ _ _ _ h4
    omega
theorem lvs_ne : ∀ r i w l sc sh, sh ≤ L → ∃ x, x ∈ lvs K W F d z s L r i w l sc sh := by
  intro r
  induction r with
  | zero => intro i w l sc sh _; exact ⟨(sc, sh, l), List.mem_singleton.mpr rfl⟩
  | succ r ih =>
    intro i w l sc sh h
    have h2 := wst_2 K F d w i (if s = 0 then 0 else z i) (if s = 0 then z i else 0)
    obtain ⟨x, hx⟩ := ih (i + 1) (up w i (wst K F d w i (if s = 0 then 0 else z i) (if s = 0 then z i else 0))) (up l i 0) (sc + pts (W i) 0 (wst K F d w i (if s = 0 then 0 else z i) (if s = 0 then z i else 0))) (sh + 0) (by first | omega | (dsimp only; omega))
    exact ⟨x, lvs_s.mpr ⟨_, 0, by omega, nd_0, by omega, hx⟩⟩
/-- fewer sheets at most: just the leaves with so few -/
theorem lvs_L {L' : Nat} (hL : L' ≤ L) : ∀ r i w l sc sh x, sh ≤ L' → (x ∈ lvs K W F d z s L' r i w l sc sh ↔ x ∈ lvs K W F d z s L r i w l sc sh ∧ x.2.1 ≤ L') := by
  intro r
  induction r with
  | zero =>
    intro i w l sc sh x h
    constructor
    · intro q
      obtain rfl : x = (sc, sh, l) := List.mem_singleton.mp q
      exact ⟨q, h⟩
    · exact fun q => q.1
  | succ r ih =>
    intro i w l sc sh x h
    rw [lvs_s, lvs_s]
    constructor
    · rintro ⟨e, y, h1, h2, h3, h4⟩
      obtain ⟨g1, g2⟩ := (ih _ _ _ _ _ _ h3).mp h4
      exact ⟨⟨e, y, h1, h2, by omega, g1⟩, g2⟩
    · rintro ⟨⟨e, y, h1, h2, h3, h4⟩, h5⟩
      have h6 := (lvs_ge _ _ _ _ _ _ _ h4).2
      exact ⟨e, y, h1, h2, by omega, (ih _ _ _ _ _ _ (by first | omega | (dsimp only; omega))).mpr ⟨h4, h5⟩⟩
theorem lvs_sh : ∀ r i w l sc sh x, sh ≤ L → x ∈ lvs K W F d z s L r i w l sc sh → x.2.1 ≤ L := fun r i w l sc sh x h hx => ((lvs_L (L' := L) (Nat.le_refl _) r i w l sc sh x h).mp hx).2
end Lv
/-- the best of leaves -/
theorem bst_p {n : Nat} : ∀ (xs ys : List Lf) (b : Option Lf), (∀ y, b = some y → y ∈ ys ∧ ∀ x ∈ ys, x.1 ≤ y.1) → (b = none → ys = []) → (∀ y, xs.foldl (bst n) b = some y → y ∈ ys ++ xs ∧ ∀ x ∈ ys ++ xs, x.1 ≤ y.1) ∧ (xs.foldl (bst n) b = none → ys ++ xs = []) := by
  intro xs
  induction xs with
  | nil => intro ys b h1 h2; rw [List.append_nil]; exact ⟨h1, h2⟩
  | cons a xs ih =>
    intro ys b h1 h2
    have hap : ys ++ a :: xs = (ys ++ [a]) ++ xs := by rw [List.append_assoc]; rfl
    rw [hap]
    show (∀ y, xs.foldl (bst n) (bst n b a) = some y → _) ∧ (xs.foldl (bst n) (bst n b a) = none → _)
    refine ih (ys ++ [a]) (bst n b a) (fun y hy => ?_) (fun q => ?_)
    · cases b with
      | none =>
        have hys := h2 rfl
        subst hys
        have : a = y := by
          have : bst n none a = some a := rfl
          rw [this] at hy; cases hy; rfl
        subst this
        exact ⟨List.mem_append.mpr (Or.inr (List.mem_singleton.mpr rfl)), fun x hx => by
          have : x = a := by simpa using hx
          rw [this]; exact Nat.le_refl _⟩
      | some v =>
        obtain ⟨g1, g2⟩ := h1 v rfl
        have hb : bst n (some v) a = if btr n a v = true then some a else some v := rfl
        rw [hb] at hy
        by_cases hq : btr n a v = true
        · rw [if_pos hq] at hy
          cases hy
          refine ⟨List.mem_append.mpr (Or.inr (List.mem_singleton.mpr rfl)), fun x hx => ?_⟩
          have hge : v.1 ≤ a.1 := by
            unfold btr at hq
            simp only [Bool.or_eq_true, Bool.and_eq_true, decide_eq_true_eq] at hq
            omega
          rcases List.mem_append.mp hx with hx | hx
          · exact Nat.le_trans (g2 x hx) hge
          · rw [List.mem_singleton.mp hx]; exact Nat.le_refl _
        · rw [if_neg hq] at hy
          cases hy
          refine ⟨List.mem_append.mpr (Or.inl g1), fun x hx => ?_⟩
          rcases List.mem_append.mp hx with hx | hx
          · exact g2 x hx
          · rw [List.mem_singleton.mp hx]
            unfold btr at hq
            simp only [Bool.or_eq_true, Bool.and_eq_true, decide_eq_true_eq] at hq
            omega
    · exfalso
      cases b with
      | none => cases q
      | some v =>
        have hb : bst n (some v) a = if btr n a v = true then some a else some v := rfl
        rw [hb] at q
        split at q <;> cases q
theorem bst_e {n : Nat} (xs : List Lf) (hx : ∃ x, x ∈ xs) : ∃ y, xs.foldl (bst n) none = some y ∧ y ∈ xs ∧ ∀ x ∈ xs, x.1 ≤ y.1 := by
  obtain ⟨h1, h2⟩ := bst_p (n := n) xs [] none (fun y hy => by cases hy) (fun _ => rfl)
  rw [List.nil_append] at h1 h2
  cases hb : xs.foldl (bst n) none with
  | none =>
    obtain ⟨x, hx⟩ := hx
    rw [h2 hb] at hx
    cases hx
  | some y => exact ⟨y, rfl, h1 y hb⟩
/-- a class' row takes numbers of an array -/
theorem take_e {N q p n : Nat} {v : Nat → Nat} {mm : Mm} (hq : q < 6) (hp : ln p = 6) (hn : n ≤ 6) (hpr : p < 95) (hv : HA mm p n v) : ∃ m', fX6_take N (95 + 2 * q) p (nI n) mm = some ((), m') ∧ Fr (fun k j => (k = 95 + 2 * q ∧ j = 1) ∨ k = 96 + 2 * q) mm m' ∧ rd m' (95 + 2 * q) 1 = nI n ∧ HA m' (96 + 2 * q) n v := by
  refine ⟨cpy (wr mm (95 + 2 * q) 1 (nI n)) p (96 + 2 * q) 0 0 (nI n), ?_, fr_cpy (fr_wr Fr.rf (by first | omega | (dsimp only; omega))) (fun j => by omega), ?_, fun i hi => ?_⟩
  · unfold fX6_take
    rw [fr_row hq, ln_row hq, hp]
    refine st_n (st_n (st_n (st_n ?_)))
    have e1 : (if Int32.ofNat 40 < Int32.ofNat 6 then Int32.ofNat 40 else Int32.ofNat 6) = nI 6 := rfl
    have e2 : (if nI 6 < nI n then nI 6 else nI n) = nI n := if_neg (nI_nlt hn (by first | omega | (dsimp only; omega)))
    have e3 : (if (0 : Int32) < nI n then nI n else 0) = nI n := by
      rcases Nat.eq_zero_or_pos n with h | h
      · subst h; rfl
      · exact if_pos (nI_lt (a := 0) h (by first | omega | (dsimp only; omega)))
    simp only [e1, e2, e3, rd_wr_s]
    exact st_g (cpok_n (i := 0) (j := 0) (by first | omega | (dsimp only; omega)) (by first | omega | (dsimp only; omega)) (by first | omega | (dsimp only; omega)) (by first | omega | (dsimp only; omega))) (st_n rfl)
  · rw [rd_cpy, if_neg (by first | omega | (dsimp only; omega)), rd_wr_s]
  · rw [rd_cpy, nI_nat (by first | omega | (dsimp only; omega)), if_pos ⟨rfl, by show (0 : Nat) ≤ i; omega, by show i < 0 + n; omega⟩]
    show rd _ p (0 + (i - 0)) = _
    rw [show 0 + (i - 0) = i by omega, rd_wr_k (by first | omega | (dsimp only; omega))]
    exact hv i hi
theorem RA_keep {mm m2 : Mm} (h : RA mm) (e : ∀ k, 32 ≤ k → k ≤ 93 → k ≠ 35 → k ≠ 36 → k ≠ 37 → k ≠ 38 → k ≠ 39 → k ≠ 40 → k ≠ 41 → rd m2 k 0 = rd mm k 0) : RA m2 := RA_c h (fun k q => e k (by first | omega | (dsimp only; omega)) (by first | omega | (dsimp only; omega)) (by first | omega | (dsimp only; omega)) (by first | omega | (dsimp only; omega)) (by first | omega | (dsimp only; omega)) (by first | omega | (dsimp only; omega)) (by first | omega | (dsimp only; omega)) (by first | omega | (dsimp only; omega)) (by first | omega | (dsimp only; omega)))
theorem ok_16 {N : Nat} (hN : 100000 ≤ N) : OK_16 N Rel := by
  intro a1 a2 mm h
  obtain ⟨n, K, W, F, d, s, t, C, M, hd, hd', hd9, hs, hs', hs40, ht, ht', ht40⟩ := Rel_data h
  have hn := C.2.1
  rcases rng a1 6 with ⟨r, hr, -, rfl⟩ | hb
  rotate_left
  · refine ⟨-1, mm, mm, ?_, ?_, h⟩
    · unfold fX11_best
      refine st_b (rowOf_n hb) ?_
      rcases rng a2 6 with ⟨q, hq, -, rfl⟩ | hb3
      · exact st_b (rowOf_t hq) (st_c0 rfl)
      · exact st_b (rowOf_n hb3) (st_c0 rfl)
    · unfold fX12_best
      exact st_b (isRow_n hb) (st_t rfl rfl)
  rcases rng a2 6 with ⟨q, hq, -, rfl⟩ | hb
  rotate_left
  · refine ⟨-1, mm, mm, ?_, ?_, h⟩
    · unfold fX11_best
      exact st_b (rowOf_t hr) (st_b (rowOf_n hb) (st_c (st_c0 rfl)))
    · unfold fX12_best
      exact st_b (isRow_t hr) (st_f (by decide) (st_b (isRow_n hb) (st_t rfl rfl)))
  rcases one_e (a := 1) hN h C M hr (by first | omega | (dsimp only; omega)) ht ht' ht40 with ⟨f, hf, e1, e2⟩ | ⟨e1, z1, z2, L1, v1, e2⟩
  · refine ⟨-3, cRef f mm, mMeet f (cRef f mm), ?_, ?_, rel_ref h hf⟩
    · unfold fX11_best
      exact st_b (rowOf_t hr) (st_b (rowOf_t hq) (st_c (st_c (st_b e1 (st_f (by decide) rfl)))))
    · unfold fX12_best
      exact st_b (isRow_t hr) (st_f (by decide) (st_b (isRow_t hq) (st_f (by decide) (st_b (e2 _ (fun k j hk => rd_cRef (by first | omega | (dsimp only; omega)) (by first | omega | (dsimp only; omega)))) (st_f (by decide) rfl)))))
  · obtain ⟨x1, x2⟩ := lay_n L1
    generalize lO (fun j => rd mm (96 + 2 * r) j) = x at x1 x2
    have x1' : HA mm (96 + 2 * r) n x := x1
    have x3 : ∀ i, i < n → x i ≤ 1000 := fun i hi => by have := x2 i hi; omega
    obtain ⟨m1, c1, c2, c3⟩ := run_e (N := N) (d := d) (most := s) hN hd9 (by first | omega | (dsimp only; omega)) (ln_row hr) (by first | omega | (dsimp only; omega)) (by first | omega | (dsimp only; omega)) x3 C x1'
    obtain ⟨y, y1, y2, y3⟩ := bst_e (n := n) _ (lvs_ne (K := K) (W := W) (F := F) (d := d) (s := 0) (L := s) (z := x) n 0 (fun _ => 0) (fun _ => 0) 0 0 (by first | omega | (dsimp only; omega)))
    obtain ⟨-, -, c4, -⟩ := c3
    obtain ⟨b1, b2, b3, b4, b5, b6⟩ := c4 y y1
    obtain ⟨m2, d1, d2, d3, d4⟩ := take_e (N := N) (p := 36) hq rfl hn (by first | omega | (dsimp only; omega)) b3
    have hA : MA mm (wr m2 0 14 (nI y.2.1)) := fun k j hk => by rw [rd_wr_k (by first | omega | (dsimp only; omega)), d2.2 _ _ (by first | omega | (dsimp only; omega)), c2.2 _ _ (by first | omega | (dsimp only; omega))]
    have M1 := hA.ms M
    obtain ⟨ma, k1, k2, k3⟩ := takes_e (N := N) (s := 1) (x := x) hN hr (by first | omega | (dsimp only; omega)) M1 (fun i hi => by rw [hA _ _ (by first | omega | (dsimp only; omega)), ← v1 i hi]; exact x1 i hi)
    have M2 : MS ma n K W F := MS_c M1 (fun k j e => k2.2 _ _ (by first | omega | (dsimp only; omega)))
    obtain ⟨mb, l1, l2, l3, -⟩ := setBest_e (N := N) (d := d) (L := s) (z := x) hN hd9 (by first | omega | (dsimp only; omega)) x3 M2 (by rw [k2.2 _ _ (by first | omega | (dsimp only; omega)), hA _ _ (by first | omega | (dsimp only; omega))]; exact hd') k3
    obtain ⟨g1, g2, g3, -⟩ := l3 y y1
    have M3 : MS mb n K W F := MS_c M2 (fun k j e => l2.2 _ _ (by first | omega | (dsimp only; omega)))
    obtain ⟨mc, o1, o2, o3, o4⟩ := layB_e (N := N) (r := q) hN hq M3 g3
    refine ⟨nI y.1, wr m2 0 14 (nI y.2.1), wr mc 175 2 (nI y.2.1), ?_, ?_, ?_⟩
    · unfold fX11_best
      refine st_b (rowOf_t hr) (st_b (rowOf_t hq) (st_c (st_c (st_b e1 (st_t rfl ?_)))))
      simp only [LXa, LXb, fr_row hr]
      refine st_g (by decide) ?_
      rw [show ((0 : Int32).toNatClampNeg) = 0 from rfl, hd, hs]
      refine st_b c1 ?_
      rw [c2.2 3 5 (by first | omega | (dsimp only; omega)), C.1]
      refine st_b d1 (st_n ?_)
      rw [d2.2 35 2 (by first | omega | (dsimp only; omega)), b2, rd_wr_k (by first | omega | (dsimp only; omega)), d2.2 35 1 (by first | omega | (dsimp only; omega)), b1]
    · unfold fX12_best
      refine st_b (isRow_t hr) (st_f (by decide) (st_b (isRow_t hq) (st_f (by decide) (st_b (e2 _ hA) (st_t (by decide) (st_b k1 ?_))))))
      simp only [LXm]
      refine st_g (by decide) ?_
      rw [show ((0 : Int32).toNatClampNeg) = 0 from rfl, k2.2 183 0 (by first | omega | (dsimp only; omega)), hA 183 0 (by first | omega | (dsimp only; omega)), hs']
      refine st_b l1 (st_b o1 ?_)
      rw [o2.2 175 25 (by first | omega | (dsimp only; omega)), o2.2 175 24 (by first | omega | (dsimp only; omega)), g1, g2]
      unfold fX12_ask
      rfl
    · have F1 : Fr (ScA q) mm (wr m2 0 14 (nI y.2.1)) := by
        refine fr_wr ((c2.mono (fun k j e => Or.inl ?_)).tr (d2.mono (fun k j e => Or.inr (Or.inr (Or.inr ?_))))) (Or.inr (Or.inr (Or.inl (Or.inl ⟨rfl, rfl⟩))))
        · unfold ScC; omega
        · unfold RwC; omega
      have F2 : Fr (ScA q) (wr m2 0 14 (nI y.2.1)) (wr mc 175 2 (nI y.2.1)) := by
        refine fr_wr ((k2.mono (fun k j e => Or.inr (Or.inl ?_))).tr ((l2.mono (fun k j e => Or.inr (Or.inl ?_))).tr (o2.mono (fun k j e => Or.inr (Or.inr (Or.inr ?_)))))) (Or.inr (Or.inr (Or.inl (Or.inr ⟨rfl, rfl⟩))))
        · unfold ScM; omega
        · unfold ScM; omega
        · unfold RwC; omega
      refine Rel_row (r := q) h (F1.tr F2) ?_ ?_ (fun _ => Or.inr ⟨n, by omega, ?_, ?_, fun i hi => ⟨?_, trivial⟩⟩)
      · exact RA_keep h.2.2.2.2.1 (fun k _ _ _ _ _ _ _ _ _ => by rw [rd_wr_k (by first | omega | (dsimp only; omega)), o2.2 _ _ (by first | omega | (dsimp only; omega)), l2.2 _ _ (by first | omega | (dsimp only; omega)), k2.2 _ _ (by first | omega | (dsimp only; omega)), rd_wr_k (by first | omega | (dsimp only; omega)), d2.2 _ _ (by first | omega | (dsimp only; omega)), c2.2 _ _ (by first | omega | (dsimp only; omega))])
      · rw [rd_wr_s, rd_wr_k (by first | omega | (dsimp only; omega)), o2.2 _ _ (by first | omega | (dsimp only; omega)), l2.2 _ _ (by first | omega | (dsimp only; omega)), k2.2 _ _ (by first | omega | (dsimp only; omega)), rd_wr_s]
      · rw [rd_wr_k (by first | omega | (dsimp only; omega)), o2.2 _ _ (by first | omega | (dsimp only; omega)), l2.2 _ _ (by first | omega | (dsimp only; omega)), k2.2 _ _ (by first | omega | (dsimp only; omega)), rd_wr_k (by first | omega | (dsimp only; omega))]; exact d3
      · rw [rd_wr_k (by first | omega | (dsimp only; omega))]; exact o3
      · simp only
        rw [rd_wr_k (by first | omega | (dsimp only; omega)), o2.2 _ _ (by first | omega | (dsimp only; omega)), l2.2 _ _ (by first | omega | (dsimp only; omega)), k2.2 _ _ (by first | omega | (dsimp only; omega)), rd_wr_k (by first | omega | (dsimp only; omega)), d4 i hi, rd_wr_k (by first | omega | (dsimp only; omega))]
        exact (o4 i hi).symm
