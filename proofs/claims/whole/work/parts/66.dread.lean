/-! pure: the worst that side 1 can do; sure -/
def mnL (a : Nat) (xs : List Lf) : Nat := xs.foldl (fun a x => if a ≤ x.1 then a else x.1) a
theorem mnL_le : ∀ (xs : List Lf) (a v : Nat), mnL a xs ≤ v ↔ a ≤ v ∨ ∃ x ∈ xs, x.1 ≤ v := by
  intro xs
  induction xs with
  | nil => intro a v; exact ⟨fun h => Or.inl h, fun h => by rcases h with h | ⟨x, hx, _⟩; exact h; cases hx⟩
  | cons y xs ih =>
    intro a v
    show mnL (if a ≤ y.1 then a else y.1) xs ≤ v ↔ _
    rw [ih]
    constructor
    · rintro (h | ⟨x, hx, h⟩)
      · by_cases hc : a ≤ y.1
        · rw [if_pos hc] at h; exact Or.inl h
        · rw [if_neg hc] at h; exact Or.inr ⟨y, List.mem_cons_self, h⟩
      · exact Or.inr ⟨x, List.mem_cons_of_mem _ hx, h⟩
    · rintro (h | ⟨x, hx, h⟩)
      · left; split <;> omega
      · rcases List.mem_cons.mp hx with q | q
        · left; rw [q] at h; split <;> omega
        · exact Or.inr ⟨x, q, h⟩
theorem mnL_a {xs : List Lf} {a : Nat} : mnL a xs ≤ a := (mnL_le xs a a).mpr (Or.inl (Nat.le_refl _))
theorem mnL_mono {xs : List Lf} {a b : Nat} (h : a ≤ b) : mnL a xs ≤ mnL b xs := by
  rw [mnL_le]
  rcases (mnL_le xs b (mnL b xs)).mp (Nat.le_refl _) with q | q
  · exact Or.inl (by first | omega | (dsimp only; omega))
  · exact Or.inr q
theorem mnL_app {xs ys : List Lf} {a : Nat} : mnL a (xs ++ ys) = mnL (mnL a xs) ys := List.foldl_append
theorem mnL_big {xs : List Lf} {a b v : Nat} (h : ∃ x ∈ xs, x.1 ≤ v) (ha : v ≤ a) (hb : v ≤ b) : mnL a xs = mnL b xs := by
  have key : ∀ a b, v ≤ a → v ≤ b → mnL a xs ≤ mnL b xs := by
    intro a b _ hb
    rw [mnL_le]
    rcases (mnL_le xs b (mnL b xs)).mp (Nat.le_refl _) with q | q
    · obtain ⟨x, h1, h2⟩ := h
      exact Or.inr ⟨x, h1, by omega⟩
    · exact Or.inr q
  exact Nat.le_antisymm (key a b ha hb) (key b a hb ha)
theorem mnL_ge {xs : List Lf} {a : Nat} (h : ∀ x ∈ xs, a ≤ x.1) : mnL a xs = a := by
  refine Nat.le_antisymm mnL_a ?_
  rcases (mnL_le xs a (mnL a xs)).mp (Nat.le_refl _) with q | ⟨x, q1, q2⟩
  · exact q
  · exact Nat.le_trans (h x q1) q2
theorem lvs_sc {n : Nat} {K W F : Nat → Nat} {d s L : Nat} {z : Nat → Nat} (hW : ∀ i, i < n → W i ≤ 9) : ∀ r i w l sc sh x, i + r ≤ n → x ∈ lvs K W F d z s L r i w l sc sh → x.1 ≤ sc + 18 * r := by
  intro r
  induction r with
  | zero =>
    intro i w l sc sh x hi h
    obtain rfl : x = (sc, sh, l) := List.mem_singleton.mp h
    exact Nat.le_refl _
  | succ r ih =>
    intro i w l sc sh x hi h
    obtain ⟨e, y, h1, h2, h3, h4⟩ := lvs_s.mp h
    have := ih _ _ _ _ _ _ (by first | omega | (dsimp only; omega)) h4
    have := pts_18 (s := 0) (e := e) (hW i (by first | omega | (dsimp only; omega)))
    omega
/-- the class' answer b, floor en -/
def DR (en : Int) (a : Nat) (xs : List Lf) (b : Nat) : Prop := b = mnL a xs ∨ ((b : Int) ≤ en ∧ mnL a xs ≤ b)
theorem DR.app {en : Int} {a b c : Nat} {xs ys : List Lf} (h : DR en a xs b) (h2 : DR en b ys c) : DR en a (xs ++ ys) c := by
  unfold DR
  rw [mnL_app]
  rcases h with h | ⟨h, h'⟩
  · rw [← h]; exact h2
  · have hm : mnL (mnL a xs) ys ≤ mnL b ys := mnL_mono h'
    rcases h2 with h2 | ⟨h2, h2'⟩
    · have : mnL b ys ≤ b := mnL_a
      exact Or.inr ⟨by omega, by omega⟩
    · exact Or.inr ⟨h2, by omega⟩
section Dr
variable {N n d q Q T : Nat} {K W F z : Nat → Nat}
def BD (mm : Mm) (n d q i : Nat) (en : Int32) (K W F z w : Nat → Nat) : Prop := CS mm n K W F ∧ rd mm 3 6 = nI d ∧ rd mm 40 2 = en ∧ HA mm q n z ∧ HA mm 41 i w ∧ ∀ j, j < i → w j ≤ 2
theorem BD.c {mm m2 : Mm} {i : Nat} {en : Int32} {w : Nat → Nat} (h : BD mm n d q i en K W F z w) (hq : q < 40 ∨ 41 < q) (hi : i ≤ n) (f : Fr (fun k j => (k = 40 ∧ j = 1) ∨ (k = 41 ∧ i ≤ j ∧ j < n)) mm m2) : BD m2 n d q i en K W F z w := by
  obtain ⟨h1, h2, h3, h4, h5, h8⟩ := h
  exact ⟨CS_c h1 (fun k j e => f.2 _ _ (by first | omega | (dsimp only; omega))), by rw [f.2 _ _ (by first | omega | (dsimp only; omega))]; exact h2, by rw [f.2 _ _ (by first | omega | (dsimp only; omega))]; exact h3, h4.c (fun j hj => f.2 _ _ (by first | omega | (dsimp only; omega))), h5.c (fun j hj => f.2 _ _ (by first | omega | (dsimp only; omega))), h8⟩
theorem dread_l {en : Int32} (hN : 100000 ≤ N) (hd9 : d ≤ 9) (hT : T ≤ 40) (hQ : ln q = Q) (hQ6 : 6 ≤ Q ∧ Q ≤ 1000) (hq : q < 40 ∨ 41 < q) (hz : ∀ i, i < n → z i ≤ 1000) (hn6 : n ≤ 6) : ∀ r i w l sc sh mm a D, i + r = n → r < D → BD mm n d q i en K W F z w → rd mm 40 1 = nI a → a ≤ 1000000 → sc ≤ 18 * i → sh ≤ T → ∃ m' b, fX1_branch N D 40 3 q (nI i) (nI (T - sh)) (nI sc) mm = some ((), m') ∧ Fr (fun k j => (k = 40 ∧ j = 1) ∨ (k = 41 ∧ i ≤ j ∧ j < n)) mm m' ∧ rd m' 40 1 = nI b ∧ b ≤ 1000000 ∧ DR en.toInt a (lvs K W F d z 1 T r i w l sc sh) b := by
  intro r
  induction r with
  | zero =>
    intro i w l sc sh mm a D hi hD hB ha ha6 hsc hsh
    obtain ⟨D, rfl⟩ : ∃ g, D = g + 1 := ⟨D - 1, by omega⟩
    obtain rfl : i = n := by omega
    have hx : mnL a [(sc, sh, l)] = if a ≤ sc then a else sc := rfl
    obtain ⟨h1, h2, h3, h4, h5, h8⟩ := hB
    unfold fX1_branch fX1_branch_0 fX1_branch_45
    rw [ha, h3]
    by_cases c1 : a ≤ sc
    · refine ⟨mm, a, st_t (nI_le c1 (by first | omega | (dsimp only; omega))) rfl, Fr.rf, ha, ha6, Or.inl ?_⟩
      show a = mnL a [(sc, sh, l)]
      rw [hx, if_pos c1]
    by_cases c2 : en < nI a
    · refine ⟨wr mm 40 1 (nI sc), sc, st_f (nI_ge (by first | omega | (dsimp only; omega)) (by first | omega | (dsimp only; omega))) (st_t c2 (st_b (suitOf_e h1) (st_c0 (st_n rfl)))), fr_wr Fr.rf (by first | omega | (dsimp only; omega)), rd_wr_s, by omega, Or.inl ?_⟩
      show sc = mnL a [(sc, sh, l)]
      rw [hx, if_neg c1]
    · refine ⟨mm, a, st_f (nI_ge (by first | omega | (dsimp only; omega)) (by first | omega | (dsimp only; omega))) (st_f c2 rfl), Fr.rf, ha, ha6, Or.inr ⟨?_, mnL_a⟩⟩
      rw [i_lt, nI_toInt (by first | omega | (dsimp only; omega))] at c2
      omega
  | succ r ih =>
    intro i w l sc sh mm a D hi hD hB ha ha6 hsc hsh
    obtain ⟨D, rfl⟩ : ∃ g, D = g + 1 := ⟨D - 1, by omega⟩
    have hin : i < n := by omega
    have loop : ∀ c e mm a, e + c = 3 → BD mm n d q i en K W F z w → rd mm 40 1 = nI a → a ≤ 1000000 → ∀ f, c < f → ∃ m' b, fX1_branch_55 N (fX1_branch N D) f 40 3 q (nI i) (nI (T - sh)) (nI sc) (17 + i) (nI e) mm = some ((), m') ∧ Fr (fun k j => (k = 40 ∧ j = 1) ∨ (k = 41 ∧ i ≤ j ∧ j < n)) mm m' ∧ rd m' 40 1 = nI b ∧ b ≤ 1000000 ∧ DR en.toInt a (lvC (fun e => match nd K F d w z 1 i e with
        | none => []
        | some x => if sh + x ≤ T then lvs K W F d z 1 T r (i + 1) (up w i e) (up l i x) (sc + pts (W i) 0 e) (sh + x) else []) c e) b := by
      intro c
      induction c with
      | zero =>
        intro e mm a he hB ha ha6 f hf
        obtain ⟨f, rfl⟩ : ∃ g, f = g + 1 := ⟨f - 1, by omega⟩
        refine ⟨mm, a, ?_, Fr.rf, ha, ha6, Or.inl rfl⟩
        unfold fX1_branch_55
        exact st_t (nI_le (by first | omega | (dsimp only; omega)) (by first | omega | (dsimp only; omega))) rfl
      | succ c ihc =>
        intro e mm a he hB ha ha6 f hf
        obtain ⟨f, rfl⟩ : ∃ g, f = g + 1 := ⟨f - 1, by omega⟩
        have hB0 := hB
        obtain ⟨h1, h2, h3, h4, h5, h8⟩ := hB
        obtain ⟨u, k1, k2, k3, k4, k5, k6, k7⟩ := h1.2.2 i hin
        obtain ⟨R, r1, r2⟩ := cneed_e (N := N) (d := d) (w := w) (z := z) (p := 41) (s := 1) (i := i) (e := e) h1 hd9 hin (by first | omega | (dsimp only; omega)) (by first | omega | (dsimp only; omega)) rfl (fun q => ⟨h5 _ (k6 q), h8 _ (k6 q)⟩) (hz i hin)
        have pts18 := pts_18 (s := 0) (e := e) k3
        have hstep : ∀ rr, (if R < 0 then fX1_branch_55 N (fX1_branch N D) f 40 3 q (nI i) (nI (T - sh)) (nI sc) (17 + i) (nI (e + 1)) mm else if nI (T - sh) < R then fX1_branch_55 N (fX1_branch N D) f 40 3 q (nI i) (nI (T - sh)) (nI sc) (17 + i) (nI (e + 1)) mm else bd2 (fX9_points N (17 + i) 0 (nI e) (wr mm 41 i (nI e))) fun x13 m14 => bd2 (fX1_branch N D 40 3 q (nI (i + 1)) (nI (T - sh) - R) (nI sc + x13) m14) fun x16 m17 => fX1_branch_55 N (fX1_branch N D) f 40 3 q (nI i) (nI (T - sh)) (nI sc) (17 + i) (nI (e + 1)) m17) = rr → fX1_branch_55 N (fX1_branch N D) (f + 1) 40 3 q (nI i) (nI (T - sh)) (nI sc) (17 + i) (nI e) mm = rr := by
          intro rr hrr
          unfold fX1_branch_55 fX1_branch_127
          simp only [LXb, nI_nat (show i < 2147483648 by omega), nI_1, h2, h4 i hin]
          refine st_f (nI_ge (by first | omega | (dsimp only; omega)) (by first | omega | (dsimp only; omega))) (st_k hQ (by first | omega | (dsimp only; omega)) (by first | omega | (dsimp only; omega)) (st_b r1 ?_))
          rw [← hrr]
          by_cases c1 : R < 0
          · rw [if_pos c1, if_pos c1]
          rw [if_neg c1, if_neg c1]
          by_cases c2 : nI (T - sh) < R
          · rw [if_pos c2, if_pos c2]
          rw [if_neg c2, if_neg c2]
          exact st_k rfl (by first | omega | (dsimp only; omega)) (by first | omega | (dsimp only; omega)) (st_n rfl)
        have skip : (match nd K F d w z 1 i e with
            | none => []
            | some x => if sh + x ≤ T then lvs K W F d z 1 T r (i + 1) (up w i e) (up l i x) (sc + pts (W i) 0 e) (sh + x) else []) = [] → (R < 0 ∨ nI (T - sh) < R) → ∃ m' b, fX1_branch_55 N (fX1_branch N D) (f + 1) 40 3 q (nI i) (nI (T - sh)) (nI sc) (17 + i) (nI e) mm = some ((), m') ∧ Fr (fun k j => (k = 40 ∧ j = 1) ∨ (k = 41 ∧ i ≤ j ∧ j < n)) mm m' ∧ rd m' 40 1 = nI b ∧ b ≤ 1000000 ∧ DR en.toInt a (lvC (fun e => match nd K F d w z 1 i e with
              | none => []
              | some x => if sh + x ≤ T then lvs K W F d z 1 T r (i + 1) (up w i e) (up l i x) (sc + pts (W i) 0 e) (sh + x) else []) (c + 1) e) b := by
          intro hnil hR
          obtain ⟨m', b, a1, a2, a3, a4, a5⟩ := ihc (e + 1) mm a (by first | omega | (dsimp only; omega)) hB0 ha ha6 f (by first | omega | (dsimp only; omega))
          refine ⟨m', b, hstep _ ?_, a2, a3, a4, ?_⟩
          · by_cases c1 : R < 0
            · exact st_t c1 a1
            · refine st_f c1 ?_
              rcases hR with q | q
              · exact absurd q c1
              · exact st_t q a1
          · unfold lvC
            rw [hnil]
            exact a5
        rcases r2 with ⟨q1, q2⟩ | ⟨y, qy, q1, q3⟩
        · exact skip (by rw [q2]) (Or.inl (by rw [q1]; decide))
        · by_cases hy : y ≤ 40
          · rw [if_pos hy] at q3
            by_cases hLy : sh + y ≤ T
            · have hup : Fr (fun k j => (k = 40 ∧ j = 1) ∨ (k = 41 ∧ i ≤ j ∧ j < n)) mm (wr mm 41 i (nI e)) := fr_wr Fr.rf (by first | omega | (dsimp only; omega))
              obtain ⟨p1, p2, p3, p4, p5, p8⟩ := hB0.c hq (by first | omega | (dsimp only; omega)) hup
              have hB1 : BD (wr mm 41 i (nI e)) n d q (i + 1) en K W F z (up w i e) := by
                refine ⟨p1, p2, p3, p4, fun j hj => ?_, fun j hj => ?_⟩
                · by_cases hji : j = i
                  · subst hji; rw [up_s, rd_wr_s]
                  · rw [up_o hji]; exact p5 j (by first | omega | (dsimp only; omega))
                · by_cases hji : j = i
                  · subst hji; rw [up_s]; omega
                  · rw [up_o hji]; exact h8 j (by first | omega | (dsimp only; omega))
              obtain ⟨m1, b1, a1, a2, a3, a4, a5⟩ := ih (i + 1) (up w i e) (up l i y) (sc + pts (W i) 0 e) (sh + y) _ a D (by first | omega | (dsimp only; omega)) (by first | omega | (dsimp only; omega)) hB1 (by rw [rd_wr_k (by first | omega | (dsimp only; omega))]; exact ha) ha6 (by first | omega | (dsimp only; omega)) hLy
              have hfr1 : Fr (fun k j => (k = 40 ∧ j = 1) ∨ (k = 41 ∧ i ≤ j ∧ j < n)) mm m1 := hup.tr (a2.mono (fun k j e => by omega))
              obtain ⟨m2, b2, o1, o2, o3, o4, o5⟩ := ihc (e + 1) m1 b1 (by first | omega | (dsimp only; omega)) (hB0.c hq (by first | omega | (dsimp only; omega)) hfr1) a3 a4 f (by first | omega | (dsimp only; omega))
              refine ⟨m2, b2, hstep _ ?_, hfr1.tr o2, o3, o4, ?_⟩
              · rw [q1]
                refine st_f (nI_pos (by first | omega | (dsimp only; omega))) (st_f (nI_nlt (by first | omega | (dsimp only; omega)) (by first | omega | (dsimp only; omega))) ?_)
                have u2 : SU (wr mm 41 i (nI e)) (17 + i) (K i) (W i) (F i) := (p1.2.2 i hin).1
                refine st_b (points_e (s := 0) u2 (by first | omega | (dsimp only; omega)) (by first | omega | (dsimp only; omega))) ?_
                rw [nI_add, nI_sub (by first | omega | (dsimp only; omega)), show T - sh - y = T - (sh + y) by omega]
                exact st_b a1 o1
              · unfold lvC
                simp only [q3, if_pos hLy]
                exact a5.app o5
            · refine skip (by rw [q3]; exact if_neg hLy) (Or.inr ?_)
              rw [q1]
              exact nI_lt (by first | omega | (dsimp only; omega)) (by first | omega | (dsimp only; omega))
          · rw [if_neg hy] at q3
            refine skip (by rw [q3]) (Or.inr ?_)
            rw [q1]
            exact nI_lt (by first | omega | (dsimp only; omega)) (by first | omega | (dsimp only; omega))
    unfold fX1_branch fX1_branch_0
    have hB0 := hB
    obtain ⟨h1, h2, h3, h4, h5, h8⟩ := hB
    rw [ha, h3]
    by_cases c1 : a ≤ sc
    · refine ⟨mm, a, st_t (nI_le c1 (by first | omega | (dsimp only; omega))) rfl, Fr.rf, ha, ha6, Or.inl ?_⟩
      exact (mnL_ge (fun x hx => by have := (lvs_ge _ _ _ _ _ _ _ hx).1; omega)).symm
    by_cases c2 : en < nI a
    · obtain ⟨m', b, l1, l2, l3, l4, l5⟩ := loop 3 0 mm a (by first | omega | (dsimp only; omega)) hB0 ha ha6 N (by first | omega | (dsimp only; omega))
      refine ⟨m', b, st_f (nI_ge (by first | omega | (dsimp only; omega)) (by first | omega | (dsimp only; omega))) (st_t c2 (st_b (suitOf_t h1 hin) (st_c (st_f (nI_ge (by first | omega | (dsimp only; omega)) (by first | omega | (dsimp only; omega))) (st_t ?_ l1))))), l2, l3, l4, l5⟩
      rw [hQ]
      exact nI_lt (by first | omega | (dsimp only; omega)) (by first | omega | (dsimp only; omega))
    · refine ⟨mm, a, st_f (nI_ge (by first | omega | (dsimp only; omega)) (by first | omega | (dsimp only; omega))) (st_f c2 rfl), Fr.rf, ha, ha6, Or.inr ⟨?_, mnL_a⟩⟩
      rw [i_lt, nI_toInt (by first | omega | (dsimp only; omega))] at c2
      omega
/-- SURE of a laying -/
def sureN (K W F : Nat → Nat) (d T n : Nat) (z : Nat → Nat) : Nat := mnL 1000 (lvs K W F d z 1 T n 0 (fun _ => 0) (fun _ => 0) 0 0)
theorem sure_b {T : Nat} (hW : ∀ i, i < n → W i ≤ 9) (hn : n ≤ 6) : sureN K W F d T n z ≤ 108 ∧ ∀ a, 108 ≤ a → mnL a (lvs K W F d z 1 T n 0 (fun _ => 0) (fun _ => 0) 0 0) = sureN K W F d T n z := by
  obtain ⟨x, hx⟩ := lvs_ne (K := K) (W := W) (F := F) (d := d) (s := 1) (L := T) (z := z) n 0 (fun _ => 0) (fun _ => 0) 0 0 (by first | omega | (dsimp only; omega))
  have h1 := lvs_sc hW n 0 _ _ 0 0 x (by first | omega | (dsimp only; omega)) hx
  have h2 : ∃ x ∈ lvs K W F d z 1 T n 0 (fun _ => 0) (fun _ => 0) 0 0, x.1 ≤ 108 := ⟨x, hx, by omega⟩
  exact ⟨(mnL_le _ _ _).mpr (Or.inr h2), fun a ha => mnL_big h2 ha (by first | omega | (dsimp only; omega))⟩
theorem least_c {mm : Mm} {en : Int32} (hN : 100000 ≤ N) (hd9 : d ≤ 9) (hT : T ≤ 40) (hQ : ln q = Q) (hQ6 : 6 ≤ Q ∧ Q ≤ 1000) (hq : q < 40 ∨ 41 < q) (hz : ∀ i, i < n → z i ≤ 1000) (C : CS mm n K W F) (hd : rd mm 3 6 = nI d) (ht : rd mm 5 1 = nI T) (hZ : HA mm q n z) : ∃ m' b, fX1_leastFor N 40 3 q en mm = some (nI b, m') ∧ Fr (fun k _ => k = 40 ∨ k = 41) mm m' ∧ b ≤ 1000000 ∧ (b = sureN K W F d T n z ∨ ((b : Int) ≤ en.toInt ∧ sureN K W F d T n z ≤ b)) := by
  have hn6 := C.2.1
  have hfr : Fr (fun k _ => k = 40 ∨ k = 41) mm (wr (wr mm 40 1 1000000) 40 2 en) := fr_wr (fr_wr Fr.rf (by first | omega | (dsimp only; omega))) (by first | omega | (dsimp only; omega))
  obtain ⟨m', b, a1, a2, a3, a4, a5⟩ := dread_l (N := N) (d := d) (q := q) (T := T) (z := z) (en := en) hN hd9 hT hQ hQ6 hq hz hn6 n 0 (fun _ => 0) (fun _ => 0) 0 0 (wr (wr mm 40 1 1000000) 40 2 en) 1000000 9 (by first | omega | (dsimp only; omega)) (by first | omega | (dsimp only; omega)) ⟨CS_c C (fun k j e => hfr.2 _ _ (by first | omega | (dsimp only; omega))), by rw [hfr.2 _ _ (by first | omega | (dsimp only; omega))]; exact hd, by rw [rd_wr_s], hZ.c (fun i hi => hfr.2 _ _ (by first | omega | (dsimp only; omega))), fun j hj => by omega, fun j hj => by omega⟩ (by rw [rd_wr_j (by first | omega | (dsimp only; omega)), rd_wr_s]; rfl) (by first | omega | (dsimp only; omega)) (by first | omega | (dsimp only; omega)) (by first | omega | (dsimp only; omega))
  obtain ⟨s1, s2⟩ := sure_b (K := K) (W := W) (F := F) (d := d) (z := z) (T := T) (fun i hi => (C.2.2 i hi).2.2.2.1) hn6
  rw [show T - 0 = T from rfl] at a1
  refine ⟨m', b, ?_, hfr.tr (a2.mono (fun k j e => by omega)), a4, ?_⟩
  · unfold fX1_leastFor
    simp only [LXa]
    refine st_n (st_n (st_g (by decide) ?_))
    rw [show ((1 : Int32).toNatClampNeg) = 1 from rfl, hfr.2 5 1 (by first | omega | (dsimp only; omega)), ht]
    refine st_b a1 ?_
    rw [a3]
  · unfold DR at a5
    rw [s2 1000000 (by first | omega | (dsimp only; omega))] at a5
    exact a5
-- the model's
theorem mworst_l (hN : 100000 ≤ N) (hd9 : d ≤ 9) (hT : T ≤ 40) (hz : ∀ i, i < n → z i ≤ 1000) (hn6 : n ≤ 6) : ∀ r i w l sc sh mm a D, i + r = n → r < D → MI mm n d 1 i K W F z w → rd mm 183 1 = nI T → rd mm 175 31 = nI a → a ≤ 1000 → sc ≤ 18 * i → sh ≤ T → ∃ m', fX12_worstOn N D 175 (nI i) (nI sc) (nI sh) mm = some ((), m') ∧ Fr (fun k j => (k = 175 ∧ j = 31) ∨ (k = 187 ∧ i ≤ j ∧ j < n)) mm m' ∧ rd m' 175 31 = nI (mnL a (lvs K W F d z 1 T r i w l sc sh)) := by
  intro r
  induction r with
  | zero =>
    intro i w l sc sh mm a D hi hD hB hlim ha ha6 hsc hsh
    obtain ⟨D, rfl⟩ : ∃ g, D = g + 1 := ⟨D - 1, by omega⟩
    obtain rfl : i = n := by omega
    have hx : mnL a [(sc, sh, l)] = if a ≤ sc then a else sc := rfl
    refine ⟨wr mm 175 31 (nI (if a ≤ sc then a else sc)), ?_, fr_wr Fr.rf (by first | omega | (dsimp only; omega)), ?_⟩
    · unfold fX12_worstOn fX12_worstOn_0 fX12_worstOn_25
      rw [ha]
      refine st_t (by rw [hB.1.1]) ?_
      by_cases c1 : a ≤ sc
      · rw [if_pos c1]; exact st_t (nI_le c1 (by first | omega | (dsimp only; omega))) (st_n rfl)
      · rw [if_neg c1]; exact st_f (nI_ge (by first | omega | (dsimp only; omega)) (by first | omega | (dsimp only; omega))) (st_n rfl)
    · rw [rd_wr_s]; rfl
  | succ r ih =>
    intro i w l sc sh mm a D hi hD hB hlim ha ha6 hsc hsh
    obtain ⟨D, rfl⟩ : ∃ g, D = g + 1 := ⟨D - 1, by omega⟩
    have hin : i < n := by omega
    have loop : ∀ c e mm a, e + c = 3 → MI mm n d 1 i K W F z w → rd mm 183 1 = nI T → rd mm 175 31 = nI a → a ≤ 1000 → ∀ f, c < f → ∃ m', fX12_worstOn_32 N (fX12_worstOn N D) f 175 (nI i) (nI sc) (nI sh) (nI e) mm = some ((), m') ∧ Fr (fun k j => (k = 175 ∧ j = 31) ∨ (k = 187 ∧ i ≤ j ∧ j < n)) mm m' ∧ rd m' 175 31 = nI (mnL a (lvC (fun e => match nd K F d w z 1 i e with
        | none => []
        | some x => if sh + x ≤ T then lvs K W F d z 1 T r (i + 1) (up w i e) (up l i x) (sc + pts (W i) 0 e) (sh + x) else []) c e)) := by
      intro c
      induction c with
      | zero =>
        intro e mm a he hB hlim ha ha6 f hf
        obtain ⟨f, rfl⟩ : ∃ g, f = g + 1 := ⟨f - 1, by omega⟩
        refine ⟨mm, ?_, Fr.rf, ha⟩
        unfold fX12_worstOn_32
        exact st_t (nI_le (by first | omega | (dsimp only; omega)) (by first | omega | (dsimp only; omega))) rfl
      | succ c ihc =>
        intro e mm a he hB hlim ha ha6 f hf
        obtain ⟨f, rfl⟩ : ∃ g, f = g + 1 := ⟨f - 1, by omega⟩
        have hB0 := hB
        obtain ⟨h1, h2, h4, h5, h8⟩ := hB
        obtain ⟨-, k1, k2, k3, k4, k5, k6, k7⟩ := h1.2.2 i hin
        have r1 := mneed_e (N := N) (d := d) (w := w) (z := z) (s := 1) (i := i) (e := e) hN h1 h2 hd9 hin (by first | omega | (dsimp only; omega)) (by first | omega | (dsimp only; omega)) (fun q => ⟨h5 _ (k6 q), h8 _ (k6 q)⟩) (h4 i hin) (hz i hin)
        have pts18 := pts_18 (s := 0) (e := e) k3
        have skip : (match nd K F d w z 1 i e with
            | none => []
            | some x => if sh + x ≤ T then lvs K W F d z 1 T r (i + 1) (up w i e) (up l i x) (sc + pts (W i) 0 e) (sh + x) else []) = [] → (∀ R, fX12_worstOn_32 N (fX12_worstOn N D) f 175 (nI i) (nI sc) (nI sh) (nI (e + 1)) mm = R → fX12_worstOn_32 N (fX12_worstOn N D) (f + 1) 175 (nI i) (nI sc) (nI sh) (nI e) mm = R) → ∃ m', fX12_worstOn_32 N (fX12_worstOn N D) (f + 1) 175 (nI i) (nI sc) (nI sh) (nI e) mm = some ((), m') ∧ Fr (fun k j => (k = 175 ∧ j = 31) ∨ (k = 187 ∧ i ≤ j ∧ j < n)) mm m' ∧ rd m' 175 31 = nI (mnL a (lvC (fun e => match nd K F d w z 1 i e with
              | none => []
              | some x => if sh + x ≤ T then lvs K W F d z 1 T r (i + 1) (up w i e) (up l i x) (sc + pts (W i) 0 e) (sh + x) else []) (c + 1) e)) := by
          intro hnil hR
          obtain ⟨m', a1, a2, a3⟩ := ihc (e + 1) mm a (by first | omega | (dsimp only; omega)) hB0 hlim ha ha6 f (by first | omega | (dsimp only; omega))
          refine ⟨m', hR _ a1, a2, ?_⟩
          unfold lvC
          rw [hnil]
          exact a3
        cases hy : nd K F d w z 1 i e with
        | none =>
          refine skip (by rw [hy]) (fun R hR => ?_)
          unfold fX12_worstOn_32 fX12_worstOn_97
          rw [hy] at r1
          simp only [nI_1]
          exact st_f (nI_ge (by first | omega | (dsimp only; omega)) (by first | omega | (dsimp only; omega))) (st_b r1 (st_t rfl hR))
        | some y =>
          have y40 := nd_40 hy
          rw [hy] at r1
          by_cases hLy : sh + y ≤ T
          · have hup : Fr (fun k j => (k = 175 ∧ j = 31) ∨ (k = 187 ∧ i ≤ j ∧ j < n)) mm (wr mm 187 i (nI e)) := fr_wr Fr.rf (by first | omega | (dsimp only; omega))
            obtain ⟨p1, p2, p4, p5, p8⟩ := hB0.c (by first | omega | (dsimp only; omega)) (by first | omega | (dsimp only; omega)) (hup.mono (fun k j e => by omega))
            have hB1 : MI (wr mm 187 i (nI e)) n d 1 (i + 1) K W F z (up w i e) := by
              refine ⟨p1, p2, p4, fun j hj => ?_, fun j hj => ?_⟩
              · by_cases hji : j = i
                · subst hji; rw [up_s, rd_wr_s]
                · rw [up_o hji]; exact p5 j (by first | omega | (dsimp only; omega))
              · by_cases hji : j = i
                · subst hji; rw [up_s]; omega
                · rw [up_o hji]; exact h8 j (by first | omega | (dsimp only; omega))
            obtain ⟨m1, a1, a2, a3⟩ := ih (i + 1) (up w i e) (up l i y) (sc + pts (W i) 0 e) (sh + y) _ a D (by first | omega | (dsimp only; omega)) (by first | omega | (dsimp only; omega)) hB1 (by rw [rd_wr_k (by first | omega | (dsimp only; omega))]; exact hlim) (by rw [rd_wr_k (by first | omega | (dsimp only; omega))]; exact ha) ha6 (by first | omega | (dsimp only; omega)) hLy
            have hfr1 : Fr (fun k j => (k = 175 ∧ j = 31) ∨ (k = 187 ∧ i ≤ j ∧ j < n)) mm m1 := hup.tr (a2.mono (fun k j e => by omega))
            have hle := mnL_a (xs := lvs K W F d z 1 T r (i + 1) (up w i e) (up l i y) (sc + pts (W i) 0 e) (sh + y)) (a := a)
            obtain ⟨m2, o1, o2, o3⟩ := ihc (e + 1) m1 _ (by first | omega | (dsimp only; omega)) (hB0.c (by first | omega | (dsimp only; omega)) (by first | omega | (dsimp only; omega)) (hfr1.mono (fun k j e => by omega))) (by rw [hfr1.2 _ _ (by first | omega | (dsimp only; omega))]; exact hlim) a3 (by first | omega | (dsimp only; omega)) f (by first | omega | (dsimp only; omega))
            refine ⟨m2, ?_, hfr1.tr o2, ?_⟩
            · unfold fX12_worstOn_32 fX12_worstOn_97
              simp only [LXm, nI_nat (show i < 2147483648 by omega), nI_1]
              refine st_f (nI_ge (by first | omega | (dsimp only; omega)) (by first | omega | (dsimp only; omega))) (st_b r1 (st_f (neg9_ne (by first | omega | (dsimp only; omega))) (st_g (by decide) ?_)))
              rw [show ((1 : Int32).toNatClampNeg) = 1 from rfl, hlim]
              change (if nI T < nI sh + nI y then _ else _) = _
              rw [nI_add]
              refine st_f (nI_nlt (by first | omega | (dsimp only; omega)) (by first | omega | (dsimp only; omega))) (st_k rfl (by first | omega | (dsimp only; omega)) (by first | omega | (dsimp only; omega)) (st_n (st_b (mworth_e (s := 0) p1 hin (by first | omega | (dsimp only; omega)) (by first | omega | (dsimp only; omega))) ?_)))
              change bd2 (fX12_worstOn N D 175 (nI (i + 1)) (nI sc + nI (pts (W i) 0 e)) (nI sh + nI y) _) _ = _
              rw [nI_add, nI_add]
              exact st_b a1 o1
            · unfold lvC
              simp only [hy, if_pos hLy]
              rw [mnL_app]
              exact o3
          · refine skip (by rw [hy]; exact if_neg hLy) (fun R hR => ?_)
            unfold fX12_worstOn_32 fX12_worstOn_97
            simp only [LXm, nI_1]
            refine st_f (nI_ge (by first | omega | (dsimp only; omega)) (by first | omega | (dsimp only; omega))) (st_b r1 (st_f (neg9_ne (by first | omega | (dsimp only; omega))) (st_g (by decide) (st_t ?_ hR))))
            rw [show ((1 : Int32).toNatClampNeg) = 1 from rfl, hlim]
            change nI T < nI sh + nI y
            rw [nI_add]
            exact nI_lt (by first | omega | (dsimp only; omega)) (by first | omega | (dsimp only; omega))
    obtain ⟨m', l1, l2, l3⟩ := loop 3 0 mm a (by first | omega | (dsimp only; omega)) hB hlim ha ha6 N (by first | omega | (dsimp only; omega))
    refine ⟨m', ?_, l2, l3⟩
    unfold fX12_worstOn fX12_worstOn_0
    exact st_f (by rw [hB.1.1]; exact fun q => by have := nI_inj q (by first | omega | (dsimp only; omega)) (by first | omega | (dsimp only; omega)); omega) l1
theorem sureOf_e {mm : Mm} (hN : 100000 ≤ N) (hd9 : d ≤ 9) (hT : T ≤ 40) (hz : ∀ i, i < n → z i ≤ 1000) (M : MS mm n K W F) (hd : rd mm 175 13 = nI d) (ht : rd mm 183 1 = nI T) (hZ : HA mm 185 n z) : ∃ m', fX12_sureOf N 175 mm = some (nI (sureN K W F d T n z), m') ∧ Fr (fun k j => (k = 175 ∧ j = 31) ∨ k = 187) mm m' := by
  have hn6 := M.2.1
  have hfr : Fr (fun k j => (k = 175 ∧ j = 31) ∨ k = 187) mm (wr mm 175 31 1000) := fr_wr Fr.rf (by first | omega | (dsimp only; omega))
  obtain ⟨m', a1, a2, a3⟩ := mworst_l (N := N) (d := d) (T := T) (z := z) hN hd9 hT hz hn6 n 0 (fun _ => 0) (fun _ => 0) 0 0 (wr mm 175 31 1000) 1000 9 (by first | omega | (dsimp only; omega)) (by first | omega | (dsimp only; omega)) ⟨MS_c M (fun k j e => hfr.2 _ _ (by first | omega | (dsimp only; omega))), by rw [hfr.2 _ _ (by first | omega | (dsimp only; omega))]; exact hd, hZ.c (fun i hi => hfr.2 _ _ (by first | omega | (dsimp only; omega))), fun j hj => by omega, fun j hj => by omega⟩ (by rw [hfr.2 _ _ (by first | omega | (dsimp only; omega))]; exact ht) (by rw [rd_wr_s]; rfl) (by first | omega | (dsimp only; omega)) (by first | omega | (dsimp only; omega)) (by first | omega | (dsimp only; omega))
  refine ⟨m', ?_, hfr.tr (a2.mono (fun k j e => by omega))⟩
  unfold fX12_sureOf
  refine st_n (st_b a1 ?_)
  rw [a3]; rfl
end Dr
theorem ok_19 {N : Nat} (hN : 100000 ≤ N) : OK_19 N Rel := by
  intro a1 mm h
  obtain ⟨n, K, W, F, d, s, t, C, M, hd, hd', hd9, hs, hs', hs40, ht, ht', ht40⟩ := Rel_data h
  have hn := C.2.1
  rcases rng a1 6 with ⟨r, hr, -, rfl⟩ | hb
  rotate_left
  · refine ⟨-1, mm, mm, ?_, ?_, h⟩
    · unfold fX11_sure
      exact st_b (rowOf_n hb) (st_c0 rfl)
    · unfold fX12_sure
      exact st_b (isRow_n hb) (st_t rfl rfl)
  rcases one_e (a := 0) hN h C M hr (by first | omega | (dsimp only; omega)) hs hs' hs40 with ⟨f, hf, e1, e2⟩ | ⟨e1, z1, z2, L1, v1, e2⟩
  · refine ⟨-3, cRef f mm, mMeet f (cRef f mm), ?_, ?_, rel_ref h hf⟩
    · unfold fX11_sure
      exact st_b (rowOf_t hr) (st_c (st_b e1 (st_f (by decide) rfl)))
    · unfold fX12_sure
      exact st_b (isRow_t hr) (st_f (by decide) (st_b (e2 _ (fun k j hk => rd_cRef (by first | omega | (dsimp only; omega)) (by first | omega | (dsimp only; omega)))) (st_f (by decide) rfl)))
  · obtain ⟨x1, x2⟩ := lay_n L1
    generalize lO (fun j => rd mm (96 + 2 * r) j) = x at x1 x2
    have x1' : HA mm (96 + 2 * r) n x := x1
    have x3 : ∀ i, i < n → x i ≤ 1000 := fun i hi => by have := x2 i hi; omega
    obtain ⟨m1, b, c1, c2, c3, c4⟩ := least_c (N := N) (d := d) (T := t) (en := -1) hN hd9 ht40 (ln_row hr) (by first | omega | (dsimp only; omega)) (by first | omega | (dsimp only; omega)) x3 C hd ht x1'
    have hb : b = sureN K W F d t n x := by
      rcases c4 with c4 | ⟨c4, -⟩
      · exact c4
      · have : (-1 : Int32).toInt = -1 := rfl
        omega
    have hA : MA mm m1 := fun k j hk => c2.2 _ _ (by first | omega | (dsimp only; omega))
    have M1 := hA.ms M
    obtain ⟨ma, k1, k2, k3⟩ := takes_e (N := N) (s := 0) (x := x) hN hr (by first | omega | (dsimp only; omega)) M1 (fun i hi => by rw [hA _ _ (by first | omega | (dsimp only; omega)), ← v1 i hi]; exact x1 i hi)
    obtain ⟨mb, l1, l2⟩ := sureOf_e (N := N) (d := d) (T := t) (z := x) hN hd9 ht40 x3 (MS_c M1 (fun k j e => k2.2 _ _ (by first | omega | (dsimp only; omega)))) (by rw [k2.2 _ _ (by first | omega | (dsimp only; omega)), hA _ _ (by first | omega | (dsimp only; omega))]; exact hd') (by rw [k2.2 _ _ (by first | omega | (dsimp only; omega)), hA _ _ (by first | omega | (dsimp only; omega))]; exact ht') k3
    rw [hb] at c1
    refine ⟨nI (sureN K W F d t n x), m1, mb, ?_, ?_, ?_⟩
    · unfold fX11_sure
      refine st_b (rowOf_t hr) (st_c (st_b e1 (st_t rfl ?_)))
      simp only [LXa, fr_row hr]
      exact st_b c1 rfl
    · unfold fX12_sure
      exact st_b (isRow_t hr) (st_f (by decide) (st_b (e2 _ hA) (st_t (by decide) (st_b k1 (st_b l1 rfl)))))
    · refine Rel_row (r := 6) h ((c2.mono (fun k j e => Or.inl ?_)).tr ((k2.mono (fun k j e => Or.inr (Or.inl ?_))).tr (l2.mono (fun k j e => Or.inr (Or.inl ?_))))) ?_ ?_ (fun q => by omega)
      · unfold ScC; omega
      · unfold ScM; omega
      · unfold ScM; omega
      · exact RA_keep h.2.2.2.2.1 (fun k _ _ _ _ _ _ _ _ _ => by rw [l2.2 _ _ (by first | omega | (dsimp only; omega)), k2.2 _ _ (by first | omega | (dsimp only; omega)), c2.2 _ _ (by first | omega | (dsimp only; omega))])
      · rw [l2.2 _ _ (by first | omega | (dsimp only; omega)), k2.2 _ _ (by first | omega | (dsimp only; omega)), c2.2 _ _ (by first | omega | (dsimp only; omega)), l2.2 _ _ (by first | omega | (dsimp only; omega)), k2.2 _ _ (by first | omega | (dsimp only; omega)), c2.2 _ _ (by first | omega | (dsimp only; omega))]
        exact h.2.2.2.1.2.2.1
