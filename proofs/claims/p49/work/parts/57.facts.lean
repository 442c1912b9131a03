/-! what the numbers come to -/
section Fa
variable {n d s t : Nat} {K W F x y z : Nat → Nat}
/-- a laying's numbers -/
def LayN (n S : Nat) (x : Nat → Nat) : Prop := (∀ i, i < n → x i ≤ 40) ∧ smN x n ≤ S
theorem RX.lay {mm : Mm} {r S : Nat} (h : RX mm r n S x) : LayN n S x := h.2.2
/-- of suits -/
def SuN (n : Nat) (K W F : Nat → Nat) : Prop := 1 ≤ n ∧ n ≤ 4 ∧ ∀ i, i < n → kok (K i) (W i) (F i) i
theorem SuN.k (h : SuN n K W F) : ∀ j, j < n → K j = 5 → F j < j := fun j hj q => (h.2.2 j hj).2.2.2.2.2.1 q
theorem SuN.w (h : SuN n K W F) : ∀ i, i < n → W i ≤ 9 := fun i hi => (h.2.2 i hi).2.2.1
theorem wnS_0 : wnS K F d 0 x z = wn K F d x z := rfl
theorem wnS_1 : wnS K F d 1 x z = wn K F d z x := rfl
-- the best
theorem best_own {L : Nat} (h : SuN n K W F) {b : Lf} (hb : b ∈ lvA K W F d y 0 L n) : b.1 = scr W 0 (wn K F d b.2.2 y) n ∧ b.2.1 = smN b.2.2 n ∧ LayN n L b.2.2 := by
  obtain ⟨h1, h2, h3, h4⟩ := lvA_own h.k hb
  exact ⟨h1, h2, h3, by omega⟩
theorem best_ge (h : SuN n K W F) {b : Lf} (hb : ∀ x ∈ lvA K W F d y 0 s n, x.1 < b.1 ∨ (x.1 = b.1 ∧ b.2.1 ≤ x.2.1)) (hx : LayN n s x) : scr W 0 (wn K F d x y) n ≤ b.1 := by
  obtain ⟨v, v1, v2, v3⟩ := lvA_lay (K := K) (W := W) (F := F) (d := d) (s := 0) (z := y) h.k hx.1 hx.2
  rw [wnS_0] at v2
  have := hb v v1
  omega
theorem scr_w2 {w : Nat → Nat} (hw : ∀ i, w i ≤ 2) : scr W 0 w n ≤ 2 * smN W n := scr_2w hw n
theorem smW_54 (h : SuN n K W F) : smN W n ≤ 36 := by
  have := smN_le (f := W) (b := 9) n h.w
  have := h.2.1
  omega
theorem best_fp (hs : s ≤ 8) {b : Lf} (hm : b ∈ lvA K W F d y 0 s n) (hb : ∀ x ∈ lvA K W F d y 0 s n, x.1 < b.1 ∨ (x.1 = b.1 ∧ b.2.1 ≤ x.2.1)) : FP b.1 (some (b.2.1, b.1)) (lvA K W F d y 0 240 n) := by
  have hL := fun x => lvs_L (K := K) (W := W) (F := F) (d := d) (s := 0) (z := y) (L := 240) (L' := s) (by first | omega | (dsimp only; omega)) n 0 (fun _ => 0) (fun _ => 0) 0 0 x (by first | omega | (dsimp only; omega))
  refine ⟨fun p hp => ?_, fun q => by cases q⟩
  cases hp
  refine ⟨⟨b, ((hL b).mp hm).1, rfl, rfl, Nat.le_refl _⟩, fun x hx hv => ?_⟩
  have hbs := ((hL b).mp hm).2
  dsimp only
  by_cases hxs : x.2.1 ≤ s
  · have := hb x ((hL x).mpr ⟨hx, hxs⟩)
    omega
  · omega
theorem few_ex (h : SuN n K W F) (hs : s ≤ 8) (hx : LayN n s x) : ∃ p, FP (scr W 0 (wn K F d x y) n) (some p) (lvA K W F d y 0 240 n) := by
  obtain ⟨v, v1, v2, v3⟩ := lvA_lay (K := K) (W := W) (F := F) (d := d) (s := 0) (z := y) (L := 240) h.k hx.1 (by have := hx.2; first | omega | (dsimp only; omega))
  rw [wnS_0] at v2
  have hF := fst_p (v := scr W 0 (wn K F d x y) n) (lvA K W F d y 0 240 n) [] none ⟨fun p hp => (by cases hp), fun _ y hy => (by cases hy)⟩
  rw [List.nil_append] at hF
  cases hst : (lvA K W F d y 0 240 n).foldl (fst1 (scr W 0 (wn K F d x y) n)) none with
  | none =>
    rw [hst] at hF
    exact absurd (show scr W 0 (wn K F d x y) n ≤ v.1 by omega) (hF.2 rfl v v1)
  | some p =>
    rw [hst] at hF
    exact ⟨p, hF⟩
-- sure
theorem sure_le (h : SuN n K W F) (hy : LayN n t y) : sureN K W F d t n x ≤ scr W 0 (wn K F d x y) n := by
  obtain ⟨v, v1, v2, v3⟩ := lvA_lay (K := K) (W := W) (F := F) (d := d) (s := 1) (z := x) h.k hy.1 hy.2
  rw [wnS_1] at v2
  unfold sureN
  rw [← v2]
  exact (mnL_le _ _ _).mpr (Or.inr ⟨v, v1, Nat.le_refl _⟩)
theorem sure_108 (h : SuN n K W F) : sureN K W F d t n x ≤ 108 := (sure_b h.w (by have := h.2.1; first | omega | (dsimp only; omega))).1
theorem sure_at (h : SuN n K W F) : ∃ y, LayN n t y ∧ scr W 0 (wn K F d x y) n = sureN K W F d t n x := by
  have h8 := sure_108 (d := d) (t := t) (x := x) h
  have h1 := (mnL_le (lvA K W F d x 1 t n) 1000 (sureN K W F d t n x)).mp (Nat.le_refl _)
  rcases h1 with h1 | ⟨v, v1, v2⟩
  · omega
  · obtain ⟨o1, o2, o3, o4⟩ := lvA_own h.k v1
    rw [wnS_1] at o1
    refine ⟨v.2.2, ⟨o3, by omega⟩, ?_⟩
    have := sure_le (d := d) (x := x) h (show LayN n t v.2.2 from ⟨o3, by omega⟩)
    omega
theorem scr_cy (h : SuN n K W F) {y' : Nat → Nat} (e : ∀ j, j < n → y' j = y j) : scr W 0 (wn K F d x y') n = scr W 0 (wn K F d x y) n :=
  scr_c (fun i hi => wn_c n h.k (fun j hj => ⟨rfl, e j hj⟩) i hi)
theorem scr_cx (h : SuN n K W F) {x' : Nat → Nat} (e : ∀ j, j < n → x' j = x j) : scr W 0 (wn K F d x' y) n = scr W 0 (wn K F d x y) n :=
  scr_c (fun i hi => wn_c n h.k (fun j hj => ⟨e j hj, rfl⟩) i hi)
theorem enA_lay {S : Nat} (hS : S ≤ 8) {l : Nat → Nat} (hl : l ∈ enA n S) : LayN n S l := ⟨enA_40 (by first | omega | (dsimp only; omega)) hl, enA_le hl⟩
theorem sure_en (h : SuN n K W F) (ht : t ≤ 8) : ∃ l, l ∈ enA n t ∧ scr W 0 (wn K F d x l) n = sureN K W F d t n x := by
  obtain ⟨y, y1, y2⟩ := sure_at (d := d) (t := t) (x := x) h
  obtain ⟨l, l1, l2⟩ := enA_all (n := n) (S := t) (by have := h.2.1; first | omega | (dsimp only; omega)) (by first | omega | (dsimp only; omega)) y1.2
  exact ⟨l, l1, by rw [scr_cy h l2]; exact y2⟩
-- the greatest sure
theorem sf_max {su : (Nat → Nat) → Nat} : ∀ (xs ys : List (Nat → Nat)) (st : Option (Nat × (Nat → Nat))), (∀ p, st = some p → p.2 ∈ ys ∧ su p.2 = p.1 ∧ ∀ l ∈ ys, su l ≤ p.1) → (st = none → ys = []) → ∀ p, xs.foldl (sfF su) st = some p → p.2 ∈ ys ++ xs ∧ su p.2 = p.1 ∧ ∀ l ∈ ys ++ xs, su l ≤ p.1 := by
  intro xs
  induction xs with
  | nil => intro ys st h1 h2 p hp; rw [List.append_nil]; exact h1 p hp
  | cons a xs ih =>
    intro ys st h1 h2 p hp
    have hap : ys ++ a :: xs = (ys ++ [a]) ++ xs := by rw [List.append_assoc]; rfl
    rw [hap]
    refine ih (ys ++ [a]) (sfF su st a) (fun q hq => ?_) (fun q => ?_) p hp
    · cases st with
      | none =>
        have e : (su a, a) = q := Option.some.inj hq
        rw [h2 rfl, ← e]
        refine ⟨List.mem_append.mpr (Or.inr (List.mem_singleton.mpr rfl)), rfl, fun l hl => ?_⟩
        rw [List.nil_append] at hl
        rw [List.mem_singleton.mp hl]
        exact Nat.le_refl _
      | some v =>
        obtain ⟨g1, g2, g3⟩ := h1 v rfl
        have e : sfF su (some v) a = if su a ≤ v.1 then some v else some (su a, a) := rfl
        rw [e] at hq
        by_cases hc : su a ≤ v.1
        · rw [if_pos hc] at hq
          cases hq
          refine ⟨List.mem_append.mpr (Or.inl g1), g2, fun l hl => ?_⟩
          rcases List.mem_append.mp hl with hl | hl
          · exact g3 l hl
          · rw [List.mem_singleton.mp hl]; exact hc
        · rw [if_neg hc] at hq
          cases hq
          refine ⟨List.mem_append.mpr (Or.inr (List.mem_singleton.mpr rfl)), rfl, fun l hl => ?_⟩
          rcases List.mem_append.mp hl with hl | hl
          · have := g3 l hl
            show su l ≤ su a
            omega
          · rw [List.mem_singleton.mp hl]
            exact Nat.le_refl _
    · exfalso
      cases st with
      | none => cases q
      | some v =>
        have e : sfF su (some v) a = if su a ≤ v.1 then some v else some (su a, a) := rfl
        rw [e] at q
        split at q <;> cases q
theorem sf_all {su : (Nat → Nat) → Nat} {xs : List (Nat → Nat)} (hx : xs ≠ []) : ∃ p, xs.foldl (sfF su) none = some p ∧ p.2 ∈ xs ∧ su p.2 = p.1 ∧ ∀ l ∈ xs, su l ≤ p.1 := by
  obtain ⟨p, hp⟩ := sf_some (su := su) xs none (Or.inr hx)
  have h := sf_max (su := su) xs [] none (fun p hp => by cases hp) (fun _ => rfl) p hp
  rw [List.nil_append] at h
  exact ⟨p, hp, h⟩
-- mixings
theorem mxA_ge {x1 x2 : Nat → Nat} {p u : Nat} (h : SuN n K W F) (ht : t ≤ 8) (hp : p ≤ u) (hu : u ≤ 99) : p * sureN K W F d t n x1 + (u - p) * sureN K W F d t n x2 ≤ mxA K W F n d t x1 x2 p u := by
  refine Nat.le_of_not_lt (fun hlt => ?_)
  have h1 := sure_108 (d := d) (t := t) (x := x1) h
  have h2 := sure_108 (d := d) (t := t) (x := x2) h
  have b1 : p * sureN K W F d t n x1 ≤ 99 * 108 := Nat.mul_le_mul (by first | omega | (dsimp only; omega)) h1
  have b2 : (u - p) * sureN K W F d t n x2 ≤ 99 * 108 := Nat.mul_le_mul (by first | omega | (dsimp only; omega)) h2
  rcases (mxF_le (S1 := fun y => scr W 0 (wn K F d x1 y) n) (S2 := fun y => scr W 0 (wn K F d x2 y) n) (p := p) (q := u) (enA n t) 1000000 (p * sureN K W F d t n x1 + (u - p) * sureN K W F d t n x2 - 1)).mp (by
    show mxA K W F n d t x1 x2 p u ≤ _
    omega) with q | ⟨l, l1, l2⟩
  · omega
  · have e1 := sure_le (d := d) (x := x1) h (enA_lay ht l1)
    have e2 := sure_le (d := d) (x := x2) h (enA_lay ht l1)
    have m1 : p * sureN K W F d t n x1 ≤ p * scr W 0 (wn K F d x1 l) n := Nat.mul_le_mul_left _ e1
    have m2 : (u - p) * sureN K W F d t n x2 ≤ (u - p) * scr W 0 (wn K F d x2 l) n := Nat.mul_le_mul_left _ e2
    unfold mvN at l2
    dsimp only at l2
    omega
theorem mxA_same {p u : Nat} (h : SuN n K W F) (ht : t ≤ 8) (hp : p ≤ u) (hu : u ≤ 99) : mxA K W F n d t x x p u = u * sureN K W F d t n x := by
  have hsum : ∀ a : Nat, p * a + (u - p) * a = u * a := fun a => by rw [← Nat.add_mul, Nat.add_sub_cancel' hp]
  refine Nat.le_antisymm ?_ ?_
  · obtain ⟨l, l1, l2⟩ := sure_en (d := d) (t := t) (x := x) h ht
    refine (mxF_le (S1 := fun y => scr W 0 (wn K F d x y) n) (S2 := fun y => scr W 0 (wn K F d x y) n) (p := p) (q := u) (enA n t) 1000000 _).mpr (Or.inr ⟨l, l1, ?_⟩)
    unfold mvN
    dsimp only
    rw [l2, hsum]
    exact Nat.le_refl _
  · have := mxA_ge (d := d) (x1 := x) (x2 := x) h ht hp hu
    rwa [hsum] at this
theorem bpN_ge {V : Nat → Nat} : ∀ c p b, (∀ q, q < p → V q ≤ V b) → ∀ q, q < p + c → V q ≤ V (bpN V c p b)
  | 0, p, b, h, q, hq => h q hq
  | c + 1, p, b, h, q, hq => by
    show V q ≤ V (bpN V c (p + 1) (if V p ≤ V b then b else p))
    refine bpN_ge c (p + 1) _ (fun r hr => ?_) q (by first | omega | (dsimp only; omega))
    by_cases hc : V p ≤ V b
    · rw [if_pos hc]
      by_cases hrp : r = p
      · rw [hrp]; exact hc
      · exact h r (by first | omega | (dsimp only; omega))
    · rw [if_neg hc]
      by_cases hrp : r = p
      · rw [hrp]; exact Nat.le_refl _
      · have := h r (by first | omega | (dsimp only; omega))
        omega
theorem bpA_ge {x1 x2 : Nat → Nat} {q : Nat} (hq : q ≤ 12) : mxA K W F n d t x1 x2 q 12 ≤ mxA K W F n d t x1 x2 (bpA K W F n d t x1 x2) 12 :=
  bpN_ge (V := fun p => mxA K W F n d t x1 x2 p 12) 12 1 0 (fun r hr => by
    obtain rfl : r = 0 := by omega
    exact Nat.le_refl _) q (by first | omega | (dsimp only; omega))
-- ways
theorem wy_mono {sc : (Nat → Nat) → Nat} {v : Nat} : ∀ (xs : List (Nat → Nat)) (p p' : Nat × Nat), p'.2 ≤ p.2 → (xs.foldl (wyF (v + 1) sc) p').2 ≤ (xs.foldl (wyF v sc) p).2
  | [], _, _, h => h
  | a :: xs, p, p', h => by
    refine wy_mono xs _ _ ?_
    show p'.2 + (if v + 1 ≤ sc a then 1 else 0) ≤ p.2 + (if v ≤ sc a then 1 else 0)
    by_cases h1 : v + 1 ≤ sc a
    · rw [if_pos h1, if_pos (by first | omega | (dsimp only; omega))]; omega
    · rw [if_neg h1]; omega
theorem wy_pos {sc : (Nat → Nat) → Nat} {v : Nat} : ∀ (xs : List (Nat → Nat)) (p : Nat × Nat), 0 < (xs.foldl (wyF v sc) p).2 ↔ 0 < p.2 ∨ ∃ l ∈ xs, v ≤ sc l
  | [], p => ⟨fun h => Or.inl h, fun h => by
      rcases h with h | ⟨l, hl, -⟩
      · exact h
      · cases hl⟩
  | a :: xs, p => by
    show 0 < (xs.foldl (wyF v sc) (wyF v sc p a)).2 ↔ _
    rw [wy_pos xs (wyF v sc p a)]
    have e : (wyF v sc p a).2 = p.2 + (if v ≤ sc a then 1 else 0) := rfl
    rw [e]
    constructor
    · rintro (h | ⟨l, hl, h⟩)
      · by_cases hv : v ≤ sc a
        · exact Or.inr ⟨a, List.mem_cons_self, hv⟩
        · rw [if_neg hv] at h; exact Or.inl (by first | omega | (dsimp only; omega))
      · exact Or.inr ⟨l, List.mem_cons_of_mem _ hl, h⟩
    · rintro (h | ⟨l, hl, h⟩)
      · exact Or.inl (by first | omega | (dsimp only; omega))
      · rcases List.mem_cons.mp hl with rfl | hl
        · exact Or.inl (by rw [if_pos h]; first | omega | (dsimp only; omega))
        · exact Or.inr ⟨l, hl, h⟩
theorem ways_best (h : SuN n K W F) (hs : s ≤ 8) {b : Lf} (hm : b ∈ lvA K W F d y 0 s n) (hb : ∀ x ∈ lvA K W F d y 0 s n, x.1 < b.1 ∨ (x.1 = b.1 ∧ b.2.1 ≤ x.2.1)) {v : Nat} : 0 < (wyP K W F n d s v y).2 ↔ v ≤ b.1 := by
  rw [wy_pos]
  constructor
  · rintro (q | ⟨l, l1, l2⟩)
    · exact absurd q (by first | omega | (dsimp only; omega))
    · have := best_ge h hb (enA_lay hs l1)
      omega
  · intro q
    obtain ⟨o1, o2, o3⟩ := best_own h hm
    obtain ⟨l, l1, l2⟩ := enA_all (n := n) (S := s) (by have := h.2.1; first | omega | (dsimp only; omega)) (by first | omega | (dsimp only; omega)) o3.2
    exact Or.inr ⟨l, l1, by rw [scr_cx h l2, ← o1]; exact q⟩
-- lenders
theorem gsA_2w (h : SuN n K W F) {c : Nat} : mN (gsA K W F n d y) c ≤ 2 * smN W n := by
  rcases mN_ex (gsA K W F n d y) c with e | ⟨u, u1, u2⟩
  · rw [e]; omega
  · obtain ⟨⟨x, x1, x2, x3⟩, -⟩ := (gst_e (lvA K W F d y 0 40 n) u).1 _ u2
    obtain ⟨o1, -⟩ := best_own h x1
    rw [← x3, o1]
    exact scr_w2 (fun i => wn_2)
theorem stN_le {len : Nat → Nat} : ∀ c, c < 16 → stN s len c ≤ stN s len 15 := fun c hc => stN_15 hc
/-- what all four add comes to what all are worth -/
theorem adds_all (B : Nat → Nat) (hup : ∀ l, l < 4 → ∀ c, c < 16 → c / 2 ^ l % 2 = 0 → B c ≤ B (c + 2 ^ l)) : adN B 0 16 + adN B 1 16 + adN B 2 16 + adN B 3 16 = 24 * (B 15 - B 0) := by
  have d : ∀ l c c', c' = c + 2 ^ l → l < 4 → c < 16 → c / 2 ^ l % 2 = 0 → ∃ e, B c' - B c = e ∧ B c' = B c + e := by
    rintro l c c' rfl hl hc hb
    exact ⟨_, rfl, by have := hup l hl c hc hb; omega⟩
  obtain ⟨e0_0, p0_0, q0_0⟩ := d 0 0 1 (by decide) (by decide) (by decide) (by decide)
  obtain ⟨e0_2, p0_2, q0_2⟩ := d 0 2 3 (by decide) (by decide) (by decide) (by decide)
  obtain ⟨e0_4, p0_4, q0_4⟩ := d 0 4 5 (by decide) (by decide) (by decide) (by decide)
  obtain ⟨e0_6, p0_6, q0_6⟩ := d 0 6 7 (by decide) (by decide) (by decide) (by decide)
  obtain ⟨e0_8, p0_8, q0_8⟩ := d 0 8 9 (by decide) (by decide) (by decide) (by decide)
  obtain ⟨e0_10, p0_10, q0_10⟩ := d 0 10 11 (by decide) (by decide) (by decide) (by decide)
  obtain ⟨e0_12, p0_12, q0_12⟩ := d 0 12 13 (by decide) (by decide) (by decide) (by decide)
  obtain ⟨e0_14, p0_14, q0_14⟩ := d 0 14 15 (by decide) (by decide) (by decide) (by decide)
  obtain ⟨e1_0, p1_0, q1_0⟩ := d 1 0 2 (by decide) (by decide) (by decide) (by decide)
  obtain ⟨e1_1, p1_1, q1_1⟩ := d 1 1 3 (by decide) (by decide) (by decide) (by decide)
  obtain ⟨e1_4, p1_4, q1_4⟩ := d 1 4 6 (by decide) (by decide) (by decide) (by decide)
  obtain ⟨e1_5, p1_5, q1_5⟩ := d 1 5 7 (by decide) (by decide) (by decide) (by decide)
  obtain ⟨e1_8, p1_8, q1_8⟩ := d 1 8 10 (by decide) (by decide) (by decide) (by decide)
  obtain ⟨e1_9, p1_9, q1_9⟩ := d 1 9 11 (by decide) (by decide) (by decide) (by decide)
  obtain ⟨e1_12, p1_12, q1_12⟩ := d 1 12 14 (by decide) (by decide) (by decide) (by decide)
  obtain ⟨e1_13, p1_13, q1_13⟩ := d 1 13 15 (by decide) (by decide) (by decide) (by decide)
  obtain ⟨e2_0, p2_0, q2_0⟩ := d 2 0 4 (by decide) (by decide) (by decide) (by decide)
  obtain ⟨e2_1, p2_1, q2_1⟩ := d 2 1 5 (by decide) (by decide) (by decide) (by decide)
  obtain ⟨e2_2, p2_2, q2_2⟩ := d 2 2 6 (by decide) (by decide) (by decide) (by decide)
  obtain ⟨e2_3, p2_3, q2_3⟩ := d 2 3 7 (by decide) (by decide) (by decide) (by decide)
  obtain ⟨e2_8, p2_8, q2_8⟩ := d 2 8 12 (by decide) (by decide) (by decide) (by decide)
  obtain ⟨e2_9, p2_9, q2_9⟩ := d 2 9 13 (by decide) (by decide) (by decide) (by decide)
  obtain ⟨e2_10, p2_10, q2_10⟩ := d 2 10 14 (by decide) (by decide) (by decide) (by decide)
  obtain ⟨e2_11, p2_11, q2_11⟩ := d 2 11 15 (by decide) (by decide) (by decide) (by decide)
  obtain ⟨e3_0, p3_0, q3_0⟩ := d 3 0 8 (by decide) (by decide) (by decide) (by decide)
  obtain ⟨e3_1, p3_1, q3_1⟩ := d 3 1 9 (by decide) (by decide) (by decide) (by decide)
  obtain ⟨e3_2, p3_2, q3_2⟩ := d 3 2 10 (by decide) (by decide) (by decide) (by decide)
  obtain ⟨e3_3, p3_3, q3_3⟩ := d 3 3 11 (by decide) (by decide) (by decide) (by decide)
  obtain ⟨e3_4, p3_4, q3_4⟩ := d 3 4 12 (by decide) (by decide) (by decide) (by decide)
  obtain ⟨e3_5, p3_5, q3_5⟩ := d 3 5 13 (by decide) (by decide) (by decide) (by decide)
  obtain ⟨e3_6, p3_6, q3_6⟩ := d 3 6 14 (by decide) (by decide) (by decide) (by decide)
  obtain ⟨e3_7, p3_7, q3_7⟩ := d 3 7 15 (by decide) (by decide) (by decide) (by decide)
  have a0 : adN B 0 16 = 6 * (B 1 - B 0) + 2 * (B 3 - B 2) + 2 * (B 5 - B 4) + 2 * (B 7 - B 6) + 2 * (B 9 - B 8) + 2 * (B 11 - B 10) + 2 * (B 13 - B 12) + 6 * (B 15 - B 14) := by
    simp [adN, odN, pcN]
  have a1 : adN B 1 16 = 6 * (B 2 - B 0) + 2 * (B 3 - B 1) + 2 * (B 6 - B 4) + 2 * (B 7 - B 5) + 2 * (B 10 - B 8) + 2 * (B 11 - B 9) + 2 * (B 14 - B 12) + 6 * (B 15 - B 13) := by
    simp [adN, odN, pcN]
  have a2 : adN B 2 16 = 6 * (B 4 - B 0) + 2 * (B 5 - B 1) + 2 * (B 6 - B 2) + 2 * (B 7 - B 3) + 2 * (B 12 - B 8) + 2 * (B 13 - B 9) + 2 * (B 14 - B 10) + 6 * (B 15 - B 11) := by
    simp [adN, odN, pcN]
  have a3 : adN B 3 16 = 6 * (B 8 - B 0) + 2 * (B 9 - B 1) + 2 * (B 10 - B 2) + 2 * (B 11 - B 3) + 2 * (B 12 - B 4) + 2 * (B 13 - B 5) + 2 * (B 14 - B 6) + 6 * (B 15 - B 7) := by
    simp [adN, odN, pcN]
  rw [a0, a1, a2, a3, p0_0, p0_2, p0_4, p0_6, p0_8, p0_10, p0_12, p0_14, p1_0, p1_1, p1_4, p1_5, p1_8, p1_9, p1_12, p1_13, p2_0, p2_1, p2_2, p2_3, p2_8, p2_9, p2_10, p2_11, p3_0, p3_1, p3_2, p3_3, p3_4, p3_5, p3_6, p3_7]
  omega
end Fa
section Lf
/-- fractions of longs -/
theorem lN_div {a b : Nat} (ha : a < 2147483648) (hb : b < 2147483648) : lN a / lN b = lN (a / b) := by
  have hle : a / b ≤ a := Nat.div_le_self _ _
  apply Int64.toInt_inj.mp
  rw [Int64.toInt_div, lN_iI ha, lN_iI hb, lN_iI (by first | omega | (dsimp only; omega))]
  have : ((a : Int).tdiv b) = ((a / b : Nat) : Int) := by
    rw [Int.tdiv_eq_ediv_of_nonneg (by first | omega | (dsimp only; omega))]
    rfl
  rw [this]
  generalize a / b = q at hle
  exact Int.bmod_eq_of_le_mul_two (by show -((18446744073709551616 : Nat) : Int) ≤ _; first | omega | (dsimp only; omega)) (by show _ < ((18446744073709551616 : Nat) : Int); first | omega | (dsimp only; omega))
/-- upper and lower number of u / w -/
theorem fr_num {u w : Nat} (hu : u ≤ 90000) (hw : w ≤ 90000) (h0 : 0 < w) : ∃ a b g, frU u w = lN a ∧ frL u w = lN b ∧ 0 < g ∧ a * g = u ∧ b * g = w ∧ 0 < b := by
  have hg : 0 < Nat.gcd w u := Nat.gcd_pos_of_pos_left _ h0
  have hgw : Nat.gcd w u ≤ w := Nat.gcd_le_left _ h0
  refine ⟨u / Nat.gcd w u, w / Nat.gcd w u, Nat.gcd w u, lN_div (by first | omega | (dsimp only; omega)) (by first | omega | (dsimp only; omega)), lN_div (by first | omega | (dsimp only; omega)) (by first | omega | (dsimp only; omega)), hg, Nat.div_mul_cancel (Nat.gcd_dvd_right w u), Nat.div_mul_cancel (Nat.gcd_dvd_left w u), Nat.div_pos hgw hg⟩
theorem fr_one {s u : Nat} (hu0 : 0 < u) (hu : u ≤ 99) (hs : s ≤ 108) : frU (u * s) u = lN s ∧ frL (u * s) u = 1 := by
  have hg : Nat.gcd u (u * s) = u := Nat.gcd_eq_left (Nat.dvd_mul_right u s)
  have hm : u * s ≤ 99 * 108 := Nat.mul_le_mul hu hs
  unfold frU frL
  rw [hg, lN_div (by first | omega | (dsimp only; omega)) (by first | omega | (dsimp only; omega)), lN_div (by first | omega | (dsimp only; omega)) (by first | omega | (dsimp only; omega)), Nat.mul_div_cancel_left _ hu0, Nat.div_self hu0]
  exact ⟨rfl, rfl⟩
end Lf
/-! in turn -/
section PT
variable {K W F : Nat → Nat} {d n : Nat}
/-- the more sheets one has, the better -/
theorem tv_up : ∀ r a b, tvN K W F d n r a b ≤ tvN K W F d n r (a + 1) b := by
  intro r
  induction r with
  | zero => intro a b; exact Int.le_refl _
  | succ r ih =>
    intro a b
    show mxO _ a ≤ mxO _ (a + 1)
    refine mxO_le a (fun x hx => Int.le_trans ?_ (mxO_ge (v := fun x => mnO (fun y => gvN K W F d (n - (r + 1)) x y + tvN K W F d n r (a + 1 - x) (b - y)) b) (a + 1) x (by first | omega | (dsimp only; omega))))
    refine mnO_ge b (fun y hy => Int.le_trans (mnO_le b y hy) ?_)
    have := ih (a - x) (b - y)
    rw [show a - x + 1 = a + 1 - x by omega] at this
    omega
theorem pN_w {w e : Nat} : -(2 * (w : Int)) ≤ pN w e ∧ pN w e ≤ 2 * (w : Int) := by
  unfold pN pts
  split <;> split <;> (try split) <;> (try split) <;> omega
theorem tv_w : ∀ r, r ≤ n → ∀ a b, -(2 * ((smN W n : Int) - (smN W (n - r) : Int))) ≤ tvN K W F d n r a b ∧ tvN K W F d n r a b ≤ 2 * ((smN W n : Int) - (smN W (n - r) : Int)) := by
  intro r
  induction r with
  | zero =>
    intro _ a b
    show -(2 * ((smN W n : Int) - (smN W (n - 0) : Int))) ≤ 0 ∧ (0 : Int) ≤ 2 * ((smN W n : Int) - (smN W (n - 0) : Int))
    rw [Nat.sub_zero]
    omega
  | succ r ih =>
    intro hr a b
    have hs : (smN W (n - r) : Int) = smN W (n - (r + 1)) + W (n - (r + 1)) := by
      have e : n - r = (n - (r + 1)) + 1 := by omega
      rw [e]
      show ((smN W (n - (r + 1)) + W (n - (r + 1)) : Nat) : Int) = _
      omega
    have one : ∀ x y, -(2 * ((smN W n : Int) - (smN W (n - (r + 1)) : Int))) ≤ gvN K W F d (n - (r + 1)) x y + tvN K W F d n r (a - x) (b - y) ∧ gvN K W F d (n - (r + 1)) x y + tvN K W F d n r (a - x) (b - y) ≤ 2 * ((smN W n : Int) - (smN W (n - (r + 1)) : Int)) := by
      intro x y
      have h1 := ih (by first | omega | (dsimp only; omega)) (a - x) (b - y)
      have h2 : -(2 * (W (n - (r + 1)) : Int)) ≤ gvN K W F d (n - (r + 1)) x y ∧ gvN K W F d (n - (r + 1)) x y ≤ 2 * (W (n - (r + 1)) : Int) := pN_w
      omega
    show _ ≤ mxO (fun x => mnO (fun y => gvN K W F d (n - (r + 1)) x y + tvN K W F d n r (a - x) (b - y)) b) a ∧ mxO (fun x => mnO (fun y => gvN K W F d (n - (r + 1)) x y + tvN K W F d n r (a - x) (b - y)) b) a ≤ _
    exact mx_bd (fun x => mn_b (fun y => one x y))
end PT
