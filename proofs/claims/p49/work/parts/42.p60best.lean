/-! picked out of 60.best -/
theorem lvC_mem {X : Type} {f : Nat → List X} {x : X} : ∀ c e0, x ∈ lvC f c e0 ↔ ∃ e, e0 ≤ e ∧ e < e0 + c ∧ x ∈ f e := by
  intro c
  induction c with
  | zero => intro e0; exact ⟨fun h => (by cases h), fun ⟨e, h1, h2, _⟩ => (by first | omega | (dsimp only; omega))⟩
  | succ c ih =>
    intro e0
    show x ∈ f e0 ++ lvC f c (e0 + 1) ↔ _
    rw [List.mem_append, ih]
    constructor
    · rintro (h | ⟨e, h1, h2, h3⟩)
      · exact ⟨e0, Nat.le_refl _, by omega, h⟩
      · exact ⟨e, by omega, by omega, h3⟩
    · rintro ⟨e, h1, h2, h3⟩
      by_cases he : e = e0
      · rw [he] at h3; exact Or.inl h3
      · exact Or.inr ⟨e, by omega, by omega, h3⟩
section Lv
variable {K W F : Nat → Nat} {d s L : Nat} {z : Nat → Nat}
theorem lvs_u {r i : Nat} {w l : Nat → Nat} {sc sh : Nat} : lvs K W F d z s L (r + 1) i w l sc sh = lvC (fun e => match nd K F d w z s i e with
    | none => []
    | some x => if sh + x ≤ L then lvs K W F d z s L r (i + 1) (up w i e) (up l i x) (sc + pts (W i) 0 e) (sh + x) else []) 3 0 := rfl
theorem lvs_s {r i : Nat} {w l : Nat → Nat} {sc sh : Nat} {x : Lf} : x ∈ lvs K W F d z s L (r + 1) i w l sc sh ↔ ∃ e y, e < 3 ∧ nd K F d w z s i e = some y ∧ sh + y ≤ L ∧ x ∈ lvs K W F d z s L r (i + 1) (up w i e) (up l i y) (sc + pts (W i) 0 e) (sh + y) := by
  rw [lvs_u, lvC_mem]
  constructor
  · rintro ⟨e, -, h2, h3⟩
    cases hy : nd K F d w z s i e with
    | none => rw [hy] at h3; cases h3
    | some y =>
      rw [hy] at h3
      by_cases hL : sh + y ≤ L
      · exact ⟨e, y, by omega, hy, hL, by simpa only [if_pos hL] using h3⟩
      · simp only [if_neg hL] at h3; cases h3
  · rintro ⟨e, y, h1, h2, h3, h4⟩
    refine ⟨e, by omega, by omega, ?_⟩
    rw [h2]
    simpa only [if_pos h3] using h4
theorem lvs_ge : ∀ r i w l sc sh x, x ∈ lvs K W F d z s L r i w l sc sh → sc ≤ x.1 ∧ sh ≤ x.2.1 := by
  intro r
  induction r with
  | zero =>
    intro i w l sc sh x h
    obtain rfl : x = (sc, sh, l) := List.mem_singleton.mp h
    exact ⟨Nat.le_refl _, Nat.le_refl _⟩
  | succ r ih =>
    intro i w l sc sh x h
    obtain ⟨e, y, h1, h2, h3, h4⟩ := lvs_s.mp h
    have := ih _ _ _ _ _ _ h4
    omega
theorem lvs_ne : ∀ r i w l sc sh, sh ≤ L → ∃ x, x ∈ lvs K W F d z s L r i w l sc sh := by
  intro r
  induction r with
  | zero => intro i w l sc sh _; exact ⟨(sc, sh, l), List.mem_singleton.mpr rfl⟩
  | succ r ih =>
    intro i w l sc sh h
    have h2 := wst_2 K F d w i (if s = 0 then 0 else z i) (if s = 0 then z i else 0)
    obtain ⟨x, hx⟩ := ih (i + 1) (up w i (wst K F d w i (if s = 0 then 0 else z i) (if s = 0 then z i else 0))) (up l i 0) (sc + pts (W i) 0 (wst K F d w i (if s = 0 then 0 else z i) (if s = 0 then z i else 0))) (sh + 0) (by first | omega | (dsimp only; omega))
    exact ⟨x, lvs_s.mpr ⟨_, 0, by omega, nd_0, by omega, hx⟩⟩
/-- fewer sheets at most: just the leaves with so few -/
theorem lvs_L {L' : Nat} (hL : L' ≤ L) : ∀ r i w l sc sh x, sh ≤ L' → (x ∈ lvs K W F d z s L' r i w l sc sh ↔ x ∈ lvs K W F d z s L r i w l sc sh ∧ x.2.1 ≤ L') := by
  intro r
  induction r with
  | zero =>
    intro i w l sc sh x h
    constructor
    · intro q
      obtain rfl : x = (sc, sh, l) := List.mem_singleton.mp q
      exact ⟨q, h⟩
    · exact fun q => q.1
  | succ r ih =>
    intro i w l sc sh x h
    rw [lvs_s, lvs_s]
    constructor
    · rintro ⟨e, y, h1, h2, h3, h4⟩
      obtain ⟨g1, g2⟩ := (ih _ _ _ _ _ _ h3).mp h4
      exact ⟨⟨e, y, h1, h2, by omega, g1⟩, g2⟩
    · rintro ⟨⟨e, y, h1, h2, h3, h4⟩, h5⟩
      have h6 := (lvs_ge _ _ _ _ _ _ _ h4).2
      exact ⟨e, y, h1, h2, by omega, (ih _ _ _ _ _ _ (by first | omega | (dsimp only; omega))).mpr ⟨h4, h5⟩⟩
theorem lvs_sh : ∀ r i w l sc sh x, sh ≤ L → x ∈ lvs K W F d z s L r i w l sc sh → x.2.1 ≤ L := fun r i w l sc sh x h hx => ((lvs_L (L' := L) (Nat.le_refl _) r i w l sc sh x h).mp hx).2
end Lv
/-- the best of leaves -/
theorem bst_p {n : Nat} : ∀ (xs ys : List Lf) (b : Option Lf), (∀ y, b = some y → y ∈ ys ∧ ∀ x ∈ ys, x.1 ≤ y.1) → (b = none → ys = []) → (∀ y, xs.foldl (bst n) b = some y → y ∈ ys ++ xs ∧ ∀ x ∈ ys ++ xs, x.1 ≤ y.1) ∧ (xs.foldl (bst n) b = none → ys ++ xs = []) := by
  intro xs
  induction xs with
  | nil => intro ys b h1 h2; rw [List.append_nil]; exact ⟨h1, h2⟩
  | cons a xs ih =>
    intro ys b h1 h2
    have hap : ys ++ a :: xs = (ys ++ [a]) ++ xs := by rw [List.append_assoc]; rfl
    rw [hap]
    show (∀ y, xs.foldl (bst n) (bst n b a) = some y → _) ∧ (xs.foldl (bst n) (bst n b a) = none → _)
    refine ih (ys ++ [a]) (bst n b a) (fun y hy => ?_) (fun q => ?_)
    · cases b with
      | none =>
        have hys := h2 rfl
        subst hys
        have : a = y := by
          have : bst n none a = some a := rfl
          rw [this] at hy; cases hy; rfl
        subst this
        exact ⟨List.mem_append.mpr (Or.inr (List.mem_singleton.mpr rfl)), fun x hx => by
          have : x = a := by simpa using hx
          rw [this]; exact Nat.le_refl _⟩
      | some v =>
        obtain ⟨g1, g2⟩ := h1 v rfl
        have hb : bst n (some v) a = if btr n a v = true then some a else some v := rfl
        rw [hb] at hy
        by_cases hq : btr n a v = true
        · rw [if_pos hq] at hy
          cases hy
          refine ⟨List.mem_append.mpr (Or.inr (List.mem_singleton.mpr rfl)), fun x hx => ?_⟩
          have hge : v.1 ≤ a.1 := by
            unfold btr at hq
            simp only [Bool.or_eq_true, Bool.and_eq_true, decide_eq_true_eq] at hq
            omega
          rcases List.mem_append.mp hx with hx | hx
          · exact Nat.le_trans (g2 x hx) hge
          · rw [List.mem_singleton.mp hx]; exact Nat.le_refl _
        · rw [if_neg hq] at hy
          cases hy
          refine ⟨List.mem_append.mpr (Or.inl g1), fun x hx => ?_⟩
          rcases List.mem_append.mp hx with hx | hx
          · exact g2 x hx
          · rw [List.mem_singleton.mp hx]
            unfold btr at hq
            simp only [Bool.or_eq_true, Bool.and_eq_true, decide_eq_true_eq] at hq
            omega
    · exfalso
      cases b with
      | none => cases q
      | some v =>
        have hb : bst n (some v) a = if btr n a v = true then some a else some v := rfl
        rw [hb] at q
        split at q <;> cases q
theorem bst_e {n : Nat} (xs : List Lf) (hx : ∃ x, x ∈ xs) : ∃ y, xs.foldl (bst n) none = some y ∧ y ∈ xs ∧ ∀ x ∈ xs, x.1 ≤ y.1 := by
  obtain ⟨h1, h2⟩ := bst_p (n := n) xs [] none (fun y hy => by cases hy) (fun _ => rfl)
  rw [List.nil_append] at h1 h2
  cases hb : xs.foldl (bst n) none with
  | none =>
    obtain ⟨x, hx⟩ := hx
    rw [h2 hb] at hx
    cases hx
  | some y => exact ⟨y, rfl, h1 y hb⟩
/-- a class' row takes numbers of an array -/
theorem take_e {N q p n : Nat} {v : Nat → Nat} {mm : Mm} (hq : q < 6) (hp : ln p = 6) (hn : n ≤ 6) (hpr : p < 95) (hv : HA mm p n v) : ∃ m', fX6_take N (95 + 2 * q) p (nI n) mm = some ((), m') ∧ Fr (fun k j => (k = 95 + 2 * q ∧ j = 1) ∨ k = 96 + 2 * q) mm m' ∧ rd m' (95 + 2 * q) 1 = nI n ∧ HA m' (96 + 2 * q) n v := by
  refine ⟨cpy (wr mm (95 + 2 * q) 1 (nI n)) p (96 + 2 * q) 0 0 (nI n), ?_, fr_cpy (fr_wr Fr.rf (by first | omega | (dsimp only; omega))) (fun j => by omega), ?_, fun i hi => ?_⟩
  · unfold fX6_take
    rw [fr_row hq, ln_row hq, hp]
    refine st_n (st_n (st_n (st_n ?_)))
    have e1 : (if Int32.ofNat 40 < Int32.ofNat 6 then Int32.ofNat 40 else Int32.ofNat 6) = nI 6 := rfl
    have e2 : (if nI 6 < nI n then nI 6 else nI n) = nI n := if_neg (nI_nlt hn (by first | omega | (dsimp only; omega)))
    have e3 : (if (0 : Int32) < nI n then nI n else 0) = nI n := by
      rcases Nat.eq_zero_or_pos n with h | h
      · subst h; rfl
      · exact if_pos (nI_lt (a := 0) h (by first | omega | (dsimp only; omega)))
    simp only [e1, e2, e3, rd_wr_s]
    exact st_g (cpok_n (i := 0) (j := 0) (by first | omega | (dsimp only; omega)) (by first | omega | (dsimp only; omega)) (by first | omega | (dsimp only; omega)) (by first | omega | (dsimp only; omega))) (st_n rfl)
  · rw [rd_cpy, if_neg (by first | omega | (dsimp only; omega)), rd_wr_s]
  · rw [rd_cpy, nI_nat (by first | omega | (dsimp only; omega)), if_pos ⟨rfl, by show (0 : Nat) ≤ i; omega, by show i < 0 + n; omega⟩]
    show rd _ p (0 + (i - 0)) = _
    rw [show 0 + (i - 0) = i by omega, rd_wr_k (by first | omega | (dsimp only; omega))]
    exact hv i hi
theorem RA_keep {mm m2 : Mm} (h : RA mm) (e : ∀ k, 32 ≤ k → k ≤ 93 → k ≠ 35 → k ≠ 36 → k ≠ 37 → k ≠ 38 → k ≠ 39 → k ≠ 40 → k ≠ 41 → rd m2 k 0 = rd mm k 0) : RA m2 := RA_c h (fun k q => e k (by first | omega | (dsimp only; omega)) (by first | omega | (dsimp only; omega)) (by first | omega | (dsimp only; omega)) (by first | omega | (dsimp only; omega)) (by first | omega | (dsimp only; omega)) (by first | omega | (dsimp only; omega)) (by first | omega | (dsimp only; omega)) (by first | omega | (dsimp only; omega)) (by first | omega | (dsimp only; omega)))

/-! picked out of 61.most -/
def GP (G : Nat → Option Nat) (ys : List Lf) : Prop := ∀ u, (∀ v, G u = some v → (∃ x ∈ ys, x.2.1 = u ∧ x.1 = v) ∧ ∀ x ∈ ys, x.2.1 = u → x.1 ≤ v) ∧ (G u = none → ∀ x ∈ ys, x.2.1 ≠ u)
theorem gst_p : ∀ (xs ys : List Lf) (G : Nat → Option Nat), GP G ys → GP (xs.foldl gst G) (ys ++ xs) := by
  intro xs
  induction xs with
  | nil => intro ys G h; rw [List.append_nil]; exact h
  | cons a xs ih =>
    intro ys G h
    have hap : ys ++ a :: xs = (ys ++ [a]) ++ xs := by rw [List.append_assoc]; rfl
    rw [hap]
    show GP (xs.foldl gst (gst G a)) _
    refine ih (ys ++ [a]) (gst G a) (fun u => ?_)
    obtain ⟨h1, h2⟩ := h u
    have hin : ∀ x, x ∈ ys ++ [a] ↔ x ∈ ys ∨ x = a := fun x => by rw [List.mem_append, List.mem_singleton]
    by_cases hu : u = a.2.1
    · have hg : gst G a u = omx (G u) a.1 := if_pos hu
      rw [hg]
      cases hG : G u with
      | none =>
        refine ⟨fun v hv => ?_, fun q => by cases q⟩
        have hv' : a.1 = v := by
          have : omx none a.1 = some a.1 := rfl
          rw [this] at hv; cases hv; rfl
        subst hv'
        refine ⟨⟨a, (hin a).mpr (Or.inr rfl), hu.symm, rfl⟩, fun x hx hxu => ?_⟩
        rcases (hin x).mp hx with q | q
        · exact absurd hxu (h2 hG x q)
        · rw [q]; exact Nat.le_refl _
      | some w =>
        obtain ⟨⟨y, y1, y2, y3⟩, g2⟩ := h1 w hG
        refine ⟨fun v hv => ?_, fun q => by cases q⟩
        have hv' : (if w < a.1 then a.1 else w) = v := by
          have : omx (some w) a.1 = some (if w < a.1 then a.1 else w) := rfl
          rw [this] at hv; cases hv; rfl
        by_cases hc : w < a.1
        · rw [if_pos hc] at hv'
          subst hv'
          refine ⟨⟨a, (hin a).mpr (Or.inr rfl), hu.symm, rfl⟩, fun x hx hxu => ?_⟩
          rcases (hin x).mp hx with q | q
          · have := g2 x q hxu; omega
          · rw [q]; exact Nat.le_refl _
        · rw [if_neg hc] at hv'
          subst hv'
          refine ⟨⟨y, (hin y).mpr (Or.inl y1), y2, y3⟩, fun x hx hxu => ?_⟩
          rcases (hin x).mp hx with q | q
          · exact g2 x q hxu
          · rw [q]; omega
    · have hg : gst G a u = G u := if_neg hu
      rw [hg]
      refine ⟨fun v hv => ?_, fun q x hx hxu => ?_⟩
      · obtain ⟨⟨y, y1, y2, y3⟩, g2⟩ := h1 v hv
        refine ⟨⟨y, (hin y).mpr (Or.inl y1), y2, y3⟩, fun x hx hxu => ?_⟩
        rcases (hin x).mp hx with q | q
        · exact g2 x q hxu
        · rw [q] at hxu; exact absurd hxu.symm hu
      · rcases (hin x).mp hx with w | w
        · exact h2 q x w hxu
        · rw [w] at hxu; exact hu hxu.symm
theorem gst_e (xs : List Lf) : GP (xs.foldl gst (fun _ => none)) xs := by
  have := gst_p xs [] (fun _ => none) (fun u => ⟨fun v hv => (by cases hv), fun _ x hx => (by cases hx)⟩)
  rw [List.nil_append] at this
  exact this
/-- the greatest of the first numbers of a row with gaps -/
def mN (G : Nat → Option Nat) : Nat → Nat
  | 0 => 0
  | c + 1 => match G c with
    | none => mN G c
    | some v => if mN G c < v then v else mN G c
theorem mN_s (G : Nat → Option Nat) (c : Nat) : (G c = none ∧ mN G (c + 1) = mN G c) ∨ ∃ v, G c = some v ∧ mN G (c + 1) = if mN G c < v then v else mN G c := by
  cases h : G c with
  | none => left; refine ⟨rfl, ?_⟩; show (match G c with | none => mN G c | some v => if mN G c < v then v else mN G c) = _; rw [h]
  | some v => right; refine ⟨v, rfl, ?_⟩; show (match G c with | none => mN G c | some v => if mN G c < v then v else mN G c) = _; rw [h]
theorem mN_up (G : Nat → Option Nat) : ∀ c c', c ≤ c' → mN G c ≤ mN G c' := by
  intro c c' h
  induction c' with
  | zero => obtain rfl : c = 0 := by omega
            exact Nat.le_refl _
  | succ k ih =>
    by_cases hk : c = k + 1
    · subst hk; exact Nat.le_refl _
    · refine Nat.le_trans (ih (by first | omega | (dsimp only; omega))) ?_
      rcases mN_s G k with ⟨-, e⟩ | ⟨v, -, e⟩
      · rw [e]; exact Nat.le_refl _
      · rw [e]; split <;> omega
theorem mN_ge (G : Nat → Option Nat) {u v c : Nat} (h : u < c) (hv : G u = some v) : v ≤ mN G c := by
  refine Nat.le_trans ?_ (mN_up G (u + 1) c h)
  rcases mN_s G u with ⟨e, -⟩ | ⟨w, e1, e2⟩
  · rw [e] at hv; cases hv
  · rw [e1] at hv; cases hv
    rw [e2]; split <;> omega
theorem mN_ex (G : Nat → Option Nat) : ∀ c, mN G c = 0 ∨ ∃ u, u < c ∧ G u = some (mN G c) := by
  intro c
  induction c with
  | zero => exact Or.inl rfl
  | succ c ih =>
    rcases mN_s G c with ⟨-, e⟩ | ⟨v, e1, e2⟩
    · rw [e]
      rcases ih with q | ⟨u, q1, q2⟩
      · exact Or.inl q
      · exact Or.inr ⟨u, by omega, q2⟩
    · rw [e2]
      by_cases h : mN G c < v
      · rw [if_pos h]; exact Or.inr ⟨c, by omega, e1⟩
      · rw [if_neg h]
        rcases ih with q | ⟨u, q1, q2⟩
        · exact Or.inl q
        · exact Or.inr ⟨u, by omega, q2⟩
/-- the best with fewer sheets is the greatest of those by so many -/
theorem best_most {K W F : Nat → Nat} {d s L L' n : Nat} {z : Nat → Nat} (hL : L' ≤ L) {y : Lf} (h1 : y ∈ lvs K W F d z s L' n 0 (fun _ => 0) (fun _ => 0) 0 0) (h2 : ∀ x ∈ lvs K W F d z s L' n 0 (fun _ => 0) (fun _ => 0) 0 0, x.1 ≤ y.1) : y.1 = mN ((lvs K W F d z s L n 0 (fun _ => 0) (fun _ => 0) 0 0).foldl gst (fun _ => none)) (L' + 1) := by
  have hG := gst_e (lvs K W F d z s L n 0 (fun _ => 0) (fun _ => 0) 0 0)
  generalize (lvs K W F d z s L n 0 (fun _ => 0) (fun _ => 0) 0 0).foldl gst (fun _ => none) = G at hG
  have hm := fun x => lvs_L (K := K) (W := W) (F := F) (d := d) (s := s) (z := z) hL n 0 (fun _ => 0) (fun _ => 0) 0 0 x (by first | omega | (dsimp only; omega))
  refine Nat.le_antisymm ?_ ?_
  · obtain ⟨g1, g2⟩ := (hm y).mp h1
    cases hv : G y.2.1 with
    | none => exact absurd rfl ((hG y.2.1).2 hv y g1)
    | some v =>
      have := ((hG y.2.1).1 v hv).2 y g1 rfl
      exact Nat.le_trans this (mN_ge G (by first | omega | (dsimp only; omega)) hv)
  · rcases mN_ex G (L' + 1) with q | ⟨u, q1, q2⟩
    · rw [q]; omega
    · obtain ⟨⟨x, x1, x2, x3⟩, -⟩ := (hG u).1 _ q2
      rw [← x3]
      exact h2 x ((hm x).mpr ⟨x1, by omega⟩)
theorem mostBy_l {N s : Nat} {G : Nat → Option Nat} {mm : Mm} (hS : ∀ u, u ≤ 240 → rd mm 37 u = oV (-1) (G u) ∧ ∀ v, G u = some v → v ≤ 108) (hs : s ≤ 240) : ∀ c i, i + c = s + 1 → ∀ f, c < f → fX8_mostBy_4 N f 35 (nI s) (nI (mN G i)) (nI i) mm = some (nI (mN G (s + 1)), mm) := by
  intro c
  induction c with
  | zero =>
    intro i hi f hf
    obtain ⟨f, rfl⟩ : ∃ g, f = g + 1 := ⟨f - 1, by omega⟩
    obtain rfl : i = s + 1 := by omega
    unfold fX8_mostBy_4
    exact st_t (nI_lt (by first | omega | (dsimp only; omega)) (by first | omega | (dsimp only; omega))) rfl
  | succ c ih =>
    intro i hi f hf
    obtain ⟨f, rfl⟩ : ∃ g, f = g + 1 := ⟨f - 1, by omega⟩
    have ih2 := ih (i + 1) (by first | omega | (dsimp only; omega)) f (by first | omega | (dsimp only; omega))
    have hb : ∀ c, c ≤ 241 → mN G c ≤ 108 := fun c hc => by
      rcases mN_ex G c with q | ⟨u, q1, q2⟩
      · rw [q]; omega
      · exact (hS u (by first | omega | (dsimp only; omega))).2 _ q2
    unfold fX8_mostBy_4
    simp only [LXb, nI_nat (show i < 2147483648 by omega), nI_1]
    refine st_f (nI_nlt (by first | omega | (dsimp only; omega)) (by first | omega | (dsimp only; omega))) (st_f (nI_ge (b := 241) (by first | omega | (dsimp only; omega)) (by first | omega | (dsimp only; omega))) (st_k rfl (by first | omega | (dsimp only; omega)) (by first | omega | (dsimp only; omega)) (st_n ?_)))
    have hv : (if nI (mN G i) < rd mm 37 i then rd mm 37 i else nI (mN G i)) = nI (mN G (i + 1)) := by
      have h108 := hb i (by first | omega | (dsimp only; omega))
      rw [(hS i (by first | omega | (dsimp only; omega))).1]
      rcases mN_s G i with ⟨e1, e2⟩ | ⟨v, e1, e2⟩
      · rw [e1, e2]
        refine if_neg (fun q => ?_)
        rw [i_lt, nI_toInt (by first | omega | (dsimp only; omega))] at q
        have : (oV (-1) none).toInt = -1 := rfl
        omega
      · have hv := (hS i (by first | omega | (dsimp only; omega))).2 v e1
        rw [e1, e2]
        show (if nI (mN G i) < nI v then nI v else nI (mN G i)) = _
        by_cases h : mN G i < v
        · rw [if_pos h, if_pos (nI_lt h (by first | omega | (dsimp only; omega)))]
        · rw [if_neg h, if_neg (nI_nlt (by first | omega | (dsimp only; omega)) (by first | omega | (dsimp only; omega)))]
    rw [hv]
    exact ih2
theorem mostBy_e {N s : Nat} {G : Nat → Option Nat} {mm : Mm} (hN : 100000 ≤ N) (hS : ∀ u, u ≤ 240 → rd mm 37 u = oV (-1) (G u) ∧ ∀ v, G u = some v → v ≤ 108) (hs : s ≤ 240) : fX8_mostBy N 35 (nI s) mm = some (nI (mN G (s + 1)), mm) := mostBy_l hS hs (s + 1) 0 (by first | omega | (dsimp only; omega)) N (by first | omega | (dsimp only; omega))
theorem mN_108 {G : Nat → Option Nat} {c : Nat} (h : ∀ u v, u < c → G u = some v → v ≤ 108) : mN G c ≤ 108 := by
  rcases mN_ex G c with q | ⟨u, q1, q2⟩
  · rw [q]; omega
  · exact h u _ q1 q2
theorem bit_c : ∀ s, s < 16 → ∀ l, l < 4 → (nI s >>> (nI l &&& 31)) &&& 1 = nI (s / 2 ^ l % 2) := by decide +kernel
def stN (s0 : Nat) (len : Nat → Nat) (set : Nat) : Nat := s0 + smN (fun l => if set / 2 ^ l % 2 = 0 then 0 else len l) 4
section Sets
variable {N s0 set : Nat} {len : Nat → Nat} {mm : Mm}
theorem cstock_l (hset : set < 16) (h : HA mm 6 4 len) : ∀ c i, i + c = 4 → ∀ f, c < f → fX0_stockWith_9 N f 3 (nI set) (nI (s0 + smN (fun l => if set / 2 ^ l % 2 = 0 then 0 else len l) i)) (nI i) mm = some (nI (stN s0 len set), mm) := by
  intro c
  induction c with
  | zero =>
    intro i hi f hf
    obtain ⟨f, rfl⟩ : ∃ g, f = g + 1 := ⟨f - 1, by omega⟩
    obtain rfl : i = 4 := by omega
    unfold fX0_stockWith_9
    exact st_t (nI_le (by first | omega | (dsimp only; omega)) (by first | omega | (dsimp only; omega))) rfl
  | succ c ih =>
    intro i hi f hf
    obtain ⟨f, rfl⟩ : ∃ g, f = g + 1 := ⟨f - 1, by omega⟩
    have ih2 := ih (i + 1) (by first | omega | (dsimp only; omega)) f (by first | omega | (dsimp only; omega))
    have hs : smN (fun l => if set / 2 ^ l % 2 = 0 then 0 else len l) (i + 1) = smN (fun l => if set / 2 ^ l % 2 = 0 then 0 else len l) i + (if set / 2 ^ i % 2 = 0 then 0 else len i) := rfl
    rw [hs] at ih2
    unfold fX0_stockWith_9 fX0_stockWith_31
    simp only [LXa, nI_nat (show i < 2147483648 by omega), nI_1]
    refine st_f (nI_ge (by first | omega | (dsimp only; omega)) (by first | omega | (dsimp only; omega))) ?_
    rw [bit_c set hset i (by first | omega | (dsimp only; omega))]
    by_cases hb : set / 2 ^ i % 2 = 0
    · rw [if_pos hb] at ih2
      exact st_t (by rw [hb]; rfl) ih2
    · rw [if_neg hb] at ih2
      refine st_f (fun q => hb (nI_inj (b := 0) q (by first | omega | (dsimp only; omega)) (by first | omega | (dsimp only; omega)))) (st_k rfl (by first | omega | (dsimp only; omega)) (by first | omega | (dsimp only; omega)) (st_n ?_))
      rw [h i (by first | omega | (dsimp only; omega)), nI_add, Nat.add_assoc]
      exact ih2
theorem cstock_e (hN : 100000 ≤ N) (hset : set < 16) (h0 : rd mm 5 0 = nI s0) (h : HA mm 6 4 len) : fX0_stockWith N 3 (nI set) mm = some (nI (stN s0 len set), mm) := by
  unfold fX0_stockWith
  simp only [LXa]
  refine st_g (by decide) (st_n ?_)
  rw [show ((0 : Int32).toNatClampNeg) = 0 from rfl, h0]
  exact cstock_l hset h 4 0 (by first | omega | (dsimp only; omega)) N (by first | omega | (dsimp only; omega))
theorem stN_b (h : ∀ i, i < 4 → len i ≤ 20) (hs : s0 ≤ 40) : stN s0 len set ≤ 120 := by
  have := smN_le (f := fun l => if set / 2 ^ l % 2 = 0 then 0 else len l) (b := 20) 4 (fun i hi => by
    have := h i hi
    show (if set / 2 ^ i % 2 = 0 then 0 else len i) ≤ 20
    split <;> omega)
  unfold stN; omega
theorem stN_0 : stN s0 len 0 = s0 := by
  unfold stN
  have : smN (fun l => if 0 / 2 ^ l % 2 = 0 then 0 else len l) 4 = 0 := by
    simp [smN]
  rw [this]; rfl
end Sets
theorem lN_iI {a : Nat} (h : a < 2147483648) : (lN a).toInt = a := by rw [← nI_l (by first | omega | (dsimp only; omega))]; exact l_nI h
theorem lN_rem {a b : Nat} (ha : a < 2147483648) (hb : b < 2147483648) (h0 : 0 < b) : lN a - lN a / lN b * lN b = lN (a % b) := by
  have hd : (lN a / lN b).toInt = ((a / b : Nat) : Int) := by
    rw [Int64.toInt_div, lN_iI ha, lN_iI hb]
    have : ((a : Int).tdiv b) = ((a / b : Nat) : Int) := by
      rw [Int.tdiv_eq_ediv_of_nonneg (by first | omega | (dsimp only; omega))]
      rfl
    rw [this]
    have : a / b ≤ a := Nat.div_le_self _ _
    generalize a / b = q at this ⊢
    exact Int.bmod_eq_of_le_mul_two (by show -((18446744073709551616 : Nat) : Int) ≤ _; omega) (by show _ < ((18446744073709551616 : Nat) : Int); omega)
  have hab : a / b * b ≤ a := Nat.div_mul_le_self _ _
  have hmul : (lN a / lN b * lN b).toInt = ((a / b * b : Nat) : Int) := by
    rw [Int64.toInt_mul, hd, lN_iI hb, ← Int.natCast_mul]
    generalize a / b * b = q at hab
    exact Int.bmod_eq_of_le_mul_two (by show -((18446744073709551616 : Nat) : Int) ≤ _; omega) (by show _ < ((18446744073709551616 : Nat) : Int); omega)
  have hmod : a % b = a - a / b * b := by
    have := Nat.div_add_mod a b
    rw [Nat.mul_comm] at this
    omega
  have hle : a % b ≤ a := Nat.mod_le _ _
  apply Int64.toInt_inj.mp
  rw [Int64.toInt_sub, hmul, lN_iI ha, lN_iI (by first | omega | (dsimp only; omega)), hmod]
  generalize a / b * b = q at hab
  rw [show ((a : Int) - (q : Int)) = ((a - q : Nat) : Int) by omega]
  exact Int.bmod_eq_of_le_mul_two (by show -((18446744073709551616 : Nat) : Int) ≤ _; omega) (by show _ < ((18446744073709551616 : Nat) : Int); omega)
theorem lN_z {a : Nat} (h : a < 2147483648) : lN a = 0 ↔ a = 0 := by
  constructor
  · intro e
    have := lN_iI h
    rw [e] at this
    have h0 : (0 : Int64).toInt = 0 := rfl
    omega
  · rintro rfl; rfl
theorem lN_nz {a : Nat} (h0 : 0 < a) (h : a < 2147483648) : nzL (lN a) = true := by
  unfold nzL
  rw [decide_eq_true_eq, lN_z h]
  omega
/-- what both lay into the fraction -/
def frU (up low : Nat) : Int64 := lN up / lN (Nat.gcd low up)
def frL (up low : Nat) : Int64 := lN low / lN (Nat.gcd low up)
section Frac
variable {N : Nat} {mm : Mm}
theorem cfrac_l {A B : Int64} : ∀ b a f q, a < 2147483648 → b ≤ 90000 → 0 < a + b → b < f → q + b ≤ 100000 → fX11_fraction_12 N f 0 A B (lN a) (lN b) (nI q) mm = some ((), wrL (wrL mm 0 15 (A / lN (Nat.gcd b a))) 0 16 (B / lN (Nat.gcd b a))) := by
  intro b
  induction b using Nat.strongRecOn with
  | _ b ih =>
    intro a f q ha hb hab hf hq
    obtain ⟨f, rfl⟩ : ∃ g, f = g + 1 := ⟨f - 1, by omega⟩
    unfold fX11_fraction_12
    rcases Nat.eq_zero_or_pos b with h0 | h0
    · subst h0
      unfold fX11_fraction_47
      rw [Nat.gcd_zero_left]
      refine st_t (by rw [lg_cmp_eq]; rfl) (st_f ?_ (st_g (lN_nz (by first | omega | (dsimp only; omega)) ha) (st_n (st_g (lN_nz (by first | omega | (dsimp only; omega)) ha) (st_n rfl)))))
      rw [lg_cmp_le, Int64.le_iff_toInt_le, lN_iI ha]
      have : (0 : Int64).toInt = 0 := rfl
      omega
    · have hlt : a % b < b := Nat.mod_lt _ h0
      refine st_f (by rw [lg_cmp_eq, lN_z (by first | omega | (dsimp only; omega))]; omega) (st_f (nI_ge (b := 1000000) (by first | omega | (dsimp only; omega)) (by first | omega | (dsimp only; omega))) (st_g (lN_nz h0 (by first | omega | (dsimp only; omega))) ?_))
      rw [lN_rem ha (by first | omega | (dsimp only; omega)) h0, nI_1, Nat.gcd_rec b a]
      exact ih (a % b) hlt b f (q + 1) (by first | omega | (dsimp only; omega)) (by first | omega | (dsimp only; omega)) (by first | omega | (dsimp only; omega)) (by first | omega | (dsimp only; omega)) (by first | omega | (dsimp only; omega))
theorem cfrac_e {u w : Nat} (hN : 100000 ≤ N) (hu : u ≤ 90000) (hw : w ≤ 90000) (h0 : 0 < w) : fX11_fraction N 0 (lN u) (lN w) mm = some ((), wrL (wrL mm 0 15 (frU u w)) 0 16 (frL u w)) := by
  unfold fX11_fraction
  refine st_n ?_
  have e : (if 0 < lN u then lN u else -lN u) = lN u := by
    rcases Nat.eq_zero_or_pos u with h | h
    · subst h; rfl
    · refine if_pos ?_
      rw [Int64.lt_iff_toInt_lt, lN_iI (by first | omega | (dsimp only; omega))]
      have : (0 : Int64).toInt = 0 := rfl
      omega
  rw [e]
  exact cfrac_l w u N 0 (by first | omega | (dsimp only; omega)) hw (by first | omega | (dsimp only; omega)) (by first | omega | (dsimp only; omega)) (by first | omega | (dsimp only; omega))
end Frac

/-! picked out of 62.lend -/
/-- fewest, as the model goes through leaves -/
def fst1 (v : Nat) (st : Option (Nat × Nat)) (x : Lf) : Option (Nat × Nat) := match st with
  | none => if v ≤ x.1 then some (x.2.1, x.1) else none
  | some p => if v ≤ x.1 ∧ (x.2.1 < p.1 ∨ (x.2.1 = p.1 ∧ p.2 < x.1)) then some (x.2.1, x.1) else some p
def FP (v : Nat) (st : Option (Nat × Nat)) (ys : List Lf) : Prop := (∀ p, st = some p → (∃ x ∈ ys, x.2.1 = p.1 ∧ x.1 = p.2 ∧ v ≤ x.1) ∧ ∀ x ∈ ys, v ≤ x.1 → p.1 ≤ x.2.1 ∧ (x.2.1 = p.1 → x.1 ≤ p.2)) ∧ (st = none → ∀ x ∈ ys, ¬ v ≤ x.1)
theorem fst_p {v : Nat} : ∀ (xs ys : List Lf) (st : Option (Nat × Nat)), FP v st ys → FP v (xs.foldl (fst1 v) st) (ys ++ xs) := by
  intro xs
  induction xs with
  | nil => intro ys st h; rw [List.append_nil]; exact h
  | cons a xs ih =>
    intro ys st h
    have hap : ys ++ a :: xs = (ys ++ [a]) ++ xs := by rw [List.append_assoc]; rfl
    rw [hap]
    show FP v (xs.foldl (fst1 v) (fst1 v st a)) _
    refine ih (ys ++ [a]) (fst1 v st a) ?_
    obtain ⟨h1, h2⟩ := h
    have hin : ∀ x, x ∈ ys ++ [a] ↔ x ∈ ys ∨ x = a := fun x => by rw [List.mem_append, List.mem_singleton]
    cases st with
    | none =>
      by_cases hc : v ≤ a.1
      · have e : fst1 v none a = some (a.2.1, a.1) := if_pos hc
        rw [e]
        refine ⟨fun p hp => ?_, fun q => by cases q⟩
        cases hp
        refine ⟨⟨a, (hin a).mpr (Or.inr rfl), rfl, rfl, hc⟩, fun x hx hv => ?_⟩
        rcases (hin x).mp hx with q | q
        · exact absurd hv (h2 rfl x q)
        · rw [q]; exact ⟨Nat.le_refl _, fun _ => Nat.le_refl _⟩
      · have e : fst1 v none a = none := if_neg hc
        rw [e]
        refine ⟨fun p hp => (by cases hp), fun _ x hx => ?_⟩
        rcases (hin x).mp hx with q | q
        · exact h2 rfl x q
        · rw [q]; exact hc
    | some p =>
      obtain ⟨⟨y, y1, y2, y3, y4⟩, g2⟩ := h1 p rfl
      by_cases hc : v ≤ a.1 ∧ (a.2.1 < p.1 ∨ (a.2.1 = p.1 ∧ p.2 < a.1))
      · have e : fst1 v (some p) a = some (a.2.1, a.1) := if_pos hc
        rw [e]
        refine ⟨fun p' hp => ?_, fun q => by cases q⟩
        cases hp
        refine ⟨⟨a, (hin a).mpr (Or.inr rfl), rfl, rfl, hc.1⟩, fun x hx hv => ?_⟩
        show a.2.1 ≤ x.2.1 ∧ (x.2.1 = a.2.1 → x.1 ≤ a.1)
        rcases (hin x).mp hx with q | q
        · obtain ⟨q1, q2⟩ := g2 x q hv
          refine ⟨by omega, fun q3 => ?_⟩
          by_cases hh : x.2.1 = p.1
          · have := q2 hh; omega
          · omega
        · rw [q]; exact ⟨Nat.le_refl _, fun _ => Nat.le_refl _⟩
      · have e : fst1 v (some p) a = some p := if_neg hc
        rw [e]
        refine ⟨fun p' hp => ?_, fun q => by cases q⟩
        cases hp
        refine ⟨⟨y, (hin y).mpr (Or.inl y1), y2, y3, y4⟩, fun x hx hv => ?_⟩
        rcases (hin x).mp hx with q | q
        · exact g2 x q hv
        · rw [q] at hv ⊢
          have : ¬ (a.2.1 < p.1 ∨ (a.2.1 = p.1 ∧ p.2 < a.1)) := fun w => hc ⟨hv, w⟩
          refine ⟨by omega, fun q3 => by omega⟩
def fwB (G : Nat → Option Nat) (v u : Nat) : Bool := match G u with
  | none => false
  | some q => decide (v ≤ q)
/-- both tell the same fewest sheets, the same score by them -/
theorem few_same {G : Nat → Option Nat} {xs : List Lf} {v : Nat} (hG : GP G xs) (hsh : ∀ x ∈ xs, x.2.1 ≤ 240) {st : Option (Nat × Nat)} (hF : FP v st xs) : (st = none → fnd (fwB G v) 241 0 = none) ∧ ∀ p, st = some p → fnd (fwB G v) 241 0 = some p.1 ∧ mN G (p.1 + 1) = p.2 ∧ p.1 ≤ 240 := by
  obtain ⟨h1, h2⟩ := hF
  have hfw : ∀ u, fwB G v u = true → ∃ x ∈ xs, x.2.1 = u ∧ v ≤ x.1 := by
    intro u hu
    unfold fwB at hu
    cases hg : G u with
    | none => rw [hg] at hu; cases hu
    | some q =>
      rw [hg] at hu
      have hu' : v ≤ q := by simpa using hu
      obtain ⟨⟨x, x1, x2, x3⟩, -⟩ := (hG u).1 q hg
      exact ⟨x, x1, x2, by omega⟩
  refine ⟨fun e => ?_, fun p hp => ?_⟩
  · cases hx : fnd (fwB G v) 241 0 with
    | none => rfl
    | some u =>
      obtain ⟨-, -, w, -⟩ := fnd_some 241 0 u hx
      obtain ⟨x, x1, -, x3⟩ := hfw u w
      exact absurd x3 (h2 e x x1)
  · obtain ⟨⟨y, y1, y2, y3, y4⟩, g2⟩ := h1 p hp
    have hp240 : p.1 ≤ 240 := by have := hsh y y1; omega
    obtain ⟨q, hq⟩ : ∃ q, G p.1 = some q := by
      cases hg : G p.1 with
      | none => exact absurd y2 ((hG p.1).2 hg y y1)
      | some q => exact ⟨q, rfl⟩
    obtain ⟨⟨x, x1, x2, x3⟩, gmax⟩ := (hG p.1).1 q hq
    have hyq := gmax y y1 y2
    have hqp : q = p.2 := by
      have := (g2 x x1 (by first | omega | (dsimp only; omega))).2 x2
      omega
    refine ⟨fnd_of ?_ (by first | omega | (dsimp only; omega)) (fun t ht => ?_), ?_, hp240⟩
    · unfold fwB; rw [hq]; simp only [decide_eq_true_eq]; omega
    · cases hb : fwB G v t with
      | false => rfl
      | true =>
        obtain ⟨x', x1', x2', x3'⟩ := hfw t hb
        have := (g2 x' x1' x3').1
        omega
    · refine Nat.le_antisymm ?_ ?_
      · rcases mN_ex G (p.1 + 1) with e | ⟨u, e1, e2⟩
        · rw [e]; omega
        · obtain ⟨⟨x', x1', x2', x3'⟩, -⟩ := (hG u).1 _ e2
          rw [← x3']
          by_cases hvx : v ≤ x'.1
          · obtain ⟨b1, b2⟩ := g2 x' x1' hvx
            exact b2 (by first | omega | (dsimp only; omega))
          · omega
      · rw [← hqp]; exact mN_ge G (by first | omega | (dsimp only; omega)) hq
section Few
variable {N n d : Nat} {K W F z : Nat → Nat}
theorem cfew_l {G : Nat → Option Nat} {v : Nat} {mm : Mm} (hS : ∀ u, u ≤ 240 → rd mm 37 u = oV (-1) (G u) ∧ ∀ v, G u = some v → v ≤ 108) (hv : v ≤ 108) : ∀ c i, i + c = 241 → ∀ f, c < f → fX8_fewestFor_2 N f 35 (nI v) (nI i) mm = some (oV (-9) (fnd (fwB G v) c i), mm) := by
  intro c
  induction c with
  | zero =>
    intro i hi f hf
    obtain ⟨f, rfl⟩ : ∃ g, f = g + 1 := ⟨f - 1, by omega⟩
    unfold fX8_fewestFor_2
    exact st_t (nI_le (a := 241) (by first | omega | (dsimp only; omega)) (by first | omega | (dsimp only; omega))) rfl
  | succ c ih =>
    intro i hi f hf
    obtain ⟨f, rfl⟩ : ∃ g, f = g + 1 := ⟨f - 1, by omega⟩
    have ih2 := ih (i + 1) (by first | omega | (dsimp only; omega)) f (by first | omega | (dsimp only; omega))
    unfold fX8_fewestFor_2 fnd
    simp only [LXb, nI_nat (show i < 2147483648 by omega), nI_1]
    refine st_f (nI_ge (b := 241) (by first | omega | (dsimp only; omega)) (by first | omega | (dsimp only; omega))) (st_k rfl (by first | omega | (dsimp only; omega)) (by first | omega | (dsimp only; omega)) ?_)
    rw [(hS i (by first | omega | (dsimp only; omega))).1]
    cases hg : G i with
    | none =>
      have hb : ¬ fwB G v i = true := by unfold fwB; rw [hg]; simp
      rw [if_neg hb]
      refine st_t ?_ ih2
      rw [i_lt, nI_toInt (by first | omega | (dsimp only; omega))]
      have : (oV (-1) none).toInt = -1 := rfl
      omega
    | some q =>
      have hq := (hS i (by first | omega | (dsimp only; omega))).2 q hg
      show (if nI q < nI v then _ else _) = _
      by_cases hc : q < v
      · have hb : ¬ fwB G v i = true := by unfold fwB; rw [hg]; simp only [decide_eq_true_eq]; omega
        rw [if_neg hb]
        exact st_t (nI_lt hc (by first | omega | (dsimp only; omega))) ih2
      · have hb : fwB G v i = true := by unfold fwB; rw [hg]; simp only [decide_eq_true_eq]; omega
        rw [if_pos hb]
        exact st_f (nI_nlt (by first | omega | (dsimp only; omega)) (by first | omega | (dsimp only; omega))) rfl
end Few

/-! picked out of 63.when -/
def scB (o : Option Lf) : Nat := match o with
  | none => 0
  | some y => y.1
/-- days gone through, the best of them -/
def whN (S : Nat → Nat) : Nat → Nat → Int32 × Int32 → Int32 × Int32
  | 0, _, p => p
  | c + 1, d, p => whN S c (d + 1) (if nI (S d) ≤ p.2 then p else (nI d, nI (S d)))
section Wh
variable {N n s : Nat} {K W F z : Nat → Nat}
def scD (n s : Nat) (K W F z : Nat → Nat) (d : Nat) : Nat := scB ((lvs K W F d z 0 s n 0 (fun _ => 0) (fun _ => 0) 0 0).foldl (bst n) none)
theorem cwhen_l {q : Nat} (hN : 100000 ≤ N) (hs : s ≤ 40) (hq : q < 6) (hz : ∀ i, i < n → z i ≤ 1000) : ∀ c d (p : Int32 × Int32) mm, d + c = 10 → CS mm n K W F → rd mm 5 0 = nI s → HA mm (96 + 2 * q) n z → ∀ f, c < f → ∃ m', fX11_when_32 N f 0 (95 + 2 * q) p.1 p.2 (nI d) mm = some ((whN (scD n s K W F z) c d p).1, wr m' 0 14 (whN (scD n s K W F z) c d p).2) ∧ Fr (fun k _ => 35 ≤ k ∧ k ≤ 39) mm m' := by
  intro c
  induction c with
  | zero =>
    intro d p mm hi C h0 hZ f hf
    obtain ⟨f, rfl⟩ : ∃ g, f = g + 1 := ⟨f - 1, by omega⟩
    refine ⟨mm, ?_, Fr.rf⟩
    unfold fX11_when_32
    exact st_t (nI_lt (by first | omega | (dsimp only; omega)) (by first | omega | (dsimp only; omega))) (st_n rfl)
  | succ c ih =>
    intro d p mm hi C h0 hZ f hf
    obtain ⟨f, rfl⟩ : ∃ g, f = g + 1 := ⟨f - 1, by omega⟩
    obtain ⟨m1, c1, c2, c3⟩ := run_e (N := N) (d := d) (most := s) hN (by first | omega | (dsimp only; omega)) (by first | omega | (dsimp only; omega)) (ln_row hq) (by first | omega | (dsimp only; omega)) (by first | omega | (dsimp only; omega)) hz C hZ
    obtain ⟨y, y1, -, -⟩ := bst_e (n := n) _ (lvs_ne (K := K) (W := W) (F := F) (d := d) (s := 0) (L := s) (z := z) n 0 (fun _ => 0) (fun _ => 0) 0 0 (by first | omega | (dsimp only; omega)))
    obtain ⟨-, -, c4, -⟩ := c3
    obtain ⟨b1, -⟩ := c4 y y1
    have hsc : scD n s K W F z d = y.1 := by unfold scD; rw [y1]; rfl
    obtain ⟨m', a1, a2⟩ := ih (d + 1) (if nI (scD n s K W F z d) ≤ p.2 then p else (nI d, nI (scD n s K W F z d))) m1 (by first | omega | (dsimp only; omega)) (CS_c C (fun k j e => c2.2 _ _ (by first | omega | (dsimp only; omega)))) (by rw [c2.2 _ _ (by first | omega | (dsimp only; omega))]; exact h0) (hZ.c (fun i hi => c2.2 _ _ (by first | omega | (dsimp only; omega)))) f (by first | omega | (dsimp only; omega))
    refine ⟨m', ?_, c2.tr a2⟩
    unfold fX11_when_32 fX11_when_89
    simp only [LXa, LXb, fr_row hq, nI_1]
    refine st_f (nI_nlt (by first | omega | (dsimp only; omega)) (by first | omega | (dsimp only; omega))) (st_g (by decide) ?_)
    rw [show ((0 : Int32).toNatClampNeg) = 0 from rfl, h0]
    refine st_b c1 ?_
    rw [b1, ← hsc]
    unfold whN
    by_cases hq : nI (scD n s K W F z d) ≤ p.2
    · rw [if_pos hq] at a1
      refine st_t hq ?_
      rw [if_pos hq]
      exact a1
    · rw [if_neg hq] at a1
      refine st_f hq ?_
      rw [if_neg hq]
      exact a1
end Wh

/-! picked out of 64.adds -/
theorem or_c : ∀ c, c < 16 → ∀ l, l < 4 → c / 2 ^ l % 2 = 0 → nI c ||| (1 <<< (nI l &&& 31)) = nI (c + 2 ^ l) ∧ c + 2 ^ l < 16 := by decide +kernel
theorem bit_up : ∀ c, c < 16 → ∀ l, l < 4 → ∀ q, q < 4 → (c / 2 ^ l % 2 = 0 ∧ ¬ c / 2 ^ q % 2 = 0) → ¬ (c + 2 ^ l) / 2 ^ q % 2 = 0 := by decide +kernel
def pcN (c : Nat) : Nat := c % 2 + c / 2 % 2 + c / 4 % 2 + c / 8 % 2
def odN (p : Nat) : Nat := if p = 0 ∨ p = 3 then 6 else 2
theorem pcN_4 (c : Nat) : pcN c ≤ 4 := by unfold pcN; omega
theorem bc_e {N c : Nat} {mm : Mm} (hc : c < 16) : fJ6_bitCount_0f7a4 N (nI c) mm = some (nI (pcN c), mm) := by
  rcases (by omega : c = 0 ∨ c = 1 ∨ c = 2 ∨ c = 3 ∨ c = 4 ∨ c = 5 ∨ c = 6 ∨ c = 7 ∨ c = 8 ∨ c = 9 ∨ c = 10 ∨ c = 11 ∨ c = 12 ∨ c = 13 ∨ c = 14 ∨ c = 15) with rfl | rfl | rfl | rfl | rfl | rfl | rfl | rfl | rfl | rfl | rfl | rfl | rfl | rfl | rfl | rfl <;> rfl
theorem ord_e {N p : Nat} {mm : Mm} (hp : p ≤ 4) : fX11_ordersAround N (nI p) mm = some (nI (odN p), mm) := by
  rcases (by omega : p = 0 ∨ p = 1 ∨ p = 2 ∨ p = 3 ∨ p = 4) with rfl | rfl | rfl | rfl | rfl <;> rfl
theorem odN_6 (p : Nat) : odN p ≤ 6 := by unfold odN; split <;> omega
theorem stN_up {s0 : Nat} {len : Nat → Nat} {c l : Nat} (hc : c < 16) (hl : l < 4) (hb : c / 2 ^ l % 2 = 0) : stN s0 len c ≤ stN s0 len (c + 2 ^ l) := by
  have : ∀ m, m ≤ 4 → smN (fun l => if c / 2 ^ l % 2 = 0 then 0 else len l) m ≤ smN (fun q => if (c + 2 ^ l) / 2 ^ q % 2 = 0 then 0 else len q) m := by
    intro m
    induction m with
    | zero => intro _; exact Nat.le_refl _
    | succ m ih =>
      intro hm
      have h1 := ih (by first | omega | (dsimp only; omega))
      show _ + (if c / 2 ^ m % 2 = 0 then 0 else len m) ≤ _ + (if (c + 2 ^ l) / 2 ^ m % 2 = 0 then 0 else len m)
      by_cases hq : c / 2 ^ m % 2 = 0
      · rw [if_pos hq]; omega
      · rw [if_neg hq, if_neg (bit_up c hc l hl m (by first | omega | (dsimp only; omega)) ⟨hb, hq⟩)]
        omega
  have := this 4 (by first | omega | (dsimp only; omega))
  unfold stN; omega
theorem stN_ge {s0 : Nat} {len : Nat → Nat} {c : Nat} : s0 ≤ stN s0 len c := Nat.le_add_right _ _
theorem stN_15 {s0 : Nat} {len : Nat → Nat} {c : Nat} (hc : c < 16) : stN s0 len c ≤ stN s0 len 15 := by
  have hall : ∀ q, q < 4 → 15 / 2 ^ q % 2 ≠ 0 := by decide
  have : ∀ m, m ≤ 4 → smN (fun l => if c / 2 ^ l % 2 = 0 then 0 else len l) m ≤ smN (fun q => if 15 / 2 ^ q % 2 = 0 then 0 else len q) m := by
    intro m
    induction m with
    | zero => intro _; exact Nat.le_refl _
    | succ m ih =>
      intro hm
      have h1 := ih (by first | omega | (dsimp only; omega))
      show _ + (if c / 2 ^ m % 2 = 0 then 0 else len m) ≤ _ + (if 15 / 2 ^ m % 2 = 0 then 0 else len m)
      rw [if_neg (hall m (by first | omega | (dsimp only; omega)))]
      by_cases hq : c / 2 ^ m % 2 = 0
      · rw [if_pos hq]; omega
      · rw [if_neg hq]; omega
  have := this 4 (by first | omega | (dsimp only; omega))
  unfold stN; omega
/-- the sum of adds over the first sets -/
def adN (B : Nat → Nat) (l : Nat) : Nat → Nat
  | 0 => 0
  | c + 1 => adN B l c + (if c / 2 ^ l % 2 = 0 then odN (pcN c) * (B (c + 2 ^ l) - B c) else 0)
theorem adN_b {B : Nat → Nat} {l : Nat} (hB : ∀ c, B c ≤ 108) : ∀ c, adN B l c ≤ 648 * c := by
  intro c
  induction c with
  | zero => exact Nat.le_refl _
  | succ c ih =>
    have h1 : odN (pcN c) * (B (c + 2 ^ l) - B c) ≤ 6 * 108 := Nat.mul_le_mul (odN_6 _) (by have := hB (c + 2 ^ l); omega)
    show adN B l c + (if c / 2 ^ l % 2 = 0 then odN (pcN c) * (B (c + 2 ^ l) - B c) else 0) ≤ _
    split <;> omega
section Ads
variable {N n d s l : Nat} {K W F z len : Nat → Nat} {B : Nat → Nat}
theorem cadds_l {mm : Mm} {B0 : Nat} (hN : 100000 ≤ N) (hl : l < 4) (hB8 : ∀ c, B c ≤ 108) (hB0 : ∀ c, c < 16 → B0 ≤ B c) (hup : ∀ c, c < 16 → c / 2 ^ l % 2 = 0 → B c ≤ B (c + 2 ^ l)) (hw : ∀ c, c < 16 → fX11_worthOf N 0 (nI c) mm = some (nI (B c) - nI B0, mm)) : ∀ cc c, c + cc = 16 → ∀ f, cc < f → fX11_adds_80 N f 0 (nI l) (nI (adN B l c)) (nI c) mm = some (1, wrL (wrL mm 0 15 (frU (adN B l 16) 24)) 0 16 (frL (adN B l 16) 24)) := by
  intro cc
  induction cc with
  | zero =>
    intro c hc f hf
    obtain ⟨f, rfl⟩ : ∃ g, f = g + 1 := ⟨f - 1, by omega⟩
    obtain rfl : c = 16 := by omega
    have hb := adN_b (l := l) hB8 16
    unfold fX11_adds_80
    refine st_t (nI_lt (by first | omega | (dsimp only; omega)) (by first | omega | (dsimp only; omega))) ?_
    rw [nI_l (by first | omega | (dsimp only; omega))]
    exact st_b (cfrac_e (w := 24) hN (by first | omega | (dsimp only; omega)) (by first | omega | (dsimp only; omega)) (by first | omega | (dsimp only; omega))) rfl
  | succ cc ih =>
    intro c hc f hf
    obtain ⟨f, rfl⟩ : ∃ g, f = g + 1 := ⟨f - 1, by omega⟩
    have ih2 := ih (c + 1) (by first | omega | (dsimp only; omega)) f (by first | omega | (dsimp only; omega))
    have hs : adN B l (c + 1) = adN B l c + (if c / 2 ^ l % 2 = 0 then odN (pcN c) * (B (c + 2 ^ l) - B c) else 0) := rfl
    rw [hs] at ih2
    unfold fX11_adds_80 fX11_adds_127
    simp only [nI_1]
    refine st_f (nI_nlt (by first | omega | (dsimp only; omega)) (by first | omega | (dsimp only; omega))) ?_
    rw [bit_c c (by first | omega | (dsimp only; omega)) l hl]
    by_cases hb : c / 2 ^ l % 2 = 0
    · rw [if_pos hb] at ih2
      obtain ⟨o1, o2⟩ := or_c c (by first | omega | (dsimp only; omega)) l hl hb
      have b1 := hB0 c (by first | omega | (dsimp only; omega))
      have b2 := hup c (by first | omega | (dsimp only; omega)) hb
      have b3 := hB8 (c + 2 ^ l)
      refine st_t (by rw [hb]; rfl) (st_b (bc_e (by first | omega | (dsimp only; omega))) (st_b (ord_e (pcN_4 c)) ?_))
      rw [o1]
      refine st_b (hw _ o2) (st_b (hw c (by first | omega | (dsimp only; omega))) ?_)
      rw [nI_sub (by first | omega | (dsimp only; omega)), nI_sub (by first | omega | (dsimp only; omega)), nI_sub (by first | omega | (dsimp only; omega)), nI_mul, nI_add, show B (c + 2 ^ l) - B0 - (B c - B0) = B (c + 2 ^ l) - B c by omega]
      exact ih2
    · rw [if_neg hb] at ih2
      exact st_f (fun q => hb (nI_inj (b := 0) q (by first | omega | (dsimp only; omega)) (by first | omega | (dsimp only; omega)))) ih2
end Ads
/-- the class' worth of a set, told by the greatest scores -/
theorem worth_e {N s c : Nat} {len : Nat → Nat} {G : Nat → Option Nat} {mm : Mm} (hN : 100000 ≤ N) (hc : c < 16) (hs : rd mm 5 0 = nI s) (hl : HA mm 6 4 len) (h40 : stN s len c ≤ 40) (hS : ∀ u, u ≤ 240 → rd mm 37 u = oV (-1) (G u) ∧ ∀ v, G u = some v → v ≤ 108) : fX11_worthOf N 0 (nI c) mm = some (nI (mN G (stN s len c + 1)) - nI (mN G (s + 1)), mm) := by
  have := stN_ge (s0 := s) (len := len) (c := c)
  unfold fX11_worthOf
  simp only [LXa, LXb]
  refine st_b (cstock_e hN hc hs hl) (st_b (mostBy_e hN hS (by first | omega | (dsimp only; omega))) (st_g (by decide) ?_))
  rw [show ((0 : Int32).toNatClampNeg) = 0 from rfl, hs]
  exact st_b (mostBy_e hN hS (by first | omega | (dsimp only; omega))) rfl

/-! picked out of 66.dread -/
def mnL (a : Nat) (xs : List Lf) : Nat := xs.foldl (fun a x => if a ≤ x.1 then a else x.1) a
theorem mnL_le : ∀ (xs : List Lf) (a v : Nat), mnL a xs ≤ v ↔ a ≤ v ∨ ∃ x ∈ xs, x.1 ≤ v := by
  intro xs
  induction xs with
  | nil => intro a v; exact ⟨fun h => Or.inl h, fun h => by rcases h with h | ⟨x, hx, _⟩; exact h; cases hx⟩
  | cons y xs ih =>
    intro a v
    show mnL (if a ≤ y.1 then a else y.1) xs ≤ v ↔ _
    rw [ih]
    constructor
    · rintro (h | ⟨x, hx, h⟩)
      · by_cases hc : a ≤ y.1
        · rw [if_pos hc] at h; exact Or.inl h
        · rw [if_neg hc] at h; exact Or.inr ⟨y, List.mem_cons_self, h⟩
      · exact Or.inr ⟨x, List.mem_cons_of_mem _ hx, h⟩
    · rintro (h | ⟨x, hx, h⟩)
      · left; split <;> omega
      · rcases List.mem_cons.mp hx with q | q
        · left; rw [q] at h; split <;> omega
        · exact Or.inr ⟨x, q, h⟩
theorem mnL_a {xs : List Lf} {a : Nat} : mnL a xs ≤ a := (mnL_le xs a a).mpr (Or.inl (Nat.le_refl _))
theorem mnL_mono {xs : List Lf} {a b : Nat} (h : a ≤ b) : mnL a xs ≤ mnL b xs := by
  rw [mnL_le]
  rcases (mnL_le xs b (mnL b xs)).mp (Nat.le_refl _) with q | q
  · exact Or.inl (by first | omega | (dsimp only; omega))
  · exact Or.inr q
theorem mnL_app {xs ys : List Lf} {a : Nat} : mnL a (xs ++ ys) = mnL (mnL a xs) ys := List.foldl_append
theorem mnL_big {xs : List Lf} {a b v : Nat} (h : ∃ x ∈ xs, x.1 ≤ v) (ha : v ≤ a) (hb : v ≤ b) : mnL a xs = mnL b xs := by
  have key : ∀ a b, v ≤ a → v ≤ b → mnL a xs ≤ mnL b xs := by
    intro a b _ hb
    rw [mnL_le]
    rcases (mnL_le xs b (mnL b xs)).mp (Nat.le_refl _) with q | q
    · obtain ⟨x, h1, h2⟩ := h
      exact Or.inr ⟨x, h1, by omega⟩
    · exact Or.inr q
  exact Nat.le_antisymm (key a b ha hb) (key b a hb ha)
theorem mnL_ge {xs : List Lf} {a : Nat} (h : ∀ x ∈ xs, a ≤ x.1) : mnL a xs = a := by
  refine Nat.le_antisymm mnL_a ?_
  rcases (mnL_le xs a (mnL a xs)).mp (Nat.le_refl _) with q | ⟨x, q1, q2⟩
  · exact q
  · exact Nat.le_trans (h x q1) q2
theorem lvs_sc {n : Nat} {K W F : Nat → Nat} {d s L : Nat} {z : Nat → Nat} (hW : ∀ i, i < n → W i ≤ 9) : ∀ r i w l sc sh x, i + r ≤ n → x ∈ lvs K W F d z s L r i w l sc sh → x.1 ≤ sc + 18 * r := by
  intro r
  induction r with
  | zero =>
    intro i w l sc sh x hi h
    obtain rfl : x = (sc, sh, l) := List.mem_singleton.mp h
    exact Nat.le_refl _
  | succ r ih =>
    intro i w l sc sh x hi h
    obtain ⟨e, y, h1, h2, h3, h4⟩ := lvs_s.mp h
    have := ih _ _ _ _ _ _ (by first | omega | (dsimp only; omega)) h4
    have := pts_18 (s := 0) (e := e) (hW i (by first | omega | (dsimp only; omega)))
    omega
/-- the class' answer b, floor en -/
def DR (en : Int) (a : Nat) (xs : List Lf) (b : Nat) : Prop := b = mnL a xs ∨ ((b : Int) ≤ en ∧ mnL a xs ≤ b)
theorem DR.app {en : Int} {a b c : Nat} {xs ys : List Lf} (h : DR en a xs b) (h2 : DR en b ys c) : DR en a (xs ++ ys) c := by
  unfold DR
  rw [mnL_app]
  rcases h with h | ⟨h, h'⟩
  · rw [← h]; exact h2
  · have hm : mnL (mnL a xs) ys ≤ mnL b ys := mnL_mono h'
    rcases h2 with h2 | ⟨h2, h2'⟩
    · have : mnL b ys ≤ b := mnL_a
      exact Or.inr ⟨by omega, by omega⟩
    · exact Or.inr ⟨h2, by omega⟩
section Dr
variable {N n d q Q T : Nat} {K W F z : Nat → Nat}
def BD (mm : Mm) (n d q i : Nat) (en : Int32) (K W F z w : Nat → Nat) : Prop := CS mm n K W F ∧ rd mm 3 6 = nI d ∧ rd mm 40 2 = en ∧ HA mm q n z ∧ HA mm 41 i w ∧ ∀ j, j < i → w j ≤ 2
theorem BD.c {mm m2 : Mm} {i : Nat} {en : Int32} {w : Nat → Nat} (h : BD mm n d q i en K W F z w) (hq : q < 40 ∨ 41 < q) (hi : i ≤ n) (f : Fr (fun k j => (k = 40 ∧ j = 1) ∨ (k = 41 ∧ i ≤ j ∧ j < n)) mm m2) : BD m2 n d q i en K W F z w := by
  obtain ⟨h1, h2, h3, h4, h5, h8⟩ := h
  exact ⟨CS_c h1 (fun k j e => f.2 _ _ (by first | omega | (dsimp only; omega))), by rw [f.2 _ _ (by first | omega | (dsimp only; omega))]; exact h2, by rw [f.2 _ _ (by first | omega | (dsimp only; omega))]; exact h3, h4.c (fun j hj => f.2 _ _ (by first | omega | (dsimp only; omega))), h5.c (fun j hj => f.2 _ _ (by first | omega | (dsimp only; omega))), h8⟩
theorem dread_l {en : Int32} (hN : 100000 ≤ N) (hd9 : d ≤ 9) (hT : T ≤ 40) (hQ : ln q = Q) (hQ6 : 6 ≤ Q ∧ Q ≤ 1000) (hq : q < 40 ∨ 41 < q) (hz : ∀ i, i < n → z i ≤ 1000) (hn6 : n ≤ 6) : ∀ r i w l sc sh mm a D, i + r = n → r < D → BD mm n d q i en K W F z w → rd mm 40 1 = nI a → a ≤ 1000000 → sc ≤ 18 * i → sh ≤ T → ∃ m' b, fX1_branch N D 40 3 q (nI i) (nI (T - sh)) (nI sc) mm = some ((), m') ∧ Fr (fun k j => (k = 40 ∧ j = 1) ∨ (k = 41 ∧ i ≤ j ∧ j < n)) mm m' ∧ rd m' 40 1 = nI b ∧ b ≤ 1000000 ∧ DR en.toInt a (lvs K W F d z 1 T r i w l sc sh) b := by
  intro r
  induction r with
  | zero =>
    intro i w l sc sh mm a D hi hD hB ha ha6 hsc hsh
    obtain ⟨D, rfl⟩ : ∃ g, D = g + 1 := ⟨D - 1, by omega⟩
    obtain rfl : i = n := by omega
    have hx : mnL a [(sc, sh, l)] = if a ≤ sc then a else sc := rfl
    obtain ⟨h1, h2, h3, h4, h5, h8⟩ := hB
    unfold fX1_branch fX1_branch_0 fX1_branch_45
    rw [ha, h3]
    by_cases c1 : a ≤ sc
    · refine ⟨mm, a, st_t (nI_le c1 (by first | omega | (dsimp only; omega))) rfl, Fr.rf, ha, ha6, Or.inl ?_⟩
      show a = mnL a [(sc, sh, l)]
      rw [hx, if_pos c1]
    by_cases c2 : en < nI a
    · refine ⟨wr mm 40 1 (nI sc), sc, st_f (nI_ge (by first | omega | (dsimp only; omega)) (by first | omega | (dsimp only; omega))) (st_t c2 (st_b (suitOf_e h1) (st_c0 (st_n rfl)))), fr_wr Fr.rf (by first | omega | (dsimp only; omega)), rd_wr_s, by omega, Or.inl ?_⟩
      show sc = mnL a [(sc, sh, l)]
      rw [hx, if_neg c1]
    · refine ⟨mm, a, st_f (nI_ge (by first | omega | (dsimp only; omega)) (by first | omega | (dsimp only; omega))) (st_f c2 rfl), Fr.rf, ha, ha6, Or.inr ⟨?_, mnL_a⟩⟩
      rw [i_lt, nI_toInt (by first | omega | (dsimp only; omega))] at c2
      omega
  | succ r ih =>
    intro i w l sc sh mm a D hi hD hB ha ha6 hsc hsh
    obtain ⟨D, rfl⟩ : ∃ g, D = g + 1 := ⟨D - 1, by omega⟩
    have hin : i < n := by omega
    have loop : ∀ c e mm a, e + c = 3 → BD mm n d q i en K W F z w → rd mm 40 1 = nI a → a ≤ 1000000 → ∀ f, c < f → ∃ m' b, fX1_branch_55 N (fX1_branch N D) f 40 3 q (nI i) (nI (T - sh)) (nI sc) (17 + i) (nI e) mm = some ((), m') ∧ Fr (fun k j => (k = 40 ∧ j = 1) ∨ (k = 41 ∧ i ≤ j ∧ j < n)) mm m' ∧ rd m' 40 1 = nI b ∧ b ≤ 1000000 ∧ DR en.toInt a (lvC (fun e => match nd K F d w z 1 i e with
        | none => []
        | some x => if sh + x ≤ T then lvs K W F d z 1 T r (i + 1) (up w i e) (up l i x) (sc + pts (W i) 0 e) (sh + x) else []) c e) b := by
      intro c
      induction c with
      | zero =>
        intro e mm a he hB ha ha6 f hf
        obtain ⟨f, rfl⟩ : ∃ g, f = g + 1 := ⟨f - 1, by omega⟩
        refine ⟨mm, a, ?_, Fr.rf, ha, ha6, Or.inl rfl⟩
        unfold fX1_branch_55
        exact st_t (nI_le (by first | omega | (dsimp only; omega)) (by first | omega | (dsimp only; omega))) rfl
      | succ c ihc =>
        intro e mm a he hB ha ha6 f hf
        obtain ⟨f, rfl⟩ : ∃ g, f = g + 1 := ⟨f - 1, by omega⟩
        have hB0 := hB
        obtain ⟨h1, h2, h3, h4, h5, h8⟩ := hB
        obtain ⟨u, k1, k2, k3, k4, k5, k6, k7⟩ := h1.2.2 i hin
        obtain ⟨R, r1, r2⟩ := cneed_e (N := N) (d := d) (w := w) (z := z) (p := 41) (s := 1) (i := i) (e := e) h1 hd9 hin (by first | omega | (dsimp only; omega)) (by first | omega | (dsimp only; omega)) rfl (fun q => ⟨h5 _ (k6 q), h8 _ (k6 q)⟩) (hz i hin)
        have pts18 := pts_18 (s := 0) (e := e) k3
        have hstep : ∀ rr, (if R < 0 then fX1_branch_55 N (fX1_branch N D) f 40 3 q (nI i) (nI (T - sh)) (nI sc) (17 + i) (nI (e + 1)) mm else if nI (T - sh) < R then fX1_branch_55 N (fX1_branch N D) f 40 3 q (nI i) (nI (T - sh)) (nI sc) (17 + i) (nI (e + 1)) mm else bd2 (fX9_points N (17 + i) 0 (nI e) (wr mm 41 i (nI e))) fun x13 m14 => bd2 (fX1_branch N D 40 3 q (nI (i + 1)) (nI (T - sh) - R) (nI sc + x13) m14) fun x16 m17 => fX1_branch_55 N (fX1_branch N D) f 40 3 q (nI i) (nI (T - sh)) (nI sc) (17 + i) (nI (e + 1)) m17) = rr → fX1_branch_55 N (fX1_branch N D) (f + 1) 40 3 q (nI i) (nI (T - sh)) (nI sc) (17 + i) (nI e) mm = rr := by
          intro rr hrr
          unfold fX1_branch_55 fX1_branch_127
          simp only [LXb, nI_nat (show i < 2147483648 by omega), nI_1, h2, h4 i hin]
          refine st_f (nI_ge (by first | omega | (dsimp only; omega)) (by first | omega | (dsimp only; omega))) (st_k hQ (by first | omega | (dsimp only; omega)) (by first | omega | (dsimp only; omega)) (st_b r1 ?_))
          rw [← hrr]
          by_cases c1 : R < 0
          · rw [if_pos c1, if_pos c1]
          rw [if_neg c1, if_neg c1]
          by_cases c2 : nI (T - sh) < R
          · rw [if_pos c2, if_pos c2]
          rw [if_neg c2, if_neg c2]
          exact st_k rfl (by first | omega | (dsimp only; omega)) (by first | omega | (dsimp only; omega)) (st_n rfl)
        have skip : (match nd K F d w z 1 i e with
            | none => []
            | some x => if sh + x ≤ T then lvs K W F d z 1 T r (i + 1) (up w i e) (up l i x) (sc + pts (W i) 0 e) (sh + x) else []) = [] → (R < 0 ∨ nI (T - sh) < R) → ∃ m' b, fX1_branch_55 N (fX1_branch N D) (f + 1) 40 3 q (nI i) (nI (T - sh)) (nI sc) (17 + i) (nI e) mm = some ((), m') ∧ Fr (fun k j => (k = 40 ∧ j = 1) ∨ (k = 41 ∧ i ≤ j ∧ j < n)) mm m' ∧ rd m' 40 1 = nI b ∧ b ≤ 1000000 ∧ DR en.toInt a (lvC (fun e => match nd K F d w z 1 i e with
              | none => []
              | some x => if sh + x ≤ T then lvs K W F d z 1 T r (i + 1) (up w i e) (up l i x) (sc + pts (W i) 0 e) (sh + x) else []) (c + 1) e) b := by
          intro hnil hR
          obtain ⟨m', b, a1, a2, a3, a4, a5⟩ := ihc (e + 1) mm a (by first | omega | (dsimp only; omega)) hB0 ha ha6 f (by first | omega | (dsimp only; omega))
          refine ⟨m', b, hstep _ ?_, a2, a3, a4, ?_⟩
          · by_cases c1 : R < 0
            · exact st_t c1 a1
            · refine st_f c1 ?_
              rcases hR with q | q
              · exact absurd q c1
              · exact st_t q a1
          · unfold lvC
            rw [hnil]
            exact a5
        rcases r2 with ⟨q1, q2⟩ | ⟨y, qy, q1, q3⟩
        · exact skip (by rw [q2]) (Or.inl (by rw [q1]; decide))
        · by_cases hy : y ≤ 40
          · rw [if_pos hy] at q3
            by_cases hLy : sh + y ≤ T
            · have hup : Fr (fun k j => (k = 40 ∧ j = 1) ∨ (k = 41 ∧ i ≤ j ∧ j < n)) mm (wr mm 41 i (nI e)) := fr_wr Fr.rf (by first | omega | (dsimp only; omega))
              obtain ⟨p1, p2, p3, p4, p5, p8⟩ := hB0.c hq (by first | omega | (dsimp only; omega)) hup
              have hB1 : BD (wr mm 41 i (nI e)) n d q (i + 1) en K W F z (up w i e) := by
                refine ⟨p1, p2, p3, p4, fun j hj => ?_, fun j hj => ?_⟩
                · by_cases hji : j = i
                  · subst hji; rw [up_s, rd_wr_s]
                  · rw [up_o hji]; exact p5 j (by first | omega | (dsimp only; omega))
                · by_cases hji : j = i
                  · subst hji; rw [up_s]; omega
                  · rw [up_o hji]; exact h8 j (by first | omega | (dsimp only; omega))
              obtain ⟨m1, b1, a1, a2, a3, a4, a5⟩ := ih (i + 1) (up w i e) (up l i y) (sc + pts (W i) 0 e) (sh + y) _ a D (by first | omega | (dsimp only; omega)) (by first | omega | (dsimp only; omega)) hB1 (by rw [rd_wr_k (by first | omega | (dsimp only; omega))]; exact ha) ha6 (by first | omega | (dsimp only; omega)) hLy
              have hfr1 : Fr (fun k j => (k = 40 ∧ j = 1) ∨ (k = 41 ∧ i ≤ j ∧ j < n)) mm m1 := hup.tr (a2.mono (fun k j e => by omega))
              obtain ⟨m2, b2, o1, o2, o3, o4, o5⟩ := ihc (e + 1) m1 b1 (by first | omega | (dsimp only; omega)) (hB0.c hq (by first | omega | (dsimp only; omega)) hfr1) a3 a4 f (by first | omega | (dsimp only; omega))
              refine ⟨m2, b2, hstep _ ?_, hfr1.tr o2, o3, o4, ?_⟩
              · rw [q1]
                refine st_f (nI_pos (by first | omega | (dsimp only; omega))) (st_f (nI_nlt (by first | omega | (dsimp only; omega)) (by first | omega | (dsimp only; omega))) ?_)
                have u2 : SU (wr mm 41 i (nI e)) (17 + i) (K i) (W i) (F i) := (p1.2.2 i hin).1
                refine st_b (points_e (s := 0) u2 (by first | omega | (dsimp only; omega)) (by first | omega | (dsimp only; omega))) ?_
                rw [nI_add, nI_sub (by first | omega | (dsimp only; omega)), show T - sh - y = T - (sh + y) by omega]
                exact st_b a1 o1
              · unfold lvC
                simp only [q3, if_pos hLy]
                exact a5.app o5
            · refine skip (by rw [q3]; exact if_neg hLy) (Or.inr ?_)
              rw [q1]
              exact nI_lt (by first | omega | (dsimp only; omega)) (by first | omega | (dsimp only; omega))
          · rw [if_neg hy] at q3
            refine skip (by rw [q3]) (Or.inr ?_)
            rw [q1]
            exact nI_lt (by first | omega | (dsimp only; omega)) (by first | omega | (dsimp only; omega))
    unfold fX1_branch fX1_branch_0
    have hB0 := hB
    obtain ⟨h1, h2, h3, h4, h5, h8⟩ := hB
    rw [ha, h3]
    by_cases c1 : a ≤ sc
    · refine ⟨mm, a, st_t (nI_le c1 (by first | omega | (dsimp only; omega))) rfl, Fr.rf, ha, ha6, Or.inl ?_⟩
      exact (mnL_ge (fun x hx => by have := (lvs_ge _ _ _ _ _ _ _ hx).1; omega)).symm
    by_cases c2 : en < nI a
    · obtain ⟨m', b, l1, l2, l3, l4, l5⟩ := loop 3 0 mm a (by first | omega | (dsimp only; omega)) hB0 ha ha6 N (by first | omega | (dsimp only; omega))
      refine ⟨m', b, st_f (nI_ge (by first | omega | (dsimp only; omega)) (by first | omega | (dsimp only; omega))) (st_t c2 (st_b (suitOf_t h1 hin) (st_c (st_f (nI_ge (by first | omega | (dsimp only; omega)) (by first | omega | (dsimp only; omega))) (st_t ?_ l1))))), l2, l3, l4, l5⟩
      rw [hQ]
      exact nI_lt (by first | omega | (dsimp only; omega)) (by first | omega | (dsimp only; omega))
    · refine ⟨mm, a, st_f (nI_ge (by first | omega | (dsimp only; omega)) (by first | omega | (dsimp only; omega))) (st_f c2 rfl), Fr.rf, ha, ha6, Or.inr ⟨?_, mnL_a⟩⟩
      rw [i_lt, nI_toInt (by first | omega | (dsimp only; omega))] at c2
      omega
/-- SURE of a laying -/
def sureN (K W F : Nat → Nat) (d T n : Nat) (z : Nat → Nat) : Nat := mnL 1000 (lvs K W F d z 1 T n 0 (fun _ => 0) (fun _ => 0) 0 0)
theorem sure_b {T : Nat} (hW : ∀ i, i < n → W i ≤ 9) (hn : n ≤ 6) : sureN K W F d T n z ≤ 108 ∧ ∀ a, 108 ≤ a → mnL a (lvs K W F d z 1 T n 0 (fun _ => 0) (fun _ => 0) 0 0) = sureN K W F d T n z := by
  obtain ⟨x, hx⟩ := lvs_ne (K := K) (W := W) (F := F) (d := d) (s := 1) (L := T) (z := z) n 0 (fun _ => 0) (fun _ => 0) 0 0 (by first | omega | (dsimp only; omega))
  have h1 := lvs_sc hW n 0 _ _ 0 0 x (by first | omega | (dsimp only; omega)) hx
  have h2 : ∃ x ∈ lvs K W F d z 1 T n 0 (fun _ => 0) (fun _ => 0) 0 0, x.1 ≤ 108 := ⟨x, hx, by omega⟩
  exact ⟨(mnL_le _ _ _).mpr (Or.inr h2), fun a ha => mnL_big h2 ha (by first | omega | (dsimp only; omega))⟩
theorem least_c {mm : Mm} {en : Int32} (hN : 100000 ≤ N) (hd9 : d ≤ 9) (hT : T ≤ 40) (hQ : ln q = Q) (hQ6 : 6 ≤ Q ∧ Q ≤ 1000) (hq : q < 40 ∨ 41 < q) (hz : ∀ i, i < n → z i ≤ 1000) (C : CS mm n K W F) (hd : rd mm 3 6 = nI d) (ht : rd mm 5 1 = nI T) (hZ : HA mm q n z) : ∃ m' b, fX1_leastFor N 40 3 q en mm = some (nI b, m') ∧ Fr (fun k _ => k = 40 ∨ k = 41) mm m' ∧ b ≤ 1000000 ∧ (b = sureN K W F d T n z ∨ ((b : Int) ≤ en.toInt ∧ sureN K W F d T n z ≤ b)) := by
  have hn6 := C.2.1
  have hfr : Fr (fun k _ => k = 40 ∨ k = 41) mm (wr (wr mm 40 1 1000000) 40 2 en) := fr_wr (fr_wr Fr.rf (by first | omega | (dsimp only; omega))) (by first | omega | (dsimp only; omega))
  obtain ⟨m', b, a1, a2, a3, a4, a5⟩ := dread_l (N := N) (d := d) (q := q) (T := T) (z := z) (en := en) hN hd9 hT hQ hQ6 hq hz hn6 n 0 (fun _ => 0) (fun _ => 0) 0 0 (wr (wr mm 40 1 1000000) 40 2 en) 1000000 9 (by first | omega | (dsimp only; omega)) (by first | omega | (dsimp only; omega)) ⟨CS_c C (fun k j e => hfr.2 _ _ (by first | omega | (dsimp only; omega))), by rw [hfr.2 _ _ (by first | omega | (dsimp only; omega))]; exact hd, by rw [rd_wr_s], hZ.c (fun i hi => hfr.2 _ _ (by first | omega | (dsimp only; omega))), fun j hj => by omega, fun j hj => by omega⟩ (by rw [rd_wr_j (by first | omega | (dsimp only; omega)), rd_wr_s]; rfl) (by first | omega | (dsimp only; omega)) (by first | omega | (dsimp only; omega)) (by first | omega | (dsimp only; omega))
  obtain ⟨s1, s2⟩ := sure_b (K := K) (W := W) (F := F) (d := d) (z := z) (T := T) (fun i hi => (C.2.2 i hi).2.2.2.1) hn6
  rw [show T - 0 = T from rfl] at a1
  refine ⟨m', b, ?_, hfr.tr (a2.mono (fun k j e => by omega)), a4, ?_⟩
  · unfold fX1_leastFor
    simp only [LXa]
    refine st_n (st_n (st_g (by decide) ?_))
    rw [show ((1 : Int32).toNatClampNeg) = 1 from rfl, hfr.2 5 1 (by first | omega | (dsimp only; omega)), ht]
    refine st_b a1 ?_
    rw [a3]
  · unfold DR at a5
    rw [s2 1000000 (by first | omega | (dsimp only; omega))] at a5
    exact a5
end Dr
