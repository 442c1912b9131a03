/-! pure: mixings: the class' table of scores, the model's least of all -/
section Hm
variable {S1 S2 : (Nat → Nat) → Nat}
def hF (S1 S2 : (Nat → Nat) → Nat) (H : Nat → Nat) (l : Nat → Nat) : Nat → Nat := fun u => if u = S1 l then (if S2 l < H u then S2 l else H u) else H u
def mvN (S1 S2 : (Nat → Nat) → Nat) (p q : Nat) (l : Nat → Nat) : Nat := p * S1 l + (q - p) * S2 l
def mxF (S1 S2 : (Nat → Nat) → Nat) (p q a : Nat) (l : Nat → Nat) : Nat := if a ≤ mvN S1 S2 p q l then a else mvN S1 S2 p q l
/-- the class' least by its table, of the first scores -/
def lbN (p q : Nat) (H : Nat → Nat) : Nat → Nat
  | 0 => 1000000
  | c + 1 => if 1000000 ≤ H c then lbN p q H c else (if p * c + (q - p) * H c < lbN p q H c then p * c + (q - p) * H c else lbN p q H c)
theorem hF_p : ∀ (xs : List (Nat → Nat)) (ys : List (Nat → Nat)) (H : Nat → Nat), (∀ u, H u ≤ 1000000 ∧ (H u < 1000000 → ∃ l ∈ ys, S1 l = u ∧ S2 l = H u) ∧ ∀ l ∈ ys, S1 l = u → H u ≤ S2 l) → ∀ u, xs.foldl (hF S1 S2) H u ≤ 1000000 ∧ (xs.foldl (hF S1 S2) H u < 1000000 → ∃ l ∈ ys ++ xs, S1 l = u ∧ S2 l = xs.foldl (hF S1 S2) H u) ∧ ∀ l ∈ ys ++ xs, S1 l = u → xs.foldl (hF S1 S2) H u ≤ S2 l := by
  intro xs
  induction xs with
  | nil => intro ys H h; rw [List.append_nil]; exact h
  | cons a xs ih =>
    intro ys H h
    have hap : ys ++ a :: xs = (ys ++ [a]) ++ xs := by rw [List.append_assoc]; rfl
    rw [hap]
    show ∀ u, xs.foldl (hF S1 S2) (hF S1 S2 H a) u ≤ 1000000 ∧ _
    refine ih (ys ++ [a]) (hF S1 S2 H a) (fun u => ?_)
    obtain ⟨h1, h2, h3⟩ := h u
    have hin : ∀ x, x ∈ ys ++ [a] ↔ x ∈ ys ∨ x = a := fun x => by rw [List.mem_append, List.mem_singleton]
    by_cases hu : u = S1 a
    · have e : hF S1 S2 H a u = if S2 a < H u then S2 a else H u := if_pos hu
      rw [e]
      by_cases hc : S2 a < H u
      · rw [if_pos hc]
        refine ⟨by omega, fun _ => ⟨a, (hin a).mpr (Or.inr rfl), hu.symm, rfl⟩, fun l hl hlu => ?_⟩
        rcases (hin l).mp hl with q | q
        · have := h3 l q hlu; omega
        · rw [q]; exact Nat.le_refl _
      · rw [if_neg hc]
        refine ⟨h1, fun w => ?_, fun l hl hlu => ?_⟩
        · obtain ⟨l, l1, l2, l3⟩ := h2 w
          exact ⟨l, (hin l).mpr (Or.inl l1), l2, l3⟩
        · rcases (hin l).mp hl with q | q
          · exact h3 l q hlu
          · rw [q]; omega
    · have e : hF S1 S2 H a u = H u := if_neg hu
      rw [e]
      refine ⟨h1, fun w => ?_, fun l hl hlu => ?_⟩
      · obtain ⟨l, l1, l2, l3⟩ := h2 w
        exact ⟨l, (hin l).mpr (Or.inl l1), l2, l3⟩
      · rcases (hin l).mp hl with q | q
        · exact h3 l q hlu
        · rw [q] at hlu; exact absurd hlu.symm hu
theorem lbN_le {p q : Nat} {H : Nat → Nat} : ∀ c v, lbN p q H c ≤ v ↔ 1000000 ≤ v ∨ ∃ u, u < c ∧ H u < 1000000 ∧ p * u + (q - p) * H u ≤ v := by
  intro c
  induction c with
  | zero => intro v; exact ⟨fun h => Or.inl h, fun h => by rcases h with h | ⟨u, hu, _⟩; exact h; omega⟩
  | succ c ih =>
    intro v
    show (if 1000000 ≤ H c then lbN p q H c else (if p * c + (q - p) * H c < lbN p q H c then p * c + (q - p) * H c else lbN p q H c)) ≤ v ↔ _
    by_cases h1 : 1000000 ≤ H c
    · rw [if_pos h1, ih]
      constructor
      · rintro (h | ⟨u, a, b⟩)
        · exact Or.inl h
        · exact Or.inr ⟨u, by omega, b⟩
      · rintro (h | ⟨u, a, b, e⟩)
        · exact Or.inl h
        · refine Or.inr ⟨u, ?_, b, e⟩
          by_cases huc : u = c
          · subst huc; omega
          · omega
    · rw [if_neg h1]
      constructor
      · intro h
        by_cases h2 : p * c + (q - p) * H c < lbN p q H c
        · rw [if_pos h2] at h; exact Or.inr ⟨c, by omega, by omega, h⟩
        · rw [if_neg h2] at h
          rcases (ih v).mp h with w | ⟨u, a, b⟩
          · exact Or.inl w
          · exact Or.inr ⟨u, by omega, b⟩
      · rintro (h | ⟨u, a, b, e⟩)
        · have := (ih v).mpr (Or.inl h)
          split <;> omega
        · by_cases huc : u = c
          · subst huc; split <;> omega
          · have := (ih v).mpr (Or.inr ⟨u, by omega, b, e⟩)
            split <;> omega
theorem mxF_le {p q : Nat} : ∀ (xs : List (Nat → Nat)) a v, xs.foldl (mxF S1 S2 p q) a ≤ v ↔ a ≤ v ∨ ∃ l ∈ xs, mvN S1 S2 p q l ≤ v := by
  intro xs
  induction xs with
  | nil => intro a v; exact ⟨fun h => Or.inl h, fun h => by rcases h with h | ⟨x, hx, _⟩; exact h; cases hx⟩
  | cons y xs ih =>
    intro a v
    show xs.foldl (mxF S1 S2 p q) (mxF S1 S2 p q a y) ≤ v ↔ _
    rw [ih]
    have e : mxF S1 S2 p q a y = if a ≤ mvN S1 S2 p q y then a else mvN S1 S2 p q y := rfl
    rw [e]
    constructor
    · rintro (h | ⟨x, hx, h⟩)
      · by_cases hc : a ≤ mvN S1 S2 p q y
        · rw [if_pos hc] at h; exact Or.inl h
        · rw [if_neg hc] at h; exact Or.inr ⟨y, List.mem_cons_self, h⟩
      · exact Or.inr ⟨x, List.mem_cons_of_mem _ hx, h⟩
    · rintro (h | ⟨x, hx, h⟩)
      · left; split <;> omega
      · rcases List.mem_cons.mp hx with w | w
        · left; rw [w] at h; split <;> omega
        · exact Or.inr ⟨x, w, h⟩
/-- both come to the same -/
theorem mix_same {p q : Nat} {xs : List (Nat → Nat)} (h1 : ∀ l, S1 l ≤ 108) (h2 : ∀ l, S2 l ≤ 108) : lbN p q (xs.foldl (hF S1 S2) (fun _ => 1000000)) 109 = xs.foldl (mxF S1 S2 p q) 1000000 := by
  have hH := hF_p (S1 := S1) (S2 := S2) xs [] (fun _ => 1000000) (fun u => ⟨Nat.le_refl _, fun w => absurd w (by first | omega | (dsimp only; omega)), fun l hl => (by cases hl)⟩)
  rw [List.nil_append] at hH
  generalize xs.foldl (hF S1 S2) (fun _ => 1000000) = H at hH
  have key : ∀ v, lbN p q H 109 ≤ v ↔ xs.foldl (mxF S1 S2 p q) 1000000 ≤ v := by
    intro v
    rw [lbN_le, mxF_le]
    constructor
    · rintro (h | ⟨u, a, b, e⟩)
      · exact Or.inl h
      · obtain ⟨l, l1, l2, l3⟩ := (hH u).2.1 b
        refine Or.inr ⟨l, l1, ?_⟩
        unfold mvN
        rw [l2, l3]
        exact e
    · rintro (h | ⟨l, l1, e⟩)
      · exact Or.inl h
      · have hle := (hH (S1 l)).2.2 l l1 rfl
        have := h1 l
        have := h2 l
        refine Or.inr ⟨S1 l, by omega, by omega, ?_⟩
        unfold mvN at e
        have := Nat.mul_le_mul_left (q - p) hle
        omega
  exact Nat.le_antisymm ((key _).mpr (Nat.le_refl _)) ((key _).mp (Nat.le_refl _))
theorem mx_b {p q : Nat} {xs : List (Nat → Nat)} (h1 : ∀ l, S1 l ≤ 108) (h2 : ∀ l, S2 l ≤ 108) (hpq : p ≤ q) (hx : xs ≠ []) : xs.foldl (mxF S1 S2 p q) 1000000 ≤ q * 108 := by
  cases xs with
  | nil => exact absurd rfl hx
  | cons l xs =>
    refine (mxF_le _ _ _).mpr (Or.inr ⟨l, List.mem_cons_self, ?_⟩)
    unfold mvN
    have a := Nat.mul_le_mul_left p (h1 l)
    have b := Nat.mul_le_mul_left (q - p) (h2 l)
    have c : p * 108 + (q - p) * 108 = q * 108 := by rw [← Nat.add_mul]; congr 1; omega
    omega
theorem mx_6 {p q a : Nat} {xs : List (Nat → Nat)} (ha : a ≤ 1000000) : xs.foldl (mxF S1 S2 p q) a ≤ 1000000 := (mxF_le _ _ _).mpr (Or.inl ha)
/-- the p by which it is greatest -/
def bpN (V : Nat → Nat) : Nat → Nat → Nat → Nat
  | 0, _, b => b
  | c + 1, p, b => bpN V c (p + 1) (if V p ≤ V b then b else p)
theorem bpN_12 {V : Nat → Nat} : ∀ c p b, p + c = 13 → b ≤ 12 → bpN V c p b ≤ 12 := by
  intro c
  induction c with
  | zero => intro p b _ h; exact h
  | succ c ih =>
    intro p b h1 h2
    exact ih (p + 1) _ (by first | omega | (dsimp only; omega)) (by split <;> omega)
end Hm
section Mxs
variable {N n d S r q : Nat} {K W F x1 x2 : Nat → Nat}
theorem SC_43 : SC 43 := ⟨rfl, rfl, rfl, rfl, rfl, rfl, by omega, by omega⟩
theorem SC_47 : SC 47 := ⟨rfl, rfl, rfl, rfl, rfl, rfl, by omega, by omega⟩
theorem call_l (hN : 100000 ≤ N) (hd9 : d ≤ 9) (hS : S ≤ 40) (hr : r < 6) (hq : q < 6) (hx1 : ∀ i, i < n → x1 i ≤ 1000) (hx2 : ∀ i, i < n → x2 i ≤ 1000) : ∀ m l i c H mm f, rkN n S l ≤ m → smN l n ≤ S → i ≤ n → c + m + 2 < 1000000 → m + 1 < f → CS mm n K W F → rd mm 3 6 = nI d → HA mm (96 + 2 * r) n x1 → HA mm (96 + 2 * q) n x2 → HA mm 34 n l → rd mm 33 1 = nI n → rd mm 33 2 = nI (S - smN l n) → SW mm 43 K W F d x1 l i → SW mm 47 K W F d x2 l i → (∀ u, u < 109 → rd mm 51 u = nI (H u)) → (∀ u, H u ≤ 1000000) → ∃ m', fX4_weighAll_29 N f 42 3 33 (96 + 2 * r) (96 + 2 * q) (nI i) (nI c) mm = some ((), m') ∧ Fr (fun k _ => k = 33 ∨ k = 34 ∨ (43 ≤ k ∧ k ≤ 51)) mm m' ∧ rd m' 46 0 = 0 ∧ rd m' 50 0 = 0 ∧ ∀ u, u < 109 → rd m' 51 u = nI ((enm n S m l).foldl (hF (fun y => scr W 0 (wn K F d x1 y) n) (fun y => scr W 0 (wn K F d x2 y) n)) H u) := by
  have one : ∀ l i c H mm f, smN l n ≤ S → i ≤ n → c < 1000000 → CS mm n K W F → rd mm 3 6 = nI d → HA mm (96 + 2 * r) n x1 → HA mm (96 + 2 * q) n x2 → HA mm 34 n l → rd mm 33 1 = nI n → rd mm 33 2 = nI (S - smN l n) → SW mm 43 K W F d x1 l i → SW mm 47 K W F d x2 l i → (∀ u, u < 109 → rd mm 51 u = nI (H u)) → (∀ u, H u ≤ 1000000) → ∃ m1 m2, Fr (fun k _ => 43 ≤ k ∧ k ≤ 51) mm m1 ∧ Fr (fun k j => (k = 33 ∧ j = 2) ∨ k = 34) m1 m2 ∧ SW m2 43 K W F d x1 l n ∧ SW m2 47 K W F d x2 l n ∧ (∀ u, u < 109 → rd m2 51 u = nI (hF (fun y => scr W 0 (wn K F d x1 y) n) (fun y => scr W 0 (wn K F d x2 y) n) H l u)) ∧ ((nxR n l (S - smN l n) = none ∧ fX3_next N 33 m1 = some (-9, m2)) ∨ ∃ p, nxR n l (S - smN l n) = some p ∧ fX3_next N 33 m1 = some (nI p.1, m2) ∧ HA m2 34 n p.2 ∧ rd m2 33 2 = nI (S - smN p.2 n)) ∧ ∀ R x, fX3_next N 33 m1 = some (x, m2) → fX4_weighAll_29 N f 42 3 33 (96 + 2 * r) (96 + 2 * q) x (nI (c + 1)) m2 = R → fX4_weighAll_29 N (f + 1) 42 3 33 (96 + 2 * r) (96 + 2 * q) (nI i) (nI c) mm = R := by
    intro l i c H mm f hsl hi hc C hd h1 h2 hL g1 g2 w1 w2 hH hH6
    have hn := C.2.1
    have hl40 : ∀ i, i < n → l i ≤ 1000 := fun i hi => by have := smN_at (l := l) hi; omega
    obtain ⟨ma, a1, a2, a3, a4, -⟩ := weigh_e (N := N) (d := d) (x := x1) (y := l) (i := i) hN SC_43 hd9 (ln_row hr) rfl (by first | omega | (dsimp only; omega)) (by decide) (by first | omega | (dsimp only; omega)) (by first | omega | (dsimp only; omega)) hx1 hl40 hi C hd h1 hL w1
    have Ca : CS ma n K W F := CS_c C (fun k j e => a2.2 _ _ (by first | omega | (dsimp only; omega)))
    obtain ⟨mb, b1, b2, b3, b4, -⟩ := weigh_e (N := N) (d := d) (x := x2) (y := l) (i := i) hN SC_47 hd9 (ln_row hq) rfl (by first | omega | (dsimp only; omega)) (by decide) (by first | omega | (dsimp only; omega)) (by first | omega | (dsimp only; omega)) hx2 hl40 hi Ca (by rw [a2.2 _ _ (by first | omega | (dsimp only; omega))]; exact hd) (h2.c (fun j hj => a2.2 _ _ (by first | omega | (dsimp only; omega)))) (hL.c (fun j hj => a2.2 _ _ (by first | omega | (dsimp only; omega)))) (w2.c (fun k j e => a2.2 _ _ (by first | omega | (dsimp only; omega))))
    have hs1 := scr_b (W := W) (w := wn K F d x1 l) (s := 0) (n := n) (fun j hj => (C.2.2 j hj).2.2.2.1) hn
    have hs2 := scr_b (W := W) (w := wn K F d x2 l) (s := 0) (n := n) (fun j hj => (C.2.2 j hj).2.2.2.1) hn
    obtain ⟨s1, es1⟩ : ∃ s, s = scr W 0 (wn K F d x1 l) n := ⟨_, rfl⟩
    obtain ⟨s2, es2⟩ : ∃ s, s = scr W 0 (wn K F d x2 l) n := ⟨_, rfl⟩
    rw [← es1] at hs1 a4
    rw [← es2] at hs2 b4
    have hH' : ∀ u, hF (fun y => scr W 0 (wn K F d x1 y) n) (fun y => scr W 0 (wn K F d x2 y) n) H l u = if u = s1 then (if s2 < H u then s2 else H u) else H u := fun u => by
      show (if u = scr W 0 (wn K F d x1 l) n then (if scr W 0 (wn K F d x2 l) n < H u then scr W 0 (wn K F d x2 l) n else H u) else H u) = _
      rw [← es1, ← es2]
    have hf0 : Fr (fun k _ => 43 ≤ k ∧ k ≤ 51) mm (wr mb 51 s1 (nI (if s2 < H s1 then s2 else H s1))) := fr_wr ((a2.mono (fun k j e => by omega)).tr (b2.mono (fun k j e => by omega))) (by first | omega | (dsimp only; omega))
    obtain ⟨m2, n1, n2⟩ := cnext_e (N := N) (S := S) (l := l) (mm := wr mb 51 s1 (nI (if s2 < H s1 then s2 else H s1))) hN hn hS (hL.c (fun j hj => hf0.2 _ _ (by first | omega | (dsimp only; omega)))) (by rw [hf0.2 _ _ (by first | omega | (dsimp only; omega))]; exact g1) (by rw [hf0.2 _ _ (by first | omega | (dsimp only; omega))]; exact g2) hsl
    refine ⟨_, m2, hf0, n1, a3.c (fun k j e => by rw [n1.2 _ _ (by first | omega | (dsimp only; omega)), rd_wr_k (by first | omega | (dsimp only; omega)), b2.2 _ _ (by first | omega | (dsimp only; omega))]), b3.c (fun k j e => by rw [n1.2 _ _ (by first | omega | (dsimp only; omega)), rd_wr_k (by first | omega | (dsimp only; omega))]), fun u hu => ?_, n2, fun R x hx hR => ?_⟩
    · rw [n1.2 _ _ (by first | omega | (dsimp only; omega)), hH' u]
      by_cases hus : u = s1
      · subst hus; rw [rd_wr_s, if_pos rfl]
      · rw [rd_wr_j hus, if_neg hus, b2.2 _ _ (by first | omega | (dsimp only; omega)), a2.2 _ _ (by first | omega | (dsimp only; omega))]
        exact hH u hu
    · have e43 : rd mb 43 3 = nI s1 := by rw [b2.2 _ _ (by first | omega | (dsimp only; omega))]; exact a4
      have e51 : rd mb 51 s1 = nI (H s1) := by rw [b2.2 _ _ (by first | omega | (dsimp only; omega)), a2.2 _ _ (by first | omega | (dsimp only; omega))]; exact hH s1 (by first | omega | (dsimp only; omega))
      have hmin : (if nI s2 < nI (H s1) then nI s2 else nI (H s1)) = nI (if s2 < H s1 then s2 else H s1) := by
        have := hH6 s1
        by_cases hc : s2 < H s1
        · rw [if_pos hc, if_pos (nI_lt hc (by first | omega | (dsimp only; omega)))]
        · rw [if_neg hc, if_neg (nI_nlt (by first | omega | (dsimp only; omega)) (by first | omega | (dsimp only; omega)))]
      unfold fX4_weighAll_29 fX4_weighAll_131
      simp only [LXb, nI_1]
      refine st_f (nI_pos (by first | omega | (dsimp only; omega))) (st_f (nI_ge (b := 1000000) (by first | omega | (dsimp only; omega)) (by first | omega | (dsimp only; omega))) (st_b a1 (st_b b1 ?_)))
      rw [e43, b4, nI_nat (show s1 < 2147483648 by omega), e51, hmin]
      exact st_f (nI_pos (by first | omega | (dsimp only; omega))) (st_f (nI_ge (b := 109) (by first | omega | (dsimp only; omega)) (by first | omega | (dsimp only; omega))) (st_k rfl (by first | omega | (dsimp only; omega)) (by first | omega | (dsimp only; omega)) (st_n (st_k rfl (by first | omega | (dsimp only; omega)) (by first | omega | (dsimp only; omega)) (st_n (st_b hx hR))))))
  intro m
  induction m with
  | zero =>
    intro l i c H mm f hrk hsl hi hc hf C hd h1 h2 hL g1 g2 w1 w2 hH hH6
    obtain ⟨f, rfl⟩ : ∃ g, f = g + 1 := ⟨f - 1, by omega⟩
    obtain ⟨f, rfl⟩ : ∃ g, f = g + 1 := ⟨f - 1, by omega⟩
    obtain ⟨ma, mb, a1, a2, a3, a4, a5, a6, a7⟩ := one l i c H mm (f + 1) hsl hi (by first | omega | (dsimp only; omega)) C hd h1 h2 hL g1 g2 w1 w2 hH hH6
    have hnx : fX3_next N 33 ma = some (-9, mb) := by
      rcases a6 with ⟨-, q⟩ | ⟨p', q, -⟩
      · exact q
      · have := (nx_rk hsl q).2.2.2; omega
    refine ⟨mb, a7 _ _ hnx ?_, (a1.mono (fun k j e => by omega)).tr (a2.mono (fun k j e => by omega)), a3.2 0 (by first | omega | (dsimp only; omega)), a4.2 0 (by first | omega | (dsimp only; omega)), a5⟩
    unfold fX4_weighAll_29
    exact st_t (by decide) rfl
  | succ m ih =>
    intro l i c H mm f hrk hsl hi hc hf C hd h1 h2 hL g1 g2 w1 w2 hH hH6
    obtain ⟨f, rfl⟩ : ∃ g, f = g + 1 := ⟨f - 1, by omega⟩
    obtain ⟨ma, mb, a1, a2, a3, a4, a5, a6, a7⟩ := one l i c H mm f hsl hi (by first | omega | (dsimp only; omega)) C hd h1 h2 hL g1 g2 w1 w2 hH hH6
    have hf12 : Fr (fun k _ => k = 33 ∨ k = 34 ∨ (43 ≤ k ∧ k ≤ 51)) mm mb := (a1.mono (fun k j e => by omega)).tr (a2.mono (fun k j e => by omega))
    rcases a6 with ⟨b1, b2⟩ | ⟨p', b1, b2, b3, b4⟩
    · rw [enm_z b1]
      refine ⟨mb, a7 _ _ b2 ?_, hf12, a3.2 0 (by first | omega | (dsimp only; omega)), a4.2 0 (by first | omega | (dsimp only; omega)), a5⟩
      obtain ⟨f, rfl⟩ : ∃ g, f = g + 1 := ⟨f - 1, by omega⟩
      unfold fX4_weighAll_29
      exact st_t (by decide) rfl
    · obtain ⟨o1, o2, o3, o4⟩ := nx_rk hsl b1
      rw [enm_u b1]
      have hk : ∀ j, j < n → K j = 5 → F j < j := fun j hj => (C.2.2 j hj).2.2.2.2.2.2.1
      have hn := C.2.1
      obtain ⟨m', r1, r2, r3, r4, r5⟩ := ih p'.2 p'.1 (c + 1) (hF (fun y => scr W 0 (wn K F d x1 y) n) (fun y => scr W 0 (wn K F d x2 y) n) H l) mb f (by first | omega | (dsimp only; omega)) o3 (by first | omega | (dsimp only; omega)) (by first | omega | (dsimp only; omega)) (by first | omega | (dsimp only; omega)) (CS_c C (fun k j e => hf12.2 _ _ (by first | omega | (dsimp only; omega)))) (by rw [hf12.2 _ _ (by first | omega | (dsimp only; omega))]; exact hd) (h1.c (fun j hj => hf12.2 _ _ (by first | omega | (dsimp only; omega)))) (h2.c (fun j hj => hf12.2 _ _ (by first | omega | (dsimp only; omega)))) b3 (by rw [a2.2 _ _ (by first | omega | (dsimp only; omega)), a1.2 _ _ (by first | omega | (dsimp only; omega))]; exact g1) b4 (SW_preY a3 hk (by first | omega | (dsimp only; omega)) o2) (SW_preY a4 hk (by first | omega | (dsimp only; omega)) o2) a5 (fun u => by
        show (if u = scr W 0 (wn K F d x1 l) n then (if scr W 0 (wn K F d x2 l) n < H u then scr W 0 (wn K F d x2 l) n else H u) else H u) ≤ 1000000
        have := hH6 u
        split <;> (try split) <;> omega)
      exact ⟨m', a7 _ _ b2 r1, hf12.tr r2, r3, r4, r5⟩
theorem cleast_l {p t : Nat} {H : Nat → Nat} {mm : Mm} (hp : p ≤ t) (ht : t ≤ 99) (hH : ∀ u, u < 109 → rd mm 51 u = nI (H u)) (hH6 : ∀ u, u < 109 → H u ≤ 1000000 ∧ (H u < 1000000 → H u ≤ 108)) : ∀ c i, i + c = 109 → ∀ f, c < f → fX4_leastBy_6 N f 42 (nI p) (nI t) (nI (lbN p t H i)) (nI i) mm = some (nI (lbN p t H 109), mm) := by
  have hb : ∀ i, lbN p t H i ≤ 1000000 := fun i => (lbN_le i _).mpr (Or.inl (Nat.le_refl _))
  intro c
  induction c with
  | zero =>
    intro i hi f hf
    obtain ⟨f, rfl⟩ : ∃ g, f = g + 1 := ⟨f - 1, by omega⟩
    obtain rfl : i = 109 := by omega
    unfold fX4_leastBy_6
    exact st_t (by decide) rfl
  | succ c ih =>
    intro i hi f hf
    obtain ⟨f, rfl⟩ : ∃ g, f = g + 1 := ⟨f - 1, by omega⟩
    have ih2 := ih (i + 1) (by first | omega | (dsimp only; omega)) f (by first | omega | (dsimp only; omega))
    have hu : lbN p t H (i + 1) = if 1000000 ≤ H i then lbN p t H i else (if p * i + (t - p) * H i < lbN p t H i then p * i + (t - p) * H i else lbN p t H i) := rfl
    rw [hu] at ih2
    obtain ⟨q1, q2⟩ := hH6 i (by first | omega | (dsimp only; omega))
    have hbi := hb i
    unfold fX4_leastBy_6 fX4_leastBy_49
    simp only [LXb, nI_nat (show i < 2147483648 by omega), nI_1]
    refine st_f (nI_ge (b := 109) (by first | omega | (dsimp only; omega)) (by first | omega | (dsimp only; omega))) (st_k rfl (by first | omega | (dsimp only; omega)) (by first | omega | (dsimp only; omega)) ?_)
    rw [hH i (by first | omega | (dsimp only; omega))]
    by_cases hc : 1000000 ≤ H i
    · rw [if_pos hc] at ih2
      exact st_t (nI_le (a := 1000000) hc (by first | omega | (dsimp only; omega))) ih2
    · rw [if_neg hc] at ih2
      have h108 := q2 (by first | omega | (dsimp only; omega))
      refine st_f (nI_ge (b := 1000000) (by first | omega | (dsimp only; omega)) (by first | omega | (dsimp only; omega))) (st_k rfl (by first | omega | (dsimp only; omega)) (by first | omega | (dsimp only; omega)) (st_n ?_))
      have hm1 : p * i ≤ 99 * 109 := Nat.mul_le_mul (by first | omega | (dsimp only; omega)) (by first | omega | (dsimp only; omega))
      have hm2 : (t - p) * H i ≤ 99 * 108 := Nat.mul_le_mul (by first | omega | (dsimp only; omega)) h108
      rw [nI_sub hp, nI_mul, nI_mul, nI_add]
      by_cases hl : p * i + (t - p) * H i < lbN p t H i
      · rw [if_pos hl] at ih2
        rw [if_pos (nI_lt hl (by first | omega | (dsimp only; omega)))]
        exact ih2
      · rw [if_neg hl] at ih2
        rw [if_neg (nI_nlt (by first | omega | (dsimp only; omega)) (by first | omega | (dsimp only; omega)))]
        exact ih2
theorem cleast_e {p t : Nat} {H : Nat → Nat} {mm : Mm} (hN : 100000 ≤ N) (hp : p ≤ t) (ht : t ≤ 99) (hH : ∀ u, u < 109 → rd mm 51 u = nI (H u)) (hH6 : ∀ u, u < 109 → H u ≤ 1000000 ∧ (H u < 1000000 → H u ≤ 108)) : fX4_leastBy N 42 (nI p) (nI t) mm = some (nI (lbN p t H 109), mm) := cleast_l hp ht hH hH6 109 0 (by first | omega | (dsimp only; omega)) N (by first | omega | (dsimp only; omega))
theorem cparts_l {H : Nat → Nat} {mm : Mm} (hN : 100000 ≤ N) (hH : ∀ u, u < 109 → rd mm 51 u = nI (H u)) (hH6 : ∀ u, u < 109 → H u ≤ 1000000 ∧ (H u < 1000000 → H u ≤ 108)) : ∀ c p b, p + c = 13 → b ≤ 12 → ∀ f, c < f → fX4_bestParts_4 N f 42 (nI b) (nI p) mm = some (nI (bpN (fun p => lbN p 12 H 109) c p b), mm) := by
  have hb6 : ∀ p, lbN p 12 H 109 ≤ 1000000 := fun p => (lbN_le 109 _).mpr (Or.inl (Nat.le_refl _))
  intro c
  induction c with
  | zero =>
    intro p b hp hb f hf
    obtain ⟨f, rfl⟩ : ∃ g, f = g + 1 := ⟨f - 1, by omega⟩
    unfold fX4_bestParts_4
    exact st_t (nI_lt (by first | omega | (dsimp only; omega)) (by first | omega | (dsimp only; omega))) rfl
  | succ c ih =>
    intro p b hp hb f hf
    obtain ⟨f, rfl⟩ : ∃ g, f = g + 1 := ⟨f - 1, by omega⟩
    have h1 := hb6 p
    have h2 := hb6 b
    have hu : bpN (fun p => lbN p 12 H 109) (c + 1) p b = bpN (fun p => lbN p 12 H 109) c (p + 1) (if lbN p 12 H 109 ≤ lbN b 12 H 109 then b else p) := rfl
    rw [hu]
    unfold fX4_bestParts_4 fX4_bestParts_29
    simp only [nI_1]
    refine st_f (nI_nlt (by first | omega | (dsimp only; omega)) (by first | omega | (dsimp only; omega))) (st_b (cleast_e (t := 12) hN (by first | omega | (dsimp only; omega)) (by first | omega | (dsimp only; omega)) hH hH6) (st_b (cleast_e (t := 12) hN (by first | omega | (dsimp only; omega)) (by first | omega | (dsimp only; omega)) hH hH6) ?_))
    by_cases hc : lbN p 12 H 109 ≤ lbN b 12 H 109
    · rw [if_pos hc]
      exact st_t (nI_le hc (by first | omega | (dsimp only; omega))) (ih (p + 1) b (by first | omega | (dsimp only; omega)) hb f (by first | omega | (dsimp only; omega)))
    · rw [if_neg hc]
      exact st_f (nI_ge (by first | omega | (dsimp only; omega)) (by first | omega | (dsimp only; omega))) (ih (p + 1) p (by first | omega | (dsimp only; omega)) (by first | omega | (dsimp only; omega)) f (by first | omega | (dsimp only; omega)))
-- the model's
theorem mmix_l {p t : Nat} (hN : 100000 ≤ N) (hd9 : d ≤ 9) (hS : S ≤ 40) (hr : r < 6) (hq : q < 6) (hp : p ≤ t) (ht : t ≤ 99) (hx1 : ∀ i, i < n → x1 i ≤ 1000) (hx2 : ∀ i, i < n → x2 i ≤ 1000) : ∀ m l a mm f, rkN n S l ≤ m → smN l n ≤ S → m < f → a ≤ 1000000 → MS mm n K W F → rd mm 175 13 = nI d → rd mm 183 1 = nI S → (∀ i, i < n → rd mm 178 (40 * r + i) = nI (x1 i)) → (∀ i, i < n → rd mm 178 (40 * q + i) = nI (x2 i)) → HA mm 190 n l → ∃ m', fX12_mixedOf_9 N f 175 (nI r) (nI q) (nI p) (nI t) (nI a) mm = some (nI ((enm n S m l).foldl (mxF (fun y => scr W 0 (wn K F d x1 y) n) (fun y => scr W 0 (wn K F d x2 y) n) p t) a), m') ∧ Fr (fun k _ => (185 ≤ k ∧ k ≤ 187) ∨ k = 190) mm m' := by
  have one : ∀ l a mm f, smN l n ≤ S → a ≤ 1000000 → MS mm n K W F → rd mm 175 13 = nI d → rd mm 183 1 = nI S → (∀ i, i < n → rd mm 178 (40 * r + i) = nI (x1 i)) → (∀ i, i < n → rd mm 178 (40 * q + i) = nI (x2 i)) → HA mm 190 n l → ∃ m1 m2, Fr (fun k _ => 185 ≤ k ∧ k ≤ 187) mm m1 ∧ Fr (fun k _ => k = 190) m1 m2 ∧ ((nxR n l (S - smN l n) = none ∧ fX12_nextStep N 175 (nI S) m1 = some (0, m2)) ∨ ∃ p, nxR n l (S - smN l n) = some p ∧ fX12_nextStep N 175 (nI S) m1 = some (1, m2) ∧ HA m2 190 n p.2) ∧ ∀ R, fX12_mixedOf_72 N (fX12_mixedOf_9 N f) 175 (nI r) (nI q) (nI p) (nI t) (nI (mxF (fun y => scr W 0 (wn K F d x1 y) n) (fun y => scr W 0 (wn K F d x2 y) n) p t a l)) m1 = R → fX12_mixedOf_9 N (f + 1) 175 (nI r) (nI q) (nI p) (nI t) (nI a) mm = R := by
    intro l a mm f hsl ha M hd ht1 h1 h2 hL
    have hn := M.2.1
    have hl40 : ∀ i, i < n → l i ≤ 1000 := fun i hi => by have := smN_at (l := l) hi; omega
    obtain ⟨ma, a1, a2, a3⟩ := mstepF_e (N := N) (s := 1) hN (by first | omega | (dsimp only; omega)) M hL
    have Ma : MS ma n K W F := MS_c M (fun k j e => a2.2 _ _ (by first | omega | (dsimp only; omega)))
    obtain ⟨mb, b1, b2, b3⟩ := takes_e (N := N) (s := 0) (x := x1) hN hr (by first | omega | (dsimp only; omega)) Ma (fun i hi => by rw [a2.2 _ _ (by first | omega | (dsimp only; omega))]; exact h1 i hi)
    have Mb : MS mb n K W F := MS_c Ma (fun k j e => b2.2 _ _ (by first | omega | (dsimp only; omega)))
    obtain ⟨mc, c1, c2, c3⟩ := setW_e (N := N) (d := d) (x := x1) (y := l) hN hd9 hx1 hl40 Mb (by rw [b2.2 _ _ (by first | omega | (dsimp only; omega)), a2.2 _ _ (by first | omega | (dsimp only; omega))]; exact hd) b3 (HA.c a3 (fun j hj => b2.2 _ _ (by first | omega | (dsimp only; omega))))
    have Mc : MS mc n K W F := MS_c Mb (fun k j e => c2.2 _ _ (by first | omega | (dsimp only; omega)))
    obtain ⟨md, d1, d2, d3⟩ := takes_e (N := N) (s := 0) (x := x2) hN hq (by first | omega | (dsimp only; omega)) Mc (fun i hi => by rw [c2.2 _ _ (by first | omega | (dsimp only; omega)), b2.2 _ _ (by first | omega | (dsimp only; omega)), a2.2 _ _ (by first | omega | (dsimp only; omega))]; exact h2 i hi)
    have Md : MS md n K W F := MS_c Mc (fun k j e => d2.2 _ _ (by first | omega | (dsimp only; omega)))
    obtain ⟨me, e1, e2, e3⟩ := setW_e (N := N) (d := d) (x := x2) (y := l) hN hd9 hx2 hl40 Md (by rw [d2.2 _ _ (by first | omega | (dsimp only; omega)), c2.2 _ _ (by first | omega | (dsimp only; omega)), b2.2 _ _ (by first | omega | (dsimp only; omega)), a2.2 _ _ (by first | omega | (dsimp only; omega))]; exact hd) d3 (HA.c a3 (fun j hj => by rw [d2.2 _ _ (by first | omega | (dsimp only; omega)), c2.2 _ _ (by first | omega | (dsimp only; omega)), b2.2 _ _ (by first | omega | (dsimp only; omega))]))
    have Me : MS me n K W F := MS_c Md (fun k j e => e2.2 _ _ (by first | omega | (dsimp only; omega)))
    have hs1 := scr_b (W := W) (w := wn K F d x1 l) (s := 0) (n := n) (fun j hj => (M.2.2 j hj).2.2.2.1) hn
    have hs2 := scr_b (W := W) (w := wn K F d x2 l) (s := 0) (n := n) (fun j hj => (M.2.2 j hj).2.2.2.1) hn
    have hf0 : Fr (fun k _ => 185 ≤ k ∧ k ≤ 187) mm me := (a2.mono (fun k j e => by omega)).tr ((b2.mono (fun k j e => by omega)).tr ((c2.mono (fun k j e => by omega)).tr ((d2.mono (fun k j e => by omega)).tr (e2.mono (fun k j e => by omega)))))
    obtain ⟨m2, n1, n2⟩ := mnext_e (N := N) (S := S) (l := l) (mm := me) hN hS Me (hL.c (fun j hj => hf0.2 _ _ (by first | omega | (dsimp only; omega)))) hsl
    refine ⟨me, m2, hf0, n1, n2, fun R hR => ?_⟩
    have hm1 : p * scr W 0 (wn K F d x1 l) n ≤ 99 * 108 := Nat.mul_le_mul (by first | omega | (dsimp only; omega)) hs1
    have hm2 : (t - p) * scr W 0 (wn K F d x2 l) n ≤ 99 * 108 := Nat.mul_le_mul (by first | omega | (dsimp only; omega)) hs2
    unfold fX12_mixedOf_9
    refine st_b a1 (st_b b1 (st_b c1 (st_b (score_e (s := 0) (w := wn K F d x1 l) hN (by first | omega | (dsimp only; omega)) (fun i _ => wn_2) Mc c3) (st_b d1 (st_b e1 (st_b (score_e (s := 0) (w := wn K F d x2 l) hN (by first | omega | (dsimp only; omega)) (fun i _ => wn_2) Me e3) (st_n ?_)))))))
    rw [nI_sub hp, nI_mul, nI_mul, nI_add]
    have hmx : mxF (fun y => scr W 0 (wn K F d x1 y) n) (fun y => scr W 0 (wn K F d x2 y) n) p t a l = if a ≤ p * scr W 0 (wn K F d x1 l) n + (t - p) * scr W 0 (wn K F d x2 l) n then a else p * scr W 0 (wn K F d x1 l) n + (t - p) * scr W 0 (wn K F d x2 l) n := rfl
    rw [hmx] at hR
    by_cases hc : a ≤ p * scr W 0 (wn K F d x1 l) n + (t - p) * scr W 0 (wn K F d x2 l) n
    · rw [if_pos hc] at hR
      exact st_t (nI_le hc (by first | omega | (dsimp only; omega))) hR
    · rw [if_neg hc] at hR
      exact st_f (nI_ge (by first | omega | (dsimp only; omega)) (by first | omega | (dsimp only; omega))) hR
  have h72 : ∀ g m1 m2 f, rd m1 183 1 = nI S → ∀ R, (fX12_nextStep N 175 (nI S) m1 = some (0, m2) → some (g, m2) = R → fX12_mixedOf_72 N (fX12_mixedOf_9 N f) 175 (nI r) (nI q) (nI p) (nI t) g m1 = R) ∧ (fX12_nextStep N 175 (nI S) m1 = some (1, m2) → fX12_mixedOf_9 N f 175 (nI r) (nI q) (nI p) (nI t) g m2 = R → fX12_mixedOf_72 N (fX12_mixedOf_9 N f) 175 (nI r) (nI q) (nI p) (nI t) g m1 = R) := by
    intro g m1 m2 f h0 R
    unfold fX12_mixedOf_72
    simp only [LXm]
    rw [show ((1 : Int32).toNatClampNeg) = 1 from rfl, h0]
    exact ⟨fun a b => st_g (by decide) (st_b a (st_t rfl b)), fun a b => st_g (by decide) (st_b a (st_f (by decide) b))⟩
  intro m
  induction m with
  | zero =>
    intro l a mm f hrk hsl hf ha M hd ht1 h1 h2 hL
    obtain ⟨f, rfl⟩ : ∃ g, f = g + 1 := ⟨f - 1, by omega⟩
    obtain ⟨m1, m2, f1, f2, g2, g3⟩ := one l a mm f hsl ha M hd ht1 h1 h2 hL
    have hnx : fX12_nextStep N 175 (nI S) m1 = some (0, m2) := by
      rcases g2 with ⟨-, q⟩ | ⟨p', q, -⟩
      · exact q
      · have := (nx_rk hsl q).2.2.2; omega
    exact ⟨m2, g3 _ ((h72 _ m1 m2 f (by rw [f1.2 _ _ (by first | omega | (dsimp only; omega))]; exact ht1) _).1 hnx rfl), (f1.mono (fun k j e => by omega)).tr (f2.mono (fun k j e => by omega))⟩
  | succ m ih =>
    intro l a mm f hrk hsl hf ha M hd ht1 h1 h2 hL
    obtain ⟨f, rfl⟩ : ∃ g, f = g + 1 := ⟨f - 1, by omega⟩
    obtain ⟨m1, m2, f1, f2, g2, g3⟩ := one l a mm f hsl ha M hd ht1 h1 h2 hL
    have hf12 : Fr (fun k _ => (185 ≤ k ∧ k ≤ 187) ∨ k = 190) mm m2 := (f1.mono (fun k j e => by omega)).tr (f2.mono (fun k j e => by omega))
    rcases g2 with ⟨b1, b2⟩ | ⟨p', b1, b2, b3⟩
    · rw [enm_z b1]
      exact ⟨m2, g3 _ ((h72 _ m1 m2 f (by rw [f1.2 _ _ (by first | omega | (dsimp only; omega))]; exact ht1) _).1 b2 rfl), hf12⟩
    · obtain ⟨o1, o2, o3, o4⟩ := nx_rk hsl b1
      rw [enm_u b1]
      obtain ⟨m', r1, r2⟩ := ih p'.2 (mxF (fun y => scr W 0 (wn K F d x1 y) n) (fun y => scr W 0 (wn K F d x2 y) n) p t a l) m2 f (by first | omega | (dsimp only; omega)) o3 (by first | omega | (dsimp only; omega)) (mx_6 (xs := [l]) ha) (MS_c M (fun k j e => hf12.2 _ _ (by first | omega | (dsimp only; omega)))) (by rw [hf12.2 _ _ (by first | omega | (dsimp only; omega))]; exact hd) (by rw [hf12.2 _ _ (by first | omega | (dsimp only; omega))]; exact ht1) (fun i hi => by rw [hf12.2 _ _ (by first | omega | (dsimp only; omega))]; exact h1 i hi) (fun i hi => by rw [hf12.2 _ _ (by first | omega | (dsimp only; omega))]; exact h2 i hi) b3
      exact ⟨m', g3 _ ((h72 _ m1 m2 f (by rw [f1.2 _ _ (by first | omega | (dsimp only; omega))]; exact ht1) _).2 b2 r1), hf12.tr r2⟩
end Mxs
