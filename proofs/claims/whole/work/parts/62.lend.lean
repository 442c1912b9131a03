/-! pure: fewest, when, lend -/
/-- the model's state while it weighs against a laying z of side 1 -/
def MZ (mm : Mm) (n d s : Nat) (K W F z len : Nat → Nat) : Prop := MS mm n K W F ∧ rd mm 175 13 = nI d ∧ HA mm 186 n z ∧ rd mm 183 0 = nI s ∧ HA mm 192 4 len
theorem MZ.c {mm m2 : Mm} {n d s : Nat} {K W F z len : Nat → Nat} (h : MZ mm n d s K W F z len) (f : Fr (fun k j => (k = 175 ∧ (j = 22 ∨ j = 24 ∨ j = 25)) ∨ (187 ≤ k ∧ k ≤ 189)) mm m2) : MZ m2 n d s K W F z len := by
  obtain ⟨h1, h2, h3, h4, h5⟩ := h
  exact ⟨MS_c h1 (fun k j e => f.2 _ _ (by first | omega | (dsimp only; omega))), by rw [f.2 _ _ (by first | omega | (dsimp only; omega))]; exact h2, h3.c (fun j hj => f.2 _ _ (by first | omega | (dsimp only; omega))), by rw [f.2 _ _ (by first | omega | (dsimp only; omega))]; exact h4, h5.c (fun j hj => f.2 _ _ (by first | omega | (dsimp only; omega)))⟩
theorem mscore_e {N n d s set : Nat} {K W F z len : Nat → Nat} {mm : Mm} (hN : 100000 ≤ N) (hd9 : d ≤ 9) (hz : ∀ i, i < n → z i ≤ 1000) (h : MZ mm n d s K W F z len) (hset : set < 16) (hst : stN s len set ≤ 40) : ∃ m', fX12_scoreWith N 175 (nI set) mm = some (nI (mN ((lvs K W F d z 0 40 n 0 (fun _ => 0) (fun _ => 0) 0 0).foldl gst (fun _ => none)) (stN s len set + 1)), m') ∧ Fr (fun k j => (k = 175 ∧ (j = 22 ∨ j = 24 ∨ j = 25)) ∨ (187 ≤ k ∧ k ≤ 189)) mm m' := by
  obtain ⟨h1, h2, h3, h4, h5⟩ := h
  obtain ⟨m', l1, l2, l3, -⟩ := setBest_e (N := N) (d := d) (L := stN s len set) (z := z) hN hd9 (by first | omega | (dsimp only; omega)) hz h1 h2 h3
  obtain ⟨y, y1, y2, y3⟩ := bst_e (n := n) _ (lvs_ne (K := K) (W := W) (F := F) (d := d) (s := 0) (L := stN s len set) (z := z) n 0 (fun _ => 0) (fun _ => 0) 0 0 (by first | omega | (dsimp only; omega)))
  obtain ⟨g1, -⟩ := l3 y y1
  refine ⟨m', ?_, l2⟩
  unfold fX12_scoreWith
  refine st_b (mstock_e hN hset h4 h5) (st_b l1 ?_)
  rw [g1, best_most hst y2 y3]
/-- fewest, as the model goes through leaves -/
def fst1 (v : Nat) (st : Option (Nat × Nat)) (x : Lf) : Option (Nat × Nat) := match st with
  | none => if v ≤ x.1 then some (x.2.1, x.1) else none
  | some p => if v ≤ x.1 ∧ (x.2.1 < p.1 ∨ (x.2.1 = p.1 ∧ p.2 < x.1)) then some (x.2.1, x.1) else some p
def FP (v : Nat) (st : Option (Nat × Nat)) (ys : List Lf) : Prop := (∀ p, st = some p → (∃ x ∈ ys, x.2.1 = p.1 ∧ x.1 = p.2 ∧ v ≤ x.1) ∧ ∀ x ∈ ys, v ≤ x.1 → p.1 ≤ x.2.1 ∧ (x.2.1 = p.1 → x.1 ≤ p.2)) ∧ (st = none → ∀ x ∈ ys, ¬ v ≤ x.1)
theorem fst_p {v : Nat} : ∀ (xs ys : List Lf) (st : Option (Nat × Nat)), FP v st ys → FP v (xs.foldl (fst1 v) st) (ys ++ xs) := by
  intro xs
  induction xs with
  | nil => intro ys st h; rw [List.append_nil]; exact h
  | cons a xs ih =>
    intro ys st h
    have hap : ys ++ a :: xs = (ys ++ [a]) ++ xs := by rw [List.append_assoc]; rfl
    rw [hap]
    show FP v (xs.foldl (fst1 v) (fst1 v st a)) _
    refine ih (ys ++ [a]) (fst1 v st a) ?_
    obtain ⟨h1, h2⟩ := h
    have hin : ∀ x, x ∈ ys ++ [a] ↔ x ∈ ys ∨ x = a := fun x => by rw [List.mem_append, List.mem_singleton]
    cases st with
    | none =>
      by_cases hc : v ≤ a.1
      · have e : fst1 v none a = some (a.2.1, a.1) := if_pos hc
        rw [e]
        refine ⟨fun p hp => ?_, fun q => by cases q⟩
        cases hp
        refine ⟨⟨a, (hin a).mpr (Or.inr rfl), rfl, rfl, hc⟩, fun x hx hv => ?_⟩
        rcases (hin x).mp hx with q | q
        · exact absurd hv (h2 rfl x q)
        · rw [q]; exact ⟨Nat.le_refl _, fun _ => Nat.le_refl _⟩
      · have e : fst1 v none a = none := if_neg hc
        rw [e]
        refine ⟨fun p hp => (by cases hp), fun _ x hx => ?_⟩
        rcases (hin x).mp hx with q | q
        · exact h2 rfl x q
        · rw [q]; exact hc
    | some p =>
      obtain ⟨⟨y, y1, y2, y3, y4⟩, g2⟩ := h1 p rfl
      by_cases hc : v ≤ a.1 ∧ (a.2.1 < p.1 ∨ (a.2.1 = p.1 ∧ p.2 < a.1))
      · have e : fst1 v (some p) a = some (a.2.1, a.1) := if_pos hc
        rw [e]
        refine ⟨fun p' hp => ?_, fun q => by cases q⟩
        cases hp
        refine ⟨⟨a, (hin a).mpr (Or.inr rfl), rfl, rfl, hc.1⟩, fun x hx hv => ?_⟩
        show a.2.1 ≤ x.2.1 ∧ (x.2.1 = a.2.1 → x.1 ≤ a.1)
        rcases (hin x).mp hx with q | q
        · obtain ⟨q1, q2⟩ := g2 x q hv
          refine ⟨by omega, fun q3 => ?_⟩
          by_cases hh : x.2.1 = p.1
          · have := q2 hh; omega
          · omega
        · rw [q]; exact ⟨Nat.le_refl _, fun _ => Nat.le_refl _⟩
      · have e : fst1 v (some p) a = some p := if_neg hc
        rw [e]
        refine ⟨fun p' hp => ?_, fun q => by cases q⟩
        cases hp
        refine ⟨⟨y, (hin y).mpr (Or.inl y1), y2, y3, y4⟩, fun x hx hv => ?_⟩
        rcases (hin x).mp hx with q | q
        · exact g2 x q hv
        · rw [q] at hv ⊢
          have : ¬ (a.2.1 < p.1 ∨ (a.2.1 = p.1 ∧ p.2 < a.1)) := fun w => hc ⟨hv, w⟩
          refine ⟨by omega, fun q3 => by omega⟩
def fwB (G : Nat → Option Nat) (v u : Nat) : Bool := match G u with
  | none => false
  | some q => decide (v ≤ q)
/-- both tell the same fewest sheets, the same score by them -/
theorem few_same {G : Nat → Option Nat} {xs : List Lf} {v : Nat} (hG : GP G xs) (hsh : ∀ x ∈ xs, x.2.1 ≤ 240) {st : Option (Nat × Nat)} (hF : FP v st xs) : (st = none → fnd (fwB G v) 241 0 = none) ∧ ∀ p, st = some p → fnd (fwB G v) 241 0 = some p.1 ∧ mN G (p.1 + 1) = p.2 ∧ p.1 ≤ 240 := by
  obtain ⟨h1, h2⟩ := hF
  have hfw : ∀ u, fwB G v u = true → ∃ x ∈ xs, x.2.1 = u ∧ v ≤ x.1 := by
    intro u hu
    unfold fwB at hu
    cases hg : G u with
    | none => rw [hg] at hu; cases hu
    | some q =>
      rw [hg] at hu
      have hu' : v ≤ q := by simpa using hu
      obtain ⟨⟨x, x1, x2, x3⟩, -⟩ := (hG u).1 q hg
      exact ⟨x, x1, x2, by omega⟩
  refine ⟨fun e => ?_, fun p hp => ?_⟩
  · cases hx : fnd (fwB G v) 241 0 with
    | none => rfl
    | some u =>
      obtain ⟨-, -, w, -⟩ := fnd_some 241 0 u hx
      obtain ⟨x, x1, -, x3⟩ := hfw u w
      exact absurd x3 (h2 e x x1)
  · obtain ⟨⟨y, y1, y2, y3, y4⟩, g2⟩ := h1 p hp
    have hp240 : p.1 ≤ 240 := by have := hsh y y1; omega
    obtain ⟨q, hq⟩ : ∃ q, G p.1 = some q := by
      cases hg : G p.1 with
      | none => exact absurd y2 ((hG p.1).2 hg y y1)
      | some q => exact ⟨q, rfl⟩
    obtain ⟨⟨x, x1, x2, x3⟩, gmax⟩ := (hG p.1).1 q hq
    have hyq := gmax y y1 y2
    have hqp : q = p.2 := by
      have := (g2 x x1 (by first | omega | (dsimp only; omega))).2 x2
      omega
    refine ⟨fnd_of ?_ (by first | omega | (dsimp only; omega)) (fun t ht => ?_), ?_, hp240⟩
    · unfold fwB; rw [hq]; simp only [decide_eq_true_eq]; omega
    · cases hb : fwB G v t with
      | false => rfl
      | true =>
        obtain ⟨x', x1', x2', x3'⟩ := hfw t hb
        have := (g2 x' x1' x3').1
        omega
    · refine Nat.le_antisymm ?_ ?_
      · rcases mN_ex G (p.1 + 1) with e | ⟨u, e1, e2⟩
        · rw [e]; omega
        · obtain ⟨⟨x', x1', x2', x3'⟩, -⟩ := (hG u).1 _ e2
          rw [← x3']
          by_cases hvx : v ≤ x'.1
          · obtain ⟨b1, b2⟩ := g2 x' x1' hvx
            exact b2 (by first | omega | (dsimp only; omega))
          · omega
      · rw [← hqp]; exact mN_ge G (by first | omega | (dsimp only; omega)) hq
section Few
variable {N n d : Nat} {K W F z : Nat → Nat}
theorem cfew_l {G : Nat → Option Nat} {v : Nat} {mm : Mm} (hS : ∀ u, u ≤ 240 → rd mm 37 u = oV (-1) (G u) ∧ ∀ v, G u = some v → v ≤ 108) (hv : v ≤ 108) : ∀ c i, i + c = 241 → ∀ f, c < f → fX8_fewestFor_2 N f 35 (nI v) (nI i) mm = some (oV (-9) (fnd (fwB G v) c i), mm) := by
  intro c
  induction c with
  | zero =>
    intro i hi f hf
    obtain ⟨f, rfl⟩ : ∃ g, f = g + 1 := ⟨f - 1, by omega⟩
    unfold fX8_fewestFor_2
    exact st_t (nI_le (a := 241) (by first | omega | (dsimp only; omega)) (by first | omega | (dsimp only; omega))) rfl
  | succ c ih =>
    intro i hi f hf
    obtain ⟨f, rfl⟩ : ∃ g, f = g + 1 := ⟨f - 1, by omega⟩
    have ih2 := ih (i + 1) (by first | omega | (dsimp only; omega)) f (by first | omega | (dsimp only; omega))
    unfold fX8_fewestFor_2 fnd
    simp only [LXb, nI_nat (show i < 2147483648 by omega), nI_1]
    refine st_f (nI_ge (b := 241) (by first | omega | (dsimp only; omega)) (by first | omega | (dsimp only; omega))) (st_k rfl (by first | omega | (dsimp only; omega)) (by first | omega | (dsimp only; omega)) ?_)
    rw [(hS i (by first | omega | (dsimp only; omega))).1]
    cases hg : G i with
    | none =>
      have hb : ¬ fwB G v i = true := by unfold fwB; rw [hg]; simp
      rw [if_neg hb]
      refine st_t ?_ ih2
      rw [i_lt, nI_toInt (by first | omega | (dsimp only; omega))]
      have : (oV (-1) none).toInt = -1 := rfl
      omega
    | some q =>
      have hq := (hS i (by first | omega | (dsimp only; omega))).2 q hg
      show (if nI q < nI v then _ else _) = _
      by_cases hc : q < v
      · have hb : ¬ fwB G v i = true := by unfold fwB; rw [hg]; simp only [decide_eq_true_eq]; omega
        rw [if_neg hb]
        exact st_t (nI_lt hc (by first | omega | (dsimp only; omega))) ih2
      · have hb : fwB G v i = true := by unfold fwB; rw [hg]; simp only [decide_eq_true_eq]; omega
        rw [if_pos hb]
        exact st_f (nI_nlt (by first | omega | (dsimp only; omega)) (by first | omega | (dsimp only; omega))) rfl
/-- what the model has found of fewest -/
def SF (mm : Mm) (st : Option (Nat × Nat)) : Prop := (∀ p, st = some p → rd mm 175 28 = nI p.1 ∧ rd mm 175 29 = nI p.2 ∧ p.1 ≤ 240 ∧ p.2 ≤ 108) ∧ (st = none → rd mm 175 28 = -9)
theorem mfew_c {mm : Mm} {v sc sh : Nat} {st : Option (Nat × Nat)} {l : Nat → Nat} {rec : Nat → Int32 → Int32 → Int32 → Mm → Option (Unit × Mm)} (M : MS mm n K W F) (hv : rd mm 175 23 = nI v) (hv8 : v ≤ 108) (hS : SF mm st) (hsc : sc ≤ 108) (hsh : sh ≤ 240) : ∃ m', fX12_fewestOn_0 N rec 175 (nI n) (nI sc) (nI sh) mm = some ((), m') ∧ Fr (fun k j => k = 175 ∧ (j = 28 ∨ j = 29)) mm m' ∧ SF m' (fst1 v st (sc, sh, l)) := by
  have hn := M.2.1
  obtain ⟨s1, s2⟩ := hS
  have h49 : ∃ m', fX12_fewestOn_49 N rec 175 (nI sc) (nI sh) mm = some ((), m') ∧ Fr (fun k j => k = 175 ∧ (j = 28 ∨ j = 29)) mm m' ∧ SF m' (some (sh, sc)) := by
    refine ⟨wr (wr mm 175 28 (nI sh)) 175 29 (nI sc), ?_, fr_wr (fr_wr Fr.rf (by first | omega | (dsimp only; omega))) (by first | omega | (dsimp only; omega)), fun p hp => ?_, fun q => by cases q⟩
    · unfold fX12_fewestOn_49; exact st_n (st_n rfl)
    · cases hp
      exact ⟨by rw [rd_wr_j (by first | omega | (dsimp only; omega)), rd_wr_s], by rw [rd_wr_s], hsh, hsc⟩
  obtain ⟨m', r1, r2, r3⟩ := h49
  unfold fX12_fewestOn_0
  rw [M.1, hv]
  by_cases hc : sc < v
  · refine ⟨mm, st_t rfl (st_t (nI_lt hc (by first | omega | (dsimp only; omega))) rfl), Fr.rf, ?_⟩
    have : fst1 v st (sc, sh, l) = st := by
      cases st with
      | none => exact if_neg (show ¬ v ≤ sc by omega)
      | some p => exact if_neg (fun q => by have : v ≤ sc := q.1; omega)
    rw [this]
    exact ⟨s1, s2⟩
  cases st with
  | none =>
    have e : fst1 v none (sc, sh, l) = some (sh, sc) := if_pos (show v ≤ sc by omega)
    rw [e, s2 rfl]
    exact ⟨m', st_t rfl (st_f (nI_nlt (by first | omega | (dsimp only; omega)) (by first | omega | (dsimp only; omega))) (st_t rfl r1)), r2, r3⟩
  | some p =>
    obtain ⟨a1, a2, a3, a4⟩ := s1 p rfl
    rw [a1, a2]
    by_cases c1 : sh < p.1
    · have e : fst1 v (some p) (sc, sh, l) = some (sh, sc) := if_pos ⟨show v ≤ sc by omega, Or.inl c1⟩
      rw [e]
      exact ⟨m', st_t rfl (st_f (nI_nlt (by first | omega | (dsimp only; omega)) (by first | omega | (dsimp only; omega))) (st_f (neg9_ne (by first | omega | (dsimp only; omega))) (st_t (nI_lt c1 (by first | omega | (dsimp only; omega))) r1))), r2, r3⟩
    by_cases c2 : sh = p.1
    · by_cases c3 : p.2 < sc
      · have e : fst1 v (some p) (sc, sh, l) = some (sh, sc) := if_pos ⟨show v ≤ sc by omega, Or.inr ⟨c2, c3⟩⟩
        rw [e]
        exact ⟨m', st_t rfl (st_f (nI_nlt (by first | omega | (dsimp only; omega)) (by first | omega | (dsimp only; omega))) (st_f (neg9_ne (by first | omega | (dsimp only; omega))) (st_f (nI_nlt (by first | omega | (dsimp only; omega)) (by first | omega | (dsimp only; omega))) (st_t (by rw [c2]) (st_f (nI_ge c3 (by first | omega | (dsimp only; omega))) r1))))), r2, r3⟩
      · have e : fst1 v (some p) (sc, sh, l) = some p := if_neg (fun q => by
          rcases q.2 with w | w
          · exact c1 w
          · exact c3 w.2)
        rw [e]
        exact ⟨mm, st_t rfl (st_f (nI_nlt (by first | omega | (dsimp only; omega)) (by first | omega | (dsimp only; omega))) (st_f (neg9_ne (by first | omega | (dsimp only; omega))) (st_f (nI_nlt (by first | omega | (dsimp only; omega)) (by first | omega | (dsimp only; omega))) (st_t (by rw [c2]) (st_t (nI_le (by first | omega | (dsimp only; omega)) (by first | omega | (dsimp only; omega))) rfl))))), Fr.rf, s1, s2⟩
    · have e : fst1 v (some p) (sc, sh, l) = some p := if_neg (fun q => by
        rcases q.2 with w | w
        · exact c1 w
        · exact c2 w.1)
      rw [e]
      exact ⟨mm, st_t rfl (st_f (nI_nlt (by first | omega | (dsimp only; omega)) (by first | omega | (dsimp only; omega))) (st_f (neg9_ne (by first | omega | (dsimp only; omega))) (st_f (nI_nlt (by first | omega | (dsimp only; omega)) (by first | omega | (dsimp only; omega))) (st_f (fun q => c2 (nI_inj q (by first | omega | (dsimp only; omega)) (by first | omega | (dsimp only; omega)))) rfl)))), Fr.rf, s1, s2⟩
theorem mfew_l {v : Nat} (hN : 100000 ≤ N) (hd9 : d ≤ 9) (hv8 : v ≤ 108) (hz : ∀ i, i < n → z i ≤ 1000) (hn6 : n ≤ 6) : ∀ r i w l sc sh mm st D, i + r = n → r < D → MI mm n d 0 i K W F z w → rd mm 175 23 = nI v → SF mm st → sc ≤ 18 * i → sh ≤ 40 * i → ∃ m', fX12_fewestOn N D 175 (nI i) (nI sc) (nI sh) mm = some ((), m') ∧ Fr (fun k j => (k = 175 ∧ (j = 28 ∨ j = 29)) ∨ (k = 187 ∧ i ≤ j ∧ j < n)) mm m' ∧ SF m' ((lvs K W F d z 0 240 r i w l sc sh).foldl (fst1 v) st) := by
  intro r
  induction r with
  | zero =>
    intro i w l sc sh mm st D hi hD hB hlim hS hsc hsh
    obtain ⟨D, rfl⟩ : ∃ g, D = g + 1 := ⟨D - 1, by omega⟩
    obtain rfl : i = n := by omega
    obtain ⟨m', c1, c2, c3⟩ := mfew_c (N := N) (l := l) (sc := sc) (sh := sh) (rec := fX12_fewestOn N D) hB.1 hlim hv8 hS (by first | omega | (dsimp only; omega)) (by first | omega | (dsimp only; omega))
    refine ⟨m', ?_, c2.mono (fun k j e => by omega), c3⟩
    unfold fX12_fewestOn
    exact c1
  | succ r ih =>
    intro i w l sc sh mm st D hi hD hB hlim hS hsc hsh
    obtain ⟨D, rfl⟩ : ∃ g, D = g + 1 := ⟨D - 1, by omega⟩
    have hin : i < n := by omega
    have loop : ∀ c e mm st, e + c = 3 → MI mm n d 0 i K W F z w → rd mm 175 23 = nI v → SF mm st → ∀ f, c < f → ∃ m', fX12_fewestOn_63 N (fX12_fewestOn N D) f 175 (nI i) (nI sc) (nI sh) (nI e) mm = some ((), m') ∧ Fr (fun k j => (k = 175 ∧ (j = 28 ∨ j = 29)) ∨ (k = 187 ∧ i ≤ j ∧ j < n)) mm m' ∧ SF m' ((lvC (fun e => match nd K F d w z 0 i e with
        | none => []
        | some x => if sh + x ≤ 240 then lvs K W F d z 0 240 r (i + 1) (up w i e) (up l i x) (sc + pts (W i) 0 e) (sh + x) else []) c e).foldl (fst1 v) st) := by
      intro c
      induction c with
      | zero =>
        intro e mm st he hB hlim hS f hf
        obtain ⟨f, rfl⟩ : ∃ g, f = g + 1 := ⟨f - 1, by omega⟩
        refine ⟨mm, ?_, Fr.rf, hS⟩
        unfold fX12_fewestOn_63
        exact st_t (nI_le (by first | omega | (dsimp only; omega)) (by first | omega | (dsimp only; omega))) rfl
      | succ c ihc =>
        intro e mm st he hB hlim hS f hf
        obtain ⟨f, rfl⟩ : ∃ g, f = g + 1 := ⟨f - 1, by omega⟩
        have hB0 := hB
        obtain ⟨h1, h2, h4, h5, h8⟩ := hB
        obtain ⟨-, k1, k2, k3, k4, k5, k6, k7⟩ := h1.2.2 i hin
        have r1 := mneed_e (N := N) (d := d) (w := w) (z := z) (s := 0) (i := i) (e := e) hN h1 h2 hd9 hin (by first | omega | (dsimp only; omega)) (by first | omega | (dsimp only; omega)) (fun q => ⟨h5 _ (k6 q), h8 _ (k6 q)⟩) (h4 i hin) (hz i hin)
        have pts18 := pts_18 (s := 0) (e := e) k3
        cases hy : nd K F d w z 0 i e with
        | none =>
          rw [hy] at r1
          obtain ⟨m', a1, a2, a3⟩ := ihc (e + 1) mm st (by first | omega | (dsimp only; omega)) hB0 hlim hS f (by first | omega | (dsimp only; omega))
          refine ⟨m', ?_, a2, ?_⟩
          · unfold fX12_fewestOn_63 fX12_fewestOn_115
            simp only [nI_1]
            exact st_f (nI_ge (by first | omega | (dsimp only; omega)) (by first | omega | (dsimp only; omega))) (st_b r1 (st_t rfl a1))
          · unfold lvC
            simp only [hy]
            exact a3
        | some y =>
          have y40 := nd_40 hy
          rw [hy] at r1
          have hLy : sh + y ≤ 240 := by omega
          have hup : Fr (fun k j => (k = 175 ∧ (j = 28 ∨ j = 29)) ∨ (k = 187 ∧ i ≤ j ∧ j < n)) mm (wr mm 187 i (nI e)) := fr_wr Fr.rf (by first | omega | (dsimp only; omega))
          obtain ⟨p1, p2, p4, p5, p8⟩ := hB0.c (by first | omega | (dsimp only; omega)) (by first | omega | (dsimp only; omega)) (hup.mono (fun k j e => by omega))
          have hB1 : MI (wr mm 187 i (nI e)) n d 0 (i + 1) K W F z (up w i e) := by
            refine ⟨p1, p2, p4, fun j hj => ?_, fun j hj => ?_⟩
            · by_cases hji : j = i
              · subst hji; rw [up_s, rd_wr_s]
              · rw [up_o hji]; exact p5 j (by first | omega | (dsimp only; omega))
            · by_cases hji : j = i
              · subst hji; rw [up_s]; omega
              · rw [up_o hji]; exact h8 j (by first | omega | (dsimp only; omega))
          have hS1 : SF (wr mm 187 i (nI e)) st := ⟨fun p hp => by rw [rd_wr_k (by first | omega | (dsimp only; omega)), rd_wr_k (by first | omega | (dsimp only; omega))]; exact hS.1 p hp, fun q => by rw [rd_wr_k (by first | omega | (dsimp only; omega))]; exact hS.2 q⟩
          obtain ⟨m1, a1, a2, a3⟩ := ih (i + 1) (up w i e) (up l i y) (sc + pts (W i) 0 e) (sh + y) _ st D (by first | omega | (dsimp only; omega)) (by first | omega | (dsimp only; omega)) hB1 (by rw [hup.2 _ _ (by first | omega | (dsimp only; omega))]; exact hlim) hS1 (by first | omega | (dsimp only; omega)) (by first | omega | (dsimp only; omega))
          have hfr1 : Fr (fun k j => (k = 175 ∧ (j = 28 ∨ j = 29)) ∨ (k = 187 ∧ i ≤ j ∧ j < n)) mm m1 := hup.tr (a2.mono (fun k j e => by omega))
          obtain ⟨m2, b1, b2, b3⟩ := ihc (e + 1) m1 _ (by first | omega | (dsimp only; omega)) (hB0.c (by first | omega | (dsimp only; omega)) (by first | omega | (dsimp only; omega)) (hfr1.mono (fun k j e => by omega))) (by rw [hfr1.2 _ _ (by first | omega | (dsimp only; omega))]; exact hlim) a3 f (by first | omega | (dsimp only; omega))
          refine ⟨m2, ?_, hfr1.tr b2, ?_⟩
          · unfold fX12_fewestOn_63 fX12_fewestOn_115
            simp only [LXm, nI_nat (show i < 2147483648 by omega), nI_1]
            refine st_f (nI_ge (by first | omega | (dsimp only; omega)) (by first | omega | (dsimp only; omega))) (st_b r1 (st_f (neg9_ne (by first | omega | (dsimp only; omega))) (st_k rfl (by first | omega | (dsimp only; omega)) (by first | omega | (dsimp only; omega)) (st_n (st_b (mworth_e (s := 0) p1 hin (by first | omega | (dsimp only; omega)) (by first | omega | (dsimp only; omega))) ?_)))))
            change bd2 (fX12_fewestOn N D 175 (nI (i + 1)) (nI sc + nI (pts (W i) 0 e)) (nI sh + nI y) _) _ = _
            rw [nI_add, nI_add]
            exact st_b a1 b1
          · unfold lvC
            rw [List.foldl_append]
            simp only [hy, if_pos hLy]
            exact b3
    obtain ⟨m', l1, l2, l3⟩ := loop 3 0 mm st (by first | omega | (dsimp only; omega)) hB hlim hS N (by first | omega | (dsimp only; omega))
    refine ⟨m', ?_, l2, l3⟩
    unfold fX12_fewestOn fX12_fewestOn_0
    exact st_f (by rw [hB.1.1]; exact fun q => by have := nI_inj q (by first | omega | (dsimp only; omega)) (by first | omega | (dsimp only; omega)); omega) l1
end Few
theorem ok_17 {N : Nat} (hN : 100000 ≤ N) : OK_17 N Rel := by
  intro a1 a2 mm h
  obtain ⟨n, K, W, F, d, s, t, C, M, hd, hd', hd9, hs, hs', hs40, ht, ht', ht40⟩ := Rel_data h
  have hn := C.2.1
  rcases rng a1 6 with ⟨r, hr, -, rfl⟩ | hb
  rotate_left
  · refine ⟨-1, mm, mm, ?_, ?_, h⟩
    · unfold fX11_fewest
      exact st_b (rowOf_n hb) (st_c0 rfl)
    · unfold fX12_fewest
      exact st_b (isRow_n hb) (st_t rfl rfl)
  rcases rng a2 109 with ⟨v, hv, -, rfl⟩ | hb
  rotate_left
  · refine ⟨-1, mm, mm, ?_, ?_, h⟩
    · unfold fX11_fewest
      refine st_b (rowOf_t hr) (st_c ?_)
      rcases hb with hb | ⟨j, h1, h2, rfl⟩
      · exact st_t hb rfl
      · exact st_f (nI_pos h2) (st_f (nI_ge (by first | omega | (dsimp only; omega)) h2) rfl)
    · unfold fX12_fewest
      exact st_b (isRow_t hr) (st_f (by decide) (st_b (in_o (n := 109) rfl hb (by first | omega | (dsimp only; omega))) (st_t rfl rfl)))
  have hin : ∀ m, fX12_in N (nI v) 0 108 m = some (1, m) := fun m => in_t (nI_pos (by first | omega | (dsimp only; omega))) (nI_nlt (by first | omega | (dsimp only; omega)) (by first | omega | (dsimp only; omega)))
  rcases one_e (a := 1) hN h C M hr (by first | omega | (dsimp only; omega)) ht ht' ht40 with ⟨f, hf, e1, e2⟩ | ⟨e1, z1, z2, L1, v1, e2⟩
  · refine ⟨-3, cRef f mm, mMeet f (cRef f mm), ?_, ?_, rel_ref h hf⟩
    · unfold fX11_fewest
      exact st_b (rowOf_t hr) (st_c (st_f (nI_pos (by first | omega | (dsimp only; omega))) (st_t (nI_le (by first | omega | (dsimp only; omega)) (by first | omega | (dsimp only; omega))) (st_b e1 (st_f (by decide) rfl)))))
    · unfold fX12_fewest
      exact st_b (isRow_t hr) (st_f (by decide) (st_b (hin _) (st_f (by decide) (st_b (e2 _ (fun k j hk => rd_cRef (by first | omega | (dsimp only; omega)) (by first | omega | (dsimp only; omega)))) (st_f (by decide) rfl)))))
  · obtain ⟨x1, x2⟩ := lay_n L1
    generalize lO (fun j => rd mm (96 + 2 * r) j) = x at x1 x2
    have x1' : HA mm (96 + 2 * r) n x := x1
    have x3 : ∀ i, i < n → x i ≤ 1000 := fun i hi => by have := x2 i hi; omega
    obtain ⟨m1, c1, c2, c3⟩ := run_e (N := N) (d := d) (most := 240) hN hd9 (by first | omega | (dsimp only; omega)) (ln_row hr) (by first | omega | (dsimp only; omega)) (by first | omega | (dsimp only; omega)) x3 C x1'
    have cf := cfew_l (N := N) (v := v) c3.1 (by first | omega | (dsimp only; omega)) 241 0 (by first | omega | (dsimp only; omega)) N (by first | omega | (dsimp only; omega))
    have cf' : fX8_fewestFor N 35 (nI v) m1 = _ := cf
    have hG := gst_e (lvs K W F d x 0 240 n 0 (fun _ => 0) (fun _ => 0) 0 0)
    have c31 := c3.1
    have hF := fst_p (v := v) (lvs K W F d x 0 240 n 0 (fun _ => 0) (fun _ => 0) 0 0) [] none ⟨fun p hp => (by cases hp), fun _ y hy => (by cases hy)⟩
    rw [List.nil_append] at hF
    have few := few_same hG (fun y hy => lvs_sh n 0 (fun _ => 0) (fun _ => 0) 0 0 y (by first | omega | (dsimp only; omega)) hy) hF
    -- the model, from a state with the same cells
    have mod : ∀ m, MA mm m → ∃ ma mc, fX12_takes N 175 (nI r) 1 m = some ((), ma) ∧ fX12_fewestOn N 9 175 0 0 0 (wr (wr ma 175 23 (nI v)) 175 28 (-9)) = some ((), mc) ∧ Fr (fun k j => (k = 175 ∧ (j = 23 ∨ j = 28 ∨ j = 29)) ∨ k = 186 ∨ k = 187) m mc ∧ SF mc ((lvs K W F d x 0 240 n 0 (fun _ => 0) (fun _ => 0) 0 0).foldl (fst1 v) none) := by
      intro m A
      have M1 := A.ms M
      obtain ⟨ma, k1, k2, k3⟩ := takes_e (N := N) (s := 1) (x := x) hN hr (by first | omega | (dsimp only; omega)) M1 (fun i hi => by rw [A _ _ (by first | omega | (dsimp only; omega)), ← v1 i hi]; exact x1 i hi)
      have hfr : Fr (fun k j => (k = 175 ∧ (j = 23 ∨ j = 28 ∨ j = 29)) ∨ k = 186 ∨ k = 187) m (wr (wr ma 175 23 (nI v)) 175 28 (-9)) := fr_wr (fr_wr (k2.mono (fun k j e => by omega)) (by first | omega | (dsimp only; omega))) (by first | omega | (dsimp only; omega))
      obtain ⟨mc, l1, l2, l3⟩ := mfew_l (N := N) (d := d) (z := x) (v := v) hN hd9 (by first | omega | (dsimp only; omega)) x3 hn n 0 (fun _ => 0) (fun _ => 0) 0 0 (wr (wr ma 175 23 (nI v)) 175 28 (-9)) none 9 (by first | omega | (dsimp only; omega)) (by first | omega | (dsimp only; omega)) ⟨MS_c M1 (fun k j e => hfr.2 _ _ (by first | omega | (dsimp only; omega))), by rw [hfr.2 _ _ (by first | omega | (dsimp only; omega)), A _ _ (by first | omega | (dsimp only; omega))]; exact hd', fun i hi => by rw [rd_wr_k (by first | omega | (dsimp only; omega)), rd_wr_k (by first | omega | (dsimp only; omega))]; exact k3 i hi, fun j hj => by omega, fun j hj => by omega⟩ (by rw [rd_wr_j (by first | omega | (dsimp only; omega)), rd_wr_s]) ⟨fun p hp => (by cases hp), fun _ => by rw [rd_wr_s]⟩ (by first | omega | (dsimp only; omega)) (by first | omega | (dsimp only; omega))
      exact ⟨ma, mc, k1, l1, hfr.tr (l2.mono (fun k j e => by omega)), l3⟩
    cases hst : (lvs K W F d x 0 240 n 0 (fun _ => 0) (fun _ => 0) 0 0).foldl (fst1 v) none with
    | none =>
      rw [few.1 hst] at cf'
      obtain ⟨ma, mc, k1, k2, k3, k4⟩ := mod m1 (fun k j hk => c2.2 _ _ (by first | omega | (dsimp only; omega)))
      refine ⟨-9, m1, mc, ?_, ?_, ?_⟩
      · unfold fX11_fewest
        refine st_b (rowOf_t hr) (st_c (st_f (nI_pos (by first | omega | (dsimp only; omega))) (st_t (nI_le (by first | omega | (dsimp only; omega)) (by first | omega | (dsimp only; omega))) (st_b e1 (st_t rfl ?_)))))
        simp only [LXa, fr_row hr, hd]
        exact st_b c1 (st_b cf' (st_t rfl rfl))
      · unfold fX12_fewest
        refine st_b (isRow_t hr) (st_f (by decide) (st_b (hin _) (st_f (by decide) (st_b (e2 _ (fun k j hk => c2.2 _ _ (by first | omega | (dsimp only; omega)))) (st_t (by decide) (st_b k1 (st_n (st_n (st_b k2 ?_)))))))))
        exact st_t (k4.2 hst) rfl
      · refine Rel_row (r := 6) h ((c2.mono (fun k j e => Or.inl ?_)).tr (k3.mono (fun k j e => Or.inr (Or.inl ?_)))) ?_ ?_ (fun q => by omega)
        · unfold ScC; omega
        · unfold ScM; omega
        · exact RA_keep h.2.2.2.2.1 (fun k _ _ _ _ _ _ _ _ _ => by rw [k3.2 _ _ (by first | omega | (dsimp only; omega)), c2.2 _ _ (by first | omega | (dsimp only; omega))])
        · rw [k3.2 _ _ (by first | omega | (dsimp only; omega)), k3.2 _ _ (by first | omega | (dsimp only; omega)), c2.2 _ _ (by first | omega | (dsimp only; omega)), c2.2 _ _ (by first | omega | (dsimp only; omega))]
          exact h.2.2.2.1.2.2.1
    | some p =>
      obtain ⟨g1, g2, g3⟩ := few.2 p hst
      rw [g1] at cf'
      obtain ⟨ma, mc, k1, k2, k3, k4⟩ := mod (wr m1 0 14 (nI p.2)) (fun k j hk => by rw [rd_wr_k (by first | omega | (dsimp only; omega))]; exact c2.2 _ _ (by first | omega | (dsimp only; omega)))
      obtain ⟨b1, b2, -, -⟩ := k4.1 p hst
      have hmb := mostBy_e (N := N) (s := p.1) hN c31 g3
      rw [g2] at hmb
      refine ⟨nI p.1, wr m1 0 14 (nI p.2), wr mc 175 2 (nI p.2), ?_, ?_, ?_⟩
      · unfold fX11_fewest
        refine st_b (rowOf_t hr) (st_c (st_f (nI_pos (by first | omega | (dsimp only; omega))) (st_t (nI_le (by first | omega | (dsimp only; omega)) (by first | omega | (dsimp only; omega))) (st_b e1 (st_t rfl ?_)))))
        simp only [LXa, fr_row hr, hd]
        exact st_b c1 (st_b cf' (st_f (neg9_ne (by first | omega | (dsimp only; omega))) (st_b hmb (st_n rfl))))
      · unfold fX12_fewest
        refine st_b (isRow_t hr) (st_f (by decide) (st_b (hin _) (st_f (by decide) (st_b (e2 _ (fun k j hk => by rw [rd_wr_k (by first | omega | (dsimp only; omega))]; exact c2.2 _ _ (by first | omega | (dsimp only; omega)))) (st_t (by decide) (st_b k1 (st_n (st_n (st_b k2 ?_)))))))))
        rw [b1, b2]
        exact st_f (neg9_ne (by first | omega | (dsimp only; omega))) (st_b rfl rfl)
      · refine Rel_row (r := 6) h ((c2.mono (fun k j e => Or.inl ?_)).tr (fr_wr (fr_st (k3.mono (fun k j e => Or.inr (Or.inl ?_))) (Or.inr (Or.inr (Or.inl (Or.inl ⟨rfl, rfl⟩))))) (Or.inr (Or.inr (Or.inl (Or.inr ⟨rfl, rfl⟩)))))) ?_ ?_ (fun q => by omega)
        · unfold ScC; omega
        · unfold ScM; omega
        · exact RA_keep h.2.2.2.2.1 (fun k _ _ _ _ _ _ _ _ _ => by rw [rd_wr_k (by first | omega | (dsimp only; omega)), k3.2 _ _ (by first | omega | (dsimp only; omega)), rd_wr_k (by first | omega | (dsimp only; omega)), c2.2 _ _ (by first | omega | (dsimp only; omega))])
        · rw [rd_wr_s, rd_wr_k (by first | omega | (dsimp only; omega)), k3.2 _ _ (by first | omega | (dsimp only; omega)), rd_wr_s]
