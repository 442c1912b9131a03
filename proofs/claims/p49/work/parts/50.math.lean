/-! layings and leaves -/
section PL
variable {K W F : Nat → Nat} {d n s L : Nat} {z : Nat → Nat}
/-- the other numbers of an enumeration by suits -/
def wnS (K F : Nat → Nat) (d s : Nat) (x z : Nat → Nat) : Nat → Nat := wn K F d (if s = 0 then x else z) (if s = 0 then z else x)
theorem wnS_eq {x : Nat → Nat} {i : Nat} (h : K i = 5 → F i < i) : wnS K F d s x z i = wst K F d (wnS K F d s x z) i (if s = 0 then x i else z i) (if s = 0 then z i else x i) := by
  unfold wnS
  rw [wn_eq h]
  by_cases hs : s = 0
  · simp only [hs, if_true]
  · simp only [hs, if_false]
/-- a laying has a leaf as good, with no more sheets -/
theorem lvs_lay {x : Nat → Nat} (hk : ∀ j, j < n → K j = 5 → F j < j) (hx : ∀ j, j < n → x j ≤ 40) : ∀ r i w l sc sh, i + r = n → (∀ j, j < i → w j = wnS K F d s x z j) → sh + (smN x n - smN x i) ≤ L → ∃ y, y ∈ lvs K W F d z s L r i w l sc sh ∧ y.1 = sc + (scr W 0 (wnS K F d s x z) n - scr W 0 (wnS K F d s x z) i) ∧ y.2.1 ≤ sh + (smN x n - smN x i) := by
  intro r
  induction r with
  | zero =>
    intro i w l sc sh hi hw hL
    obtain rfl : i = n := by omega
    exact ⟨(sc, sh, l), List.mem_singleton.mpr rfl, by show sc = _; omega, by show sh ≤ _; omega⟩
  | succ r ih =>
    intro i w l sc sh hi hw hL
    have hin : i < n := by omega
    have he : wst K F d w i (if s = 0 then x i else z i) (if s = 0 then z i else x i) = wnS K F d s x z i := by
      rw [wnS_eq (hk i hin)]
      exact wst_c (fun q => hw _ (hk i hin q))
    have hB : ndB K F d w z s i (wnS K F d s x z i) (x i) = true := by
      unfold ndB
      rw [decide_eq_true_eq]
      exact he
    have hxi := hx i hin
    have h1 : smN x (i + 1) = smN x i + x i := rfl
    have h2 : smN x (i + 1) ≤ smN x n := smN_mono (by first | omega | (dsimp only; omega))
    have h3 : scr W 0 (wnS K F d s x z) (i + 1) = scr W 0 (wnS K F d s x z) i + pts (W i) 0 (wnS K F d s x z i) := rfl
    have h4 : scr W 0 (wnS K F d s x z) (i + 1) ≤ scr W 0 (wnS K F d s x z) n := smN_mono (by first | omega | (dsimp only; omega))
    cases hy : nd K F d w z s i (wnS K F d s x z i) with
    | none =>
      have := fnd_none 41 0 hy (x i) (Nat.zero_le _) (by first | omega | (dsimp only; omega))
      rw [hB] at this
      cases this
    | some y =>
      obtain ⟨-, -, -, g4⟩ := fnd_some 41 0 y hy
      have hle : y ≤ x i := by
        by_cases q : x i < y
        · have := g4 (x i) (Nat.zero_le _) q
          rw [hB] at this
          cases this
        · omega
      obtain ⟨v, v1, v2, v3⟩ := ih (i + 1) (up w i (wnS K F d s x z i)) (up l i y) (sc + pts (W i) 0 (wnS K F d s x z i)) (sh + y) (by first | omega | (dsimp only; omega)) (fun j hj => by
        by_cases hji : j = i
        · subst hji; rw [up_s]
        · rw [up_o hji]; exact hw j (by first | omega | (dsimp only; omega))) (by first | omega | (dsimp only; omega))
      refine ⟨v, lvs_s.mpr ⟨_, y, ?_, hy, by omega, v1⟩, by omega, by omega⟩
      have : wnS K F d s x z i ≤ 2 := by unfold wnS; exact wn_2
      omega
/-- a leaf is what its own laying comes to -/
theorem lvs_own (hk : ∀ j, j < n → K j = 5 → F j < j) : ∀ r i w l sc sh y, i + r = n → (∀ j, j < i → w j = wnS K F d s l z j) → y ∈ lvs K W F d z s L r i w l sc sh → (∀ j, j < i → y.2.2 j = l j) ∧ y.1 = sc + (scr W 0 (wnS K F d s y.2.2 z) n - scr W 0 (wnS K F d s y.2.2 z) i) ∧ y.2.1 = sh + (smN y.2.2 n - smN y.2.2 i) ∧ ∀ j, i ≤ j → j < n → y.2.2 j ≤ 40 := by
  intro r
  induction r with
  | zero =>
    intro i w l sc sh y hi hw hy
    obtain rfl : i = n := by omega
    obtain rfl : y = (sc, sh, l) := List.mem_singleton.mp hy
    exact ⟨fun j hj => rfl, by show sc = _; omega, by show sh = _; omega, fun j h1 h2 => by omega⟩
  | succ r ih =>
    intro i w l sc sh y hi hw hy
    have hin : i < n := by omega
    obtain ⟨e, u, h1, h2, h3, h4⟩ := lvs_s.mp hy
    obtain ⟨-, u41, hB, -⟩ := fnd_some 41 0 u h2
    unfold ndB at hB
    rw [decide_eq_true_eq] at hB
    have hpre : ∀ j, j < i → wnS K F d s (up l i u) z j = wnS K F d s l z j := by
      intro j hj
      unfold wnS
      refine wn_c i (fun q hq => hk q (by first | omega | (dsimp only; omega))) (fun q hq => ?_) j hj
      have : up l i u q = l q := up_o (by first | omega | (dsimp only; omega))
      by_cases hs : s = 0
      · simp only [hs, if_true]; exact ⟨this, trivial⟩
      · simp only [hs, if_false]; exact ⟨trivial, this⟩
    have hei : wnS K F d s (up l i u) z i = e := by
      rw [wnS_eq (hk i hin), up_s, ← hB]
      exact wst_c (fun q => by rw [hpre _ (hk i hin q), hw _ (hk i hin q)])
    obtain ⟨g1, g2, g3, g4⟩ := ih (i + 1) (up w i e) (up l i u) _ _ y (by first | omega | (dsimp only; omega)) (fun j hj => by
      by_cases hji : j = i
      · subst hji; rw [up_s, hei]
      · rw [up_o hji, hpre j (by first | omega | (dsimp only; omega))]; exact hw j (by first | omega | (dsimp only; omega))) h4
    have gi : y.2.2 i = u := by rw [g1 i (by first | omega | (dsimp only; omega)), up_s]
    have gw : wnS K F d s y.2.2 z i = e := by
      rw [← hei]
      unfold wnS
      refine wn_c (i + 1) (fun q hq => hk q (by first | omega | (dsimp only; omega))) (fun q hq => ?_) i (by first | omega | (dsimp only; omega))
      have := g1 q hq
      by_cases hs : s = 0
      · simp only [hs, if_true]; exact ⟨this, trivial⟩
      · simp only [hs, if_false]; exact ⟨trivial, this⟩
    have q1 : smN y.2.2 (i + 1) = smN y.2.2 i + y.2.2 i := rfl
    have q2 : smN y.2.2 (i + 1) ≤ smN y.2.2 n := smN_mono (by first | omega | (dsimp only; omega))
    have q3 : scr W 0 (wnS K F d s y.2.2 z) (i + 1) = scr W 0 (wnS K F d s y.2.2 z) i + pts (W i) 0 (wnS K F d s y.2.2 z i) := rfl
    have q4 : scr W 0 (wnS K F d s y.2.2 z) (i + 1) ≤ scr W 0 (wnS K F d s y.2.2 z) n := smN_mono (by first | omega | (dsimp only; omega))
    rw [gw] at q3
    refine ⟨fun j hj => by rw [g1 j (by first | omega | (dsimp only; omega))]; exact up_o (by first | omega | (dsimp only; omega)), by omega, by omega, fun j h1 h2 => ?_⟩
    by_cases hji : j = i
    · subst hji; omega
    · exact g4 j (by first | omega | (dsimp only; omega)) h2

/-- the leaf of fewest sheets among the best -/
theorem bst_q {n : Nat} : ∀ (xs ys : List Lf) (b : Option Lf), (∀ y, b = some y → y ∈ ys ∧ ∀ x ∈ ys, x.1 < y.1 ∨ (x.1 = y.1 ∧ y.2.1 ≤ x.2.1)) → (b = none → ys = []) → ∀ y, xs.foldl (bst n) b = some y → y ∈ ys ++ xs ∧ ∀ x ∈ ys ++ xs, x.1 < y.1 ∨ (x.1 = y.1 ∧ y.2.1 ≤ x.2.1) := by
  intro xs
  induction xs with
  | nil => intro ys b h1 h2; rw [List.append_nil]; exact h1
  | cons a xs ih =>
    intro ys b h1 h2
    have hap : ys ++ a :: xs = (ys ++ [a]) ++ xs := by rw [List.append_assoc]; rfl
    rw [hap]
    show ∀ y, xs.foldl (bst n) (bst n b a) = some y → _
    refine ih (ys ++ [a]) (bst n b a) (fun y hy => ?_) (fun q => ?_)
    · cases b with
      | none =>
        have hys := h2 rfl
        subst hys
        have : a = y := by
          have : bst n none a = some a := rfl
          rw [this] at hy; cases hy; rfl
        subst this
        exact ⟨List.mem_append.mpr (Or.inr (List.mem_singleton.mpr rfl)), fun x hx => by
          have : x = a := by simpa using hx
          rw [this]; exact Or.inr ⟨rfl, Nat.le_refl _⟩⟩
      | some v =>
        obtain ⟨g1, g2⟩ := h1 v rfl
        have hb : bst n (some v) a = if btr n a v = true then some a else some v := rfl
        rw [hb] at hy
        by_cases hq : btr n a v = true
        · rw [if_pos hq] at hy
          cases hy
          refine ⟨List.mem_append.mpr (Or.inr (List.mem_singleton.mpr rfl)), fun x hx => ?_⟩
          have hge : v.1 < a.1 ∨ (a.1 = v.1 ∧ a.2.1 ≤ v.2.1) := by
            unfold btr at hq
            simp only [Bool.or_eq_true, Bool.and_eq_true, decide_eq_true_eq] at hq
            omega
          rcases List.mem_append.mp hx with hx | hx
          · have := g2 x hx; omega
          · rw [List.mem_singleton.mp hx]; exact Or.inr ⟨rfl, Nat.le_refl _⟩
        · rw [if_neg hq] at hy
          cases hy
          refine ⟨List.mem_append.mpr (Or.inl g1), fun x hx => ?_⟩
          rcases List.mem_append.mp hx with hx | hx
          · exact g2 x hx
          · rw [List.mem_singleton.mp hx]
            unfold btr at hq
            simp only [Bool.or_eq_true, Bool.and_eq_true, decide_eq_true_eq] at hq
            omega
    · exfalso
      cases b with
      | none => cases q
      | some v =>
        have hb : bst n (some v) a = if btr n a v = true then some a else some v := rfl
        rw [hb] at q
        split at q <;> cases q
/-- all leaves from the start -/
abbrev lvA (K W F : Nat → Nat) (d : Nat) (z : Nat → Nat) (s L n : Nat) : List Lf := lvs K W F d z s L n 0 (fun _ => 0) (fun _ => 0) 0 0
theorem scr_2w {w : Nat → Nat} (hw : ∀ i, w i ≤ 2) (n : Nat) : scr W 0 w n ≤ 2 * smN W n := by
  have := scr_both (W := W) (w := w) hw n
  omega
theorem lvA_lay {x : Nat → Nat} (hk : ∀ j, j < n → K j = 5 → F j < j) (hx : ∀ j, j < n → x j ≤ 40) (hL : smN x n ≤ L) : ∃ y, y ∈ lvA K W F d z s L n ∧ y.1 = scr W 0 (wnS K F d s x z) n ∧ y.2.1 ≤ smN x n := by
  obtain ⟨y, h1, h2, h3⟩ := lvs_lay (K := K) (W := W) (F := F) (d := d) (n := n) (s := s) (L := L) (z := z) (x := x) hk hx n 0 (fun _ => 0) (fun _ => 0) 0 0 (by first | omega | (dsimp only; omega)) (fun j hj => absurd hj (by first | omega | (dsimp only; omega))) (by have : smN x 0 = 0 := rfl; first | omega | (dsimp only; omega))
  have e1 : smN x 0 = 0 := rfl
  have e2 : scr W 0 (wnS K F d s x z) 0 = 0 := rfl
  exact ⟨y, h1, by omega, by omega⟩
theorem lvA_own (hk : ∀ j, j < n → K j = 5 → F j < j) {y : Lf} (hy : y ∈ lvA K W F d z s L n) : y.1 = scr W 0 (wnS K F d s y.2.2 z) n ∧ y.2.1 = smN y.2.2 n ∧ (∀ j, j < n → y.2.2 j ≤ 40) ∧ y.2.1 ≤ L := by
  obtain ⟨-, h2, h3, h4⟩ := lvs_own (K := K) (W := W) (F := F) (d := d) (n := n) (s := s) (L := L) (z := z) hk n 0 (fun _ => 0) (fun _ => 0) 0 0 y (by first | omega | (dsimp only; omega)) (fun j hj => absurd hj (by first | omega | (dsimp only; omega))) hy
  have e1 : smN y.2.2 0 = 0 := rfl
  have e2 : scr W 0 (wnS K F d s y.2.2 z) 0 = 0 := rfl
  exact ⟨by omega, by omega, fun j hj => h4 j (Nat.zero_le _) hj, lvs_sh n 0 _ _ 0 0 y (Nat.zero_le _) hy⟩
end PL
-- all layings
section PE
variable {n S : Nat}
/-- l stands no later than x -/
def lxe (n : Nat) (l x : Nat → Nat) : Prop := (∀ j, j < n → l j = x j) ∨ ∃ p, p < n ∧ (∀ j, j < p → l j = x j) ∧ l p < x p
theorem nxR_q : ∀ c l left p, left + smN l c = S → p < c → smN l (p + 1) < S → ∃ q, nxR c l left = some q ∧ p ≤ q.1 ∧ q.1 < c ∧ (∀ j, j < q.1 → q.2 j = l j) ∧ q.2 q.1 = l q.1 + 1 ∧ (∀ j, q.1 < j → j < c → q.2 j = 0) ∧ ∀ j, c ≤ j → q.2 j = l j := by
  intro c
  induction c with
  | zero => intro l left p h1 h2; omega
  | succ i ih =>
    intro l left p h1 h2 h3
    have e : smN l (i + 1) = smN l i + l i := rfl
    by_cases h0 : 0 < left
    · refine ⟨(i, up l i (l i + 1)), if_pos h0, by show p ≤ i; omega, Nat.lt_succ_self _, fun j hj => up_o (by have : j < i := hj; first | omega | (dsimp only; omega)), up_s, fun j hj1 hj2 => by have : i < j := hj1; omega, fun j hj => up_o (by first | omega | (dsimp only; omega))⟩
    · have hp : p < i := by
        by_cases hpi : p = i
        · subst hpi; omega
        · omega
      have hsm : ∀ m, m ≤ i → smN (up l i 0) m = smN l m := fun m hm => smN_c m (fun j hj => up_o (by first | omega | (dsimp only; omega)))
      obtain ⟨q, q1, q2, q3, q4, q5, q6, q7⟩ := ih (up l i 0) (left + l i) p (by rw [hsm i (Nat.le_refl _)]; first | omega | (dsimp only; omega)) hp (by rw [hsm (p + 1) (by first | omega | (dsimp only; omega))]; exact h3)
      refine ⟨q, (if_neg h0).trans q1, q2, by omega, fun j hj => by rw [q4 j hj]; exact up_o (by first | omega | (dsimp only; omega)), by rw [q5]; rw [up_o (by first | omega | (dsimp only; omega))], fun j hj1 hj2 => ?_, fun j hj => by rw [q7 j (by first | omega | (dsimp only; omega))]; exact up_o (by first | omega | (dsimp only; omega))⟩
      by_cases hji : j = i
      · rw [hji, q7 i (Nat.le_refl _), up_s]
      · exact q6 j hj1 (by first | omega | (dsimp only; omega))
theorem nx_lx {l x : Nat → Nat} (hl : smN l n ≤ S) (hx : smN x n ≤ S) {p : Nat} (hp : p < n) (h1 : ∀ j, j < p → l j = x j) (h2 : l p < x p) : ∃ q, nxR n l (S - smN l n) = some q ∧ lxe n q.2 x := by
  have e0 : smN l p = smN x p := smN_c p h1
  have e1 : smN l (p + 1) = smN l p + l p := rfl
  have e2 : smN x (p + 1) = smN x p + x p := rfl
  have e3 : smN x (p + 1) ≤ smN x n := smN_mono (by first | omega | (dsimp only; omega))
  obtain ⟨q, q1, q2, q3, q4, q5, q6, -⟩ := nxR_q (S := S) n l (S - smN l n) p (by first | omega | (dsimp only; omega)) hp (by first | omega | (dsimp only; omega))
  refine ⟨q, q1, ?_⟩
  by_cases hq : p < q.1
  · exact Or.inr ⟨p, hp, fun j hj => by rw [q4 j (by first | omega | (dsimp only; omega))]; exact h1 j hj, by rw [q4 p hq]; exact h2⟩
  · have hqp : q.1 = p := by omega
    rw [hqp] at q4 q5 q6
    by_cases h3 : l p + 1 < x p
    · exact Or.inr ⟨p, hp, fun j hj => by rw [q4 j hj]; exact h1 j hj, by rw [q5]; exact h3⟩
    · have h4 : l p + 1 = x p := by omega
      -- from p + 1 on all are 0
      have tail : ∀ c i, i + c = n → p < i → (∀ j, j < i → q.2 j = x j) → lxe n q.2 x := by
        intro c
        induction c with
        | zero => intro i hi hpi h; exact Or.inl (fun j hj => h j (by first | omega | (dsimp only; omega)))
        | succ c ih =>
          intro i hi hpi h
          by_cases hz : x i = 0
          · exact ih (i + 1) (by first | omega | (dsimp only; omega)) (by first | omega | (dsimp only; omega)) (fun j hj => by
              by_cases hji : j = i
              · rw [hji, hz]; exact q6 i hpi (by first | omega | (dsimp only; omega))
              · exact h j (by first | omega | (dsimp only; omega)))
          · exact Or.inr ⟨i, by omega, h, by rw [q6 i hpi (by first | omega | (dsimp only; omega))]; omega⟩
      exact tail (n - (p + 1)) (p + 1) (by first | omega | (dsimp only; omega)) (Nat.lt_succ_self _) (fun j hj => by
        by_cases hji : j = p
        · rw [hji, q5, h4]
        · rw [q4 j (by first | omega | (dsimp only; omega))]; exact h1 j (by first | omega | (dsimp only; omega)))
theorem enm_all {x : Nat → Nat} (hx : smN x n ≤ S) : ∀ m l, rkN n S l ≤ m → smN l n ≤ S → lxe n l x → ∃ y, y ∈ enm n S m l ∧ ∀ j, j < n → y j = x j := by
  intro m
  induction m with
  | zero =>
    intro l hr hl h
    rcases h with h | ⟨p, hp, h1, h2⟩
    · exact ⟨l, List.mem_singleton.mpr rfl, h⟩
    · obtain ⟨q, q1, -⟩ := nx_lx hl hx hp h1 h2
      have := (nx_rk hl q1).2.2.2
      omega
  | succ m ih =>
    intro l hr hl h
    rcases h with h | ⟨p, hp, h1, h2⟩
    · exact ⟨l, List.mem_cons_self, h⟩
    · obtain ⟨q, q1, q2⟩ := nx_lx hl hx hp h1 h2
      obtain ⟨-, -, g1, g2⟩ := nx_rk hl q1
      obtain ⟨y, y1, y2⟩ := ih q.2 (by first | omega | (dsimp only; omega)) g1 q2
      refine ⟨y, ?_, y2⟩
      rw [enm_u q1]
      exact List.mem_cons_of_mem _ y1
theorem enm_le : ∀ m l, smN l n ≤ S → ∀ y, y ∈ enm n S m l → smN y n ≤ S := by
  intro m
  induction m with
  | zero => intro l hl y hy; rw [List.mem_singleton.mp hy]; exact hl
  | succ m ih =>
    intro l hl y hy
    cases hp : nxR n l (S - smN l n) with
    | none =>
      rw [enm_z hp] at hy
      rw [List.mem_singleton.mp hy]; exact hl
    | some q =>
      rw [enm_u hp] at hy
      rcases List.mem_cons.mp hy with rfl | hy
      · exact hl
      · exact ih q.2 (nx_rk hl hp).2.2.1 y hy
/-- all layings of n suits of at most S sheets -/
abbrev enA (n S : Nat) : List (Nat → Nat) := enm n S 18564 (fun _ => 0)
theorem enA_all (hn : n ≤ 6) (hS : S ≤ 12) {x : Nat → Nat} (hx : smN x n ≤ S) : ∃ y, y ∈ enA n S ∧ ∀ j, j < n → y j = x j := by
  refine enm_all hx 18564 (fun _ => 0) ?_ (by rw [smN_0]; first | omega | (dsimp only; omega)) ?_
  · have h1 := rk_cnt (l := fun _ => 0) n 0 S
    have h2 := cnt_12 hn hS
    unfold rkN; omega
  · have tail : ∀ c i, i + c = n → (∀ j, j < i → x j = 0) → lxe n (fun _ => 0) x := by
      intro c
      induction c with
      | zero => intro i hi h; exact Or.inl (fun j hj => (h j (by first | omega | (dsimp only; omega))).symm)
      | succ c ih =>
        intro i hi h
        by_cases hz : x i = 0
        · exact ih (i + 1) (by first | omega | (dsimp only; omega)) (fun j hj => by
            by_cases hji : j = i
            · rw [hji]; exact hz
            · exact h j (by first | omega | (dsimp only; omega)))
        · exact Or.inr ⟨i, by omega, fun j hj => (h j hj).symm, by show 0 < x i; omega⟩
    exact tail n 0 (by first | omega | (dsimp only; omega)) (fun j hj => absurd hj (by first | omega | (dsimp only; omega)))
theorem enA_le {y : Nat → Nat} (hy : y ∈ enA n S) : smN y n ≤ S := enm_le 18564 _ (by rw [smN_0]; first | omega | (dsimp only; omega)) y hy
theorem enA_40 (hS : S ≤ 40) {y : Nat → Nat} (hy : y ∈ enA n S) : ∀ j, j < n → y j ≤ 40 := fun j hj => by
  have h1 := enA_le hy
  have h2 := smN_at (l := y) hj
  omega
end PE
