/-! pure: the need of a court's suit by both; leaves of a search -/
/-- an answer told as the first number, or as none -/
def oV (m : Int32) (o : Option Nat) : Int32 := match o with
  | none => m
  | some v => nI v
theorem wst_x {K F : Nat → Nat} {d s i x : Nat} {w z : Nat → Nat} (hs : s ≤ 1) : wst K F d w i (if s = 0 then x else z i) (if s = 0 then z i else x) = (if s = 0 then wnr (K i) (wtN K F d w i s x) (wtN K F d w i (1 - s) (z i)) else wnr (K i) (wtN K F d w i (1 - s) (z i)) (wtN K F d w i s x)) := by
  rcases (by omega : s = 0 ∨ s = 1) with rfl | rfl
  · rfl
  · rfl
section Nd
variable {N n d : Nat} {K W F w z : Nat → Nat} {mm : Mm}
/-- the class' need of a suit, held against the first number that does it -/
theorem cneed_e {p s i e : Nat} (C : CS mm n K W F) (hd9 : d ≤ 9) (hi : i < n) (hs : s ≤ 1) (he : e ≤ 2) (hp : ln p = 6) (hw : K i = 5 → rd mm p (F i) = nI (w (F i)) ∧ w (F i) ≤ 2) (hz : z i ≤ 1000) : ∃ R, fX0_need N 3 (nI i) (nI s) (nI e) (nI (z i)) (nI d) p mm = some (R, mm) ∧ ((R = -9 ∧ nd K F d w z s i e = none) ∨ ∃ y : Nat, y ≤ 300000 ∧ R = nI y ∧ nd K F d w z s i e = if y ≤ 40 then some y else none) := by
  have hn := C.2.1
  obtain ⟨u, k1, k2, k3, k4, k5, k6, k7⟩ := C.2.2 i hi
  have hfd : F i * d ≤ 81 := Nat.le_trans (Nat.mul_le_mul k4 hd9) (by first | omega | (dsimp only; omega))
  -- flags
  have hex : ∀ b, exN (K i) (F i) d b ≤ 1000 := fun b => by unfold exN; split <;> (try split) <;> omega
  obtain ⟨b0, hb0, hb0'⟩ : ∃ b : Nat, b = (if ahN (K i) (F i) w = s then 1 else 0) ∧ b ≤ 1 := ⟨_, rfl, by split <;> omega⟩
  obtain ⟨b1, hb1, hb1'⟩ : ∃ b : Nat, b = (if ahN (K i) (F i) w = 1 - s then 1 else 0) ∧ b ≤ 1 := ⟨_, rfl, by split <;> omega⟩
  have hag : wtN K F d w i (1 - s) (z i) ≤ 200000 := wgt_b k4 hd9 (by split <;> omega) (by first | omega | (dsimp only; omega))
  have hah2 : ahN (K i) (F i) w ≤ 2 := by
    unfold ahN
    by_cases h5 : K i = 5
    · rw [if_pos h5]; exact (hw h5).2
    · rw [if_neg h5]; omega
  obtain ⟨R, r1, r2⟩ := need_z (N := N) (s := s) (e := e) (ag := wtN K F d w i (1 - s) (z i)) (ex := exN (K i) (F i) d b0) u k1 k4 hs he (hex _) hag
  refine ⟨R, ?_, ?_⟩
  · unfold fX0_need
    refine st_b (suitOf_t C hi) (st_c (st_b (ahead_e (wf := w) u k1 (fun q => by have := k6 q; omega) hp (fun q => (hw q).1)) ?_))
    have h74 : fX0_need_74 N (17 + i) (nI s) (nI e) (nI (wtN K F d w i (1 - s) (z i))) (17 + i) (nI d) (nI b0) mm = some (R, mm) := by
      unfold fX0_need_74
      exact st_b (extra_e u k1 hb0') (st_b r1 rfl)
    have h45 : fX0_need_45 N (nI s) (nI e) (nI d) (17 + i) (nI (ahN (K i) (F i) w)) (17 + i) (nI (z i)) (17 + i) (nI d) (nI b1) mm = some (R, mm) := by
      unfold fX0_need_45
      refine st_b (extra_e u k1 hb1') (st_b (weight_e u k1 k4 (by first | omega | (dsimp only; omega))) ?_)
      rw [wgt_bo k1 (by first | omega | (dsimp only; omega)) hb1]
      by_cases ha : ahN (K i) (F i) w = s
      · refine st_t (by rw [ha]) ?_
        have : b0 = 1 := by rw [hb0, if_pos ha]
        rw [this] at h74
        exact h74
      · refine st_f (fun q => ha (nI_inj q (by first | omega | (dsimp only; omega)) (by first | omega | (dsimp only; omega)))) ?_
        have : b0 = 0 := by rw [hb0, if_neg ha]
        rw [this] at h74
        exact h74
    have hsub : (1 : Int32) - nI s = nI (1 - s) := by rw [show (1 : Int32) = nI 1 from rfl, nI_sub hs]
    rw [hsub]
    by_cases ha : ahN (K i) (F i) w = 1 - s
    · refine st_t (by rw [ha]) ?_
      have : b1 = 1 := by rw [hb1, if_pos ha]
      rw [this] at h45
      exact h45
    · refine st_f (fun q => ha (nI_inj q (by first | omega | (dsimp only; omega)) (by first | omega | (dsimp only; omega)))) ?_
      have : b1 = 0 := by rw [hb1, if_neg ha]
      rw [this] at h45
      exact h45
  · have heq : ∀ x, (wnx (K i) s (lsN (K i) (F i)) (exN (K i) (F i) d b0) (wtN K F d w i (1 - s) (z i)) x = e) ↔ ndB K F d w z s i e x = true := fun x => by
      have hwt : wtZ (lsN (K i) (F i)) (exN (K i) (F i) d b0) x = wtN K F d w i s x := wgt_bo k1 hs hb0
      unfold wnx ndB
      rw [hwt, wst_x hs, decide_eq_true_eq]
    rcases r2 with ⟨q1, q2⟩ | ⟨y, q1, q2, q3, q4⟩
    · refine Or.inl ⟨q1, ?_⟩
      cases hx : nd K F d w z s i e with
      | none => rfl
      | some v =>
        obtain ⟨-, v2, v3, -⟩ := fnd_some 41 0 v hx
        exact absurd ((heq v).mpr v3) (q2 v (by first | omega | (dsimp only; omega)))
    · refine Or.inr ⟨y, q1, q2, ?_⟩
      by_cases hy : y ≤ 40
      · rw [if_pos hy]
        exact fnd_of ((heq y).mp q3) (by first | omega | (dsimp only; omega)) (fun t ht => by
          cases hb : ndB K F d w z s i e t with
          | false => rfl
          | true => exact absurd ((heq t).mpr hb) (q4 t ht))
      · rw [if_neg hy]
        cases hx : nd K F d w z s i e with
        | none => rfl
        | some v =>
          obtain ⟨-, v2, v3, -⟩ := fnd_some 41 0 v hx
          exact absurd ((heq v).mpr v3) (q4 v (by first | omega | (dsimp only; omega)))
/-- the model's -/
theorem mneed_l {s i e : Nat} (M : MS mm n K W F) (hd : rd mm 175 13 = nI d) (hd9 : d ≤ 9) (hi : i < n) (hs : s ≤ 1) (he : e ≤ 2) (hw : K i = 5 → rd mm 187 (F i) = nI (w (F i)) ∧ w (F i) ≤ 2) (hz : rd mm (186 - s) i = nI (z i)) (hz1 : z i ≤ 1000) : ∀ c x, x + c = 41 → ∀ f, c < f → fX12_fewestFor_3 N f 175 (nI i) (nI s) (nI e) (nI x) mm = some (oV (-9) (fnd (ndB K F d w z s i e) c x), mm) := by
  have hn := M.2.1
  intro c
  induction c with
  | zero =>
    intro x hx f hf
    obtain ⟨f, rfl⟩ : ∃ g, f = g + 1 := ⟨f - 1, by omega⟩
    unfold fX12_fewestFor_3
    exact st_t (nI_lt (by first | omega | (dsimp only; omega)) (by first | omega | (dsimp only; omega))) rfl
  | succ c ih =>
    intro x hx f hf
    obtain ⟨f, rfl⟩ : ∃ g, f = g + 1 := ⟨f - 1, by omega⟩
    have ih2 := ih (x + 1) (by first | omega | (dsimp only; omega)) f (by first | omega | (dsimp only; omega))
    unfold fX12_fewestFor_3 fX12_fewestFor_27 fX12_fewestFor_42 fnd
    simp only [LXm, nI_nat (show i < 2147483648 by omega), nI_1]
    refine st_f (nI_nlt (by first | omega | (dsimp only; omega)) (by first | omega | (dsimp only; omega))) ?_
    have fin : ∀ a b, a ≤ 1000 → b ≤ 1000 → wst K F d w i a b = wst K F d w i (if s = 0 then x else z i) (if s = 0 then z i else x) → (bd2 (fX12_winnerOf N 175 (nI i) (nI a) (nI b) mm) fun x1 m2 => if x1 = nI e then some (nI x, m2) else fX12_fewestFor_3 N f 175 (nI i) (nI s) (nI e) (nI (x + 1)) m2) = some (oV (-9) (if ndB K F d w z s i e x = true then some x else fnd (ndB K F d w z s i e) c (x + 1)), mm) := by
      intro a b ha hb hab
      refine st_b (mwinner_e M hd hd9 hi ha hb hw) ?_
      rw [hab]
      have h2 := wst_2 K F d w i (if s = 0 then x else z i) (if s = 0 then z i else x)
      by_cases hq : wst K F d w i (if s = 0 then x else z i) (if s = 0 then z i else x) = e
      · have hB : ndB K F d w z s i e x = true := by unfold ndB; rw [decide_eq_true_eq]; exact hq
        rw [if_pos hB]
        exact st_t (by rw [hq]) rfl
      · have hB : ¬ ndB K F d w z s i e x = true := by unfold ndB; rw [decide_eq_true_eq]; exact hq
        rw [if_neg hB]
        exact st_f (fun q => hq (nI_inj q (by first | omega | (dsimp only; omega)) (by first | omega | (dsimp only; omega)))) ih2
    rcases (by omega : s = 0 ∨ s = 1) with rfl | rfl
    · refine st_t rfl (st_t rfl (st_k rfl (by first | omega | (dsimp only; omega)) (by first | omega | (dsimp only; omega)) ?_))
      rw [show rd mm 186 i = nI (z i) from hz]
      exact fin _ _ (by first | omega | (dsimp only; omega)) hz1 rfl
    · refine st_f (by decide) (st_k rfl (by first | omega | (dsimp only; omega)) (by first | omega | (dsimp only; omega)) (st_f (by decide) ?_))
      rw [show rd mm 185 i = nI (z i) from hz]
      exact fin _ _ hz1 (by first | omega | (dsimp only; omega)) rfl
theorem mneed_e {s i e : Nat} (hN : 100000 ≤ N) (M : MS mm n K W F) (hd : rd mm 175 13 = nI d) (hd9 : d ≤ 9) (hi : i < n) (hs : s ≤ 1) (he : e ≤ 2) (hw : K i = 5 → rd mm 187 (F i) = nI (w (F i)) ∧ w (F i) ≤ 2) (hz : rd mm (186 - s) i = nI (z i)) (hz1 : z i ≤ 1000) : fX12_fewestFor N 175 (nI i) (nI s) (nI e) mm = some (oV (-9) (nd K F d w z s i e), mm) :=
  mneed_l M hd hd9 hi hs he hw hz hz1 41 0 (by first | omega | (dsimp only; omega)) N (by first | omega | (dsimp only; omega))
end Nd
theorem nd_40 {K F : Nat → Nat} {d s i e y : Nat} {w z : Nat → Nat} (h : nd K F d w z s i e = some y) : y ≤ 40 := by
  obtain ⟨-, h2, -, -⟩ := fnd_some 41 0 y h
  omega
/-- where no sheets are laid, the suit ends somehow -/
theorem nd_0 {K F : Nat → Nat} {d s i : Nat} {w z : Nat → Nat} : nd K F d w z s i (wst K F d w i (if s = 0 then 0 else z i) (if s = 0 then z i else 0)) = some 0 :=
  fnd_of (by unfold ndB; rw [decide_eq_true_eq]) (by first | omega | (dsimp only; omega)) (fun t ht => by omega)
-- leaves
def lvC {X : Type} (f : Nat → List X) : Nat → Nat → List X
  | 0, _ => []
  | c + 1, e => f e ++ lvC f c (e + 1)
/-- score, sheets, laying -/
abbrev Lf : Type := Nat × Nat × (Nat → Nat)
/-- all ways in which the suits from i on may end, each by the fewest sheets of side s, at most L in all -/
def lvs (K W F : Nat → Nat) (d : Nat) (z : Nat → Nat) (s L : Nat) : Nat → Nat → (Nat → Nat) → (Nat → Nat) → Nat → Nat → List Lf
  | 0 => fun _ _ l sc sh => [(sc, sh, l)]
  | r + 1 => fun i w l sc sh => lvC (fun e => match nd K F d w z s i e with
    | none => []
    | some x => if sh + x ≤ L then lvs K W F d z s L r (i + 1) (up w i e) (up l i x) (sc + pts (W i) 0 e) (sh + x) else []) 3 0
/-- whether a laying comes first -/
def lexL (l b : Nat → Nat) : Nat → Nat → Bool
  | 0, _ => false
  | c + 1, i => if l i = b i then lexL l b c (i + 1) else decide (l i < b i)
def btr (n : Nat) (x y : Lf) : Bool := decide (y.1 < x.1) || (decide (x.1 = y.1) && (decide (x.2.1 < y.2.1) || (decide (x.2.1 = y.2.1) && lexL x.2.2 y.2.2 n 0)))
def bst (n : Nat) (b : Option Lf) (x : Lf) : Option Lf := match b with
  | none => some x
  | some y => if btr n x y = true then some x else some y
def omx (a : Option Nat) (v : Nat) : Option Nat := match a with
  | none => some v
  | some u => some (if u < v then v else u)
def gst (G : Nat → Option Nat) (x : Lf) : Nat → Option Nat := fun u => if u = x.2.1 then omx (G u) x.1 else G u
