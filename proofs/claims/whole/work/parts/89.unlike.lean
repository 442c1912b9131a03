/-! pure: unlike layings, the class -/
def bitN (M a : Nat) : Bool := decide (M / 2 ^ a % 2 = 1)
theorem bit_t {M a : Nat} (hM : M < 64) (ha : a < 6) (h : bitN M a = true) : ¬ (nI M >>> (nI a &&& 31)) &&& 1 = 0 := by
  rw [bt_6 M hM a ha, of_decide_eq_true h]; decide
theorem bit_f {M a : Nat} (hM : M < 64) (ha : a < 6) (h : bitN M a = false) : (nI M >>> (nI a &&& 31)) &&& 1 = 0 := by
  have h1 : ¬ M / 2 ^ a % 2 = 1 := of_decide_eq_false h
  rw [bt_6 M hM a ha, show M / 2 ^ a % 2 = 0 by omega]; rfl
def bI (b : Bool) : Int32 := if b = true then 1 else 0
/-- new among the ones before -/
def nwB (bit : Nat → Bool) (same : Nat → Nat → Bool) (o : Nat) : Bool := bit o && alB (fun a => !(bit a && same a o)) o 0
def uNk (bit : Nat → Bool) (same : Nat → Nat → Bool) (o : Nat) : Nat := smN (fun o => if nwB bit same o = true then 1 else 0) o
theorem uNk_S {bit : Nat → Bool} {same : Nat → Nat → Bool} {o : Nat} : uNk bit same (o + 1) = uNk bit same o + if nwB bit same o = true then 1 else 0 := rfl
theorem uNk_le {bit : Nat → Bool} {same : Nat → Nat → Bool} : ∀ o, uNk bit same o ≤ o
  | 0 => Nat.le_refl _
  | o + 1 => by
    have := uNk_le (bit := bit) (same := same) o
    rw [uNk_S]
    split <;> omega
theorem alB_t {P : Nat → Bool} : ∀ c k, alB P c k = true ↔ ∀ a, k ≤ a → a < k + c → P a = true
  | 0, k => ⟨fun _ a h1 h2 => by omega, fun _ => rfl⟩
  | c + 1, k => by
    show (P k && alB P c (k + 1)) = true ↔ _
    rw [Bool.and_eq_true, alB_t c (k + 1)]
    constructor
    · rintro ⟨h1, h2⟩ a h3 h4
      by_cases ha : a = k
      · rw [ha]; exact h1
      · exact h2 a (by first | omega | (dsimp only; omega)) (by first | omega | (dsimp only; omega))
    · intro h
      exact ⟨h k (by first | omega | (dsimp only; omega)) (by first | omega | (dsimp only; omega)), fun a h1 h2 => h a (by first | omega | (dsimp only; omega)) (by first | omega | (dsimp only; omega))⟩
theorem nwB_t {bit : Nat → Bool} {same : Nat → Nat → Bool} {o : Nat} : nwB bit same o = true ↔ bit o = true ∧ ∀ a, a < o → ¬ (bit a = true ∧ same a o = true) := by
  unfold nwB
  rw [Bool.and_eq_true, alB_t]
  constructor
  · rintro ⟨h1, h2⟩
    refine ⟨h1, fun a ha hb => ?_⟩
    have := h2 a (by first | omega | (dsimp only; omega)) (by first | omega | (dsimp only; omega))
    rw [hb.1, hb.2] at this
    cases this
  · rintro ⟨h1, h2⟩
    refine ⟨h1, fun a _ ha => ?_⟩
    have := h2 a (by first | omega | (dsimp only; omega))
    cases e1 : bit a <;> cases e2 : same a o <;> simp_all
theorem uNk_c {bit : Nat → Bool} {s1 s2 : Nat → Nat → Bool} (n : Nat) (h : ∀ o, o < n → bit o = true → ((∃ a, a < o ∧ bit a = true ∧ s1 a o = true) ↔ ∃ a, a < o ∧ bit a = true ∧ s2 a o = true)) : uNk bit s1 n = uNk bit s2 n := by
  unfold uNk
  refine smN_c n (fun o ho => ?_)
  have : (nwB bit s1 o = true) ↔ (nwB bit s2 o = true) := by
    rw [nwB_t, nwB_t]
    constructor
    · rintro ⟨h1, h2⟩
      refine ⟨h1, fun a ha hb => ?_⟩
      obtain ⟨q, z1, z2, z3⟩ := (h o ho h1).mpr ⟨a, ha, hb.1, hb.2⟩
      exact h2 q z1 ⟨z2, z3⟩
    · rintro ⟨h1, h2⟩
      refine ⟨h1, fun a ha hb => ?_⟩
      obtain ⟨q, z1, z2, z3⟩ := (h o ho h1).mp ⟨a, ha, hb.1, hb.2⟩
      exact h2 q z1 ⟨z2, z3⟩
  by_cases hb : nwB bit s1 o = true
  · rw [if_pos hb, if_pos (this.mp hb)]
  · rw [if_neg hb, if_neg (fun e => hb (this.mpr e))]
/-- the first that P holds of, from a on; else the end -/
def flR (P : Nat → Bool) : Nat → Nat → Nat
  | 0, a => a
  | c + 1, a => if P a = true then a else flR P c (a + 1)
theorem flR_p {P : Nat → Bool} : ∀ c a, a ≤ flR P c a ∧ flR P c a ≤ a + c ∧ (∀ t, a ≤ t → t < flR P c a → P t = false) ∧ (flR P c a < a + c → P (flR P c a) = true)
  | 0, a => ⟨Nat.le_refl _, Nat.le_refl _, fun t h1 h2 => by have : t < a := h2; omega, fun h => by have : a < a + 0 := h; omega⟩
  | c + 1, a => by
    obtain ⟨h1, h2, h3, h4⟩ := flR_p (P := P) c (a + 1)
    have e : flR P (c + 1) a = if P a = true then a else flR P c (a + 1) := rfl
    by_cases hp : P a = true
    · rw [e, if_pos hp]
      exact ⟨Nat.le_refl _, by omega, fun t h1 h2 => by omega, fun _ => hp⟩
    · rw [e, if_neg hp]
      refine ⟨by omega, by omega, fun t h5 h6 => ?_, fun h5 => h4 (by first | omega | (dsimp only; omega))⟩
      by_cases ht : t = a
      · rw [ht]; simpa using hp
      · exact h3 t (by first | omega | (dsimp only; omega)) h6
/-- first likes tell as likeness does -/
theorem fl_same {bit : Nat → Bool} {al : Nat → Nat → Bool} (hs : ∀ a b c, al a b = true → al b c = true → al a c = true) (hy : ∀ a b, al a b = true → al b a = true) (o : Nat) : (∃ a, a < o ∧ bit a = true ∧ decide (flR (fun q => bit q && al q a) a 0 = flR (fun q => bit q && al q o) o 0) = true) ↔ ∃ a, a < o ∧ bit a = true ∧ al a o = true := by
  constructor
  · rintro ⟨a, ha, hb, he⟩
    have he := of_decide_eq_true he
    obtain ⟨p1, p2, p3, p4⟩ := flR_p (P := fun q => bit q && al q o) o 0
    obtain ⟨-, q2, -, -⟩ := flR_p (P := fun q => bit q && al q a) a 0
    have hlt : flR (fun q => bit q && al q o) o 0 < 0 + o := by omega
    have hz := p4 hlt
    rw [Bool.and_eq_true] at hz
    exact ⟨_, by omega, hz.1, hz.2⟩
  · rintro ⟨a, ha, hb, he⟩
    obtain ⟨p1, p2, p3, p4⟩ := flR_p (P := fun q => bit q && al q o) o 0
    have hle : flR (fun q => bit q && al q o) o 0 ≤ a := by
      apply Decidable.byContradiction
      intro hn
      have := p3 a (by first | omega | (dsimp only; omega)) (by first | omega | (dsimp only; omega))
      rw [hb, he] at this
      cases this
    have hz := p4 (by first | omega | (dsimp only; omega))
    generalize hr : flR (fun q => bit q && al q o) o 0 = r at p1 p2 p3 p4 hle hz
    rw [Bool.and_eq_true] at hz
    refine ⟨r, by omega, hz.1, decide_eq_true ?_⟩
    obtain ⟨q1, q2, q3, q4⟩ := flR_p (P := fun q => bit q && al q r) r 0
    by_cases hlt : flR (fun q => bit q && al q r) r 0 < 0 + r
    · have h5 := q4 hlt
      rw [Bool.and_eq_true] at h5
      have h6 := p3 _ (by first | omega | (dsimp only; omega)) (show flR (fun q => bit q && al q r) r 0 < r by omega)
      rw [h5.1, hs _ _ _ h5.2 hz.2] at h6
      cases h6
    · omega
section Unl
variable {N n d t : Nat} {K W F : Nat → Nat}
theorem cprepG_l {en M : Nat} {Y : Nat → Nat → Nat} {Z : Nat → Nat} (hN : 100000 ≤ N) (h0 : 0 < n) (ht40 : t ≤ 40) : ∀ c o mm, o + c = 6 → GC mm n d t en K W F Y Z → ∀ f, c < f → ∃ m', fX2_prepare_7 N f 55 3 (nI o) mm = some ((), m') ∧ Fr (fun k _ => k = 56 ∨ (62 + o ≤ k ∧ k ≤ 67)) mm m' ∧ ∀ q, o ≤ q → q < 6 → ∀ j, j < 6 → rd m' (62 + q) j = nI (if j < n then rlN W n t q (yN Y en) j else 0) := by
  intro c
  induction c with
  | zero =>
    intro o mm ho G f hf
    obtain ⟨f, rfl⟩ : ∃ g, f = g + 1 := ⟨f - 1, by omega⟩
    refine ⟨mm, ?_, Fr.rf, fun q h1 h2 => by omega⟩
    unfold fX2_prepare_7
    exact st_t (nI_le (by first | omega | (dsimp only; omega)) (by first | omega | (dsimp only; omega))) rfl
  | succ c ih =>
    intro o mm ho G f hf
    obtain ⟨f, rfl⟩ : ∃ g, f = g + 1 := ⟨f - 1, by omega⟩
    obtain ⟨C, hd, ht, T⟩ := id G
    obtain ⟨m1, c1, f1, g1⟩ := layBy_e (N := N) (o := o) hN h0 (by first | omega | (dsimp only; omega)) C ht ht40 T.2.1 T.1 (Nat.le_refl en) (T.yc (Nat.le_refl en)).1
    obtain ⟨m', c2, f2, g2⟩ := ih (o + 1) (cpy m1 56 (62 + o) 0 0 6) (by first | omega | (dsimp only; omega)) (G.c (fun k j e => by rw [rd_cpy, if_neg (by first | omega | (dsimp only; omega)), f1.2 _ _ (by first | omega | (dsimp only; omega))])) f (by first | omega | (dsimp only; omega))
    refine ⟨m', ?_, (f1.mono (fun k j e => Or.inl e)).tr ((fr_cpy (S := fun k _ => k = 56 ∨ (62 + o ≤ k ∧ k ≤ 67)) Fr.rf (fun j => by omega)).tr (f2.mono (fun k j e => by omega))), fun q h1 h2 j hj => ?_⟩
    · unfold fX2_prepare_7
      rw [T.2.1]
      simp only [LXg, nI_nat (show o < 2147483648 by omega)]
      rw [ln_6 (k := 62 + o) (Or.inr (Or.inl (by first | omega | (dsimp only; omega))))]
      refine st_f (nI_ge (by first | omega | (dsimp only; omega)) (by first | omega | (dsimp only; omega))) (st_b c1 (st_k rfl (show o < 6 by omega) (by first | omega | (dsimp only; omega)) (st_g (cpok_n (i := 0) (j := 0) (c := 6) (by first | omega | (dsimp only; omega)) (by first | omega | (dsimp only; omega)) (by first | omega | (dsimp only; omega)) (by first | omega | (dsimp only; omega))) (st_n ?_))))
      rw [nI_1]; exact c2
    · by_cases hq : q = o
      · subst hq
        rw [f2.2 _ _ (by first | omega | (dsimp only; omega)), rd_cpy, if_pos ⟨rfl, Nat.zero_le _, hj⟩]
        show rd m1 56 (0 + (j - 0)) = _
        rw [Nat.zero_add, Nat.sub_zero, g1 j hj]
      · exact g2 q (by first | omega | (dsimp only; omega)) h2 j hj
theorem cprepG_e {en M : Nat} {Y : Nat → Nat → Nat} {Z : Nat → Nat} {mm : Mm} (hN : 100000 ≤ N) (h0 : 0 < n) (ht40 : t ≤ 40) (G : GC mm n d t en K W F Y Z) : ∃ m', fX2_prepare N 55 3 (nI M) mm = some ((), m') ∧ Fr (fun k j => (k = 55 ∧ j = 5) ∨ k = 56 ∨ (62 ≤ k ∧ k ≤ 67)) mm m' ∧ rd m' 55 5 = nI M ∧ ∀ q, q < 6 → ∀ j, j < 6 → rd m' (62 + q) j = nI (if j < n then rlN W n t q (yN Y en) j else 0) := by
  obtain ⟨m', c1, f1, g1⟩ := cprepG_l (N := N) (M := M) hN h0 ht40 6 0 (wr mm 55 5 (nI M)) (by first | omega | (dsimp only; omega)) (G.c (fun k j e => rd_wr_k (by first | omega | (dsimp only; omega)))) N (by first | omega | (dsimp only; omega))
  refine ⟨m', st_n c1, (fr_wr (S := fun k j => (k = 55 ∧ j = 5) ∨ k = 56 ∨ (62 ≤ k ∧ k ≤ 67)) Fr.rf (Or.inl ⟨rfl, rfl⟩)).tr (f1.mono (fun k j e => by omega)), by rw [f1.2 _ _ (by first | omega | (dsimp only; omega)), rd_wr_s], fun q hq => g1 q (by first | omega | (dsimp only; omega)) hq⟩
theorem fl27_l {o a : Nat} {L : Nat → Nat → Nat} {k2 : Nat → Int32 → Int32 → Mm → Option (Int32 × Mm)} {mm : Mm} (ho : o < 6) (ha : a < 6) (hL : ∀ q, q < 6 → ∀ j, j < 6 → rd mm (62 + q) j = nI (L q j)) (hL4 : ∀ q j, L q j ≤ 40) : ∀ c j (b : Bool), j + c = 6 → ∀ f, c < f → fX2_firstLike_27 N k2 f 55 (nI o) (nI a) (bI b) (nI j) mm = if (b && alB (fun j => decide (L a j = L o j)) c j) = true then some (nI a, mm) else k2 55 (nI o) (nI (a + 1)) mm := by
  intro c
  induction c with
  | zero =>
    intro j b hj f hf
    obtain ⟨f, rfl⟩ : ∃ g, f = g + 1 := ⟨f - 1, by omega⟩
    unfold fX2_firstLike_27
    refine st_t (nI_le (by first | omega | (dsimp only; omega)) (by first | omega | (dsimp only; omega))) ?_
    rw [nI_1]
    cases b
    · exact st_t rfl rfl
    · exact st_f (by decide) rfl
  | succ c ih =>
    intro j b hj f hf
    obtain ⟨f, rfl⟩ : ∃ g, f = g + 1 := ⟨f - 1, by omega⟩
    unfold fX2_firstLike_27 fX2_firstLike_64 fX2_firstLike_63 fX2_firstLike_64
    refine st_f (nI_ge (by first | omega | (dsimp only; omega)) (by first | omega | (dsimp only; omega))) ?_
    rw [nI_1]
    have ih1 := fun b => ih (j + 1) b (by first | omega | (dsimp only; omega)) f (by first | omega | (dsimp only; omega))
    have e : alB (fun j => decide (L a j = L o j)) (c + 1) j = (decide (L a j = L o j) && alB (fun j => decide (L a j = L o j)) c (j + 1)) := rfl
    rw [e]
    cases b
    · refine st_t rfl ?_
      have := ih1 false
      rw [Bool.false_and] at this ⊢
      exact this
    · simp only [LXg, nI_nat (show a < 2147483648 by omega), nI_nat (show j < 2147483648 by omega), nI_nat (show o < 2147483648 by omega)]
      refine st_f (by decide) (st_k rfl ha (by first | omega | (dsimp only; omega)) (st_k (ln_6 (Or.inr (Or.inl (by first | omega | (dsimp only; omega))))) (show j < 6 by omega) (by first | omega | (dsimp only; omega)) (st_k rfl ho (by first | omega | (dsimp only; omega)) (st_k (ln_6 (Or.inr (Or.inl (by first | omega | (dsimp only; omega))))) (show j < 6 by omega) (by first | omega | (dsimp only; omega)) ?_))))
      rw [hL a ha j (by first | omega | (dsimp only; omega)), hL o ho j (by first | omega | (dsimp only; omega)), Bool.true_and]
      have h1 := hL4 a j
      have h2 := hL4 o j
      by_cases he : L a j = L o j
      · have := ih1 true
        rw [Bool.true_and] at this
        rw [decide_eq_true he, Bool.true_and]
        exact st_t (by rw [he]) this
      · have := ih1 false
        rw [Bool.false_and] at this
        rw [decide_eq_false he, Bool.false_and]
        exact st_f (nw_ne he (by first | omega | (dsimp only; omega)) (by first | omega | (dsimp only; omega))) this
theorem fl2_l {o M : Nat} {L : Nat → Nat → Nat} {mm : Mm} (hN : 100000 ≤ N) (hM : M < 64) (h5 : rd mm 55 5 = nI M) (ho : o < 6) (hL : ∀ q, q < 6 → ∀ j, j < 6 → rd mm (62 + q) j = nI (L q j)) (hL4 : ∀ q j, L q j ≤ 40) : ∀ c a, a + c = o → ∀ f, c < f → fX2_firstLike_2 N f 55 (nI o) (nI a) mm = some (nI (flR (fun a => bitN M a && alB (fun j => decide (L a j = L o j)) 6 0) c a), mm) := by
  intro c
  induction c with
  | zero =>
    intro a ha f hf
    obtain ⟨f, rfl⟩ : ∃ g, f = g + 1 := ⟨f - 1, by omega⟩
    obtain rfl : a = o := by omega
    unfold fX2_firstLike_2
    exact st_t (nI_le (by first | omega | (dsimp only; omega)) (by first | omega | (dsimp only; omega))) rfl
  | succ c ih =>
    intro a ha f hf
    obtain ⟨f, rfl⟩ : ∃ g, f = g + 1 := ⟨f - 1, by omega⟩
    have ih1 := ih (a + 1) (by first | omega | (dsimp only; omega)) f (by first | omega | (dsimp only; omega))
    have e : flR (fun a => bitN M a && alB (fun j => decide (L a j = L o j)) 6 0) (c + 1) a = if (bitN M a && alB (fun j => decide (L a j = L o j)) 6 0) = true then a else flR (fun a => bitN M a && alB (fun j => decide (L a j = L o j)) 6 0) c (a + 1) := rfl
    rw [e]
    have key : fX2_firstLike_23 N (fX2_firstLike_2 N f) 55 (nI o) (nI a) (bI (bitN M a)) mm = some (nI (if (bitN M a && alB (fun j => decide (L a j = L o j)) 6 0) = true then a else flR (fun a => bitN M a && alB (fun j => decide (L a j = L o j)) 6 0) c (a + 1)), mm) := by
      unfold fX2_firstLike_23
      have := fl27_l (N := N) (a := a) (k2 := fX2_firstLike_2 N f) ho (by first | omega | (dsimp only; omega)) hL hL4 6 0 (bitN M a) (by first | omega | (dsimp only; omega)) N (by first | omega | (dsimp only; omega))
      refine this.trans ?_
      by_cases hb : (bitN M a && alB (fun j => decide (L a j = L o j)) 6 0) = true
      · rw [if_pos hb, if_pos hb]
      · rw [if_neg hb, if_neg hb]; exact ih1
    unfold fX2_firstLike_2
    rw [h5]
    refine st_f (nI_ge (by first | omega | (dsimp only; omega)) (by first | omega | (dsimp only; omega))) ?_
    cases hb : bitN M a
    · rw [hb] at key
      exact st_t (bit_f hM (by first | omega | (dsimp only; omega)) hb) key
    · rw [hb] at key
      exact st_f (bit_t hM (by first | omega | (dsimp only; omega)) hb) key
theorem u30_l {o M A : Nat} {V : Nat → Nat} {k4 : Nat → Int32 → Int32 → Mm → Option (Int32 × Mm)} {mm : Mm} (hM : M < 64) (h5 : rd mm 55 5 = nI M) (ho : o < 6) (hV : ∀ a, a < 6 → bitN M a = true → rd mm 69 a = nI (V a) ∧ V a < 1000) : ∀ c a (b : Bool), a + c = o → (b = true → bitN M o = true) → ∀ f, c < f → fX2_unlikeOnes_30 N k4 f 55 (nI A) (nI o) (bI b) (nI a) mm = k4 55 (nI (A + if (b && alB (fun a => !(bitN M a && decide (V a = V o))) c a) = true then 1 else 0)) (nI (o + 1)) mm := by
  intro c
  induction c with
  | zero =>
    intro a b ha hbo f hf
    obtain ⟨f, rfl⟩ : ∃ g, f = g + 1 := ⟨f - 1, by omega⟩
    unfold fX2_unlikeOnes_30 fX2_unlikeOnes_87
    refine st_t (nI_le (by first | omega | (dsimp only; omega)) (by first | omega | (dsimp only; omega))) ?_
    rw [nI_1 o]
    cases b
    · exact st_t rfl rfl
    · exact st_f (by decide) (by rw [nI_1 A]; rfl)
  | succ c ih =>
    intro a b ha hbo f hf
    obtain ⟨f, rfl⟩ : ∃ g, f = g + 1 := ⟨f - 1, by omega⟩
    unfold fX2_unlikeOnes_30 fX2_unlikeOnes_72 fX2_unlikeOnes_68 fX2_unlikeOnes_73
    rw [nI_1 a]
    refine st_f (nI_ge (by first | omega | (dsimp only; omega)) (by first | omega | (dsimp only; omega))) ?_
    have e : alB (fun a => !(bitN M a && decide (V a = V o))) (c + 1) a = ((!(bitN M a && decide (V a = V o))) && alB (fun a => !(bitN M a && decide (V a = V o))) c (a + 1)) := rfl
    rw [e]
    cases b
    · refine st_t rfl ?_
      have := ih (a + 1) false (by first | omega | (dsimp only; omega)) (fun h => by cases h) f (by first | omega | (dsimp only; omega))
      rw [Bool.false_and] at this ⊢
      exact this
    · have i1 := ih (a + 1) true (by first | omega | (dsimp only; omega)) hbo f (by first | omega | (dsimp only; omega))
      have i0 := ih (a + 1) false (by first | omega | (dsimp only; omega)) (fun h => by cases h) f (by first | omega | (dsimp only; omega))
      rw [Bool.true_and] at i1 ⊢
      rw [Bool.false_and] at i0
      refine st_f (by decide) ?_
      rw [h5]
      cases hb : bitN M a
      · rw [Bool.false_and, Bool.not_false, Bool.true_and]
        exact st_t (bit_f hM (by first | omega | (dsimp only; omega)) hb) i1
      · simp only [LXg, nI_nat (show a < 2147483648 by omega), nI_nat (show o < 2147483648 by omega)]
        refine st_f (bit_t hM (by first | omega | (dsimp only; omega)) hb) (st_k rfl (show a < 6 by omega) (by first | omega | (dsimp only; omega)) (st_k rfl ho (by first | omega | (dsimp only; omega)) ?_))
        obtain ⟨v1, v2⟩ := hV a (by first | omega | (dsimp only; omega)) hb
        obtain ⟨v3, v4⟩ := hV o ho (hbo rfl)
        rw [v1, v3, Bool.true_and]
        by_cases he : V a = V o
        · rw [decide_eq_true he, Bool.not_true, Bool.false_and]
          exact st_t (by rw [he]) i0
        · rw [decide_eq_false he, Bool.not_false, Bool.true_and]
          exact st_f (nw_ne he (by first | omega | (dsimp only; omega)) (by first | omega | (dsimp only; omega))) i1
theorem uOnes_e {M : Nat} {V : Nat → Nat} {mm : Mm} (hN : 100000 ≤ N) (hM : M < 64) (h5 : rd mm 55 5 = nI M) (hV : ∀ a, a < 6 → bitN M a = true → rd mm 69 a = nI (V a) ∧ V a < 1000) : fX2_unlikeOnes N 55 mm = some (nI (uNk (bitN M) (fun a o => decide (V a = V o)) 6), mm) := by
  have key : ∀ c o, o + c = 6 → ∀ f, c < f → fX2_unlikeOnes_4 N f 55 (nI (uNk (bitN M) (fun a o => decide (V a = V o)) o)) (nI o) mm = some (nI (uNk (bitN M) (fun a o => decide (V a = V o)) 6), mm) := by
    intro c
    induction c with
    | zero =>
      intro o ho f hf
      obtain ⟨f, rfl⟩ : ∃ g, f = g + 1 := ⟨f - 1, by omega⟩
      obtain rfl : o = 6 := by omega
      unfold fX2_unlikeOnes_4
      exact st_t (nI_le (by first | omega | (dsimp only; omega)) (by first | omega | (dsimp only; omega))) rfl
    | succ c ih =>
      intro o ho f hf
      obtain ⟨f, rfl⟩ : ∃ g, f = g + 1 := ⟨f - 1, by omega⟩
      have ih1 := ih (o + 1) (by first | omega | (dsimp only; omega)) f (by first | omega | (dsimp only; omega))
      rw [uNk_S] at ih1
      have go : fX2_unlikeOnes_26 N (fX2_unlikeOnes_4 N f) 55 (nI (uNk (bitN M) (fun a o => decide (V a = V o)) o)) (nI o) (bI (bitN M o)) mm = some (nI (uNk (bitN M) (fun a o => decide (V a = V o)) 6), mm) :=
        (u30_l (N := N) (k4 := fX2_unlikeOnes_4 N f) hM h5 (by first | omega | (dsimp only; omega)) hV o 0 (bitN M o) (by first | omega | (dsimp only; omega)) (fun h => h) N (by first | omega | (dsimp only; omega))).trans ih1
      unfold fX2_unlikeOnes_4
      rw [h5]
      refine st_f (nI_ge (by first | omega | (dsimp only; omega)) (by first | omega | (dsimp only; omega))) ?_
      cases hb : bitN M o
      · rw [hb] at go
        exact st_t (bit_f hM (by first | omega | (dsimp only; omega)) hb) go
      · rw [hb] at go
        exact st_f (bit_t hM (by first | omega | (dsimp only; omega)) hb) go
  exact key 6 0 (by first | omega | (dsimp only; omega)) N (by first | omega | (dsimp only; omega))
theorem uLay_l {M : Nat} {L : Nat → Nat → Nat} (hN : 100000 ≤ N) (hM : M < 64) (hL4 : ∀ q j, L q j ≤ 40) : ∀ c o mm, o + c = 6 → rd mm 55 5 = nI M → (∀ q, q < 6 → ∀ j, j < 6 → rd mm (62 + q) j = nI (L q j)) → (∀ q, q < o → rd mm 69 q = nI (flR (fun a => bitN M a && alB (fun j => decide (L a j = L q j)) 6 0) q 0)) → ∀ f, c < f → ∃ m', fX2_unlikeLayings_8 N f 55 (nI o) mm = some (nI (uNk (bitN M) (fun a o => alB (fun j => decide (L a j = L o j)) 6 0) 6), m') ∧ Fr (fun k _ => k = 69) mm m' := by
  intro c
  induction c with
  | zero =>
    intro o mm ho h5 hL hV f hf
    obtain ⟨f, rfl⟩ : ∃ g, f = g + 1 := ⟨f - 1, by omega⟩
    obtain rfl : o = 6 := by omega
    refine ⟨mm, ?_, Fr.rf⟩
    unfold fX2_unlikeLayings_8
    refine st_t (nI_le (by first | omega | (dsimp only; omega)) (by first | omega | (dsimp only; omega))) (st_b (uOnes_e (V := fun q => flR (fun a => bitN M a && alB (fun j => decide (L a j = L q j)) 6 0) q 0) hN hM h5 (fun a ha _ => ⟨hV a ha, ?_⟩)) ?_)
    · have := (flR_p (P := fun q => bitN M q && alB (fun j => decide (L q j = L a j)) 6 0) a 0).2.1
      omega
    · rw [uNk_c 6 (fun o _ _ => fl_same (bit := bitN M) (al := fun a o => alB (fun j => decide (L a j = L o j)) 6 0) (fun a b c h1 h2 => ?_) (fun a b h1 => ?_) o)]
      · rw [alB_t] at h1 h2 ⊢
        intro j j1 j2
        have e1 := of_decide_eq_true (h1 j j1 j2)
        have e2 := of_decide_eq_true (h2 j j1 j2)
        exact decide_eq_true (e1.trans e2)
      · rw [alB_t] at h1 ⊢
        intro j j1 j2
        exact decide_eq_true (of_decide_eq_true (h1 j j1 j2)).symm
  | succ c ih =>
    intro o mm ho h5 hL hV f hf
    obtain ⟨f, rfl⟩ : ∃ g, f = g + 1 := ⟨f - 1, by omega⟩
    obtain ⟨m', c1, f1⟩ := ih (o + 1) (wr mm 69 o (nI (flR (fun a => bitN M a && alB (fun j => decide (L a j = L o j)) 6 0) o 0))) (by first | omega | (dsimp only; omega)) (by rw [rd_wr_k (by first | omega | (dsimp only; omega))]; exact h5) (fun q hq j hj => by rw [rd_wr_k (by first | omega | (dsimp only; omega))]; exact hL q hq j hj) (fun q hq => by
      by_cases hqo : q = o
      · subst hqo; rw [rd_wr_s]
      · rw [rd_wr_j hqo]; exact hV q (by first | omega | (dsimp only; omega))) f (by first | omega | (dsimp only; omega))
    refine ⟨m', ?_, (fr_wr (S := fun k _ => k = 69) Fr.rf rfl).tr f1⟩
    have hfl : fX2_firstLike N 55 (nI o) mm = some (nI (flR (fun a => bitN M a && alB (fun j => decide (L a j = L o j)) 6 0) o 0), mm) := fl2_l hN hM h5 (by first | omega | (dsimp only; omega)) hL hL4 o 0 (by first | omega | (dsimp only; omega)) N (by first | omega | (dsimp only; omega))
    unfold fX2_unlikeLayings_8
    simp only [LXg, nI_nat (show o < 2147483648 by omega)]
    refine st_f (nI_ge (by first | omega | (dsimp only; omega)) (by first | omega | (dsimp only; omega))) (st_b hfl (st_k rfl (show o < 6 by omega) (by first | omega | (dsimp only; omega)) (st_n ?_)))
    rw [nI_1]; exact c1
end Unl
