/-! picked out of 88.reply -/
theorem bt_6 : ∀ M, M < 64 → ∀ o, o < 6 → (nI M >>> (nI o &&& 31)) &&& 1 = nI (M / 2 ^ o % 2) := by decide +kernel
theorem first_6 {M : Nat} (h : M < 64) (h0 : M ≠ 0) : ∃ o, o < 6 ∧ M / 2 ^ o % 2 = 1 ∧ ∀ j, j < o → M / 2 ^ j % 2 = 0 := by
  have e1 : (2 : Nat) ^ 0 = 1 := rfl
  have e2 : (2 : Nat) ^ 1 = 2 := rfl
  have e3 : (2 : Nat) ^ 2 = 4 := rfl
  have e4 : (2 : Nat) ^ 3 = 8 := rfl
  have e5 : (2 : Nat) ^ 4 = 16 := rfl
  have e6 : (2 : Nat) ^ 5 = 32 := rfl
  by_cases b0 : M / 1 % 2 = 1
  · exact ⟨0, by omega, by rw [e1]; exact b0, fun j hj => by omega⟩
  by_cases b1 : M / 2 % 2 = 1
  · refine ⟨1, by omega, by rw [e2]; exact b1, fun j hj => ?_⟩
    obtain rfl : j = 0 := by omega
    rw [e1]; omega
  by_cases b2 : M / 4 % 2 = 1
  · refine ⟨2, by omega, by rw [e3]; exact b2, fun j hj => ?_⟩
    rcases (by omega : j = 0 ∨ j = 1) with rfl | rfl
    · rw [e1]; omega
    · rw [e2]; omega
  by_cases b3 : M / 8 % 2 = 1
  · refine ⟨3, by omega, by rw [e4]; exact b3, fun j hj => ?_⟩
    rcases (by omega : j = 0 ∨ j = 1 ∨ j = 2) with rfl | rfl | rfl
    · rw [e1]; omega
    · rw [e2]; omega
    · rw [e3]; omega
  by_cases b4 : M / 16 % 2 = 1
  · refine ⟨4, by omega, by rw [e5]; exact b4, fun j hj => ?_⟩
    rcases (by omega : j = 0 ∨ j = 1 ∨ j = 2 ∨ j = 3) with rfl | rfl | rfl | rfl
    · rw [e1]; omega
    · rw [e2]; omega
    · rw [e3]; omega
    · rw [e4]; omega
  · refine ⟨5, by omega, by rw [e6]; omega, fun j hj => ?_⟩
    rcases (by omega : j = 0 ∨ j = 1 ∨ j = 2 ∨ j = 3 ∨ j = 4) with rfl | rfl | rfl | rfl | rfl
    · rw [e1]; omega
    · rw [e2]; omega
    · rw [e3]; omega
    · rw [e4]; omega
    · rw [e5]; omega
theorem cfirst_l {N M o : Nat} {mm : Mm} (hM : M < 64) (ho : o < 6) (h1 : M / 2 ^ o % 2 = 1) (h2 : ∀ j, j < o → M / 2 ^ j % 2 = 0) : ∀ c i, i + c = o → ∀ f, c < f → fX2_firstOf_2 N f (nI M) (nI i) mm = some (nI o, mm) := by
  intro c
  induction c with
  | zero =>
    intro i hi f hf
    obtain ⟨f, rfl⟩ : ∃ g, f = g + 1 := ⟨f - 1, by omega⟩
    obtain rfl : i = o := by omega
    unfold fX2_firstOf_2
    by_cases h5 : 5 ≤ i
    · exact st_t (nI_le h5 (by first | omega | (dsimp only; omega))) rfl
    · refine st_f (nI_ge (by first | omega | (dsimp only; omega)) (by first | omega | (dsimp only; omega))) (st_f ?_ rfl)
      rw [bt_6 M hM i ho, h1]; decide
  | succ c ih =>
    intro i hi f hf
    obtain ⟨f, rfl⟩ : ∃ g, f = g + 1 := ⟨f - 1, by omega⟩
    unfold fX2_firstOf_2
    refine st_f (nI_ge (by first | omega | (dsimp only; omega)) (by first | omega | (dsimp only; omega))) (st_t ?_ ?_)
    · rw [bt_6 M hM i (by first | omega | (dsimp only; omega)), h2 i (by first | omega | (dsimp only; omega))]; rfl
    · rw [nI_1]; exact ih (i + 1) (by first | omega | (dsimp only; omega)) f (by first | omega | (dsimp only; omega))

/-! picked out of 89.unlike -/
def bitN (M a : Nat) : Bool := decide (M / 2 ^ a % 2 = 1)
theorem bit_t {M a : Nat} (hM : M < 64) (ha : a < 6) (h : bitN M a = true) : ¬ (nI M >>> (nI a &&& 31)) &&& 1 = 0 := by
  rw [bt_6 M hM a ha, of_decide_eq_true h]; decide
theorem bit_f {M a : Nat} (hM : M < 64) (ha : a < 6) (h : bitN M a = false) : (nI M >>> (nI a &&& 31)) &&& 1 = 0 := by
  have h1 : ¬ M / 2 ^ a % 2 = 1 := of_decide_eq_false h
  rw [bt_6 M hM a ha, show M / 2 ^ a % 2 = 0 by omega]; rfl
def bI (b : Bool) : Int32 := if b = true then 1 else 0
/-- new among the ones before -/
def nwB (bit : Nat → Bool) (same : Nat → Nat → Bool) (o : Nat) : Bool := bit o && alB (fun a => !(bit a && same a o)) o 0
def uNk (bit : Nat → Bool) (same : Nat → Nat → Bool) (o : Nat) : Nat := smN (fun o => if nwB bit same o = true then 1 else 0) o
theorem uNk_S {bit : Nat → Bool} {same : Nat → Nat → Bool} {o : Nat} : uNk bit same (o + 1) = uNk bit same o + if nwB bit same o = true then 1 else 0 := rfl
theorem uNk_le {bit : Nat → Bool} {same : Nat → Nat → Bool} : ∀ o, uNk bit same o ≤ o
  | 0 => Nat.le_refl _
  | o + 1 => by
    have := uNk_le (bit := bit) (same := same) o
    rw [uNk_S]
    split <;> omega
theorem alB_t {P : Nat → Bool} : ∀ c k, alB P c k = true ↔ ∀ a, k ≤ a → a < k + c → P a = true
  | 0, k => ⟨fun _ a h1 h2 => by omega, fun _ => rfl⟩
  | c + 1, k => by
    show (P k && alB P c (k + 1)) = true ↔ _
    rw [Bool.and_eq_true, alB_t c (k + 1)]
    constructor
    · rintro ⟨h1, h2⟩ a h3 h4
      by_cases ha : a = k
      · rw [ha]; exact h1
      · exact h2 a (by first | omega | (dsimp only; omega)) (by first | omega | (dsimp only; omega))
    · intro h
      exact ⟨h k (by first | omega | (dsimp only; omega)) (by first | omega | (dsimp only; omega)), fun a h1 h2 => h a (by first | omega | (dsimp only; omega)) (by first | omega | (dsimp only; omega))⟩
theorem nwB_t {bit : Nat → Bool} {same : Nat → Nat → Bool} {o : Nat} : nwB bit same o = true ↔ bit o = true ∧ ∀ a, a < o → ¬ (bit a = true ∧ same a o = true) := by
  unfold nwB
  rw [Bool.and_eq_true, alB_t]
  constructor
  · rintro ⟨h1, h2⟩
    refine ⟨h1, fun a ha hb => ?_⟩
    have := h2 a (by first | omega | (dsimp only; omega)) (by first | omega | (dsimp only; omega))
    rw [hb.1, hb.2] at this
    cases this
  · rintro ⟨h1, h2⟩
    refine ⟨h1, fun a _ ha => ?_⟩
    have := h2 a (by first | omega | (dsimp only; omega))
    cases e1 : bit a <;> cases e2 : same a o <;> simp_all
theorem uNk_c {bit : Nat → Bool} {s1 s2 : Nat → Nat → Bool} (n : Nat) (h : ∀ o, o < n → bit o = true → ((∃ a, a < o ∧ bit a = true ∧ s1 a o = true) ↔ ∃ a, a < o ∧ bit a = true ∧ s2 a o = true)) : uNk bit s1 n = uNk bit s2 n := by
  unfold uNk
  refine smN_c n (fun o ho => ?_)
  have : (nwB bit s1 o = true) ↔ (nwB bit s2 o = true) := by
    rw [nwB_t, nwB_t]
    constructor
    · rintro ⟨h1, h2⟩
      refine ⟨h1, fun a ha hb => ?_⟩
      obtain ⟨q, z1, z2, z3⟩ := (h o ho h1).mpr ⟨a, ha, hb.1, hb.2⟩
      exact h2 q z1 ⟨z2, z3⟩
    · rintro ⟨h1, h2⟩
      refine ⟨h1, fun a ha hb => ?_⟩
      obtain ⟨q, z1, z2, z3⟩ := (h o ho h1).mp ⟨a, ha, hb.1, hb.2⟩
      exact h2 q z1 ⟨z2, z3⟩
  by_cases hb : nwB bit s1 o = true
  · rw [if_pos hb, if_pos (this.mp hb)]
  · rw [if_neg hb, if_neg (fun e => hb (this.mpr e))]
/-- the first that P holds of, from a on; else the end -/
def flR (P : Nat → Bool) : Nat → Nat → Nat
  | 0, a => a
  | c + 1, a => if P a = true then a else flR P c (a + 1)
theorem flR_p {P : Nat → Bool} : ∀ c a, a ≤ flR P c a ∧ flR P c a ≤ a + c ∧ (∀ t, a ≤ t → t < flR P c a → P t = false) ∧ (flR P c a < a + c → P (flR P c a) = true)
  | 0, a => ⟨Nat.le_refl _, Nat.le_refl _, fun t h1 h2 => by have : t < a := h2; omega, fun h => by have : a < a + 0 := h; omega⟩
  | c + 1, a => by
    obtain ⟨h1, h2, h3, h4⟩ := flR_p (P := P) c (a + 1)
    have e : flR P (c + 1) a = if P a = true then a else flR P c (a + 1) := rfl
    by_cases hp : P a = true
    · rw [e, if_pos hp]
      exact ⟨Nat.le_refl _, by omega, fun t h1 h2 => by omega, fun _ => hp⟩
    · rw [e, if_neg hp]
      refine ⟨by omega, by omega, fun t h5 h6 => ?_, fun h5 => h4 (by first | omega | (dsimp only; omega))⟩
      by_cases ht : t = a
      · rw [ht]; simpa using hp
      · exact h3 t (by first | omega | (dsimp only; omega)) h6
/-- first likes tell as likeness does -/
theorem fl_same {bit : Nat → Bool} {al : Nat → Nat → Bool} (hs : ∀ a b c, al a b = true → al b c = true → al a c = true) (hy : ∀ a b, al a b = true → al b a = true) (o : Nat) : (∃ a, a < o ∧ bit a = true ∧ decide (flR (fun q => bit q && al q a) a 0 = flR (fun q => bit q && al q o) o 0) = true) ↔ ∃ a, a < o ∧ bit a = true ∧ al a o = true := by
  constructor
  · rintro ⟨a, ha, hb, he⟩
    have he := of_decide_eq_true he
    obtain ⟨p1, p2, p3, p4⟩ := flR_p (P := fun q => bit q && al q o) o 0
    obtain ⟨-, q2, -, -⟩ := flR_p (P := fun q => bit q && al q a) a 0
    have hlt : flR (fun q => bit q && al q o) o 0 < 0 + o := by omega
    have hz := p4 hlt
    rw [Bool.and_eq_true] at hz
    exact ⟨_, by omega, hz.1, hz.2⟩
  · rintro ⟨a, ha, hb, he⟩
    obtain ⟨p1, p2, p3, p4⟩ := flR_p (P := fun q => bit q && al q o) o 0
    have hle : flR (fun q => bit q && al q o) o 0 ≤ a := by
      apply Decidable.byContradiction
      intro hn
      have := p3 a (by first | omega | (dsimp only; omega)) (by first | omega | (dsimp only; omega))
      rw [hb, he] at this
      cases this
    have hz := p4 (by first | omega | (dsimp only; omega))
    generalize hr : flR (fun q => bit q && al q o) o 0 = r at p1 p2 p3 p4 hle hz
    rw [Bool.and_eq_true] at hz
    refine ⟨r, by omega, hz.1, decide_eq_true ?_⟩
    obtain ⟨q1, q2, q3, q4⟩ := flR_p (P := fun q => bit q && al q r) r 0
    by_cases hlt : flR (fun q => bit q && al q r) r 0 < 0 + r
    · have h5 := q4 hlt
      rw [Bool.and_eq_true] at h5
      have h6 := p3 _ (by first | omega | (dsimp only; omega)) (show flR (fun q => bit q && al q r) r 0 < r by omega)
      rw [h5.1, hs _ _ _ h5.2 hz.2] at h6
      cases h6
    · omega
section Unl
variable {N n d t : Nat} {K W F : Nat → Nat}
theorem cprepG_l {en M : Nat} {Y : Nat → Nat → Nat} {Z : Nat → Nat} (hN : 100000 ≤ N) (h0 : 0 < n) (ht40 : t ≤ 40) : ∀ c o mm, o + c = 6 → GC mm n d t en K W F Y Z → ∀ f, c < f → ∃ m', fX2_prepare_7 N f 55 3 (nI o) mm = some ((), m') ∧ Fr (fun k _ => k = 56 ∨ (62 + o ≤ k ∧ k ≤ 67)) mm m' ∧ ∀ q, o ≤ q → q < 6 → ∀ j, j < 6 → rd m' (62 + q) j = nI (if j < n then rlN W n t q (yN Y en) j else 0) := by
  intro c
  induction c with
  | zero =>
    intro o mm ho G f hf
    obtain ⟨f, rfl⟩ : ∃ g, f = g + 1 := ⟨f - 1, by omega⟩
    refine ⟨mm, ?_, Fr.rf, fun q h1 h2 => by omega⟩
    unfold fX2_prepare_7
    exact st_t (nI_le (by first | omega | (dsimp only; omega)) (by first | omega | (dsimp only; omega))) rfl
  | succ c ih =>
    intro o mm ho G f hf
    obtain ⟨f, rfl⟩ : ∃ g, f = g + 1 := ⟨f - 1, by omega⟩
    obtain ⟨C, hd, ht, T⟩ := id G
    obtain ⟨m1, c1, f1, g1⟩ := layBy_e (N := N) (o := o) hN h0 (by first | omega | (dsimp only; omega)) C ht ht40 T.2.1 T.1 (Nat.le_refl en) (T.yc (Nat.le_refl en))
    obtain ⟨m', c2, f2, g2⟩ := ih (o + 1) (cpy m1 56 (62 + o) 0 0 6) (by first | omega | (dsimp only; omega)) (G.c (fun k j e => by rw [rd_cpy, if_neg (by first | omega | (dsimp only; omega)), f1.2 _ _ (by first | omega | (dsimp only; omega))])) f (by first | omega | (dsimp only; omega))
    refine ⟨m', ?_, (f1.mono (fun k j e => Or.inl e)).tr ((fr_cpy (S := fun k _ => k = 56 ∨ (62 + o ≤ k ∧ k ≤ 67)) Fr.rf (fun j => by omega)).tr (f2.mono (fun k j e => by omega))), fun q h1 h2 j hj => ?_⟩
    · unfold fX2_prepare_7
      rw [T.2.1]
      simp only [LXg, nI_nat (show o < 2147483648 by omega)]
      rw [ln_6 (k := 62 + o) (Or.inr (Or.inl (by first | omega | (dsimp only; omega))))]
      refine st_f (nI_ge (by first | omega | (dsimp only; omega)) (by first | omega | (dsimp only; omega))) (st_b c1 (st_k rfl (show o < 6 by omega) (by first | omega | (dsimp only; omega)) (st_g (cpok_n (i := 0) (j := 0) (c := 6) (by first | omega | (dsimp only; omega)) (by first | omega | (dsimp only; omega)) (by first | omega | (dsimp only; omega)) (by first | omega | (dsimp only; omega))) (st_n ?_))))
      rw [nI_1]; exact c2
    · by_cases hq : q = o
      · subst hq
        rw [f2.2 _ _ (by first | omega | (dsimp only; omega)), rd_cpy, if_pos ⟨rfl, Nat.zero_le _, hj⟩]
        show rd m1 56 (0 + (j - 0)) = _
        rw [Nat.zero_add, Nat.sub_zero, g1 j hj]
      · exact g2 q (by first | omega | (dsimp only; omega)) h2 j hj
theorem cprepG_e {en M : Nat} {Y : Nat → Nat → Nat} {Z : Nat → Nat} {mm : Mm} (hN : 100000 ≤ N) (h0 : 0 < n) (ht40 : t ≤ 40) (G : GC mm n d t en K W F Y Z) : ∃ m', fX2_prepare N 55 3 (nI M) mm = some ((), m') ∧ Fr (fun k j => (k = 55 ∧ j = 5) ∨ k = 56 ∨ (62 ≤ k ∧ k ≤ 67)) mm m' ∧ rd m' 55 5 = nI M ∧ ∀ q, q < 6 → ∀ j, j < 6 → rd m' (62 + q) j = nI (if j < n then rlN W n t q (yN Y en) j else 0) := by
  obtain ⟨m', c1, f1, g1⟩ := cprepG_l (N := N) (M := M) hN h0 ht40 6 0 (wr mm 55 5 (nI M)) (by first | omega | (dsimp only; omega)) (G.c (fun k j e => rd_wr_k (by first | omega | (dsimp only; omega)))) N (by first | omega | (dsimp only; omega))
  refine ⟨m', st_n c1, (fr_wr (S := fun k j => (k = 55 ∧ j = 5) ∨ k = 56 ∨ (62 ≤ k ∧ k ≤ 67)) Fr.rf (Or.inl ⟨rfl, rfl⟩)).tr (f1.mono (fun k j e => by omega)), by rw [f1.2 _ _ (by first | omega | (dsimp only; omega)), rd_wr_s], fun q hq => g1 q (by first | omega | (dsimp only; omega)) hq⟩
theorem fl27_l {o a : Nat} {L : Nat → Nat → Nat} {k2 : Nat → Int32 → Int32 → Mm → Option (Int32 × Mm)} {mm : Mm} (ho : o < 6) (ha : a < 6) (hL : ∀ q, q < 6 → ∀ j, j < 6 → rd mm (62 + q) j = nI (L q j)) (hL4 : ∀ q j, L q j ≤ 40) : ∀ c j (b : Bool), j + c = 6 → ∀ f, c < f → fX2_firstLike_27 N k2 f 55 (nI o) (nI a) (bI b) (nI j) mm = if (b && alB (fun j => decide (L a j = L o j)) c j) = true then some (nI a, mm) else k2 55 (nI o) (nI (a + 1)) mm := by
  intro c
  induction c with
  | zero =>
    intro j b hj f hf
    obtain ⟨f, rfl⟩ : ∃ g, f = g + 1 := ⟨f - 1, by omega⟩
    unfold fX2_firstLike_27
    refine st_t (nI_le (by first | omega | (dsimp only; omega)) (by first | omega | (dsimp only; omega))) ?_
    rw [nI_1]
    cases b
    · exact st_t rfl rfl
    · exact st_f (by decide) rfl
  | succ c ih =>
    intro j b hj f hf
    obtain ⟨f, rfl⟩ : ∃ g, f = g + 1 := ⟨f - 1, by omega⟩
    unfold fX2_firstLike_27 fX2_firstLike_64 fX2_firstLike_63 fX2_firstLike_64
    refine st_f (nI_ge (by first | omega | (dsimp only; omega)) (by first | omega | (dsimp only; omega))) ?_
    rw [nI_1]
    have ih1 := fun b => ih (j + 1) b (by first | omega | (dsimp only; omega)) f (by first | omega | (dsimp only; omega))
    have e : alB (fun j => decide (L a j = L o j)) (c + 1) j = (decide (L a j = L o j) && alB (fun j => decide (L a j = L o j)) c (j + 1)) := rfl
    rw [e]
    cases b
    · refine st_t rfl ?_
      have := ih1 false
      rw [Bool.false_and] at this ⊢
      exact this
    · simp only [LXg, nI_nat (show a < 2147483648 by omega), nI_nat (show j < 2147483648 by omega), nI_nat (show o < 2147483648 by omega)]
      refine st_f (by decide) (st_k rfl ha (by first | omega | (dsimp only; omega)) (st_k (ln_6 (Or.inr (Or.inl (by first | omega | (dsimp only; omega))))) (show j < 6 by omega) (by first | omega | (dsimp only; omega)) (st_k rfl ho (by first | omega | (dsimp only; omega)) (st_k (ln_6 (Or.inr (Or.inl (by first | omega | (dsimp only; omega))))) (show j < 6 by omega) (by first | omega | (dsimp only; omega)) ?_))))
      rw [hL a ha j (by first | omega | (dsimp only; omega)), hL o ho j (by first | omega | (dsimp only; omega)), Bool.true_and]
      have h1 := hL4 a j
      have h2 := hL4 o j
      by_cases he : L a j = L o j
      · have := ih1 true
        rw [Bool.true_and] at this
        rw [decide_eq_true he, Bool.true_and]
        exact st_t (by rw [he]) this
      · have := ih1 false
        rw [Bool.false_and] at this
        rw [decide_eq_false he, Bool.false_and]
        exact st_f (nw_ne he (by first | omega | (dsimp only; omega)) (by first | omega | (dsimp only; omega))) this
theorem fl2_l {o M : Nat} {L : Nat → Nat → Nat} {mm : Mm} (hN : 100000 ≤ N) (hM : M < 64) (h5 : rd mm 55 5 = nI M) (ho : o < 6) (hL : ∀ q, q < 6 → ∀ j, j < 6 → rd mm (62 + q) j = nI (L q j)) (hL4 : ∀ q j, L q j ≤ 40) : ∀ c a, a + c = o → ∀ f, c < f → fX2_firstLike_2 N f 55 (nI o) (nI a) mm = some (nI (flR (fun a => bitN M a && alB (fun j => decide (L a j = L o j)) 6 0) c a), mm) := by
  intro c
  induction c with
  | zero =>
    intro a ha f hf
    obtain ⟨f, rfl⟩ : ∃ g, f = g + 1 := ⟨f - 1, by omega⟩
    obtain rfl : a = o := by omega
    unfold fX2_firstLike_2
    exact st_t (nI_le (by first | omega | (dsimp only; omega)) (by first | omega | (dsimp only; omega))) rfl
  | succ c ih =>
    intro a ha f hf
    obtain ⟨f, rfl⟩ : ∃ g, f = g + 1 := ⟨f - 1, by omega⟩
    have ih1 := ih (a + 1) (by first | omega | (dsimp only; omega)) f (by first | omega | (dsimp only; omega))
    have e : flR (fun a => bitN M a && alB (fun j => decide (L a j = L o j)) 6 0) (c + 1) a = if (bitN M a && alB (fun j => decide (L a j = L o j)) 6 0) = true then a else flR (fun a => bitN M a && alB (fun j => decide (L a j = L o j)) 6 0) c (a + 1) := rfl
    rw [e]
    have key : fX2_firstLike_23 N (fX2_firstLike_2 N f) 55 (nI o) (nI a) (bI (bitN M a)) mm = some (nI (if (bitN M a && alB (fun j => decide (L a j = L o j)) 6 0) = true then a else flR (fun a => bitN M a && alB (fun j => decide (L a j = L o j)) 6 0) c (a + 1)), mm) := by
      unfold fX2_firstLike_23
      have := fl27_l (N := N) (a := a) (k2 := fX2_firstLike_2 N f) ho (by first | omega | (dsimp only; omega)) hL hL4 6 0 (bitN M a) (by first | omega | (dsimp only; omega)) N (by first | omega | (dsimp only; omega))
      refine this.trans ?_
      by_cases hb : (bitN M a && alB (fun j => decide (L a j = L o j)) 6 0) = true
      · rw [if_pos hb, if_pos hb]
      · rw [if_neg hb, if_neg hb]; exact ih1
    unfold fX2_firstLike_2
    rw [h5]
    refine st_f (nI_ge (by first | omega | (dsimp only; omega)) (by first | omega | (dsimp only; omega))) ?_
    cases hb : bitN M a
    · rw [hb] at key
      exact st_t (bit_f hM (by first | omega | (dsimp only; omega)) hb) key
    · rw [hb] at key
      exact st_f (bit_t hM (by first | omega | (dsimp only; omega)) hb) key
theorem u30_l {o M A : Nat} {V : Nat → Nat} {k4 : Nat → Int32 → Int32 → Mm → Option (Int32 × Mm)} {mm : Mm} (hM : M < 64) (h5 : rd mm 55 5 = nI M) (ho : o < 6) (hV : ∀ a, a < 6 → bitN M a = true → rd mm 69 a = nI (V a) ∧ V a < 1000) : ∀ c a (b : Bool), a + c = o → (b = true → bitN M o = true) → ∀ f, c < f → fX2_unlikeOnes_30 N k4 f 55 (nI A) (nI o) (bI b) (nI a) mm = k4 55 (nI (A + if (b && alB (fun a => !(bitN M a && decide (V a = V o))) c a) = true then 1 else 0)) (nI (o + 1)) mm := by
  intro c
  induction c with
  | zero =>
    intro a b ha hbo f hf
    obtain ⟨f, rfl⟩ : ∃ g, f = g + 1 := ⟨f - 1, by omega⟩
    unfold fX2_unlikeOnes_30 fX2_unlikeOnes_87
    refine st_t (nI_le (by first | omega | (dsimp only; omega)) (by first | omega | (dsimp only; omega))) ?_
    rw [nI_1 o]
    cases b
    · exact st_t rfl rfl
    · exact st_f (by decide) (by rw [nI_1 A]; rfl)
  | succ c ih =>
    intro a b ha hbo f hf
    obtain ⟨f, rfl⟩ : ∃ g, f = g + 1 := ⟨f - 1, by omega⟩
    unfold fX2_unlikeOnes_30 fX2_unlikeOnes_72 fX2_unlikeOnes_68 fX2_unlikeOnes_73
    rw [nI_1 a]
    refine st_f (nI_ge (by first | omega | (dsimp only; omega)) (by first | omega | (dsimp only; omega))) ?_
    have e : alB (fun a => !(bitN M a && decide (V a = V o))) (c + 1) a = ((!(bitN M a && decide (V a = V o))) && alB (fun a => !(bitN M a && decide (V a = V o))) c (a + 1)) := rfl
    rw [e]
    cases b
    · refine st_t rfl ?_
      have := ih (a + 1) false (by first | omega | (dsimp only; omega)) (fun h => by cases h) f (by first | omega | (dsimp only; omega))
      rw [Bool.false_and] at this ⊢
      exact this
    · have i1 := ih (a + 1) true (by first | omega | (dsimp only; omega)) hbo f (by first | omega | (dsimp only; omega))
      have i0 := ih (a + 1) false (by first | omega | (dsimp only; omega)) (fun h => by cases h) f (by first | omega | (dsimp only; omega))
      rw [Bool.true_and] at i1 ⊢
      rw [Bool.false_and] at i0
      refine st_f (by decide) ?_
      rw [h5]
      cases hb : bitN M a
      · rw [Bool.false_and, Bool.not_false, Bool.true_and]
        exact st_t (bit_f hM (by first | omega | (dsimp only; omega)) hb) i1
      · simp only [LXg, nI_nat (show a < 2147483648 by omega), nI_nat (show o < 2147483648 by omega)]
        refine st_f (bit_t hM (by first | omega | (dsimp only; omega)) hb) (st_k rfl (show a < 6 by omega) (by first | omega | (dsimp only; omega)) (st_k rfl ho (by first | omega | (dsimp only; omega)) ?_))
        obtain ⟨v1, v2⟩ := hV a (by first | omega | (dsimp only; omega)) hb
        obtain ⟨v3, v4⟩ := hV o ho (hbo rfl)
        rw [v1, v3, Bool.true_and]
        by_cases he : V a = V o
        · rw [decide_eq_true he, Bool.not_true, Bool.false_and]
          exact st_t (by rw [he]) i0
        · rw [decide_eq_false he, Bool.not_false, Bool.true_and]
          exact st_f (nw_ne he (by first | omega | (dsimp only; omega)) (by first | omega | (dsimp only; omega))) i1
theorem uOnes_e {M : Nat} {V : Nat → Nat} {mm : Mm} (hN : 100000 ≤ N) (hM : M < 64) (h5 : rd mm 55 5 = nI M) (hV : ∀ a, a < 6 → bitN M a = true → rd mm 69 a = nI (V a) ∧ V a < 1000) : fX2_unlikeOnes N 55 mm = some (nI (uNk (bitN M) (fun a o => decide (V a = V o)) 6), mm) := by
  have key : ∀ c o, o + c = 6 → ∀ f, c < f → fX2_unlikeOnes_4 N f 55 (nI (uNk (bitN M) (fun a o => decide (V a = V o)) o)) (nI o) mm = some (nI (uNk (bitN M) (fun a o => decide (V a = V o)) 6), mm) := by
    intro c
    induction c with
    | zero =>
      intro o ho f hf
      obtain ⟨f, rfl⟩ : ∃ g, f = g + 1 := ⟨f - 1, by omega⟩
      obtain rfl : o = 6 := by omega
      unfold fX2_unlikeOnes_4
      exact st_t (nI_le (by first | omega | (dsimp only; omega)) (by first | omega | (dsimp only; omega))) rfl
    | succ c ih =>
      intro o ho f hf
      obtain ⟨f, rfl⟩ : ∃ g, f = g + 1 := ⟨f - 1, by omega⟩
      have ih1 := ih (o + 1) (by first | omega | (dsimp only; omega)) f (by first | omega | (dsimp only; omega))
      rw [uNk_S] at ih1
      have go : fX2_unlikeOnes_26 N (fX2_unlikeOnes_4 N f) 55 (nI (uNk (bitN M) (fun a o => decide (V a = V o)) o)) (nI o) (bI (bitN M o)) mm = some (nI (uNk (bitN M) (fun a o => decide (V a = V o)) 6), mm) :=
        (u30_l (N := N) (k4 := fX2_unlikeOnes_4 N f) hM h5 (by first | omega | (dsimp only; omega)) hV o 0 (bitN M o) (by first | omega | (dsimp only; omega)) (fun h => h) N (by first | omega | (dsimp only; omega))).trans ih1
      unfold fX2_unlikeOnes_4
      rw [h5]
      refine st_f (nI_ge (by first | omega | (dsimp only; omega)) (by first | omega | (dsimp only; omega))) ?_
      cases hb : bitN M o
      · rw [hb] at go
        exact st_t (bit_f hM (by first | omega | (dsimp only; omega)) hb) go
      · rw [hb] at go
        exact st_f (bit_t hM (by first | omega | (dsimp only; omega)) hb) go
  exact key 6 0 (by first | omega | (dsimp only; omega)) N (by first | omega | (dsimp only; omega))
theorem uLay_l {M : Nat} {L : Nat → Nat → Nat} (hN : 100000 ≤ N) (hM : M < 64) (hL4 : ∀ q j, L q j ≤ 40) : ∀ c o mm, o + c = 6 → rd mm 55 5 = nI M → (∀ q, q < 6 → ∀ j, j < 6 → rd mm (62 + q) j = nI (L q j)) → (∀ q, q < o → rd mm 69 q = nI (flR (fun a => bitN M a && alB (fun j => decide (L a j = L q j)) 6 0) q 0)) → ∀ f, c < f → ∃ m', fX2_unlikeLayings_8 N f 55 (nI o) mm = some (nI (uNk (bitN M) (fun a o => alB (fun j => decide (L a j = L o j)) 6 0) 6), m') ∧ Fr (fun k _ => k = 69) mm m' := by
  intro c
  induction c with
  | zero =>
    intro o mm ho h5 hL hV f hf
    obtain ⟨f, rfl⟩ : ∃ g, f = g + 1 := ⟨f - 1, by omega⟩
    obtain rfl : o = 6 := by omega
    refine ⟨mm, ?_, Fr.rf⟩
    unfold fX2_unlikeLayings_8
    refine st_t (nI_le (by first | omega | (dsimp only; omega)) (by first | omega | (dsimp only; omega))) (st_b (uOnes_e (V := fun q => flR (fun a => bitN M a && alB (fun j => decide (L a j = L q j)) 6 0) q 0) hN hM h5 (fun a ha _ => ⟨hV a ha, ?_⟩)) ?_)
    · have := (flR_p (P := fun q => bitN M q && alB (fun j => decide (L q j = L a j)) 6 0) a 0).2.1
      omega
    · rw [uNk_c 6 (fun o _ _ => fl_same (bit := bitN M) (al := fun a o => alB (fun j => decide (L a j = L o j)) 6 0) (fun a b c h1 h2 => ?_) (fun a b h1 => ?_) o)]
      · rw [alB_t] at h1 h2 ⊢
        intro j j1 j2
        have e1 := of_decide_eq_true (h1 j j1 j2)
        have e2 := of_decide_eq_true (h2 j j1 j2)
        exact decide_eq_true (e1.trans e2)
      · rw [alB_t] at h1 ⊢
        intro j j1 j2
        exact decide_eq_true (of_decide_eq_true (h1 j j1 j2)).symm
  | succ c ih =>
    intro o mm ho h5 hL hV f hf
    obtain ⟨f, rfl⟩ : ∃ g, f = g + 1 := ⟨f - 1, by omega⟩
    obtain ⟨m', c1, f1⟩ := ih (o + 1) (wr mm 69 o (nI (flR (fun a => bitN M a && alB (fun j => decide (L a j = L o j)) 6 0) o 0))) (by first | omega | (dsimp only; omega)) (by rw [rd_wr_k (by first | omega | (dsimp only; omega))]; exact h5) (fun q hq j hj => by rw [rd_wr_k (by first | omega | (dsimp only; omega))]; exact hL q hq j hj) (fun q hq => by
      by_cases hqo : q = o
      · subst hqo; rw [rd_wr_s]
      · rw [rd_wr_j hqo]; exact hV q (by first | omega | (dsimp only; omega))) f (by first | omega | (dsimp only; omega))
    refine ⟨m', ?_, (fr_wr (S := fun k _ => k = 69) Fr.rf rfl).tr f1⟩
    have hfl : fX2_firstLike N 55 (nI o) mm = some (nI (flR (fun a => bitN M a && alB (fun j => decide (L a j = L o j)) 6 0) o 0), mm) := fl2_l hN hM h5 (by first | omega | (dsimp only; omega)) hL hL4 o 0 (by first | omega | (dsimp only; omega)) N (by first | omega | (dsimp only; omega))
    unfold fX2_unlikeLayings_8
    simp only [LXg, nI_nat (show o < 2147483648 by omega)]
    refine st_f (nI_ge (by first | omega | (dsimp only; omega)) (by first | omega | (dsimp only; omega))) (st_b hfl (st_k rfl (show o < 6 by omega) (by first | omega | (dsimp only; omega)) (st_n ?_)))
    rw [nI_1]; exact c1
end Unl

/-! picked out of 91.tell -/
theorem SC_g {o : Nat} (h : o < 6) : SC (70 + 4 * o) := by
  rcases (by omega : o = 0 ∨ o = 1 ∨ o = 2 ∨ o = 3 ∨ o = 4 ∨ o = 5) with rfl | rfl | rfl | rfl | rfl | rfl <;> exact ⟨rfl, rfl, rfl, rfl, rfl, rfl, by decide, by decide⟩
/-- how many sets of suits the rules left would win against a laying -/
def vsN (K F : Nat → Nat) (n d : Nat) (R : Nat → Nat → Nat) (l : Nat → Nat) (o : Nat) : Nat := wsN (wn K F d l (R o)) n
def suN (K F : Nat → Nat) (n d M : Nat) (R : Nat → Nat → Nat) (l : Nat → Nat) : Nat := uNk (bitN M) (fun a o => decide (vsN K F n d R l a = vsN K F n d R l o)) 6
theorem suN_6 {K F : Nat → Nat} {n d M : Nat} {R : Nat → Nat → Nat} {l : Nat → Nat} : suN K F n d M R l ≤ 6 := uNk_le 6
section Te
variable {N n d M : Nat} {K W F : Nat → Nat} {R : Nat → Nat → Nat}
/-- what the class' tell stands on -/
def TQ (mm : Mm) (n d M : Nat) (K W F : Nat → Nat) (R : Nat → Nat → Nat) : Prop := CS mm n K W F ∧ rd mm 3 6 = nI d ∧ rd mm 55 5 = nI M ∧ ∀ q, q < 6 → HA mm (62 + q) n (R q)
theorem TQ.c {mm m2 : Mm} (h : TQ mm n d M K W F R) (e : ∀ k j, k ≤ 22 ∨ (k = 55 ∧ j = 5) ∨ (62 ≤ k ∧ k ≤ 67) → rd m2 k j = rd mm k j) : TQ m2 n d M K W F R :=
  ⟨CS_c h.1 (fun k j q => e _ _ (by first | omega | (dsimp only; omega))), by rw [e _ _ (by first | omega | (dsimp only; omega))]; exact h.2.1, by rw [e _ _ (by first | omega | (dsimp only; omega))]; exact h.2.2.1, fun q hq => (h.2.2.2 q hq).c (fun j _ => e _ _ (by first | omega | (dsimp only; omega)))⟩
def SWa (mm : Mm) (d M : Nat) (K W F : Nat → Nat) (R : Nat → Nat → Nat) (l : Nat → Nat) (i : Nat) : Prop := (∀ o, o < 6 → bitN M o = true → SW mm (70 + 4 * o) K W F d l (R o) i) ∧ ∀ o, o < 6 → rd mm (73 + 4 * o) 0 = 0
theorem SWa.c {mm m2 : Mm} {l : Nat → Nat} {i : Nat} (h : SWa mm d M K W F R l i) (e : ∀ k j, 70 ≤ k ∧ k ≤ 93 → rd m2 k j = rd mm k j) : SWa m2 d M K W F R l i :=
  ⟨fun o ho hb => (h.1 o ho hb).c (fun k j q => e _ _ (by first | omega | (dsimp only; omega))), fun o ho => by rw [e _ _ (by first | omega | (dsimp only; omega))]; exact h.2 o ho⟩
theorem uSet_l {i : Nat} {l : Nat → Nat} (hN : 100000 ≤ N) (hd9 : d ≤ 9) (hM : M < 64) (hi : i ≤ n) (hl : ∀ j, j < n → l j ≤ 1000) (hR : ∀ q, q < 6 → ∀ j, j < n → R q j ≤ 1000) : ∀ c o mm, o + c = 6 → TQ mm n d M K W F R → HA mm 34 n l → (∀ q, q < o → bitN M q = true → SW mm (70 + 4 * q) K W F d l (R q) n ∧ rd mm 69 q = nI (vsN K F n d R l q)) → (∀ q, o ≤ q → q < 6 → bitN M q = true → SW mm (70 + 4 * q) K W F d l (R q) i) → (∀ q, q < 6 → rd mm (73 + 4 * q) 0 = 0) → ∀ f, c < f → ∃ m', fX2_unlikeSets_3 N f 55 3 34 (nI i) (nI o) mm = some (nI (suN K F n d M R l), m') ∧ Fr (fun k _ => k = 69 ∨ (70 ≤ k ∧ k ≤ 93)) mm m' ∧ SWa m' d M K W F R l n := by
  intro c
  induction c with
  | zero =>
    intro o mm ho Q H hd1 hd2 hz f hf
    obtain ⟨f, rfl⟩ : ∃ g, f = g + 1 := ⟨f - 1, by omega⟩
    obtain rfl : o = 6 := by omega
    have hn := Q.1.2.1
    have hp := pw_n n (by first | omega | (dsimp only; omega))
    refine ⟨mm, ?_, Fr.rf, fun q hq hb => (hd1 q hq hb).1, hz⟩
    unfold fX2_unlikeSets_3
    refine st_t (nI_le (by first | omega | (dsimp only; omega)) (by first | omega | (dsimp only; omega))) (st_b (uOnes_e (V := vsN K F n d R l) hN hM Q.2.2.1 (fun a ha hb => ⟨(hd1 a ha hb).2, ?_⟩)) rfl)
    have : vsN K F n d R l a < 2 ^ n := mkN_lt n
    omega
  | succ c ih =>
    intro o mm ho Q H hd1 hd2 hz f hf
    obtain ⟨f, rfl⟩ : ∃ g, f = g + 1 := ⟨f - 1, by omega⟩
    have hn := Q.1.2.1
    have ho6 : o < 6 := by omega
    unfold fX2_unlikeSets_3 fX2_unlikeSets_63
    rw [Q.2.2.1, nI_1 o]
    cases hb : bitN M o
    · obtain ⟨m', c1, f1, g1⟩ := ih (o + 1) mm (by first | omega | (dsimp only; omega)) Q H (fun q hq hbq => by
        by_cases hqo : q = o
        · subst hqo; rw [hb] at hbq; cases hbq
        · exact hd1 q (by first | omega | (dsimp only; omega)) hbq) (fun q h1 h2 hbq => hd2 q (by first | omega | (dsimp only; omega)) h2 hbq) hz f (by first | omega | (dsimp only; omega))
      exact ⟨m', st_f (nI_ge (by first | omega | (dsimp only; omega)) (by first | omega | (dsimp only; omega))) (st_t (bit_f hM ho6 hb) c1), f1, g1⟩
    · obtain ⟨m1, c1, f1, w1, -, -⟩ := weigh_e (N := N) (S := 70 + 4 * o) (p := 34) (q := 62 + o) (L := 6) (M := 6) (d := d) (x := l) (y := R o) (i := i) (mm := mm) hN (SC_g ho6) hd9 rfl (ln_6 (Or.inr (Or.inl (by first | omega | (dsimp only; omega))))) ⟨Nat.le_refl _, by decide⟩ ⟨Nat.le_refl _, by decide⟩ (Or.inl (by first | omega | (dsimp only; omega))) (Or.inl (by first | omega | (dsimp only; omega))) hl (hR o ho6) hi Q.1 Q.2.1 H (Q.2.2.2 o ho6) (hd2 o (Nat.le_refl _) ho6 hb)
      have hwon := wonOf_e (N := N) (S := 70 + 4 * o) (mm := m1) (w := wn K F d l (R o)) hN (SC_g ho6) hn (fun j _ => wn_2) (fun j hj => w1.1 j hj)
      have F1 : Fr (fun k j => (k = 69 ∧ j = o) ∨ (70 + 4 * o ≤ k ∧ k ≤ 73 + 4 * o)) mm (wr m1 69 o (nI (vsN K F n d R l o))) := fr_wr (f1.mono (fun k j e => by omega)) (Or.inl ⟨rfl, rfl⟩)
      have hSo : SW (wr m1 69 o (nI (vsN K F n d R l o))) (70 + 4 * o) K W F d l (R o) n := w1.c (fun k j e => rd_wr_k (by first | omega | (dsimp only; omega)))
      obtain ⟨m', c2, f2, g2⟩ := ih (o + 1) (wr m1 69 o (nI (vsN K F n d R l o))) (by first | omega | (dsimp only; omega)) (Q.c (fun k j e => F1.2 _ _ (by first | omega | (dsimp only; omega)))) (H.c (fun j _ => F1.2 _ _ (by first | omega | (dsimp only; omega)))) (fun q hq hbq => by
        by_cases hqo : q = o
        · subst hqo; exact ⟨hSo, rd_wr_s⟩
        · obtain ⟨z1, z2⟩ := hd1 q (by first | omega | (dsimp only; omega)) hbq
          exact ⟨z1.c (fun k j e => F1.2 _ _ (by first | omega | (dsimp only; omega))), by rw [F1.2 _ _ (by first | omega | (dsimp only; omega))]; exact z2⟩) (fun q h1 h2 hbq => (hd2 q (by first | omega | (dsimp only; omega)) h2 hbq).c (fun k j e => F1.2 _ _ (by first | omega | (dsimp only; omega)))) (fun q hq => by
        by_cases hqo : q = o
        · subst hqo
          have := hSo.2 0 (by first | omega | (dsimp only; omega))
          rw [show 73 + 4 * q = 70 + 4 * q + 3 by omega, this]; rfl
        · rw [F1.2 _ _ (by first | omega | (dsimp only; omega))]; exact hz q hq) f (by first | omega | (dsimp only; omega))
      refine ⟨m', st_f (nI_ge (by first | omega | (dsimp only; omega)) (by first | omega | (dsimp only; omega))) (st_f (bit_t hM ho6 hb) ?_), (F1.mono (fun k j e => by omega)).tr f2, g2⟩
      simp only [LXg, nI_nat (show o < 2147483648 by omega)]
      refine st_k rfl ho6 (by first | omega | (dsimp only; omega)) (st_k rfl ho6 (by first | omega | (dsimp only; omega)) (st_b c1 (st_k rfl ho6 (by first | omega | (dsimp only; omega)) ?_)))
      rw [f1.2 3 5 (by first | omega | (dsimp only; omega)), Q.1.1]
      refine st_b hwon (st_k rfl ho6 (by first | omega | (dsimp only; omega)) (st_n ?_))
      exact c2
theorem uSet_e {i : Nat} {l : Nat → Nat} {mm : Mm} (hN : 100000 ≤ N) (hd9 : d ≤ 9) (hM : M < 64) (hi : i ≤ n) (hl : ∀ j, j < n → l j ≤ 1000) (hR : ∀ q, q < 6 → ∀ j, j < n → R q j ≤ 1000) (Q : TQ mm n d M K W F R) (H : HA mm 34 n l) (S : SWa mm d M K W F R l i) : ∃ m', fX2_unlikeSets N 55 3 34 (nI i) mm = some (nI (suN K F n d M R l), m') ∧ Fr (fun k _ => k = 69 ∨ (70 ≤ k ∧ k ≤ 93)) mm m' ∧ SWa m' d M K W F R l n :=
  uSet_l hN hd9 hM hi hl hR 6 0 mm (by first | omega | (dsimp only; omega)) Q H (fun q hq => by omega) (fun q _ hq hb => S.1 q hq hb) S.2 N (by first | omega | (dsimp only; omega))
theorem ctell_l {S q : Nat} (hN : 100000 ≤ N) (hd9 : d ≤ 9) (hM : M < 64) (hS : S ≤ 40) (hq : q < 6) (hR : ∀ q, q < 6 → ∀ j, j < n → R q j ≤ 1000) : ∀ m l i c st mm f, rkN n S l ≤ m → smN l n ≤ S → i ≤ n → c + m + 2 < 1000000 → m + 1 < f → TQ mm n d M K W F R → SWa mm d M K W F R l i → HA mm 34 n l → rd mm 33 1 = nI n → rd mm 33 2 = nI (S - smN l n) → (∀ p, st = some p → rd mm (95 + 2 * q) 1 = nI n ∧ HA mm (96 + 2 * q) n p.2 ∧ p.1 ≤ 108) → ∃ m', fX11_tell_92 N f 0 (95 + 2 * q) (grI st) (nI i) (nI c) mm = some (grI ((enm n S m l).foldl (sfF (suN K F n d M R)) st), m') ∧ Fr (fun k j => k = 33 ∨ k = 34 ∨ (69 ≤ k ∧ k ≤ 93) ∨ (k = 95 + 2 * q ∧ j = 1) ∨ k = 96 + 2 * q) mm m' ∧ (∀ o, o < 6 → rd m' (73 + 4 * o) 0 = 0) ∧ ∀ p, (enm n S m l).foldl (sfF (suN K F n d M R)) st = some p → rd m' (95 + 2 * q) 1 = nI n ∧ HA m' (96 + 2 * q) n p.2 ∧ p.1 ≤ 108 := by
  have one : ∀ l i c st mm f, smN l n ≤ S → i ≤ n → c < 1000000 → TQ mm n d M K W F R → SWa mm d M K W F R l i → HA mm 34 n l → rd mm 33 1 = nI n → rd mm 33 2 = nI (S - smN l n) → (∀ p, st = some p → rd mm (95 + 2 * q) 1 = nI n ∧ HA mm (96 + 2 * q) n p.2 ∧ p.1 ≤ 108) → ∃ m1 m2, Fr (fun k j => (69 ≤ k ∧ k ≤ 93) ∨ (k = 95 + 2 * q ∧ j = 1) ∨ k = 96 + 2 * q) mm m1 ∧ Fr (fun k j => (k = 33 ∧ j = 2) ∨ k = 34) m1 m2 ∧ SWa m2 d M K W F R l n ∧ (∀ p, sfF (suN K F n d M R) st l = some p → rd m2 (95 + 2 * q) 1 = nI n ∧ HA m2 (96 + 2 * q) n p.2 ∧ p.1 ≤ 108) ∧ ((nxR n l (S - smN l n) = none ∧ fX3_next N 33 m1 = some (-9, m2)) ∨ ∃ p, nxR n l (S - smN l n) = some p ∧ fX3_next N 33 m1 = some (nI p.1, m2) ∧ HA m2 34 n p.2 ∧ rd m2 33 2 = nI (S - smN p.2 n)) ∧ ∀ r x1, fX3_next N 33 m1 = some (x1, m2) → fX11_tell_92 N f 0 (95 + 2 * q) (grI (sfF (suN K F n d M R) st l)) x1 (nI (c + 1)) m2 = r → fX11_tell_92 N (f + 1) 0 (95 + 2 * q) (grI st) (nI i) (nI c) mm = r := by
    intro l i c st mm f hsl hi hc Q HS hL h1 h2 hst
    have hn := Q.1.2.1
    have hl40 : ∀ i, i < n → l i ≤ 1000 := fun i hi => by have := smN_at (l := l) hi; omega
    have s1 : suN K F n d M R l ≤ 6 := suN_6
    obtain ⟨ma, a1, a2, a3⟩ := uSet_e (N := N) hN hd9 hM hi hl40 hR Q hL HS
    have nxt : ∀ m1, Fr (fun k j => (69 ≤ k ∧ k ≤ 93) ∨ (k = 95 + 2 * q ∧ j = 1) ∨ k = 96 + 2 * q) mm m1 → ∃ m2, Fr (fun k j => (k = 33 ∧ j = 2) ∨ k = 34) m1 m2 ∧ ((nxR n l (S - smN l n) = none ∧ fX3_next N 33 m1 = some (-9, m2)) ∨ ∃ p, nxR n l (S - smN l n) = some p ∧ fX3_next N 33 m1 = some (nI p.1, m2) ∧ HA m2 34 n p.2 ∧ rd m2 33 2 = nI (S - smN p.2 n)) := by
      intro m1 f1
      exact cnext_e (N := N) (S := S) (l := l) (mm := m1) hN hn hS (hL.c (fun j hj => f1.2 _ _ (by first | omega | (dsimp only; omega)))) (by rw [f1.2 _ _ (by first | omega | (dsimp only; omega))]; exact h1) (by rw [f1.2 _ _ (by first | omega | (dsimp only; omega))]; exact h2) hsl
    have hf0 : Fr (fun k j => (69 ≤ k ∧ k ≤ 93) ∨ (k = 95 + 2 * q ∧ j = 1) ∨ k = 96 + 2 * q) mm ma := a2.mono (fun k j e => by omega)
    have go : ∀ r, (if nI (suN K F n d M R l) ≤ grI st then (bd2 (fX3_next N 33 ma) fun x1 m2 => fX11_tell_92 N f 0 (95 + 2 * q) (grI st) x1 (nI (c + 1)) m2) else (bd2 (fX6_take N (95 + 2 * q) 34 (nI n) ma) fun x10 m11 => bd2 (fX3_next N 33 m11) fun x1 m2 => fX11_tell_92 N f 0 (95 + 2 * q) (nI (suN K F n d M R l)) x1 (nI (c + 1)) m2)) = r → fX11_tell_92 N (f + 1) 0 (95 + 2 * q) (grI st) (nI i) (nI c) mm = r := by
      intro r hR
      unfold fX11_tell_92 fX11_tell_153
      simp only [LXa, LXb, nI_1]
      refine st_f (nI_pos (by first | omega | (dsimp only; omega))) (st_f (nI_ge (b := 1000000) (by first | omega | (dsimp only; omega)) (by first | omega | (dsimp only; omega))) (st_b a1 ?_))
      rw [a2.2 3 5 (by first | omega | (dsimp only; omega)), Q.1.1]
      exact hR
    have hkeep : nI (suN K F n d M R l) ≤ grI st → sfF (suN K F n d M R) st l = st := by
      intro hb
      cases st with
      | none =>
        have hb' : nI (suN K F n d M R l) ≤ (-1 : Int32) := hb
        rw [i_le, nI_toInt (by first | omega | (dsimp only; omega))] at hb'
        have : (-1 : Int32).toInt = -1 := rfl
        omega
      | some p =>
        have hp := (hst p rfl).2.2
        have hb' : nI (suN K F n d M R l) ≤ nI p.1 := hb
        rw [i_le, nI_toInt (by first | omega | (dsimp only; omega)), nI_toInt (by first | omega | (dsimp only; omega))] at hb'
        exact if_pos (by first | omega | (dsimp only; omega))
    have htake : ¬ nI (suN K F n d M R l) ≤ grI st → sfF (suN K F n d M R) st l = some (suN K F n d M R l, l) := by
      intro hb
      cases st with
      | none => rfl
      | some p =>
        have hp := (hst p rfl).2.2
        have hb' : ¬ nI (suN K F n d M R l) ≤ nI p.1 := hb
        rw [i_le, nI_toInt (by first | omega | (dsimp only; omega)), nI_toInt (by first | omega | (dsimp only; omega))] at hb'
        exact if_neg (by first | omega | (dsimp only; omega))
    by_cases hb : nI (suN K F n d M R l) ≤ grI st
    · obtain ⟨m2, n1, n2⟩ := nxt ma hf0
      rw [hkeep hb]
      refine ⟨ma, m2, hf0, n1, a3.c (fun k j e => n1.2 _ _ (by first | omega | (dsimp only; omega))), fun p hp => ?_, n2, fun r x1 hx hR => go r (st_t hb (st_b hx hR))⟩
      obtain ⟨g1, g2, g3⟩ := hst p hp
      exact ⟨by rw [n1.2 _ _ (by first | omega | (dsimp only; omega)), a2.2 _ _ (by first | omega | (dsimp only; omega))]; exact g1, g2.c (fun j hj => by rw [n1.2 _ _ (by first | omega | (dsimp only; omega)), a2.2 _ _ (by first | omega | (dsimp only; omega))]), g3⟩
    · have hsf := htake hb
      obtain ⟨mb, t1, t2, t3, t4⟩ := take_e (N := N) (p := 34) (v := l) hq rfl hn (by first | omega | (dsimp only; omega)) (HA.c hL (fun j hj => a2.2 _ _ (by first | omega | (dsimp only; omega))) : HA ma 34 n l)
      have hf1 : Fr (fun k j => (69 ≤ k ∧ k ≤ 93) ∨ (k = 95 + 2 * q ∧ j = 1) ∨ k = 96 + 2 * q) mm mb := hf0.tr (t2.mono (fun k j e => by omega))
      obtain ⟨m2, n1, n2⟩ := nxt mb hf1
      rw [hsf]
      refine ⟨mb, m2, hf1, n1, a3.c (fun k j e => by rw [n1.2 _ _ (by first | omega | (dsimp only; omega)), t2.2 _ _ (by first | omega | (dsimp only; omega))]), fun p hp => ?_, n2, fun r x1 hx hR => go r (st_f hb (st_b t1 (st_b hx hR)))⟩
      cases hp
      exact ⟨by rw [n1.2 _ _ (by first | omega | (dsimp only; omega))]; exact t3, t4.c (fun j hj => n1.2 _ _ (by first | omega | (dsimp only; omega))), by show suN K F n d M R l ≤ 108; omega⟩
  intro m
  induction m with
  | zero =>
    intro l i c st mm f hrk hsl hi hc hf Q HS hL h1 h2 hst
    obtain ⟨f, rfl⟩ : ∃ g, f = g + 1 := ⟨f - 1, by omega⟩
    obtain ⟨f, rfl⟩ : ∃ g, f = g + 1 := ⟨f - 1, by omega⟩
    obtain ⟨m1, m2, f1, f2, w2, g1, g2, g3⟩ := one l i c st mm (f + 1) hsl hi (by first | omega | (dsimp only; omega)) Q HS hL h1 h2 hst
    have hnx : fX3_next N 33 m1 = some (-9, m2) := by
      rcases g2 with ⟨-, q⟩ | ⟨p', q, -⟩
      · exact q
      · have := (nx_rk hsl q).2.2.2; omega
    refine ⟨m2, g3 _ _ hnx ?_, (f1.mono (fun k j e => by omega)).tr (f2.mono (fun k j e => by omega)), w2.2, g1⟩
    unfold fX11_tell_92
    exact st_t (by decide) rfl
  | succ m ih =>
    intro l i c st mm f hrk hsl hi hc hf Q HS hL h1 h2 hst
    obtain ⟨f, rfl⟩ : ∃ g, f = g + 1 := ⟨f - 1, by omega⟩
    obtain ⟨m1, m2, f1, f2, w2, g1, g2, g3⟩ := one l i c st mm f hsl hi (by first | omega | (dsimp only; omega)) Q HS hL h1 h2 hst
    have hf12 : Fr (fun k j => k = 33 ∨ k = 34 ∨ (69 ≤ k ∧ k ≤ 93) ∨ (k = 95 + 2 * q ∧ j = 1) ∨ k = 96 + 2 * q) mm m2 := (f1.mono (fun k j e => by omega)).tr (f2.mono (fun k j e => by omega))
    rcases g2 with ⟨b1, b2⟩ | ⟨p', b1, b2, b3, b4⟩
    · rw [enm_z b1]
      refine ⟨m2, g3 _ _ b2 ?_, hf12, w2.2, g1⟩
      obtain ⟨f, rfl⟩ : ∃ g, f = g + 1 := ⟨f - 1, by omega⟩
      unfold fX11_tell_92
      exact st_t (by decide) rfl
    · obtain ⟨o1, o2, o3, o4⟩ := nx_rk hsl b1
      rw [enm_u b1]
      have hn := Q.1.2.1
      have W2 : SWa m2 d M K W F R p'.2 p'.1 := ⟨fun o ho hb => SW_pre (w2.1 o ho hb) (fun j hj hk => (Q.1.2.2 j hj).2.2.2.2.2.2.1 hk) (by first | omega | (dsimp only; omega)) o2, w2.2⟩
      obtain ⟨m', r1, r2, r3⟩ := ih p'.2 p'.1 (c + 1) (sfF (suN K F n d M R) st l) m2 f (by first | omega | (dsimp only; omega)) o3 (by first | omega | (dsimp only; omega)) (by first | omega | (dsimp only; omega)) (by first | omega | (dsimp only; omega)) (Q.c (fun k j e => hf12.2 _ _ (by first | omega | (dsimp only; omega)))) W2 b3 (by rw [f2.2 _ _ (by first | omega | (dsimp only; omega)), f1.2 _ _ (by first | omega | (dsimp only; omega))]; exact h1) b4 g1
      exact ⟨m', g3 _ _ b2 r1, hf12.tr r2, r3⟩
end Te

/-! picked out of 94.reader -/
def fgN (g : Nat → Int32) (L p : Nat) : Option Nat := if p < L then (if 48 ≤ (g p).toInt ∧ (g p).toInt ≤ 57 then some ((g p).toInt - 48).toNat else none) else none
def kdN (x : Int32) : Option Nat := if x = 100 then some 3 else if x = 102 then some 2 else if x = 104 then some 5 else if x = 111 then some 1 else if x = 112 then some 4 else if x = 115 then some 0 else none
def sgN (g : Nat → Int32) (L p : Nat) (x : Int32) : Bool := decide (p < L ∧ g p = x)
/-- place behind, value, whether a stock -/
def nuN (g : Nat → Int32) (L p : Nat) : Nat × Nat × Bool := match fgN g L p with
  | none => (p, 0, false)
  | some a => match fgN g L (p + 1) with
    | none => (p + 1, a, decide (a ≤ 40))
    | some b => (p + 2, 10 * a + b, decide (10 * a + b ≤ 40))
/-- whether a suit, place behind (or of the fault), kind, worth, figure -/
def rsN (g : Nat → Int32) (L p k : Nat) : Bool × Nat × Nat × Nat × Nat := match kdN (g p) with
  | none => (false, p, 0, 0, 0)
  | some kd => if k < 6 then (match fgN g L (p + 1) with
    | none => (false, p + 1, 0, 0, 0)
    | some w => if w < 1 then (false, p + 1, 0, 0, 0) else if kd < 3 then (true, p + 2, kd, w, 0) else match fgN g L (p + 2) with
      | none => (false, p + 2, 0, 0, 0)
      | some f => if kd = 5 then (if f < k then (true, p + 3, kd, w, f) else (false, p + 2, 0, 0, 0)) else if f < 1 then (false, p + 2, 0, 0, 0) else (true, p + 3, kd, w, f)) else (false, p, 0, 0, 0)
def skN (g : Nat → Int32) (L : Nat) : Nat → Nat → Nat
  | 0, p => p
  | c + 1, p => if p < L ∧ g p = 32 then skN g L c (p + 1) else p
def skB (g : Nat → Int32) (L p : Nat) : Nat := skN g L (L - p) p
theorem skB_t {g : Nat → Int32} {L p : Nat} (h : p < L) (e : g p = 32) : skB g L p = skB g L (p + 1) := by
  unfold skB
  rw [show L - p = (L - (p + 1)) + 1 by omega]
  show (if p < L ∧ g p = 32 then skN g L (L - (p + 1)) (p + 1) else p) = _
  rw [if_pos ⟨h, e⟩]
theorem skB_f {g : Nat → Int32} {L p : Nat} (h : ¬ (p < L ∧ g p = 32)) : skB g L p = p := by
  unfold skB
  cases hc : L - p with
  | zero => rfl
  | succ c =>
    show (if p < L ∧ g p = 32 then skN g L c (p + 1) else p) = p
    rw [if_neg h]
theorem skN_le {g : Nat → Int32} {L : Nat} : ∀ c p, p + c ≤ L → skN g L c p ≤ L ∧ p ≤ skN g L c p
  | 0, p, h => ⟨h, Nat.le_refl _⟩
  | c + 1, p, h => by
    show (if p < L ∧ g p = 32 then skN g L c (p + 1) else p) ≤ L ∧ p ≤ (if p < L ∧ g p = 32 then skN g L c (p + 1) else p)
    have := skN_le (g := g) (L := L) c (p + 1) (by first | omega | (dsimp only; omega))
    split <;> omega
theorem skB_le {g : Nat → Int32} {L p : Nat} (h : p ≤ L) : skB g L p ≤ L ∧ p ≤ skB g L p := skN_le (L - p) p (by first | omega | (dsimp only; omega))
def prN (g : Nat → Int32) (L : Nat) : Nat → Nat → Nat → (Nat → Nat × Nat × Nat) → Option Nat × Nat × (Nat → Nat × Nat × Nat)
  | 0, p, k, T => (some p, k, T)
  | f + 1, p, k, T => if skB g L p < L then (if (rsN g L (skB g L p) k).1 = true then prN g L f (rsN g L (skB g L p) k).2.1 (k + 1) (fun j => if j = k then (rsN g L (skB g L p) k).2.2 else T j) else (some (rsN g L (skB g L p) k).2.1, k, T)) else (none, k, T)
theorem fgN_9 {g : Nat → Int32} {L p v : Nat} (h : fgN g L p = some v) : v ≤ 9 ∧ p < L ∧ (g p).toInt = 48 + v := by
  unfold fgN at h
  by_cases h1 : p < L
  · rw [if_pos h1] at h
    by_cases h2 : 48 ≤ (g p).toInt ∧ (g p).toInt ≤ 57
    · rw [if_pos h2] at h
      cases h
      omega
    · rw [if_neg h2] at h; cases h
  · rw [if_neg h1] at h; cases h
theorem fgN_n {g : Nat → Int32} {L p : Nat} (h : fgN g L p = none) : L ≤ p ∨ (g p).toInt < 48 ∨ 57 < (g p).toInt := by
  unfold fgN at h
  by_cases h1 : p < L
  · rw [if_pos h1] at h
    by_cases h2 : 48 ≤ (g p).toInt ∧ (g p).toInt ≤ 57
    · rw [if_pos h2] at h; cases h
    · omega
  · omega
theorem kdN_5 {x : Int32} {v : Nat} (h : kdN x = some v) : v ≤ 5 := by
  unfold kdN at h
  split at h
  · cases h; omega
  split at h
  · cases h; omega
  split at h
  · cases h; omega
  split at h
  · cases h; omega
  split at h
  · cases h; omega
  split at h
  · cases h; omega
  · cases h
section Rdc
variable {N z L : Nat} {g : Nat → Int32}
/-- a text of the class -/
def TXc (mm : Mm) (z L : Nat) (g : Nat → Int32) : Prop := L ≤ 80 ∧ rd mm z 1 = nI L ∧ fr z 0 = z + 1 ∧ ln (z + 1) = 80 ∧ 107 ≤ z ∧ z ≤ 113 ∧ ∀ i, i < L → rd mm (z + 1) i = g i
theorem TXc.c {mm m2 : Mm} (h : TXc mm z L g) (e : ∀ k j, 107 ≤ k ∧ k ≤ 114 → rd m2 k j = rd mm k j) : TXc m2 z L g := by
  obtain ⟨h1, h2, h3, h4, h5, h6, h7⟩ := h
  exact ⟨h1, by rw [e _ _ (by first | omega | (dsimp only; omega))]; exact h2, h3, h4, h5, h6, fun i hi => by rw [e _ _ (by first | omega | (dsimp only; omega))]; exact h7 i hi⟩
theorem sign_e {p : Nat} {mm : Mm} (X : TXc mm z L g) (h : rd mm 24 5 = nI p) (hp : p < 1000) : fX5_sign N 24 z mm = some (if p < L then g p else 1000, mm) := by
  obtain ⟨h1, h2, h3, h4, h5, h6, h7⟩ := X
  unfold fX5_sign
  rw [h, h3, h4]
  by_cases hpl : p < L
  · rw [if_pos hpl]
    refine st_b (has_t h2 (by first | omega | (dsimp only; omega)) hpl) (st_f (by decide) ?_)
    rw [h, nI_nat (by first | omega | (dsimp only; omega))]
    exact st_g (inb_n (by first | omega | (dsimp only; omega)) (by first | omega | (dsimp only; omega))) (by rw [h7 p hpl])
  · rw [if_neg hpl]
    exact st_b (has_f h2 (Or.inr ⟨p, by omega, by omega, rfl⟩)) (st_t rfl rfl)
theorem figure_e {p : Nat} {mm : Mm} (X : TXc mm z L g) (h : rd mm 24 5 = nI p) (hp : p < 1000) : fX5_figure N 24 z mm = some (oV (-9) (fgN g L p), mm) := by
  unfold fX5_figure
  refine st_b (sign_e X h hp) ?_
  have e48 : (48 : Int32).toInt = 48 := rfl
  have e57 : (57 : Int32).toInt = 57 := rfl
  by_cases hpl : p < L
  · rw [if_pos hpl]
    cases hf : fgN g L p with
    | none =>
      rcases fgN_n hf with q | q | q
      · omega
      · exact st_t (by rw [i_lt, e48]; exact q) rfl
      · by_cases h48 : g p < 48
        · exact st_t h48 rfl
        · exact st_f h48 (st_t (by rw [i_lt, e57]; exact q) rfl)
    | some v =>
      obtain ⟨q1, q2, q3⟩ := fgN_9 hf
      refine st_f (by rw [i_lt, e48]; omega) (st_f (by rw [i_lt, e57]; omega) ?_)
      have : g p - 48 = nI v := by
        rw [i_eq, i_sub _ _ (by rw [e48]; omega) (by rw [e48]; omega), e48, nI_toInt (by first | omega | (dsimp only; omega))]
        omega
      rw [this]; rfl
  · have : fgN g L p = none := by unfold fgN; exact if_neg hpl
    rw [if_neg hpl, this]
    exact st_f (by decide) (st_t (by decide) rfl)
theorem passes_e {p : Nat} {x : Int32} {mm : Mm} (hx : x ≠ 1000) (X : TXc mm z L g) (h : rd mm 24 5 = nI p) (hp : p < 1000) : fX5_passes N 24 z x mm = some (bI (sgN g L p x), if sgN g L p x = true then wr mm 24 5 (nI (p + 1)) else mm) := by
  unfold fX5_passes
  refine st_b (sign_e X h hp) ?_
  by_cases hs : p < L ∧ g p = x
  · have : sgN g L p x = true := decide_eq_true hs
    rw [if_pos hs.1, this, if_pos rfl]
    refine st_t hs.2 (st_n ?_)
    rw [h, nI_1]; rfl
  · have : sgN g L p x = false := decide_eq_false hs
    have e2 : (if sgN g L p x = true then wr mm 24 5 (nI (p + 1)) else mm) = mm := if_neg (by rw [this]; decide)
    rw [e2, this]
    by_cases hpl : p < L
    · rw [if_pos hpl]
      exact st_f (fun e => hs ⟨hpl, e⟩) rfl
    · rw [if_neg hpl]
      exact st_f (fun e => hx e.symm) rfl
theorem rstock_e {p a : Nat} {mm : Mm} (ha : a < 2) (X : TXc mm z L g) (h : rd mm 24 5 = nI p) (hp : p < 900) : ∃ m', fX5_passesStock N 24 z (nI a) mm = some (bI (nuN g L p).2.2, m') ∧ Fr (fun k j => (k = 24 ∧ j = 5) ∨ (k = 25 ∧ j = a)) mm m' ∧ rd m' 24 5 = nI (nuN g L p).1 ∧ ((nuN g L p).2.2 = true → rd m' 25 a = nI (nuN g L p).2.1) := by
  have fin : ∀ (q v : Nat) (m1 : Mm), Fr (fun k j => (k = 24 ∧ j = 5) ∨ (k = 25 ∧ j = a)) mm m1 → rd m1 24 5 = nI q → v < 1000 → ∃ m', fX5_passesStock_52 N 24 (nI a) (nI v) m1 = some (bI (decide (v ≤ 40)), m') ∧ Fr (fun k j => (k = 24 ∧ j = 5) ∨ (k = 25 ∧ j = a)) mm m' ∧ rd m' 24 5 = nI q ∧ (decide (v ≤ 40) = true → rd m' 25 a = nI v) := by
    intro q v m1 f1 h5 hv
    refine ⟨wr m1 25 a (nI v), ?_, fr_wr f1 (Or.inr ⟨rfl, rfl⟩), by rw [rd_wr_k (by first | omega | (dsimp only; omega))]; exact h5, fun _ => rd_wr_s⟩
    unfold fX5_passesStock_52
    simp only [LXb, nI_nat (show a < 2147483648 by omega)]
    refine st_k rfl ha (by first | omega | (dsimp only; omega)) (st_n ?_)
    by_cases h40 : v ≤ 40
    · rw [decide_eq_true h40]
      exact st_f (nI_nlt h40 (by first | omega | (dsimp only; omega))) rfl
    · rw [decide_eq_false h40]
      exact st_t (nI_lt (by first | omega | (dsimp only; omega)) (by first | omega | (dsimp only; omega))) rfl
  unfold fX5_passesStock
  cases hf : fgN g L p with
  | none =>
    have e : nuN g L p = (p, 0, false) := by unfold nuN; rw [hf]
    rw [e]
    refine ⟨mm, st_b (figure_e X h (by first | omega | (dsimp only; omega))) ?_, Fr.rf, h, fun q => by cases q⟩
    rw [hf]
    exact st_f (by decide) rfl
  | some v =>
    obtain ⟨v9, -, -⟩ := fgN_9 hf
    have X1 : TXc (wr mm 24 5 (nI (p + 1))) z L g := X.c (fun k j e => rd_wr_k (by first | omega | (dsimp only; omega)))
    have h1 : rd (wr mm 24 5 (nI (p + 1))) 24 5 = nI (p + 1) := rd_wr_s
    have F1 : Fr (fun k j => (k = 24 ∧ j = 5) ∨ (k = 25 ∧ j = a)) mm (wr mm 24 5 (nI (p + 1))) := fr_wr Fr.rf (Or.inl ⟨rfl, rfl⟩)
    cases hf2 : fgN g L (p + 1) with
    | none =>
      have e : nuN g L p = (p + 1, v, decide (v ≤ 40)) := by unfold nuN; rw [hf]; dsimp only; rw [hf2]
      rw [e]
      obtain ⟨m', c1, c2⟩ := fin (p + 1) v _ F1 h1 (by first | omega | (dsimp only; omega))
      refine ⟨m', st_b (figure_e X h (by first | omega | (dsimp only; omega))) ?_, c2⟩
      rw [hf]
      refine st_t (nI_pos' (by first | omega | (dsimp only; omega))) (st_n ?_)
      rw [h, nI_1]
      refine st_b (figure_e X1 h1 (by first | omega | (dsimp only; omega))) ?_
      rw [hf2]
      exact st_t (by decide) c1
    | some w =>
      obtain ⟨w9, -, -⟩ := fgN_9 hf2
      have e : nuN g L p = (p + 2, 10 * v + w, decide (10 * v + w ≤ 40)) := by unfold nuN; rw [hf]; dsimp only; rw [hf2]
      rw [e]
      obtain ⟨m', c1, c2⟩ := fin (p + 2) (10 * v + w) (wr (wr mm 24 5 (nI (p + 1))) 24 5 (nI (p + 2))) (fr_wr F1 (Or.inl ⟨rfl, rfl⟩)) rd_wr_s (by first | omega | (dsimp only; omega))
      refine ⟨m', st_b (figure_e X h (by first | omega | (dsimp only; omega))) ?_, c2⟩
      rw [hf]
      refine st_t (nI_pos' (by first | omega | (dsimp only; omega))) (st_n ?_)
      rw [h, nI_1]
      refine st_b (figure_e X1 h1 (by first | omega | (dsimp only; omega))) ?_
      rw [hf2]
      refine st_f (nI_pos (by first | omega | (dsimp only; omega))) (st_n ?_)
      rw [h1, nI_1]
      show fX5_passesStock_52 N 24 (nI a) (10 * nI v + nI w) _ = _
      rw [show (10 : Int32) = nI 10 from rfl, nI_mul, nI_add]
      exact c1
theorem cskip_e {mm : Mm} (hN : 100000 ≤ N) : ∀ c p mm, p + c = L → TXc mm z L g → rd mm 24 5 = nI p → ∀ f, c < f → ∃ m', fX5_skipBlanks_0 N f 24 z mm = some ((), m') ∧ Fr (fun k j => k = 24 ∧ j = 5) mm m' ∧ rd m' 24 5 = nI (skB g L p) := by
  intro c
  induction c with
  | zero =>
    intro p mm hp X h f hf
    obtain ⟨f, rfl⟩ : ∃ g, f = g + 1 := ⟨f - 1, by omega⟩
    have hL := X.1
    rw [skB_f (fun e => by omega)]
    refine ⟨mm, ?_, Fr.rf, h⟩
    unfold fX5_skipBlanks_0
    exact st_t (by rw [X.2.1, h]; exact nI_le (by first | omega | (dsimp only; omega)) (by first | omega | (dsimp only; omega))) rfl
  | succ c ih =>
    intro p mm hp X h f hf
    obtain ⟨f, rfl⟩ : ∃ g, f = g + 1 := ⟨f - 1, by omega⟩
    have hL := X.1
    have hpl : p < L := by omega
    unfold fX5_skipBlanks_0
    have hs := sign_e (N := N) X h (by first | omega | (dsimp only; omega))
    rw [if_pos hpl] at hs
    by_cases e : g p = 32
    · obtain ⟨m', c1, f1, g1⟩ := ih (p + 1) (wr mm 24 5 (nI (p + 1))) (by first | omega | (dsimp only; omega)) (X.c (fun k j e => rd_wr_k (by first | omega | (dsimp only; omega)))) rd_wr_s f (by first | omega | (dsimp only; omega))
      rw [skB_t hpl e]
      refine ⟨m', st_f (by rw [X.2.1, h]; exact nI_ge hpl (by first | omega | (dsimp only; omega))) (st_b hs (st_t e (st_n ?_))), (fr_wr (S := fun k j => k = 24 ∧ j = 5) Fr.rf ⟨rfl, rfl⟩).tr f1, g1⟩
      rw [h, nI_1]; exact c1
    · rw [skB_f (fun q => e q.2)]
      exact ⟨mm, st_f (by rw [X.2.1, h]; exact nI_ge hpl (by first | omega | (dsimp only; omega))) (st_b hs (st_f e rfl)), Fr.rf, h⟩
end Rdc
