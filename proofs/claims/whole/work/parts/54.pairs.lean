/-! pure: the model's checks of layings; both checks side by side -/
/-- the model's cells are the same -/
def MA (mm m1 : Mm) : Prop := ∀ k j, 175 ≤ k → rd m1 k j = rd mm k j
section Mask
variable {N n r : Nat} {mm : Mm} {K W F : Nat → Nat}
theorem asknum_l {a s : Nat} (hr : r < 6) (ha : a ≤ 1) (M : MS mm n K W F) (hst : rd mm 183 a = nI s) (hs40 : s ≤ 40) : ∀ c i, i + c = n → (∀ j, j < i → Wi (fun j => rd mm 178 (40 * r + j)) 40 j) → ∀ f, c < f → ((LayOK (fun j => rd mm 178 (40 * r + j)) n s) → fX12_askedNumbers_5 N f 175 (nI r) (nI a) (nI (smN (lO fun j => rd mm 178 (40 * r + j)) i)) (nI i) mm = some (0, mm)) ∧ (¬ (LayOK (fun j => rd mm 178 (40 * r + j)) n s) → fX12_askedNumbers_5 N f 175 (nI r) (nI a) (nI (smN (lO fun j => rd mm 178 (40 * r + j)) i)) (nI i) mm = some (-3, mMeet 3 mm)) := by
  have hn := M.2.1
  intro c
  induction c with
  | zero =>
    intro i hi hw f hf
    obtain ⟨f, rfl⟩ : ∃ g, f = g + 1 := ⟨f - 1, by omega⟩
    obtain rfl : i = n := by omega
    have hsm := smN_le (f := lO fun j => rd mm 178 (40 * r + j)) (b := 40) i (fun j hj => (Wi_n (hw j hj)).2)
    unfold fX12_askedNumbers_5
    simp only [LXm, nI_nat (show a < 2147483648 by omega), hst]
    refine ⟨fun q => ?_, fun q => ?_⟩
    · exact st_t (by rw [M.1]; exact nI_le (by first | omega | (dsimp only; omega)) (by first | omega | (dsimp only; omega))) (st_k rfl (by first | omega | (dsimp only; omega)) (by first | omega | (dsimp only; omega)) (st_t (nI_le q.2 (by first | omega | (dsimp only; omega))) rfl))
    · have hq : ¬ smN (lO fun j => rd mm 178 (40 * r + j)) i ≤ s := fun z => q ⟨hw, z⟩
      exact st_t (by rw [M.1]; exact nI_le (by first | omega | (dsimp only; omega)) (by first | omega | (dsimp only; omega))) (st_k rfl (by first | omega | (dsimp only; omega)) (by first | omega | (dsimp only; omega)) (st_f (nI_ge (by first | omega | (dsimp only; omega)) (by first | omega | (dsimp only; omega))) (st_b (m_meet 3 rfl (by first | omega | (dsimp only; omega))) rfl)))
  | succ c ih =>
    intro i hi hw f hf
    obtain ⟨f, rfl⟩ : ∃ g, f = g + 1 := ⟨f - 1, by omega⟩
    have h0 : (0 : Int32).toInt = 0 := rfl
    have h40 : (40 : Int32).toInt = 40 := rfl
    by_cases hwi : Wi (fun j => rd mm 178 (40 * r + j)) 40 i
    · obtain ⟨ih1, ih2⟩ := ih (i + 1) (by first | omega | (dsimp only; omega)) (fun j hj => by
        by_cases hj2 : j = i
        · rw [hj2]; exact hwi
        · exact hw j (by first | omega | (dsimp only; omega))) f (by first | omega | (dsimp only; omega))
      have hwi' : 0 ≤ (rd mm 178 (40 * r + i)).toInt ∧ (rd mm 178 (40 * r + i)).toInt ≤ 40 := hwi
      have e1 : rd mm 178 (40 * r + i) = nI (lO (fun j => rd mm 178 (40 * r + j)) i) := (Wi_n hwi).1
      have step : ∀ R, fX12_askedNumbers_5 N f 175 (nI r) (nI a) (nI (smN (lO fun j => rd mm 178 (40 * r + j)) (i + 1))) (nI (i + 1)) mm = R → fX12_askedNumbers_5 N (f + 1) 175 (nI r) (nI a) (nI (smN (lO fun j => rd mm 178 (40 * r + j)) i)) (nI i) mm = R := by
        intro R hR
        unfold fX12_askedNumbers_5
        refine st_f (by rw [M.1]; exact nI_ge (by first | omega | (dsimp only; omega)) (by first | omega | (dsimp only; omega))) (st_b (rowAt_t hr (by first | omega | (dsimp only; omega))) (st_b (in_t (by rw [i_lt, h0]; omega) (by rw [i_lt, h40]; omega)) (st_f (by decide) (st_b (rowAt_t hr (by first | omega | (dsimp only; omega))) ?_))))
        rw [e1, nI_add, nI_1]
        exact hR
      exact ⟨fun q => step _ (ih1 q), fun q => step _ (ih2 q)⟩
    · refine ⟨fun q => absurd (q.1 i (by first | omega | (dsimp only; omega))) hwi, fun _ => ?_⟩
      unfold fX12_askedNumbers_5
      refine st_f (by rw [M.1]; exact nI_ge (by first | omega | (dsimp only; omega)) (by first | omega | (dsimp only; omega))) (st_b (rowAt_t hr (by first | omega | (dsimp only; omega))) (st_b (in_f ?_) (st_t rfl (st_b (m_meet 3 rfl (by first | omega | (dsimp only; omega))) rfl))))
      rw [i_lt, i_lt, h0, h40]
      unfold Wi at hwi
      simp only at hwi
      omega
theorem asknum_t {a s : Nat} (hN : 100000 ≤ N) (hr : r < 6) (ha : a ≤ 1) (M : MS mm n K W F) (hst : rd mm 183 a = nI s) (hs40 : s ≤ 40) (h : LayOK (fun j => rd mm 178 (40 * r + j)) n s) : fX12_askedNumbers N 175 (nI r) (nI a) mm = some (0, mm) :=
  (asknum_l (N := N) hr ha M hst hs40 n 0 (by first | omega | (dsimp only; omega)) (fun j hj => by omega) N (by have := M.2.1; omega)).1 h
theorem asknum_f {a s : Nat} (hN : 100000 ≤ N) (hr : r < 6) (ha : a ≤ 1) (M : MS mm n K W F) (hst : rd mm 183 a = nI s) (hs40 : s ≤ 40) (h : ¬ LayOK (fun j => rd mm 178 (40 * r + j)) n s) : fX12_askedNumbers N 175 (nI r) (nI a) mm = some (-3, mMeet 3 mm) :=
  (asknum_l (N := N) hr ha M hst hs40 n 0 (by first | omega | (dsimp only; omega)) (fun j hj => by omega) N (by have := M.2.1; omega)).2 h
theorem MA.ms {m1 : Mm} (h : MA mm m1) (M : MS mm n K W F) : MS m1 n K W F := MS_c M (fun k j e => h k j (by first | omega | (dsimp only; omega)))
end Mask
/-- what a check of two rows comes to -/
theorem two_e {N n r q a b : Nat} {K W F : Nat → Nat} {mm : Mm} (hN : 100000 ≤ N) (h : Rel mm) (C : CS mm n K W F) (M : MS mm n K W F) (hr : r < 6) (hq : q < 6) (ha : a ≤ 1) (hb : b ≤ 1) {s t : Nat} (hs : rd mm 5 a = nI s) (hs' : rd mm 183 a = nI s) (hs40 : s ≤ 40) (ht : rd mm 5 b = nI t) (ht' : rd mm 183 b = nI t) (ht40 : t ≤ 40) :
    (∃ f, f < 6 ∧ fX11_isWrong_ N 0 (95 + 2 * r) (nI a) (95 + 2 * q) (nI b) mm = some (1, cRef f mm) ∧ ∀ m1, MA mm m1 → fX12_askedTwo N 175 (nI r) (nI a) (nI q) (nI b) m1 = some (-3, mMeet f m1)) ∨
    (fX11_isWrong_ N 0 (95 + 2 * r) (nI a) (95 + 2 * q) (nI b) mm = some (0, mm) ∧ rd mm (95 + 2 * r) 1 = nI n ∧ rd mm (95 + 2 * q) 1 = nI n ∧ rd mm 177 r = nI n ∧ rd mm 177 q = nI n ∧ LayOK (fun j => rd mm (96 + 2 * r) j) n s ∧ LayOK (fun j => rd mm (96 + 2 * q) j) n t ∧ (∀ i, i < n → rd mm (96 + 2 * r) i = rd mm 178 (40 * r + i)) ∧ (∀ i, i < n → rd mm (96 + 2 * q) i = rd mm 178 (40 * q + i)) ∧ ∀ m1, MA mm m1 → fX12_askedTwo N 175 (nI r) (nI a) (nI q) (nI b) m1 = some (0, m1)) := by
  have hn := C.2.1
  have hzr : RZ mm r := by
    rcases h.1 r hr with ⟨e, -⟩ | ⟨m, hm, e, -⟩
    · exact Or.inl e
    · exact Or.inr ⟨m, hm, e⟩
  have hzq : RZ mm q := by
    rcases h.1 q hq with ⟨e, -⟩ | ⟨m, hm, e, -⟩
    · exact Or.inl e
    · exact Or.inr ⟨m, hm, e⟩
  obtain ⟨i, z, v, i1, z1, v1, hi, hz, hv, hw⟩ := isW_e (N := N) hN hr hq ha hb C.1 hn hzr hzq hs hs40 ht ht40
  -- missing
  have h18 : ∀ m1, fX12_askedTwo_18 N 175 m1 = some (-3, mMeet 1 m1) := fun m1 => st_b (m_meet 1 rfl (by first | omega | (dsimp only; omega))) rfl
  have h50 : ∀ m1, fX12_askedTwo_50 N 175 m1 = some (-3, mMeet 5 m1) := fun m1 => st_b (m_meet 5 rfl (by first | omega | (dsimp only; omega))) rfl
  by_cases hi0 : i = 0
  · refine Or.inl ⟨1, by omega, ?_, fun m1 A => ?_⟩
    · rw [hw 1 (by rw [if_pos hi0])]; rfl
    · unfold fX12_askedTwo
      simp only [LXm, nI_nat (show r < 2147483648 by omega), nI_nat (show q < 2147483648 by omega)]
      rw [A 177 r (by first | omega | (dsimp only; omega)), A 177 q (by first | omega | (dsimp only; omega))]
      rcases h.1 r hr with ⟨e1, e2⟩ | ⟨m, hm, e1, e2, -⟩
      · rw [e2]; exact st_k rfl hr (by first | omega | (dsimp only; omega)) (st_t (by decide) (h18 _))
      · rw [e2]
        refine st_k rfl hr (by first | omega | (dsimp only; omega)) (st_f (nI_pos (by first | omega | (dsimp only; omega))) (st_k rfl hq (by first | omega | (dsimp only; omega)) ?_))
        rcases h.1 q hq with ⟨e3, e4⟩ | ⟨m2, hm2, e3, e4, -⟩
        · rw [e4]; exact st_f (by decide) (h18 _)
        · rcases hi.mp hi0 with e | e
          · rw [e1] at e; exact absurd e (neg1_ne (by first | omega | (dsimp only; omega)))
          · rw [e3] at e; exact absurd e (neg1_ne (by first | omega | (dsimp only; omega)))
  rcases h.1 r hr with ⟨e1, e2⟩ | ⟨m, hm, e1, e2, e3⟩
  · exact absurd (hi.mpr (Or.inl e1)) hi0
  rcases h.1 q hq with ⟨d1, d2⟩ | ⟨m2, hm2, d1, d2, d3⟩
  · exact absurd (hi.mpr (Or.inr d1)) hi0
  have hst : ∀ m1, MA mm m1 → ∀ R, (if nI m = nI n then (if nI m2 = nI n then (bd2 (fX12_askedNumbers N 175 (nI r) (nI a) m1) fun x15 m16 => if (0 : Int32) ≤ x15 then (bd2 (fX12_askedNumbers N 175 (nI q) (nI b) m16) fun x19 m20 => some (x19, m20)) else (some (x15, m16))) else some (-3, mMeet 5 m1)) else some (-3, mMeet 5 m1)) = R → fX12_askedTwo N 175 (nI r) (nI a) (nI q) (nI b) m1 = R := by
    intro m1 A R hR
    unfold fX12_askedTwo
    simp only [LXm, nI_nat (show r < 2147483648 by omega), nI_nat (show q < 2147483648 by omega), h50]
    rw [A 177 r (by first | omega | (dsimp only; omega)), A 177 q (by first | omega | (dsimp only; omega)), A 175 10 (by first | omega | (dsimp only; omega)), e2, d2, M.1]
    refine st_k rfl hr (by first | omega | (dsimp only; omega)) (st_f (nI_pos (by first | omega | (dsimp only; omega))) (st_k rfl hq (by first | omega | (dsimp only; omega)) (st_t (nI_pos' (by first | omega | (dsimp only; omega))) (st_k rfl hr (by first | omega | (dsimp only; omega)) ?_))))
    by_cases hmn : nI m = nI n
    · rw [if_pos hmn] at hR
      exact st_t hmn (st_k rfl hq (by first | omega | (dsimp only; omega)) hR)
    · rw [if_neg hmn] at hR
      exact st_f hmn hR
  by_cases hz0 : z = 0
  · refine Or.inl ⟨5, by omega, ?_, fun m1 A => hst m1 A _ ?_⟩
    · rw [hw 5 (by rw [if_neg hi0, if_pos hz0])]; rfl
    · by_cases hmn : nI m = nI n
      · rw [if_pos hmn, if_neg (fun e => by
          have := hz.mpr ⟨e1.trans hmn, d1.trans e⟩
          omega)]
      · rw [if_neg hmn]
  have hz1 : z = 1 := by omega
  obtain ⟨g1, g2⟩ := hz.mp hz1
  have hmn : m = n := nI_inj (e1.symm.trans g1) (by first | omega | (dsimp only; omega)) (by first | omega | (dsimp only; omega))
  have hmn2 : m2 = n := nI_inj (d1.symm.trans g2) (by first | omega | (dsimp only; omega)) (by first | omega | (dsimp only; omega))
  subst hmn
  subst hmn2
  have er : ∀ m1, MA mm m1 → ∀ i, i < m2 → (fun j => rd mm (96 + 2 * r) j) i = (fun j => rd m1 178 (40 * r + j)) i := fun m1 A i hi => by
    show rd mm (96 + 2 * r) i = rd m1 178 (40 * r + i)
    rw [A _ _ (by first | omega | (dsimp only; omega))]; exact (e3 i hi).1
  have eq : ∀ m1, MA mm m1 → ∀ i, i < m2 → (fun j => rd mm (96 + 2 * q) j) i = (fun j => rd m1 178 (40 * q + j)) i := fun m1 A i hi => by
    show rd mm (96 + 2 * q) i = rd m1 178 (40 * q + i)
    rw [A _ _ (by first | omega | (dsimp only; omega))]; exact (d3 i hi).1
  by_cases hv0 : v = 0
  · refine Or.inl ⟨3, by omega, ?_, fun m1 A => hst m1 A _ ?_⟩
    · rw [hw 3 (by rw [if_neg hi0, if_neg hz0, if_pos hv0])]; rfl
    · rw [if_pos rfl, if_pos rfl]
      have M1 := A.ms M
      by_cases hL : LayOK (fun j => rd mm (96 + 2 * r) j) m2 s
      · refine st_b (asknum_t hN hr ha M1 (by rw [A _ _ (by first | omega | (dsimp only; omega))]; exact hs') hs40 ((LayOK_c (er m1 A)).mp hL)) (st_t (by decide) (st_b (asknum_f hN hq hb M1 (by rw [A _ _ (by first | omega | (dsimp only; omega))]; exact ht') ht40 (fun hL2 => ?_)) rfl))
        have := (hv hz1).mpr ⟨hL, (LayOK_c (eq m1 A)).mpr hL2⟩
        omega
      · exact st_b (asknum_f hN hr ha M1 (by rw [A _ _ (by first | omega | (dsimp only; omega))]; exact hs') hs40 (fun hL2 => hL ((LayOK_c (er m1 A)).mpr hL2))) (st_f (by decide) rfl)
  · obtain ⟨L1, L2⟩ := (hv hz1).mp (by first | omega | (dsimp only; omega))
    refine Or.inr ⟨?_, g1, g2, e2, d2, L1, L2, fun i hi => (e3 i hi).1, fun i hi => (d3 i hi).1, fun m1 A => hst m1 A _ ?_⟩
    · rw [hw 0 (by rw [if_neg hi0, if_neg hz0, if_neg hv0])]; rfl
    · rw [if_pos rfl, if_pos rfl]
      have M1 := A.ms M
      exact st_b (asknum_t hN hr ha M1 (by rw [A _ _ (by first | omega | (dsimp only; omega))]; exact hs') hs40 ((LayOK_c (er m1 A)).mp L1)) (st_t (by decide) (st_b (asknum_t hN hq hb M1 (by rw [A _ _ (by first | omega | (dsimp only; omega))]; exact ht') ht40 ((LayOK_c (eq m1 A)).mp L2)) rfl))
/-- what a check of one row comes to -/
theorem one_e {N n r a : Nat} {K W F : Nat → Nat} {mm : Mm} (hN : 100000 ≤ N) (h : Rel mm) (C : CS mm n K W F) (M : MS mm n K W F) (hr : r < 6) (ha : a ≤ 1) {s : Nat} (hs : rd mm 5 a = nI s) (hs' : rd mm 183 a = nI s) (hs40 : s ≤ 40) :
    (∃ f, f < 6 ∧ fX11_isWrong N 0 (95 + 2 * r) (nI a) mm = some (1, cRef f mm) ∧ ∀ m1, MA mm m1 → fX12_askedLaying N 175 (nI r) (nI a) m1 = some (-3, mMeet f m1)) ∨
    (fX11_isWrong N 0 (95 + 2 * r) (nI a) mm = some (0, mm) ∧ rd mm (95 + 2 * r) 1 = nI n ∧ rd mm 177 r = nI n ∧ LayOK (fun j => rd mm (96 + 2 * r) j) n s ∧ (∀ i, i < n → rd mm (96 + 2 * r) i = rd mm 178 (40 * r + i)) ∧ ∀ m1, MA mm m1 → fX12_askedLaying N 175 (nI r) (nI a) m1 = some (0, m1)) := by
  have hn := C.2.1
  have hzr : RZ mm r := by
    rcases h.1 r hr with ⟨e, -⟩ | ⟨m, hm, e, -⟩
    · exact Or.inl e
    · exact Or.inr ⟨m, hm, e⟩
  obtain ⟨i, z, v, i1, z1, v1, hi, hz, hv, hw⟩ := isW_e (N := N) hN hr hr ha ha C.1 hn hzr hzr hs hs40 hs hs40
  have hw1 : ∀ f, f = (if i = 0 then 1 else if z = 0 then 5 else if v = 0 then 3 else 0) → fX11_isWrong N 0 (95 + 2 * r) (nI a) mm = if f = 0 then some (0, mm) else some (1, cRef f mm) := by
    intro f hf
    unfold fX11_isWrong
    rw [hw f hf]
    by_cases h : f = 0
    · simp only [if_pos h]; exact st_b rfl (st_g (by decide) rfl)
    · simp only [if_neg h]; exact st_b rfl (st_g (by decide) rfl)
  rcases h.1 r hr with ⟨e1, e2⟩ | ⟨m, hm, e1, e2, e3⟩
  · have hi0 := hi.mpr (Or.inl e1)
    refine Or.inl ⟨1, by omega, ?_, fun m1 A => ?_⟩
    · rw [hw1 1 (by rw [if_pos hi0])]; rfl
    · unfold fX12_askedLaying
      simp only [LXm, nI_nat (show r < 2147483648 by omega)]
      rw [A 177 r (by first | omega | (dsimp only; omega)), e2]
      exact st_k rfl hr (by first | omega | (dsimp only; omega)) (st_f (by decide) (st_b (m_meet 1 rfl (by first | omega | (dsimp only; omega))) rfl))
  have hi0 : ¬ i = 0 := fun w => by
    rcases hi.mp w with e | e <;> (rw [e1] at e; exact absurd e (neg1_ne (by first | omega | (dsimp only; omega))))
  have hst : ∀ m1, MA mm m1 → ∀ R, (if nI m = nI n then (bd2 (fX12_askedNumbers N 175 (nI r) (nI a) m1) fun x7 m8 => some (x7, m8)) else some (-3, mMeet 5 m1)) = R → fX12_askedLaying N 175 (nI r) (nI a) m1 = R := by
    intro m1 A R hR
    unfold fX12_askedLaying fX12_askedSize
    simp only [LXm, nI_nat (show r < 2147483648 by omega)]
    rw [A 177 r (by first | omega | (dsimp only; omega)), A 175 10 (by first | omega | (dsimp only; omega)), e2, M.1]
    refine st_k rfl hr (by first | omega | (dsimp only; omega)) (st_t (nI_pos' (by first | omega | (dsimp only; omega))) ?_)
    by_cases hmn : nI m = nI n
    · rw [if_pos hmn] at hR
      exact st_b (st_k rfl hr (by first | omega | (dsimp only; omega)) (st_t hmn rfl)) (st_t (by decide) hR)
    · rw [if_neg hmn] at hR
      exact st_b (st_k rfl hr (by first | omega | (dsimp only; omega)) (st_f hmn (st_b (m_meet 5 rfl (by first | omega | (dsimp only; omega))) rfl))) (st_f (by decide) hR)
  by_cases hz0 : z = 0
  · refine Or.inl ⟨5, by omega, ?_, fun m1 A => hst m1 A _ ?_⟩
    · rw [hw1 5 (by rw [if_neg hi0, if_pos hz0])]; rfl
    · rw [if_neg (fun e => by
        have := hz.mpr ⟨e1.trans e, e1.trans e⟩
        omega)]
  have hz1 : z = 1 := by omega
  obtain ⟨g1, -⟩ := hz.mp hz1
  have hmn : m = n := nI_inj (e1.symm.trans g1) (by first | omega | (dsimp only; omega)) (by first | omega | (dsimp only; omega))
  subst hmn
  have er : ∀ m1, MA mm m1 → ∀ i, i < m → (fun j => rd mm (96 + 2 * r) j) i = (fun j => rd m1 178 (40 * r + j)) i := fun m1 A i hi => by
    show rd mm (96 + 2 * r) i = rd m1 178 (40 * r + i)
    rw [A _ _ (by first | omega | (dsimp only; omega))]; exact (e3 i hi).1
  by_cases hv0 : v = 0
  · refine Or.inl ⟨3, by omega, ?_, fun m1 A => hst m1 A _ ?_⟩
    · rw [hw1 3 (by rw [if_neg hi0, if_neg hz0, if_pos hv0])]; rfl
    · rw [if_pos rfl]
      refine st_b (asknum_f hN hr ha (A.ms M) (by rw [A _ _ (by first | omega | (dsimp only; omega))]; exact hs') hs40 (fun hL2 => ?_)) rfl
      have hL := (LayOK_c (er m1 A)).mpr hL2
      have := (hv hz1).mpr ⟨hL, hL⟩
      omega
  · obtain ⟨L1, -⟩ := (hv hz1).mp (by first | omega | (dsimp only; omega))
    refine Or.inr ⟨?_, g1, e2, L1, fun i hi => (e3 i hi).1, fun m1 A => hst m1 A _ ?_⟩
    · rw [hw1 0 (by rw [if_neg hi0, if_neg hz0, if_neg hv0])]; rfl
    · rw [if_pos rfl]
      exact st_b (asknum_t hN hr ha (A.ms M) (by rw [A _ _ (by first | omega | (dsimp only; omega))]; exact hs') hs40 ((LayOK_c (er m1 A)).mp L1)) rfl
