/-! pure: safe -/
def sfF (su : (Nat → Nat) → Nat) (st : Option (Nat × (Nat → Nat))) (l : Nat → Nat) : Option (Nat × (Nat → Nat)) := match st with
  | none => some (su l, l)
  | some p => if su l ≤ p.1 then some p else some (su l, l)
def grI (st : Option (Nat × (Nat → Nat))) : Int32 := match st with
  | none => -1
  | some p => nI p.1
theorem sf_some {su : (Nat → Nat) → Nat} : ∀ (xs : List (Nat → Nat)) st, (st ≠ none ∨ xs ≠ []) → ∃ p, xs.foldl (sfF su) st = some p := by
  intro xs
  induction xs with
  | nil =>
    intro st h
    cases st with
    | none => rcases h with h | h <;> exact absurd rfl h
    | some p => exact ⟨p, rfl⟩
  | cons x xs ih =>
    intro st _
    refine ih (sfF su st x) (Or.inl ?_)
    cases st with
    | none => intro e; cases e
    | some p =>
      show (if su x ≤ p.1 then some p else some (su x, x)) ≠ none
      split <;> (intro e; cases e)
theorem enm_ne {n S m : Nat} {l : Nat → Nat} : enm n S m l ≠ [] := by
  cases m with
  | zero => intro e; cases e
  | succ m => intro e; cases e
theorem enm_u {n S m : Nat} {l : Nat → Nat} {p : Nat × (Nat → Nat)} (h : nxR n l (S - smN l n) = some p) : enm n S (m + 1) l = l :: enm n S m p.2 := by
  show l :: (match nxR n l (S - smN l n) with | none => [] | some p => enm n S m p.2) = _
  rw [h]
theorem enm_z {n S m : Nat} {l : Nat → Nat} (h : nxR n l (S - smN l n) = none) : enm n S m l = [l] := by
  cases m with
  | zero => rfl
  | succ m =>
    show l :: (match nxR n l (S - smN l n) with | none => [] | some p => enm n S m p.2) = _
    rw [h]
section Sf
variable {N n d S T q : Nat} {K W F : Nat → Nat}
theorem csafe_l (hN : 100000 ≤ N) (hd9 : d ≤ 9) (hS : S ≤ 40) (hT : T ≤ 40) (hq : q < 6) : ∀ m l i c st mm f, rkN n S l ≤ m → smN l n ≤ S → i ≤ n → c + m + 2 < 1000000 → m + 1 < f → CS mm n K W F → rd mm 3 6 = nI d → rd mm 5 1 = nI T → HA mm 34 n l → rd mm 33 1 = nI n → rd mm 33 2 = nI (S - smN l n) → (∀ p, st = some p → rd mm (95 + 2 * q) 1 = nI n ∧ HA mm (96 + 2 * q) n p.2 ∧ p.1 ≤ 108) → ∃ m', fX11_safe_54 N f 0 (95 + 2 * q) (grI st) (nI i) (nI c) mm = some (grI ((enm n S m l).foldl (sfF (sureN K W F d T n)) st), m') ∧ Fr (fun k j => k = 33 ∨ k = 34 ∨ k = 40 ∨ k = 41 ∨ (k = 95 + 2 * q ∧ j = 1) ∨ k = 96 + 2 * q) mm m' ∧ ∀ p, (enm n S m l).foldl (sfF (sureN K W F d T n)) st = some p → rd m' (95 + 2 * q) 1 = nI n ∧ HA m' (96 + 2 * q) n p.2 ∧ p.1 ≤ 108 := by
  -- one laying
  have one : ∀ l i c st mm f, smN l n ≤ S → i ≤ n → c < 1000000 → CS mm n K W F → rd mm 3 6 = nI d → rd mm 5 1 = nI T → HA mm 34 n l → rd mm 33 1 = nI n → rd mm 33 2 = nI (S - smN l n) → (∀ p, st = some p → rd mm (95 + 2 * q) 1 = nI n ∧ HA mm (96 + 2 * q) n p.2 ∧ p.1 ≤ 108) → ∃ m1 m2, Fr (fun k j => k = 40 ∨ k = 41 ∨ (k = 95 + 2 * q ∧ j = 1) ∨ k = 96 + 2 * q) mm m1 ∧ Fr (fun k j => (k = 33 ∧ j = 2) ∨ k = 34) m1 m2 ∧ (∀ p, sfF (sureN K W F d T n) st l = some p → rd m2 (95 + 2 * q) 1 = nI n ∧ HA m2 (96 + 2 * q) n p.2 ∧ p.1 ≤ 108) ∧ ((nxR n l (S - smN l n) = none ∧ fX3_next N 33 m1 = some (-9, m2)) ∨ ∃ p, nxR n l (S - smN l n) = some p ∧ fX3_next N 33 m1 = some (nI p.1, m2) ∧ HA m2 34 n p.2 ∧ rd m2 33 2 = nI (S - smN p.2 n)) ∧ ∀ R x1, fX3_next N 33 m1 = some (x1, m2) → fX11_safe_54 N f 0 (95 + 2 * q) (grI (sfF (sureN K W F d T n) st l)) x1 (nI (c + 1)) m2 = R → fX11_safe_54 N (f + 1) 0 (95 + 2 * q) (grI st) (nI i) (nI c) mm = R := by
    intro l i c st mm f hsl hi hc C hd ht hL h1 h2 hst
    have hn := C.2.1
    have hl40 : ∀ i, i < n → l i ≤ 1000 := fun i hi => by have := smN_at (l := l) hi; omega
    obtain ⟨s1, -⟩ := sure_b (K := K) (W := W) (F := F) (d := d) (z := l) (T := T) (fun i hi => (C.2.2 i hi).2.2.2.1) hn
    obtain ⟨ma, b, a1, a2, a3, a4⟩ := least_c (N := N) (d := d) (T := T) (en := grI st) (q := 34) hN hd9 hT rfl (by decide) (by first | omega | (dsimp only; omega)) hl40 C hd ht hL
    -- taken or not
    have nxt : ∀ m1, Fr (fun k j => k = 40 ∨ k = 41 ∨ (k = 95 + 2 * q ∧ j = 1) ∨ k = 96 + 2 * q) mm m1 → ∃ m2, Fr (fun k j => (k = 33 ∧ j = 2) ∨ k = 34) m1 m2 ∧ ((nxR n l (S - smN l n) = none ∧ fX3_next N 33 m1 = some (-9, m2)) ∨ ∃ p, nxR n l (S - smN l n) = some p ∧ fX3_next N 33 m1 = some (nI p.1, m2) ∧ HA m2 34 n p.2 ∧ rd m2 33 2 = nI (S - smN p.2 n)) := by
      intro m1 f1
      exact cnext_e (N := N) (S := S) (l := l) (mm := m1) hN hn hS (hL.c (fun j hj => f1.2 _ _ (by first | omega | (dsimp only; omega)))) (by rw [f1.2 _ _ (by first | omega | (dsimp only; omega))]; exact h1) (by rw [f1.2 _ _ (by first | omega | (dsimp only; omega))]; exact h2) hsl
    have hf0 : Fr (fun k j => k = 40 ∨ k = 41 ∨ (k = 95 + 2 * q ∧ j = 1) ∨ k = 96 + 2 * q) mm ma := a2.mono (fun k j e => by omega)
    have go : ∀ R, (if nI b ≤ grI st then (bd2 (fX3_next N 33 ma) fun x1 m2 => fX11_safe_54 N f 0 (95 + 2 * q) (grI st) x1 (nI (c + 1)) m2) else (bd2 (fX6_take N (95 + 2 * q) 34 (nI n) ma) fun x10 m11 => bd2 (fX3_next N 33 m11) fun x1 m2 => fX11_safe_54 N f 0 (95 + 2 * q) (nI b) x1 (nI (c + 1)) m2)) = R → fX11_safe_54 N (f + 1) 0 (95 + 2 * q) (grI st) (nI i) (nI c) mm = R := by
      intro R hR
      unfold fX11_safe_54 fX11_safe_114
      simp only [LXa, LXb, nI_1]
      refine st_f (nI_pos (by first | omega | (dsimp only; omega))) (st_f (nI_ge (b := 1000000) (by first | omega | (dsimp only; omega)) (by first | omega | (dsimp only; omega))) (st_b a1 ?_))
      rw [a2.2 3 5 (by first | omega | (dsimp only; omega)), C.1]
      exact hR
    have hkeep : nI b ≤ grI st → sfF (sureN K W F d T n) st l = st := by
      intro hb
      cases st with
      | none =>
        have hb' : nI b ≤ (-1 : Int32) := hb
        rw [i_le, nI_toInt (by first | omega | (dsimp only; omega))] at hb'
        have : (-1 : Int32).toInt = -1 := rfl
        omega
      | some p =>
        have hp := (hst p rfl).2.2
        have hb' : nI b ≤ nI p.1 := hb
        rw [i_le, nI_toInt (by first | omega | (dsimp only; omega)), nI_toInt (by first | omega | (dsimp only; omega))] at hb'
        refine if_pos ?_
        rcases a4 with a4 | ⟨-, a4⟩ <;> omega
    have htake : ¬ nI b ≤ grI st → b = sureN K W F d T n l ∧ sfF (sureN K W F d T n) st l = some (b, l) := by
      intro hb
      have hbs : b = sureN K W F d T n l := by
        rcases a4 with a4 | ⟨a4, -⟩
        · exact a4
        · exfalso
          apply hb
          rw [i_le, nI_toInt (by first | omega | (dsimp only; omega))]
          exact a4
      refine ⟨hbs, ?_⟩
      rw [hbs]
      cases st with
      | none => rfl
      | some p =>
        have hp := (hst p rfl).2.2
        have hb' : ¬ nI b ≤ nI p.1 := hb
        rw [i_le, nI_toInt (by first | omega | (dsimp only; omega)), nI_toInt (by first | omega | (dsimp only; omega))] at hb'
        exact if_neg (by rw [← hbs]; omega)
    by_cases hb : nI b ≤ grI st
    · obtain ⟨m2, n1, n2⟩ := nxt ma hf0
      rw [hkeep hb]
      refine ⟨ma, m2, hf0, n1, fun p hp => ?_, n2, fun R x1 hx hR => go R (st_t hb (st_b hx hR))⟩
      obtain ⟨g1, g2, g3⟩ := hst p hp
      exact ⟨by rw [n1.2 _ _ (by first | omega | (dsimp only; omega)), a2.2 _ _ (by first | omega | (dsimp only; omega))]; exact g1, g2.c (fun j hj => by rw [n1.2 _ _ (by first | omega | (dsimp only; omega)), a2.2 _ _ (by first | omega | (dsimp only; omega))]), g3⟩
    · obtain ⟨hbs, hsf⟩ := htake hb
      obtain ⟨mb, t1, t2, t3, t4⟩ := take_e (N := N) (p := 34) (v := l) hq rfl hn (by first | omega | (dsimp only; omega)) (HA.c hL (fun j hj => a2.2 _ _ (by first | omega | (dsimp only; omega))) : HA ma 34 n l)
      have hf1 : Fr (fun k j => k = 40 ∨ k = 41 ∨ (k = 95 + 2 * q ∧ j = 1) ∨ k = 96 + 2 * q) mm mb := hf0.tr (t2.mono (fun k j e => by omega))
      obtain ⟨m2, n1, n2⟩ := nxt mb hf1
      rw [hsf]
      refine ⟨mb, m2, hf1, n1, fun p hp => ?_, n2, fun R x1 hx hR => go R (st_f hb (st_b t1 (st_b hx hR)))⟩
      cases hp
      exact ⟨by rw [n1.2 _ _ (by first | omega | (dsimp only; omega))]; exact t3, t4.c (fun j hj => n1.2 _ _ (by first | omega | (dsimp only; omega))), by show b ≤ 108; omega⟩
  intro m
  induction m with
  | zero =>
    intro l i c st mm f hrk hsl hi hc hf C hd ht hL h1 h2 hst
    obtain ⟨f, rfl⟩ : ∃ g, f = g + 1 := ⟨f - 1, by omega⟩
    obtain ⟨f, rfl⟩ : ∃ g, f = g + 1 := ⟨f - 1, by omega⟩
    obtain ⟨m1, m2, f1, f2, g1, g2, g3⟩ := one l i c st mm (f + 1) hsl hi (by first | omega | (dsimp only; omega)) C hd ht hL h1 h2 hst
    have hnx : fX3_next N 33 m1 = some (-9, m2) := by
      rcases g2 with ⟨-, q⟩ | ⟨p', q, -⟩
      · exact q
      · have := (nx_rk hsl q).2.2.2; omega
    refine ⟨m2, g3 _ _ hnx ?_, (f1.mono (fun k j e => by omega)).tr (f2.mono (fun k j e => by omega)), g1⟩
    unfold fX11_safe_54
    exact st_t (by decide) rfl
  | succ m ih =>
    intro l i c st mm f hrk hsl hi hc hf C hd ht hL h1 h2 hst
    obtain ⟨f, rfl⟩ : ∃ g, f = g + 1 := ⟨f - 1, by omega⟩
    obtain ⟨m1, m2, f1, f2, g1, g2, g3⟩ := one l i c st mm f hsl hi (by first | omega | (dsimp only; omega)) C hd ht hL h1 h2 hst
    have hf12 : Fr (fun k j => k = 33 ∨ k = 34 ∨ k = 40 ∨ k = 41 ∨ (k = 95 + 2 * q ∧ j = 1) ∨ k = 96 + 2 * q) mm m2 := (f1.mono (fun k j e => by omega)).tr (f2.mono (fun k j e => by omega))
    rcases g2 with ⟨b1, b2⟩ | ⟨p', b1, b2, b3, b4⟩
    · rw [enm_z b1]
      refine ⟨m2, g3 _ _ b2 ?_, hf12, g1⟩
      obtain ⟨f, rfl⟩ : ∃ g, f = g + 1 := ⟨f - 1, by omega⟩
      unfold fX11_safe_54
      exact st_t (by decide) rfl
    · obtain ⟨o1, o2, o3, o4⟩ := nx_rk hsl b1
      rw [enm_u b1]
      have hn := C.2.1
      obtain ⟨m', r1, r2, r3⟩ := ih p'.2 p'.1 (c + 1) (sfF (sureN K W F d T n) st l) m2 f (by first | omega | (dsimp only; omega)) o3 (by first | omega | (dsimp only; omega)) (by first | omega | (dsimp only; omega)) (by first | omega | (dsimp only; omega)) (CS_c C (fun k j e => hf12.2 _ _ (by first | omega | (dsimp only; omega)))) (by rw [hf12.2 _ _ (by first | omega | (dsimp only; omega))]; exact hd) (by rw [hf12.2 _ _ (by first | omega | (dsimp only; omega))]; exact ht) b3 (by rw [f2.2 _ _ (by first | omega | (dsimp only; omega)), f1.2 _ _ (by first | omega | (dsimp only; omega))]; exact h1) b4 g1
      exact ⟨m', g3 _ _ b2 r1, hf12.tr r2, r3⟩
theorem mcopy_l {l : Nat → Nat} {g : Int32} {k37 : Nat → Int32 → Int32 → Mm → Option (Int32 × Mm)} (hn6 : n ≤ 6) : ∀ c i mm, i + c = n → MS mm n K W F → HA mm 190 n l → HA mm 189 i l → ∀ f, c < f → ∃ m', Fr (fun k _ => k = 189) mm m' ∧ HA m' 189 n l ∧ ∀ R, fX12_safe_86 N k37 175 (nI q) g m' = R → fX12_safe_57 N k37 f 175 (nI q) g (nI i) mm = R := by
  intro c
  induction c with
  | zero =>
    intro i mm hi M hH hL f hf
    obtain ⟨f, rfl⟩ : ∃ g, f = g + 1 := ⟨f - 1, by omega⟩
    obtain rfl : i = n := by omega
    refine ⟨mm, Fr.rf, hL, fun R hR => ?_⟩
    unfold fX12_safe_57
    exact st_t (by rw [M.1]; exact nI_le (by first | omega | (dsimp only; omega)) (by first | omega | (dsimp only; omega))) hR
  | succ c ih =>
    intro i mm hi M hH hL f hf
    obtain ⟨f, rfl⟩ : ∃ g, f = g + 1 := ⟨f - 1, by omega⟩
    have hin : i < n := by omega
    have hfr : Fr (fun k _ => k = 189) mm (wr mm 189 i (nI (l i))) := fr_wr Fr.rf rfl
    obtain ⟨m', a1, a2, a3⟩ := ih (i + 1) (wr mm 189 i (nI (l i))) (by first | omega | (dsimp only; omega)) (MS_c M (fun k j e => hfr.2 _ _ (by first | omega | (dsimp only; omega)))) (hH.c (fun j hj => hfr.2 _ _ (by first | omega | (dsimp only; omega)))) (fun j hj => by
      by_cases hji : j = i
      · subst hji; rw [rd_wr_s]
      · rw [rd_wr_j hji]; exact hL j (by first | omega | (dsimp only; omega))) f (by first | omega | (dsimp only; omega))
    refine ⟨m', hfr.tr a1, a2, fun R hR => ?_⟩
    unfold fX12_safe_57
    simp only [LXm, nI_nat (show i < 2147483648 by omega), nI_1, hH i hin]
    exact st_f (by rw [M.1]; exact nI_ge hin (by first | omega | (dsimp only; omega))) (st_k rfl (by first | omega | (dsimp only; omega)) (by first | omega | (dsimp only; omega)) (st_k rfl (by first | omega | (dsimp only; omega)) (by first | omega | (dsimp only; omega)) (st_n (a3 R hR))))
theorem msafe_l (hN : 100000 ≤ N) (hd9 : d ≤ 9) (hS : S ≤ 40) (hT : T ≤ 40) (hq : q < 6) : ∀ m l st mm f, rkN n S l ≤ m → smN l n ≤ S → m < f → MS mm n K W F → rd mm 175 13 = nI d → rd mm 183 0 = nI S → rd mm 183 1 = nI T → HA mm 190 n l → (∀ p, st = some p → HA mm 189 n p.2 ∧ p.1 ≤ 108) → ∃ m', fX12_safe_37 N f 175 (nI q) (grI st) mm = some (grI ((enm n S m l).foldl (sfF (sureN K W F d T n)) st), m') ∧ Fr (fun k j => (k = 175 ∧ j = 31) ∨ k = 185 ∨ k = 187 ∨ k = 189 ∨ k = 190 ∨ (k = 177 ∧ j = q) ∨ (k = 178 ∧ 40 * q ≤ j ∧ j < 40 * q + 40)) mm m' ∧ ∀ p, (enm n S m l).foldl (sfF (sureN K W F d T n)) st = some p → rd m' 177 q = nI n ∧ ∀ j, j < n → rd m' 178 (40 * q + j) = nI (p.2 j) := by
  have one : ∀ l st mm f, smN l n ≤ S → MS mm n K W F → rd mm 175 13 = nI d → rd mm 183 0 = nI S → rd mm 183 1 = nI T → HA mm 190 n l → (∀ p, st = some p → HA mm 189 n p.2 ∧ p.1 ≤ 108) → ∃ m1 m2, Fr (fun k j => (k = 175 ∧ j = 31) ∨ k = 185 ∨ k = 187 ∨ k = 189) mm m1 ∧ Fr (fun k _ => k = 190) m1 m2 ∧ (∀ p, sfF (sureN K W F d T n) st l = some p → HA m2 189 n p.2 ∧ p.1 ≤ 108) ∧ ((nxR n l (S - smN l n) = none ∧ fX12_nextStep N 175 (nI S) m1 = some (0, m2)) ∨ ∃ p, nxR n l (S - smN l n) = some p ∧ fX12_nextStep N 175 (nI S) m1 = some (1, m2) ∧ HA m2 190 n p.2) ∧ ∀ R, fX12_safe_86 N (fX12_safe_37 N f) 175 (nI q) (grI (sfF (sureN K W F d T n) st l)) m1 = R → fX12_safe_37 N (f + 1) 175 (nI q) (grI st) mm = R := by
    intro l st mm f hsl M hd h0 ht hL hst
    have hn := M.2.1
    have hl40 : ∀ i, i < n → l i ≤ 1000 := fun i hi => by have := smN_at (l := l) hi; omega
    obtain ⟨s1, -⟩ := sure_b (K := K) (W := W) (F := F) (d := d) (z := l) (T := T) (fun i hi => (M.2.2 i hi).2.2.2.1) hn
    obtain ⟨ma, a1, a2, a3⟩ := mstepF_e (N := N) (s := 0) hN (by first | omega | (dsimp only; omega)) M hL
    have Ma : MS ma n K W F := MS_c M (fun k j e => a2.2 _ _ (by first | omega | (dsimp only; omega)))
    obtain ⟨mb, b1, b2⟩ := sureOf_e (N := N) (d := d) (T := T) (z := l) hN hd9 hT hl40 Ma (by rw [a2.2 _ _ (by first | omega | (dsimp only; omega))]; exact hd) (by rw [a2.2 _ _ (by first | omega | (dsimp only; omega))]; exact ht) a3
    have Mb : MS mb n K W F := MS_c Ma (fun k j e => b2.2 _ _ (by first | omega | (dsimp only; omega)))
    have hLb : HA mb 190 n l := hL.c (fun j hj => by rw [b2.2 _ _ (by first | omega | (dsimp only; omega)), a2.2 _ _ (by first | omega | (dsimp only; omega))])
    have hf0 : Fr (fun k j => (k = 175 ∧ j = 31) ∨ k = 185 ∨ k = 187 ∨ k = 189) mm mb := (a2.mono (fun k j e => by omega)).tr (b2.mono (fun k j e => by omega))
    by_cases hb : nI (sureN K W F d T n l) ≤ grI st
    · have hsf : sfF (sureN K W F d T n) st l = st := by
        cases st with
        | none =>
          have hb' : nI (sureN K W F d T n l) ≤ (-1 : Int32) := hb
          rw [i_le, nI_toInt (by first | omega | (dsimp only; omega))] at hb'
          have : (-1 : Int32).toInt = -1 := rfl
          omega
        | some p =>
          have hp := (hst p rfl).2
          have hb' : nI (sureN K W F d T n l) ≤ nI p.1 := hb
          rw [i_le, nI_toInt (by first | omega | (dsimp only; omega)), nI_toInt (by first | omega | (dsimp only; omega))] at hb'
          exact if_pos (by first | omega | (dsimp only; omega))
      obtain ⟨m2, c1, c2⟩ := mnext_e (N := N) (S := S) (l := l) (mm := mb) hN hS Mb hLb hsl
      rw [hsf]
      refine ⟨mb, m2, hf0, c1, fun p hp => ?_, c2, fun R hR => ?_⟩
      · obtain ⟨g1, g2⟩ := hst p hp
        exact ⟨g1.c (fun j hj => by rw [c1.2 _ _ (by first | omega | (dsimp only; omega)), b2.2 _ _ (by first | omega | (dsimp only; omega)), a2.2 _ _ (by first | omega | (dsimp only; omega))]), g2⟩
      · unfold fX12_safe_37
        exact st_b a1 (st_b b1 (st_t hb hR))
    · have hsf : sfF (sureN K W F d T n) st l = some (sureN K W F d T n l, l) := by
        cases st with
        | none => rfl
        | some p =>
          have hp := (hst p rfl).2
          have hb' : ¬ nI (sureN K W F d T n l) ≤ nI p.1 := hb
          rw [i_le, nI_toInt (by first | omega | (dsimp only; omega)), nI_toInt (by first | omega | (dsimp only; omega))] at hb'
          exact if_neg (by first | omega | (dsimp only; omega))
      obtain ⟨mc, o1, o2, o3⟩ := mcopy_l (N := N) (q := q) (l := l) (g := nI (sureN K W F d T n l)) (k37 := fX12_safe_37 N f) hn n 0 mb (by first | omega | (dsimp only; omega)) Mb hLb (fun j hj => by omega) N (by first | omega | (dsimp only; omega))
      have Mc : MS mc n K W F := MS_c Mb (fun k j e => o1.2 _ _ (by first | omega | (dsimp only; omega)))
      obtain ⟨m2, c1, c2⟩ := mnext_e (N := N) (S := S) (l := l) (mm := mc) hN hS Mc (hLb.c (fun j hj => o1.2 _ _ (by first | omega | (dsimp only; omega)))) hsl
      rw [hsf]
      refine ⟨mc, m2, hf0.tr (o1.mono (fun k j e => by omega)), c1, fun p hp => ?_, c2, fun R hR => ?_⟩
      · cases hp
        exact ⟨o2.c (fun j hj => c1.2 _ _ (by first | omega | (dsimp only; omega))), s1⟩
      · unfold fX12_safe_37
        exact st_b a1 (st_b b1 (st_f hb (o3 R hR)))
  -- what follows a laying
  have h86 : ∀ g m1 m2 f, rd m1 183 0 = nI S → ∀ R, (fX12_nextStep N 175 (nI S) m1 = some (0, m2) → (bd2 (fX12_layBest N 175 (nI q) m2) fun x6 m7 => some (g, m7)) = R → fX12_safe_86 N (fX12_safe_37 N f) 175 (nI q) g m1 = R) ∧ (fX12_nextStep N 175 (nI S) m1 = some (1, m2) → fX12_safe_37 N f 175 (nI q) g m2 = R → fX12_safe_86 N (fX12_safe_37 N f) 175 (nI q) g m1 = R) := by
    intro g m1 m2 f h0 R
    unfold fX12_safe_86
    simp only [LXm]
    rw [show ((0 : Int32).toNatClampNeg) = 0 from rfl, h0]
    exact ⟨fun a b => st_g (by decide) (st_b a (st_t rfl b)), fun a b => st_g (by decide) (st_b a (st_f (by decide) b))⟩
  intro m
  induction m with
  | zero =>
    intro l st mm f hrk hsl hf M hd h0 ht hL hst
    obtain ⟨f, rfl⟩ : ∃ g, f = g + 1 := ⟨f - 1, by omega⟩
    obtain ⟨m1, m2, f1, f2, g1, g2, g3⟩ := one l st mm f hsl M hd h0 ht hL hst
    have hf12 : Fr (fun k j => (k = 175 ∧ j = 31) ∨ k = 185 ∨ k = 187 ∨ k = 189 ∨ k = 190) mm m2 := (f1.mono (fun k j e => by omega)).tr (f2.mono (fun k j e => by omega))
    have hnx : fX12_nextStep N 175 (nI S) m1 = some (0, m2) := by
      rcases g2 with ⟨-, q⟩ | ⟨p', q, -⟩
      · exact q
      · have := (nx_rk hsl q).2.2.2; omega
    obtain ⟨p, hp⟩ := sf_some (su := sureN K W F d T n) (enm n S 0 l) st (Or.inr enm_ne)
    have hp' : sfF (sureN K W F d T n) st l = some p := hp
    obtain ⟨m3, l1, l2, l3, l4⟩ := layB_e (N := N) (r := q) (v := p.2) hN hq (MS_c M (fun k j e => hf12.2 _ _ (by first | omega | (dsimp only; omega))) : MS m2 n K W F) (g1 p hp').1
    refine ⟨m3, g3 _ ((h86 _ m1 m2 f (by rw [f1.2 _ _ (by first | omega | (dsimp only; omega))]; exact h0) _).1 hnx (st_b l1 rfl)), (hf12.mono (fun k j e => by omega)).tr (l2.mono (fun k j e => by omega)), fun p' hp'' => ?_⟩
    rw [hp] at hp''
    cases hp''
    exact ⟨l3, l4⟩
  | succ m ih =>
    intro l st mm f hrk hsl hf M hd h0 ht hL hst
    obtain ⟨f, rfl⟩ : ∃ g, f = g + 1 := ⟨f - 1, by omega⟩
    obtain ⟨m1, m2, f1, f2, g1, g2, g3⟩ := one l st mm f hsl M hd h0 ht hL hst
    have hf12 : Fr (fun k j => (k = 175 ∧ j = 31) ∨ k = 185 ∨ k = 187 ∨ k = 189 ∨ k = 190) mm m2 := (f1.mono (fun k j e => by omega)).tr (f2.mono (fun k j e => by omega))
    rcases g2 with ⟨b1, b2⟩ | ⟨p', b1, b2, b3⟩
    · rw [enm_z b1]
      obtain ⟨p, hp⟩ := sf_some (su := sureN K W F d T n) [l] st (Or.inr (by intro e; cases e))
      have hp' : sfF (sureN K W F d T n) st l = some p := hp
      obtain ⟨m3, l1, l2, l3, l4⟩ := layB_e (N := N) (r := q) (v := p.2) hN hq (MS_c M (fun k j e => hf12.2 _ _ (by first | omega | (dsimp only; omega))) : MS m2 n K W F) (g1 p hp').1
      refine ⟨m3, g3 _ ((h86 _ m1 m2 f (by rw [f1.2 _ _ (by first | omega | (dsimp only; omega))]; exact h0) _).1 b2 (st_b l1 rfl)), (hf12.mono (fun k j e => by omega)).tr (l2.mono (fun k j e => by omega)), fun p' hp'' => ?_⟩
      rw [hp] at hp''
      cases hp''
      exact ⟨l3, l4⟩
    · obtain ⟨o1, o2, o3, o4⟩ := nx_rk hsl b1
      rw [enm_u b1]
      obtain ⟨m', r1, r2, r3⟩ := ih p'.2 (sfF (sureN K W F d T n) st l) m2 f (by first | omega | (dsimp only; omega)) o3 (by first | omega | (dsimp only; omega)) (MS_c M (fun k j e => hf12.2 _ _ (by first | omega | (dsimp only; omega)))) (by rw [hf12.2 _ _ (by first | omega | (dsimp only; omega))]; exact hd) (by rw [hf12.2 _ _ (by first | omega | (dsimp only; omega))]; exact h0) (by rw [hf12.2 _ _ (by first | omega | (dsimp only; omega))]; exact ht) b3 g1
      exact ⟨m', g3 _ ((h86 _ m1 m2 f (by rw [f1.2 _ _ (by first | omega | (dsimp only; omega))]; exact h0) _).2 b2 r1), (hf12.mono (fun k j e => by omega)).tr r2, r3⟩
end Sf
theorem smN_0 : ∀ n, smN (fun _ => 0) n = 0
  | 0 => rfl
  | n + 1 => by show smN (fun _ => 0) n + 0 = 0; rw [smN_0 n]
theorem ok_20 {N : Nat} (hN : 100000 ≤ N) : OK_20 N Rel := by
  intro a1 mm h
  obtain ⟨n, K, W, F, d, s, t, C, M, hd, hd', hd9, hs, hs', hs40, ht, ht', ht40⟩ := Rel_data h
  have hn := C.2.1
  rcases rng a1 6 with ⟨q, hq, -, rfl⟩ | hb
  rotate_left
  · refine ⟨-1, mm, mm, ?_, ?_, h⟩
    · unfold fX11_safe
      exact st_b (rowOf_n hb) (st_c0 rfl)
    · unfold fX12_safe
      exact st_b (isRow_n hb) (st_t rfl rfl)
  by_cases hsp : s ≤ 10 ∧ n ≤ 4
  rotate_left
  · refine ⟨-6, mm, mm, ?_, ?_, h⟩
    · have htm : fX11_isTooMuch N 0 0 mm = some (1, mm) := by
        unfold fX11_isTooMuch
        simp only [LXa]
        refine st_g (by decide) ?_
        rw [show ((0 : Int32).toNatClampNeg) = 0 from rfl, hs, C.1]
        by_cases h10 : s ≤ 10
        · exact st_f (nI_nlt (by first | omega | (dsimp only; omega)) (by first | omega | (dsimp only; omega))) (st_f (nI_ge (by first | omega | (dsimp only; omega)) (by first | omega | (dsimp only; omega))) rfl)
        · exact st_t (nI_lt (by first | omega | (dsimp only; omega)) (by first | omega | (dsimp only; omega))) rfl
      unfold fX11_safe
      exact st_b (rowOf_t hq) (st_c (st_b htm (st_f (by decide) rfl)))
    · unfold fX12_safe
      simp only [LXm]
      refine st_b (isRow_t hq) (st_f (by decide) (st_g (by decide) ?_))
      rw [show ((0 : Int32).toNatClampNeg) = 0 from rfl, hs', M.1]
      by_cases h10 : s ≤ 10
      · exact st_f (nI_nlt (by first | omega | (dsimp only; omega)) (by first | omega | (dsimp only; omega))) (st_f (nI_ge (by first | omega | (dsimp only; omega)) (by first | omega | (dsimp only; omega))) rfl)
      · exact st_t (nI_lt (by first | omega | (dsimp only; omega)) (by first | omega | (dsimp only; omega))) rfl
  obtain ⟨h10, h4⟩ := hsp
  have htm : fX11_isTooMuch N 0 0 mm = some (0, mm) := by
    unfold fX11_isTooMuch
    simp only [LXa]
    refine st_g (by decide) ?_
    rw [show ((0 : Int32).toNatClampNeg) = 0 from rfl, hs, C.1]
    exact st_f (nI_nlt (by first | omega | (dsimp only; omega)) (by first | omega | (dsimp only; omega))) (st_t (nI_le (by first | omega | (dsimp only; omega)) (by first | omega | (dsimp only; omega))) rfl)
  obtain ⟨m0, b1, b2, b3, b4, b5⟩ := cbegin_e (N := N) (mm := mm) hN hn hs40
  have hz0 := smN_0 n
  have hrk : rkN n s (fun _ => 0) ≤ 18564 := by
    have h1 := rk_cnt (l := fun _ => 0) n 0 s
    have h2 := cnt_12 hn (show s ≤ 12 by omega)
    unfold rkN; omega
  obtain ⟨m1, c1, c2, c3⟩ := csafe_l (N := N) (d := d) (S := s) (T := t) (q := q) hN hd9 hs40 ht40 hq 18564 (fun _ => 0) 0 0 none m0 N hrk (by first | omega | (dsimp only; omega)) (by first | omega | (dsimp only; omega)) (by first | omega | (dsimp only; omega)) (by first | omega | (dsimp only; omega)) (CS_c C (fun k j e => b2.2 _ _ (by first | omega | (dsimp only; omega)))) (by rw [b2.2 _ _ (by first | omega | (dsimp only; omega))]; exact hd) (by rw [b2.2 _ _ (by first | omega | (dsimp only; omega))]; exact ht) b3 b4 (by rw [hz0]; exact b5) (fun p hp => by cases hp)
  obtain ⟨p, hp⟩ := sf_some (su := sureN K W F d t n) (enm n s 18564 (fun _ => 0)) none (Or.inr enm_ne)
  have hms := fun mb (Mb : MS mb n K W F) h1 h2 h3 h4 => msafe_l (N := N) (d := d) (S := s) (T := t) (q := q) hN hd9 hs40 ht40 hq 18564 (fun _ => 0) none mb N hrk (by first | omega | (dsimp only; omega)) (by first | omega | (dsimp only; omega)) Mb h1 h2 h3 h4 (fun p hp => by cases hp)
  rw [hp] at c1 c3 hms
  obtain ⟨g1, g2, g3⟩ := c3 p rfl
  have hA : MA mm m1 := fun k j hk => by rw [c2.2 _ _ (by first | omega | (dsimp only; omega)), b2.2 _ _ (by first | omega | (dsimp only; omega))]
  have M1 := hA.ms M
  obtain ⟨mb, o1, o2, o3⟩ := mfirst_e (N := N) (n := n) (mm := m1) hN hn
  have Mb : MS mb n K W F := MS_c M1 (fun k j e => o2.2 _ _ (by first | omega | (dsimp only; omega)))
  obtain ⟨mc, p1, p2, p3⟩ := hms mb Mb (by rw [o2.2 _ _ (by first | omega | (dsimp only; omega)), hA _ _ (by first | omega | (dsimp only; omega))]; exact hd') (by rw [o2.2 _ _ (by first | omega | (dsimp only; omega)), hA _ _ (by first | omega | (dsimp only; omega))]; exact hs') (by rw [o2.2 _ _ (by first | omega | (dsimp only; omega)), hA _ _ (by first | omega | (dsimp only; omega))]; exact ht') o3
  obtain ⟨u1, u2⟩ := p3 p rfl
  refine ⟨nI p.1, m1, mc, ?_, ?_, ?_⟩
  · unfold fX11_safe
    refine st_b (rowOf_t hq) (st_c (st_b htm (st_t rfl ?_)))
    simp only [LXa, LXb]
    refine st_g (by decide) ?_
    rw [show ((0 : Int32).toNatClampNeg) = 0 from rfl, hs, C.1]
    exact st_b b1 c1
  · unfold fX12_safe
    simp only [LXm]
    refine st_b (isRow_t hq) (st_f (by decide) (st_g (by decide) ?_))
    rw [show ((0 : Int32).toNatClampNeg) = 0 from rfl, hA _ _ (by first | omega | (dsimp only; omega)), hs', M1.1]
    exact st_f (nI_nlt (by first | omega | (dsimp only; omega)) (by first | omega | (dsimp only; omega))) (st_t (nI_le (by first | omega | (dsimp only; omega)) (by first | omega | (dsimp only; omega))) (st_b o1 p1))
  · have F1 : Fr (ScA q) mm m1 := by
      refine (b2.mono (fun k j e => Or.inl ?_)).tr (c2.mono (fun k j e => ?_))
      · unfold ScC; omega
      · by_cases hk : k ≤ 93
        · exact Or.inl (by unfold ScC; omega)
        · exact Or.inr (Or.inr (Or.inr (by unfold RwC; omega)))
    have F2 : Fr (ScA q) m1 mc := by
      refine (o2.mono (fun k j e => Or.inr (Or.inl ?_))).tr (p2.mono (fun k j e => ?_))
      · unfold ScM; omega
      · by_cases hk : k = 177 ∨ k = 178
        · exact Or.inr (Or.inr (Or.inr (by unfold RwC; omega)))
        · exact Or.inr (Or.inl (by unfold ScM; omega))
    refine Rel_row (r := q) h (F1.tr F2) ?_ ?_ (fun _ => Or.inr ⟨n, by omega, ?_, u1, fun i hi => ⟨?_, trivial⟩⟩)
    · refine RA_c h.2.2.2.2.1 (fun k hk => ?_)
      rw [p2.2 _ _ (by first | omega | (dsimp only; omega)), o2.2 _ _ (by first | omega | (dsimp only; omega)), c2.2 _ _ (by first | omega | (dsimp only; omega)), b2.2 _ _ (by first | omega | (dsimp only; omega))]
    · rw [p2.2 _ _ (by first | omega | (dsimp only; omega)), o2.2 _ _ (by first | omega | (dsimp only; omega)), c2.2 _ _ (by first | omega | (dsimp only; omega)), b2.2 _ _ (by first | omega | (dsimp only; omega)), p2.2 _ _ (by first | omega | (dsimp only; omega)), o2.2 _ _ (by first | omega | (dsimp only; omega)), c2.2 _ _ (by first | omega | (dsimp only; omega)), b2.2 _ _ (by first | omega | (dsimp only; omega))]
      exact h.2.2.2.1.2.2.1
    · rw [p2.2 _ _ (by first | omega | (dsimp only; omega)), o2.2 _ _ (by first | omega | (dsimp only; omega))]; exact g1
    · simp only
      rw [p2.2 (96 + 2 * q) i (by first | omega | (dsimp only; omega)), o2.2 _ _ (by first | omega | (dsimp only; omega)), g2 i hi, u2 i hi]
