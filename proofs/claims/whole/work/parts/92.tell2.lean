/-! pure: tell, the model -/
section Tm
variable {N n d M : Nat} {K W F : Nat → Nat} {R : Nat → Nat → Nat}
theorem sb80_l {o A : Nat} {V : Nat → Nat} {k4 : Nat → Int32 → Int32 → Int32 → Mm → Option (Int32 × Mm)} {mm : Mm} (hM : M < 64) (ho : o < 6) (hV : ∀ a, a ≤ o → rd mm 195 a = nI (V a) ∧ V a < 1000) : ∀ c a (b : Bool), a + c = o → ∀ f, c < f → fX12_setsBy_80 N k4 f 175 (nI M) (nI A) (nI o) (bI b) (nI a) mm = k4 175 (nI M) (nI (A + if (b && alB (fun a => !(bitN M a && decide (V a = V o))) c a) = true then 1 else 0)) (nI (o + 1)) mm := by
  intro c
  induction c with
  | zero =>
    intro a b ha f hf
    obtain ⟨f, rfl⟩ : ∃ g, f = g + 1 := ⟨f - 1, by omega⟩
    unfold fX12_setsBy_80 fX12_setsBy_140
    refine st_t (nI_le (by first | omega | (dsimp only; omega)) (by first | omega | (dsimp only; omega))) ?_
    rw [nI_1 o]
    cases b
    · exact st_t rfl (by rw [show (0 : Int32) = nI 0 from rfl, nI_add]; rfl)
    · exact st_f (by decide) (by rw [nI_1 A]; rfl)
  | succ c ih =>
    intro a b ha f hf
    obtain ⟨f, rfl⟩ : ∃ g, f = g + 1 := ⟨f - 1, by omega⟩
    unfold fX12_setsBy_80 fX12_setsBy_120 fX12_setsBy_116 fX12_setsBy_121
    rw [nI_1 a]
    refine st_f (nI_ge (by first | omega | (dsimp only; omega)) (by first | omega | (dsimp only; omega))) ?_
    have e : alB (fun a => !(bitN M a && decide (V a = V o))) (c + 1) a = ((!(bitN M a && decide (V a = V o))) && alB (fun a => !(bitN M a && decide (V a = V o))) c (a + 1)) := rfl
    rw [e]
    cases b
    · refine st_t rfl ?_
      have := ih (a + 1) false (by first | omega | (dsimp only; omega)) f (by first | omega | (dsimp only; omega))
      rw [Bool.false_and] at this ⊢
      exact this
    · have i1 := ih (a + 1) true (by first | omega | (dsimp only; omega)) f (by first | omega | (dsimp only; omega))
      have i0 := ih (a + 1) false (by first | omega | (dsimp only; omega)) f (by first | omega | (dsimp only; omega))
      rw [Bool.true_and] at i1 ⊢
      rw [Bool.false_and] at i0
      refine st_f (by decide) ?_
      cases hb : bitN M a
      · rw [Bool.false_and, Bool.not_false, Bool.true_and]
        exact st_t (bit_f hM (by first | omega | (dsimp only; omega)) hb) i1
      · simp only [LXm, nI_nat (show a < 2147483648 by omega), nI_nat (show o < 2147483648 by omega)]
        refine st_f (bit_t hM (by first | omega | (dsimp only; omega)) hb) (st_k rfl (show a < 6 by omega) (by first | omega | (dsimp only; omega)) (st_k rfl ho (by first | omega | (dsimp only; omega)) ?_))
        obtain ⟨v1, v2⟩ := hV a (by first | omega | (dsimp only; omega))
        obtain ⟨v3, v4⟩ := hV o (Nat.le_refl _)
        rw [v1, v3, Bool.true_and]
        by_cases he : V a = V o
        · rw [decide_eq_true he, Bool.not_true, Bool.false_and]
          exact st_t (by rw [he]) i0
        · rw [decide_eq_false he, Bool.not_false, Bool.true_and]
          exact st_f (nw_ne he (by first | omega | (dsimp only; omega)) (by first | omega | (dsimp only; omega))) i1
/-- what the model's tell stands on -/
def TMq (mm : Mm) (n d : Nat) (K W F : Nat → Nat) (R : Nat → Nat → Nat) : Prop := MS mm n K W F ∧ rd mm 175 13 = nI d ∧ ∀ q, q < 6 → ∀ j, j < n → rd mm 194 (6 * q + j) = nI (R q j)
theorem TMq.c {mm m2 : Mm} (h : TMq mm n d K W F R) (e : ∀ k j, (k = 182 ∧ j < 18) ∨ (k = 175 ∧ (j = 10 ∨ j = 13)) ∨ k = 194 → rd m2 k j = rd mm k j) : TMq m2 n d K W F R :=
  ⟨MS_c h.1 (fun k j q => e _ _ (by first | omega | (dsimp only; omega))), by rw [e _ _ (by first | omega | (dsimp only; omega))]; exact h.2.1, fun q hq j hj => by rw [e _ _ (by first | omega | (dsimp only; omega))]; exact h.2.2 q hq j hj⟩
theorem sb13_l {o A : Nat} {l : Nat → Nat} {k4 : Nat → Int32 → Int32 → Int32 → Mm → Option (Int32 × Mm)} (hN : 100000 ≤ N) (hd9 : d ≤ 9) (hM : M < 64) (ho : o < 6) (hl : ∀ j, j < n → l j ≤ 1000) (hR : ∀ q, q < 6 → ∀ j, j < n → R q j ≤ 1000) : ∀ c j mm, j + c = n → TMq mm n d K W F R → HA mm 185 n l → HA mm 186 j (R o) → (∀ a, a < o → rd mm 195 a = nI (vsN K F n d R l a)) → ∀ f, c < f → ∃ m', fX12_setsBy_13 N k4 f 175 (nI M) (nI A) (nI o) (nI j) mm = k4 175 (nI M) (nI (A + if nwB (bitN M) (fun a o => decide (vsN K F n d R l a = vsN K F n d R l o)) o = true then 1 else 0)) (nI (o + 1)) m' ∧ Fr (fun k j => k = 186 ∨ k = 187 ∨ (k = 195 ∧ j = o)) mm m' ∧ rd m' 195 o = nI (vsN K F n d R l o) := by
  intro c
  induction c with
  | zero =>
    intro j mm hj Q HL HR hV f hf
    obtain ⟨f, rfl⟩ : ∃ g, f = g + 1 := ⟨f - 1, by omega⟩
    obtain rfl : j = n := by omega
    have hn := Q.1.2.1
    have hp := pw_n j (by first | omega | (dsimp only; omega))
    obtain ⟨m1, c1, f1, g1⟩ := setW_e (N := N) (x := l) (y := R o) hN hd9 hl (hR o ho) Q.1 Q.2.1 HL HR
    have hws := wonSet_e (N := N) (mm := m1) (w := wn K F d l (R o)) hN (MS_c Q.1 (fun k j e => f1.2 _ _ (by first | omega | (dsimp only; omega)))) (fun i _ => wn_2) g1
    have hv1 : ∀ a, vsN K F j d R l a < 1000 := fun a => by
      have : vsN K F j d R l a < 2 ^ j := mkN_lt j
      omega
    have s80 := sb80_l (N := N) (A := A) (V := vsN K F j d R l) (k4 := k4) (mm := wr m1 195 o (nI (vsN K F j d R l o))) hM ho (fun a ha => ⟨by
      by_cases hao : a = o
      · subst hao; rw [rd_wr_s]
      · rw [rd_wr_j hao, f1.2 _ _ (by first | omega | (dsimp only; omega))]; exact hV a (by first | omega | (dsimp only; omega)), hv1 a⟩) o 0 (bitN M o) (by first | omega | (dsimp only; omega)) N (by first | omega | (dsimp only; omega))
    refine ⟨wr m1 195 o (nI (vsN K F j d R l o)), ?_, fr_wr (f1.mono (fun k j e => Or.inr (Or.inl e))) (Or.inr (Or.inr ⟨rfl, rfl⟩)), rd_wr_s⟩
    unfold fX12_setsBy_13
    simp only [LXm, nI_nat (show o < 2147483648 by omega)]
    refine st_t (by rw [Q.1.1]; exact nI_le (by first | omega | (dsimp only; omega)) (by first | omega | (dsimp only; omega))) (st_b c1 (st_b hws (st_k rfl ho (by first | omega | (dsimp only; omega)) (st_n ?_))))
    cases hb : bitN M o
    · rw [hb] at s80
      refine st_f (by rw [bit_f hM ho hb]; decide) (s80.trans ?_)
      unfold nwB
      rw [hb]
    · rw [hb] at s80
      refine st_t (by rw [bt_6 M hM o ho, of_decide_eq_true hb]; rfl) (s80.trans ?_)
      unfold nwB
      rw [hb]
  | succ c ih =>
    intro j mm hj Q HL HR hV f hf
    obtain ⟨f, rfl⟩ : ∃ g, f = g + 1 := ⟨f - 1, by omega⟩
    have hn := Q.1.2.1
    obtain ⟨m', c1, f1, g1⟩ := ih (j + 1) (wr mm 186 j (nI (R o j))) (by first | omega | (dsimp only; omega)) (Q.c (fun k j e => rd_wr_k (by first | omega | (dsimp only; omega)))) (HL.c (fun j _ => rd_wr_k (by first | omega | (dsimp only; omega)))) (fun i hi => by
      by_cases hij : i = j
      · subst hij; rw [rd_wr_s]
      · rw [rd_wr_j hij]; exact HR i (by first | omega | (dsimp only; omega))) (fun a ha => by rw [rd_wr_k (by first | omega | (dsimp only; omega))]; exact hV a ha) f (by first | omega | (dsimp only; omega))
    refine ⟨m', ?_, (fr_wr (S := fun k j => k = 186 ∨ k = 187 ∨ (k = 195 ∧ j = o)) Fr.rf (Or.inl rfl)).tr f1, g1⟩
    unfold fX12_setsBy_13
    rw [show (6 : Int32) * nI o + nI j = nI (6 * o + j) by rw [show (6 : Int32) = nI 6 from rfl, nI_mul, nI_add]]
    simp only [LXm, nI_nat (show j < 2147483648 by omega), nI_nat (show 6 * o + j < 2147483648 by omega)]
    refine st_f (by rw [Q.1.1]; exact nI_ge (by first | omega | (dsimp only; omega)) (by first | omega | (dsimp only; omega))) (st_k rfl (show 6 * o + j < 36 by omega) (by first | omega | (dsimp only; omega)) (st_k rfl (show j < 6 by omega) (by first | omega | (dsimp only; omega)) (st_n ?_)))
    rw [Q.2.2 o ho j (by first | omega | (dsimp only; omega)), nI_1 j]; exact c1
theorem sb_l {l : Nat → Nat} (hN : 100000 ≤ N) (hd9 : d ≤ 9) (hM : M < 64) (hl : ∀ j, j < n → l j ≤ 1000) (hR : ∀ q, q < 6 → ∀ j, j < n → R q j ≤ 1000) : ∀ c o mm, o + c = 6 → TMq mm n d K W F R → HA mm 185 n l → (∀ a, a < o → rd mm 195 a = nI (vsN K F n d R l a)) → ∀ f, c < f → ∃ m', fX12_setsBy_4 N f 175 (nI M) (nI (uNk (bitN M) (fun a o => decide (vsN K F n d R l a = vsN K F n d R l o)) o)) (nI o) mm = some (nI (suN K F n d M R l), m') ∧ Fr (fun k _ => k = 186 ∨ k = 187 ∨ k = 195) mm m' := by
  intro c
  induction c with
  | zero =>
    intro o mm ho Q HL hV f hf
    obtain ⟨f, rfl⟩ : ∃ g, f = g + 1 := ⟨f - 1, by omega⟩
    obtain rfl : o = 6 := by omega
    refine ⟨mm, ?_, Fr.rf⟩
    unfold fX12_setsBy_4
    exact st_t (nI_le (by first | omega | (dsimp only; omega)) (by first | omega | (dsimp only; omega))) rfl
  | succ c ih =>
    intro o mm ho Q HL hV f hf
    obtain ⟨f, rfl⟩ : ∃ g, f = g + 1 := ⟨f - 1, by omega⟩
    have hn := Q.1.2.1
    obtain ⟨m1, c1, f1, g1⟩ := sb13_l (N := N) (o := o) (A := uNk (bitN M) (fun a o => decide (vsN K F n d R l a = vsN K F n d R l o)) o) (l := l) (k4 := fX12_setsBy_4 N f) hN hd9 hM (by first | omega | (dsimp only; omega)) hl hR n 0 mm (by first | omega | (dsimp only; omega)) Q HL (fun j hj => by omega) hV N (by first | omega | (dsimp only; omega))
    obtain ⟨m', c2, f2⟩ := ih (o + 1) m1 (by first | omega | (dsimp only; omega)) (Q.c (fun k j e => f1.2 _ _ (by first | omega | (dsimp only; omega)))) (HL.c (fun j _ => f1.2 _ _ (by first | omega | (dsimp only; omega)))) (fun a ha => by
      by_cases hao : a = o
      · subst hao; exact g1
      · rw [f1.2 _ _ (by first | omega | (dsimp only; omega))]; exact hV a (by first | omega | (dsimp only; omega))) f (by first | omega | (dsimp only; omega))
    rw [uNk_S] at c2
    refine ⟨m', ?_, (f1.mono (fun k j e => by omega)).tr f2⟩
    unfold fX12_setsBy_4
    exact st_f (nI_ge (by first | omega | (dsimp only; omega)) (by first | omega | (dsimp only; omega))) (c1.trans c2)
theorem sb_e {l : Nat → Nat} {mm : Mm} (hN : 100000 ≤ N) (hd9 : d ≤ 9) (hM : M < 64) (hl : ∀ j, j < n → l j ≤ 1000) (hR : ∀ q, q < 6 → ∀ j, j < n → R q j ≤ 1000) (Q : TMq mm n d K W F R) (HL : HA mm 185 n l) : ∃ m', fX12_setsBy N 175 (nI M) mm = some (nI (suN K F n d M R l), m') ∧ Fr (fun k _ => k = 186 ∨ k = 187 ∨ k = 195) mm m' :=
  sb_l hN hd9 hM hl hR 6 0 mm (by first | omega | (dsimp only; omega)) Q HL (fun a ha => by omega) N (by first | omega | (dsimp only; omega))
theorem tcopy_l {l : Nat → Nat} {q : Nat} {g a2 : Int32} {k59 : Nat → Int32 → Int32 → Int32 → Mm → Option (Int32 × Mm)} (hn6 : n ≤ 6) : ∀ c i mm, i + c = n → MS mm n K W F → HA mm 190 n l → HA mm 189 i l → ∀ f, c < f → ∃ m', Fr (fun k _ => k = 189) mm m' ∧ HA m' 189 n l ∧ ∀ r, fX12_tell_112 N k59 175 (nI q) a2 g m' = r → fX12_tell_83 N k59 f 175 (nI q) a2 g (nI i) mm = r := by
  intro c
  induction c with
  | zero =>
    intro i mm hi M hH hL f hf
    obtain ⟨f, rfl⟩ : ∃ g, f = g + 1 := ⟨f - 1, by omega⟩
    obtain rfl : i = n := by omega
    refine ⟨mm, Fr.rf, hL, fun R hR => ?_⟩
    unfold fX12_tell_83
    exact st_t (by rw [M.1]; exact nI_le (by first | omega | (dsimp only; omega)) (by first | omega | (dsimp only; omega))) hR
  | succ c ih =>
    intro i mm hi M hH hL f hf
    obtain ⟨f, rfl⟩ : ∃ g, f = g + 1 := ⟨f - 1, by omega⟩
    have hin : i < n := by omega
    have hfr : Fr (fun k _ => k = 189) mm (wr mm 189 i (nI (l i))) := fr_wr Fr.rf rfl
    obtain ⟨m', a1, a2, a3⟩ := ih (i + 1) (wr mm 189 i (nI (l i))) (by first | omega | (dsimp only; omega)) (MS_c M (fun k j e => hfr.2 _ _ (by first | omega | (dsimp only; omega)))) (hH.c (fun j hj => hfr.2 _ _ (by first | omega | (dsimp only; omega)))) (fun j hj => by
      by_cases hji : j = i
      · subst hji; rw [rd_wr_s]
      · rw [rd_wr_j hji]; exact hL j (by first | omega | (dsimp only; omega))) f (by first | omega | (dsimp only; omega))
    refine ⟨m', hfr.tr a1, a2, fun R hR => ?_⟩
    unfold fX12_tell_83
    simp only [LXm, nI_nat (show i < 2147483648 by omega), nI_1, hH i hin]
    exact st_f (by rw [M.1]; exact nI_ge hin (by first | omega | (dsimp only; omega))) (st_k rfl (by first | omega | (dsimp only; omega)) (by first | omega | (dsimp only; omega)) (st_k rfl (by first | omega | (dsimp only; omega)) (by first | omega | (dsimp only; omega)) (st_n (a3 R hR))))
theorem mtell_l {S q : Nat} (hN : 100000 ≤ N) (hd9 : d ≤ 9) (hM : M < 64) (hS : S ≤ 40) (hq : q < 6) (hR : ∀ q, q < 6 → ∀ j, j < n → R q j ≤ 1000) : ∀ m l st mm f, rkN n S l ≤ m → smN l n ≤ S → m < f → TMq mm n d K W F R → rd mm 183 0 = nI S → HA mm 190 n l → (∀ p, st = some p → HA mm 189 n p.2 ∧ p.1 ≤ 108) → ∃ m', fX12_tell_59 N f 175 (nI q) (nI M) (grI st) mm = some (grI ((enm n S m l).foldl (sfF (suN K F n d M R)) st), m') ∧ Fr (fun k j => (185 ≤ k ∧ k ≤ 190) ∨ k = 195 ∨ (k = 177 ∧ j = q) ∨ (k = 178 ∧ 40 * q ≤ j ∧ j < 40 * q + 40)) mm m' ∧ ∀ p, (enm n S m l).foldl (sfF (suN K F n d M R)) st = some p → rd m' 177 q = nI n ∧ ∀ j, j < n → rd m' 178 (40 * q + j) = nI (p.2 j) := by
  have one : ∀ l st mm f, smN l n ≤ S → TMq mm n d K W F R → rd mm 183 0 = nI S → HA mm 190 n l → (∀ p, st = some p → HA mm 189 n p.2 ∧ p.1 ≤ 108) → ∃ m1 m2, Fr (fun k j => (185 ≤ k ∧ k ≤ 187) ∨ k = 189 ∨ k = 195) mm m1 ∧ Fr (fun k _ => k = 190) m1 m2 ∧ (∀ p, sfF (suN K F n d M R) st l = some p → HA m2 189 n p.2 ∧ p.1 ≤ 108) ∧ ((nxR n l (S - smN l n) = none ∧ fX12_nextStep N 175 (nI S) m1 = some (0, m2)) ∨ ∃ p, nxR n l (S - smN l n) = some p ∧ fX12_nextStep N 175 (nI S) m1 = some (1, m2) ∧ HA m2 190 n p.2) ∧ ∀ r, fX12_tell_112 N (fX12_tell_59 N f) 175 (nI q) (nI M) (grI (sfF (suN K F n d M R) st l)) m1 = r → fX12_tell_59 N (f + 1) 175 (nI q) (nI M) (grI st) mm = r := by
    intro l st mm f hsl Q h0 hL hst
    have hn := Q.1.2.1
    have hl40 : ∀ i, i < n → l i ≤ 1000 := fun i hi => by have := smN_at (l := l) hi; omega
    have s1 : suN K F n d M R l ≤ 6 := suN_6
    obtain ⟨ma, a1, a2, a3⟩ := mstepF_e (N := N) (s := 0) hN (by first | omega | (dsimp only; omega)) Q.1 hL
    have Qa : TMq ma n d K W F R := Q.c (fun k j e => a2.2 _ _ (by first | omega | (dsimp only; omega)))
    obtain ⟨mb, b1, b2⟩ := sb_e (N := N) (M := M) hN hd9 hM hl40 hR Qa a3
    have Mb : MS mb n K W F := MS_c Qa.1 (fun k j e => b2.2 _ _ (by first | omega | (dsimp only; omega)))
    have hLb : HA mb 190 n l := hL.c (fun j hj => by rw [b2.2 _ _ (by first | omega | (dsimp only; omega)), a2.2 _ _ (by first | omega | (dsimp only; omega))])
    have hf0 : Fr (fun k j => (185 ≤ k ∧ k ≤ 187) ∨ k = 189 ∨ k = 195) mm mb := (a2.mono (fun k j e => by omega)).tr (b2.mono (fun k j e => by omega))
    by_cases hb : nI (suN K F n d M R l) ≤ grI st
    · have hsf : sfF (suN K F n d M R) st l = st := by
        cases st with
        | none =>
          have hb' : nI (suN K F n d M R l) ≤ (-1 : Int32) := hb
          rw [i_le, nI_toInt (by first | omega | (dsimp only; omega))] at hb'
          have : (-1 : Int32).toInt = -1 := rfl
          omega
        | some p =>
          have hp := (hst p rfl).2
          have hb' : nI (suN K F n d M R l) ≤ nI p.1 := hb
          rw [i_le, nI_toInt (by first | omega | (dsimp only; omega)), nI_toInt (by first | omega | (dsimp only; omega))] at hb'
          exact if_pos (by first | omega | (dsimp only; omega))
      obtain ⟨m2, c1, c2⟩ := mnext_e (N := N) (S := S) (l := l) (mm := mb) hN hS Mb hLb hsl
      rw [hsf]
      refine ⟨mb, m2, hf0, c1, fun p hp => ?_, c2, fun R hR => ?_⟩
      · obtain ⟨g1, g2⟩ := hst p hp
        exact ⟨g1.c (fun j hj => by rw [c1.2 _ _ (by first | omega | (dsimp only; omega)), b2.2 _ _ (by first | omega | (dsimp only; omega)), a2.2 _ _ (by first | omega | (dsimp only; omega))]), g2⟩
      · unfold fX12_tell_59
        exact st_b a1 (st_b b1 (st_t hb hR))
    · have hsf : sfF (suN K F n d M R) st l = some (suN K F n d M R l, l) := by
        cases st with
        | none => rfl
        | some p =>
          have hp := (hst p rfl).2
          have hb' : ¬ nI (suN K F n d M R l) ≤ nI p.1 := hb
          rw [i_le, nI_toInt (by first | omega | (dsimp only; omega)), nI_toInt (by first | omega | (dsimp only; omega))] at hb'
          exact if_neg (by first | omega | (dsimp only; omega))
      obtain ⟨mc, o1, o2, o3⟩ := tcopy_l (N := N) (q := q) (l := l) (g := nI (suN K F n d M R l)) (a2 := nI M) (k59 := fX12_tell_59 N f) hn n 0 mb (by first | omega | (dsimp only; omega)) Mb hLb (fun j hj => by omega) N (by first | omega | (dsimp only; omega))
      have Mc : MS mc n K W F := MS_c Mb (fun k j e => o1.2 _ _ (by first | omega | (dsimp only; omega)))
      obtain ⟨m2, c1, c2⟩ := mnext_e (N := N) (S := S) (l := l) (mm := mc) hN hS Mc (hLb.c (fun j hj => o1.2 _ _ (by first | omega | (dsimp only; omega)))) hsl
      rw [hsf]
      refine ⟨mc, m2, hf0.tr (o1.mono (fun k j e => by omega)), c1, fun p hp => ?_, c2, fun R hR => ?_⟩
      · cases hp
        exact ⟨o2.c (fun j hj => c1.2 _ _ (by first | omega | (dsimp only; omega))), by show suN K F n d M _ l ≤ 108; omega⟩
      · unfold fX12_tell_59
        exact st_b a1 (st_b b1 (st_f hb (o3 R hR)))
  have h86 : ∀ g m1 m2 f, rd m1 183 0 = nI S → ∀ r, (fX12_nextStep N 175 (nI S) m1 = some (0, m2) → (bd2 (fX12_layBest N 175 (nI q) m2) fun x6 m7 => some (g, m7)) = r → fX12_tell_112 N (fX12_tell_59 N f) 175 (nI q) (nI M) g m1 = r) ∧ (fX12_nextStep N 175 (nI S) m1 = some (1, m2) → fX12_tell_59 N f 175 (nI q) (nI M) g m2 = r → fX12_tell_112 N (fX12_tell_59 N f) 175 (nI q) (nI M) g m1 = r) := by
    intro g m1 m2 f h0 R
    unfold fX12_tell_112
    simp only [LXm]
    rw [show ((0 : Int32).toNatClampNeg) = 0 from rfl, h0]
    exact ⟨fun a b => st_g (by decide) (st_b a (st_t rfl b)), fun a b => st_g (by decide) (st_b a (st_f (by decide) b))⟩
  intro m
  induction m with
  | zero =>
    intro l st mm f hrk hsl hf Q h0 hL hst
    obtain ⟨f, rfl⟩ : ∃ g, f = g + 1 := ⟨f - 1, by omega⟩
    obtain ⟨m1, m2, f1, f2, g1, g2, g3⟩ := one l st mm f hsl Q h0 hL hst
    have hf12 : Fr (fun k j => (185 ≤ k ∧ k ≤ 187) ∨ k = 189 ∨ k = 195 ∨ k = 190) mm m2 := (f1.mono (fun k j e => by omega)).tr (f2.mono (fun k j e => by omega))
    have hnx : fX12_nextStep N 175 (nI S) m1 = some (0, m2) := by
      rcases g2 with ⟨-, q⟩ | ⟨p', q, -⟩
      · exact q
      · have := (nx_rk hsl q).2.2.2; omega
    obtain ⟨p, hp⟩ := sf_some (su := suN K F n d M R) (enm n S 0 l) st (Or.inr enm_ne)
    have hp' : sfF (suN K F n d M R) st l = some p := hp
    obtain ⟨m3, l1, l2, l3, l4⟩ := layB_e (N := N) (r := q) (v := p.2) hN hq (MS_c Q.1 (fun k j e => hf12.2 _ _ (by first | omega | (dsimp only; omega))) : MS m2 n K W F) (g1 p hp').1
    refine ⟨m3, g3 _ ((h86 _ m1 m2 f (by rw [f1.2 _ _ (by first | omega | (dsimp only; omega))]; exact h0) _).1 hnx (st_b l1 rfl)), (hf12.mono (fun k j e => by omega)).tr (l2.mono (fun k j e => by omega)), fun p' hp'' => ?_⟩
    rw [hp] at hp''
    cases hp''
    exact ⟨l3, l4⟩
  | succ m ih =>
    intro l st mm f hrk hsl hf Q h0 hL hst
    obtain ⟨f, rfl⟩ : ∃ g, f = g + 1 := ⟨f - 1, by omega⟩
    obtain ⟨m1, m2, f1, f2, g1, g2, g3⟩ := one l st mm f hsl Q h0 hL hst
    have hf12 : Fr (fun k j => (185 ≤ k ∧ k ≤ 187) ∨ k = 189 ∨ k = 195 ∨ k = 190) mm m2 := (f1.mono (fun k j e => by omega)).tr (f2.mono (fun k j e => by omega))
    rcases g2 with ⟨b1, b2⟩ | ⟨p', b1, b2, b3⟩
    · rw [enm_z b1]
      obtain ⟨p, hp⟩ := sf_some (su := suN K F n d M R) [l] st (Or.inr (by intro e; cases e))
      have hp' : sfF (suN K F n d M R) st l = some p := hp
      obtain ⟨m3, l1, l2, l3, l4⟩ := layB_e (N := N) (r := q) (v := p.2) hN hq (MS_c Q.1 (fun k j e => hf12.2 _ _ (by first | omega | (dsimp only; omega))) : MS m2 n K W F) (g1 p hp').1
      refine ⟨m3, g3 _ ((h86 _ m1 m2 f (by rw [f1.2 _ _ (by first | omega | (dsimp only; omega))]; exact h0) _).1 b2 (st_b l1 rfl)), (hf12.mono (fun k j e => by omega)).tr (l2.mono (fun k j e => by omega)), fun p' hp'' => ?_⟩
      rw [hp] at hp''
      cases hp''
      exact ⟨l3, l4⟩
    · obtain ⟨o1, o2, o3, o4⟩ := nx_rk hsl b1
      rw [enm_u b1]
      obtain ⟨m', r1, r2, r3⟩ := ih p'.2 (sfF (suN K F n d M R) st l) m2 f (by first | omega | (dsimp only; omega)) o3 (by first | omega | (dsimp only; omega)) (Q.c (fun k j e => hf12.2 _ _ (by first | omega | (dsimp only; omega)))) (by rw [hf12.2 _ _ (by first | omega | (dsimp only; omega))]; exact h0) b3 g1
      exact ⟨m', g3 _ ((h86 _ m1 m2 f (by rw [f1.2 _ _ (by first | omega | (dsimp only; omega))]; exact h0) _).2 b2 r1), (hf12.mono (fun k j e => by omega)).tr r2, r3⟩
end Tm
