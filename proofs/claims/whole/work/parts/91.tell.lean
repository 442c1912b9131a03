/-! pure: tell, the class -/
theorem SC_g {o : Nat} (h : o < 6) : SC (70 + 4 * o) := by
  rcases (by omega : o = 0 ∨ o = 1 ∨ o = 2 ∨ o = 3 ∨ o = 4 ∨ o = 5) with rfl | rfl | rfl | rfl | rfl | rfl <;> exact ⟨rfl, rfl, rfl, rfl, rfl, rfl, by decide, by decide⟩
/-- how many sets of suits the rules left would win against a laying -/
def vsN (K F : Nat → Nat) (n d : Nat) (R : Nat → Nat → Nat) (l : Nat → Nat) (o : Nat) : Nat := wsN (wn K F d l (R o)) n
def suN (K F : Nat → Nat) (n d M : Nat) (R : Nat → Nat → Nat) (l : Nat → Nat) : Nat := uNk (bitN M) (fun a o => decide (vsN K F n d R l a = vsN K F n d R l o)) 6
theorem suN_6 {K F : Nat → Nat} {n d M : Nat} {R : Nat → Nat → Nat} {l : Nat → Nat} : suN K F n d M R l ≤ 6 := uNk_le 6
section Te
variable {N n d M : Nat} {K W F : Nat → Nat} {R : Nat → Nat → Nat}
/-- what the class' tell stands on -/
def TQ (mm : Mm) (n d M : Nat) (K W F : Nat → Nat) (R : Nat → Nat → Nat) : Prop := CS mm n K W F ∧ rd mm 3 6 = nI d ∧ rd mm 55 5 = nI M ∧ ∀ q, q < 6 → HA mm (62 + q) n (R q)
theorem TQ.c {mm m2 : Mm} (h : TQ mm n d M K W F R) (e : ∀ k j, k ≤ 22 ∨ (k = 55 ∧ j = 5) ∨ (62 ≤ k ∧ k ≤ 67) → rd m2 k j = rd mm k j) : TQ m2 n d M K W F R :=
  ⟨CS_c h.1 (fun k j q => e _ _ (by first | omega | (dsimp only; omega))), by rw [e _ _ (by first | omega | (dsimp only; omega))]; exact h.2.1, by rw [e _ _ (by first | omega | (dsimp only; omega))]; exact h.2.2.1, fun q hq => (h.2.2.2 q hq).c (fun j _ => e _ _ (by first | omega | (dsimp only; omega)))⟩
def SWa (mm : Mm) (d M : Nat) (K W F : Nat → Nat) (R : Nat → Nat → Nat) (l : Nat → Nat) (i : Nat) : Prop := (∀ o, o < 6 → bitN M o = true → SW mm (70 + 4 * o) K W F d l (R o) i) ∧ ∀ o, o < 6 → rd mm (73 + 4 * o) 0 = 0
theorem SWa.c {mm m2 : Mm} {l : Nat → Nat} {i : Nat} (h : SWa mm d M K W F R l i) (e : ∀ k j, 70 ≤ k ∧ k ≤ 93 → rd m2 k j = rd mm k j) : SWa m2 d M K W F R l i :=
  ⟨fun o ho hb => (h.1 o ho hb).c (fun k j q => e _ _ (by first | omega | (dsimp only; omega))), fun o ho => by rw [e _ _ (by first | omega | (dsimp only; omega))]; exact h.2 o ho⟩
theorem uSet_l {i : Nat} {l : Nat → Nat} (hN : 100000 ≤ N) (hd9 : d ≤ 9) (hM : M < 64) (hi : i ≤ n) (hl : ∀ j, j < n → l j ≤ 1000) (hR : ∀ q, q < 6 → ∀ j, j < n → R q j ≤ 1000) : ∀ c o mm, o + c = 6 → TQ mm n d M K W F R → HA mm 34 n l → (∀ q, q < o → bitN M q = true → SW mm (70 + 4 * q) K W F d l (R q) n ∧ rd mm 69 q = nI (vsN K F n d R l q)) → (∀ q, o ≤ q → q < 6 → bitN M q = true → SW mm (70 + 4 * q) K W F d l (R q) i) → (∀ q, q < 6 → rd mm (73 + 4 * q) 0 = 0) → ∀ f, c < f → ∃ m', fX2_unlikeSets_3 N f 55 3 34 (nI i) (nI o) mm = some (nI (suN K F n d M R l), m') ∧ Fr (fun k _ => k = 69 ∨ (70 ≤ k ∧ k ≤ 93)) mm m' ∧ SWa m' d M K W F R l n := by
  intro c
  induction c with
  | zero =>
    intro o mm ho Q H hd1 hd2 hz f hf
    obtain ⟨f, rfl⟩ : ∃ g, f = g + 1 := ⟨f - 1, by omega⟩
    obtain rfl : o = 6 := by omega
    have hn := Q.1.2.1
    have hp := pw_n n (by first | omega | (dsimp only; omega))
    refine ⟨mm, ?_, Fr.rf, fun q hq hb => (hd1 q hq hb).1, hz⟩
    unfold fX2_unlikeSets_3
    refine st_t (nI_le (by first | omega | (dsimp only; omega)) (by first | omega | (dsimp only; omega))) (st_b (uOnes_e (V := vsN K F n d R l) hN hM Q.2.2.1 (fun a ha hb => ⟨(hd1 a ha hb).2, ?_⟩)) rfl)
    have : vsN K F n d R l a < 2 ^ n := mkN_lt n
    omega
  | succ c ih =>
    intro o mm ho Q H hd1 hd2 hz f hf
    obtain ⟨f, rfl⟩ : ∃ g, f = g + 1 := ⟨f - 1, by omega⟩
    have hn := Q.1.2.1
    have ho6 : o < 6 := by omega
    unfold fX2_unlikeSets_3 fX2_unlikeSets_63
    rw [Q.2.2.1, nI_1 o]
    cases hb : bitN M o
    · obtain ⟨m', c1, f1, g1⟩ := ih (o + 1) mm (by first | omega | (dsimp only; omega)) Q H (fun q hq hbq => by
        by_cases hqo : q = o
        · subst hqo; rw [hb] at hbq; cases hbq
        · exact hd1 q (by first | omega | (dsimp only; omega)) hbq) (fun q h1 h2 hbq => hd2 q (by first | omega | (dsimp only; omega)) h2 hbq) hz f (by first | omega | (dsimp only; omega))
      exact ⟨m', st_f (nI_ge (by first | omega | (dsimp only; omega)) (by first | omega | (dsimp only; omega))) (st_t (bit_f hM ho6 hb) c1), f1, g1⟩
    · obtain ⟨m1, c1, f1, w1, -, -⟩ := weigh_e (N := N) (S := 70 + 4 * o) (p := 34) (q := 62 + o) (L := 6) (M := 6) (d := d) (x := l) (y := R o) (i := i) (mm := mm) hN (SC_g ho6) hd9 rfl (ln_6 (Or.inr (Or.inl (by first | omega | (dsimp only; omega))))) ⟨Nat.le_refl _, by decide⟩ ⟨Nat.le_refl _, by decide⟩ (Or.inl (by first | omega | (dsimp only; omega))) (Or.inl (by first | omega | (dsimp only; omega))) hl (hR o ho6) hi Q.1 Q.2.1 H (Q.2.2.2 o ho6) (hd2 o (Nat.le_refl _) ho6 hb)
      have hwon := wonOf_e (N := N) (S := 70 + 4 * o) (mm := m1) (w := wn K F d l (R o)) hN (SC_g ho6) hn (fun j _ => wn_2) (fun j hj => w1.1 j hj)
      have F1 : Fr (fun k j => (k = 69 ∧ j = o) ∨ (70 + 4 * o ≤ k ∧ k ≤ 73 + 4 * o)) mm (wr m1 69 o (nI (vsN K F n d R l o))) := fr_wr (f1.mono (fun k j e => by omega)) (Or.inl ⟨rfl, rfl⟩)
      have hSo : SW (wr m1 69 o (nI (vsN K F n d R l o))) (70 + 4 * o) K W F d l (R o) n := w1.c (fun k j e => rd_wr_k (by first | omega | (dsimp only; omega)))
      obtain ⟨m', c2, f2, g2⟩ := ih (o + 1) (wr m1 69 o (nI (vsN K F n d R l o))) (by first | omega | (dsimp only; omega)) (Q.c (fun k j e => F1.2 _ _ (by first | omega | (dsimp only; omega)))) (H.c (fun j _ => F1.2 _ _ (by first | omega | (dsimp only; omega)))) (fun q hq hbq => by
        by_cases hqo : q = o
        · subst hqo; exact ⟨hSo, rd_wr_s⟩
        · obtain ⟨z1, z2⟩ := hd1 q (by first | omega | (dsimp only; omega)) hbq
          exact ⟨z1.c (fun k j e => F1.2 _ _ (by first | omega | (dsimp only; omega))), by rw [F1.2 _ _ (by first | omega | (dsimp only; omega))]; exact z2⟩) (fun q h1 h2 hbq => (hd2 q (by first | omega | (dsimp only; omega)) h2 hbq).c (fun k j e => F1.2 _ _ (by first | omega | (dsimp only; omega)))) (fun q hq => by
        by_cases hqo : q = o
        · subst hqo
          have := hSo.2 0 (by first | omega | (dsimp only; omega))
          rw [show 73 + 4 * q = 70 + 4 * q + 3 by omega, this]; rfl
        · rw [F1.2 _ _ (by first | omega | (dsimp only; omega))]; exact hz q hq) f (by first | omega | (dsimp only; omega))
      refine ⟨m', st_f (nI_ge (by first | omega | (dsimp only; omega)) (by first | omega | (dsimp only; omega))) (st_f (bit_t hM ho6 hb) ?_), (F1.mono (fun k j e => by omega)).tr f2, g2⟩
      simp only [LXg, nI_nat (show o < 2147483648 by omega)]
      refine st_k rfl ho6 (by first | omega | (dsimp only; omega)) (st_k rfl ho6 (by first | omega | (dsimp only; omega)) (st_b c1 (st_k rfl ho6 (by first | omega | (dsimp only; omega)) ?_)))
      rw [f1.2 3 5 (by first | omega | (dsimp only; omega)), Q.1.1]
      refine st_b hwon (st_k rfl ho6 (by first | omega | (dsimp only; omega)) (st_n ?_))
      exact c2
theorem uSet_e {i : Nat} {l : Nat → Nat} {mm : Mm} (hN : 100000 ≤ N) (hd9 : d ≤ 9) (hM : M < 64) (hi : i ≤ n) (hl : ∀ j, j < n → l j ≤ 1000) (hR : ∀ q, q < 6 → ∀ j, j < n → R q j ≤ 1000) (Q : TQ mm n d M K W F R) (H : HA mm 34 n l) (S : SWa mm d M K W F R l i) : ∃ m', fX2_unlikeSets N 55 3 34 (nI i) mm = some (nI (suN K F n d M R l), m') ∧ Fr (fun k _ => k = 69 ∨ (70 ≤ k ∧ k ≤ 93)) mm m' ∧ SWa m' d M K W F R l n :=
  uSet_l hN hd9 hM hi hl hR 6 0 mm (by first | omega | (dsimp only; omega)) Q H (fun q hq => by omega) (fun q _ hq hb => S.1 q hq hb) S.2 N (by first | omega | (dsimp only; omega))
theorem ctell_l {S q : Nat} (hN : 100000 ≤ N) (hd9 : d ≤ 9) (hM : M < 64) (hS : S ≤ 40) (hq : q < 6) (hR : ∀ q, q < 6 → ∀ j, j < n → R q j ≤ 1000) : ∀ m l i c st mm f, rkN n S l ≤ m → smN l n ≤ S → i ≤ n → c + m + 2 < 1000000 → m + 1 < f → TQ mm n d M K W F R → SWa mm d M K W F R l i → HA mm 34 n l → rd mm 33 1 = nI n → rd mm 33 2 = nI (S - smN l n) → (∀ p, st = some p → rd mm (95 + 2 * q) 1 = nI n ∧ HA mm (96 + 2 * q) n p.2 ∧ p.1 ≤ 108) → ∃ m', fX11_tell_92 N f 0 (95 + 2 * q) (grI st) (nI i) (nI c) mm = some (grI ((enm n S m l).foldl (sfF (suN K F n d M R)) st), m') ∧ Fr (fun k j => k = 33 ∨ k = 34 ∨ (69 ≤ k ∧ k ≤ 93) ∨ (k = 95 + 2 * q ∧ j = 1) ∨ k = 96 + 2 * q) mm m' ∧ (∀ o, o < 6 → rd m' (73 + 4 * o) 0 = 0) ∧ ∀ p, (enm n S m l).foldl (sfF (suN K F n d M R)) st = some p → rd m' (95 + 2 * q) 1 = nI n ∧ HA m' (96 + 2 * q) n p.2 ∧ p.1 ≤ 108 := by
  have one : ∀ l i c st mm f, smN l n ≤ S → i ≤ n → c < 1000000 → TQ mm n d M K W F R → SWa mm d M K W F R l i → HA mm 34 n l → rd mm 33 1 = nI n → rd mm 33 2 = nI (S - smN l n) → (∀ p, st = some p → rd mm (95 + 2 * q) 1 = nI n ∧ HA mm (96 + 2 * q) n p.2 ∧ p.1 ≤ 108) → ∃ m1 m2, Fr (fun k j => (69 ≤ k ∧ k ≤ 93) ∨ (k = 95 + 2 * q ∧ j = 1) ∨ k = 96 + 2 * q) mm m1 ∧ Fr (fun k j => (k = 33 ∧ j = 2) ∨ k = 34) m1 m2 ∧ SWa m2 d M K W F R l n ∧ (∀ p, sfF (suN K F n d M R) st l = some p → rd m2 (95 + 2 * q) 1 = nI n ∧ HA m2 (96 + 2 * q) n p.2 ∧ p.1 ≤ 108) ∧ ((nxR n l (S - smN l n) = none ∧ fX3_next N 33 m1 = some (-9, m2)) ∨ ∃ p, nxR n l (S - smN l n) = some p ∧ fX3_next N 33 m1 = some (nI p.1, m2) ∧ HA m2 34 n p.2 ∧ rd m2 33 2 = nI (S - smN p.2 n)) ∧ ∀ r x1, fX3_next N 33 m1 = some (x1, m2) → fX11_tell_92 N f 0 (95 + 2 * q) (grI (sfF (suN K F n d M R) st l)) x1 (nI (c + 1)) m2 = r → fX11_tell_92 N (f + 1) 0 (95 + 2 * q) (grI st) (nI i) (nI c) mm = r := by
    intro l i c st mm f hsl hi hc Q HS hL h1 h2 hst
    have hn := Q.1.2.1
    have hl40 : ∀ i, i < n → l i ≤ 1000 := fun i hi => by have := smN_at (l := l) hi; omega
    have s1 : suN K F n d M R l ≤ 6 := suN_6
    obtain ⟨ma, a1, a2, a3⟩ := uSet_e (N := N) hN hd9 hM hi hl40 hR Q hL HS
    have nxt : ∀ m1, Fr (fun k j => (69 ≤ k ∧ k ≤ 93) ∨ (k = 95 + 2 * q ∧ j = 1) ∨ k = 96 + 2 * q) mm m1 → ∃ m2, Fr (fun k j => (k = 33 ∧ j = 2) ∨ k = 34) m1 m2 ∧ ((nxR n l (S - smN l n) = none ∧ fX3_next N 33 m1 = some (-9, m2)) ∨ ∃ p, nxR n l (S - smN l n) = some p ∧ fX3_next N 33 m1 = some (nI p.1, m2) ∧ HA m2 34 n p.2 ∧ rd m2 33 2 = nI (S - smN p.2 n)) := by
      intro m1 f1
      exact cnext_e (N := N) (S := S) (l := l) (mm := m1) hN hn hS (hL.c (fun j hj => f1.2 _ _ (by first | omega | (dsimp only; omega)))) (by rw [f1.2 _ _ (by first | omega | (dsimp only; omega))]; exact h1) (by rw [f1.2 _ _ (by first | omega | (dsimp only; omega))]; exact h2) hsl
    have hf0 : Fr (fun k j => (69 ≤ k ∧ k ≤ 93) ∨ (k = 95 + 2 * q ∧ j = 1) ∨ k = 96 + 2 * q) mm ma := a2.mono (fun k j e => by omega)
    have go : ∀ r, (if nI (suN K F n d M R l) ≤ grI st then (bd2 (fX3_next N 33 ma) fun x1 m2 => fX11_tell_92 N f 0 (95 + 2 * q) (grI st) x1 (nI (c + 1)) m2) else (bd2 (fX6_take N (95 + 2 * q) 34 (nI n) ma) fun x10 m11 => bd2 (fX3_next N 33 m11) fun x1 m2 => fX11_tell_92 N f 0 (95 + 2 * q) (nI (suN K F n d M R l)) x1 (nI (c + 1)) m2)) = r → fX11_tell_92 N (f + 1) 0 (95 + 2 * q) (grI st) (nI i) (nI c) mm = r := by
      intro r hR
      unfold fX11_tell_92 fX11_tell_153
      simp only [LXa, LXb, nI_1]
      refine st_f (nI_pos (by first | omega | (dsimp only; omega))) (st_f (nI_ge (b := 1000000) (by first | omega | (dsimp only; omega)) (by first | omega | (dsimp only; omega))) (st_b a1 ?_))
      rw [a2.2 3 5 (by first | omega | (dsimp only; omega)), Q.1.1]
      exact hR
    have hkeep : nI (suN K F n d M R l) ≤ grI st → sfF (suN K F n d M R) st l = st := by
      intro hb
      cases st with
      | none =>
        have hb' : nI (suN K F n d M R l) ≤ (-1 : Int32) := hb
        rw [i_le, nI_toInt (by first | omega | (dsimp only; omega))] at hb'
        have : (-1 : Int32).toInt = -1 := rfl
        omega
      | some p =>
        have hp := (hst p rfl).2.2
        have hb' : nI (suN K F n d M R l) ≤ nI p.1 := hb
        rw [i_le, nI_toInt (by first | omega | (dsimp only; omega)), nI_toInt (by first | omega | (dsimp only; omega))] at hb'
        exact if_pos (by first | omega | (dsimp only; omega))
    have htake : ¬ nI (suN K F n d M R l) ≤ grI st → sfF (suN K F n d M R) st l = some (suN K F n d M R l, l) := by
      intro hb
      cases st with
      | none => rfl
      | some p =>
        have hp := (hst p rfl).2.2
        have hb' : ¬ nI (suN K F n d M R l) ≤ nI p.1 := hb
        rw [i_le, nI_toInt (by first | omega | (dsimp only; omega)), nI_toInt (by first | omega | (dsimp only; omega))] at hb'
        exact if_neg (by first | omega | (dsimp only; omega))
    by_cases hb : nI (suN K F n d M R l) ≤ grI st
    · obtain ⟨m2, n1, n2⟩ := nxt ma hf0
      rw [hkeep hb]
      refine ⟨ma, m2, hf0, n1, a3.c (fun k j e => n1.2 _ _ (by first | omega | (dsimp only; omega))), fun p hp => ?_, n2, fun r x1 hx hR => go r (st_t hb (st_b hx hR))⟩
      obtain ⟨g1, g2, g3⟩ := hst p hp
      exact ⟨by rw [n1.2 _ _ (by first | omega | (dsimp only; omega)), a2.2 _ _ (by first | omega | (dsimp only; omega))]; exact g1, g2.c (fun j hj => by rw [n1.2 _ _ (by first | omega | (dsimp only; omega)), a2.2 _ _ (by first | omega | (dsimp only; omega))]), g3⟩
    · have hsf := htake hb
      obtain ⟨mb, t1, t2, t3, t4⟩ := take_e (N := N) (p := 34) (v := l) hq rfl hn (by first | omega | (dsimp only; omega)) (HA.c hL (fun j hj => a2.2 _ _ (by first | omega | (dsimp only; omega))) : HA ma 34 n l)
      have hf1 : Fr (fun k j => (69 ≤ k ∧ k ≤ 93) ∨ (k = 95 + 2 * q ∧ j = 1) ∨ k = 96 + 2 * q) mm mb := hf0.tr (t2.mono (fun k j e => by omega))
      obtain ⟨m2, n1, n2⟩ := nxt mb hf1
      rw [hsf]
      refine ⟨mb, m2, hf1, n1, a3.c (fun k j e => by rw [n1.2 _ _ (by first | omega | (dsimp only; omega)), t2.2 _ _ (by first | omega | (dsimp only; omega))]), fun p hp => ?_, n2, fun r x1 hx hR => go r (st_f hb (st_b t1 (st_b hx hR)))⟩
      cases hp
      exact ⟨by rw [n1.2 _ _ (by first | omega | (dsimp only; omega))]; exact t3, t4.c (fun j hj => n1.2 _ _ (by first | omega | (dsimp only; omega))), by show suN K F n d M R l ≤ 108; omega⟩
  intro m
  induction m with
  | zero =>
    intro l i c st mm f hrk hsl hi hc hf Q HS hL h1 h2 hst
    obtain ⟨f, rfl⟩ : ∃ g, f = g + 1 := ⟨f - 1, by omega⟩
    obtain ⟨f, rfl⟩ : ∃ g, f = g + 1 := ⟨f - 1, by omega⟩
    obtain ⟨m1, m2, f1, f2, w2, g1, g2, g3⟩ := one l i c st mm (f + 1) hsl hi (by first | omega | (dsimp only; omega)) Q HS hL h1 h2 hst
    have hnx : fX3_next N 33 m1 = some (-9, m2) := by
      rcases g2 with ⟨-, q⟩ | ⟨p', q, -⟩
      · exact q
      · have := (nx_rk hsl q).2.2.2; omega
    refine ⟨m2, g3 _ _ hnx ?_, (f1.mono (fun k j e => by omega)).tr (f2.mono (fun k j e => by omega)), w2.2, g1⟩
    unfold fX11_tell_92
    exact st_t (by decide) rfl
  | succ m ih =>
    intro l i c st mm f hrk hsl hi hc hf Q HS hL h1 h2 hst
    obtain ⟨f, rfl⟩ : ∃ g, f = g + 1 := ⟨f - 1, by omega⟩
    obtain ⟨m1, m2, f1, f2, w2, g1, g2, g3⟩ := one l i c st mm f hsl hi (by first | omega | (dsimp only; omega)) Q HS hL h1 h2 hst
    have hf12 : Fr (fun k j => k = 33 ∨ k = 34 ∨ (69 ≤ k ∧ k ≤ 93) ∨ (k = 95 + 2 * q ∧ j = 1) ∨ k = 96 + 2 * q) mm m2 := (f1.mono (fun k j e => by omega)).tr (f2.mono (fun k j e => by omega))
    rcases g2 with ⟨b1, b2⟩ | ⟨p', b1, b2, b3, b4⟩
    · rw [enm_z b1]
      refine ⟨m2, g3 _ _ b2 ?_, hf12, w2.2, g1⟩
      obtain ⟨f, rfl⟩ : ∃ g, f = g + 1 := ⟨f - 1, by omega⟩
      unfold fX11_tell_92
      exact st_t (by decide) rfl
    · obtain ⟨o1, o2, o3, o4⟩ := nx_rk hsl b1
      rw [enm_u b1]
      have hn := Q.1.2.1
      have W2 : SWa m2 d M K W F R p'.2 p'.1 := ⟨fun o ho hb => SW_pre (w2.1 o ho hb) (fun j hj hk => (Q.1.2.2 j hj).2.2.2.2.2.2.1 hk) (by first | omega | (dsimp only; omega)) o2, w2.2⟩
      obtain ⟨m', r1, r2, r3⟩ := ih p'.2 p'.1 (c + 1) (sfF (suN K F n d M R) st l) m2 f (by first | omega | (dsimp only; omega)) o3 (by first | omega | (dsimp only; omega)) (by first | omega | (dsimp only; omega)) (by first | omega | (dsimp only; omega)) (Q.c (fun k j e => hf12.2 _ _ (by first | omega | (dsimp only; omega)))) W2 b3 (by rw [f2.2 _ _ (by first | omega | (dsimp only; omega)), f1.2 _ _ (by first | omega | (dsimp only; omega))]; exact h1) b4 g1
      exact ⟨m', g3 _ _ b2 r1, hf12.tr r2, r3⟩
end Te
