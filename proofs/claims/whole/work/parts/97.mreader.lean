/-! pure: a court's text, the model -/
section Rdm
variable {N t L : Nat} {g : Nat → Int32}
/-- a text of the model -/
def TXm (mm : Mm) (t L : Nat) (g : Nat → Int32) : Prop := L ≤ 80 ∧ t < 4 ∧ rd mm 180 t = nI L ∧ (∀ i, i < L → rd mm 181 (80 * t + i) = g i) ∧ ∀ i, i < L → -128 ≤ (g i).toInt ∧ (g i).toInt ≤ 127
theorem TXm.c {mm m2 : Mm} (h : TXm mm t L g) (e : ∀ k j, k = 180 ∨ k = 181 → rd m2 k j = rd mm k j) : TXm m2 t L g :=
  ⟨h.1, h.2.1, by rw [e _ _ (by first | omega | (dsimp only; omega))]; exact h.2.2.1, fun i hi => by rw [e _ _ (by first | omega | (dsimp only; omega))]; exact h.2.2.2.1 i hi, h.2.2.2.2⟩
theorem here_e {p : Nat} {mm : Mm} (X : TXm mm t L g) (h : rd mm 175 14 = nI p) (hp : p < 1000) : fX12_here N 175 (nI t) mm = some (if p < L then g p else -9, mm) := by
  obtain ⟨h1, h2, h3, h4, -⟩ := X
  unfold fX12_here
  simp only [LXm, nI_nat (show t < 2147483648 by omega)]
  rw [h, n80, h3]
  refine st_k rfl h2 (by first | omega | (dsimp only; omega)) ?_
  by_cases hpl : p < L
  · rw [if_pos hpl, nI_nat (show 80 * t + p < 2147483648 by omega)]
    exact st_f (nI_ge hpl (by first | omega | (dsimp only; omega))) (st_k rfl (show 80 * t + p < 320 by omega) (by first | omega | (dsimp only; omega)) (by rw [h4 p hpl]))
  · rw [if_neg hpl]
    exact st_t (nI_le (by first | omega | (dsimp only; omega)) (by first | omega | (dsimp only; omega))) rfl
def fgB (o : Option Nat) (lo hi : Int32) : Bool := match o with
  | none => false
  | some v => decide (¬ nI v < lo ∧ ¬ hi < nI v)
theorem mfigure_e {p : Nat} {lo hi : Int32} {mm : Mm} (hlo : 0 ≤ lo.toInt) (hhi : hi.toInt ≤ 9) (X : TXm mm t L g) (h : rd mm 175 14 = nI p) (hp : p < 900) : ∃ m', fX12_readsFigure N 175 (nI t) lo hi mm = some (bI (fgB (fgN g L p) lo hi), m') ∧ Fr (fun k j => k = 175 ∧ (j = 14 ∨ j = 15)) mm m' ∧ rd m' 175 14 = nI (if fgB (fgN g L p) lo hi = true then p + 1 else p) ∧ ∀ v, fgN g L p = some v → rd m' 175 15 = nI v := by
  have hh := here_e (N := N) X h (by first | omega | (dsimp only; omega))
  generalize hx : (if p < L then g p else (-9 : Int32)) = x at hh
  have e48 : (48 : Int32).toInt = 48 := rfl
  have e9 : (-9 : Int32).toInt = -9 := rfl
  have hxb : -128 ≤ x.toInt ∧ x.toInt ≤ 127 := by
    rw [← hx]
    by_cases hpl : p < L
    · rw [if_pos hpl]; exact X.2.2.2.2 p hpl
    · rw [if_neg hpl, e9]; omega
  have hsub : (x - 48).toInt = x.toInt - 48 := by rw [i_sub _ _ (by rw [e48]; omega) (by rw [e48]; omega), e48]
  have F1 : Fr (fun k j => k = 175 ∧ (j = 14 ∨ j = 15)) mm (wr (wr mm 175 15 (x - 48)) 175 14 (nI p)) := fr_wr (fr_wr Fr.rf ⟨rfl, Or.inr rfl⟩) ⟨rfl, Or.inl rfl⟩
  have F2 : Fr (fun k j => k = 175 ∧ (j = 14 ∨ j = 15)) mm (wr (wr mm 175 15 (x - 48)) 175 14 (nI (p + 1))) := fr_wr (fr_wr Fr.rf ⟨rfl, Or.inr rfl⟩) ⟨rfl, Or.inl rfl⟩
  have h14 : rd (wr mm 175 15 (x - 48)) 175 14 = nI p := by rw [rd_wr_j (by first | omega | (dsimp only; omega))]; exact h
  have bad : (x - 48 < lo ∨ hi < x - 48) → fX12_readsFigure N 175 (nI t) lo hi mm = some (0, wr (wr mm 175 15 (x - 48)) 175 14 (nI p)) := by
    intro hb
    unfold fX12_readsFigure fX12_readsFigure_38
    refine st_b hh (st_n ?_)
    rw [rd_wr_s]
    refine st_b (in_f hb) (st_t rfl (st_n (st_g (by decide) ?_)))
    rw [h14, show nI p + 0 = nI p from Int32.add_zero _]
  have good : ¬ x - 48 < lo → ¬ hi < x - 48 → fX12_readsFigure N 175 (nI t) lo hi mm = some (1, wr (wr mm 175 15 (x - 48)) 175 14 (nI (p + 1))) := by
    intro h1 h2
    unfold fX12_readsFigure fX12_readsFigure_38
    refine st_b hh (st_n ?_)
    rw [rd_wr_s]
    refine st_b (in_t h1 h2) (st_f (by decide) (st_n (st_g (by decide) ?_)))
    rw [h14, nI_1]
  cases hf : fgN g L p with
  | none =>
    refine ⟨_, bad ?_, F1, rd_wr_s, fun v hv => by cases hv⟩
    rcases fgN_n hf with q | q | q
    · left; rw [i_lt, hsub, ← hx, if_neg (by first | omega | (dsimp only; omega)), e9]; omega
    · by_cases hpl : p < L
      · left; rw [i_lt, hsub, ← hx, if_pos hpl]; omega
      · left; rw [i_lt, hsub, ← hx, if_neg hpl, e9]; omega
    · by_cases hpl : p < L
      · right; rw [i_lt, hsub, ← hx, if_pos hpl]; omega
      · left; rw [i_lt, hsub, ← hx, if_neg hpl, e9]; omega
  | some v =>
    obtain ⟨v9, vl, vt⟩ := fgN_9 hf
    have hxv : x - 48 = nI v := by
      rw [i_eq, hsub, ← hx, if_pos vl, nI_toInt (by first | omega | (dsimp only; omega)), vt]; omega
    rw [hxv] at bad good F1 F2
    have hv15 : ∀ q, rd (wr (wr mm 175 15 (nI v)) 175 14 (nI q)) 175 15 = nI v := fun q => by rw [rd_wr_j (by first | omega | (dsimp only; omega)), rd_wr_s]
    by_cases h1 : nI v < lo
    · have e : fgB (some v) lo hi = false := decide_eq_false (fun q => q.1 h1)
      rw [e]
      exact ⟨_, bad (Or.inl h1), F1, rd_wr_s, fun w hw => by cases hw; exact hv15 _⟩
    · by_cases h2 : hi < nI v
      · have e : fgB (some v) lo hi = false := decide_eq_false (fun q => q.2 h2)
        rw [e]
        exact ⟨_, bad (Or.inr h2), F1, rd_wr_s, fun w hw => by cases hw; exact hv15 _⟩
      · have e : fgB (some v) lo hi = true := decide_eq_true ⟨h1, h2⟩
        rw [e]
        exact ⟨_, good h1 h2, F2, rd_wr_s, fun w hw => by cases hw; exact hv15 _⟩
theorem mkind_e {x : Int32} {mm : Mm} : fX12_kindOf N x mm = some (oV (-9) (kdN x), mm) := by
  unfold fX12_kindOf kdN
  by_cases h1 : x = 100
  · subst h1; rfl
  by_cases h2 : x = 102
  · subst h2; rfl
  by_cases h3 : x = 104
  · subst h3; rfl
  by_cases h4 : x = 111
  · subst h4; rfl
  by_cases h5 : x = 112
  · subst h5; rfl
  by_cases h6 : x = 115
  · subst h6; rfl
  · rw [if_neg h1, if_neg h2, if_neg h3, if_neg h4, if_neg h5, if_neg h6, if_neg h6, if_neg h4, if_neg h2, if_neg h1, if_neg h5, if_neg h3]; rfl
theorem mnum_e {p : Nat} {mm : Mm} (hN : 100000 ≤ N) (X : TXm mm t L g) (h : rd mm 175 14 = nI p) (hp : p ≤ L) : ∃ m', fX12_readsNumber N 175 (nI t) mm = some (bI (nuN g L p).2.2, m') ∧ Fr (fun k j => k = 175 ∧ (j = 14 ∨ j = 15)) mm m' ∧ rd m' 175 14 = nI (nuN g L p).1 ∧ ((nuN g L p).2.2 = true → rd m' 175 15 = nI (nuN g L p).2.1) := by
  have hL := X.1
  obtain ⟨f1, rfl⟩ : ∃ f, N = f + 3 := ⟨N - 3, by omega⟩
  have e48 : (48 : Int32).toInt = 48 := rfl
  have e57 : (57 : Int32).toInt = 57 := rfl
  have e9 : (-9 : Int32).toInt = -9 := rfl
  -- the end
  have fin : ∀ (q v : Nat) (m1 : Mm), p ≤ q → q ≤ p + 2 → rd m1 175 14 = nI q → rd m1 175 15 = nI v → v < 1000 → fX12_readsNumber_68 (f1 + 3) 175 (nI p) m1 = some (bI (decide (p < q ∧ v ≤ 40)), m1) := by
    intro q v m1 h1 h2 h14 h15 hv
    unfold fX12_readsNumber_68
    rw [h14, h15]
    by_cases hq : p < q
    · by_cases h40 : v ≤ 40
      · rw [decide_eq_true ⟨hq, h40⟩]
        exact st_f (nI_ge hq (by first | omega | (dsimp only; omega))) (st_f (nI_nlt h40 (by first | omega | (dsimp only; omega))) rfl)
      · rw [decide_eq_false (fun z => h40 z.2)]
        exact st_f (nI_ge hq (by first | omega | (dsimp only; omega))) (st_t (nI_lt (by first | omega | (dsimp only; omega)) (by first | omega | (dsimp only; omega))) rfl)
    · rw [decide_eq_false (fun z => hq z.1)]
      exact st_t (nI_le (by first | omega | (dsimp only; omega)) (by first | omega | (dsimp only; omega))) rfl
  -- a step
  have stp : ∀ (q v : Nat) (m1 : Mm) (f : Nat), p ≤ q → q < p + 2 → TXm m1 t L g → rd m1 175 14 = nI q → rd m1 175 15 = nI v → v < 100 → (fgN g L q = none → fX12_readsNumber_10 (f1 + 3) (f + 1) 175 (nI t) (nI p) m1 = fX12_readsNumber_68 (f1 + 3) 175 (nI p) m1) ∧ ∀ w, fgN g L q = some w → fX12_readsNumber_10 (f1 + 3) (f + 1) 175 (nI t) (nI p) m1 = fX12_readsNumber_10 (f1 + 3) f 175 (nI t) (nI p) (wr (wr m1 175 15 (nI (10 * v + w))) 175 14 (nI (q + 1))) := by
    intro q v m1 f h1 h2 X1 h14 h15 hv
    have hh := here_e (N := f1 + 3) X1 h14 (by first | omega | (dsimp only; omega))
    have pre : ∀ {r : Option (Int32 × Mm)}, (bd2 (fX12_in (f1 + 3) (if q < L then g q else -9) 48 57 m1) fun x7 m8 => if x7 = 0 then (fX12_readsNumber_68 (f1 + 3) 175 (nI p) m8) else (bd2 (fX12_here (f1 + 3) 175 (nI t) m8) fun x11 m12 => nm (wr m12 175 15 (((10 * (rd m8 175 15)) + x11) - 48)) fun m14 => nm (wr m14 175 14 ((rd m14 175 14) + 1)) fun m15 => fX12_readsNumber_10 (f1 + 3) f 175 (nI t) (nI p) m15)) = r → fX12_readsNumber_10 (f1 + 3) (f + 1) 175 (nI t) (nI p) m1 = r := by
      intro r hr
      unfold fX12_readsNumber_10
      refine st_f ?_ (st_b hh hr)
      rw [h14, nI_sub h1]
      exact nI_ge (show q - p < 2 by omega) (by first | omega | (dsimp only; omega))
    refine ⟨fun hn => pre (st_b (in_f ?_) (st_t rfl rfl)), fun w hw => ?_⟩
    · by_cases hql : q < L
      · rw [if_pos hql]
        rcases fgN_n hn with z | z | z
        · omega
        · left; rw [i_lt, e48]; exact z
        · right; rw [i_lt, e57]; exact z
      · rw [if_neg hql]; left; decide
    · obtain ⟨w9, wl, wt⟩ := fgN_9 hw
      rw [if_pos wl] at hh pre
      refine pre (st_b (in_t (by rw [i_lt, e48]; omega) (by rw [i_lt, e57]; omega)) (st_f (by decide) (st_b hh (st_n (st_n ?_)))))
      have : 10 * nI v + g q - 48 = nI (10 * v + w) := by
        rw [show (10 : Int32) = nI 10 from rfl, nI_mul, i_eq, nI_toInt (by first | omega | (dsimp only; omega))]
        have ha : (nI (10 * v) + g q).toInt = 10 * v + (48 + w) := by rw [i_add _ _ (by rw [nI_toInt (by first | omega | (dsimp only; omega)), wt]; omega) (by rw [nI_toInt (by first | omega | (dsimp only; omega)), wt]; omega), nI_toInt (by first | omega | (dsimp only; omega)), wt]; omega
        rw [i_sub _ _ (by rw [ha, e48]; omega) (by rw [ha, e48]; omega), ha, e48]
        omega
      rw [h15, this, rd_wr_j (by first | omega | (dsimp only; omega)), h14, nI_1]
  have start : ∀ {r : Option (Int32 × Mm)}, fX12_readsNumber_10 (f1 + 3) (f1 + 3) 175 (nI t) (nI p) (wr mm 175 15 (nI 0)) = r → fX12_readsNumber (f1 + 3) 175 (nI t) mm = r := by
    intro r hr
    unfold fX12_readsNumber
    refine st_n ?_
    rw [h]; exact hr
  have X0 : TXm (wr mm 175 15 (nI 0)) t L g := X.c (fun k j e => rd_wr_k (by first | omega | (dsimp only; omega)))
  have h0 : rd (wr mm 175 15 (nI 0)) 175 14 = nI p := by rw [rd_wr_j (by first | omega | (dsimp only; omega))]; exact h
  have F0 : Fr (fun k j => k = 175 ∧ (j = 14 ∨ j = 15)) mm (wr mm 175 15 (nI 0)) := fr_wr Fr.rf ⟨rfl, Or.inr rfl⟩
  obtain ⟨a1, a2⟩ := stp p 0 _ (f1 + 2) (Nat.le_refl _) (by first | omega | (dsimp only; omega)) X0 h0 rd_wr_s (by first | omega | (dsimp only; omega))
  cases hf : fgN g L p with
  | none =>
    have e : nuN g L p = (p, 0, false) := by unfold nuN; rw [hf]
    rw [e]
    have z := fin p 0 _ (Nat.le_refl _) (by first | omega | (dsimp only; omega)) h0 rd_wr_s (by first | omega | (dsimp only; omega))
    rw [decide_eq_false (fun q => by omega)] at z
    exact ⟨_, start ((a1 hf).trans z), F0, h0, fun q => by cases q⟩
  | some v =>
    obtain ⟨v9, vl, -⟩ := fgN_9 hf
    have X1 : TXm (wr (wr (wr mm 175 15 (nI 0)) 175 15 (nI (10 * 0 + v))) 175 14 (nI (p + 1))) t L g := X0.c (fun k j e => by rw [rd_wr_k (by first | omega | (dsimp only; omega)), rd_wr_k (by first | omega | (dsimp only; omega))])
    have F1 : Fr (fun k j => k = 175 ∧ (j = 14 ∨ j = 15)) mm (wr (wr (wr mm 175 15 (nI 0)) 175 15 (nI (10 * 0 + v))) 175 14 (nI (p + 1))) := fr_wr (fr_wr F0 ⟨rfl, Or.inr rfl⟩) ⟨rfl, Or.inl rfl⟩
    have h15 : rd (wr (wr (wr mm 175 15 (nI 0)) 175 15 (nI (10 * 0 + v))) 175 14 (nI (p + 1))) 175 15 = nI v := by rw [rd_wr_j (by first | omega | (dsimp only; omega)), rd_wr_s]; congr 1; omega
    obtain ⟨b1, b2⟩ := stp (p + 1) v _ (f1 + 1) (by first | omega | (dsimp only; omega)) (by first | omega | (dsimp only; omega)) X1 rd_wr_s h15 (by first | omega | (dsimp only; omega))
    cases hf2 : fgN g L (p + 1) with
    | none =>
      have e : nuN g L p = (p + 1, v, decide (v ≤ 40)) := by unfold nuN; rw [hf]; dsimp only; rw [hf2]
      rw [e]
      have z := fin (p + 1) v _ (by first | omega | (dsimp only; omega)) (by first | omega | (dsimp only; omega)) rd_wr_s h15 (by first | omega | (dsimp only; omega))
      rw [show decide (p < p + 1 ∧ v ≤ 40) = decide (v ≤ 40) from by simp] at z
      exact ⟨_, start ((a2 v hf).trans ((b1 hf2).trans z)), F1, rd_wr_s, fun _ => h15⟩
    | some w =>
      obtain ⟨w9, wl, -⟩ := fgN_9 hf2
      have e : nuN g L p = (p + 2, 10 * v + w, decide (10 * v + w ≤ 40)) := by unfold nuN; rw [hf]; dsimp only; rw [hf2]
      rw [e]
      have a3 := a2 v hf
      generalize wr (wr (wr mm 175 15 (nI 0)) 175 15 (nI (10 * 0 + v))) 175 14 (nI (p + 1)) = m1 at X1 F1 h15 b1 b2 a3
      have h142 : rd (wr (wr m1 175 15 (nI (10 * v + w))) 175 14 (nI (p + 1 + 1))) 175 14 = nI (p + 2) := rd_wr_s
      have h152 : rd (wr (wr m1 175 15 (nI (10 * v + w))) 175 14 (nI (p + 1 + 1))) 175 15 = nI (10 * v + w) := by rw [rd_wr_j (by first | omega | (dsimp only; omega)), rd_wr_s]
      have z := fin (p + 2) (10 * v + w) _ (by first | omega | (dsimp only; omega)) (by first | omega | (dsimp only; omega)) h142 h152 (by first | omega | (dsimp only; omega))
      rw [show decide (p < p + 2 ∧ 10 * v + w ≤ 40) = decide (10 * v + w ≤ 40) from by simp] at z
      refine ⟨_, start (a3.trans ((b2 w hf2).trans ?_)), fr_wr (fr_wr F1 ⟨rfl, Or.inr rfl⟩) ⟨rfl, Or.inl rfl⟩, h142, fun _ => h152⟩
      unfold fX12_readsNumber_10
      refine st_t ?_ z
      rw [h142, nI_sub (by first | omega | (dsimp only; omega))]
      exact nI_le (show 2 ≤ p + 2 - p by omega) (by first | omega | (dsimp only; omega))
end Rdm
