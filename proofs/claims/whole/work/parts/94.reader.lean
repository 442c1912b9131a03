/-! pure: a court's text -/
def fgN (g : Nat → Int32) (L p : Nat) : Option Nat := if p < L then (if 48 ≤ (g p).toInt ∧ (g p).toInt ≤ 57 then some ((g p).toInt - 48).toNat else none) else none
def kdN (x : Int32) : Option Nat := if x = 100 then some 3 else if x = 102 then some 2 else if x = 104 then some 5 else if x = 111 then some 1 else if x = 112 then some 4 else if x = 115 then some 0 else none
def sgN (g : Nat → Int32) (L p : Nat) (x : Int32) : Bool := decide (p < L ∧ g p = x)
/-- place behind, value, whether a stock -/
def nuN (g : Nat → Int32) (L p : Nat) : Nat × Nat × Bool := match fgN g L p with
  | none => (p, 0, false)
  | some a => match fgN g L (p + 1) with
    | none => (p + 1, a, decide (a ≤ 40))
    | some b => (p + 2, 10 * a + b, decide (10 * a + b ≤ 40))
/-- whether a suit, place behind (or of the fault), kind, worth, figure -/
def rsN (g : Nat → Int32) (L p k : Nat) : Bool × Nat × Nat × Nat × Nat := match kdN (g p) with
  | none => (false, p, 0, 0, 0)
  | some kd => if k < 6 then (match fgN g L (p + 1) with
    | none => (false, p + 1, 0, 0, 0)
    | some w => if w < 1 then (false, p + 1, 0, 0, 0) else if kd < 3 then (true, p + 2, kd, w, 0) else match fgN g L (p + 2) with
      | none => (false, p + 2, 0, 0, 0)
      | some f => if kd = 5 then (if f < k then (true, p + 3, kd, w, f) else (false, p + 2, 0, 0, 0)) else if f < 1 then (false, p + 2, 0, 0, 0) else (true, p + 3, kd, w, f)) else (false, p, 0, 0, 0)
def skN (g : Nat → Int32) (L : Nat) : Nat → Nat → Nat
  | 0, p => p
  | c + 1, p => if p < L ∧ g p = 32 then skN g L c (p + 1) else p
def skB (g : Nat → Int32) (L p : Nat) : Nat := skN g L (L - p) p
theorem skB_t {g : Nat → Int32} {L p : Nat} (h : p < L) (e : g p = 32) : skB g L p = skB g L (p + 1) := by
  unfold skB
  rw [show L - p = (L - (p + 1)) + 1 by omega]
  show (if p < L ∧ g p = 32 then skN g L (L - (p + 1)) (p + 1) else p) = _
  rw [if_pos ⟨h, e⟩]
theorem skB_f {g : Nat → Int32} {L p : Nat} (h : ¬ (p < L ∧ g p = 32)) : skB g L p = p := by
  unfold skB
  cases hc : L - p with
  | zero => rfl
  | succ c =>
    show (if p < L ∧ g p = 32 then skN g L c (p + 1) else p) = p
    rw [if_neg h]
theorem skN_le {g : Nat → Int32} {L : Nat} : ∀ c p, p + c ≤ L → skN g L c p ≤ L ∧ p ≤ skN g L c p
  | 0, p, h => ⟨h, Nat.le_refl _⟩
  | c + 1, p, h => by
    show (if p < L ∧ g p = 32 then skN g L c (p + 1) else p) ≤ L ∧ p ≤ (if p < L ∧ g p = 32 then skN g L c (p + 1) else p)
    have := skN_le (g := g) (L := L) c (p + 1) (by first | omega | (dsimp only; omega))
    split <;> omega
theorem skB_le {g : Nat → Int32} {L p : Nat} (h : p ≤ L) : skB g L p ≤ L ∧ p ≤ skB g L p := skN_le (L - p) p (by first | omega | (dsimp only; omega))
def prN (g : Nat → Int32) (L : Nat) : Nat → Nat → Nat → (Nat → Nat × Nat × Nat) → Option Nat × Nat × (Nat → Nat × Nat × Nat)
  | 0, p, k, T => (some p, k, T)
  | f + 1, p, k, T => if skB g L p < L then (if (rsN g L (skB g L p) k).1 = true then prN g L f (rsN g L (skB g L p) k).2.1 (k + 1) (fun j => if j = k then (rsN g L (skB g L p) k).2.2 else T j) else (some (rsN g L (skB g L p) k).2.1, k, T)) else (none, k, T)
theorem fgN_9 {g : Nat → Int32} {L p v : Nat} (h : fgN g L p = some v) : v ≤ 9 ∧ p < L ∧ (g p).toInt = 48 + v := by
  unfold fgN at h
  by_cases h1 : p < L
  · rw [if_pos h1] at h
    by_cases h2 : 48 ≤ (g p).toInt ∧ (g p).toInt ≤ 57
    · rw [if_pos h2] at h
      cases h
      omega
    · rw [if_neg h2] at h; cases h
  · rw [if_neg h1] at h; cases h
theorem fgN_n {g : Nat → Int32} {L p : Nat} (h : fgN g L p = none) : L ≤ p ∨ (g p).toInt < 48 ∨ 57 < (g p).toInt := by
  unfold fgN at h
  by_cases h1 : p < L
  · rw [if_pos h1] at h
    by_cases h2 : 48 ≤ (g p).toInt ∧ (g p).toInt ≤ 57
    · rw [if_pos h2] at h; cases h
    · omega
  · omega
theorem kdN_5 {x : Int32} {v : Nat} (h : kdN x = some v) : v ≤ 5 := by
  unfold kdN at h
  split at h
  · cases h; omega
  split at h
  · cases h; omega
  split at h
  · cases h; omega
  split at h
  · cases h; omega
  split at h
  · cases h; omega
  split at h
  · cases h; omega
  · cases h
section Rdc
variable {N z L : Nat} {g : Nat → Int32}
/-- a text of the class -/
def TXc (mm : Mm) (z L : Nat) (g : Nat → Int32) : Prop := L ≤ 80 ∧ rd mm z 1 = nI L ∧ fr z 0 = z + 1 ∧ ln (z + 1) = 80 ∧ 107 ≤ z ∧ z ≤ 113 ∧ ∀ i, i < L → rd mm (z + 1) i = g i
theorem TXc.c {mm m2 : Mm} (h : TXc mm z L g) (e : ∀ k j, 107 ≤ k ∧ k ≤ 114 → rd m2 k j = rd mm k j) : TXc m2 z L g := by
  obtain ⟨h1, h2, h3, h4, h5, h6, h7⟩ := h
  exact ⟨h1, by rw [e _ _ (by first | omega | (dsimp only; omega))]; exact h2, h3, h4, h5, h6, fun i hi => by rw [e _ _ (by first | omega | (dsimp only; omega))]; exact h7 i hi⟩
theorem sign_e {p : Nat} {mm : Mm} (X : TXc mm z L g) (h : rd mm 24 5 = nI p) (hp : p < 1000) : fX5_sign N 24 z mm = some (if p < L then g p else 1000, mm) := by
  obtain ⟨h1, h2, h3, h4, h5, h6, h7⟩ := X
  unfold fX5_sign
  rw [h, h3, h4]
  by_cases hpl : p < L
  · rw [if_pos hpl]
    refine st_b (has_t h2 (by first | omega | (dsimp only; omega)) hpl) (st_f (by decide) ?_)
    rw [h, nI_nat (by first | omega | (dsimp only; omega))]
    exact st_g (inb_n (by first | omega | (dsimp only; omega)) (by first | omega | (dsimp only; omega))) (by rw [h7 p hpl])
  · rw [if_neg hpl]
    exact st_b (has_f h2 (Or.inr ⟨p, by omega, by omega, rfl⟩)) (st_t rfl rfl)
theorem figure_e {p : Nat} {mm : Mm} (X : TXc mm z L g) (h : rd mm 24 5 = nI p) (hp : p < 1000) : fX5_figure N 24 z mm = some (oV (-9) (fgN g L p), mm) := by
  unfold fX5_figure
  refine st_b (sign_e X h hp) ?_
  have e48 : (48 : Int32).toInt = 48 := rfl
  have e57 : (57 : Int32).toInt = 57 := rfl
  by_cases hpl : p < L
  · rw [if_pos hpl]
    cases hf : fgN g L p with
    | none =>
      rcases fgN_n hf with q | q | q
      · omega
      · exact st_t (by rw [i_lt, e48]; exact q) rfl
      · by_cases h48 : g p < 48
        · exact st_t h48 rfl
        · exact st_f h48 (st_t (by rw [i_lt, e57]; exact q) rfl)
    | some v =>
      obtain ⟨q1, q2, q3⟩ := fgN_9 hf
      refine st_f (by rw [i_lt, e48]; omega) (st_f (by rw [i_lt, e57]; omega) ?_)
      have : g p - 48 = nI v := by
        rw [i_eq, i_sub _ _ (by rw [e48]; omega) (by rw [e48]; omega), e48, nI_toInt (by first | omega | (dsimp only; omega))]
        omega
      rw [this]; rfl
  · have : fgN g L p = none := by unfold fgN; exact if_neg hpl
    rw [if_neg hpl, this]
    exact st_f (by decide) (st_t (by decide) rfl)
theorem passes_e {p : Nat} {x : Int32} {mm : Mm} (hx : x ≠ 1000) (X : TXc mm z L g) (h : rd mm 24 5 = nI p) (hp : p < 1000) : fX5_passes N 24 z x mm = some (bI (sgN g L p x), if sgN g L p x = true then wr mm 24 5 (nI (p + 1)) else mm) := by
  unfold fX5_passes
  refine st_b (sign_e X h hp) ?_
  by_cases hs : p < L ∧ g p = x
  · have : sgN g L p x = true := decide_eq_true hs
    rw [if_pos hs.1, this, if_pos rfl]
    refine st_t hs.2 (st_n ?_)
    rw [h, nI_1]; rfl
  · have : sgN g L p x = false := decide_eq_false hs
    have e2 : (if sgN g L p x = true then wr mm 24 5 (nI (p + 1)) else mm) = mm := if_neg (by rw [this]; decide)
    rw [e2, this]
    by_cases hpl : p < L
    · rw [if_pos hpl]
      exact st_f (fun e => hs ⟨hpl, e⟩) rfl
    · rw [if_neg hpl]
      exact st_f (fun e => hx e.symm) rfl
theorem rstock_e {p a : Nat} {mm : Mm} (ha : a < 2) (X : TXc mm z L g) (h : rd mm 24 5 = nI p) (hp : p < 900) : ∃ m', fX5_passesStock N 24 z (nI a) mm = some (bI (nuN g L p).2.2, m') ∧ Fr (fun k j => (k = 24 ∧ j = 5) ∨ (k = 25 ∧ j = a)) mm m' ∧ rd m' 24 5 = nI (nuN g L p).1 ∧ ((nuN g L p).2.2 = true → rd m' 25 a = nI (nuN g L p).2.1) := by
  have fin : ∀ (q v : Nat) (m1 : Mm), Fr (fun k j => (k = 24 ∧ j = 5) ∨ (k = 25 ∧ j = a)) mm m1 → rd m1 24 5 = nI q → v < 1000 → ∃ m', fX5_passesStock_52 N 24 (nI a) (nI v) m1 = some (bI (decide (v ≤ 40)), m') ∧ Fr (fun k j => (k = 24 ∧ j = 5) ∨ (k = 25 ∧ j = a)) mm m' ∧ rd m' 24 5 = nI q ∧ (decide (v ≤ 40) = true → rd m' 25 a = nI v) := by
    intro q v m1 f1 h5 hv
    refine ⟨wr m1 25 a (nI v), ?_, fr_wr f1 (Or.inr ⟨rfl, rfl⟩), by rw [rd_wr_k (by first | omega | (dsimp only; omega))]; exact h5, fun _ => rd_wr_s⟩
    unfold fX5_passesStock_52
    simp only [LXb, nI_nat (show a < 2147483648 by omega)]
    refine st_k rfl ha (by first | omega | (dsimp only; omega)) (st_n ?_)
    by_cases h40 : v ≤ 40
    · rw [decide_eq_true h40]
      exact st_f (nI_nlt h40 (by first | omega | (dsimp only; omega))) rfl
    · rw [decide_eq_false h40]
      exact st_t (nI_lt (by first | omega | (dsimp only; omega)) (by first | omega | (dsimp only; omega))) rfl
  unfold fX5_passesStock
  cases hf : fgN g L p with
  | none =>
    have e : nuN g L p = (p, 0, false) := by unfold nuN; rw [hf]
    rw [e]
    refine ⟨mm, st_b (figure_e X h (by first | omega | (dsimp only; omega))) ?_, Fr.rf, h, fun q => by cases q⟩
    rw [hf]
    exact st_f (by decide) rfl
  | some v =>
    obtain ⟨v9, -, -⟩ := fgN_9 hf
    have X1 : TXc (wr mm 24 5 (nI (p + 1))) z L g := X.c (fun k j e => rd_wr_k (by first | omega | (dsimp only; omega)))
    have h1 : rd (wr mm 24 5 (nI (p + 1))) 24 5 = nI (p + 1) := rd_wr_s
    have F1 : Fr (fun k j => (k = 24 ∧ j = 5) ∨ (k = 25 ∧ j = a)) mm (wr mm 24 5 (nI (p + 1))) := fr_wr Fr.rf (Or.inl ⟨rfl, rfl⟩)
    cases hf2 : fgN g L (p + 1) with
    | none =>
      have e : nuN g L p = (p + 1, v, decide (v ≤ 40)) := by unfold nuN; rw [hf]; dsimp only; rw [hf2]
      rw [e]
      obtain ⟨m', c1, c2⟩ := fin (p + 1) v _ F1 h1 (by first | omega | (dsimp only; omega))
      refine ⟨m', st_b (figure_e X h (by first | omega | (dsimp only; omega))) ?_, c2⟩
      rw [hf]
      refine st_t (nI_pos' (by first | omega | (dsimp only; omega))) (st_n ?_)
      rw [h, nI_1]
      refine st_b (figure_e X1 h1 (by first | omega | (dsimp only; omega))) ?_
      rw [hf2]
      exact st_t (by decide) c1
    | some w =>
      obtain ⟨w9, -, -⟩ := fgN_9 hf2
      have e : nuN g L p = (p + 2, 10 * v + w, decide (10 * v + w ≤ 40)) := by unfold nuN; rw [hf]; dsimp only; rw [hf2]
      rw [e]
      obtain ⟨m', c1, c2⟩ := fin (p + 2) (10 * v + w) (wr (wr mm 24 5 (nI (p + 1))) 24 5 (nI (p + 2))) (fr_wr F1 (Or.inl ⟨rfl, rfl⟩)) rd_wr_s (by first | omega | (dsimp only; omega))
      refine ⟨m', st_b (figure_e X h (by first | omega | (dsimp only; omega))) ?_, c2⟩
      rw [hf]
      refine st_t (nI_pos' (by first | omega | (dsimp only; omega))) (st_n ?_)
      rw [h, nI_1]
      refine st_b (figure_e X1 h1 (by first | omega | (dsimp only; omega))) ?_
      rw [hf2]
      refine st_f (nI_pos (by first | omega | (dsimp only; omega))) (st_n ?_)
      rw [h1, nI_1]
      show fX5_passesStock_52 N 24 (nI a) (10 * nI v + nI w) _ = _
      rw [show (10 : Int32) = nI 10 from rfl, nI_mul, nI_add]
      exact c1
theorem cskip_e {mm : Mm} (hN : 100000 ≤ N) : ∀ c p mm, p + c = L → TXc mm z L g → rd mm 24 5 = nI p → ∀ f, c < f → ∃ m', fX5_skipBlanks_0 N f 24 z mm = some ((), m') ∧ Fr (fun k j => k = 24 ∧ j = 5) mm m' ∧ rd m' 24 5 = nI (skB g L p) := by
  intro c
  induction c with
  | zero =>
    intro p mm hp X h f hf
    obtain ⟨f, rfl⟩ : ∃ g, f = g + 1 := ⟨f - 1, by omega⟩
    have hL := X.1
    rw [skB_f (fun e => by omega)]
    refine ⟨mm, ?_, Fr.rf, h⟩
    unfold fX5_skipBlanks_0
    exact st_t (by rw [X.2.1, h]; exact nI_le (by first | omega | (dsimp only; omega)) (by first | omega | (dsimp only; omega))) rfl
  | succ c ih =>
    intro p mm hp X h f hf
    obtain ⟨f, rfl⟩ : ∃ g, f = g + 1 := ⟨f - 1, by omega⟩
    have hL := X.1
    have hpl : p < L := by omega
    unfold fX5_skipBlanks_0
    have hs := sign_e (N := N) X h (by first | omega | (dsimp only; omega))
    rw [if_pos hpl] at hs
    by_cases e : g p = 32
    · obtain ⟨m', c1, f1, g1⟩ := ih (p + 1) (wr mm 24 5 (nI (p + 1))) (by first | omega | (dsimp only; omega)) (X.c (fun k j e => rd_wr_k (by first | omega | (dsimp only; omega)))) rd_wr_s f (by first | omega | (dsimp only; omega))
      rw [skB_t hpl e]
      refine ⟨m', st_f (by rw [X.2.1, h]; exact nI_ge hpl (by first | omega | (dsimp only; omega))) (st_b hs (st_t e (st_n ?_))), (fr_wr (S := fun k j => k = 24 ∧ j = 5) Fr.rf ⟨rfl, rfl⟩).tr f1, g1⟩
      rw [h, nI_1]; exact c1
    · rw [skB_f (fun q => e q.2)]
      exact ⟨mm, st_f (by rw [X.2.1, h]; exact nI_ge hpl (by first | omega | (dsimp only; omega))) (st_b hs (st_f e rfl)), Fr.rf, h⟩
end Rdc
