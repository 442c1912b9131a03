/-! pure: layings by a rule -/
theorem nI_div {a b : Nat} (ha : a < 2147483648) (hb : b < 2147483648) : nI a / nI b = nI (a / b) := by
  have hd : a / b ≤ a := Nat.div_le_self a b
  rw [i_eq, Int32.toInt_div, nI_toInt ha, nI_toInt hb, nI_toInt (by first | omega | (dsimp only; omega))]
  have e : (a : Int).tdiv (b : Int) = ((a / b : Nat) : Int) := rfl
  rw [e]
  generalize a / b = q at hd
  exact bm (by first | omega | (dsimp only; omega)) (by first | omega | (dsimp only; omega))
theorem nz_n {n : Nat} (h : 0 < n) (hn : n < 2147483648) : nz (nI n) = true := by
  unfold nz
  rw [decide_eq_true_eq]
  exact nI_ne0 h hn
theorem smN_1 {c t : Nat} : ∀ i, smN (fun j => if j = c then t else 0) i = if c < i then t else 0
  | 0 => rfl
  | i + 1 => by
    show smN _ i + (if i = c then t else 0) = _
    rw [smN_1 i]
    by_cases h1 : c < i
    · rw [if_pos h1, if_neg (by first | omega | (dsimp only; omega)), if_pos (by first | omega | (dsimp only; omega))]; omega
    · by_cases h2 : i = c
      · rw [if_neg h1, if_pos h2, if_pos (by first | omega | (dsimp only; omega))]; omega
      · rw [if_neg h1, if_neg h2, if_neg (by first | omega | (dsimp only; omega))]
def rbE (n t i : Nat) : Nat := t / n + (if t % n ≤ i then 0 else 1)
def rbW (W : Nat → Nat) (n t i : Nat) : Nat := t * W i / smN W n
/-- the first of the greatest worth -/
def gtN (W : Nat → Nat) : Nat → Nat
  | 0 => 0
  | i + 1 => if W i ≤ W (gtN W i) then gtN W i else i
def lfN (y : Nat → Nat) (t : Nat) : Nat → Nat
  | 0 => t
  | i + 1 => lfN y t i - (if lfN y t i < y i then lfN y t i else y i)
/-- what rule o lays at i; the rest that rule 1 leaves not yet there -/
def rbN (W : Nat → Nat) (n t o : Nat) (y : Nat → Nat) (i : Nat) : Nat :=
  if o = 0 then rbE n t i else if o = 1 then rbW W n t i else if o = 2 then (if i = 0 then t else 0) else if o = 3 then (if i = n - 1 then t else 0) else if o = 4 then (if i = gtN W n then t else 0) else (if lfN y t i < y i then lfN y t i else y i)
def rlN (W : Nat → Nat) (n t o : Nat) (y : Nat → Nat) (i : Nat) : Nat := rbN W n t o y i + (if o = 1 ∧ i = 0 then t - smN (rbN W n t o y) n else 0)
theorem gtN_lt {W : Nat → Nat} : ∀ i, 0 < i → gtN W i < i
  | 1, _ => by
    show (if W 0 ≤ W (gtN W 0) then gtN W 0 else 0) < 1
    show (if W 0 ≤ W 0 then 0 else 0) < 1
    split <;> omega
  | i + 2, _ => by
    have := gtN_lt (W := W) (i + 1) (by first | omega | (dsimp only; omega))
    show (if W (i + 1) ≤ W (gtN W (i + 1)) then gtN W (i + 1) else i + 1) < i + 2
    split <;> omega
theorem rbE_sum {n t : Nat} (h : 0 < n) : ∀ i, i ≤ n → smN (rbE n t) i ≤ t := by
  have key : ∀ i, i ≤ n → smN (rbE n t) i + (n - i) * (t / n) + (t % n - i) ≤ t := by
    intro i
    induction i with
    | zero =>
      intro _
      have := Nat.div_add_mod t n
      show 0 + (n - 0) * (t / n) + (t % n - 0) ≤ t
      rw [Nat.sub_zero, Nat.sub_zero, Nat.zero_add]
      omega
    | succ i ih =>
      intro hi
      have h1 := ih (by first | omega | (dsimp only; omega))
      have hm : t % n < n := Nat.mod_lt _ h
      have e : (n - i) * (t / n) = (n - (i + 1)) * (t / n) + t / n := by
        rw [show n - i = (n - (i + 1)) + 1 by omega, Nat.add_mul, Nat.one_mul]
      show smN (rbE n t) i + rbE n t i + _ + _ ≤ t
      unfold rbE at h1 ⊢
      split <;> omega
  intro i hi
  have := key i hi
  omega
theorem rbW_sum {W : Nat → Nat} {n t : Nat} (h : 0 < smN W n) : ∀ i, i ≤ n → smN (rbW W n t) i ≤ t := by
  have key : ∀ i, smN (rbW W n t) i * smN W n ≤ t * smN W i := by
    intro i
    induction i with
    | zero => simp [smN]
    | succ i ih =>
      show (smN (rbW W n t) i + rbW W n t i) * smN W n ≤ t * (smN W i + W i)
      rw [Nat.add_mul, Nat.mul_add]
      have : rbW W n t i * smN W n ≤ t * W i := Nat.div_mul_le_self _ _
      omega
  intro i hi
  have h1 := key i
  have h2 : t * smN W i ≤ t * smN W n := Nat.mul_le_mul_left t (smN_mono hi)
  exact Nat.le_of_mul_le_mul_right (Nat.le_trans h1 h2) h
theorem lf_sum {y : Nat → Nat} {t : Nat} : ∀ i, smN (fun i => if lfN y t i < y i then lfN y t i else y i) i + lfN y t i = t
  | 0 => by show 0 + t = t; omega
  | i + 1 => by
    have := lf_sum (y := y) (t := t) i
    show smN _ i + (if lfN y t i < y i then lfN y t i else y i) + (lfN y t i - (if lfN y t i < y i then lfN y t i else y i)) = t
    split <;> omega
theorem rb_sum {W : Nat → Nat} {n t o : Nat} {y : Nat → Nat} (h : 0 < n) (hW : 0 < smN W n) (i : Nat) (hi : i ≤ n) : smN (rbN W n t o y) i ≤ t := by
  by_cases h0 : o = 0
  · rw [smN_c i (fun j _ => show rbN W n t o y j = rbE n t j by unfold rbN; rw [if_pos h0])]
    exact rbE_sum h i hi
  by_cases h1 : o = 1
  · rw [smN_c i (fun j _ => show rbN W n t o y j = rbW W n t j by unfold rbN; rw [if_neg h0, if_pos h1])]
    exact rbW_sum hW i hi
  by_cases h2 : o = 2
  · rw [smN_c i (fun j _ => show rbN W n t o y j = (fun j => if j = 0 then t else 0) j by unfold rbN; rw [if_neg h0, if_neg h1, if_pos h2]), smN_1]
    split <;> omega
  by_cases h3 : o = 3
  · rw [smN_c i (fun j _ => show rbN W n t o y j = (fun j => if j = n - 1 then t else 0) j by unfold rbN; rw [if_neg h0, if_neg h1, if_neg h2, if_pos h3]), smN_1]
    split <;> omega
  by_cases h4 : o = 4
  · rw [smN_c i (fun j _ => show rbN W n t o y j = (fun j => if j = gtN W n then t else 0) j by unfold rbN; rw [if_neg h0, if_neg h1, if_neg h2, if_neg h3, if_pos h4]), smN_1]
    split <;> omega
  · rw [smN_c i (fun j _ => show rbN W n t o y j = (fun i => if lfN y t i < y i then lfN y t i else y i) j by unfold rbN; rw [if_neg h0, if_neg h1, if_neg h2, if_neg h3, if_neg h4])]
    have := lf_sum (y := y) (t := t) i
    omega
theorem rl_b {W : Nat → Nat} {n t o : Nat} {y : Nat → Nat} (h : 0 < n) (hW : 0 < smN W n) {i : Nat} (hi : i < n) : rlN W n t o y i ≤ t := by
  have h1 := rb_sum (t := t) (o := o) (y := y) h hW n (Nat.le_refl _)
  have h2 := smN_at (l := rbN W n t o y) hi
  unfold rlN
  split <;> omega
theorem wsum_pos {W : Nat → Nat} {n : Nat} (h : 0 < n) (hW : ∀ i, i < n → 1 ≤ W i) : 0 < smN W n := Nat.lt_of_lt_of_le (hW 0 h) (smN_at h)
section CLay
variable {N n t : Nat} {K W F y : Nat → Nat}
theorem ceven_l (h0 : 0 < n) (hn : n ≤ 6) (ht : t ≤ 40) : ∀ c i mm, i + c = n → ∀ f, c < f → ∃ m', fX2_layEven_2 N f 55 (nI n) (nI t) (nI i) mm = some ((), m') ∧ Fr (fun k j => k = 56 ∧ j < n) mm m' ∧ (∀ j, i ≤ j → j < n → rd m' 56 j = nI (rbE n t j)) ∧ ∀ j, j < i → rd m' 56 j = rd mm 56 j := by
  have hq : t / n ≤ t := Nat.div_le_self t n
  have hmd : nI t - nI t / nI n * nI n = nI (t % n) := by
    have := Nat.div_add_mod t n
    rw [nI_div (by first | omega | (dsimp only; omega)) (by first | omega | (dsimp only; omega)), nI_mul, Nat.mul_comm, nI_sub (by first | omega | (dsimp only; omega))]
    rw [show t - n * (t / n) = t % n by omega]
  intro c
  induction c with
  | zero =>
    intro i mm hi f hf
    obtain ⟨f, rfl⟩ : ∃ g, f = g + 1 := ⟨f - 1, by omega⟩
    refine ⟨mm, ?_, Fr.rf, fun j h1 h2 => by omega, fun _ _ => rfl⟩
    unfold fX2_layEven_2
    exact st_t (nI_le (by first | omega | (dsimp only; omega)) (by first | omega | (dsimp only; omega))) rfl
  | succ c ih =>
    intro i mm hi f hf
    obtain ⟨f, rfl⟩ : ∃ g, f = g + 1 := ⟨f - 1, by omega⟩
    obtain ⟨m', c1, f1, g1, g2⟩ := ih (i + 1) (wr mm 56 i (nI (rbE n t i))) (by first | omega | (dsimp only; omega)) f (by first | omega | (dsimp only; omega))
    refine ⟨m', ?_, (fr_wr Fr.rf ⟨rfl, by omega⟩).tr f1, fun j h1 h2 => ?_, fun j hj => by rw [g2 j (by first | omega | (dsimp only; omega)), rd_wr_j (by first | omega | (dsimp only; omega))]⟩
    · unfold fX2_layEven_2 fX2_layEven_27
      rw [hmd, nI_div (by first | omega | (dsimp only; omega)) (by first | omega | (dsimp only; omega))]
      simp only [LXg, nI_nat (show i < 2147483648 by omega)]
      refine st_f (nI_ge (by first | omega | (dsimp only; omega)) (by first | omega | (dsimp only; omega))) (st_g (nz_n h0 (by first | omega | (dsimp only; omega))) (st_g (nz_n h0 (by first | omega | (dsimp only; omega))) ?_))
      have hm : t % n < n := Nat.mod_lt _ h0
      unfold rbE at c1
      by_cases hle : t % n ≤ i
      · rw [if_pos hle] at c1
        refine st_t (nI_le hle (by first | omega | (dsimp only; omega))) (st_k rfl (show i < 6 by omega) (by first | omega | (dsimp only; omega)) (st_n ?_))
        rw [nI_1, show (0 : Int32) = nI 0 from rfl, nI_add]; exact c1
      · rw [if_neg hle] at c1
        refine st_f (nI_ge (by first | omega | (dsimp only; omega)) (by first | omega | (dsimp only; omega))) (st_k rfl (show i < 6 by omega) (by first | omega | (dsimp only; omega)) (st_n ?_))
        rw [nI_1, nI_1]; exact c1
    · by_cases hj : j = i
      · subst hj; rw [g2 _ (by first | omega | (dsimp only; omega)), rd_wr_s]
      · exact g1 j (by first | omega | (dsimp only; omega)) h2
theorem cworth_l (h0 : 0 < n) (ht : t ≤ 40) (hW : 0 < smN W n) : ∀ c i mm, i + c = n → CS mm n K W F → (∀ j, j < i → rd mm 56 j = nI (rbW W n t j)) → ∀ f, c < f → ∃ m', fX2_layByWorth_12 N f 55 3 (nI n) (nI t) (nI (smN W n)) (nI (t - smN (rbW W n t) i)) (nI i) mm = some ((), m') ∧ Fr (fun k j => k = 56 ∧ j < n) mm m' ∧ ∀ j, j < n → rd m' 56 j = nI (rbW W n t j + if j = 0 then t - smN (rbW W n t) n else 0) := by
  have hs := rbW_sum (t := t) hW
  intro c
  induction c with
  | zero =>
    intro i mm hi C hd f hf
    obtain ⟨f, rfl⟩ : ∃ g, f = g + 1 := ⟨f - 1, by omega⟩
    obtain rfl : i = n := by omega
    have hn := C.2.1
    refine ⟨wr mm 56 0 (nI (rbW W i t 0 + (t - smN (rbW W i t) i))), ?_, fr_wr Fr.rf ⟨rfl, h0⟩, fun j hj => ?_⟩
    · unfold fX2_layByWorth_12 fX2_layByWorth_75
      simp only [LXg]
      refine st_t (nI_le (by first | omega | (dsimp only; omega)) (by first | omega | (dsimp only; omega))) (st_g (by decide) (st_g (by decide) (st_n ?_)))
      rw [show (0 : Int32).toNatClampNeg = 0 from rfl, hd 0 h0, nI_add]
    · by_cases hj0 : j = 0
      · subst hj0; rw [rd_wr_s, if_pos rfl]
      · rw [rd_wr_j hj0, if_neg hj0]; exact hd j hj
  | succ c ih =>
    intro i mm hi C hd f hf
    obtain ⟨f, rfl⟩ : ∃ g, f = g + 1 := ⟨f - 1, by omega⟩
    have hn := C.2.1
    obtain ⟨⟨-, hw, -⟩, hk, hW1, hW9, -⟩ := C.2.2 i (by first | omega | (dsimp only; omega))
    have hS : smN W n ≤ 9 * n := smN_le n (fun j hj => (C.2.2 j hj).2.2.2.1)
    have h1 := hs (i + 1) (by first | omega | (dsimp only; omega))
    have e1 : smN (rbW W n t) (i + 1) = smN (rbW W n t) i + rbW W n t i := rfl
    obtain ⟨m', c1, f1, g1⟩ := ih (i + 1) (wr mm 56 i (nI (rbW W n t i))) (by first | omega | (dsimp only; omega)) (CS_c C (fun k j e => rd_wr_k (by first | omega | (dsimp only; omega)))) (fun j hj => by
      by_cases hji : j = i
      · subst hji; rw [rd_wr_s]
      · rw [rd_wr_j hji]; exact hd j (by first | omega | (dsimp only; omega))) f (by first | omega | (dsimp only; omega))
    refine ⟨m', ?_, (fr_wr Fr.rf ⟨rfl, by omega⟩).tr f1, g1⟩
    have htw : t * W i ≤ 40 * 9 := Nat.mul_le_mul ht hW9
    unfold fX2_layByWorth_12 fX2_layByWorth_56
    simp only [LXg, nI_nat (show i < 2147483648 by omega)]
    refine st_f (nI_ge (by first | omega | (dsimp only; omega)) (by first | omega | (dsimp only; omega))) (st_f (nI_ge (a := 0) (by first | omega | (dsimp only; omega)) (by first | omega | (dsimp only; omega))) (st_b (suitOf_t C (by first | omega | (dsimp only; omega))) (st_c (st_g (nz_n hW (by first | omega | (dsimp only; omega))) ?_))))
    rw [hw, nI_mul, nI_div (by first | omega | (dsimp only; omega)) (by first | omega | (dsimp only; omega))]
    refine st_k rfl (show i < 6 by omega) (by first | omega | (dsimp only; omega)) (st_n (st_k rfl (show i < 6 by omega) (by first | omega | (dsimp only; omega)) (st_n ?_)))
    rw [rd_wr_s, nI_1, show nI (t * W i / smN W n) = nI (rbW W n t i) from rfl, nI_sub (by first | omega | (dsimp only; omega)), show t - smN (rbW W n t) i - rbW W n t i = t - smN (rbW W n t) (i + 1) by omega]
    exact c1
theorem cgreat_l {mm : Mm} (C : CS mm n K W F) : ∀ c i, i + c = n → ∀ f, c < f → fX2_greatestOf_7 N f 3 (nI n) (nI (gtN W i)) (if i = 0 then 0 else nI (W (gtN W i))) (nI i) mm = some (nI (gtN W n), mm) := by
  have hn := C.2.1
  intro c
  induction c with
  | zero =>
    intro i hi f hf
    obtain ⟨f, rfl⟩ : ∃ g, f = g + 1 := ⟨f - 1, by omega⟩
    obtain rfl : i = n := by omega
    unfold fX2_greatestOf_7
    exact st_t (nI_le (by first | omega | (dsimp only; omega)) (by first | omega | (dsimp only; omega))) rfl
  | succ c ih =>
    intro i hi f hf
    obtain ⟨f, rfl⟩ : ∃ g, f = g + 1 := ⟨f - 1, by omega⟩
    obtain ⟨⟨-, hw, -⟩, hk, hW1, hW9, -⟩ := C.2.2 i (by first | omega | (dsimp only; omega))
    have ih2 := ih (i + 1) (by first | omega | (dsimp only; omega)) f (by first | omega | (dsimp only; omega))
    rw [if_neg (by first | omega | (dsimp only; omega))] at ih2
    have hg : gtN W (i + 1) = if W i ≤ W (gtN W i) then gtN W i else i := rfl
    unfold fX2_greatestOf_7 fX2_greatestOf_44
    refine st_f (nI_ge (by first | omega | (dsimp only; omega)) (by first | omega | (dsimp only; omega))) (st_b (suitOf_t C (by first | omega | (dsimp only; omega))) (st_c ?_))
    rw [hw, nI_1]
    by_cases hi0 : i = 0
    · subst hi0
      rw [hg, show gtN W 0 = 0 from rfl, if_pos (Nat.le_refl _)] at ih2
      exact st_f (by rw [if_pos rfl]; exact nI_ge (a := 0) (by first | omega | (dsimp only; omega)) (by first | omega | (dsimp only; omega))) ih2
    · rw [if_neg hi0]
      have hgl := gtN_lt (W := W) i (by first | omega | (dsimp only; omega))
      have hW9g := (C.2.2 (gtN W i) (by first | omega | (dsimp only; omega))).2.2.2.1
      by_cases hle : W i ≤ W (gtN W i)
      · rw [hg, if_pos hle] at ih2
        exact st_t (nI_le hle (by first | omega | (dsimp only; omega))) ih2
      · rw [hg, if_neg hle] at ih2
        exact st_f (nI_ge (by first | omega | (dsimp only; omega)) (by first | omega | (dsimp only; omega))) ih2
theorem cback_l {z : Nat} (hz : ln z = 6) (hz56 : z ≠ 56) (hn : n ≤ 6) (ht : t ≤ 40) (hy40 : ∀ i, i < n → y i ≤ 40) : ∀ c i mm, i + c = n → HA mm z n y → ∀ f, c < f → ∃ m', fX2_layBack_6 N f 55 (some z) (nI n) (nI (lfN y t i)) (nI i) mm = some ((), m') ∧ Fr (fun k j => k = 56 ∧ j < n) mm m' ∧ (∀ j, i ≤ j → j < n → rd m' 56 j = nI (if lfN y t j < y j then lfN y t j else y j)) ∧ ∀ j, j < i → rd m' 56 j = rd mm 56 j := by
  have hlf : ∀ i, lfN y t i ≤ t := fun i => by have := lf_sum (y := y) (t := t) i; omega
  intro c
  induction c with
  | zero =>
    intro i mm hi H f hf
    obtain ⟨f, rfl⟩ : ∃ g, f = g + 1 := ⟨f - 1, by omega⟩
    refine ⟨mm, ?_, Fr.rf, fun j h1 h2 => by omega, fun _ _ => rfl⟩
    unfold fX2_layBack_6
    exact st_c (st_t (nI_le (by first | omega | (dsimp only; omega)) (by first | omega | (dsimp only; omega))) rfl)
  | succ c ih =>
    intro i mm hi H f hf
    obtain ⟨f, rfl⟩ : ∃ g, f = g + 1 := ⟨f - 1, by omega⟩
    obtain ⟨m', c1, f1, g1, g2⟩ := ih (i + 1) (wr mm 56 i (nI (if lfN y t i < y i then lfN y t i else y i))) (by first | omega | (dsimp only; omega)) (H.c (fun j hj => rd_wr_k hz56)) f (by first | omega | (dsimp only; omega))
    refine ⟨m', ?_, (fr_wr Fr.rf ⟨rfl, by omega⟩).tr f1, fun j h1 h2 => ?_, fun j hj => by rw [g2 j (by first | omega | (dsimp only; omega)), rd_wr_j (by first | omega | (dsimp only; omega))]⟩
    · have hyi := hy40 i (by first | omega | (dsimp only; omega))
      have hli := hlf i
      unfold fX2_layBack_6
      refine st_c ?_
      rw [hz]
      simp only [LXg, nI_nat (show i < 2147483648 by omega)]
      refine (st_f (nI_ge (by first | omega | (dsimp only; omega)) (by first | omega | (dsimp only; omega))) (st_f (nI_ge (show i < 6 by omega) (by first | omega | (dsimp only; omega))) (st_k rfl (show i < 6 by omega) (by first | omega | (dsimp only; omega)) (st_n (st_k rfl (show i < 6 by omega) (by first | omega | (dsimp only; omega)) (st_n (st_k rfl (show i < 6 by omega) (by first | omega | (dsimp only; omega)) (st_n ?_))))))))
      rw [H i (by first | omega | (dsimp only; omega)), rd_wr_s, nI_1]
      have e : (if nI (lfN y t i) < nI (y i) then nI (lfN y t i) else nI (y i)) = nI (if lfN y t i < y i then lfN y t i else y i) := by
        by_cases hlt : lfN y t i < y i
        · rw [if_pos hlt, if_pos (nI_lt hlt (by first | omega | (dsimp only; omega)))]
        · rw [if_neg hlt, if_neg (nI_nlt (by first | omega | (dsimp only; omega)) (by first | omega | (dsimp only; omega)))]
      rw [e, nI_sub (by split <;> omega)]
      exact c1
    · by_cases hj : j = i
      · subst hj; rw [g2 _ (by first | omega | (dsimp only; omega)), rd_wr_s]
      · exact g1 j (by first | omega | (dsimp only; omega)) h2
end CLay
