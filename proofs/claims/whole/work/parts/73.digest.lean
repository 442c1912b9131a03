/-! pure: digest -/
def fO (g : Nat → Int64 → Int64) : Nat → Nat → Int64 → Int64
  | 0 => fun _ h => h
  | m + 1 => fun i h => fO g m (i + 1) (g i h)
theorem fO_c {g g' : Nat → Int64 → Int64} : ∀ m i h, (∀ q, i ≤ q → q < i + m → ∀ h, g q h = g' q h) → fO g m i h = fO g' m i h := by
  intro m
  induction m with
  | zero => intro i h _; rfl
  | succ m ih =>
    intro i h e
    show fO g m (i + 1) (g i h) = fO g' m (i + 1) (g' i h)
    rw [e i (by first | omega | (dsimp only; omega)) (by first | omega | (dsimp only; omega))]
    exact ih (i + 1) _ (fun q h1 h2 => e q (by first | omega | (dsimp only; omega)) (by first | omega | (dsimp only; omega)))
def j1 (v : Int32) (h : Int64) : Int64 := 31 * h + v.toInt64
theorem joi {N : Nat} {h : Int64} {v : Int32} {mm : Mm} : fX11_joined N h v.toInt64 mm = some (j1 v h, mm) := rfl
theorem joiL {N : Nat} {h : Int64} {v : Int32} {w : Int64} {mm : Mm} (e : w = v.toInt64) : fX11_joined N h w mm = some (j1 v h, mm) := by subst e; rfl
/-- the model's sum -/
def dG (mm : Mm) (h : Int64) : Mm := wrL mm 175 41 h
theorem rd_dG (mm : Mm) (h : Int64) (k j : Nat) : rd (dG mm h) k j = rd mm k j := rfl
theorem dG_dG (mm : Mm) (h g : Int64) : dG (dG mm h) g = dG mm g := by
  unfold dG wrL
  refine Prod.ext rfl (funext fun a => funext fun j => ?_)
  by_cases ha : a = 175
  · subst ha
    simp only [if_true]
    unfold vp_updL
    by_cases hj : j = 41
    · simp [hj]
    · simp [hj]
  · simp [ha]
theorem add_e {N : Nat} {mm : Mm} {h : Int64} {v : Int32} : fX12_adding N 175 v (dG mm h) = some ((), dG mm (j1 v h)) := by
  unfold fX12_adding
  refine st_n ?_
  have e : rdL (dG mm h) 175 41 = h := by unfold dG; rw [rdL_wrL, if_pos ⟨rfl, rfl⟩]
  rw [e, ← dG_dG mm h (j1 v h)]
  rfl
section Dig
variable {N : Nat} {mm : Mm}
-- the class
theorem jr_l {k n L : Nat} (hk : ln (fr k 0) = L) (hL : n ≤ L) (hL2 : L ≤ 1000) (hs : rd mm k 1 = nI n) : ∀ m i h, i + m = n → ∀ f, m < f → fX6_joinedTo_13 N f k h (nI i) mm = some (fO (fun i => j1 (rd mm (fr k 0) i)) m i h, mm) := by
  intro m
  induction m with
  | zero =>
    intro i h hi f hf
    obtain ⟨f, rfl⟩ : ∃ g, f = g + 1 := ⟨f - 1, by omega⟩
    unfold fX6_joinedTo_13
    exact st_t (by rw [hs]; exact nI_le (by first | omega | (dsimp only; omega)) (by first | omega | (dsimp only; omega))) rfl
  | succ m ih =>
    intro i h hi f hf
    obtain ⟨f, rfl⟩ : ∃ g, f = g + 1 := ⟨f - 1, by omega⟩
    unfold fX6_joinedTo_13
    refine st_f (by rw [hs]; exact nI_ge (by first | omega | (dsimp only; omega)) (by first | omega | (dsimp only; omega))) (st_k hk (by first | omega | (dsimp only; omega)) (by first | omega | (dsimp only; omega)) (st_b joi ?_))
    rw [nI_nat (by first | omega | (dsimp only; omega)), nI_1]
    exact ih (i + 1) _ (by first | omega | (dsimp only; omega)) f (by first | omega | (dsimp only; omega))
theorem jr_t {k n L : Nat} {h : Int64} (hN : 100000 ≤ N) (hk : ln (fr k 0) = L) (hL : n ≤ L) (hL2 : L ≤ 1000) (hs : rd mm k 1 = nI n) : fX6_joinedTo N k h mm = some (fO (fun i => j1 (rd mm (fr k 0) i)) n 0 (j1 (nI n) h), mm) := by
  unfold fX6_joinedTo
  rw [hs]
  exact st_b joi (jr_l hk hL hL2 hs n 0 _ (by first | omega | (dsimp only; omega)) N (by first | omega | (dsimp only; omega)))
theorem jr_f {k : Nat} {h : Int64} (hN : 100000 ≤ N) (hs : rd mm k 1 = -1) : fX6_joinedTo N k h mm = some (j1 (-1) h, mm) := by
  unfold fX6_joinedTo
  rw [hs]
  refine st_b joi ?_
  obtain ⟨f, hf⟩ : ∃ g, N = g + 1 := ⟨N - 1, by omega⟩
  have : ∀ f, fX6_joinedTo_13 N (f + 1) k (j1 (-1) h) 0 mm = some (j1 (-1) h, mm) := fun f => by
    unfold fX6_joinedTo_13
    exact st_t (by rw [hs]; decide) rfl
  have h2 := this f
  rw [← hf] at h2
  exact h2
/-- what a row or text joins -/
def rwJ (s : Int32) (n : Nat) (f : Nat → Int32) (h : Int64) : Int64 := if s = -1 then j1 (-1) h else fO (fun i => j1 (f i)) n 0 (j1 (nI n) h)
def rwN (s : Int32) : Nat := s.toInt.toNat
theorem jr_e {k L : Nat} {h : Int64} (hN : 100000 ≤ N) (hk : ln (fr k 0) = L) (hL2 : L ≤ 1000) (hs : rd mm k 1 = -1 ∨ ∃ n, n ≤ L ∧ rd mm k 1 = nI n) : fX6_joinedTo N k h mm = some (rwJ (rd mm k 1) (rwN (rd mm k 1)) (fun i => rd mm (fr k 0) i) h, mm) := by
  unfold rwJ
  rcases hs with e | ⟨n, hn, e⟩
  · rw [if_pos e]; exact jr_f hN e
  · rw [e, if_neg (neg1_ne (by first | omega | (dsimp only; omega)))]
    have : rwN (nI n) = n := by unfold rwN; rw [nI_toInt (by first | omega | (dsimp only; omega))]; omega
    rw [this]
    exact jr_t hN hk hn hL2 e
theorem cl_txt (hN : 100000 ≤ N) (H : RT mm) : ∀ m i h, i + m = 4 → ∀ f, m < f → fX11_digest_111 N f 0 h (nI i) mm = some (fO (fun i => rwJ (rd mm (107 + 2 * i) 1) (rwN (rd mm (107 + 2 * i) 1)) (fun j => rd mm (108 + 2 * i) j)) m i h, mm) := by
  intro m
  induction m with
  | zero =>
    intro i h hi f hf
    obtain ⟨f, rfl⟩ : ∃ g, f = g + 1 := ⟨f - 1, by omega⟩
    unfold fX11_digest_111
    exact st_t (nI_le (by first | omega | (dsimp only; omega)) (by first | omega | (dsimp only; omega))) rfl
  | succ m ih =>
    intro i h hi f hf
    obtain ⟨f, rfl⟩ : ∃ g, f = g + 1 := ⟨f - 1, by omega⟩
    unfold fX11_digest_111
    simp only [LXa, nI_nat (show i < 2147483648 by omega)]
    refine st_f (nI_ge (by first | omega | (dsimp only; omega)) (by first | omega | (dsimp only; omega))) (st_k rfl (show i < 4 by omega) (by first | omega | (dsimp only; omega)) ?_)
    refine st_b (jr_e (L := 80) hN (by rw [fr_txt (by first | omega | (dsimp only; omega))]; exact ln_txt (by first | omega | (dsimp only; omega))) (by first | omega | (dsimp only; omega)) ?_) ?_
    · rcases H i (by first | omega | (dsimp only; omega)) with ⟨e, -⟩ | ⟨n, h1, e, -⟩
      · exact Or.inl e
      · exact Or.inr ⟨n, h1, e⟩
    · rw [nI_1, fr_txt (by first | omega | (dsimp only; omega))]
      exact ih (i + 1) _ (by first | omega | (dsimp only; omega)) f (by first | omega | (dsimp only; omega))
theorem cl_row (hN : 100000 ≤ N) (H : RR mm) (H2 : RT mm) : ∀ m i h, i + m = 6 → ∀ f, m < f → fX11_digest_86 N f 0 h (nI i) mm = some (fO (fun i => rwJ (rd mm (107 + 2 * i) 1) (rwN (rd mm (107 + 2 * i) 1)) (fun j => rd mm (108 + 2 * i) j)) 4 0 (fO (fun i => rwJ (rd mm (95 + 2 * i) 1) (rwN (rd mm (95 + 2 * i) 1)) (fun j => rd mm (96 + 2 * i) j)) m i h), mm) := by
  intro m
  induction m with
  | zero =>
    intro i h hi f hf
    obtain ⟨f, rfl⟩ : ∃ g, f = g + 1 := ⟨f - 1, by omega⟩
    unfold fX11_digest_86
    exact st_t (nI_le (by first | omega | (dsimp only; omega)) (by first | omega | (dsimp only; omega))) (cl_txt hN H2 4 0 _ (by first | omega | (dsimp only; omega)) N (by first | omega | (dsimp only; omega)))
  | succ m ih =>
    intro i h hi f hf
    obtain ⟨f, rfl⟩ : ∃ g, f = g + 1 := ⟨f - 1, by omega⟩
    unfold fX11_digest_86
    simp only [LXa, nI_nat (show i < 2147483648 by omega)]
    refine st_f (nI_ge (by first | omega | (dsimp only; omega)) (by first | omega | (dsimp only; omega))) (st_k rfl (show i < 6 by omega) (by first | omega | (dsimp only; omega)) ?_)
    refine st_b (jr_e (L := 40) hN (by rw [fr_row (by first | omega | (dsimp only; omega))]; exact ln_row (by first | omega | (dsimp only; omega))) (by first | omega | (dsimp only; omega)) ?_) ?_
    · rcases H i (by first | omega | (dsimp only; omega)) with ⟨e, -⟩ | ⟨n, h1, e, -⟩
      · exact Or.inl e
      · exact Or.inr ⟨n, h1, e⟩
    · rw [nI_1, fr_row (by first | omega | (dsimp only; omega))]
      exact ih (i + 1) _ (by first | omega | (dsimp only; omega)) f (by first | omega | (dsimp only; omega))
def kpV (mm : Mm) (i : Nat) : Int32 := if rd mm 196 (72 * i) = -9 then -1 else rd mm 196 (72 * i)
theorem cl_kept {R : Option (Int64 × Mm)} {hz : Int64} (H : ∀ i, i < 3 → (rd mm (115 + 20 * i) 8 = 0 ∧ kpV mm i = -1) ∨ (rd mm (115 + 20 * i) 8 ≠ 0 ∧ kpV mm i = rd mm (115 + 20 * i) 7)) (hR : fX11_digest_86 N N 0 hz 0 mm = R) : ∀ m i h, i + m = 3 → fO (fun i => j1 (kpV mm i)) m i h = hz → ∀ f, m < f → fX11_digest_40 N f 0 h (nI i) mm = R := by
  intro m
  induction m with
  | zero =>
    intro i h hi e f hf
    obtain ⟨f, rfl⟩ : ∃ g, f = g + 1 := ⟨f - 1, by omega⟩
    unfold fX11_digest_40
    refine st_t (nI_le (by first | omega | (dsimp only; omega)) (by first | omega | (dsimp only; omega))) ?_
    have : h = hz := e
    rw [this]; exact hR
  | succ m ih =>
    intro i h hi e f hf
    obtain ⟨f, rfl⟩ : ∃ g, f = g + 1 := ⟨f - 1, by omega⟩
    have ih2 := ih (i + 1) (j1 (kpV mm i) h) (by first | omega | (dsimp only; omega)) e f (by first | omega | (dsimp only; omega))
    unfold fX11_digest_40 fX11_digest_74
    simp only [LXa, nI_nat (show i < 2147483648 by omega)]
    refine st_f (nI_ge (by first | omega | (dsimp only; omega)) (by first | omega | (dsimp only; omega))) (st_k rfl (show i < 3 by omega) (by first | omega | (dsimp only; omega)) ?_)
    rcases H i (by first | omega | (dsimp only; omega)) with ⟨e1, e2⟩ | ⟨e1, e2⟩
    · rw [e2] at ih2
      refine st_t e1 (st_b (joiL (v := -1) rfl) ?_)
      rw [nI_1]; exact ih2
    · rw [e2] at ih2
      refine st_f e1 (st_k rfl (show i < 3 by omega) (by first | omega | (dsimp only; omega)) (st_b joi ?_))
      rw [nI_1]; exact ih2
-- the court of the class
def ntV (mm : Mm) (n k : Nat) (h : Int64) : Int64 := j1 (rd mm 193 (7 * k + 6)) (fO (fun i => j1 (rd mm 193 (7 * k + i))) n 0 h)
theorem cc_in {R : Option (Int64 × Mm)} {k116 : Nat → Int64 → Int32 → Mm → Option (Int64 × Mm)} {n k : Nat} {hz : Int64} (hk : k < 8) (hn : n ≤ 6) (h5 : rd mm 3 5 = nI n) (H : (∀ i, i < n → rd mm (8 + k) i = rd mm 193 (7 * k + i)) ∧ rd mm 16 k = rd mm 193 (7 * k + 6)) (hR : k116 3 hz (nI (k + 1)) mm = R) : ∀ m i h, i + m = n → j1 (rd mm 193 (7 * k + 6)) (fO (fun i => j1 (rd mm 193 (7 * k + i))) m i h) = hz → ∀ f, m < f → fX0_joinedTo_128 N k116 f 3 h (nI k) (nI i) mm = R := by
  intro m
  induction m with
  | zero =>
    intro i h hi e f hf
    obtain ⟨f, rfl⟩ : ∃ g, f = g + 1 := ⟨f - 1, by omega⟩
    unfold fX0_joinedTo_128
    simp only [LXa, nI_nat (show k < 2147483648 by omega)]
    refine st_t (by rw [h5]; exact nI_le (by first | omega | (dsimp only; omega)) (by first | omega | (dsimp only; omega))) (st_k rfl (show k < 8 by omega) (by first | omega | (dsimp only; omega)) (st_b joi ?_))
    rw [nI_1, H.2]
    have : j1 (rd mm 193 (7 * k + 6)) h = hz := e
    rw [this]; exact hR
  | succ m ih =>
    intro i h hi e f hf
    obtain ⟨f, rfl⟩ : ∃ g, f = g + 1 := ⟨f - 1, by omega⟩
    unfold fX0_joinedTo_128
    simp only [LXa, nI_nat (show k < 2147483648 by omega), nI_nat (show i < 2147483648 by omega)]
    refine st_f (by rw [h5]; exact nI_ge (by first | omega | (dsimp only; omega)) (by first | omega | (dsimp only; omega))) (st_k rfl (show k < 8 by omega) (by first | omega | (dsimp only; omega)) (st_k (ln_6 (Or.inl (by first | omega | (dsimp only; omega)))) (show i < 6 by omega) (by first | omega | (dsimp only; omega)) (st_b joi ?_)))
    rw [nI_1, H.1 i (by first | omega | (dsimp only; omega))]
    exact ih (i + 1) _ (by first | omega | (dsimp only; omega)) e f (by first | omega | (dsimp only; omega))
theorem cc_nt {n en : Nat} (hN : 100000 ≤ N) (hn : n ≤ 6) (he : en ≤ 8) (h5 : rd mm 3 5 = nI n) (h7 : rd mm 3 7 = nI en) (H : ∀ k, k < en → (∀ i, i < n → rd mm (8 + k) i = rd mm 193 (7 * k + i)) ∧ rd mm 16 k = rd mm 193 (7 * k + 6)) : ∀ m k h, k + m = en → ∀ f, m < f → fX0_joinedTo_116 N f 3 h (nI k) mm = some (fO (ntV mm n) m k h, mm) := by
  intro m
  induction m with
  | zero =>
    intro i h hi f hf
    obtain ⟨f, rfl⟩ : ∃ g, f = g + 1 := ⟨f - 1, by omega⟩
    unfold fX0_joinedTo_116
    exact st_t (by rw [h7]; exact nI_le (by first | omega | (dsimp only; omega)) (by first | omega | (dsimp only; omega))) rfl
  | succ m ih =>
    intro i h hi f hf
    obtain ⟨f, rfl⟩ : ∃ g, f = g + 1 := ⟨f - 1, by omega⟩
    unfold fX0_joinedTo_116
    refine st_f (by rw [h7]; exact nI_ge (by first | omega | (dsimp only; omega)) (by first | omega | (dsimp only; omega))) ?_
    exact cc_in (by first | omega | (dsimp only; omega)) hn h5 (H i (by first | omega | (dsimp only; omega))) (ih (i + 1) _ (by first | omega | (dsimp only; omega)) f (by first | omega | (dsimp only; omega))) n 0 _ (by first | omega | (dsimp only; omega)) rfl N (by first | omega | (dsimp only; omega))
def suV (mm : Mm) (i : Nat) (h : Int64) : Int64 := fO (fun w => j1 (rd mm 182 (3 * i + w))) 3 0 h
theorem cc_s3 {R : Option (Int64 × Mm)} {k65 : Nat → Int64 → Int32 → Mm → Option (Int64 × Mm)} {i : Nat} {hz : Int64} (hi : i < 6) (H : ∀ w, w < 3 → rd mm 182 (3 * i + w) = rd mm (17 + i) w) (hR : k65 3 hz (nI (i + 1)) mm = R) : ∀ m w h, w + m = 3 → fO (fun w => j1 (rd mm 182 (3 * i + w))) m w h = hz → ∀ f, m < f → fX0_joinedTo_77 N k65 f 3 h (nI i) (nI w) mm = R := by
  intro m
  induction m with
  | zero =>
    intro w h hw e f hf
    obtain ⟨f, rfl⟩ : ∃ g, f = g + 1 := ⟨f - 1, by omega⟩
    obtain rfl : w = 3 := by omega
    unfold fX0_joinedTo_77
    refine st_t (by decide) ?_
    have : h = hz := e
    rw [this, nI_1]; exact hR
  | succ m ih =>
    intro w h hw e f hf
    obtain ⟨f, rfl⟩ : ∃ g, f = g + 1 := ⟨f - 1, by omega⟩
    unfold fX0_joinedTo_77
    simp only [LXa, nI_nat (show i < 2147483648 by omega)]
    refine st_f (nI_nlt (show w ≤ 2 by omega) (by first | omega | (dsimp only; omega))) (st_k rfl (show i < 6 by omega) (by first | omega | (dsimp only; omega)) (st_b (tells_e (by first | omega | (dsimp only; omega))) (st_b joi ?_)))
    rw [nI_1, ← H w (by first | omega | (dsimp only; omega))]
    exact ih (w + 1) _ (by first | omega | (dsimp only; omega)) e f (by first | omega | (dsimp only; omega))
theorem cc_su {R : Option (Int64 × Mm)} {n : Nat} {hz : Int64} (hN : 100000 ≤ N) (hn : n ≤ 6) (h5 : rd mm 3 5 = nI n) (H : ∀ i, i < n → ∀ w, w < 3 → rd mm 182 (3 * i + w) = rd mm (17 + i) w) (hR : fX0_joinedTo_116 N N 3 hz 0 mm = R) : ∀ m i h, i + m = n → fO (suV mm) m i h = hz → ∀ f, m < f → fX0_joinedTo_65 N f 3 h (nI i) mm = R := by
  intro m
  induction m with
  | zero =>
    intro i h hi e f hf
    obtain ⟨f, rfl⟩ : ∃ g, f = g + 1 := ⟨f - 1, by omega⟩
    unfold fX0_joinedTo_65
    refine st_t (by rw [h5]; exact nI_le (by first | omega | (dsimp only; omega)) (by first | omega | (dsimp only; omega))) ?_
    have : h = hz := e
    rw [this]; exact hR
  | succ m ih =>
    intro i h hi e f hf
    obtain ⟨f, rfl⟩ : ∃ g, f = g + 1 := ⟨f - 1, by omega⟩
    unfold fX0_joinedTo_65
    refine st_f (by rw [h5]; exact nI_ge (by first | omega | (dsimp only; omega)) (by first | omega | (dsimp only; omega))) ?_
    exact cc_s3 (by first | omega | (dsimp only; omega)) (H i (by first | omega | (dsimp only; omega))) (ih (i + 1) _ (by first | omega | (dsimp only; omega)) e f (by first | omega | (dsimp only; omega))) 3 0 _ (by first | omega | (dsimp only; omega)) rfl N (by first | omega | (dsimp only; omega))
theorem cc_le {R : Option (Int64 × Mm)} {hz : Int64} (H : ∀ i, i < 4 → rd mm 6 i = rd mm 192 i) (hR : fX0_joinedTo_65 N N 3 hz 0 mm = R) : ∀ m i h, i + m = 4 → fO (fun i => j1 (rd mm 192 i)) m i h = hz → ∀ f, m < f → fX0_joinedTo_37 N f 3 h (nI i) mm = R := by
  intro m
  induction m with
  | zero =>
    intro i h hi e f hf
    obtain ⟨f, rfl⟩ : ∃ g, f = g + 1 := ⟨f - 1, by omega⟩
    unfold fX0_joinedTo_37
    refine st_t (nI_le (by first | omega | (dsimp only; omega)) (by first | omega | (dsimp only; omega))) ?_
    have : h = hz := e
    rw [this]; exact hR
  | succ m ih =>
    intro i h hi e f hf
    obtain ⟨f, rfl⟩ : ∃ g, f = g + 1 := ⟨f - 1, by omega⟩
    unfold fX0_joinedTo_37
    simp only [LXa, nI_nat (show i < 2147483648 by omega)]
    refine st_f (nI_ge (by first | omega | (dsimp only; omega)) (by first | omega | (dsimp only; omega))) (st_k rfl (show i < 4 by omega) (by first | omega | (dsimp only; omega)) (st_b joi ?_))
    rw [nI_1, H i (by first | omega | (dsimp only; omega))]
    exact ih (i + 1) _ (by first | omega | (dsimp only; omega)) e f (by first | omega | (dsimp only; omega))
end Dig
