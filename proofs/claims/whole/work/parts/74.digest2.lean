/-! pure: digest of the model -/
section Dim
variable {N : Nat} {mm : Mm}
theorem rwJ_f {f : Nat → Int32} {h : Int64} {s : Int32} (e : s = -1) : rwJ s (rwN s) f h = j1 (-1) h := by unfold rwJ; rw [if_pos e]
theorem rwJ_t {f : Nat → Int32} {h : Int64} {s : Int32} {n : Nat} (hn : n < 2147483648) (e : s = nI n) : rwJ s (rwN s) f h = fO (fun i => j1 (f i)) n 0 (j1 (nI n) h) := by
  unfold rwJ
  rw [e, if_neg (neg1_ne hn)]
  have : rwN (nI n) = n := by unfold rwN; rw [nI_toInt hn]; omega
  rw [this]
theorem md_t1 {R : Option (Int64 × Mm)} {k101 : Nat → Int32 → Mm → Option (Int64 × Mm)} {i n : Nat} {hz : Int64} (hi : i < 4) (hn : n ≤ 80) (hs : rd mm 180 i = nI n) (hR : k101 175 (nI (i + 1)) (dG mm hz) = R) : ∀ m j h, j + m = n → fO (fun j => j1 (rd mm 181 (80 * i + j))) m j h = hz → ∀ f, m < f → fX12_digest_131 N k101 f 175 (nI i) (nI j) (dG mm h) = R := by
  intro m
  induction m with
  | zero =>
    intro j h hj e f hf
    obtain ⟨f, rfl⟩ : ∃ g, f = g + 1 := ⟨f - 1, by omega⟩
    unfold fX12_digest_131
    simp only [LXm, nI_nat (show i < 2147483648 by omega), rd_dG]
    refine st_k rfl hi (by first | omega | (dsimp only; omega)) (st_t (by rw [hs]; exact nI_le (by first | omega | (dsimp only; omega)) (by first | omega | (dsimp only; omega))) ?_)
    have : h = hz := e
    rw [nI_1, this]; exact hR
  | succ m ih =>
    intro j h hj e f hf
    obtain ⟨f, rfl⟩ : ∃ g, f = g + 1 := ⟨f - 1, by omega⟩
    unfold fX12_digest_131
    rw [n80]
    simp only [LXm, nI_nat (show i < 2147483648 by omega), nI_nat (show 80 * i + j < 2147483648 by omega), rd_dG]
    refine st_k rfl hi (by first | omega | (dsimp only; omega)) (st_f (by rw [hs]; exact nI_ge (by first | omega | (dsimp only; omega)) (by first | omega | (dsimp only; omega))) (st_k rfl (by first | omega | (dsimp only; omega)) (by first | omega | (dsimp only; omega)) (st_b add_e ?_)))
    rw [nI_1]
    exact ih (j + 1) _ (by first | omega | (dsimp only; omega)) e f (by first | omega | (dsimp only; omega))
theorem md_txt (hN : 100000 ≤ N) (H : RT mm) {hz : Int64} : ∀ m i h, i + m = 4 → fO (fun i => rwJ (rd mm (107 + 2 * i) 1) (rwN (rd mm (107 + 2 * i) 1)) (fun j => rd mm (108 + 2 * i) j)) m i h = hz → ∀ f, m < f → fX12_digest_101 N f 175 (nI i) (dG mm h) = some (hz, dG mm hz) := by
  intro m
  induction m with
  | zero =>
    intro i h hi e f hf
    obtain ⟨f, rfl⟩ : ∃ g, f = g + 1 := ⟨f - 1, by omega⟩
    unfold fX12_digest_101
    have : h = hz := e
    rw [this]
    refine st_t (nI_le (by first | omega | (dsimp only; omega)) (by first | omega | (dsimp only; omega))) ?_
    have : rdL (dG mm hz) 175 41 = hz := by unfold dG; rw [rdL_wrL, if_pos ⟨rfl, rfl⟩]
    rw [this]
  | succ m ih =>
    intro i h hi e f hf
    obtain ⟨f, rfl⟩ : ∃ g, f = g + 1 := ⟨f - 1, by omega⟩
    have ih2 := ih (i + 1) _ (by first | omega | (dsimp only; omega)) e f (by first | omega | (dsimp only; omega))
    unfold fX12_digest_101 fX12_digest_126
    simp only [LXm, nI_nat (show i < 2147483648 by omega), rd_dG]
    refine st_f (nI_ge (by first | omega | (dsimp only; omega)) (by first | omega | (dsimp only; omega))) (st_k rfl (show i < 4 by omega) (by first | omega | (dsimp only; omega)) ?_)
    rcases H i (by first | omega | (dsimp only; omega)) with ⟨e1, e2⟩ | ⟨n, hn, e1, e2, e3⟩
    · dsimp only at ih2
      rw [rwJ_f e1] at ih2
      refine st_f (by rw [e2]; decide) (st_b add_e ?_)
      obtain ⟨q, hq⟩ : ∃ g, N = g + 1 := ⟨N - 1, by omega⟩
      have : ∀ q, fX12_digest_131 N (fX12_digest_101 N f) (q + 1) 175 (nI i) 0 (dG mm (j1 (-1) h)) = some (hz, dG mm hz) := fun q => by
        unfold fX12_digest_131
        simp only [LXm, nI_nat (show i < 2147483648 by omega), rd_dG]
        refine st_k rfl (show i < 4 by omega) (by first | omega | (dsimp only; omega)) (st_t (by rw [e2]; decide) ?_)
        rw [nI_1]; exact ih2
      have h2 := this q
      rw [← hq] at h2
      exact h2
    · dsimp only at ih2
      rw [rwJ_t (by first | omega | (dsimp only; omega)) e1] at ih2
      refine st_t (by rw [e2]; exact nI_pos' (by first | omega | (dsimp only; omega))) (st_k rfl (show i < 4 by omega) (by first | omega | (dsimp only; omega)) (st_b add_e ?_))
      rw [e2]
      refine md_t1 (by first | omega | (dsimp only; omega)) hn e2 ih2 n 0 _ (by first | omega | (dsimp only; omega)) ?_ N (by first | omega | (dsimp only; omega))
      exact fO_c n 0 _ (fun q _ hq h => by have := (e3 q (by first | omega | (dsimp only; omega))).1; dsimp only at this ⊢; rw [this])
theorem md_r1 {R : Option (Int64 × Mm)} {k36 : Nat → Int32 → Mm → Option (Int64 × Mm)} {i n : Nat} {hz : Int64} (hi : i < 6) (hn : n ≤ 40) (hs : rd mm 177 i = nI n) (hR : k36 175 (nI (i + 1)) (dG mm hz) = R) : ∀ m j h, j + m = n → fO (fun j => j1 (rd mm 178 (40 * i + j))) m j h = hz → ∀ f, m < f → fX12_digest_67 N k36 f 175 (nI i) (nI j) (dG mm h) = R := by
  intro m
  induction m with
  | zero =>
    intro j h hj e f hf
    obtain ⟨f, rfl⟩ : ∃ g, f = g + 1 := ⟨f - 1, by omega⟩
    unfold fX12_digest_67
    simp only [LXm, nI_nat (show i < 2147483648 by omega), rd_dG]
    refine st_k rfl hi (by first | omega | (dsimp only; omega)) (st_t (by rw [hs]; exact nI_le (by first | omega | (dsimp only; omega)) (by first | omega | (dsimp only; omega))) ?_)
    have : h = hz := e
    rw [nI_1, this]; exact hR
  | succ m ih =>
    intro j h hj e f hf
    obtain ⟨f, rfl⟩ : ∃ g, f = g + 1 := ⟨f - 1, by omega⟩
    unfold fX12_digest_67
    simp only [LXm, nI_nat (show i < 2147483648 by omega), rd_dG]
    refine st_k rfl hi (by first | omega | (dsimp only; omega)) (st_f (by rw [hs]; exact nI_ge (by first | omega | (dsimp only; omega)) (by first | omega | (dsimp only; omega))) (st_b (rowAt_t hi (by first | omega | (dsimp only; omega))) (st_b add_e ?_)))
    rw [nI_1]
    exact ih (j + 1) _ (by first | omega | (dsimp only; omega)) e f (by first | omega | (dsimp only; omega))
theorem md_row (hN : 100000 ≤ N) (H : RR mm) {hz : Int64} {R : Option (Int64 × Mm)} (hR : fX12_digest_101 N N 175 0 (dG mm hz) = R) : ∀ m i h, i + m = 6 → fO (fun i => rwJ (rd mm (95 + 2 * i) 1) (rwN (rd mm (95 + 2 * i) 1)) (fun j => rd mm (96 + 2 * i) j)) m i h = hz → ∀ f, m < f → fX12_digest_36 N f 175 (nI i) (dG mm h) = R := by
  intro m
  induction m with
  | zero =>
    intro i h hi e f hf
    obtain ⟨f, rfl⟩ : ∃ g, f = g + 1 := ⟨f - 1, by omega⟩
    unfold fX12_digest_36
    have : h = hz := e
    rw [this]
    exact st_t (nI_le (by first | omega | (dsimp only; omega)) (by first | omega | (dsimp only; omega))) hR
  | succ m ih =>
    intro i h hi e f hf
    obtain ⟨f, rfl⟩ : ∃ g, f = g + 1 := ⟨f - 1, by omega⟩
    have ih2 := ih (i + 1) _ (by first | omega | (dsimp only; omega)) e f (by first | omega | (dsimp only; omega))
    unfold fX12_digest_36 fX12_digest_62
    simp only [LXm, nI_nat (show i < 2147483648 by omega), rd_dG]
    refine st_f (nI_ge (by first | omega | (dsimp only; omega)) (by first | omega | (dsimp only; omega))) (st_k rfl (show i < 6 by omega) (by first | omega | (dsimp only; omega)) ?_)
    rcases H i (by first | omega | (dsimp only; omega)) with ⟨e1, e2⟩ | ⟨n, hn, e1, e2, e3⟩
    · dsimp only at ih2
      rw [rwJ_f e1] at ih2
      refine st_f (by rw [e2]; decide) (st_b add_e ?_)
      obtain ⟨q, hq⟩ : ∃ g, N = g + 1 := ⟨N - 1, by omega⟩
      have : ∀ q, fX12_digest_67 N (fX12_digest_36 N f) (q + 1) 175 (nI i) 0 (dG mm (j1 (-1) h)) = R := fun q => by
        unfold fX12_digest_67
        simp only [LXm, nI_nat (show i < 2147483648 by omega), rd_dG]
        refine st_k rfl (show i < 6 by omega) (by first | omega | (dsimp only; omega)) (st_t (by rw [e2]; decide) ?_)
        rw [nI_1]; exact ih2
      have h2 := this q
      rw [← hq] at h2
      exact h2
    · dsimp only at ih2
      rw [rwJ_t (by first | omega | (dsimp only; omega)) e1] at ih2
      refine st_t (by rw [e2]; exact nI_pos' (by first | omega | (dsimp only; omega))) (st_k rfl (show i < 6 by omega) (by first | omega | (dsimp only; omega)) (st_b add_e ?_))
      rw [e2]
      refine md_r1 (by first | omega | (dsimp only; omega)) hn e2 ih2 n 0 _ (by first | omega | (dsimp only; omega)) ?_ N (by first | omega | (dsimp only; omega))
      exact fO_c n 0 _ (fun q _ hq h => by have := (e3 q (by first | omega | (dsimp only; omega))).1; dsimp only at this ⊢; rw [this])
-- the court of the model
theorem mk_k {hz : Int64} : ∀ m i h, i + m = 3 → fO (fun i => j1 (kpV mm i)) m i h = hz → ∀ f, m < f → fX12_mixCourt_155 N f 175 (nI i) (dG mm h) = some ((), dG mm hz) := by
  intro m
  induction m with
  | zero =>
    intro i h hi e f hf
    obtain ⟨f, rfl⟩ : ∃ g, f = g + 1 := ⟨f - 1, by omega⟩
    unfold fX12_mixCourt_155
    have : h = hz := e
    rw [this]
    exact st_t (nI_le (by first | omega | (dsimp only; omega)) (by first | omega | (dsimp only; omega))) rfl
  | succ m ih =>
    intro i h hi e f hf
    obtain ⟨f, rfl⟩ : ∃ g, f = g + 1 := ⟨f - 1, by omega⟩
    have ih2 := ih (i + 1) _ (by first | omega | (dsimp only; omega)) e f (by first | omega | (dsimp only; omega))
    dsimp only at ih2
    unfold fX12_mixCourt_155 fX12_mixCourt_188
    rw [show (72 : Int32) = nI 72 from rfl, nI_mul]
    simp only [LXm, nI_nat (show 72 * i < 2147483648 by omega), rd_dG]
    refine st_f (nI_ge (by first | omega | (dsimp only; omega)) (by first | omega | (dsimp only; omega))) (st_k rfl (by first | omega | (dsimp only; omega)) (by first | omega | (dsimp only; omega)) ?_)
    by_cases hz : rd mm 196 (72 * i) = -9
    · rw [show kpV mm i = -1 by unfold kpV; rw [if_pos hz]] at ih2
      refine st_t hz (st_b add_e ?_)
      rw [nI_1]; exact ih2
    · rw [show kpV mm i = rd mm 196 (72 * i) by unfold kpV; rw [if_neg hz]] at ih2
      refine st_f hz (st_k rfl (by first | omega | (dsimp only; omega)) (by first | omega | (dsimp only; omega)) (st_b add_e ?_))
      rw [nI_1]; exact ih2
theorem mk_n1 {R : Option (Unit × Mm)} {k92 : Nat → Int32 → Mm → Option (Unit × Mm)} {n k : Nat} {hz : Int64} (hk : k < 8) (hn : n ≤ 6) (h5 : rd mm 175 10 = nI n) (hR : k92 175 (nI (k + 1)) (dG mm hz) = R) : ∀ m i h, i + m = n → j1 (rd mm 193 (7 * k + 6)) (fO (fun i => j1 (rd mm 193 (7 * k + i))) m i h) = hz → ∀ f, m < f → fX12_mixCourt_102 N k92 f 175 (nI k) (nI i) (dG mm h) = R := by
  intro m
  induction m with
  | zero =>
    intro i h hi e f hf
    obtain ⟨f, rfl⟩ : ∃ g, f = g + 1 := ⟨f - 1, by omega⟩
    unfold fX12_mixCourt_102
    rw [show (7 : Int32) = nI 7 from rfl, nI_mul, show (6 : Int32) = nI 6 from rfl, nI_add]
    simp only [LXm, nI_nat (show 7 * k + 6 < 2147483648 by omega), rd_dG]
    refine st_t (by rw [h5]; exact nI_le (by first | omega | (dsimp only; omega)) (by first | omega | (dsimp only; omega))) (st_k rfl (by first | omega | (dsimp only; omega)) (by first | omega | (dsimp only; omega)) (st_b add_e ?_))
    have : j1 (rd mm 193 (7 * k + 6)) h = hz := e
    rw [this, nI_1]; exact hR
  | succ m ih =>
    intro i h hi e f hf
    obtain ⟨f, rfl⟩ : ∃ g, f = g + 1 := ⟨f - 1, by omega⟩
    unfold fX12_mixCourt_102
    rw [show (7 : Int32) = nI 7 from rfl, nI_mul, show (6 : Int32) = nI 6 from rfl, nI_add, nI_add]
    simp only [LXm, nI_nat (show 7 * k + i < 2147483648 by omega), rd_dG]
    refine st_f (by rw [h5]; exact nI_ge (by first | omega | (dsimp only; omega)) (by first | omega | (dsimp only; omega))) (st_k rfl (by first | omega | (dsimp only; omega)) (by first | omega | (dsimp only; omega)) (st_b add_e ?_))
    rw [nI_1]
    exact ih (i + 1) _ (by first | omega | (dsimp only; omega)) e f (by first | omega | (dsimp only; omega))
theorem mk_nt {R : Option (Unit × Mm)} {n en : Nat} {hz : Int64} (hN : 100000 ≤ N) (hn : n ≤ 6) (he : en ≤ 8) (h5 : rd mm 175 10 = nI n) (h7 : rd mm 175 37 = nI en) (hR : fX12_mixCourt_155 N N 175 0 (dG mm hz) = R) : ∀ m k h, k + m = en → fO (ntV mm n) m k h = hz → ∀ f, m < f → fX12_mixCourt_92 N f 175 (nI k) (dG mm h) = R := by
  intro m
  induction m with
  | zero =>
    intro i h hi e f hf
    obtain ⟨f, rfl⟩ : ∃ g, f = g + 1 := ⟨f - 1, by omega⟩
    unfold fX12_mixCourt_92
    have : h = hz := e
    rw [this]
    exact st_t (by rw [rd_dG, h7]; exact nI_le (by first | omega | (dsimp only; omega)) (by first | omega | (dsimp only; omega))) hR
  | succ m ih =>
    intro i h hi e f hf
    obtain ⟨f, rfl⟩ : ∃ g, f = g + 1 := ⟨f - 1, by omega⟩
    unfold fX12_mixCourt_92
    refine st_f (by rw [rd_dG, h7]; exact nI_ge (by first | omega | (dsimp only; omega)) (by first | omega | (dsimp only; omega))) ?_
    exact mk_n1 (by first | omega | (dsimp only; omega)) hn h5 (ih (i + 1) _ (by first | omega | (dsimp only; omega)) e f (by first | omega | (dsimp only; omega))) n 0 _ (by first | omega | (dsimp only; omega)) rfl N (by first | omega | (dsimp only; omega))
theorem mk_s3 {R : Option (Unit × Mm)} {k53 : Nat → Int32 → Mm → Option (Unit × Mm)} {i : Nat} {hz : Int64} (hi : i < 6) (hR : k53 175 (nI (i + 1)) (dG mm hz) = R) : ∀ m w h, w + m = 3 → fO (fun w => j1 (rd mm 182 (3 * i + w))) m w h = hz → ∀ f, m < f → fX12_mixCourt_63 N k53 f 175 (nI i) (nI w) (dG mm h) = R := by
  intro m
  induction m with
  | zero =>
    intro w h hw e f hf
    obtain ⟨f, rfl⟩ : ∃ g, f = g + 1 := ⟨f - 1, by omega⟩
    obtain rfl : w = 3 := by omega
    unfold fX12_mixCourt_63
    refine st_t (by decide) ?_
    have : h = hz := e
    rw [this, nI_1]; exact hR
  | succ m ih =>
    intro w h hw e f hf
    obtain ⟨f, rfl⟩ : ∃ g, f = g + 1 := ⟨f - 1, by omega⟩
    unfold fX12_mixCourt_63
    refine st_f (nI_nlt (show w ≤ 2 by omega) (by first | omega | (dsimp only; omega))) (st_b (of_e hi (by first | omega | (dsimp only; omega))) (st_b add_e ?_))
    rw [nI_1, rd_dG]
    exact ih (w + 1) _ (by first | omega | (dsimp only; omega)) e f (by first | omega | (dsimp only; omega))
theorem mk_su {R : Option (Unit × Mm)} {n : Nat} {hz : Int64} (hN : 100000 ≤ N) (hn : n ≤ 6) (h5 : rd mm 175 10 = nI n) (hR : fX12_mixCourt_92 N N 175 0 (dG mm hz) = R) : ∀ m i h, i + m = n → fO (suV mm) m i h = hz → ∀ f, m < f → fX12_mixCourt_53 N f 175 (nI i) (dG mm h) = R := by
  intro m
  induction m with
  | zero =>
    intro i h hi e f hf
    obtain ⟨f, rfl⟩ : ∃ g, f = g + 1 := ⟨f - 1, by omega⟩
    unfold fX12_mixCourt_53
    have : h = hz := e
    rw [this]
    exact st_t (by rw [rd_dG, h5]; exact nI_le (by first | omega | (dsimp only; omega)) (by first | omega | (dsimp only; omega))) hR
  | succ m ih =>
    intro i h hi e f hf
    obtain ⟨f, rfl⟩ : ∃ g, f = g + 1 := ⟨f - 1, by omega⟩
    unfold fX12_mixCourt_53
    refine st_f (by rw [rd_dG, h5]; exact nI_ge (by first | omega | (dsimp only; omega)) (by first | omega | (dsimp only; omega))) ?_
    exact mk_s3 (by first | omega | (dsimp only; omega)) (ih (i + 1) _ (by first | omega | (dsimp only; omega)) e f (by first | omega | (dsimp only; omega))) 3 0 _ (by first | omega | (dsimp only; omega)) rfl N (by first | omega | (dsimp only; omega))
theorem mk_le {R : Option (Unit × Mm)} {hz : Int64} (hR : fX12_mixCourt_53 N N 175 0 (dG mm hz) = R) : ∀ m i h, i + m = 4 → fO (fun i => j1 (rd mm 192 i)) m i h = hz → ∀ f, m < f → fX12_mixCourt_30 N f 175 (nI i) (dG mm h) = R := by
  intro m
  induction m with
  | zero =>
    intro i h hi e f hf
    obtain ⟨f, rfl⟩ : ∃ g, f = g + 1 := ⟨f - 1, by omega⟩
    unfold fX12_mixCourt_30
    have : h = hz := e
    rw [this]
    exact st_t (nI_le (by first | omega | (dsimp only; omega)) (by first | omega | (dsimp only; omega))) hR
  | succ m ih =>
    intro i h hi e f hf
    obtain ⟨f, rfl⟩ : ∃ g, f = g + 1 := ⟨f - 1, by omega⟩
    unfold fX12_mixCourt_30
    simp only [LXm, nI_nat (show i < 2147483648 by omega), rd_dG]
    refine st_f (nI_ge (by first | omega | (dsimp only; omega)) (by first | omega | (dsimp only; omega))) (st_k rfl (show i < 4 by omega) (by first | omega | (dsimp only; omega)) (st_b add_e ?_))
    rw [nI_1]
    exact ih (i + 1) _ (by first | omega | (dsimp only; omega)) e f (by first | omega | (dsimp only; omega))
end Dim
/-- what the court joins, its kept courts not -/
def crtV (mm : Mm) (n en : Nat) (h : Int64) : Int64 := fO (ntV mm n) en 0 (fO (suV mm) n 0 (fO (fun i => j1 (rd mm 192 i)) 4 0 (j1 (rd mm 175 13) (j1 (rd mm 183 1) (j1 (rd mm 183 0) h)))))
theorem dig_l {N : Nat} {mm : Mm} (hN : 100000 ≤ N) (h : Rel mm) : ∀ m w g, w + m = 8 → ∃ g', (∀ f, m < f → ∀ R, (bd2 (fX0_joinedTo N 3 g' mm) fun x19 m20 => fX11_digest_40 N N 0 x19 0 m20) = R → fX11_digest_6 N f 0 g (nI w) mm = R) ∧ (∀ f, m < f → ∀ R, (bd2 (fX12_mixCourt N 175 (dG mm g')) fun _ m31 => fX12_digest_36 N N 175 0 m31) = R → fX12_digest_9 N f 175 (nI w) (dG mm g) = R) := by
  intro m
  induction m with
  | zero =>
    intro w g hw
    obtain rfl : w = 8 := by omega
    refine ⟨g, fun f hf R hR => ?_, fun f hf R hR => ?_⟩
    · obtain ⟨f, rfl⟩ : ∃ g, f = g + 1 := ⟨f - 1, by omega⟩
      unfold fX11_digest_6
      exact st_t (by decide) hR
    · obtain ⟨f, rfl⟩ : ∃ g, f = g + 1 := ⟨f - 1, by omega⟩
      unfold fX12_digest_9
      exact st_t (by decide) hR
  | succ m ih =>
    intro w g hw
    obtain ⟨v, c1, c2⟩ := count_e (w := w) hN h (by first | omega | (dsimp only; omega))
    obtain ⟨g', h1, h2⟩ := ih (w + 1) (j1 v g) (by first | omega | (dsimp only; omega))
    refine ⟨g', fun f hf R hR => ?_, fun f hf R hR => ?_⟩
    · obtain ⟨f, rfl⟩ : ∃ g, f = g + 1 := ⟨f - 1, by omega⟩
      unfold fX11_digest_6
      refine st_f (nI_nlt (show w ≤ 7 by omega) (by first | omega | (dsimp only; omega))) (st_b c1 (st_b joi ?_))
      rw [nI_1]; exact h1 f (by first | omega | (dsimp only; omega)) R hR
    · obtain ⟨f, rfl⟩ : ∃ g, f = g + 1 := ⟨f - 1, by omega⟩
      unfold fX12_digest_9
      refine st_f (nI_nlt (show w ≤ 7 by omega) (by first | omega | (dsimp only; omega))) (st_b (c2 (dG mm g) (fun _ _ => rfl)) (st_b add_e ?_))
      rw [nI_1]; exact h2 f (by first | omega | (dsimp only; omega)) R hR
theorem ok_45 {N : Nat} (hN : 100000 ≤ N) : OK_45 N Rel := by
  intro mm h
  obtain ⟨n, ⟨g1, g2, g3, g4⟩, g5, g6⟩ := h.2.2.1
  obtain ⟨a1, a2, a3, a4, a5, en, a6, a7, a8⟩ := g5
  have H7 : rd mm 3 7 = nI en := a5.trans a7
  obtain ⟨g, d1, d2⟩ := dig_l hN h 8 0 17 (by first | omega | (dsimp only; omega))
  have hsu : ∀ i, i < n → ∀ w, w < 3 → rd mm 182 (3 * i + w) = rd mm (17 + i) w := by
    intro i hi w hw
    obtain ⟨q1, q2, q3, -⟩ := g4 i hi
    rcases (by omega : w = 0 ∨ w = 1 ∨ w = 2) with rfl | rfl | rfl
    · exact q1
    · exact q2
    · exact q3
  have hcl : fX0_joinedTo N 3 g mm = some (crtV mm n en g, mm) := by
    unfold fX0_joinedTo
    simp only [LXa]
    refine st_k rfl (show (0 : Nat) < 2 by omega) (by first | omega | (dsimp only; omega)) (st_b joi (st_k rfl (show (1 : Nat) < 2 by omega) (by first | omega | (dsimp only; omega)) (st_b joi (st_b joi ?_))))
    have e0 : rd mm 5 (0 : Int32).toNatClampNeg = rd mm 183 0 := (a1 0 (by first | omega | (dsimp only; omega))).1
    have e1 : rd mm 5 (1 : Int32).toNatClampNeg = rd mm 183 1 := (a1 1 (by first | omega | (dsimp only; omega))).1
    rw [e0, e1, a2]
    refine cc_le (fun i hi => (a4 i hi).1) (cc_su hN g1 g2 hsu ?_ n 0 _ (by first | omega | (dsimp only; omega)) rfl N (by first | omega | (dsimp only; omega))) 4 0 _ (by first | omega | (dsimp only; omega)) rfl N (by first | omega | (dsimp only; omega))
    exact cc_nt hN g1 a6 g2 H7 (fun k hk => ⟨fun i hi => ((a8 k hk).1 i hi).1, (a8 k hk).2.1⟩) en 0 _ (by first | omega | (dsimp only; omega)) N (by first | omega | (dsimp only; omega))
  have hmd : fX12_mixCourt N 175 (dG mm g) = some ((), dG mm (fO (fun i => j1 (kpV mm i)) 3 0 (crtV mm n en g))) := by
    unfold fX12_mixCourt
    simp only [LXm, rd_dG]
    refine st_k rfl (show (0 : Nat) < 2 by omega) (by first | omega | (dsimp only; omega)) (st_b add_e (st_k rfl (show (1 : Nat) < 2 by omega) (by first | omega | (dsimp only; omega)) (st_b add_e (st_b add_e ?_))))
    refine mk_le (mk_su hN g1 g3 (mk_nt hN g1 a6 g3 a7 (mk_k 3 0 _ (by first | omega | (dsimp only; omega)) rfl N (by first | omega | (dsimp only; omega))) en 0 _ (by first | omega | (dsimp only; omega)) rfl N (by first | omega | (dsimp only; omega))) n 0 _ (by first | omega | (dsimp only; omega)) rfl N (by first | omega | (dsimp only; omega))) 4 0 _ (by first | omega | (dsimp only; omega)) rfl N (by first | omega | (dsimp only; omega))
  have hkp : ∀ i, i < 3 → (rd mm (115 + 20 * i) 8 = 0 ∧ kpV mm i = -1) ∨ (rd mm (115 + 20 * i) 8 ≠ 0 ∧ kpV mm i = rd mm (115 + 20 * i) 7) := by
    intro i hi
    rcases g6 i hi with ⟨e1, e2⟩ | ⟨e1, -, -, -, e5⟩
    · exact Or.inl ⟨e1, by unfold kpV; rw [if_pos e2]⟩
    · obtain ⟨-, -, -, -, q5, qn, q6, q7, -⟩ := e5
      refine Or.inr ⟨by rw [e1]; decide, ?_⟩
      unfold kpV
      rw [if_neg (by rw [q7]; exact neg9_ne (by first | omega | (dsimp only; omega)))]
      exact q5.symm
  generalize hF : fO (fun i => rwJ (rd mm (107 + 2 * i) 1) (rwN (rd mm (107 + 2 * i) 1)) (fun j => rd mm (108 + 2 * i) j)) 4 0 (fO (fun i => rwJ (rd mm (95 + 2 * i) 1) (rwN (rd mm (95 + 2 * i) 1)) (fun j => rd mm (96 + 2 * i) j)) 6 0 (fO (fun i => j1 (kpV mm i)) 3 0 (crtV mm n en g))) = F
  refine ⟨F, mm, dG mm F, ?_, ?_, Rel_keep h (keep_wrL Keep.rf (by decide))⟩
  · unfold fX11_digest
    refine d1 N (by first | omega | (dsimp only; omega)) _ (st_b hcl ?_)
    refine cl_kept hkp ?_ 3 0 _ (by first | omega | (dsimp only; omega)) rfl N (by first | omega | (dsimp only; omega))
    rw [← hF]
    exact cl_row hN h.1 h.2.1 6 0 _ (by first | omega | (dsimp only; omega)) N (by first | omega | (dsimp only; omega))
  · unfold fX12_digest
    refine st_n ?_
    refine d2 N (by first | omega | (dsimp only; omega)) _ (st_b hmd ?_)
    exact md_row hN h.1 (md_txt hN h.2.1 4 0 _ (by first | omega | (dsimp only; omega)) hF N (by first | omega | (dsimp only; omega))) 6 0 _ (by first | omega | (dsimp only; omega)) rfl N (by first | omega | (dsimp only; omega))
