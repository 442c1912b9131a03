/-! pure: mean, copy, text, put -/
def sL (g : Nat → Int32) : Nat → Int64
  | 0 => 0
  | n + 1 => sL g n + (g n).toInt64
theorem sL_c {g h : Nat → Int32} : ∀ n, (∀ i, i < n → g i = h i) → sL g n = sL h n
  | 0, _ => rfl
  | n + 1, e => by
    show sL g n + (g n).toInt64 = sL h n + (h n).toInt64
    rw [sL_c n (fun i hi => e i (by first | omega | (dsimp only; omega))), e n (by first | omega | (dsimp only; omega))]
theorem total_l {N k q L n : Nat} {mm : Mm} (hk : fr k 0 = q) (hq : ln q = L) (hs : rd mm k 1 = nI n) (hn : n ≤ L) (hL : L ≤ 80) : ∀ m i, i + m = n → ∀ f, m < f → fX6_total_4 N f k (sL (fun j => rd mm q j) i) (nI i) mm = some (sL (fun j => rd mm q j) n, mm) := by
  intro m
  induction m with
  | zero =>
    intro i hi f hf
    obtain ⟨f, rfl⟩ : ∃ g, f = g + 1 := ⟨f - 1, by omega⟩
    obtain rfl : i = n := by omega
    unfold fX6_total_4
    exact st_t (by rw [hs]; exact nI_le (by first | omega | (dsimp only; omega)) (by first | omega | (dsimp only; omega))) rfl
  | succ m ih =>
    intro i hi f hf
    obtain ⟨f, rfl⟩ : ∃ g, f = g + 1 := ⟨f - 1, by omega⟩
    unfold fX6_total_4
    refine st_f (by rw [hs]; exact nI_ge (by first | omega | (dsimp only; omega)) (by first | omega | (dsimp only; omega))) ?_
    rw [hk]
    refine st_k hq (by first | omega | (dsimp only; omega)) (by first | omega | (dsimp only; omega)) (st_n ?_)
    rw [nI_nat (by first | omega | (dsimp only; omega)), nI_1]
    exact ih (i + 1) (by first | omega | (dsimp only; omega)) f (by first | omega | (dsimp only; omega))
theorem total_ok {N k q L n : Nat} {mm : Mm} (hN : 100000 ≤ N) (hk : fr k 0 = q) (hq : ln q = L) (hs : rd mm k 1 = nI n) (hn : n ≤ L) (hL : L ≤ 80) : fX6_total N k mm = some (sL (fun j => rd mm q j) n, mm) := by
  unfold fX6_total
  exact total_l hk hq hs hn hL n 0 (by first | omega | (dsimp only; omega)) N (by first | omega | (dsimp only; omega))
theorem total_m {N k : Nat} {mm : Mm} (hN : 100000 ≤ N) (hs : rd mm k 1 = -1) : fX6_total N k mm = some (0, mm) := by
  obtain ⟨f, rfl⟩ : ∃ g, N = g + 1 := ⟨N - 1, by omega⟩
  unfold fX6_total fX6_total_4
  exact st_t (by rw [hs]; decide) rfl
theorem l_nz {n : Nat} (h : 0 < n) (hn : n ≤ 1000) : nzL (nI n).toInt64 = true := by
  unfold nzL
  rw [decide_eq_true_eq]
  intro e
  have h1 : ((nI n).toInt64).toInt = ((0 : Int64)).toInt := by rw [e]
  rw [Int32.toInt_toInt64, nI_toInt (by first | omega | (dsimp only; omega))] at h1
  have : (0 : Int64).toInt = 0 := rfl
  omega
theorem mmean_l {N r n : Nat} {mm : Mm} (hr : r < 6) (hs : rd mm 177 r = nI n) (hn : n ≤ 40) (h0 : 0 < n) : ∀ m i, i + m = n → ∀ f, m < f → fX12_mean_17 N f 175 (nI r) (sL (fun j => rd mm 178 (40 * r + j)) i) (nI i) mm = some (1, wr mm 175 2 ((sL (fun j => rd mm 178 (40 * r + j)) n / (nI n).toInt64).toInt32)) := by
  intro m
  induction m with
  | zero =>
    intro i hi f hf
    obtain ⟨f, rfl⟩ : ∃ g, f = g + 1 := ⟨f - 1, by omega⟩
    obtain rfl : i = n := by omega
    unfold fX12_mean_17
    simp only [LXm, nI_nat (show r < 2147483648 by omega), hs]
    refine st_k rfl hr (by first | omega | (dsimp only; omega)) (st_t (nI_le (by first | omega | (dsimp only; omega)) (by first | omega | (dsimp only; omega))) (st_k rfl hr (by first | omega | (dsimp only; omega)) (st_f (nI_ne0 h0 (by first | omega | (dsimp only; omega))) (st_k rfl hr (by first | omega | (dsimp only; omega)) (st_g (l_nz h0 (by first | omega | (dsimp only; omega))) ?_)))))
    unfold fX12_ask
    rfl
  | succ m ih =>
    intro i hi f hf
    obtain ⟨f, rfl⟩ : ∃ g, f = g + 1 := ⟨f - 1, by omega⟩
    unfold fX12_mean_17
    simp only [LXm, nI_nat (show r < 2147483648 by omega), hs]
    refine st_k rfl hr (by first | omega | (dsimp only; omega)) (st_f (nI_ge (by first | omega | (dsimp only; omega)) (by first | omega | (dsimp only; omega))) (st_b (rowAt_t hr (by first | omega | (dsimp only; omega))) ?_))
    rw [nI_1]
    exact ih (i + 1) (by first | omega | (dsimp only; omega)) f (by first | omega | (dsimp only; omega))
theorem ok_5 {N : Nat} (hN : 100000 ≤ N) : OK_5 N Rel := by
  intro a1 mm h
  rcases rng a1 6 with ⟨r, hr, -, rfl⟩ | hb
  · rcases h.1 r hr with ⟨e1, e2⟩ | ⟨n, hn, e1, e2, hv⟩
    · refine ⟨-3, cRef 1 mm, mMeet 1 (cRef 1 mm), ?_, ?_, rel_ref h (f := 1) (by first | omega | (dsimp only; omega))⟩
      · unfold fX11_mean
        exact st_b (rowOf_t hr) (st_c (st_b (miss_t e1) (st_f (by decide) (st_b (c_ref 1 rfl (by first | omega | (dsimp only; omega))) rfl))))
      · unfold fX12_mean
        exact st_b (askedRow_0 hr (by rw [rd_cRef (by first | omega | (dsimp only; omega)) (by first | omega | (dsimp only; omega))]; exact e2)) (st_f (by decide) rfl)
    · rcases Nat.eq_zero_or_pos n with h0 | h0
      · subst h0
        refine ⟨-3, cRef 4 mm, mMeet 4 (cRef 4 mm), ?_, ?_, rel_ref h (f := 4) (by first | omega | (dsimp only; omega))⟩
        · unfold fX11_mean
          exact st_b (rowOf_t hr) (st_c (st_b (miss_f e1 (by first | omega | (dsimp only; omega))) (st_t rfl (st_t (by rw [e1]; rfl) (st_b (c_ref 4 rfl (by first | omega | (dsimp only; omega))) rfl)))))
        · unfold fX12_mean
          have e3 : rd (cRef 4 mm) 177 r = nI 0 := by rw [rd_cRef (by first | omega | (dsimp only; omega)) (by first | omega | (dsimp only; omega))]; exact e2
          refine st_b (askedRow_1 hr e3 (by first | omega | (dsimp only; omega))) (st_t (by decide) ?_)
          obtain ⟨f, rfl⟩ : ∃ g, N = g + 1 := ⟨N - 1, by omega⟩
          unfold fX12_mean_17
          simp only [LXm, nI_nat (show r < 2147483648 by omega), e3]
          exact st_k rfl hr (by first | omega | (dsimp only; omega)) (st_t (by decide) (st_k rfl hr (by first | omega | (dsimp only; omega)) (st_t (by decide) (st_b (m_meet 4 rfl (by first | omega | (dsimp only; omega))) rfl))))
      · have es : sL (fun j => rd mm (96 + 2 * r) j) n = sL (fun j => rd mm 178 (40 * r + j)) n := sL_c n (fun i hi => (hv i hi).1)
        refine ⟨1, wr mm 0 14 ((sL (fun j => rd mm (96 + 2 * r) j) n / (nI n).toInt64).toInt32), _, ?_, ?_, rel_ask h (v := (sL (fun j => rd mm (96 + 2 * r) j) n / (nI n).toInt64).toInt32) (w := (sL (fun j => rd mm 178 (40 * r + j)) n / (nI n).toInt64).toInt32) (by rw [es])⟩
        · unfold fX11_mean
          refine st_b (rowOf_t hr) (st_c (st_b (miss_f e1 (by first | omega | (dsimp only; omega))) (st_t rfl (st_f (by rw [e1]; exact nI_ne0 h0 (by first | omega | (dsimp only; omega))) (st_b (total_ok hN (fr_row hr) (ln_row hr) e1 hn (by first | omega | (dsimp only; omega))) ?_)))))
          rw [e1]
          refine st_g (l_nz h0 (by first | omega | (dsimp only; omega))) ?_
          unfold fX11_told
          rfl
        · unfold fX12_mean
          generalize hX : (sL (fun j => rd mm (96 + 2 * r) j) n / (nI n).toInt64).toInt32 = X
          have e3 : rd (wr mm 0 14 X) 177 r = nI n := by rw [rd_wr_k (by first | omega | (dsimp only; omega))]; exact e2
          have e4 : (fun j => rd (wr mm 0 14 X) 178 (40 * r + j)) = fun j => rd mm 178 (40 * r + j) := by
            funext j; rw [rd_wr_k (by first | omega | (dsimp only; omega))]
          refine st_b (askedRow_1 hr e3 (by first | omega | (dsimp only; omega))) (st_t (by decide) ?_)
          have := mmean_l (N := N) hr e3 hn h0 n 0 (by first | omega | (dsimp only; omega)) N (by first | omega | (dsimp only; omega))
          rw [e4] at this
          exact this
  · refine ⟨-1, mm, mm, ?_, ?_, h⟩
    · unfold fX11_mean
      exact st_b (rowOf_n hb) (st_c0 rfl)
    · unfold fX12_mean
      exact st_b (askedRow_n hb) (st_f (by decide) rfl)
-- copy
theorem hasAll_f {N k n : Nat} {a : Int32} {c : Nat} {mm : Mm} (hs : rd mm k 1 = nI n) (hn : n ≤ 80) (hc : c < 2147483648) (h : a < 0 ∨ ∃ i, a = nI i ∧ i < 2147483648 ∧ n < i + c) : fX6_hasAll N k a (nI c) mm = some (0, mm) := by
  unfold fX6_hasAll
  rcases h with h | ⟨i, rfl, hi, h⟩
  · exact st_t h rfl
  · refine st_f (nI_pos hi) ?_
    rw [hs]
    by_cases h2 : n < i
    · exact st_t (nI_lt h2 hi) rfl
    · refine st_f (nI_nlt (by first | omega | (dsimp only; omega)) (by first | omega | (dsimp only; omega))) (st_f (nI_pos hc) ?_)
      rw [nI_sub (by first | omega | (dsimp only; omega))]
      exact st_t (nI_lt (by first | omega | (dsimp only; omega)) hc) rfl
theorem hasAll_t {N k n i c : Nat} {mm : Mm} (hs : rd mm k 1 = nI n) (hn : n ≤ 80) (h : i + c ≤ n) : fX6_hasAll N k (nI i) (nI c) mm = some (1, mm) := by
  unfold fX6_hasAll
  refine st_f (nI_pos (by first | omega | (dsimp only; omega))) ?_
  rw [hs]
  refine st_f (nI_nlt (by first | omega | (dsimp only; omega)) (by first | omega | (dsimp only; omega))) (st_f (nI_pos (by first | omega | (dsimp only; omega))) ?_)
  rw [nI_sub (by first | omega | (dsimp only; omega))]
  exact st_f (nI_nlt (by first | omega | (dsimp only; omega)) (by first | omega | (dsimp only; omega))) rfl
theorem cp_mv {N r q i j c : Nat} (hr : r < 6) (hq : q < 6) (hi : i + c ≤ 40) (hj : j + c ≤ 40) : ∀ m k mm, k + m = c → ∀ f, m < f → ∃ m', fX12_copy_136 N f 175 (nI q) (nI j) (nI c) (nI k) mm = some (1, m') ∧ Fr (fun x y => x = 178 ∧ 40 * q + j + k ≤ y ∧ y < 40 * q + j + c) mm m' ∧ ∀ x, k ≤ x → x < c → rd m' 178 (40 * q + j + x) = rd mm 179 x := by
  intro m
  induction m with
  | zero =>
    intro k mm hk f hf
    obtain ⟨f, rfl⟩ : ∃ g, f = g + 1 := ⟨f - 1, by omega⟩
    refine ⟨mm, ?_, Fr.rf, fun x h1 h2 => by omega⟩
    unfold fX12_copy_136
    exact st_t (nI_le (by first | omega | (dsimp only; omega)) (by first | omega | (dsimp only; omega))) rfl
  | succ m ih =>
    intro k mm hk f hf
    obtain ⟨f, rfl⟩ : ∃ g, f = g + 1 := ⟨f - 1, by omega⟩
    obtain ⟨m', h1, h2, h3⟩ := ih (k + 1) (wr mm 178 (40 * q + (j + k)) (rd mm 179 k)) (by first | omega | (dsimp only; omega)) f (by first | omega | (dsimp only; omega))
    refine ⟨m', ?_, fr_st (h2.mono (fun x y e => by omega)) (by first | omega | (dsimp only; omega)), fun x a b => ?_⟩
    · unfold fX12_copy_136
      simp only [LXm, nI_nat (show k < 2147483648 by omega)]
      refine st_f (nI_ge (by first | omega | (dsimp only; omega)) (by first | omega | (dsimp only; omega))) (st_k rfl (by first | omega | (dsimp only; omega)) (by first | omega | (dsimp only; omega)) ?_)
      rw [nI_add]
      refine st_b (setRow_t hq (by first | omega | (dsimp only; omega))) ?_
      rw [nI_1]
      exact h1
    · by_cases hx : x = k
      · subst hx
        rw [h2.2 _ _ (by first | omega | (dsimp only; omega)), Nat.add_assoc, rd_wr_s]
      · rw [h3 x (by first | omega | (dsimp only; omega)) b, rd_wr_k (by first | omega | (dsimp only; omega))]
theorem cp_tk {N r q i j c : Nat} (hr : r < 6) (hq : q < 6) (hi : i + c ≤ 40) (hj : j + c ≤ 40) (hN : 100000 ≤ N) : ∀ m k mm, k + m = c → ∀ f, m < f → ∃ m', fX12_copy_104 N f 175 (nI r) (nI i) (nI q) (nI j) (nI c) (nI k) mm = some (1, m') ∧ Fr (fun x y => x = 179 ∨ (x = 178 ∧ 40 * q + j ≤ y ∧ y < 40 * q + j + c)) mm m' ∧ ∀ x, x < c → rd m' 178 (40 * q + j + x) = if x < k then rd mm 179 x else rd mm 178 (40 * r + (i + x)) := by
  intro m
  induction m with
  | zero =>
    intro k mm hk f hf
    obtain ⟨f, rfl⟩ : ∃ g, f = g + 1 := ⟨f - 1, by omega⟩
    obtain ⟨m', h1, h2, h3⟩ := cp_mv (N := N) hr hq hi hj c 0 mm (by first | omega | (dsimp only; omega)) N (by first | omega | (dsimp only; omega))
    refine ⟨m', ?_, h2.mono (fun x y e => by omega), fun x hx => ?_⟩
    · unfold fX12_copy_104
      exact st_t (nI_le (by first | omega | (dsimp only; omega)) (by first | omega | (dsimp only; omega))) h1
    · rw [h3 x (by first | omega | (dsimp only; omega)) hx, if_pos (by first | omega | (dsimp only; omega))]
  | succ m ih =>
    intro k mm hk f hf
    obtain ⟨f, rfl⟩ : ∃ g, f = g + 1 := ⟨f - 1, by omega⟩
    obtain ⟨m', h1, h2, h3⟩ := ih (k + 1) (wr mm 179 k (rd mm 178 (40 * r + (i + k)))) (by first | omega | (dsimp only; omega)) f (by first | omega | (dsimp only; omega))
    refine ⟨m', ?_, fr_st h2 (by first | omega | (dsimp only; omega)), fun x hx => ?_⟩
    · unfold fX12_copy_104
      simp only [LXm, nI_nat (show k < 2147483648 by omega)]
      refine st_f (nI_ge (by first | omega | (dsimp only; omega)) (by first | omega | (dsimp only; omega))) ?_
      rw [nI_add]
      refine st_b (rowAt_t hr (by first | omega | (dsimp only; omega))) (st_k rfl (by first | omega | (dsimp only; omega)) (by first | omega | (dsimp only; omega)) (st_n ?_))
      rw [nI_1]
      exact h1
    · rw [h3 x hx]
      by_cases hxk : x = k
      · subst hxk
        rw [if_pos (by first | omega | (dsimp only; omega)), if_neg (by first | omega | (dsimp only; omega)), rd_wr_s]
      · by_cases h4 : x < k
        · rw [if_pos (by first | omega | (dsimp only; omega)), if_pos h4, rd_wr_j (by first | omega | (dsimp only; omega))]
        · rw [if_neg (by first | omega | (dsimp only; omega)), if_neg h4, rd_wr_k (by first | omega | (dsimp only; omega))]
theorem l_add {a b : Nat} (ha : a < 2147483648) (hb : b < 2147483648) : ((nI a).toInt64 + (nI b).toInt64).toInt = a + b := by
  have h1 : ((nI a).toInt64).toInt = a := by rw [Int32.toInt_toInt64, nI_toInt ha]
  have h2 : ((nI b).toInt64).toInt = b := by rw [Int32.toInt_toInt64, nI_toInt hb]
  rw [Int64.toInt_add, h1, h2]
  exact Int.bmod_eq_of_le_mul_two (by show -((18446744073709551616 : Nat) : Int) ≤ _; omega) (by show _ < ((18446744073709551616 : Nat) : Int); omega)
theorem l_nI {a : Nat} (ha : a < 2147483648) : ((nI a).toInt64).toInt = a := by rw [Int32.toInt_toInt64, nI_toInt ha]
theorem cpok_n {L M i j c : Nat} (hi : i + c ≤ L) (hj : j + c ≤ M) (hL : L ≤ 1000) (hM : M ≤ 1000) : cpok L M (nI i) (nI j) (nI c) = true := by
  unfold cpok
  rw [decide_eq_true_eq, nI_nat (by first | omega | (dsimp only; omega)), nI_nat (by first | omega | (dsimp only; omega)), nI_nat (by first | omega | (dsimp only; omega))]
  exact ⟨nI_pos (by first | omega | (dsimp only; omega)), nI_pos (by first | omega | (dsimp only; omega)), nI_pos (by first | omega | (dsimp only; omega)), hi, hj⟩
