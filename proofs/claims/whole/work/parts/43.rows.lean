/-! pure: rows and texts -/
def cRef (f : Nat) (mm : Mm) : Mm := wr (wr mm 0 13 (nI f)) 94 f (rd mm 94 f + 1)
def mMeet (f : Nat) (mm : Mm) : Mm := wr (wr mm 175 0 (nI f)) 176 f (rd mm 176 f + 1)
theorem rd_cRef {f k j : Nat} {mm : Mm} (h : k ≠ 0) (h2 : k ≠ 94) : rd (cRef f mm) k j = rd mm k j := by
  unfold cRef; rw [rd_wr_k h2, rd_wr_k h]
theorem c_ref {N : Nat} {mm : Mm} (f : Nat) {a : Int32} (ha : a = nI f) (hf : f < 6) : fX11_refused N 0 a mm = some (-3, cRef f mm) := by
  subst ha
  unfold fX11_refused cRef
  refine st_n ?_
  refine st_k (L := 6) rfl hf (by first | omega | (dsimp only; omega)) ?_
  refine st_k (L := 6) rfl hf (by first | omega | (dsimp only; omega)) ?_
  simp only [LXa, nI_nat (show f < 2147483648 by omega)]
  refine st_n ?_
  rw [rd_wr_k (by first | omega | (dsimp only; omega))]
theorem m_meet {N : Nat} {mm : Mm} (f : Nat) {a : Int32} (ha : a = nI f) (hf : f < 6) : fX12_meet N 175 a mm = some (-3, mMeet f mm) := by
  subst ha
  unfold fX12_meet mMeet
  refine st_n ?_
  refine st_k (L := 6) rfl hf (by first | omega | (dsimp only; omega)) ?_
  refine st_k (L := 6) rfl hf (by first | omega | (dsimp only; omega)) ?_
  simp only [LXm, nI_nat (show f < 2147483648 by omega)]
  refine st_n ?_
  rw [rd_wr_k (by first | omega | (dsimp only; omega))]
/-- cells of rows, findings, asked -/
def PF (k j : Nat) : Prop := (95 ≤ k ∧ k ≤ 106) ∨ k = 177 ∨ k = 178 ∨ (k = 0 ∧ (j = 13 ∨ j = 14)) ∨ k = 94 ∨ k = 176 ∨ (k = 175 ∧ (j = 0 ∨ j = 2))
theorem Rel_RRF {mm m2 : Mm} (h : Rel mm) (e : ∀ k j, Es k j = true → ¬ PF k j → rd m2 k j = rd mm k j) (h1 : RR m2) (h2 : RF m2) : Rel m2 := by
  obtain ⟨-, g2, ⟨n, g3, g4, g5⟩, -, g7, g8⟩ := h
  have hn := g3.1
  refine ⟨h1, ?_, ⟨n, ?_, ?_, ?_⟩, h2, ?_, ?_⟩
  · exact RT_c g2 (fun i j z => e i j (eRT z) (by unfold PF; omega))
  · exact RS_c g3 (fun i j z => e i j (eRS z) (by unfold PF; omega))
  · exact RCm_c g4 hn (fun i j z => e i j (eRC z) (by unfold PF; omega))
  · exact fun q hq => RKt_c (g5 q hq) hn hq (fun i j z => e i j (eRK z) (by unfold PF; omega))
  · exact RA_c g7 (fun i z => e i 0 (eRA z) (by unfold PF; omega))
  · exact RTT_c g8 (fun i j z => e i j (eRTT z) (by unfold PF; omega))
theorem RF_asked {mm m2 : Mm} (h : RF mm) (e : ∀ k j, (k = 0 ∧ j = 13) ∨ (k = 175 ∧ j = 0) ∨ k = 94 ∨ k = 176 → rd m2 k j = rd mm k j) (e2 : m2.2 = mm.2) (h3 : rd m2 175 2 = rd m2 0 14) : RF m2 := by
  obtain ⟨g1, g2, -, g4, g5⟩ := h
  refine ⟨by rw [e _ _ (by first | omega | (dsimp only; omega)), e _ _ (by first | omega | (dsimp only; omega))]; exact g1, fun f hf => by rw [e _ _ (by first | omega | (dsimp only; omega)), e _ _ (by first | omega | (dsimp only; omega))]; exact g2 f hf, h3, ?_, ?_⟩
  · unfold rdL at g4 ⊢; rw [e2]; exact g4
  · unfold rdL at g5 ⊢; rw [e2]; exact g5
theorem rel_ref {mm : Mm} (h : Rel mm) {f : Nat} (hf : f < 6) : Rel (mMeet f (cRef f mm)) := by
  refine Rel_RRF h (fun k j e hp => ?_) (RR_c h.1 (fun k j e => ?_)) ?_
  · unfold PF at hp
    unfold mMeet cRef
    rw [rd_wr, if_neg (by first | omega | (dsimp only; omega)), rd_wr, if_neg (by first | omega | (dsimp only; omega)), rd_wr, if_neg (by first | omega | (dsimp only; omega)), rd_wr, if_neg (by first | omega | (dsimp only; omega))]
  · unfold mMeet cRef
    rw [rd_wr, if_neg (by first | omega | (dsimp only; omega)), rd_wr, if_neg (by first | omega | (dsimp only; omega)), rd_wr, if_neg (by first | omega | (dsimp only; omega)), rd_wr, if_neg (by first | omega | (dsimp only; omega))]
  · obtain ⟨g1, g2, g3, g4, g5⟩ := h.2.2.2.1
    have hx : rd (cRef f mm) 176 f = rd mm 176 f := rd_cRef (by first | omega | (dsimp only; omega)) (by first | omega | (dsimp only; omega))
    refine ⟨?_, fun q hq => ?_, ?_, g4, g5⟩
    · unfold mMeet cRef
      rw [rd_wr_k (by first | omega | (dsimp only; omega)), rd_wr_s, rd_wr_k (by first | omega | (dsimp only; omega)), rd_wr_k (by first | omega | (dsimp only; omega)), rd_wr_k (by first | omega | (dsimp only; omega)), rd_wr_s]
    · unfold mMeet
      rw [hx]
      by_cases hqf : q = f
      · subst hqf
        rw [rd_wr_s, rd_wr_k (by first | omega | (dsimp only; omega)), rd_wr_k (by first | omega | (dsimp only; omega))]
        unfold cRef
        rw [rd_wr_s, g2 _ hq]
      · rw [rd_wr_j hqf, rd_wr_k (by first | omega | (dsimp only; omega)), rd_wr_k (by first | omega | (dsimp only; omega)), rd_wr_k (by first | omega | (dsimp only; omega))]
        unfold cRef
        rw [rd_wr_k (by first | omega | (dsimp only; omega)), rd_wr_k (by first | omega | (dsimp only; omega)), rd_wr_j hqf, rd_wr_k (by first | omega | (dsimp only; omega))]
        exact g2 q hq
    · unfold mMeet cRef
      rw [rd_wr_k (by first | omega | (dsimp only; omega)), rd_wr_j (by first | omega | (dsimp only; omega)), rd_wr_k (by first | omega | (dsimp only; omega)), rd_wr_k (by first | omega | (dsimp only; omega)), rd_wr_k (by first | omega | (dsimp only; omega)), rd_wr_k (by first | omega | (dsimp only; omega)), rd_wr_k (by first | omega | (dsimp only; omega)), rd_wr_j (by first | omega | (dsimp only; omega))]
      exact g3
theorem RR_upd {mm m2 : Mm} (h : RR mm) {r : Nat} (e : ∀ k j, (95 ≤ k ∧ k ≤ 106 ∧ ¬ (k = 95 + 2 * r ∧ j = 1) ∧ k ≠ 96 + 2 * r) ∨ (k = 177 ∧ j ≠ r) ∨ (k = 178 ∧ ¬ (40 * r ≤ j ∧ j < 40 * r + 40)) → rd m2 k j = rd mm k j) (hn : RRow 40 (rd m2 (95 + 2 * r) 1) (rd m2 177 r) (fun i => rd m2 (96 + 2 * r) i) (fun i => rd m2 178 (40 * r + i)) (fun _ => True)) : RR m2 := fun q hq => by
  by_cases hqr : q = r
  · subst hqr; exact hn
  · rcases h q hq with ⟨h1, h2⟩ | ⟨n, h1, h2, h3, h4⟩
    · exact Or.inl ⟨by rw [e _ _ (by first | omega | (dsimp only; omega))]; exact h1, by rw [e _ _ (by first | omega | (dsimp only; omega))]; exact h2⟩
    · refine Or.inr ⟨n, h1, by rw [e _ _ (by first | omega | (dsimp only; omega))]; exact h2, by rw [e _ _ (by first | omega | (dsimp only; omega))]; exact h3, fun i hi => ?_⟩
      simp only
      rw [e _ _ (by first | omega | (dsimp only; omega)), e _ _ (by first | omega | (dsimp only; omega))]
      exact h4 i hi
-- helpers of the class
theorem rowOf_t {N r : Nat} {mm : Mm} (h : r < 6) : fX11_rowOf N 0 (nI r) mm = some (some (95 + 2 * r), mm) := by
  unfold fX11_rowOf
  refine st_f (nI_pos (by first | omega | (dsimp only; omega))) (st_t (nI_lt h (by first | omega | (dsimp only; omega))) (st_k (L := 6) rfl h (by first | omega | (dsimp only; omega)) ?_))
  rw [nI_nat (by first | omega | (dsimp only; omega))]; rfl
theorem rowOf_n {N : Nat} {a : Int32} {mm : Mm} (h : Out a 6) : fX11_rowOf N 0 a mm = some (none, mm) := by
  unfold fX11_rowOf
  rcases h with h | ⟨j, h1, h2, rfl⟩
  · exact st_t h rfl
  · exact st_f (nI_pos h2) (st_f (nI_nlt h1 h2) rfl)
theorem textOf_t {N r : Nat} {mm : Mm} (h : r < 4) : fX11_textOf N 0 (nI r) mm = some (some (107 + 2 * r), mm) := by
  unfold fX11_textOf
  refine st_f (nI_pos (by first | omega | (dsimp only; omega))) (st_t (nI_lt h (by first | omega | (dsimp only; omega))) (st_k (L := 4) rfl h (by first | omega | (dsimp only; omega)) ?_))
  rw [nI_nat (by first | omega | (dsimp only; omega))]; rfl
theorem textOf_n {N : Nat} {a : Int32} {mm : Mm} (h : Out a 4) : fX11_textOf N 0 a mm = some (none, mm) := by
  unfold fX11_textOf
  rcases h with h | ⟨j, h1, h2, rfl⟩
  · exact st_t h rfl
  · exact st_f (nI_pos h2) (st_f (nI_nlt h1 h2) rfl)
theorem miss_t {N k : Nat} {mm : Mm} (h : rd mm k 1 = -1) : fX6_isMissing N k mm = some (1, mm) := by
  unfold fX6_isMissing
  exact st_f (by rw [h]; decide) rfl
theorem miss_f {N k n : Nat} {mm : Mm} (h : rd mm k 1 = nI n) (hn : n < 2147483648) : fX6_isMissing N k mm = some (0, mm) := by
  unfold fX6_isMissing
  exact st_t (by rw [h]; exact nI_pos' hn) rfl
theorem has_t {N k n i : Nat} {mm : Mm} (h : rd mm k 1 = nI n) (hn : n < 2147483648) (hi : i < n) : fX6_has N k (nI i) mm = some (1, mm) := by
  unfold fX6_has
  exact st_f (nI_pos (by first | omega | (dsimp only; omega))) (st_f (by rw [h]; exact nI_ge hi hn) rfl)
theorem has_f {N k n : Nat} {a : Int32} {mm : Mm} (h : rd mm k 1 = nI n) (ho : Out a n) : fX6_has N k a mm = some (0, mm) := by
  unfold fX6_has
  rcases ho with ho | ⟨j, h1, h2, rfl⟩
  · exact st_t ho rfl
  · exact st_f (nI_pos h2) (st_t (by rw [h]; exact nI_le h1 h2) rfl)
theorem fill_l {N k L : Nat} {v : Int32} (hl : ln k = L) (hL : L ≤ 1800) : ∀ m i mm, i + m = L → ∀ f, m < f → ∃ m', fJ7_fill_53178_5 N f k v (nI i) (nI L) mm = some ((), m') ∧ Fr (fun q _ => q = k) mm m' ∧ (∀ j, i ≤ j → j < L → rd m' k j = v) ∧ ∀ j, j < i → rd m' k j = rd mm k j := by
  intro m
  induction m with
  | zero =>
    intro i mm hi f hf
    obtain ⟨f, rfl⟩ : ∃ g, f = g + 1 := ⟨f - 1, by omega⟩
    refine ⟨mm, ?_, Fr.rf, fun j h1 h2 => by omega, fun _ _ => rfl⟩
    unfold fJ7_fill_53178_5
    exact st_t (nI_le (by first | omega | (dsimp only; omega)) (by first | omega | (dsimp only; omega))) rfl
  | succ m ih =>
    intro i mm hi f hf
    obtain ⟨f, rfl⟩ : ∃ g, f = g + 1 := ⟨f - 1, by omega⟩
    obtain ⟨m', h1, h2, h3, h4⟩ := ih (i + 1) (wr mm k i v) (by first | omega | (dsimp only; omega)) f (by first | omega | (dsimp only; omega))
    refine ⟨m', ?_, fr_st h2 rfl, fun j a b => ?_, fun j a => ?_⟩
    · unfold fJ7_fill_53178_5
      refine st_f (nI_ge (by first | omega | (dsimp only; omega)) (by first | omega | (dsimp only; omega))) (st_k hl (by first | omega | (dsimp only; omega)) (by first | omega | (dsimp only; omega)) (st_n ?_))
      rw [nI_nat (by first | omega | (dsimp only; omega)), nI_1]
      exact h1
    · by_cases hj : j = i
      · subst hj; rw [h4 _ (by first | omega | (dsimp only; omega)), rd_wr_s]
      · exact h3 j (by first | omega | (dsimp only; omega)) b
    · rw [h4 _ (by first | omega | (dsimp only; omega)), rd_wr_j (by first | omega | (dsimp only; omega))]
theorem fill_ok {N k L : Nat} {v : Int32} {mm : Mm} (hN : 100000 ≤ N) (hl : ln k = L) (hL : L ≤ 1800) : ∃ m', fJ7_fill_53178 N k v mm = some ((), m') ∧ Fr (fun q _ => q = k) mm m' ∧ ∀ j, j < L → rd m' k j = v := by
  obtain ⟨m', h1, h2, h3, -⟩ := fill_l (N := N) (v := v) hl hL L 0 mm (by first | omega | (dsimp only; omega)) N (by first | omega | (dsimp only; omega))
  refine ⟨m', ?_, h2, fun j hj => h3 j (by first | omega | (dsimp only; omega)) hj⟩
  unfold fJ7_fill_53178
  rw [hl]
  exact h1
-- helpers of the model
theorem in_t {N : Nat} {a b c : Int32} {mm : Mm} (h1 : ¬ a < b) (h2 : ¬ c < a) : fX12_in N a b c mm = some (1, mm) := by
  unfold fX12_in; exact st_f h1 (st_f h2 rfl)
theorem in_f {N : Nat} {a b c : Int32} {mm : Mm} (h1 : a < b ∨ c < a) : fX12_in N a b c mm = some (0, mm) := by
  unfold fX12_in
  by_cases h : a < b
  · exact st_t h rfl
  · exact st_f h (st_t (h1.resolve_left h) rfl)
theorem in_n {N i n : Nat} {c : Int32} {mm : Mm} (hc : c = nI n - 1) (h : i < n) (hn : n < 2147483648) : fX12_in N (nI i) 0 c mm = some (1, mm) := by
  obtain ⟨q, rfl⟩ : ∃ q, n = q + 1 := ⟨n - 1, by omega⟩
  rw [nI_pred] at hc
  subst hc
  exact in_t (nI_pos (by first | omega | (dsimp only; omega))) (nI_nlt (by first | omega | (dsimp only; omega)) (by first | omega | (dsimp only; omega)))
theorem in_o {N n : Nat} {a c : Int32} {mm : Mm} (hc : c = nI n - 1) (h : Out a n) (hn : n < 2147483648) : fX12_in N a 0 c mm = some (0, mm) := by
  rcases h with h | ⟨j, h1, h2, rfl⟩
  · exact in_f (Or.inl h)
  · refine in_f (Or.inr ?_)
    cases n with
    | zero =>
      subst hc
      have : (nI 0 - 1).toInt = -1 := rfl
      rw [i_lt, nI_toInt h2, this]; omega
    | succ q =>
      rw [nI_pred] at hc
      subst hc
      exact nI_lt (by first | omega | (dsimp only; omega)) (by first | omega | (dsimp only; omega))
theorem isRow_t {N r : Nat} {mm : Mm} (h : r < 6) : fX12_isRow N (nI r) mm = some (1, mm) := by
  unfold fX12_isRow
  exact st_b (in_t (nI_pos (by first | omega | (dsimp only; omega))) (nI_nlt (by first | omega | (dsimp only; omega)) (by first | omega | (dsimp only; omega)))) (st_g (by decide) rfl)
theorem isRow_n {N : Nat} {a : Int32} {mm : Mm} (h : Out a 6) : fX12_isRow N a mm = some (0, mm) := by
  unfold fX12_isRow
  exact st_b (in_o (n := 6) rfl h (by first | omega | (dsimp only; omega))) (st_g (by decide) rfl)
theorem isText_t {N r : Nat} {mm : Mm} (h : r < 4) : fX12_isText N (nI r) mm = some (1, mm) := by
  unfold fX12_isText
  exact st_b (in_t (nI_pos (by first | omega | (dsimp only; omega))) (nI_nlt (by first | omega | (dsimp only; omega)) (by first | omega | (dsimp only; omega)))) (st_g (by decide) rfl)
theorem isText_n {N : Nat} {a : Int32} {mm : Mm} (h : Out a 4) : fX12_isText N a mm = some (0, mm) := by
  unfold fX12_isText
  exact st_b (in_o (n := 4) rfl h (by first | omega | (dsimp only; omega))) (st_g (by decide) rfl)
theorem askedRow_n {N : Nat} {a : Int32} {mm : Mm} (h : Out a 6) : fX12_askedRow N 175 a mm = some (-1, mm) := by
  unfold fX12_askedRow
  exact st_b (isRow_n h) (st_t rfl rfl)
theorem askedRow_0 {N r : Nat} {mm : Mm} (h : r < 6) (e : rd mm 177 r = -9) : fX12_askedRow N 175 (nI r) mm = some (-3, mMeet 1 mm) := by
  unfold fX12_askedRow
  refine st_b (isRow_t h) (st_f (by decide) ?_)
  simp only [LXm, nI_nat (show r < 2147483648 by omega), e]
  exact st_k rfl h (by first | omega | (dsimp only; omega)) (st_f (by decide) (st_b (m_meet 1 rfl (by first | omega | (dsimp only; omega))) rfl))
theorem askedRow_1 {N r n : Nat} {mm : Mm} (h : r < 6) (e : rd mm 177 r = nI n) (hn : n < 2147483648) : fX12_askedRow N 175 (nI r) mm = some (0, mm) := by
  unfold fX12_askedRow
  refine st_b (isRow_t h) (st_f (by decide) ?_)
  simp only [LXm, nI_nat (show r < 2147483648 by omega), e]
  exact st_k rfl h (by first | omega | (dsimp only; omega)) (st_t (nI_pos' hn) rfl)
theorem askedText_n {N : Nat} {a : Int32} {mm : Mm} (h : Out a 4) : fX12_askedText N 175 a mm = some (-1, mm) := by
  unfold fX12_askedText
  exact st_b (isText_n h) (st_t rfl rfl)
theorem askedText_0 {N r : Nat} {mm : Mm} (h : r < 4) (e : rd mm 180 r = -9) : fX12_askedText N 175 (nI r) mm = some (-3, mMeet 1 mm) := by
  unfold fX12_askedText
  refine st_b (isText_t h) (st_f (by decide) ?_)
  simp only [LXm, nI_nat (show r < 2147483648 by omega), e]
  exact st_k rfl h (by first | omega | (dsimp only; omega)) (st_f (by decide) (st_b (m_meet 1 rfl (by first | omega | (dsimp only; omega))) rfl))
theorem askedText_1 {N r n : Nat} {mm : Mm} (h : r < 4) (e : rd mm 180 r = nI n) (hn : n < 2147483648) : fX12_askedText N 175 (nI r) mm = some (0, mm) := by
  unfold fX12_askedText
  refine st_b (isText_t h) (st_f (by decide) ?_)
  simp only [LXm, nI_nat (show r < 2147483648 by omega), e]
  exact st_k rfl h (by first | omega | (dsimp only; omega)) (st_t (nI_pos' hn) rfl)
theorem n40 (r i : Nat) : (40 : Int32) * nI r + nI i = nI (40 * r + i) := by rw [show (40 : Int32) = nI 40 from rfl, nI_mul, nI_add]
theorem n80 (r i : Nat) : (80 : Int32) * nI r + nI i = nI (80 * r + i) := by rw [show (80 : Int32) = nI 80 from rfl, nI_mul, nI_add]
theorem rowAt_t {N r i : Nat} {mm : Mm} (h : r < 6) (hi : i < 40) : fX12_rowAt N 175 (nI r) (nI i) mm = some (rd mm 178 (40 * r + i), mm) := by
  unfold fX12_rowAt
  rw [n40]
  simp only [LXm, nI_nat (show 40 * r + i < 2147483648 by omega)]
  exact st_k rfl (by first | omega | (dsimp only; omega)) (by first | omega | (dsimp only; omega)) rfl
theorem setRow_t {N r i : Nat} {v : Int32} {mm : Mm} (h : r < 6) (hi : i < 40) : fX12_setRow N 175 (nI r) (nI i) v mm = some ((), wr mm 178 (40 * r + i) v) := by
  unfold fX12_setRow
  rw [n40]
  simp only [LXm, nI_nat (show 40 * r + i < 2147483648 by omega)]
  exact st_k rfl (by first | omega | (dsimp only; omega)) (by first | omega | (dsimp only; omega)) rfl
theorem mrow_l {N r : Nat} {v : Int32} (hr : r < 6) : ∀ m i mm, i + m = 40 → ∀ f, m < f → ∃ m', fX12_row_34 N f 175 (nI r) v (nI i) mm = some (v, m') ∧ Fr (fun k j => k = 178 ∧ 40 * r ≤ j ∧ j < 40 * r + 40) mm m' ∧ (∀ j, i ≤ j → j < 40 → rd m' 178 (40 * r + j) = 0) ∧ ∀ j, j < i → rd m' 178 (40 * r + j) = rd mm 178 (40 * r + j) := by
  intro m
  induction m with
  | zero =>
    intro i mm hi f hf
    obtain ⟨f, rfl⟩ : ∃ g, f = g + 1 := ⟨f - 1, by omega⟩
    refine ⟨mm, ?_, Fr.rf, fun j h1 h2 => by omega, fun _ _ => rfl⟩
    unfold fX12_row_34
    exact st_t (nI_le (by first | omega | (dsimp only; omega)) (by first | omega | (dsimp only; omega))) rfl
  | succ m ih =>
    intro i mm hi f hf
    obtain ⟨f, rfl⟩ : ∃ g, f = g + 1 := ⟨f - 1, by omega⟩
    obtain ⟨m', h1, h2, h3, h4⟩ := ih (i + 1) (wr mm 178 (40 * r + i) 0) (by first | omega | (dsimp only; omega)) f (by first | omega | (dsimp only; omega))
    refine ⟨m', ?_, fr_st h2 (by first | omega | (dsimp only; omega)), fun j a b => ?_, fun j a => ?_⟩
    · unfold fX12_row_34
      refine st_f (nI_ge (by first | omega | (dsimp only; omega)) (by first | omega | (dsimp only; omega))) (st_b (setRow_t hr (by first | omega | (dsimp only; omega))) ?_)
      rw [nI_1]
      exact h1
    · by_cases hj : j = i
      · subst hj; rw [h4 _ (by first | omega | (dsimp only; omega)), rd_wr_s]
      · exact h3 j (by first | omega | (dsimp only; omega)) b
    · rw [h4 _ (by first | omega | (dsimp only; omega)), rd_wr_j (by first | omega | (dsimp only; omega))]
/-- the model's row(r, n), n in range -/
theorem mrow_ok {N r n : Nat} {mm : Mm} (hN : 100000 ≤ N) (hr : r < 6) (hn : n ≤ 40) : ∃ m', fX12_row N 175 (nI r) (nI n) mm = some (nI n, m') ∧ Fr (fun k j => (k = 177 ∧ j = r) ∨ (k = 178 ∧ 40 * r ≤ j ∧ j < 40 * r + 40)) mm m' ∧ rd m' 177 r = nI n ∧ ∀ j, j < 40 → rd m' 178 (40 * r + j) = 0 := by
  obtain ⟨m', h1, h2, h3, -⟩ := mrow_l (N := N) (v := nI n) hr 40 0 (wr mm 177 r (nI n)) (by first | omega | (dsimp only; omega)) N (by first | omega | (dsimp only; omega))
  refine ⟨m', ?_, fr_st (h2.mono (fun k j e => by omega)) (by first | omega | (dsimp only; omega)), ?_, fun j hj => h3 j (by first | omega | (dsimp only; omega)) hj⟩
  · unfold fX12_row
    refine st_b (isRow_t hr) (st_f (by decide) (st_t (nI_le hn (by first | omega | (dsimp only; omega))) (st_t (nI_pos' (by first | omega | (dsimp only; omega))) ?_)))
    simp only [LXm, nI_nat (show r < 2147483648 by omega)]
    exact st_k rfl hr (by first | omega | (dsimp only; omega)) (st_n h1)
  · rw [h2.2 _ _ (by first | omega | (dsimp only; omega)), rd_wr_s]
