/-! pure: courts, suits, one suit's weights -/
def gI (k f : Nat) : Int32 := if k ≤ 2 then -9 else nI f
def kok (k w f i : Nat) : Prop := k ≤ 5 ∧ 1 ≤ w ∧ w ≤ 9 ∧ f ≤ 9 ∧ ((k = 3 ∨ k = 4) → 1 ≤ f) ∧ (k = 5 → f < i) ∧ (k ≤ 2 → f = 0)
def SU (mm : Mm) (z k w f : Nat) : Prop := rd mm z 0 = nI k ∧ rd mm z 1 = nI w ∧ rd mm z 2 = gI k f
/-- the suits of the class' court -/
def CS (mm : Mm) (n : Nat) (K W F : Nat → Nat) : Prop := rd mm 3 5 = nI n ∧ n ≤ 6 ∧ ∀ i, i < n → SU mm (17 + i) (K i) (W i) (F i) ∧ kok (K i) (W i) (F i) i
/-- the suits of the model's court -/
def MS (mm : Mm) (n : Nat) (K W F : Nat → Nat) : Prop := rd mm 175 10 = nI n ∧ n ≤ 6 ∧ ∀ i, i < n → (rd mm 182 (3 * i) = nI (K i) ∧ rd mm 182 (3 * i + 1) = nI (W i) ∧ rd mm 182 (3 * i + 2) = gI (K i) (F i)) ∧ kok (K i) (W i) (F i) i
theorem CS_c {mm m2 : Mm} {n : Nat} {K W F : Nat → Nat} (h : CS mm n K W F) (e : ∀ k j, (17 ≤ k ∧ k ≤ 22) ∨ (k = 3 ∧ j = 5) → rd m2 k j = rd mm k j) : CS m2 n K W F := by
  obtain ⟨h1, h2, h3⟩ := h
  refine ⟨by rw [e _ _ (by first | omega | (dsimp only; omega))]; exact h1, h2, fun i hi => ?_⟩
  obtain ⟨⟨a, b, c⟩, d⟩ := h3 i hi
  exact ⟨⟨by rw [e _ _ (by first | omega | (dsimp only; omega))]; exact a, by rw [e _ _ (by first | omega | (dsimp only; omega))]; exact b, by rw [e _ _ (by first | omega | (dsimp only; omega))]; exact c⟩, d⟩
theorem MS_c {mm m2 : Mm} {n : Nat} {K W F : Nat → Nat} (h : MS mm n K W F) (e : ∀ k j, (k = 182 ∧ j < 18) ∨ (k = 175 ∧ j = 10) → rd m2 k j = rd mm k j) : MS m2 n K W F := by
  obtain ⟨h1, h2, h3⟩ := h
  refine ⟨by rw [e _ _ (by first | omega | (dsimp only; omega))]; exact h1, h2, fun i hi => ?_⟩
  obtain ⟨⟨a, b, c⟩, d⟩ := h3 i hi
  exact ⟨⟨by rw [e _ _ (by first | omega | (dsimp only; omega))]; exact a, by rw [e _ _ (by first | omega | (dsimp only; omega))]; exact b, by rw [e _ _ (by first | omega | (dsimp only; omega))]; exact c⟩, d⟩
theorem nI_back {n : Nat} (h : n < 2147483648) : (nI n).toInt.toNat = n := by rw [nI_toInt h]; omega
theorem SOK_u {i : Nat} {mm : Mm} {z : Nat} (h : SOK i (rd mm z 0) (rd mm z 1) (rd mm z 2)) (hi : i < 6) : SU mm z (rd mm z 0).toInt.toNat (rd mm z 1).toInt.toNat (rd mm z 2).toInt.toNat ∧ kok (rd mm z 0).toInt.toNat (rd mm z 1).toInt.toNat (rd mm z 2).toInt.toNat i := by
  obtain ⟨kn, wn, h1, h2, h3, h4, h5, h6⟩ := h
  unfold SU kok
  rw [h4, h5, nI_back (by first | omega | (dsimp only; omega)), nI_back (by first | omega | (dsimp only; omega))]
  rcases h6 with ⟨h6, h7⟩ | ⟨fn, h6, h7⟩
  · rw [h7]
    have : (-9 : Int32).toInt.toNat = 0 := rfl
    rw [this]
    refine ⟨⟨rfl, rfl, ?_⟩, by omega, by omega, by omega, by omega, by omega, by omega, by omega⟩
    unfold gI; rw [if_pos h6]
  · rw [h6, nI_back (by first | omega | (dsimp only; omega))]
    refine ⟨⟨rfl, rfl, ?_⟩, by omega, by omega, by omega, by omega, by omega, by omega, by omega⟩
    unfold gI; rw [if_neg (by first | omega | (dsimp only; omega))]
theorem RS_CS {mm : Mm} {n : Nat} (h : RS mm n) : CS mm n (uK mm) (uW mm) (uF mm) ∧ MS mm n (uK mm) (uW mm) (uF mm) := by
  obtain ⟨h1, h2, h3, h4⟩ := h
  refine ⟨⟨h2, h1, fun i hi => ?_⟩, h3, h1, fun i hi => ?_⟩
  · exact SOK_u (h4 i hi).2.2.2 (by first | omega | (dsimp only; omega))
  · obtain ⟨a, b, c, d⟩ := h4 i hi
    obtain ⟨⟨e1, e2, e3⟩, e4⟩ := SOK_u d (by first | omega | (dsimp only; omega))
    exact ⟨⟨by rw [a]; exact e1, by rw [b]; exact e2, by rw [c]; exact e3⟩, e4⟩
-- the class' helpers
theorem suitOf_t {N n i : Nat} {K W F : Nat → Nat} {mm : Mm} (h : CS mm n K W F) (hi : i < n) : fX0_suitOf N 3 (nI i) mm = some (some (17 + i), mm) := by
  have hn := h.2.1
  unfold fX0_suitOf
  refine st_f (nI_pos (by first | omega | (dsimp only; omega))) (st_f (by rw [h.1]; exact nI_ge hi (by first | omega | (dsimp only; omega))) (st_t (nI_lt (by first | omega | (dsimp only; omega)) (by first | omega | (dsimp only; omega))) (st_k (L := 6) rfl (by first | omega | (dsimp only; omega)) (by first | omega | (dsimp only; omega)) ?_)))
  rw [nI_nat (by first | omega | (dsimp only; omega))]; rfl
theorem suitOf_n {N n : Nat} {a : Int32} {K W F : Nat → Nat} {mm : Mm} (h : CS mm n K W F) (ho : Out a n) : fX0_suitOf N 3 a mm = some (none, mm) := by
  have hn := h.2.1
  unfold fX0_suitOf
  rcases ho with ho | ⟨j, h1, h2, rfl⟩
  · exact st_t ho rfl
  · exact st_f (nI_pos h2) (st_t (by rw [h.1]; exact nI_le h1 h2) rfl)
theorem suitOf_e {N n : Nat} {K W F : Nat → Nat} {mm : Mm} (h : CS mm n K W F) : fX0_suitOf N 3 (nI n) mm = some (none, mm) := by
  have hn := h.2.1
  exact suitOf_n h (Or.inr ⟨n, Nat.le_refl _, by omega, rfl⟩)
def isaN (k o : Nat) : Nat := if k = o ∨ (o = 1 ∧ k = 5) ∨ (o = 3 ∧ k = 4) then 1 else 0
theorem isA_e {N z k w f o : Nat} {mm : Mm} (h : SU mm z k w f) (hk : k ≤ 5) (ho : 1 ≤ o ∧ o ≤ 5) : fX9_isA N z (nI o) mm = some (nI (isaN k o), mm) := by
  unfold fX9_isA fX9_isA_25
  rw [h.1]
  obtain ⟨o1, o2⟩ := ho
  rcases (by omega : k = 0 ∨ k = 1 ∨ k = 2 ∨ k = 3 ∨ k = 4 ∨ k = 5) with rfl | rfl | rfl | rfl | rfl | rfl <;> rcases (by omega : o = 1 ∨ o = 2 ∨ o = 3 ∨ o = 4 ∨ o = 5) with rfl | rfl | rfl | rfl | rfl <;> rfl
theorem isaN_1 (k o : Nat) : isaN k o ≤ 1 := by unfold isaN; split <;> omega
def exN (k f d b : Nat) : Nat := if k = 3 ∨ k = 4 then f * d else if b = 0 then 0 else 2
def lsN (k f : Nat) : Nat := if k = 4 then f else if k = 3 then 1 else 0
theorem extra_e {N z k w f d b : Nat} {mm : Mm} (h : SU mm z k w f) (hk : k ≤ 5) (hb : b ≤ 1) : fX9_extra N z (nI d) (nI b) mm = some (nI (exN k f d b), mm) := by
  unfold fX9_extra exN
  rw [h.1, h.2.2]
  rcases (by omega : k = 0 ∨ k = 1 ∨ k = 2 ∨ k = 3 ∨ k = 4 ∨ k = 5) with rfl | rfl | rfl | rfl | rfl | rfl <;> rcases (by omega : b = 0 ∨ b = 1) with rfl | rfl <;> first | rfl | (refine st_t rfl ?_; rw [if_pos (by first | omega | (dsimp only; omega))]; unfold gI; rw [if_neg (by first | omega | (dsimp only; omega)), nI_mul]) | (refine st_f (by decide) (st_t rfl ?_); rw [if_pos (by first | omega | (dsimp only; omega))]; unfold gI; rw [if_neg (by first | omega | (dsimp only; omega)), nI_mul])
theorem least_e {N z k w f : Nat} {mm : Mm} (h : SU mm z k w f) (hk : k ≤ 5) : fX9_least N z mm = some (nI (lsN k f), mm) := by
  unfold fX9_least lsN
  rw [h.1, h.2.2]
  rcases (by omega : k = 0 ∨ k = 1 ∨ k = 2 ∨ k = 3 ∨ k = 4 ∨ k = 5) with rfl | rfl | rfl | rfl | rfl | rfl <;> rfl
theorem lsN_9 {k f : Nat} (hf : f ≤ 9) : lsN k f ≤ 9 := by unfold lsN; split <;> (try split) <;> omega
theorem weight_e {N z k w f x e : Nat} {mm : Mm} (h : SU mm z k w f) (hk : k ≤ 5) (hf : f ≤ 9) (hx : x < 2147483648) : fX9_weight N z (nI x) (nI e) mm = some (nI (if x < lsN k f then 0 else x + e), mm) := by
  have h9 := lsN_9 (k := k) hf
  unfold fX9_weight
  refine st_b (least_e h hk) ?_
  by_cases hl : x < lsN k f
  · rw [if_pos hl]; exact st_f (nI_ge hl (by first | omega | (dsimp only; omega))) rfl
  · rw [if_neg hl]
    refine st_t (nI_le (by first | omega | (dsimp only; omega)) (by first | omega | (dsimp only; omega))) ?_
    rw [nI_add]
theorem winner_e {N z k w f a b : Nat} {mm : Mm} (h : SU mm z k w f) (hk : k ≤ 5) (ha : a < 2147483648) (hb : b < 2147483648) : fX9_winner N z (nI a) (nI b) mm = some (nI (wnr k a b), mm) := by
  unfold fX9_winner fX9_winner_37 fX9_winner_50 wnr
  rw [h.1]
  by_cases hab : a = b
  · subst hab
    refine st_t rfl ?_
    rw [if_pos rfl]
    rcases (by omega : k = 0 ∨ k = 1 ∨ k = 2 ∨ k = 3 ∨ k = 4 ∨ k = 5) with rfl | rfl | rfl | rfl | rfl | rfl <;> rfl
  · rw [if_neg hab]
    refine st_f (fun e => hab (nI_inj e ha hb)) ?_
    by_cases hlt : a ≤ b
    · refine st_t (nI_le hlt hb) ?_
      have : ¬ b < a := by omega
      rcases (by omega : k = 0 ∨ k = 1 ∨ k = 2 ∨ k = 3 ∨ k = 4 ∨ k = 5) with rfl | rfl | rfl | rfl | rfl | rfl <;> simp [this] <;> rfl
    · refine st_f (nI_ge (by first | omega | (dsimp only; omega)) ha) ?_
      have : b < a := by omega
      rcases (by omega : k = 0 ∨ k = 1 ∨ k = 2 ∨ k = 3 ∨ k = 4 ∨ k = 5) with rfl | rfl | rfl | rfl | rfl | rfl <;> simp [this] <;> rfl
theorem wnr_2 (k a b : Nat) : wnr k a b ≤ 2 := by unfold wnr; split <;> split <;> omega
theorem points_e {N z k w f s e : Nat} {mm : Mm} (h : SU mm z k w f) (hs : s ≤ 1) (he : e ≤ 2) : fX9_points N z (nI s) (nI e) mm = some (nI (pts w s e), mm) := by
  unfold fX9_points pts
  rw [h.2.1]
  by_cases h1 : e = s
  · subst h1
    refine st_t rfl ?_
    rw [if_pos rfl, show (2 : Int32) = nI 2 from rfl, nI_mul]
  · rw [if_neg h1]
    refine st_f (fun q => h1 (nI_inj q (by first | omega | (dsimp only; omega)) (by first | omega | (dsimp only; omega)))) ?_
    by_cases h2 : e = 2
    · subst h2; refine st_t rfl ?_; rw [if_pos rfl]
    · rw [if_neg h2]
      exact st_f (fun q => h2 (nI_inj (b := 2) q (by first | omega | (dsimp only; omega)) (by first | omega | (dsimp only; omega)))) rfl
theorem pts_18 {w s e : Nat} (hw : w ≤ 9) : pts w s e ≤ 18 := by unfold pts; split <;> (try split) <;> omega
/-- who won the suit that it hangs on; 2 for another kind -/
def ahN (k f : Nat) (w : Nat → Nat) : Nat := if k = 5 then w f else 2
theorem ahead_e {N z k w f p : Nat} {wf : Nat → Nat} {mm : Mm} (h : SU mm z k w f) (hk : k ≤ 5) (hf : k = 5 → f < 6) (hp : ln p = 6) (hw : k = 5 → rd mm p f = nI (wf f)) : fX9_aheadIn N z p mm = some (nI (ahN k f wf), mm) := by
  unfold fX9_aheadIn ahN
  rw [h.1, h.2.2, hp]
  rcases (by omega : k = 5 ∨ k < 5) with rfl | h5
  · refine st_t rfl ?_
    have e : gI 5 f = nI f := rfl
    rw [e, if_pos rfl]
    have hf := hf rfl
    refine st_f (nI_pos (by first | omega | (dsimp only; omega))) (st_f (nI_ge hf (by first | omega | (dsimp only; omega))) (st_k rfl hf (by first | omega | (dsimp only; omega)) ?_))
    rw [nI_nat (by first | omega | (dsimp only; omega)), hw rfl]
  · rw [if_neg (show ¬ k = 5 by omega)]
    exact st_f (fun q => by have := nI_inj (a := k) (b := 5) q (by first | omega | (dsimp only; omega)) (by first | omega | (dsimp only; omega)); omega) rfl
/-- the weight is the same by both ways to say it -/
theorem wgt_ex {k f d b x : Nat} (hk : k ≤ 5) (hb : k < 5 → b = 0) : (if x < lsN k f then 0 else x + exN k f d b) = wgt k f d (if b = 0 then 0 else 2) x := by
  unfold lsN exN wgt
  rcases (by omega : k = 0 ∨ k = 1 ∨ k = 2 ∨ k = 3 ∨ k = 4 ∨ k = 5) with rfl | rfl | rfl | rfl | rfl | rfl
  · simp [hb (by first | omega | (dsimp only; omega))]
  · simp [hb (by first | omega | (dsimp only; omega))]
  · simp [hb (by first | omega | (dsimp only; omega))]
  · simp
  · simp
  · simp
theorem wgt_b {k f d b x : Nat} (hf : f ≤ 9) (hd : d ≤ 9) (hb : b ≤ 2) (hx : x ≤ 100000) : wgt k f d b x ≤ 200000 := by
  have : f * d ≤ 81 := Nat.mul_le_mul hf hd
  unfold wgt
  split <;> (try split) <;> (try split) <;> (try split) <;> omega
theorem wgt_k {k f d b b' x : Nat} (h : k = 5 → b = b') : wgt k f d b x = wgt k f d b' x := by
  unfold wgt
  by_cases hk : k = 5
  · rw [h hk]
  · simp only [hk, if_false]
theorem wgt_3 {f d b x : Nat} : wgt 3 f d b x = if x < 1 then 0 else x + f * d := rfl
theorem wgt_4 {f d b x : Nat} : wgt 4 f d b x = if x < f then 0 else x + f * d := rfl
theorem wgt_5 {f d b x : Nat} : wgt 5 f d b x = x + b := rfl
-- the model's helpers
theorem n3 (i w : Nat) : (3 : Int32) * nI i + nI w = nI (3 * i + w) := by rw [show (3 : Int32) = nI 3 from rfl, nI_mul, nI_add]
theorem of_e {N i w : Nat} {mm : Mm} (hi : i < 6) (hw : w < 3) : fX12_of N 175 (nI i) (nI w) mm = some (rd mm 182 (3 * i + w), mm) := by
  unfold fX12_of
  rw [n3]
  simp only [LXm, nI_nat (show 3 * i + w < 2147483648 by omega)]
  exact st_k rfl (by first | omega | (dsimp only; omega)) (by first | omega | (dsimp only; omega)) rfl
theorem of_0 {N n i : Nat} {K W F : Nat → Nat} {mm : Mm} (h : MS mm n K W F) (hi : i < n) : fX12_of N 175 (nI i) 0 mm = some (nI (K i), mm) := by
  have hn := h.2.1
  have := of_e (N := N) (mm := mm) (i := i) (w := 0) (by first | omega | (dsimp only; omega)) (by first | omega | (dsimp only; omega))
  rw [show 3 * i + 0 = 3 * i from rfl, (h.2.2 i hi).1.1] at this
  exact this
theorem of_1 {N n i : Nat} {K W F : Nat → Nat} {mm : Mm} (h : MS mm n K W F) (hi : i < n) : fX12_of N 175 (nI i) 1 mm = some (nI (W i), mm) := by
  have hn := h.2.1
  have := of_e (N := N) (mm := mm) (i := i) (w := 1) (by first | omega | (dsimp only; omega)) (by first | omega | (dsimp only; omega))
  rw [(h.2.2 i hi).1.2.1] at this
  exact this
theorem of_2 {N n i : Nat} {K W F : Nat → Nat} {mm : Mm} (h : MS mm n K W F) (hi : i < n) : fX12_of N 175 (nI i) 2 mm = some (gI (K i) (F i), mm) := by
  have hn := h.2.1
  have := of_e (N := N) (mm := mm) (i := i) (w := 2) (by first | omega | (dsimp only; omega)) (by first | omega | (dsimp only; omega))
  rw [(h.2.2 i hi).1.2.2] at this
  exact this
theorem isSuit_t {N n i : Nat} {K W F : Nat → Nat} {mm : Mm} (h : MS mm n K W F) (hi : i < n) : fX12_isSuit N 175 (nI i) mm = some (1, mm) := by
  have hn := h.2.1
  unfold fX12_isSuit
  rw [h.1]
  exact st_b (in_n rfl hi (by first | omega | (dsimp only; omega))) (st_g (by decide) rfl)
theorem isSuit_n {N n : Nat} {a : Int32} {K W F : Nat → Nat} {mm : Mm} (h : MS mm n K W F) (ho : Out a n) : fX12_isSuit N 175 a mm = some (0, mm) := by
  have hn := h.2.1
  unfold fX12_isSuit
  rw [h.1]
  exact st_b (in_o rfl ho (by first | omega | (dsimp only; omega))) (st_g (by decide) rfl)
theorem misA_e {N n i o : Nat} {K W F : Nat → Nat} {mm : Mm} (h : MS mm n K W F) (hi : i < n) (ho : 1 ≤ o ∧ o ≤ 5) : fX12_isA N 175 (nI i) (nI o) mm = some (nI (isaN (K i) o), mm) := by
  have hk : K i ≤ 5 := (h.2.2 i hi).2.1
  unfold fX12_isA fX12_isA_25
  refine st_b (of_0 h hi) ?_
  simp only [bd2_t (of_0 (N := N) h hi)]
  generalize K i = k at hk
  obtain ⟨o1, o2⟩ := ho
  rcases (by omega : k = 0 ∨ k = 1 ∨ k = 2 ∨ k = 3 ∨ k = 4 ∨ k = 5) with rfl | rfl | rfl | rfl | rfl | rfl <;> rcases (by omega : o = 1 ∨ o = 2 ∨ o = 3 ∨ o = 4 ∨ o = 5) with rfl | rfl | rfl | rfl | rfl <;> rfl
theorem mweight_e {N n i s x d : Nat} {K W F : Nat → Nat} {wf : Nat → Nat} {mm : Mm} (h : MS mm n K W F) (hd : rd mm 175 13 = nI d) (hi : i < n) (hs : s ≤ 1) (hx : x < 2147483648) (hw : K i = 5 → rd mm 187 (F i) = nI (wf (F i)) ∧ wf (F i) ≤ 2) : fX12_weight N 175 (nI i) (nI s) (nI x) mm = some (nI (wgt (K i) (F i) d (if wf (F i) = s then 2 else 0) x), mm) := by
  have hn := h.2.1
  obtain ⟨hk, -, -, hf, hf1, hf2, hf3⟩ := (h.2.2 i hi).2
  unfold fX12_weight fX12_weight_53 fX12_weight_73
  refine st_b (of_0 h hi) (st_b (of_2 h hi) ?_)
  rw [hd]
  generalize hkk : K i = k at *
  have hg : 3 ≤ k → gI k (F i) = nI (F i) := fun q => by unfold gI; rw [if_neg (by first | omega | (dsimp only; omega))]
  rcases (by omega : k = 0 ∨ k = 1 ∨ k = 2 ∨ k = 3 ∨ k = 4 ∨ k = 5) with rfl | rfl | rfl | rfl | rfl | rfl
  · rfl
  · rfl
  · rfl
  · refine st_f (by decide) (st_t rfl ?_)
    rw [hg (by first | omega | (dsimp only; omega)), wgt_3, nI_mul, nI_add]
    by_cases h0 : x = 0
    · subst h0
      exact st_t rfl rfl
    · rw [if_neg (show ¬ x < 1 by omega)]
      exact st_f (nI_ne0 (by first | omega | (dsimp only; omega)) hx) (st_f (by decide) rfl)
  · refine st_f (by decide) (st_f (by decide) (st_t rfl ?_))
    rw [hg (by first | omega | (dsimp only; omega)), wgt_4, nI_mul, nI_add]
    have hf1' := hf1 (Or.inr rfl)
    by_cases h0 : x = 0
    · subst h0
      rw [if_pos (show 0 < F i by omega)]
      exact st_t rfl rfl
    · refine st_f (nI_ne0 (by first | omega | (dsimp only; omega)) hx) (st_t rfl ?_)
      by_cases h1 : x < F i
      · rw [if_pos h1]; exact st_f (nI_ge h1 (by first | omega | (dsimp only; omega))) rfl
      · rw [if_neg h1]; exact st_t (nI_le (by first | omega | (dsimp only; omega)) hx) rfl
  · refine st_t rfl ?_
    rw [hg (by first | omega | (dsimp only; omega)), wgt_5]
    simp only [LXm, nI_nat (show F i < 2147483648 by omega)]
    refine st_k rfl (by first | omega | (dsimp only; omega)) (by first | omega | (dsimp only; omega)) ?_
    rw [(hw rfl).1]
    by_cases h1 : wf (F i) = s
    · rw [if_pos h1, ← nI_add]; exact st_t (by rw [h1]) rfl
    · rw [if_neg h1, ← nI_add]
      exact st_f (fun q => h1 (nI_inj q (by have := (hw rfl).2; omega) (by first | omega | (dsimp only; omega)))) rfl
/-- who wins suit i, the winners ahead being wf -/
def wst (K F : Nat → Nat) (d : Nat) (wf : Nat → Nat) (i a b : Nat) : Nat := wnr (K i) (wgt (K i) (F i) d (if wf (F i) = 0 then 2 else 0) a) (wgt (K i) (F i) d (if wf (F i) = 1 then 2 else 0) b)
theorem wst_2 (K F : Nat → Nat) (d : Nat) (wf : Nat → Nat) (i a b : Nat) : wst K F d wf i a b ≤ 2 := wnr_2 _ _ _
theorem mwinner_e {N n i x y d : Nat} {K W F : Nat → Nat} {wf : Nat → Nat} {mm : Mm} (h : MS mm n K W F) (hd : rd mm 175 13 = nI d) (hd9 : d ≤ 9) (hi : i < n) (hx : x ≤ 1000) (hy : y ≤ 1000) (hw : K i = 5 → rd mm 187 (F i) = nI (wf (F i)) ∧ wf (F i) ≤ 2) : fX12_winnerOf N 175 (nI i) (nI x) (nI y) mm = some (nI (wst K F d wf i x y), mm) := by
  have hn := h.2.1
  obtain ⟨hk, -, -, hf, hf1, hf2, hf3⟩ := (h.2.2 i hi).2
  unfold fX12_winnerOf fX12_winnerOf_52 fX12_winnerOf_67
  refine st_b (mweight_e (s := 0) h hd hi (by first | omega | (dsimp only; omega)) (by first | omega | (dsimp only; omega)) hw) (st_b (mweight_e (s := 1) h hd hi (by first | omega | (dsimp only; omega)) (by first | omega | (dsimp only; omega)) hw) ?_)
  unfold wst
  have ha := wgt_b (k := K i) (f := F i) (d := d) (b := if wf (F i) = 0 then 2 else 0) (x := x) hf hd9 (by split <;> omega) (by first | omega | (dsimp only; omega))
  have hb := wgt_b (k := K i) (f := F i) (d := d) (b := if wf (F i) = 1 then 2 else 0) (x := y) hf hd9 (by split <;> omega) (by first | omega | (dsimp only; omega))
  generalize wgt (K i) (F i) d (if wf (F i) = 0 then 2 else 0) x = a at ha
  generalize wgt (K i) (F i) d (if wf (F i) = 1 then 2 else 0) y = b at hb
  unfold wnr
  by_cases hab : a = b
  · subst hab
    refine st_t rfl (st_b (misA_e (o := 1) h hi (by first | omega | (dsimp only; omega))) ?_)
    rw [if_pos rfl]
    by_cases hq : K i = 1 ∨ K i = 5
    · have e1 : isaN (K i) 1 = 1 := by unfold isaN; rw [if_pos (by first | omega | (dsimp only; omega))]
      rw [e1, if_pos hq]; exact st_f (by decide) rfl
    · have e1 : isaN (K i) 1 = 0 := by unfold isaN; rw [if_neg (by first | omega | (dsimp only; omega))]
      rw [e1, if_neg hq]; exact st_t rfl rfl
  · rw [if_neg hab]
    refine st_f (fun e => hab (nI_inj e (by first | omega | (dsimp only; omega)) (by first | omega | (dsimp only; omega)))) ?_
    by_cases hlt : a ≤ b
    · refine st_t (nI_le hlt (by first | omega | (dsimp only; omega))) (st_b (of_0 h hi) ?_)
      have : ¬ b < a := by omega
      by_cases h2 : K i = 2
      · simp [this, h2]; rfl
      · simp [this, h2]
        exact st_f (fun e => h2 (nI_inj (b := 2) e (by first | omega | (dsimp only; omega)) (by first | omega | (dsimp only; omega)))) rfl
    · refine st_f (nI_ge (by first | omega | (dsimp only; omega)) (by first | omega | (dsimp only; omega))) (st_b (of_0 h hi) ?_)
      have : b < a := by omega
      by_cases h2 : K i = 2
      · simp [this, h2]; rfl
      · simp [this, h2]
        exact st_f (fun e => h2 (nI_inj (b := 2) e (by first | omega | (dsimp only; omega)) (by first | omega | (dsimp only; omega)))) rfl
theorem mworth_e {N n i e s : Nat} {K W F : Nat → Nat} {mm : Mm} (h : MS mm n K W F) (hi : i < n) (hs : s ≤ 1) (he : e ≤ 2) : fX12_worthOf N 175 (nI i) (nI e) (nI s) mm = some (nI (pts (W i) s e), mm) := by
  unfold fX12_worthOf pts
  by_cases h1 : e = s
  · subst h1
    refine st_t rfl (st_b (of_1 h hi) ?_)
    rw [if_pos rfl, show (2 : Int32) = nI 2 from rfl, nI_mul]
  · rw [if_neg h1]
    refine st_f (fun q => h1 (nI_inj q (by first | omega | (dsimp only; omega)) (by first | omega | (dsimp only; omega)))) ?_
    by_cases h2 : e = 2
    · subst h2; refine st_t rfl (st_b (of_1 h hi) ?_); rw [if_pos rfl]
    · rw [if_neg h2]
      exact st_f (fun q => h2 (nI_inj (b := 2) q (by first | omega | (dsimp only; omega)) (by first | omega | (dsimp only; omega)))) rfl
