/-! pure: a rule lays, class and model -/
section LayBy
variable {N n t : Nat} {K W F : Nat → Nat}
/-- note k - 1, or none -/
def YC (mm : Mm) (n k : Nat) (y : Nat → Nat) : Prop := (k = 0 ∧ ∀ j, y j = 0) ∨ (0 < k ∧ k ≤ 8 ∧ HA mm (8 + (k - 1)) n y ∧ ∀ i, i < n → y i ≤ 40)
def YM (mm : Mm) (n k : Nat) (y : Nat → Nat) : Prop := (k = 0 ∧ ∀ j, y j = 0) ∨ (0 < k ∧ k ≤ 8 ∧ (∀ i, i < n → rd mm 193 (7 * (k - 1) + i) = nI (y i)) ∧ ∀ i, i < n → y i ≤ 40)
theorem YC.c {mm m2 : Mm} {k : Nat} {y : Nat → Nat} (h : YC mm n k y) (e : ∀ q j, 8 ≤ q ∧ q ≤ 15 → rd m2 q j = rd mm q j) : YC m2 n k y := by
  rcases h with h | ⟨h1, h2, h3, h4⟩
  · exact Or.inl h
  · exact Or.inr ⟨h1, h2, h3.c (fun i _ => e _ _ (by first | omega | (dsimp only; omega))), h4⟩
theorem YM.c {mm m2 : Mm} {k : Nat} {y : Nat → Nat} (h : YM mm n k y) (e : ∀ j, rd m2 193 j = rd mm 193 j) : YM m2 n k y := by
  rcases h with h | ⟨h1, h2, h3, h4⟩
  · exact Or.inl h
  · exact Or.inr ⟨h1, h2, fun i hi => by rw [e]; exact h3 i hi, h4⟩
theorem laidAt_t {k en : Nat} {mm : Mm} (h7 : rd mm 3 7 = nI en) (he : en ≤ 8) (hk : k < en) : fX0_laidAt N 3 (nI k) mm = some (some (8 + k), mm) := by
  unfold fX0_laidAt
  simp only [LXa, nI_nat (show k < 2147483648 by omega)]
  exact st_f (nI_pos (by first | omega | (dsimp only; omega))) (st_t (by rw [h7]; exact nI_lt hk (by first | omega | (dsimp only; omega))) (st_k rfl (show k < 8 by omega) (by first | omega | (dsimp only; omega)) rfl))
theorem layBy_e {o k en : Nat} {y : Nat → Nat} {mm : Mm} (hN : 100000 ≤ N) (h0 : 0 < n) (ho : o < 6) (C : CS mm n K W F) (ht : rd mm 5 1 = nI t) (ht40 : t ≤ 40) (h7 : rd mm 3 7 = nI en) (he : en ≤ 8) (hk : k ≤ en) (Y : YC mm n k y) : ∃ m', fX2_layBy N 55 3 (nI o) (nI k) mm = some ((), m') ∧ Fr (fun k _ => k = 56) mm m' ∧ ∀ j, j < 6 → rd m' 56 j = nI (if j < n then rlN W n t o y j else 0) := by
  have hn := C.2.1
  obtain ⟨m1, c1, f1, g1⟩ := fill_ok (N := N) (k := 56) (v := 0) (L := 6) (mm := mm) hN rfl (by first | omega | (dsimp only; omega))
  have C1 : CS m1 n K W F := CS_c C (fun k j e => f1.2 _ _ (by first | omega | (dsimp only; omega)))
  have hW : 0 < smN W n := wsum_pos h0 (fun i hi => (C.2.2 i hi).2.2.1)
  have h5 : rd m1 3 5 = nI n := C1.1
  have ht1 : rd m1 5 1 = nI t := by rw [f1.2 _ _ (by first | omega | (dsimp only; omega))]; exact ht
  have h71 : rd m1 3 7 = nI en := by rw [f1.2 _ _ (by first | omega | (dsimp only; omega))]; exact h7
  have hx6 : (if (6 : Int32) < nI n then (6 : Int32) else nI n) = nI n := if_neg (nI_nlt (show n ≤ 6 from hn) (by first | omega | (dsimp only; omega)))
  have pre : ∀ {m' : Mm}, (if nI o = 0 then (bd2 (fX2_layEven N 55 (nI n) (nI t) m1) fun x9 m10 => some ((), m10)) else if nI o = 1 then (bd2 (fX2_layByWorth N 55 3 (nI n) (nI t) m1) fun x13 m14 => some ((), m14)) else if nI o = 2 then (gd (inb 0 (ln 56)) <| nm (wr m1 56 (0 : Int32).toNatClampNeg (nI t)) fun m18 => some ((), m18)) else if nI o = 3 then (gd (inb (nI n - 1) (ln 56)) <| nm (wr m1 56 (nI n - 1).toNatClampNeg (nI t)) fun m21 => some ((), m21)) else if nI o = 4 then (bd2 (fX2_greatestOf N 3 (nI n) m1) fun x23 m24 => gd (inb x23 (ln 56)) <| nm (wr m24 56 x23.toNatClampNeg (nI t)) fun m27 => some ((), m27)) else (bd2 (fX0_laidAt N 3 (nI k - 1) m1) fun x28 m29 => bd2 (fX2_layBack N 55 x28 (nI n) (nI t) m29) fun x31 m32 => some ((), m32))) = some ((), m') → fX2_layBy N 55 3 (nI o) (nI k) mm = some ((), m') := by
    intro m' h
    unfold fX2_layBy
    simp only [LXg]
    refine st_b c1 ?_
    simp only [LXa]
    refine st_g (by decide) (st_n ?_)
    rw [show (1 : Int32).toNatClampNeg = 1 from rfl, ht1, h5, hx6]
    exact st_n (st_t (nI_le (show 1 ≤ n from h0) (by first | omega | (dsimp only; omega))) h)
  have one : ∀ (c : Nat), c < n → (∀ j, j < n → rlN W n t o y j = if j = c then t else 0) → ∀ j, j < 6 → rd (wr m1 56 c (nI t)) 56 j = nI (if j < n then rlN W n t o y j else 0) := by
    intro c hc hr j hj
    by_cases hjc : j = c
    · subst hjc; rw [rd_wr_s, if_pos hc, hr j hc, if_pos rfl]
    · rw [rd_wr_j hjc, g1 j hj]
      by_cases hjn : j < n
      · rw [if_pos hjn, hr j hjn, if_neg hjc]; rfl
      · rw [if_neg hjn]; rfl
  rcases (by omega : o = 0 ∨ o = 1 ∨ o = 2 ∨ o = 3 ∨ o = 4 ∨ o = 5) with rfl | rfl | rfl | rfl | rfl | rfl
  · obtain ⟨m', c2, f2, g2, -⟩ := ceven_l (N := N) h0 hn ht40 n 0 m1 (by first | omega | (dsimp only; omega)) N (by first | omega | (dsimp only; omega))
    refine ⟨m', pre (st_t rfl (st_b c2 rfl)), f1.tr (f2.mono (fun k j h => h.1)), fun j hj => ?_⟩
    by_cases hjn : j < n
    · rw [g2 j (by first | omega | (dsimp only; omega)) hjn, if_pos hjn]; rfl
    · rw [f2.2 _ _ (by first | omega | (dsimp only; omega)), g1 j hj, if_neg hjn]; rfl
  · obtain ⟨m', c2, f2, g2⟩ := cworth_l (N := N) h0 ht40 hW n 0 m1 (by first | omega | (dsimp only; omega)) C1 (fun j hj => by omega) N (by first | omega | (dsimp only; omega))
    refine ⟨m', pre (st_f (by decide) (st_t rfl (st_b (st_b (worths_e hN C1) c2) rfl))), f1.tr (f2.mono (fun k j h => h.1)), fun j hj => ?_⟩
    by_cases hjn : j < n
    · rw [g2 j hjn, if_pos hjn]
      have e1 : rbN W n t 1 y = rbW W n t := funext fun i => rfl
      unfold rlN
      rw [e1]
      by_cases hj0 : j = 0
      · rw [if_pos hj0, if_pos ⟨rfl, hj0⟩]
      · rw [if_neg hj0, if_neg (fun e => hj0 e.2)]
    · rw [f2.2 _ _ (by first | omega | (dsimp only; omega)), g1 j hj, if_neg hjn]; rfl
  · refine ⟨wr m1 56 0 (nI t), pre (st_f (by decide) (st_f (by decide) (st_t rfl (st_g (by decide) (st_n rfl))))), fr_wr f1 rfl, one 0 h0 (fun j _ => rfl)⟩
  · refine ⟨wr m1 56 (n - 1) (nI t), pre (st_f (by decide) (st_f (by decide) (st_f (by decide) (st_t rfl ?_)))), fr_wr f1 rfl, one (n - 1) (by first | omega | (dsimp only; omega)) (fun j _ => rfl)⟩
    rw [show nI n - 1 = nI (n - 1) from nI_sub (b := 1) h0]
    refine st_k (L := 6) rfl (by first | omega | (dsimp only; omega)) (by first | omega | (dsimp only; omega)) (st_n ?_)
    rw [nI_nat (by first | omega | (dsimp only; omega))]
  · have hg := gtN_lt (W := W) n h0
    refine ⟨wr m1 56 (gtN W n) (nI t), pre (st_f (by decide) (st_f (by decide) (st_f (by decide) (st_f (by decide) (st_t rfl (st_b (cgreat_l (N := N) C1 n 0 (by first | omega | (dsimp only; omega)) N (by first | omega | (dsimp only; omega))) ?_)))))), fr_wr f1 rfl, one (gtN W n) hg (fun j _ => rfl)⟩
    refine st_k (L := 6) rfl (by first | omega | (dsimp only; omega)) (by first | omega | (dsimp only; omega)) (st_n ?_)
    rw [nI_nat (by first | omega | (dsimp only; omega))]
  · have hrl : ∀ j, rlN W n t 5 y j = if lfN y t j < y j then lfN y t j else y j := fun j => rfl
    rcases Y with ⟨rfl, hy⟩ | ⟨hk0, hk8, HY, hy40⟩
    · refine ⟨m1, pre (st_f (by decide) (st_f (by decide) (st_f (by decide) (st_f (by decide) (st_f (by decide) (st_b (st_t (by decide) rfl) (st_b (a := ()) ?_ rfl))))))), f1, fun j hj => ?_⟩
      · obtain ⟨g, rfl⟩ : ∃ g, N = g + 1 := ⟨N - 1, by omega⟩
        rfl
      · rw [g1 j hj]
        by_cases hjn : j < n
        · rw [if_pos hjn, hrl, hy j, if_neg (by first | omega | (dsimp only; omega))]; rfl
        · rw [if_neg hjn]; rfl
    · obtain ⟨m', c2, f2, g2, -⟩ := cback_l (N := N) (t := t) (z := 8 + (k - 1)) (ln_6 (Or.inl (by first | omega | (dsimp only; omega)))) (by first | omega | (dsimp only; omega)) hn ht40 hy40 n 0 m1 (by first | omega | (dsimp only; omega)) (HY.c (fun j _ => f1.2 _ _ (by first | omega | (dsimp only; omega)))) N (by first | omega | (dsimp only; omega))
      have hla := laidAt_t (N := N) h71 he (show k - 1 < en by omega)
      rw [show nI (k - 1) = nI k - 1 from (nI_sub (b := 1) hk0).symm] at hla
      refine ⟨m', pre (st_f (by decide) (st_f (by decide) (st_f (by decide) (st_f (by decide) (st_f (by decide) (st_b hla (st_b c2 rfl))))))), f1.tr (f2.mono (fun k j h => h.1)), fun j hj => ?_⟩
      by_cases hjn : j < n
      · rw [g2 j (by first | omega | (dsimp only; omega)) hjn, if_pos hjn, hrl]
      · rw [f2.2 _ _ (by first | omega | (dsimp only; omega)), g1 j hj, if_neg hjn]; rfl
-- the model
theorem mlay_l {o k : Nat} {y : Nat → Nat} (h0 : 0 < n) (ho : o < 6) (ht40 : t ≤ 40) : ∀ c i mm, i + c = n → MS mm n K W F → YM mm n k y → HA mm 186 i (rbN W n t o y) → ∀ f, c < f → ∃ m', fX12_layRule_75 N f 175 (nI o) (nI k) (nI t) (nI (smN W n)) (nI (gtN W n)) (nI (t - smN (rbN W n t o y) i)) (nI i) mm = some ((), m') ∧ Fr (fun k _ => k = 186) mm m' ∧ HA m' 186 n (rlN W n t o y) := by
  intro c
  induction c with
  | zero =>
    intro i mm hi M Y H f hf
    obtain ⟨f, rfl⟩ : ∃ g, f = g + 1 := ⟨f - 1, by omega⟩
    obtain rfl : i = n := by omega
    have hn := M.2.1
    refine ⟨wr mm 186 0 (nI (rlN W i t o y 0)), ?_, fr_wr Fr.rf rfl, fun j hj => ?_⟩
    · unfold fX12_layRule_75 fX12_layRule_324
      simp only [LXm]
      refine st_t (by rw [M.1]; exact nI_le (by first | omega | (dsimp only; omega)) (by first | omega | (dsimp only; omega))) (st_g (by decide) ?_)
      rw [show (0 : Int32).toNatClampNeg = 0 from rfl, H 0 h0]
      by_cases h1 : o = 1
      · refine st_t (by rw [h1]; rfl) (st_g (by decide) (st_n ?_))
        rw [nI_add]
        unfold rlN
        rw [if_pos ⟨h1, rfl⟩]
      · refine st_f (nw_ne (v := 1) h1 (by first | omega | (dsimp only; omega)) (by first | omega | (dsimp only; omega))) (st_g (by decide) (st_n ?_))
        rw [show (0 : Int32) = nI 0 from rfl, nI_add]
        unfold rlN
        rw [if_neg (fun e => h1 e.1)]
    · by_cases hj0 : j = 0
      · subst hj0; rw [rd_wr_s]
      · rw [rd_wr_j hj0, H j hj]
        unfold rlN
        rw [if_neg (fun e => hj0 e.2)]; rfl
  | succ c ih =>
    intro i mm hi M Y H f hf
    obtain ⟨f, rfl⟩ : ∃ g, f = g + 1 := ⟨f - 1, by omega⟩
    have hn := M.2.1
    obtain ⟨hk, hW1, hW9, -⟩ := (M.2.2 i (by first | omega | (dsimp only; omega))).2
    have hW : 0 < smN W n := wsum_pos h0 (fun i hi => (M.2.2 i hi).2.2.1)
    have hS : smN W n ≤ 9 * n := smN_le n (fun j hj => (M.2.2 j hj).2.2.2.1)
    have hs1 := rb_sum (t := t) (o := o) (y := y) h0 hW (i + 1) (by first | omega | (dsimp only; omega))
    have e1 : smN (rbN W n t o y) (i + 1) = smN (rbN W n t o y) i + rbN W n t o y i := rfl
    have hgl := gtN_lt (W := W) n h0
    obtain ⟨m', c1, f1, g1⟩ := ih (i + 1) (wr mm 186 i (nI (rbN W n t o y i))) (by first | omega | (dsimp only; omega)) (MS_c M (fun k j e => rd_wr_k (by first | omega | (dsimp only; omega)))) (Y.c (fun j => rd_wr_k (by first | omega | (dsimp only; omega)))) (fun j hj => by
      by_cases hji : j = i
      · subst hji; rw [rd_wr_s]
      · rw [rd_wr_j hji]; exact H j (by first | omega | (dsimp only; omega))) f (by first | omega | (dsimp only; omega))
    refine ⟨m', ?_, (fr_wr (S := fun k _ => k = 186) Fr.rf rfl).tr f1, g1⟩
    -- after the cell is written
    have fin : fX12_layRule_288 N (fX12_layRule_75 N f) 175 (nI o) (nI k) (nI t) (nI (smN W n)) (nI (gtN W n)) (nI (t - smN (rbN W n t o y) i)) (nI i) (wr mm 186 i (nI (rbN W n t o y i))) = some ((), m') := by
      unfold fX12_layRule_288
      simp only [LXm, nI_nat (show i < 2147483648 by omega)]
      refine st_k rfl (show i < 6 by omega) (by first | omega | (dsimp only; omega)) (st_n ?_)
      rw [rd_wr_s, nI_1, nI_sub (by first | omega | (dsimp only; omega)), show t - smN (rbN W n t o y) i - rbN W n t o y i = t - smN (rbN W n t o y) (i + 1) by omega]
      exact c1
    have core : ∀ s : Int32, (o = 5 → s = nI (y i)) → fX12_layRule_107 N (fX12_layRule_75 N f) 175 (nI o) (nI k) (nI t) (nI (smN W n)) (nI (gtN W n)) (nI (t - smN (rbN W n t o y) i)) (nI i) s mm = some ((), m') := by
      intro s hs
      unfold fX12_layRule_107
      rcases (by omega : o = 0 ∨ o = 1 ∨ o = 2 ∨ o = 3 ∨ o = 4 ∨ o = 5) with rfl | rfl | rfl | rfl | rfl | rfl
      · have hmd : nI t - nI t / nI n * nI n = nI (t % n) := by
          have hq : t / n ≤ t := Nat.div_le_self t n
          have := Nat.div_add_mod t n
          rw [nI_div (by first | omega | (dsimp only; omega)) (by first | omega | (dsimp only; omega)), nI_mul, Nat.mul_comm, nI_sub (by first | omega | (dsimp only; omega))]
          rw [show t - n * (t / n) = t % n by omega]
        have hm : t % n < n := Nat.mod_lt _ h0
        have hv : rbN W n t 0 y i = t / n + (if t % n ≤ i then 0 else 1) := rfl
        rw [M.1]
        refine st_t rfl (st_g (nz_n h0 (by first | omega | (dsimp only; omega))) (st_g (nz_n h0 (by first | omega | (dsimp only; omega))) ?_))
        rw [hmd, nI_div (by first | omega | (dsimp only; omega)) (by first | omega | (dsimp only; omega))]
        unfold fX12_layRule_172
        simp only [LXm, nI_nat (show i < 2147483648 by omega)]
        by_cases hle : t % n ≤ i
        · rw [if_pos hle] at hv
          refine st_t (nI_le hle (by first | omega | (dsimp only; omega))) (st_k rfl (show i < 6 by omega) (by first | omega | (dsimp only; omega)) (st_n ?_))
          rw [show (0 : Int32) = nI 0 from rfl, nI_add, ← hv]; exact fin
        · rw [if_neg hle] at hv
          refine st_f (nI_ge (by first | omega | (dsimp only; omega)) (by first | omega | (dsimp only; omega))) (st_k rfl (show i < 6 by omega) (by first | omega | (dsimp only; omega)) (st_n ?_))
          rw [nI_1, ← hv]; exact fin
      · have htw : t * W i ≤ 40 * 9 := Nat.mul_le_mul ht40 hW9
        have hv : rbN W n t 1 y i = t * W i / smN W n := rfl
        simp only [LXm, nI_nat (show i < 2147483648 by omega)]
        refine st_f (by decide) (st_t rfl (st_b (of_1 M (by first | omega | (dsimp only; omega))) (st_g (nz_n hW (by first | omega | (dsimp only; omega))) (st_k rfl (show i < 6 by omega) (by first | omega | (dsimp only; omega)) (st_n ?_)))))
        rw [nI_mul, nI_div (by first | omega | (dsimp only; omega)) (by first | omega | (dsimp only; omega)), ← hv]; exact fin
      · unfold fX12_layRule_215
        simp only [LXm, nI_nat (show i < 2147483648 by omega)]
        by_cases hi0 : i = 0
        · have hv : rbN W n t 2 y i = t := by show (if i = 0 then t else 0) = t; rw [if_pos hi0]
          rw [hv] at fin
          exact st_f (by decide) (st_f (by decide) (st_t rfl (st_t (by rw [hi0]; rfl) (st_k rfl (show i < 6 by omega) (by first | omega | (dsimp only; omega)) (st_n fin)))))
        · have hv : rbN W n t 2 y i = 0 := by show (if i = 0 then t else 0) = 0; rw [if_neg hi0]
          rw [hv] at fin
          exact st_f (by decide) (st_f (by decide) (st_t rfl (st_f (nw_ne (v := 0) hi0 (by first | omega | (dsimp only; omega)) (by first | omega | (dsimp only; omega))) (st_k rfl (show i < 6 by omega) (by first | omega | (dsimp only; omega)) (st_n fin)))))
      · unfold fX12_layRule_241
        rw [M.1, show nI n - 1 = nI (n - 1) from nI_sub (b := 1) h0]
        simp only [LXm, nI_nat (show i < 2147483648 by omega)]
        by_cases hi0 : i = n - 1
        · have hv : rbN W n t 3 y i = t := by show (if i = n - 1 then t else 0) = t; rw [if_pos hi0]
          rw [hv] at fin
          exact st_f (by decide) (st_f (by decide) (st_f (by decide) (st_t rfl (st_t (by rw [hi0]) (st_k rfl (show i < 6 by omega) (by first | omega | (dsimp only; omega)) (st_n fin))))))
        · have hv : rbN W n t 3 y i = 0 := by show (if i = n - 1 then t else 0) = 0; rw [if_neg hi0]
          rw [hv] at fin
          exact st_f (by decide) (st_f (by decide) (st_f (by decide) (st_t rfl (st_f (nw_ne hi0 (by first | omega | (dsimp only; omega)) (by first | omega | (dsimp only; omega))) (st_k rfl (show i < 6 by omega) (by first | omega | (dsimp only; omega)) (st_n fin))))))
      · unfold fX12_layRule_263
        simp only [LXm, nI_nat (show i < 2147483648 by omega)]
        by_cases hi0 : i = gtN W n
        · have hv : rbN W n t 4 y i = t := by show (if i = gtN W n then t else 0) = t; rw [if_pos hi0]
          rw [hv] at fin
          exact st_f (by decide) (st_f (by decide) (st_f (by decide) (st_f (by decide) (st_t rfl (st_t (by rw [hi0]) (st_k rfl (show i < 6 by omega) (by first | omega | (dsimp only; omega)) (st_n fin)))))))
        · have hv : rbN W n t 4 y i = 0 := by show (if i = gtN W n then t else 0) = 0; rw [if_neg hi0]
          rw [hv] at fin
          exact st_f (by decide) (st_f (by decide) (st_f (by decide) (st_f (by decide) (st_t rfl (st_f (nw_ne hi0 (by first | omega | (dsimp only; omega)) (by first | omega | (dsimp only; omega))) (st_k rfl (show i < 6 by omega) (by first | omega | (dsimp only; omega)) (st_n fin)))))))
      · have hsy := hs rfl
        subst hsy
        have hyi : y i ≤ 40 := by
          rcases Y with ⟨-, Y⟩ | ⟨-, -, -, Y⟩
          · rw [Y i]; omega
          · exact Y i (by first | omega | (dsimp only; omega))
        have hls := lf_sum (y := y) (t := t) i
        have hsm : smN (rbN W n t 5 y) i = smN (fun i => if lfN y t i < y i then lfN y t i else y i) i := rfl
        have hlf : t - smN (rbN W n t 5 y) i = lfN y t i := by rw [hsm]; omega
        have hv : rbN W n t 5 y i = if lfN y t i < y i then lfN y t i else y i := rfl
        unfold fX12_layRule_287
        simp only [LXm, nI_nat (show i < 2147483648 by omega)]
        by_cases hle : lfN y t i ≤ y i
        · have hv2 : rbN W n t 5 y i = t - smN (rbN W n t 5 y) i := by rw [hv, hlf]; split <;> omega
          refine st_f (by decide) (st_f (by decide) (st_f (by decide) (st_f (by decide) (st_f (by decide) (st_t (by rw [hlf]; exact nI_le hle (by first | omega | (dsimp only; omega))) (st_k rfl (show i < 6 by omega) (by first | omega | (dsimp only; omega)) (st_n ?_)))))))
          have fin2 := fin
          rw [show wr mm 186 i (nI (rbN W n t 5 y i)) = wr mm 186 i (nI (t - smN (rbN W n t 5 y) i)) by rw [hv2]] at fin2
          exact fin2
        · have hv2 : rbN W n t 5 y i = y i := by rw [hv]; split <;> omega
          rw [hv2] at fin
          exact st_f (by decide) (st_f (by decide) (st_f (by decide) (st_f (by decide) (st_f (by decide) (st_f (by rw [hlf]; exact nI_ge (by first | omega | (dsimp only; omega)) (by first | omega | (dsimp only; omega))) (st_k rfl (show i < 6 by omega) (by first | omega | (dsimp only; omega)) (st_n fin)))))))
    unfold fX12_layRule_75
    refine st_f (by rw [M.1]; exact nI_ge (by first | omega | (dsimp only; omega)) (by first | omega | (dsimp only; omega))) ?_
    rcases id Y with ⟨hk0, Y⟩ | ⟨hk0, hk8, Y, -⟩
    · exact st_t (by rw [hk0]; rfl) (core 0 (fun _ => by rw [Y i]; rfl))
    · refine st_f (nw_ne (v := 0) (by first | omega | (dsimp only; omega)) (by first | omega | (dsimp only; omega)) (by first | omega | (dsimp only; omega))) ?_
      rw [show (7 : Int32) * nI k - 7 + nI i = nI (7 * (k - 1) + i) by rw [show (7 : Int32) = nI 7 from rfl, nI_mul, nI_sub (by first | omega | (dsimp only; omega)), nI_add]; congr 1; omega]
      simp only [LXm, nI_nat (show 7 * (k - 1) + i < 2147483648 by omega)]
      exact st_k rfl (by first | omega | (dsimp only; omega)) (by first | omega | (dsimp only; omega)) (core _ (fun _ => Y i (by first | omega | (dsimp only; omega))))
theorem mlay_16 {o k : Nat} {y : Nat → Nat} {mm : Mm} {R : Option (Unit × Mm)} (h0 : 0 < n) (M : MS mm n K W F) (hR : fX12_layRule_75 N N 175 (nI o) (nI k) (nI t) (nI (smN W n)) (nI (gtN W n)) (nI t) 0 mm = R) : ∀ c i, i + c = n → ∀ f, c < f → fX12_layRule_16 N f 175 (nI o) (nI k) (nI t) (nI (smN W i)) (nI (gtN W i)) (nI i) mm = R := by
  have hn := M.2.1
  intro c
  induction c with
  | zero =>
    intro i hi f hf
    obtain ⟨f, rfl⟩ : ∃ g, f = g + 1 := ⟨f - 1, by omega⟩
    obtain rfl : i = n := by omega
    unfold fX12_layRule_16
    exact st_t (by rw [M.1]; exact nI_le (by first | omega | (dsimp only; omega)) (by first | omega | (dsimp only; omega))) hR
  | succ c ih =>
    intro i hi f hf
    obtain ⟨f, rfl⟩ : ∃ g, f = g + 1 := ⟨f - 1, by omega⟩
    have ih2 := ih (i + 1) (by first | omega | (dsimp only; omega)) f (by first | omega | (dsimp only; omega))
    have hgl : gtN W i < n := by
      by_cases hi0 : i = 0
      · subst hi0; exact h0
      · have := gtN_lt (W := W) i (by first | omega | (dsimp only; omega)); omega
    have hWi := (M.2.2 i (by first | omega | (dsimp only; omega))).2.2.2.1
    have hWg := (M.2.2 (gtN W i) hgl).2.2.2.1
    have e1 : smN W (i + 1) = smN W i + W i := rfl
    have e2 : gtN W (i + 1) = if W i ≤ W (gtN W i) then gtN W i else i := rfl
    rw [e1, e2] at ih2
    unfold fX12_layRule_16 fX12_layRule_61
    refine st_f (by rw [M.1]; exact nI_ge (by first | omega | (dsimp only; omega)) (by first | omega | (dsimp only; omega))) (st_b (of_1 M (by first | omega | (dsimp only; omega))) (st_b (of_1 M (by first | omega | (dsimp only; omega))) (st_b (of_1 M hgl) ?_)))
    rw [nI_add, nI_1]
    by_cases hle : W i ≤ W (gtN W i)
    · rw [if_pos hle] at ih2
      exact st_t (nI_le hle (by first | omega | (dsimp only; omega))) ih2
    · rw [if_neg hle] at ih2
      exact st_f (nI_ge (by first | omega | (dsimp only; omega)) (by first | omega | (dsimp only; omega))) ih2
theorem layRule_e {o k : Nat} {y : Nat → Nat} {mm : Mm} (hN : 100000 ≤ N) (h0 : 0 < n) (ho : o < 6) (M : MS mm n K W F) (ht : rd mm 183 1 = nI t) (ht40 : t ≤ 40) (Y : YM mm n k y) : ∃ m', fX12_layRule N 175 (nI o) (nI k) mm = some ((), m') ∧ Fr (fun k _ => k = 186) mm m' ∧ HA m' 186 n (rlN W n t o y) := by
  have hn := M.2.1
  obtain ⟨m', c1, f1, g1⟩ := mlay_l (N := N) (k := k) h0 ho ht40 n 0 mm (by first | omega | (dsimp only; omega)) M Y (fun j hj => by omega) N (by first | omega | (dsimp only; omega))
  refine ⟨m', ?_, f1, g1⟩
  unfold fX12_layRule
  simp only [LXm]
  refine st_g (by decide) (st_n ?_)
  rw [show (1 : Int32).toNatClampNeg = 1 from rfl, ht]
  exact mlay_16 (y := y) h0 M c1 n 0 (by first | omega | (dsimp only; omega)) N (by first | omega | (dsimp only; omega))
end LayBy
