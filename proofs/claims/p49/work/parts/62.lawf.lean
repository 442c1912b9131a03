/-! the law's marks of play: what a hand brings, and one sheet more -/
section Lo
variable {N n d s t i L f : Nat} {xs : Nat → Int32} {K W F len x y : Nat → Nat} {mm m2 : Mm}
theorem m2_w : ∀ w, w < 40 → (-2 : Int32) * nI w = iI (-(2 * (w : Int))) := by decide +kernel
theorem tv_r (w : Nat → Nat) (hw : smN w n ≤ 36) (W' : w = W) {a b : Nat} : -72 ≤ tvN K W F d n n a b ∧ tvN K W F d n n a b ≤ 72 ∧ -(2 * (smN W n : Int)) ≤ tvN K W F d n n a b ∧ tvN K W F d n n a b ≤ 2 * (smN W n : Int) := by
  subst W'
  have h := tv_w (K := K) (W := w) (F := F) (d := d) (n := n) n (Nat.le_refl n) a b
  rw [Nat.sub_self] at h
  have h0 : smN w 0 = 0 := rfl
  rw [h0] at h
  omega
theorem from_i (hN : 100000 ≤ N) (B : KB n d s t len) (I : LI mm n d s t K W F len y) {a b : Nat} (ha : a < 16) (hb : b < 16) : ∃ m', fX11_from N 0 0 (nI a) (nI b) mm = some (1, m') ∧ LI m' n d s t K W F len y ∧ fL_told N 0 1 m' = some (iI (tvN K W F d n n a b), m') := by
  obtain ⟨m', c, f, T, e⟩ := from_e (N := N) hN B I.1 I.2.2.1 ha hb
  refine ⟨m', c, I.st f.i (fun k j q => by unfold Pt; first | omega | (dsimp only; omega)) (RA_c I.2.1 (fun k q => f.2 _ _ (by first | omega | (dsimp only; omega)))) T, ?_⟩
  rw [told_e, e]
theorem l781 (hN : 100000 ≤ N) (hL : L ≤ 260) (B : KB n d s t len) (I : LI mm n d s t K W F len y) (h0 : ∀ j, j < 4 → len j = 0) : ∃ m', fL_law_781 N L xs 0 (nI n) 175 177 (nI (smN W n)) (nI (scD n s K W F y d)) mm = some (1, m') :=
  l784 (N := N) (L := L) (xs := xs) hN hL 4 0 len mm (by first | omega | (dsimp only; omega)) B I (fun j _ hj => h0 j hj) N (by first | omega | (dsimp only; omega))
theorem l622 (hN : 100000 ≤ N) (hL : L ≤ 260) (B : KB n d s t len) (h0 : ∀ j, j < 4 → len j = 0) (I : LI mm n d s t K W F len y) : ∀ c i v, i + c = n → ∀ f, c < f → ∃ m', fL_law_622 N L xs f 0 (nI n) 175 177 (nI (smN W n)) (nI (scD n s K W F y d)) v (nI i) mm = some (1, m') := by
  intro c
  induction c with
  | zero =>
    intro i v hi f hf
    obtain ⟨f, rfl⟩ : ∃ q, f = q + 1 := ⟨f - 1, by omega⟩
    obtain rfl : i = n := by omega
    have hu := KD.su B I.1
    have hw36 := smW_54 hu
    have hn4 := B.2.1
    obtain ⟨x1, hx1⟩ := cell_e (N := N) (L := L) (xs := xs) (mm := mm) (k := 17) (by first | omega | (dsimp only; omega)) hL
    obtain ⟨a, a8, ha⟩ := low_e (N := N) (mm := mm) (a := x1) (n := 8) (by first | omega | (dsimp only; omega)) (by first | omega | (dsimp only; omega))
    obtain ⟨b, b8, hb⟩ := low_e (N := N) (mm := mm) (a := x1 >>> ((4 : Int32) &&& 31)) (n := 8) (by first | omega | (dsimp only; omega)) (by first | omega | (dsimp only; omega))
    obtain ⟨m1, c1, I1, t1⟩ := from_i (N := N) (a := a) (b := b) hN B I (by first | omega | (dsimp only; omega)) (by first | omega | (dsimp only; omega))
    obtain ⟨m2, c2, I2, t2⟩ := from_i (N := N) (a := a + 1) (b := b) hN B I1 (by first | omega | (dsimp only; omega)) (by first | omega | (dsimp only; omega))
    obtain ⟨m3, c3, I3, t3⟩ := from_i (N := N) (a := a) (b := b + 1) hN B I2 (by first | omega | (dsimp only; omega)) (by first | omega | (dsimp only; omega))
    obtain ⟨p1, p2, p3, p4⟩ := tv_r (K := K) (F := F) (d := d) (a := a) (b := b) W hw36 rfl
    obtain ⟨q1, q2, -, -⟩ := tv_r (K := K) (F := F) (d := d) (a := a + 1) (b := b) W hw36 rfl
    obtain ⟨r1, r2, -, -⟩ := tv_r (K := K) (F := F) (d := d) (a := a) (b := b + 1) W hw36 rfl
    have hup := tv_up (K := K) (W := W) (F := F) (d := d) (n := i) i a b
    have hdn := tv_m (K := K) (W := W) (F := F) (d := d) (n := i) i a b
    have lo : ¬ iI (tvN K W F d i i a b) < (-2 : Int32) * nI (smN W i) := by
      rw [m2_w _ (by first | omega | (dsimp only; omega)), iI_lt (by first | omega | (dsimp only; omega)) (by first | omega | (dsimp only; omega)) (by first | omega | (dsimp only; omega)) (by first | omega | (dsimp only; omega))]
      omega
    have hi2 : ¬ (2 : Int32) * nI (smN W i) < iI (tvN K W F d i i a b) := by
      rw [show (2 : Int32) = nI 2 from rfl, nI_mul, iI_n (by first | omega | (dsimp only; omega)), iI_lt (by first | omega | (dsimp only; omega)) (by first | omega | (dsimp only; omega)) (by first | omega | (dsimp only; omega)) (by first | omega | (dsimp only; omega))]
      omega
    have le1 : iI (tvN K W F d i i a b) ≤ iI (tvN K W F d i i (a + 1) b) := by
      rw [i_le, iI_t (by first | omega | (dsimp only; omega)) (by first | omega | (dsimp only; omega)), iI_t (by first | omega | (dsimp only; omega)) (by first | omega | (dsimp only; omega))]
      exact hup
    have le2 : iI (tvN K W F d i i a (b + 1)) ≤ iI (tvN K W F d i i a b) := by
      rw [i_le, iI_t (by first | omega | (dsimp only; omega)) (by first | omega | (dsimp only; omega)), iI_t (by first | omega | (dsimp only; omega)) (by first | omega | (dsimp only; omega))]
      exact hdn
    obtain ⟨m4, z4⟩ := l781 (N := N) (L := L) (xs := xs) hN hL B I2 h0
    obtain ⟨m5, z5⟩ := l781 (N := N) (L := L) (xs := xs) hN hL B I3 h0
    have pre : ∀ R, (if v = 0 then (fL_law_781 N L xs 0 (nI i) 175 177 (nI (smN W i)) (nI (scD i s K W F y d)) m2) else (bd2 (fX11_from N 0 0 (nI a) (nI b + 1) m2) fun x167 m168 => bd2 (fL_told N 0 x167 m168) fun x170 m171 => if x170 ≤ iI (tvN K W F d i i a b) then (fL_law_781 N L xs 0 (nI i) 175 177 (nI (smN W i)) (nI (scD i s K W F y d)) m171) else (some (0, m171)))) = R → fL_law_622 N L xs (f + 1) 0 (nI i) 175 177 (nI (smN W i)) (nI (scD i s K W F y d)) v (nI i) mm = R := by
      intro R hR
      unfold fL_law_622
      refine st_t (nI_le (by first | omega | (dsimp only; omega)) (by first | omega | (dsimp only; omega))) (st_b hx1 (st_b ha (st_b hx1 (st_b hb (st_b c1 (st_b t1 ?_))))))
      rw [nI_1]
      exact st_b c2 (st_b t2 (st_f lo (st_f hi2 (st_t le1 hR))))
    by_cases hv : v = 0
    · exact ⟨m4, pre _ (st_t hv z4)⟩
    · refine ⟨m5, pre _ (st_f hv ?_)⟩
      rw [nI_1]
      exact st_b c3 (st_b t3 (st_t le2 z5))
  | succ c ih =>
    intro i v hi f hf
    obtain ⟨f, rfl⟩ : ∃ q, f = q + 1 := ⟨f - 1, by omega⟩
    have hn4 := B.2.1
    have hin : i < n := by omega
    obtain ⟨m0, z0⟩ := ih (i + 1) 0 (by first | omega | (dsimp only; omega)) f (by first | omega | (dsimp only; omega))
    obtain ⟨m1, z1⟩ := ih (i + 1) 1 (by first | omega | (dsimp only; omega)) f (by first | omega | (dsimp only; omega))
    have e3 : (3 : Int32) * nI i = nI (3 * i) := by rw [show (3 : Int32) = nI 3 from rfl, nI_mul]
    have g0 : fL_law_657 N L xs (fL_law_622 N L xs f) 0 (nI n) 175 177 (nI (smN W n)) (nI (scD n s K W F y d)) (nI i) mm = some (1, m0) := by
      unfold fL_law_657 fL_law_658
      rw [nI_1]; exact z0
    have g1 : fL_law_658 N L xs (fL_law_622 N L xs f) 0 (nI n) 175 177 (nI (smN W n)) (nI (scD n s K W F y d)) (nI i) 1 mm = some (1, m1) := by
      unfold fL_law_658
      rw [nI_1]; exact z1
    by_cases hv : v = 0
    · refine ⟨m0, ?_⟩
      unfold fL_law_622
      exact st_f (nI_ge hin (by first | omega | (dsimp only; omega))) (st_t hv g0)
    · by_cases h2 : rd mm 175 (3 * i) = 2
      · refine ⟨m0, ?_⟩
        unfold fL_law_622
        refine st_f (nI_ge hin (by first | omega | (dsimp only; omega))) (st_f hv ?_)
        rw [e3, nI_nat (show 3 * i < 2147483648 by omega)]
        exact st_k (L := 20) rfl (by first | omega | (dsimp only; omega)) (by first | omega | (dsimp only; omega)) (st_t h2 g0)
      · by_cases h4 : rd mm 175 (3 * i) = 4
        · refine ⟨m0, ?_⟩
          unfold fL_law_622
          refine st_f (nI_ge hin (by first | omega | (dsimp only; omega))) (st_f hv ?_)
          rw [e3, nI_nat (show 3 * i < 2147483648 by omega)]
          exact st_k (L := 20) rfl (by first | omega | (dsimp only; omega)) (by first | omega | (dsimp only; omega)) (st_f h2 (st_k (L := 20) rfl (by first | omega | (dsimp only; omega)) (by first | omega | (dsimp only; omega)) (st_t h4 g0)))
        · refine ⟨m1, ?_⟩
          unfold fL_law_622
          refine st_f (nI_ge hin (by first | omega | (dsimp only; omega))) (st_f hv ?_)
          rw [e3, nI_nat (show 3 * i < 2147483648 by omega)]
          exact st_k (L := 20) rfl (by first | omega | (dsimp only; omega)) (by first | omega | (dsimp only; omega)) (st_f h2 (st_k (L := 20) rfl (by first | omega | (dsimp only; omega)) (by first | omega | (dsimp only; omega)) (st_f h4 g1)))
end Lo
