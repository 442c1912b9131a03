/-! the law's small methods: what they answer -/
theorem and_nn (a : Int32) : ∃ v : Nat, v < 2147483648 ∧ a &&& 2147483647 = nI v := by
  have h : (a &&& 2147483647).toBitVec.toNat ≤ 2147483647 := by
    rw [Int32.toBitVec_and, BitVec.toNat_and]
    exact Nat.and_le_right
  refine ⟨(a &&& 2147483647).toBitVec.toNat, by omega, ?_⟩
  rw [i_eq, nI_toInt (by first | omega | (dsimp only; omega))]
  exact BitVec.toInt_eq_toNat_of_lt (by first | omega | (dsimp only; omega))
section Sm
variable {N n L : Nat} {xs : Nat → Int32} {mm : Mm}
theorem low_e {a : Int32} (h1 : 1 ≤ n) (hn : n ≤ 1000) : ∃ v, v < n ∧ fL_low N a (nI n) mm = some (nI v, mm) := by
  obtain ⟨u, u1, u2⟩ := and_nn a
  refine ⟨u % n, Nat.mod_lt _ (by first | omega | (dsimp only; omega)), ?_⟩
  have hle : u / n * n ≤ u := Nat.div_mul_le_self u n
  have he : u - u / n * n = u % n := by
    have := Nat.div_add_mod u n
    rw [Nat.mul_comm] at this
    omega
  unfold fL_low
  refine st_g (nz_n (by first | omega | (dsimp only; omega)) (by first | omega | (dsimp only; omega))) ?_
  rw [u2, nI_div u1 (by first | omega | (dsimp only; omega)), nI_mul, nI_sub hle, he]
theorem cell_e {k : Nat} (hk : k < 1000) (hL : L ≤ 260) : ∃ v, fL_cell N L xs (nI k) mm = some (v, mm) := by
  unfold fL_cell fL_cell_0
  by_cases h : L ≤ k
  · exact ⟨_, st_t (nI_le h (by first | omega | (dsimp only; omega))) rfl⟩
  · exact ⟨_, st_f (nI_ge (a := k) (b := L) (by first | omega | (dsimp only; omega)) (by first | omega | (dsimp only; omega))) (st_g (inb_n (by first | omega | (dsimp only; omega)) (by first | omega | (dsimp only; omega))) rfl)⟩
theorem told_e : fL_told N 0 1 mm = some (rd mm 0 14, mm) := by
  unfold fL_told
  exact st_t (by decide) (st_b rfl rfl)
theorem number_e {k at_ v : Nat} (hk : ln k = 32) (ha : at_ < 32) (hv : v ≤ 9) : fL_number N k (nI at_) (nI v) mm = some (nI (at_ + 1), wr mm k at_ (nI (48 + v))) := by
  unfold fL_number
  rw [nI_nat (by first | omega | (dsimp only; omega))]
  refine st_f (nI_ge (a := v) (b := 10) (by first | omega | (dsimp only; omega)) (by first | omega | (dsimp only; omega))) (st_k hk ha (by first | omega | (dsimp only; omega)) (st_n ?_))
  rw [nI_1, show (48 : Int32) = nI 48 from rfl, nI_add]
end Sm
-- a laying is drawn
section Ly
variable {N n S r kl : Nat} {x : Int32}
/-- cells of a laying drawn -/
def LyC (r kl : Nat) (k j : Nat) : Prop := k = 96 + 2 * r ∨ (k = 0 ∧ j = 14) ∨ k = kl
theorem laying_l (hr : r < 6) (hn : n ≤ 6) (h0 : 1 ≤ n) (hkl : ln kl = 6) (hk0 : 175 ≤ kl) (hS : S ≤ 40) : ∀ c i left y mm, i + c = n → rd mm (95 + 2 * r) 1 = nI n → HA mm (96 + 2 * r) i y → smN y i + left = S → ∀ f, c < f → ∃ m' y', fL_laying_23 N f 0 (nI r) (nI n) x kl (nI left) 1 (nI i) mm = some (1, m') ∧ rd m' (95 + 2 * r) 1 = nI n ∧ HA m' (96 + 2 * r) n y' ∧ smN y' n ≤ S ∧ Fr (LyC r kl) mm m' := by
  intro c
  induction c with
  | zero =>
    intro i left y mm hi hs hy hsum f hf
    obtain ⟨f, rfl⟩ : ∃ q, f = q + 1 := ⟨f - 1, by omega⟩
    obtain rfl : i = n := by omega
    refine ⟨mm, y, ?_, hs, hy, by omega, Fr.rf⟩
    unfold fL_laying_23
    exact st_t (nI_le (by first | omega | (dsimp only; omega)) (by first | omega | (dsimp only; omega))) (st_g (by decide) rfl)
  | succ c ih =>
    intro i left y mm hi hs hy hsum f hf
    obtain ⟨f, rfl⟩ : ∃ q, f = q + 1 := ⟨f - 1, by omega⟩
    have hin : i < n := by omega
    have go : ∀ u, u ≤ left → ∃ m' y', fL_laying_83 N (fL_laying_23 N f) 0 (nI r) (nI n) x kl (nI left) (nI i) (nI u) mm = some (1, m') ∧ rd m' (95 + 2 * r) 1 = nI n ∧ HA m' (96 + 2 * r) n y' ∧ smN y' n ≤ S ∧ Fr (LyC r kl) mm m' := by
      intro u hu
      have hsm : smN (up y i u) (i + 1) = smN y i + u := by
        show smN (up y i u) i + up y i u i = _
        rw [up_s, smN_c i (fun j hj => up_o (by first | omega | (dsimp only; omega)))]
      have step : ∀ m1, rd m1 (95 + 2 * r) 1 = nI n → HA m1 (96 + 2 * r) (i + 1) (up y i u) → Fr (LyC r kl) mm m1 → ∃ m' y', fL_laying_23 N f 0 (nI r) (nI n) x kl (nI (left - u)) 1 (nI (i + 1)) m1 = some (1, m') ∧ rd m' (95 + 2 * r) 1 = nI n ∧ HA m' (96 + 2 * r) n y' ∧ smN y' n ≤ S ∧ Fr (LyC r kl) m1 m' := fun m1 g1 g2 _ => ih (i + 1) (left - u) (up y i u) m1 (by first | omega | (dsimp only; omega)) g1 g2 (by first | omega | (dsimp only; omega)) f (by first | omega | (dsimp only; omega))
      -- the memory behind one lay
      have e1 : rd (wr (wr (wr mm kl i (nI u)) (96 + 2 * r) i (nI u)) 0 14 (rd (wr mm kl i (nI u)) (96 + 2 * r) i)) (95 + 2 * r) 1 = nI n := by
        rw [rd_wr_k (by first | omega | (dsimp only; omega)), rd_wr_k (by first | omega | (dsimp only; omega)), rd_wr_k (by first | omega | (dsimp only; omega))]; exact hs
      have e2 : HA (wr (wr (wr mm kl i (nI u)) (96 + 2 * r) i (nI u)) 0 14 (rd (wr mm kl i (nI u)) (96 + 2 * r) i)) (96 + 2 * r) (i + 1) (up y i u) := fun j hj => by
        rw [rd_wr_k (by first | omega | (dsimp only; omega))]
        by_cases hji : j = i
        · rw [hji, rd_wr_s, up_s]
        · rw [rd_wr_j hji, rd_wr_k (by first | omega | (dsimp only; omega)), up_o hji]
          exact hy j (by first | omega | (dsimp only; omega))
      have e3 : Fr (LyC r kl) mm (wr (wr (wr mm kl i (nI u)) (96 + 2 * r) i (nI u)) 0 14 (rd (wr mm kl i (nI u)) (96 + 2 * r) i)) := fr_wr (fr_wr (fr_wr Fr.rf (Or.inr (Or.inr rfl))) (Or.inl rfl)) (Or.inr (Or.inl ⟨rfl, rfl⟩))
      obtain ⟨m', y', g1, g2, g3, g4, g5⟩ := step _ e1 e2 e3
      refine ⟨m', y', ?_, g2, g3, g4, e3.tr g5⟩
      unfold fL_laying_83
      rw [nI_nat (by first | omega | (dsimp only; omega))]
      have hs1 : rd (wr mm kl i (nI u)) (95 + 2 * r) 1 = nI n := by rw [rd_wr_k (by first | omega | (dsimp only; omega))]; exact hs
      refine st_k hkl (by first | omega | (dsimp only; omega)) (by first | omega | (dsimp only; omega)) (st_n (st_b (lay_e hr hs1 (by first | omega | (dsimp only; omega)) hin) (st_t (by decide) ?_)))
      unfold fL_laying_117
      rw [nI_1, nI_sub hu]
      exact g1
    have hleft : left ≤ 40 := by omega
    obtain ⟨v1, a1, a2⟩ := low_e (N := N) (mm := mm) (a := x >>> ((3 * nI i) &&& 31)) (n := left + 1) (by first | omega | (dsimp only; omega)) (by first | omega | (dsimp only; omega))
    obtain ⟨v2, b1, b2⟩ := low_e (N := N) (mm := mm) (a := x >>> ((20 : Int32) &&& 31)) (n := n) h0 (by first | omega | (dsimp only; omega))
    obtain ⟨v3, c1, c2⟩ := low_e (N := N) (mm := mm) (a := x >>> ((24 : Int32) &&& 31)) (n := 2) (by first | omega | (dsimp only; omega)) (by first | omega | (dsimp only; omega))
    obtain ⟨ma, ya, p1, p2⟩ := go left (Nat.le_refl _)
    obtain ⟨mb, yb, q1, q2⟩ := go v1 (by first | omega | (dsimp only; omega))
    have q1' : fL_laying_81 N (fL_laying_23 N f) 0 (nI r) (nI n) x kl (nI left) (nI i) (nI v1) mm = some (1, mb) := q1
    have pre : ∀ R, (if nI i = nI v2 then (if nI v3 = 0 then some (1, ma) else some (1, mb)) else some (1, mb)) = R → fL_laying_23 N (f + 1) 0 (nI r) (nI n) x kl (nI left) 1 (nI i) mm = R := by
      intro R hR
      unfold fL_laying_23
      refine st_f (nI_ge hin (by first | omega | (dsimp only; omega))) (st_f (by decide) ?_)
      rw [nI_1]
      refine st_b a2 (st_b b2 ?_)
      by_cases h2 : nI i = nI v2
      · rw [if_pos h2] at hR
        refine st_t h2 (st_b c2 ?_)
        by_cases h3 : nI v3 = 0
        · rw [if_pos h3] at hR
          exact st_t h3 (p1.trans hR)
        · rw [if_neg h3] at hR
          exact st_f h3 (q1'.trans hR)
      · rw [if_neg h2] at hR
        exact st_f h2 (q1'.trans hR)
    by_cases h2 : nI i = nI v2
    · by_cases h3 : nI v3 = 0
      · exact ⟨ma, ya, pre _ (by rw [if_pos h2, if_pos h3]), p2⟩
      · exact ⟨mb, yb, pre _ (by rw [if_pos h2, if_neg h3]), q2⟩
    · exact ⟨mb, yb, pre _ (by rw [if_neg h2]), q2⟩
/-- the law draws a laying into a row -/
theorem laying_e {mm : Mm} (hN : 100000 ≤ N) (hr : r < 6) (hn : n ≤ 6) (h0 : 1 ≤ n) (hkl : ln kl = 6) (hk0 : 175 ≤ kl) (hS : S ≤ 40) : ∃ m' y, fL_laying N 0 (nI r) (nI n) (nI S) x kl mm = some (1, m') ∧ RX m' r n S y ∧ Fr (fun k j => (k = 95 + 2 * r ∧ j = 1) ∨ k = 96 + 2 * r ∨ (k = 0 ∧ j = 14) ∨ k = kl) mm m' := by
  obtain ⟨m1, c1, f1, s1, -⟩ := row_e (N := N) (r := r) (n := n) (mm := mm) hN hr (by first | omega | (dsimp only; omega))
  obtain ⟨m2, y, c2, s2, g2, g3, f2⟩ := laying_l (N := N) (S := S) (r := r) (kl := kl) (x := x) hr hn h0 hkl hk0 hS n 0 S (fun _ => 0) m1 (by first | omega | (dsimp only; omega)) s1 (fun j hj => by omega) (by show 0 + S = S; first | omega | (dsimp only; omega)) N (by first | omega | (dsimp only; omega))
  refine ⟨m2, y, ?_, ⟨s2, g2, fun i hi => ?_, g3⟩, (f1.mono (fun k j e => by omega)).tr (f2.mono (fun k j e => by unfold LyC at e; first | omega | (dsimp only; omega)))⟩
  · unfold fL_laying fL_laying_18
    exact st_b c1 (st_t rfl c2)
  · have := smN_at (l := y) hi
    omega
end Ly
