/-! pure: what is held against layings -/
def LayOK (g : Nat → Int32) (n s : Nat) : Prop := (∀ i, i < n → Wi g 40 i) ∧ smN (lO g) n ≤ s
theorem Wi_c {g h : Nat → Int32} {b i : Nat} (e : g i = h i) : Wi g b i ↔ Wi h b i := by unfold Wi; rw [e]
theorem lO_c {g h : Nat → Int32} {i : Nat} (e : g i = h i) : lO g i = lO h i := by unfold lO; rw [e]
theorem LayOK_c {g h : Nat → Int32} {n s : Nat} (e : ∀ i, i < n → g i = h i) : LayOK g n s ↔ LayOK h n s := by
  unfold LayOK
  rw [smN_c n (fun i hi => lO_c (e i hi))]
  exact and_congr_left (fun _ => ⟨fun q i hi => (Wi_c (e i hi)).mp (q i hi), fun q i hi => (Wi_c (e i hi)).mpr (q i hi)⟩)
theorem sL_n {g : Nat → Int32} {b : Nat} (hb : b ≤ 1000) : ∀ m, m ≤ 100 → (∀ i, i < m → Wi g b i) → (sL g m).toInt = smN (lO g) m := by
  intro m
  induction m with
  | zero => intro _ _; rfl
  | succ m ih =>
    intro hm h
    have h1 := ih (by first | omega | (dsimp only; omega)) (fun i hi => h i (by first | omega | (dsimp only; omega)))
    obtain ⟨h2, h3⟩ := Wi_n (h m (by first | omega | (dsimp only; omega)))
    have h4 := smN_le (f := lO g) (b := b) m (fun i hi => (Wi_n (h i (by first | omega | (dsimp only; omega)))).2)
    have h5 : b * m ≤ 1000 * 100 := Nat.mul_le_mul hb (by first | omega | (dsimp only; omega))
    show (sL g m + (g m).toInt64).toInt = ((smN (lO g) m + lO g m : Nat) : Int)
    rw [Int64.toInt_add, h1, h2, l_nI (by first | omega | (dsimp only; omega))]
    generalize smN (lO g) m = A at *
    generalize lO g m = B at *
    rw [show ((A + B : Nat) : Int) = (A : Int) + (B : Int) by omega]
    exact Int.bmod_eq_of_le_mul_two (by show -((18446744073709551616 : Nat) : Int) ≤ _; omega) (by show _ < ((18446744073709551616 : Nat) : Int); omega)
section Asks
variable {N n r : Nat} {mm : Mm}
theorem within_l {b m : Nat} (hr : r < 6) (hs : rd mm (95 + 2 * r) 1 = nI m) (hm : m ≤ 40) (hb : b ≤ 1000) : ∀ c i, i + c = m → ∀ f, c < f → ((∀ j, i ≤ j → j < m → Wi (fun j => rd mm (96 + 2 * r) j) b j) → fX6_isWithin_2 N f (95 + 2 * r) (nI b) (nI i) mm = some (1, mm)) ∧ (¬ (∀ j, i ≤ j → j < m → Wi (fun j => rd mm (96 + 2 * r) j) b j) → fX6_isWithin_2 N f (95 + 2 * r) (nI b) (nI i) mm = some (0, mm)) := by
  intro c
  induction c with
  | zero =>
    intro i hi f hf
    obtain ⟨f, rfl⟩ : ∃ g, f = g + 1 := ⟨f - 1, by omega⟩
    refine ⟨fun _ => ?_, fun q => absurd (fun j h1 h2 => by omega) q⟩
    unfold fX6_isWithin_2
    exact st_t (by rw [hs]; exact nI_le (by first | omega | (dsimp only; omega)) (by first | omega | (dsimp only; omega))) rfl
  | succ c ih =>
    intro i hi f hf
    obtain ⟨f, rfl⟩ : ∃ g, f = g + 1 := ⟨f - 1, by omega⟩
    obtain ⟨ih1, ih2⟩ := ih (i + 1) (by first | omega | (dsimp only; omega)) f (by first | omega | (dsimp only; omega))
    have h0 : (0 : Int32).toInt = 0 := rfl
    have hbI : (nI b).toInt = b := nI_toInt (by first | omega | (dsimp only; omega))
    unfold fX6_isWithin_2
    simp only [fr_row hr, nI_nat (show i < 2147483648 by omega), nI_1]
    by_cases hw : Wi (fun j => rd mm (96 + 2 * r) j) b i
    · have hw' : 0 ≤ (rd mm (96 + 2 * r) i).toInt ∧ (rd mm (96 + 2 * r) i).toInt ≤ b := hw
      refine ⟨fun q => ?_, fun q => ?_⟩
      · refine st_f (by rw [hs]; exact nI_ge (by first | omega | (dsimp only; omega)) (by first | omega | (dsimp only; omega))) (st_k (ln_row hr) (by first | omega | (dsimp only; omega)) (by first | omega | (dsimp only; omega)) (st_f (by rw [i_lt, h0]; omega) (st_k (ln_row hr) (by first | omega | (dsimp only; omega)) (by first | omega | (dsimp only; omega)) (st_t (by rw [i_le, hbI]; omega) (ih1 (fun j h1 h2 => q j (by first | omega | (dsimp only; omega)) h2))))))
      · refine st_f (by rw [hs]; exact nI_ge (by first | omega | (dsimp only; omega)) (by first | omega | (dsimp only; omega))) (st_k (ln_row hr) (by first | omega | (dsimp only; omega)) (by first | omega | (dsimp only; omega)) (st_f (by rw [i_lt, h0]; omega) (st_k (ln_row hr) (by first | omega | (dsimp only; omega)) (by first | omega | (dsimp only; omega)) (st_t (by rw [i_le, hbI]; omega) (ih2 (fun q2 => q (fun j h1 h2 => ?_)))))))
        by_cases hj : j = i
        · rw [hj]; exact hw
        · exact q2 j (by first | omega | (dsimp only; omega)) h2
    · refine ⟨fun q => absurd (q i (by first | omega | (dsimp only; omega)) (by first | omega | (dsimp only; omega))) hw, fun _ => ?_⟩
      refine st_f (by rw [hs]; exact nI_ge (by first | omega | (dsimp only; omega)) (by first | omega | (dsimp only; omega))) (st_k (ln_row hr) (by first | omega | (dsimp only; omega)) (by first | omega | (dsimp only; omega)) ?_)
      by_cases h2 : rd mm (96 + 2 * r) i < 0
      · exact st_t h2 rfl
      · refine st_f h2 (st_k (ln_row hr) (by first | omega | (dsimp only; omega)) (by first | omega | (dsimp only; omega)) (st_f (fun h3 => hw ?_) rfl))
        rw [i_lt, h0] at h2
        rw [i_le, hbI] at h3
        exact ⟨by show 0 ≤ (rd mm (96 + 2 * r) i).toInt; omega, h3⟩
theorem within_m {b : Int32} (hN : 100000 ≤ N) (hs : rd mm (95 + 2 * r) 1 = -1) : fX6_isWithin N (95 + 2 * r) b mm = some (1, mm) := by
  obtain ⟨f, rfl⟩ : ∃ g, N = g + 1 := ⟨N - 1, by omega⟩
  unfold fX6_isWithin fX6_isWithin_2
  exact st_t (by rw [hs]; decide) rfl
theorem within_t {b m : Nat} (hN : 100000 ≤ N) (hr : r < 6) (hs : rd mm (95 + 2 * r) 1 = nI m) (hm : m ≤ 40) (hb : b ≤ 1000) (h : ∀ j, j < m → Wi (fun j => rd mm (96 + 2 * r) j) b j) : fX6_isWithin N (95 + 2 * r) (nI b) mm = some (1, mm) :=
  (within_l (N := N) hr hs hm hb m 0 (by first | omega | (dsimp only; omega)) N (by first | omega | (dsimp only; omega))).1 (fun j _ q => h j q)
theorem within_f {b m : Nat} (hN : 100000 ≤ N) (hr : r < 6) (hs : rd mm (95 + 2 * r) 1 = nI m) (hm : m ≤ 40) (hb : b ≤ 1000) (h : ¬ ∀ j, j < m → Wi (fun j => rd mm (96 + 2 * r) j) b j) : fX6_isWithin N (95 + 2 * r) (nI b) mm = some (0, mm) :=
  (within_l (N := N) hr hs hm hb m 0 (by first | omega | (dsimp only; omega)) N (by first | omega | (dsimp only; omega))).2 (fun q => h (fun j hj => q j (by first | omega | (dsimp only; omega)) hj))
theorem allows_t {a m s : Nat} (hN : 100000 ≤ N) (hr : r < 6) (ha : a ≤ 1) (hs : rd mm (95 + 2 * r) 1 = nI m) (hm : m ≤ 40) (hst : rd mm 5 a = nI s) (hs40 : s ≤ 40) (h : LayOK (fun j => rd mm (96 + 2 * r) j) m s) : fX0_allows N 3 (95 + 2 * r) (nI a) mm = some (1, mm) := by
  unfold fX0_allows
  simp only [LXa, nI_nat (show a < 2147483648 by omega)]
  refine st_b (within_t (b := 40) hN hr hs hm (by first | omega | (dsimp only; omega)) h.1) (st_f (by decide) (st_b (total_ok hN (fr_row hr) (ln_row hr) hs hm (by first | omega | (dsimp only; omega))) (st_k rfl (by first | omega | (dsimp only; omega)) (by first | omega | (dsimp only; omega)) (st_f ?_ rfl))))
  rw [hst, lg_cmp_gt, Int64.lt_iff_toInt_lt, l_nI (by first | omega | (dsimp only; omega)), sL_n (b := 40) (by first | omega | (dsimp only; omega)) m (by first | omega | (dsimp only; omega)) h.1]
  have := h.2
  omega
theorem allows_f {a m s : Nat} (hN : 100000 ≤ N) (hr : r < 6) (ha : a ≤ 1) (hs : rd mm (95 + 2 * r) 1 = nI m) (hm : m ≤ 40) (hst : rd mm 5 a = nI s) (hs40 : s ≤ 40) (h : ¬ LayOK (fun j => rd mm (96 + 2 * r) j) m s) : fX0_allows N 3 (95 + 2 * r) (nI a) mm = some (0, mm) := by
  unfold fX0_allows
  simp only [LXa, nI_nat (show a < 2147483648 by omega)]
  by_cases hw : ∀ j, j < m → Wi (fun j => rd mm (96 + 2 * r) j) 40 j
  · refine st_b (within_t (b := 40) hN hr hs hm (by first | omega | (dsimp only; omega)) hw) (st_f (by decide) (st_b (total_ok hN (fr_row hr) (ln_row hr) hs hm (by first | omega | (dsimp only; omega))) (st_k rfl (by first | omega | (dsimp only; omega)) (by first | omega | (dsimp only; omega)) (st_t ?_ rfl))))
    rw [hst, lg_cmp_gt, Int64.lt_iff_toInt_lt, l_nI (by first | omega | (dsimp only; omega)), sL_n (b := 40) (by first | omega | (dsimp only; omega)) m (by first | omega | (dsimp only; omega)) hw]
    have : ¬ smN (lO fun j => rd mm (96 + 2 * r) j) m ≤ s := fun q => h ⟨hw, q⟩
    omega
  · exact st_b (within_f (b := 40) hN hr hs hm (by first | omega | (dsimp only; omega)) hw) (st_t rfl rfl)
theorem allows_m {a s : Nat} (hN : 100000 ≤ N) (ha : a ≤ 1) (hs : rd mm (95 + 2 * r) 1 = -1) (hst : rd mm 5 a = nI s) (hs40 : s ≤ 40) : fX0_allows N 3 (95 + 2 * r) (nI a) mm = some (1, mm) := by
  unfold fX0_allows
  simp only [LXa, nI_nat (show a < 2147483648 by omega)]
  refine st_b (within_m hN hs) (st_f (by decide) (st_b (total_m hN hs) (st_k rfl (by first | omega | (dsimp only; omega)) (by first | omega | (dsimp only; omega)) (st_f ?_ rfl))))
  rw [hst, lg_cmp_gt, Int64.lt_iff_toInt_lt, l_nI (by first | omega | (dsimp only; omega))]
  have : (0 : Int64).toInt = 0 := rfl
  omega
/-- a row's size: missing, or a number of places -/
def RZ (mm : Mm) (r : Nat) : Prop := rd mm (95 + 2 * r) 1 = -1 ∨ ∃ m, m ≤ 40 ∧ rd mm (95 + 2 * r) 1 = nI m
theorem allows_x {a s : Nat} (hN : 100000 ≤ N) (hr : r < 6) (ha : a ≤ 1) (hz : RZ mm r) (hst : rd mm 5 a = nI s) (hs40 : s ≤ 40) : ∃ v : Nat, fX0_allows N 3 (95 + 2 * r) (nI a) mm = some (nI v, mm) ∧ v ≤ 1 ∧ ∀ m, m ≤ 40 → rd mm (95 + 2 * r) 1 = nI m → (v = 1 ↔ LayOK (fun j => rd mm (96 + 2 * r) j) m s) := by
  rcases hz with hz | ⟨m, hm, hz⟩
  · refine ⟨1, allows_m hN ha hz hst hs40, by omega, fun m hm e => ?_⟩
    rw [hz] at e
    exact absurd e.symm (neg1_ne (by first | omega | (dsimp only; omega)))
  · by_cases h : LayOK (fun j => rd mm (96 + 2 * r) j) m s
    · refine ⟨1, allows_t hN hr ha hz hm hst hs40 h, by omega, fun m' hm' e => ?_⟩
      rw [hz] at e
      have := nI_inj e (by first | omega | (dsimp only; omega)) (by first | omega | (dsimp only; omega))
      subst this
      exact ⟨fun _ => h, fun _ => rfl⟩
    · refine ⟨0, allows_f hN hr ha hz hm hst hs40 h, by omega, fun m' hm' e => ?_⟩
      rw [hz] at e
      have := nI_inj e (by first | omega | (dsimp only; omega)) (by first | omega | (dsimp only; omega))
      subst this
      exact ⟨fun q => by omega, fun q => absurd q h⟩
theorem isRef_e {a b c f : Nat} (ha : a ≤ 1) (hb : b ≤ 1) (hc : c ≤ 1) (hf : f = if a = 0 then 1 else if b = 0 then 5 else if c = 0 then 3 else 0) : fX11_isRefused N 0 (nI a) (nI b) (nI c) mm = if f = 0 then some (0, mm) else some (1, cRef f mm) := by
  unfold fX11_isRefused fX11_isRefused_25 fX11_isRefused_39
  rcases (by omega : a = 0 ∨ a = 1) with rfl | rfl
  · subst hf
    refine st_t rfl (st_f (by decide) (st_b (c_ref 1 rfl (by first | omega | (dsimp only; omega))) (st_f (by decide) rfl)))
  · refine st_f (by decide) ?_
    rcases (by omega : b = 0 ∨ b = 1) with rfl | rfl
    · subst hf
      refine st_t rfl (st_f (by decide) (st_b (c_ref 5 rfl (by first | omega | (dsimp only; omega))) (st_f (by decide) rfl)))
    · refine st_f (by decide) ?_
      rcases (by omega : c = 0 ∨ c = 1) with rfl | rfl
      · subst hf
        refine st_t rfl (st_f (by decide) (st_b (c_ref 3 rfl (by first | omega | (dsimp only; omega))) (st_f (by decide) rfl)))
      · subst hf
        exact st_f (by decide) (st_t rfl (st_t rfl rfl))
theorem isW_91 {a b c : Nat} {f : Nat} (ha : a ≤ 1) (hb : b ≤ 1) (hc : c ≤ 1) (hf : f = if a = 0 then 1 else if b = 0 then 5 else if c = 0 then 3 else 0) : fX11_isWrong__91 N 0 (nI a) (nI b) (nI c) mm = if f = 0 then some (0, mm) else some (1, cRef f mm) := by
  unfold fX11_isWrong__91
  rw [isRef_e ha hb hc hf]
  by_cases h : f = 0
  · simp only [if_pos h]; exact st_b rfl (st_g (by decide) rfl)
  · simp only [if_neg h]; exact st_b rfl (st_g (by decide) rfl)
/-- the class' check of two layings -/
theorem isW_e {q a b s t : Nat} (hN : 100000 ≤ N) (hr : r < 6) (hq : q < 6) (ha : a ≤ 1) (hb : b ≤ 1) (hn : rd mm 3 5 = nI n) (hn6 : n ≤ 6) (hzr : RZ mm r) (hzq : RZ mm q) (hst : rd mm 5 a = nI s) (hs40 : s ≤ 40) (htt : rd mm 5 b = nI t) (ht40 : t ≤ 40) :
    ∃ i z v : Nat, i ≤ 1 ∧ z ≤ 1 ∧ v ≤ 1 ∧ (i = 0 ↔ rd mm (95 + 2 * r) 1 = -1 ∨ rd mm (95 + 2 * q) 1 = -1) ∧ (z = 1 ↔ rd mm (95 + 2 * r) 1 = nI n ∧ rd mm (95 + 2 * q) 1 = nI n) ∧ (z = 1 → (v = 1 ↔ LayOK (fun j => rd mm (96 + 2 * r) j) n s ∧ LayOK (fun j => rd mm (96 + 2 * q) j) n t)) ∧ ∀ f, f = (if i = 0 then 1 else if z = 0 then 5 else if v = 0 then 3 else 0) → fX11_isWrong_ N 0 (95 + 2 * r) (nI a) (95 + 2 * q) (nI b) mm = if f = 0 then some (0, mm) else some (1, cRef f mm) := by
  obtain ⟨v1, e1, l1, w1⟩ := allows_x hN hr ha hzr hst hs40
  obtain ⟨v2, e2, l2, w2⟩ := allows_x hN hq hb hzq htt ht40
  -- the size
  obtain ⟨z, hz1, hz⟩ : ∃ z : Nat, z ≤ 1 ∧ (z = 1 ↔ rd mm (95 + 2 * r) 1 = nI n ∧ rd mm (95 + 2 * q) 1 = nI n) := by
    by_cases h : rd mm (95 + 2 * r) 1 = nI n ∧ rd mm (95 + 2 * q) 1 = nI n
    · exact ⟨1, by omega, fun _ => h, fun _ => rfl⟩
    · exact ⟨0, by omega, fun w => by omega, fun w => absurd w h⟩
  obtain ⟨i, hi1, hi⟩ : ∃ i : Nat, i ≤ 1 ∧ (i = 0 ↔ rd mm (95 + 2 * r) 1 = -1 ∨ rd mm (95 + 2 * q) 1 = -1) := by
    by_cases h : rd mm (95 + 2 * r) 1 = -1 ∨ rd mm (95 + 2 * q) 1 = -1
    · exact ⟨0, by omega, fun _ => h, fun _ => rfl⟩
    · exact ⟨1, by omega, fun w => by omega, fun w => absurd w h⟩
  obtain ⟨v, hv1, hv⟩ : ∃ v : Nat, v ≤ 1 ∧ (v = 1 ↔ v1 = 1 ∧ v2 = 1) := by
    by_cases h : v1 = 1 ∧ v2 = 1
    · exact ⟨1, by omega, fun _ => h, fun _ => rfl⟩
    · exact ⟨0, by omega, fun w => by omega, fun w => absurd w h⟩
  refine ⟨i, z, v, hi1, hz1, hv1, hi, hz, fun hz' => ?_, fun f hf => ?_⟩
  · obtain ⟨g1, g2⟩ := hz.mp hz'
    rw [hv, w1 n (by first | omega | (dsimp only; omega)) g1, w2 n (by first | omega | (dsimp only; omega)) g2]
  · have h54 : ∀ c : Nat, c ≤ 1 → ∀ g, g = (if i = 0 then 1 else if c = 0 then 5 else if v = 0 then 3 else 0) → fX11_isWrong__54 N 0 (95 + 2 * r) (nI a) (95 + 2 * q) (nI b) (nI i) (nI c) mm = if g = 0 then some (0, mm) else some (1, cRef g mm) := by
      intro c hc g hg
      unfold fX11_isWrong__54 fX11_isWrong__90
      simp only [LXa]
      refine st_b e1 ?_
      by_cases h1 : v1 = 1
      · refine st_f (by rw [h1]; decide) (st_b e2 ?_)
        by_cases h2 : v2 = 1
        · refine st_f (by rw [h2]; decide) (isW_91 (c := 1) hi1 hc (by first | omega | (dsimp only; omega)) ?_)
          rw [hv.mpr ⟨h1, h2⟩] at hg
          exact hg
        · refine st_t (by rw [show v2 = 0 by omega]; rfl) (isW_91 (c := 0) hi1 hc (by first | omega | (dsimp only; omega)) ?_)
          have : v = 0 := by
            rcases (by omega : v = 0 ∨ v = 1) with w | w
            · exact w
            · exact absurd (hv.mp w).2 h2
          rw [this] at hg
          exact hg
      · refine st_t (by rw [show v1 = 0 by omega]; rfl) (isW_91 (c := 0) hi1 hc (by first | omega | (dsimp only; omega)) ?_)
        have : v = 0 := by
          rcases (by omega : v = 0 ∨ v = 1) with w | w
          · exact w
          · exact absurd (hv.mp w).1 h1
        rw [this] at hg
        exact hg
    have h19 : fX11_isWrong__19 N 0 (95 + 2 * r) (nI a) (95 + 2 * q) (nI b) (nI i) mm = if f = 0 then some (0, mm) else some (1, cRef f mm) := by
      unfold fX11_isWrong__19 fX11_isWrong__53
      simp only [LXa]
      rw [hn]
      by_cases h1 : rd mm (95 + 2 * r) 1 = nI n
      · refine st_t h1 ?_
        by_cases h2 : rd mm (95 + 2 * q) 1 = nI n
        · refine st_t h2 (h54 1 (by first | omega | (dsimp only; omega)) f ?_)
          rw [hz.mpr ⟨h1, h2⟩] at hf
          exact hf
        · refine st_f h2 (h54 0 (by first | omega | (dsimp only; omega)) f ?_)
          have : z = 0 := by
            rcases (by omega : z = 0 ∨ z = 1) with w | w
            · exact w
            · exact absurd (hz.mp w).2 h2
          rw [this] at hf
          exact hf
      · refine st_f h1 (h54 0 (by first | omega | (dsimp only; omega)) f ?_)
        have : z = 0 := by
          rcases (by omega : z = 0 ∨ z = 1) with w | w
          · exact w
          · exact absurd (hz.mp w).1 h1
        rw [this] at hf
        exact hf
    unfold fX11_isWrong_ fX11_isWrong__18
    rcases hzr with hzr | ⟨m1, hm1, hzr⟩
    · have : i = 0 := hi.mpr (Or.inl hzr)
      subst this
      exact st_b (miss_t hzr) (st_f (by decide) h19)
    · refine st_b (miss_f hzr (by first | omega | (dsimp only; omega))) (st_t rfl ?_)
      rcases hzq with hzq | ⟨m2, hm2, hzq⟩
      · have : i = 0 := hi.mpr (Or.inr hzq)
        subst this
        exact st_b (miss_t hzq) (st_f (by decide) h19)
      · have : i = 1 := by
          rcases (by omega : i = 0 ∨ i = 1) with w | w
          · rcases hi.mp w with e | e
            · rw [hzr] at e; exact absurd e (neg1_ne (by first | omega | (dsimp only; omega)))
            · rw [hzq] at e; exact absurd e (neg1_ne (by first | omega | (dsimp only; omega)))
          · exact w
        subst this
        exact st_b (miss_f hzq (by first | omega | (dsimp only; omega))) (st_t rfl h19)
end Asks
