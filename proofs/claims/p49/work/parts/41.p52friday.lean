/-! picked out of 52.friday -/
section Fri
variable {N n d : Nat} {K W F x y : Nat → Nat}
/-- both scores together -/
theorem scr_both {w : Nat → Nat} (hw2 : ∀ i, w i ≤ 2) : ∀ n, scr W 0 w n + scr W 1 w n = 2 * smN W n
  | 0 => rfl
  | n + 1 => by
    have h1 := scr_both hw2 n
    have h2 : pts (W n) 0 (w n) + pts (W n) 1 (w n) = 2 * W n := by
      have := hw2 n
      unfold pts
      rcases (by omega : w n = 0 ∨ w n = 1 ∨ w n = 2) with h | h | h <;> rw [h] <;> simp <;> omega
    show (scr W 0 w n + pts (W n) 0 (w n)) + (scr W 1 w n + pts (W n) 1 (w n)) = 2 * (smN W n + W n)
    omega
end Fri
/-- numbers of a row -/
def lO (g : Nat → Int32) (i : Nat) : Nat := (g i).toInt.toNat
/-- each a number of sheets -/
def Wi (g : Nat → Int32) (b : Nat) (i : Nat) : Prop := 0 ≤ (g i).toInt ∧ (g i).toInt ≤ b
theorem Wi_n {g : Nat → Int32} {b i : Nat} (h : Wi g b i) : g i = nI (lO g i) ∧ lO g i ≤ b := by
  obtain ⟨h1, h2⟩ := h
  have := i_b (g i)
  unfold lO
  refine ⟨?_, by omega⟩
  rw [i_eq, nI_toInt (by first | omega | (dsimp only; omega))]
  omega

/-! picked out of 53.asks -/
def LayOK (g : Nat → Int32) (n s : Nat) : Prop := (∀ i, i < n → Wi g 40 i) ∧ smN (lO g) n ≤ s
theorem Wi_c {g h : Nat → Int32} {b i : Nat} (e : g i = h i) : Wi g b i ↔ Wi h b i := by unfold Wi; rw [e]
theorem lO_c {g h : Nat → Int32} {i : Nat} (e : g i = h i) : lO g i = lO h i := by unfold lO; rw [e]
theorem LayOK_c {g h : Nat → Int32} {n s : Nat} (e : ∀ i, i < n → g i = h i) : LayOK g n s ↔ LayOK h n s := by
  unfold LayOK
  rw [smN_c n (fun i hi => lO_c (e i hi))]
  exact and_congr_left (fun _ => ⟨fun q i hi => (Wi_c (e i hi)).mp (q i hi), fun q i hi => (Wi_c (e i hi)).mpr (q i hi)⟩)
theorem sL_n {g : Nat → Int32} {b : Nat} (hb : b ≤ 1000) : ∀ m, m ≤ 100 → (∀ i, i < m → Wi g b i) → (sL g m).toInt = smN (lO g) m := by
  intro m
  induction m with
  | zero => intro _ _; rfl
  | succ m ih =>
    intro hm h
    have h1 := ih (by first | omega | (dsimp only; omega)) (fun i hi => h i (by first | omega | (dsimp only; omega)))
    obtain ⟨h2, h3⟩ := Wi_n (h m (by first | omega | (dsimp only; omega)))
    have h4 := smN_le (f := lO g) (b := b) m (fun i hi => (Wi_n (h i (by first | omega | (dsimp only; omega)))).2)
    have h5 : b * m ≤ 1000 * 100 := Nat.mul_le_mul hb (by first | omega | (dsimp only; omega))
    show (sL g m + (g m).toInt64).toInt = ((smN (lO g) m + lO g m : Nat) : Int)
    rw [Int64.toInt_add, h1, h2, l_nI (by first | omega | (dsimp only; omega))]
    generalize smN (lO g) m = A at *
    generalize lO g m = B at *
    rw [show ((A + B : Nat) : Int) = (A : Int) + (B : Int) by omega]
    exact Int.bmod_eq_of_le_mul_two (by show -((18446744073709551616 : Nat) : Int) ≤ _; omega) (by show _ < ((18446744073709551616 : Nat) : Int); omega)
section Asks
variable {N n r : Nat} {mm : Mm}
theorem within_l {b m : Nat} (hr : r < 6) (hs : rd mm (95 + 2 * r) 1 = nI m) (hm : m ≤ 40) (hb : b ≤ 1000) : ∀ c i, i + c = m → ∀ f, c < f → ((∀ j, i ≤ j → j < m → Wi (fun j => rd mm (96 + 2 * r) j) b j) → fX6_isWithin_2 N f (95 + 2 * r) (nI b) (nI i) mm = some (1, mm)) ∧ (¬ (∀ j, i ≤ j → j < m → Wi (fun j => rd mm (96 + 2 * r) j) b j) → fX6_isWithin_2 N f (95 + 2 * r) (nI b) (nI i) mm = some (0, mm)) := by
  intro c
  induction c with
  | zero =>
    intro i hi f hf
    obtain ⟨f, rfl⟩ : ∃ g, f = g + 1 := ⟨f - 1, by omega⟩
    refine ⟨fun _ => ?_, fun q => absurd (fun j h1 h2 => by omega) q⟩
    unfold fX6_isWithin_2
    exact st_t (by rw [hs]; exact nI_le (by first | omega | (dsimp only; omega)) (by first | omega | (dsimp only; omega))) rfl
  | succ c ih =>
    intro i hi f hf
    obtain ⟨f, rfl⟩ : ∃ g, f = g + 1 := ⟨f - 1, by omega⟩
    obtain ⟨ih1, ih2⟩ := ih (i + 1) (by first | omega | (dsimp only; omega)) f (by first | omega | (dsimp only; omega))
    have h0 : (0 : Int32).toInt = 0 := rfl
    have hbI : (nI b).toInt = b := nI_toInt (by first | omega | (dsimp only; omega))
    unfold fX6_isWithin_2
    simp only [fr_row hr, nI_nat (show i < 2147483648 by omega), nI_1]
    by_cases hw : Wi (fun j => rd mm (96 + 2 * r) j) b i
    · have hw' : 0 ≤ (rd mm (96 + 2 * r) i).toInt ∧ (rd mm (96 + 2 * r) i).toInt ≤ b := hw
      refine ⟨fun q => ?_, fun q => ?_⟩
      · refine st_f (by rw [hs]; exact nI_ge (by first | omega | (dsimp only; omega)) (by first | omega | (dsimp only; omega))) (st_k (ln_row hr) (by first | omega | (dsimp only; omega)) (by first | omega | (dsimp only; omega)) (st_f (by rw [i_lt, h0]; omega) (st_k (ln_row hr) (by first | omega | (dsimp only; omega)) (by first | omega | (dsimp only; omega)) (st_t (by rw [i_le, hbI]; omega) (ih1 (fun j h1 h2 => q j (by first | omega | (dsimp only; omega)) h2))))))
      · refine st_f (by rw [hs]; exact nI_ge (by first | omega | (dsimp only; omega)) (by first | omega | (dsimp only; omega))) (st_k (ln_row hr) (by first | omega | (dsimp only; omega)) (by first | omega | (dsimp only; omega)) (st_f (by rw [i_lt, h0]; omega) (st_k (ln_row hr) (by first | omega | (dsimp only; omega)) (by first | omega | (dsimp only; omega)) (st_t (by rw [i_le, hbI]; omega) (ih2 (fun q2 => q (fun j h1 h2 => ?_)))))))
        by_cases hj : j = i
        · rw [hj]; exact hw
        · exact q2 j (by first | omega | (dsimp only; omega)) h2
    · refine ⟨fun q => absurd (q i (by first | omega | (dsimp only; omega)) (by first | omega | (dsimp only; omega))) hw, fun _ => ?_⟩
      refine st_f (by rw [hs]; exact nI_ge (by first | omega | (dsimp only; omega)) (by first | omega | (dsimp only; omega))) (st_k (ln_row hr) (by first | omega | (dsimp only; omega)) (by first | omega | (dsimp only; omega)) ?_)
      by_cases h2 : rd mm (96 + 2 * r) i < 0
      · exact st_t h2 rfl
      · refine st_f h2 (st_k (ln_row hr) (by first | omega | (dsimp only; omega)) (by first | omega | (dsimp only; omega)) (st_f (fun h3 => hw ?_) rfl))
        rw [i_lt, h0] at h2
        rw [i_le, hbI] at h3
        exact ⟨by show 0 ≤ (rd mm (96 + 2 * r) i).toInt; omega, h3⟩
theorem within_m {b : Int32} (hN : 100000 ≤ N) (hs : rd mm (95 + 2 * r) 1 = -1) : fX6_isWithin N (95 + 2 * r) b mm = some (1, mm) := by
  obtain ⟨f, rfl⟩ : ∃ g, N = g + 1 := ⟨N - 1, by omega⟩
  unfold fX6_isWithin fX6_isWithin_2
  exact st_t (by rw [hs]; decide) rfl
theorem within_t {b m : Nat} (hN : 100000 ≤ N) (hr : r < 6) (hs : rd mm (95 + 2 * r) 1 = nI m) (hm : m ≤ 40) (hb : b ≤ 1000) (h : ∀ j, j < m → Wi (fun j => rd mm (96 + 2 * r) j) b j) : fX6_isWithin N (95 + 2 * r) (nI b) mm = some (1, mm) :=
  (within_l (N := N) hr hs hm hb m 0 (by first | omega | (dsimp only; omega)) N (by first | omega | (dsimp only; omega))).1 (fun j _ q => h j q)
theorem within_f {b m : Nat} (hN : 100000 ≤ N) (hr : r < 6) (hs : rd mm (95 + 2 * r) 1 = nI m) (hm : m ≤ 40) (hb : b ≤ 1000) (h : ¬ ∀ j, j < m → Wi (fun j => rd mm (96 + 2 * r) j) b j) : fX6_isWithin N (95 + 2 * r) (nI b) mm = some (0, mm) :=
  (within_l (N := N) hr hs hm hb m 0 (by first | omega | (dsimp only; omega)) N (by first | omega | (dsimp only; omega))).2 (fun q => h (fun j hj => q j (by first | omega | (dsimp only; omega)) hj))
theorem allows_t {a m s : Nat} (hN : 100000 ≤ N) (hr : r < 6) (ha : a ≤ 1) (hs : rd mm (95 + 2 * r) 1 = nI m) (hm : m ≤ 40) (hst : rd mm 5 a = nI s) (hs40 : s ≤ 40) (h : LayOK (fun j => rd mm (96 + 2 * r) j) m s) : fX0_allows N 3 (95 + 2 * r) (nI a) mm = some (1, mm) := by
  unfold fX0_allows
  simp only [LXa, nI_nat (show a < 2147483648 by omega)]
  refine st_b (within_t (b := 40) hN hr hs hm (by first | omega | (dsimp only; omega)) h.1) (st_f (by decide) (st_b (total_ok hN (fr_row hr) (ln_row hr) hs hm (by first | omega | (dsimp only; omega))) (st_k rfl (by first | omega | (dsimp only; omega)) (by first | omega | (dsimp only; omega)) (st_f ?_ rfl))))
  rw [hst, lg_cmp_gt, Int64.lt_iff_toInt_lt, l_nI (by first | omega | (dsimp only; omega)), sL_n (b := 40) (by first | omega | (dsimp only; omega)) m (by first | omega | (dsimp only; omega)) h.1]
  have := h.2
  omega
theorem allows_f {a m s : Nat} (hN : 100000 ≤ N) (hr : r < 6) (ha : a ≤ 1) (hs : rd mm (95 + 2 * r) 1 = nI m) (hm : m ≤ 40) (hst : rd mm 5 a = nI s) (hs40 : s ≤ 40) (h : ¬ LayOK (fun j => rd mm (96 + 2 * r) j) m s) : fX0_allows N 3 (95 + 2 * r) (nI a) mm = some (0, mm) := by
  unfold fX0_allows
  simp only [LXa, nI_nat (show a < 2147483648 by omega)]
  by_cases hw : ∀ j, j < m → Wi (fun j => rd mm (96 + 2 * r) j) 40 j
  · refine st_b (within_t (b := 40) hN hr hs hm (by first | omega | (dsimp only; omega)) hw) (st_f (by decide) (st_b (total_ok hN (fr_row hr) (ln_row hr) hs hm (by first | omega | (dsimp only; omega))) (st_k rfl (by first | omega | (dsimp only; omega)) (by first | omega | (dsimp only; omega)) (st_t ?_ rfl))))
    rw [hst, lg_cmp_gt, Int64.lt_iff_toInt_lt, l_nI (by first | omega | (dsimp only; omega)), sL_n (b := 40) (by first | omega | (dsimp only; omega)) m (by first | omega | (dsimp only; omega)) hw]
    have : ¬ smN (lO fun j => rd mm (96 + 2 * r) j) m ≤ s := fun q => h ⟨hw, q⟩
    omega
  · exact st_b (within_f (b := 40) hN hr hs hm (by first | omega | (dsimp only; omega)) hw) (st_t rfl rfl)
theorem allows_m {a s : Nat} (hN : 100000 ≤ N) (ha : a ≤ 1) (hs : rd mm (95 + 2 * r) 1 = -1) (hst : rd mm 5 a = nI s) (hs40 : s ≤ 40) : fX0_allows N 3 (95 + 2 * r) (nI a) mm = some (1, mm) := by
  unfold fX0_allows
  simp only [LXa, nI_nat (show a < 2147483648 by omega)]
  refine st_b (within_m hN hs) (st_f (by decide) (st_b (total_m hN hs) (st_k rfl (by first | omega | (dsimp only; omega)) (by first | omega | (dsimp only; omega)) (st_f ?_ rfl))))
  rw [hst, lg_cmp_gt, Int64.lt_iff_toInt_lt, l_nI (by first | omega | (dsimp only; omega))]
  have : (0 : Int64).toInt = 0 := rfl
  omega
/-- a row's size: missing, or a number of places -/
def RZ (mm : Mm) (r : Nat) : Prop := rd mm (95 + 2 * r) 1 = -1 ∨ ∃ m, m ≤ 40 ∧ rd mm (95 + 2 * r) 1 = nI m
theorem allows_x {a s : Nat} (hN : 100000 ≤ N) (hr : r < 6) (ha : a ≤ 1) (hz : RZ mm r) (hst : rd mm 5 a = nI s) (hs40 : s ≤ 40) : ∃ v : Nat, fX0_allows N 3 (95 + 2 * r) (nI a) mm = some (nI v, mm) ∧ v ≤ 1 ∧ ∀ m, m ≤ 40 → rd mm (95 + 2 * r) 1 = nI m → (v = 1 ↔ LayOK (fun j => rd mm (96 + 2 * r) j) m s) := by
  rcases hz with hz | ⟨m, hm, hz⟩
  · refine ⟨1, allows_m hN ha hz hst hs40, by omega, fun m hm e => ?_⟩
    rw [hz] at e
    exact absurd e.symm (neg1_ne (by first | omega | (dsimp only; omega)))
  · by_cases h : LayOK (fun j => rd mm (96 + 2 * r) j) m s
    · refine ⟨1, allows_t hN hr ha hz hm hst hs40 h, by omega, fun m' hm' e => ?_⟩
      rw [hz] at e
      have := nI_inj e (by first | omega | (dsimp only; omega)) (by first | omega | (dsimp only; omega))
      subst this
      exact ⟨fun _ => h, fun _ => rfl⟩
    · refine ⟨0, allows_f hN hr ha hz hm hst hs40 h, by omega, fun m' hm' e => ?_⟩
      rw [hz] at e
      have := nI_inj e (by first | omega | (dsimp only; omega)) (by first | omega | (dsimp only; omega))
      subst this
      exact ⟨fun q => by omega, fun q => absurd q h⟩
theorem isRef_e {a b c f : Nat} (ha : a ≤ 1) (hb : b ≤ 1) (hc : c ≤ 1) (hf : f = if a = 0 then 1 else if b = 0 then 5 else if c = 0 then 3 else 0) : fX11_isRefused N 0 (nI a) (nI b) (nI c) mm = if f = 0 then some (0, mm) else some (1, cRef f mm) := by
  unfold fX11_isRefused fX11_isRefused_25 fX11_isRefused_39
  rcases (by omega : a = 0 ∨ a = 1) with rfl | rfl
  · subst hf
    refine st_t rfl (st_f (by decide) (st_b (c_ref 1 rfl (by first | omega | (dsimp only; omega))) (st_f (by decide) rfl)))
  · refine st_f (by decide) ?_
    rcases (by omega : b = 0 ∨ b = 1) with rfl | rfl
    · subst hf
      refine st_t rfl (st_f (by decide) (st_b (c_ref 5 rfl (by first | omega | (dsimp only; omega))) (st_f (by decide) rfl)))
    · refine st_f (by decide) ?_
      rcases (by omega : c = 0 ∨ c = 1) with rfl | rfl
      · subst hf
        refine st_t rfl (st_f (by decide) (st_b (c_ref 3 rfl (by first | omega | (dsimp only; omega))) (st_f (by decide) rfl)))
      · subst hf
        exact st_f (by decide) (st_t rfl (st_t rfl rfl))
theorem isW_91 {a b c : Nat} {f : Nat} (ha : a ≤ 1) (hb : b ≤ 1) (hc : c ≤ 1) (hf : f = if a = 0 then 1 else if b = 0 then 5 else if c = 0 then 3 else 0) : fX11_isWrong__91 N 0 (nI a) (nI b) (nI c) mm = if f = 0 then some (0, mm) else some (1, cRef f mm) := by
  unfold fX11_isWrong__91
  rw [isRef_e ha hb hc hf]
  by_cases h : f = 0
  · simp only [if_pos h]; exact st_b rfl (st_g (by decide) rfl)
  · simp only [if_neg h]; exact st_b rfl (st_g (by decide) rfl)
/-- the class' check of two layings -/
theorem isW_e {q a b s t : Nat} (hN : 100000 ≤ N) (hr : r < 6) (hq : q < 6) (ha : a ≤ 1) (hb : b ≤ 1) (hn : rd mm 3 5 = nI n) (hn6 : n ≤ 6) (hzr : RZ mm r) (hzq : RZ mm q) (hst : rd mm 5 a = nI s) (hs40 : s ≤ 40) (htt : rd mm 5 b = nI t) (ht40 : t ≤ 40) :
    ∃ i z v : Nat, i ≤ 1 ∧ z ≤ 1 ∧ v ≤ 1 ∧ (i = 0 ↔ rd mm (95 + 2 * r) 1 = -1 ∨ rd mm (95 + 2 * q) 1 = -1) ∧ (z = 1 ↔ rd mm (95 + 2 * r) 1 = nI n ∧ rd mm (95 + 2 * q) 1 = nI n) ∧ (z = 1 → (v = 1 ↔ LayOK (fun j => rd mm (96 + 2 * r) j) n s ∧ LayOK (fun j => rd mm (96 + 2 * q) j) n t)) ∧ ∀ f, f = (if i = 0 then 1 else if z = 0 then 5 else if v = 0 then 3 else 0) → fX11_isWrong_ N 0 (95 + 2 * r) (nI a) (95 + 2 * q) (nI b) mm = if f = 0 then some (0, mm) else some (1, cRef f mm) := by
  obtain ⟨v1, e1, l1, w1⟩ := allows_x hN hr ha hzr hst hs40
  obtain ⟨v2, e2, l2, w2⟩ := allows_x hN hq hb hzq htt ht40
  -- the size
  obtain ⟨z, hz1, hz⟩ : ∃ z : Nat, z ≤ 1 ∧ (z = 1 ↔ rd mm (95 + 2 * r) 1 = nI n ∧ rd mm (95 + 2 * q) 1 = nI n) := by
    by_cases h : rd mm (95 + 2 * r) 1 = nI n ∧ rd mm (95 + 2 * q) 1 = nI n
    · exact ⟨1, by omega, fun _ => h, fun _ => rfl⟩
    · exact ⟨0, by omega, fun w => by omega, fun w => absurd w h⟩
  obtain ⟨i, hi1, hi⟩ : ∃ i : Nat, i ≤ 1 ∧ (i = 0 ↔ rd mm (95 + 2 * r) 1 = -1 ∨ rd mm (95 + 2 * q) 1 = -1) := by
    by_cases h : rd mm (95 + 2 * r) 1 = -1 ∨ rd mm (95 + 2 * q) 1 = -1
    · exact ⟨0, by omega, fun _ => h, fun _ => rfl⟩
    · exact ⟨1, by omega, fun w => by omega, fun w => absurd w h⟩
  obtain ⟨v, hv1, hv⟩ : ∃ v : Nat, v ≤ 1 ∧ (v = 1 ↔ v1 = 1 ∧ v2 = 1) := by
    by_cases h : v1 = 1 ∧ v2 = 1
    · exact ⟨1, by omega, fun _ => h, fun _ => rfl⟩
    · exact ⟨0, by omega, fun w => by omega, fun w => absurd w h⟩
  refine ⟨i, z, v, hi1, hz1, hv1, hi, hz, fun hz' => ?_, fun f hf => ?_⟩
  · obtain ⟨g1, g2⟩ := hz.mp hz'
    rw [hv, w1 n (by first | omega | (dsimp only; omega)) g1, w2 n (by first | omega | (dsimp only; omega)) g2]
  · have h54 : ∀ c : Nat, c ≤ 1 → ∀ g, g = (if i = 0 then 1 else if c = 0 then 5 else if v = 0 then 3 else 0) → fX11_isWrong__54 N 0 (95 + 2 * r) (nI a) (95 + 2 * q) (nI b) (nI i) (nI c) mm = if g = 0 then some (0, mm) else some (1, cRef g mm) := by
      intro c hc g hg
      unfold fX11_isWrong__54 fX11_isWrong__90
      simp only [LXa]
      refine st_b e1 ?_
      by_cases h1 : v1 = 1
      · refine st_f (by rw [h1]; decide) (st_b e2 ?_)
        by_cases h2 : v2 = 1
        · refine st_f (by rw [h2]; decide) (isW_91 (c := 1) hi1 hc (by first | omega | (dsimp only; omega)) ?_)
          rw [hv.mpr ⟨h1, h2⟩] at hg
          exact hg
        · refine st_t (by rw [show v2 = 0 by omega]; rfl) (isW_91 (c := 0) hi1 hc (by first | omega | (dsimp only; omega)) ?_)
          have : v = 0 := by
            rcases (by omega : v = 0 ∨ v = 1) with w | w
            · exact w
            · exact absurd (hv.mp w).2 h2
          rw [this] at hg
          exact hg
      · refine st_t (by rw [show v1 = 0 by omega]; rfl) (isW_91 (c := 0) hi1 hc (by first | omega | (dsimp only; omega)) ?_)
        have : v = 0 := by
          rcases (by omega : v = 0 ∨ v = 1) with w | w
          · exact w
          · exact absurd (hv.mp w).1 h1
        rw [this] at hg
        exact hg
    have h19 : fX11_isWrong__19 N 0 (95 + 2 * r) (nI a) (95 + 2 * q) (nI b) (nI i) mm = if f = 0 then some (0, mm) else some (1, cRef f mm) := by
      unfold fX11_isWrong__19 fX11_isWrong__53
      simp only [LXa]
      rw [hn]
      by_cases h1 : rd mm (95 + 2 * r) 1 = nI n
      · refine st_t h1 ?_
        by_cases h2 : rd mm (95 + 2 * q) 1 = nI n
        · refine st_t h2 (h54 1 (by first | omega | (dsimp only; omega)) f ?_)
          rw [hz.mpr ⟨h1, h2⟩] at hf
          exact hf
        · refine st_f h2 (h54 0 (by first | omega | (dsimp only; omega)) f ?_)
          have : z = 0 := by
            rcases (by omega : z = 0 ∨ z = 1) with w | w
            · exact w
            · exact absurd (hz.mp w).2 h2
          rw [this] at hf
          exact hf
      · refine st_f h1 (h54 0 (by first | omega | (dsimp only; omega)) f ?_)
        have : z = 0 := by
          rcases (by omega : z = 0 ∨ z = 1) with w | w
          · exact w
          · exact absurd (hz.mp w).1 h1
        rw [this] at hf
        exact hf
    unfold fX11_isWrong_ fX11_isWrong__18
    rcases hzr with hzr | ⟨m1, hm1, hzr⟩
    · have : i = 0 := hi.mpr (Or.inl hzr)
      subst this
      exact st_b (miss_t hzr) (st_f (by decide) h19)
    · refine st_b (miss_f hzr (by first | omega | (dsimp only; omega))) (st_t rfl ?_)
      rcases hzq with hzq | ⟨m2, hm2, hzq⟩
      · have : i = 0 := hi.mpr (Or.inr hzq)
        subst this
        exact st_b (miss_t hzq) (st_f (by decide) h19)
      · have : i = 1 := by
          rcases (by omega : i = 0 ∨ i = 1) with w | w
          · rcases hi.mp w with e | e
            · rw [hzr] at e; exact absurd e (neg1_ne (by first | omega | (dsimp only; omega)))
            · rw [hzq] at e; exact absurd e (neg1_ne (by first | omega | (dsimp only; omega)))
          · exact w
        subst this
        exact st_b (miss_f hzq (by first | omega | (dsimp only; omega))) (st_t rfl h19)
end Asks

/-! picked out of 55.judge -/
theorem SC_29 : SC 29 := ⟨rfl, rfl, rfl, rfl, rfl, rfl, by omega, by omega⟩
theorem SW_0 {mm : Mm} {S d : Nat} {K W F x y : Nat → Nat} (h : rd mm (S + 3) 0 = 0) : SW mm S K W F d x y 0 := ⟨fun j hj => by omega, fun j hj => by
  obtain rfl : j = 0 := by omega
  exact h⟩
/-- numbers of a laying that was held good -/
theorem lay_n {g : Nat → Int32} {n s : Nat} (h : LayOK g n s) : (∀ i, i < n → g i = nI (lO g i)) ∧ ∀ i, i < n → lO g i ≤ 40 := ⟨fun i hi => (Wi_n (h.1 i hi)).1, fun i hi => (Wi_n (h.1 i hi)).2⟩

/-! picked out of 56.needs -/
def up (f : Nat → Nat) (i v : Nat) : Nat → Nat := fun j => if j = i then v else f j
theorem up_s {f : Nat → Nat} {i v : Nat} : up f i v i = v := if_pos rfl
theorem up_o {f : Nat → Nat} {i v j : Nat} (h : j ≠ i) : up f i v j = f j := if_neg h
/-- the first number from x on, c being looked at -/
def fnd (P : Nat → Bool) : Nat → Nat → Option Nat
  | 0, _ => none
  | c + 1, x => if P x = true then some x else fnd P c (x + 1)
theorem fnd_some {P : Nat → Bool} : ∀ c x y, fnd P c x = some y → x ≤ y ∧ y < x + c ∧ P y = true ∧ ∀ t, x ≤ t → t < y → P t = false := by
  intro c
  induction c with
  | zero => intro x y h; cases h
  | succ c ih =>
    intro x y h
    unfold fnd at h
    by_cases hp : P x = true
    · rw [if_pos hp] at h
      cases h
      exact ⟨Nat.le_refl _, by omega, hp, fun t h1 h2 => by omega⟩
    · rw [if_neg hp] at h
      obtain ⟨h1, h2, h3, h4⟩ := ih _ _ h
      refine ⟨by omega, by omega, h3, fun t h5 h6 => ?_⟩
      by_cases ht : t = x
      · rw [ht]; simpa using hp
      · exact h4 t (by first | omega | (dsimp only; omega)) h6
theorem fnd_none {P : Nat → Bool} : ∀ c x, fnd P c x = none → ∀ t, x ≤ t → t < x + c → P t = false := by
  intro c
  induction c with
  | zero => intro x h t h1 h2; omega
  | succ c ih =>
    intro x h t h1 h2
    unfold fnd at h
    by_cases hp : P x = true
    · rw [if_pos hp] at h; cases h
    · rw [if_neg hp] at h
      by_cases ht : t = x
      · rw [ht]; simpa using hp
      · exact ih _ h t (by first | omega | (dsimp only; omega)) (by first | omega | (dsimp only; omega))
theorem fnd_of {P : Nat → Bool} {c y : Nat} (h : P y = true) (hy : y < c) (hm : ∀ t, t < y → P t = false) : fnd P c 0 = some y := by
  cases e : fnd P c 0 with
  | none =>
    have := fnd_none c 0 e y (by first | omega | (dsimp only; omega)) (by first | omega | (dsimp only; omega))
    rw [h] at this; cases this
  | some u =>
    obtain ⟨-, h2, h3, h4⟩ := fnd_some c 0 u e
    rcases Nat.lt_trichotomy u y with q | q | q
    · rw [hm u q] at h3; cases h3
    · rw [q]
    · rw [h4 y (by first | omega | (dsimp only; omega)) q] at h; cases h
/-- whether x sheets of side s on suit i end it so -/
def ndB (K F : Nat → Nat) (d : Nat) (w z : Nat → Nat) (s i e x : Nat) : Bool := decide (wst K F d w i (if s = 0 then x else z i) (if s = 0 then z i else x) = e)
def nd (K F : Nat → Nat) (d : Nat) (w z : Nat → Nat) (s i e : Nat) : Option Nat := fnd (ndB K F d w z s i e) 41 0
def coreZ (l ex : Nat) (lo hi : Int) : Int :=
  if (if 0 < l then 0 else (ex : Int)) < lo then (if hi < (if (l : Int) < lo - ex then lo - ex else l) + ex then -9 else (if (l : Int) < lo - ex then lo - ex else l)) else if hi < (if 0 < l then 0 else (ex : Int)) then -9 else 0
def wtZ (l ex x : Nat) : Nat := if x < l then 0 else x + ex
theorem core_ok (l ex : Nat) (lo hi : Int) : (coreZ l ex lo hi = -9 ∧ ∀ x : Nat, ¬ (lo ≤ (wtZ l ex x : Int) ∧ (wtZ l ex x : Int) ≤ hi)) ∨ ∃ y : Nat, coreZ l ex lo hi = y ∧ (y = 0 ∨ y = l ∨ (y : Int) = lo - ex) ∧ (lo ≤ (wtZ l ex y : Int) ∧ (wtZ l ex y : Int) ≤ hi) ∧ ∀ x : Nat, x < y → ¬ (lo ≤ (wtZ l ex x : Int) ∧ (wtZ l ex x : Int) ≤ hi) := by
  unfold coreZ
  by_cases h1 : (if 0 < l then 0 else (ex : Int)) < lo
  · rw [if_pos h1]
    by_cases h2 : hi < (if (l : Int) < lo - ex then lo - ex else l) + ex
    · rw [if_pos h2]
      refine Or.inl ⟨rfl, fun x => ?_⟩
      unfold wtZ
      split at h1 <;> split at h2 <;> split <;> omega
    · rw [if_neg h2]
      by_cases hq : (l : Int) < lo - ex
      · simp only [if_pos hq] at h2 ⊢
        obtain ⟨y, hy⟩ : ∃ y : Nat, (y : Int) = lo - ex := ⟨(lo - ex).toNat, by omega⟩
        refine Or.inr ⟨y, hy.symm, by omega, ?_, fun x hx => ?_⟩
        · unfold wtZ
          split at h1 <;> split <;> omega
        · unfold wtZ
          split at h1 <;> split <;> omega
      · simp only [if_neg hq] at h2 ⊢
        refine Or.inr ⟨l, rfl, by omega, ?_, fun x hx => ?_⟩
        · unfold wtZ
          split at h1 <;> split <;> omega
        · unfold wtZ
          split at h1 <;> split <;> omega
  · rw [if_neg h1]
    by_cases h2 : hi < (if 0 < l then 0 else (ex : Int))
    · rw [if_pos h2]
      refine Or.inl ⟨rfl, fun x => ?_⟩
      unfold wtZ
      split at h1 <;> split at h2 <;> split <;> omega
    · rw [if_neg h2]
      refine Or.inr ⟨0, rfl, Or.inl rfl, ?_, fun x hx => by omega⟩
      unfold wtZ
      split at h1 <;> split at h2 <;> split <;> omega
theorem core_e {N z k w f ex : Nat} {lo hi : Int32} {mm : Mm} (h : SU mm z k w f) (hk : k ≤ 5) (hf : f ≤ 9) (hex : ex ≤ 1000) (h1 : -1 ≤ lo.toInt ∧ lo.toInt ≤ 300000) (h2 : -1 ≤ hi.toInt ∧ hi.toInt ≤ 1000000) : ∃ R : Int32, fX9_need_118 N z (nI ex) lo hi mm = some (R, mm) ∧ R.toInt = coreZ (lsN k f) ex lo.toInt hi.toInt := by
  have hl := lsN_9 (k := k) hf
  have hexI : (nI ex).toInt = ex := nI_toInt (by first | omega | (dsimp only; omega))
  have hlI : (nI (lsN k f)).toInt = lsN k f := nI_toInt (by first | omega | (dsimp only; omega))
  have hsub : (lo - nI ex).toInt = lo.toInt - ex := by rw [i_sub _ _ (by rw [hexI]; omega) (by rw [hexI]; omega), hexI]
  have hm9 : (-9 : Int32).toInt = -9 := rfl
  have h00 : (0 : Int32).toInt = 0 := rfl
  unfold fX9_need_118 coreZ
  have hw : fX9_weight N z 0 (nI ex) mm = some (nI (if 0 < lsN k f then 0 else 0 + ex), mm) := weight_e (x := 0) h hk hf (by first | omega | (dsimp only; omega))
  have hnI : (nI (if 0 < lsN k f then 0 else 0 + ex)).toInt = (if 0 < lsN k f then 0 else (ex : Int)) := by
    rw [nI_toInt (by split <;> omega)]
    split <;> omega
  generalize nI (if 0 < lsN k f then 0 else 0 + ex) = nn at hw hnI
  by_cases hc : nn < lo
  · have hc' := hc
    rw [i_lt, hnI] at hc'
    rw [if_pos hc']
    have hx8 : (if nI (lsN k f) < lo - nI ex then lo - nI ex else nI (lsN k f)).toInt = (if (lsN k f : Int) < lo.toInt - ex then lo.toInt - ex else lsN k f) := by
      by_cases hq : nI (lsN k f) < lo - nI ex
      · have hq' := hq
        rw [i_lt, hlI, hsub] at hq'
        rw [if_pos hq, if_pos hq', hsub]
      · have hq' := hq
        rw [i_lt, hlI, hsub] at hq'
        rw [if_neg hq, if_neg hq', hlI]
    generalize hx : (if nI (lsN k f) < lo - nI ex then lo - nI ex else nI (lsN k f)) = x8 at hx8
    have hb : (0 : Int) ≤ x8.toInt ∧ x8.toInt ≤ 300000 := by rw [hx8]; split <;> omega
    have hadd : (x8 + nI ex).toInt = x8.toInt + ex := by rw [i_add _ _ (by rw [hexI]; omega) (by rw [hexI]; omega), hexI]
    by_cases hd : hi < x8 + nI ex
    · have hd' := hd
      rw [i_lt, hadd, hx8] at hd'
      rw [if_pos hd']
      exact ⟨-9, st_b hw (st_t hc (st_b (least_e h hk) (st_n (by rw [hx]; exact st_t hd rfl)))), hm9⟩
    · have hd' := hd
      rw [i_lt, hadd, hx8] at hd'
      rw [if_neg hd']
      exact ⟨x8, st_b hw (st_t hc (st_b (least_e h hk) (st_n (by rw [hx]; exact st_f hd rfl)))), hx8⟩
  · have hc' := hc
    rw [i_lt, hnI] at hc'
    rw [if_neg hc']
    by_cases hd : hi < nn
    · have hd' := hd
      rw [i_lt, hnI] at hd'
      rw [if_pos hd']
      exact ⟨-9, st_b hw (st_f hc (st_t hd rfl)), hm9⟩
    · have hd' := hd
      rw [i_lt, hnI] at hd'
      rw [if_neg hd']
      exact ⟨0, st_b hw (st_f hc (st_f hd rfl)), h00⟩
theorem wnr_own {k a b : Nat} (h : k = 1 ∨ k = 5) : wnr k a b = if b ≤ a then 0 else 1 := by
  unfold wnr
  by_cases hab : a = b
  · subst hab; rw [if_pos rfl, if_pos h, if_pos (Nat.le_refl _)]
  · rw [if_neg hab]
    have h2 : k ≠ 2 := by omega
    by_cases hlt : b < a
    · rw [if_pos (by simp [hlt, h2]), if_pos (by first | omega | (dsimp only; omega))]
    · rw [if_neg (by simp [hlt, h2]), if_neg (by first | omega | (dsimp only; omega))]
theorem wnr_fly {a b : Nat} : wnr 2 a b = if a = b then 2 else if a < b then 0 else 1 := by
  unfold wnr
  by_cases hab : a = b
  · rw [if_pos hab, if_pos hab]; rfl
  · rw [if_neg hab, if_neg hab]
    by_cases hlt : b < a
    · rw [if_neg (by simp [hlt]), if_neg (by first | omega | (dsimp only; omega))]
    · rw [if_pos (by simp [hlt]), if_pos (by first | omega | (dsimp only; omega))]
theorem wnr_pl {k a b : Nat} (h : k = 0 ∨ k = 3 ∨ k = 4) : wnr k a b = if a = b then 2 else if b < a then 0 else 1 := by
  unfold wnr
  by_cases hab : a = b
  · rw [if_pos hab, if_pos hab, if_neg (by first | omega | (dsimp only; omega))]
  · rw [if_neg hab, if_neg hab]
    have h2 : k ≠ 2 := by omega
    by_cases hlt : b < a
    · rw [if_pos (by simp [hlt, h2]), if_pos hlt]
    · rw [if_neg (by simp [hlt, h2]), if_neg hlt]
/-- who wins by x sheets of side s of weight function (l, ex) against a weight -/
def wnx (k s l ex ag x : Nat) : Nat := if s = 0 then wnr k (wtZ l ex x) ag else wnr k ag (wtZ l ex x)
/-- an answer of the class' need -/
def NdR (P : Nat → Prop) (R : Int32) : Prop := (R = -9 ∧ ∀ x, x ≤ 1000 → ¬ P x) ∨ ∃ y : Nat, y ≤ 300000 ∧ R = nI y ∧ P y ∧ ∀ t, t < y → ¬ P t
theorem wtZ_b {l ex x : Nat} (hx : x ≤ 1000) (he : ex ≤ 1000) : wtZ l ex x ≤ 2000 := by unfold wtZ; split <;> omega
theorem need_k {N z k w f s e ag ex : Nat} {mm : Mm} (h : SU mm z k w f) (hk : k ≤ 5) (hf : f ≤ 9) (hex : ex ≤ 1000) (hag : ag ≤ 200000) (lo hi : Int32) (lz hz : Int) (e1 : lo.toInt = lz) (e2 : hi.toInt = hz) (b1 : -1 ≤ lz ∧ lz ≤ 300000) (b2 : -1 ≤ hz ∧ hz ≤ 1000000) (hp : fX9_need N z (nI s) (nI e) (nI ag) (nI ex) mm = fX9_need_118 N z (nI ex) lo hi mm) (hiff : ∀ A : Nat, A ≤ 1000000 → ((lz ≤ (A : Int) ∧ (A : Int) ≤ hz) ↔ (if s = 0 then wnr k A ag else wnr k ag A) = e)) : ∃ R, fX9_need N z (nI s) (nI e) (nI ag) (nI ex) mm = some (R, mm) ∧ NdR (fun x => wnx k s (lsN k f) ex ag x = e) R := by
  obtain ⟨R, h1, h2⟩ := core_e (N := N) (lo := lo) (hi := hi) h hk hf hex (by rw [e1]; exact b1) (by rw [e2]; exact b2)
  have hl := lsN_9 (k := k) hf
  refine ⟨R, hp.trans h1, ?_⟩
  rw [e1, e2] at h2
  rcases core_ok (lsN k f) ex lz hz with ⟨q1, q2⟩ | ⟨y, q1, q2, q3, q4⟩
  · refine Or.inl ⟨?_, fun x hx hn => q2 x ((hiff _ ?_).mpr hn)⟩
    · rw [i_eq, h2, q1]; rfl
    · have := wtZ_b (l := lsN k f) hx hex; omega
  · have hy : y ≤ 300000 := by omega
    refine Or.inr ⟨y, hy, ?_, (hiff _ ?_).mp q3, fun t ht hn => q4 t ht ((hiff _ ?_).mpr hn)⟩
    · rw [i_eq, h2, q1, nI_toInt (by first | omega | (dsimp only; omega))]
    · have : wtZ (lsN k f) ex y ≤ y + ex := by unfold wtZ; split <;> omega
      omega
    · have : wtZ (lsN k f) ex t ≤ t + ex := by unfold wtZ; split <;> omega
      omega
theorem need_z {N z k w f s e ag ex : Nat} {mm : Mm} (h : SU mm z k w f) (hk : k ≤ 5) (hf : f ≤ 9) (hs : s ≤ 1) (he : e ≤ 2) (hex : ex ≤ 1000) (hag : ag ≤ 200000) : ∃ R, fX9_need N z (nI s) (nI e) (nI ag) (nI ex) mm = some (R, mm) ∧ NdR (fun x => wnx k s (lsN k f) ex ag x = e) R := by
  have hagI : (nI ag).toInt = ag := nI_toInt (by first | omega | (dsimp only; omega))
  have hag1 : (nI ag + 1).toInt = ag + 1 := by rw [nI_1, nI_toInt (by first | omega | (dsimp only; omega))]; omega
  have hagm : (nI ag - 1).toInt = (ag : Int) - 1 := by
    rw [show (1 : Int32) = nI 1 from rfl, i_sub _ _ (by rw [hagI, nI_toInt (by first | omega | (dsimp only; omega))]; omega) (by rw [hagI, nI_toInt (by first | omega | (dsimp only; omega))]; omega), hagI, nI_toInt (by first | omega | (dsimp only; omega))]
    rfl
  have hM : (1000000 : Int32).toInt = 1000000 := rfl
  have h0 : (0 : Int32).toInt = 0 := rfl
  have hkz := h.1
  by_cases ho : k = 1 ∨ k = 5
  · rcases (by omega : e = 0 ∨ e = 1 ∨ e = 2) with rfl | rfl | rfl <;> rcases (by omega : s = 0 ∨ s = 1) with rfl | rfl
    · refine need_k h hk hf hex hag (nI ag) 1000000 _ _ hagI hM (by first | omega | (dsimp only; omega)) (by first | omega | (dsimp only; omega)) ?_ (fun A hA => ?_)
      · unfold fX9_need fX9_need_16 fX9_need_21 fX9_need_62 fX9_need_75 fX9_need_94
        rcases ho with rfl | rfl <;> (rw [hkz]; rfl)
      · rw [if_pos rfl, wnr_own ho]; split <;> omega
    · refine need_k h hk hf hex hag 0 (nI ag) _ _ h0 hagI (by first | omega | (dsimp only; omega)) (by first | omega | (dsimp only; omega)) ?_ (fun A hA => ?_)
      · unfold fX9_need fX9_need_16 fX9_need_21 fX9_need_62 fX9_need_75 fX9_need_116
        rcases ho with rfl | rfl <;> (rw [hkz]; rfl)
      · rw [if_neg (by first | omega | (dsimp only; omega)), wnr_own ho]; split <;> omega
    · refine need_k h hk hf hex hag 0 (nI ag - 1) _ _ h0 hagm (by first | omega | (dsimp only; omega)) (by first | omega | (dsimp only; omega)) ?_ (fun A hA => ?_)
      · unfold fX9_need fX9_need_16 fX9_need_21 fX9_need_62 fX9_need_75 fX9_need_113 fX9_need_116
        rcases ho with rfl | rfl <;> (rw [hkz]; rfl)
      · rw [if_pos rfl, wnr_own ho]; split <;> omega
    · refine need_k h hk hf hex hag (nI ag + 1) 1000000 _ _ hag1 hM (by first | omega | (dsimp only; omega)) (by first | omega | (dsimp only; omega)) ?_ (fun A hA => ?_)
      · unfold fX9_need fX9_need_16 fX9_need_21 fX9_need_62 fX9_need_75 fX9_need_91 fX9_need_94
        rcases ho with rfl | rfl <;> (rw [hkz]; rfl)
      · rw [if_neg (by first | omega | (dsimp only; omega)), wnr_own ho]; split <;> omega
    · refine ⟨-9, ?_, Or.inl ⟨rfl, fun x hx => ?_⟩⟩
      · unfold fX9_need fX9_need_16 fX9_need_21
        rcases ho with rfl | rfl <;> (rw [hkz]; rfl)
      · show ¬ (if 0 = 0 then wnr k (wtZ (lsN k f) ex x) ag else wnr k ag (wtZ (lsN k f) ex x)) = 2
        rw [if_pos rfl, wnr_own ho]; split <;> omega
    · refine ⟨-9, ?_, Or.inl ⟨rfl, fun x hx => ?_⟩⟩
      · unfold fX9_need fX9_need_16 fX9_need_21
        rcases ho with rfl | rfl <;> (rw [hkz]; rfl)
      · show ¬ (if 1 = 0 then wnr k (wtZ (lsN k f) ex x) ag else wnr k ag (wtZ (lsN k f) ex x)) = 2
        rw [if_neg (by first | omega | (dsimp only; omega)), wnr_own ho]; split <;> omega
  by_cases h2 : k = 2
  · subst h2
    rcases (by omega : e = 0 ∨ e = 1 ∨ e = 2) with rfl | rfl | rfl <;> rcases (by omega : s = 0 ∨ s = 1) with rfl | rfl
    · refine need_k h hk hf hex hag 0 (nI ag - 1) _ _ h0 hagm (by first | omega | (dsimp only; omega)) (by first | omega | (dsimp only; omega)) ?_ (fun A hA => ?_)
      · unfold fX9_need fX9_need_21 fX9_need_62 fX9_need_75 fX9_need_113 fX9_need_116
        rw [hkz]; rfl
      · rw [if_pos rfl, wnr_fly]; split <;> (try split) <;> omega
    · refine need_k h hk hf hex hag (nI ag + 1) 1000000 _ _ hag1 hM (by first | omega | (dsimp only; omega)) (by first | omega | (dsimp only; omega)) ?_ (fun A hA => ?_)
      · unfold fX9_need fX9_need_21 fX9_need_62 fX9_need_75 fX9_need_91 fX9_need_94
        rw [hkz]; rfl
      · rw [if_neg (by first | omega | (dsimp only; omega)), wnr_fly]; split <;> (try split) <;> omega
    · refine need_k h hk hf hex hag (nI ag + 1) 1000000 _ _ hag1 hM (by first | omega | (dsimp only; omega)) (by first | omega | (dsimp only; omega)) ?_ (fun A hA => ?_)
      · unfold fX9_need fX9_need_21 fX9_need_62 fX9_need_75 fX9_need_91 fX9_need_94
        rw [hkz]; rfl
      · rw [if_pos rfl, wnr_fly]; split <;> (try split) <;> omega
    · refine need_k h hk hf hex hag 0 (nI ag - 1) _ _ h0 hagm (by first | omega | (dsimp only; omega)) (by first | omega | (dsimp only; omega)) ?_ (fun A hA => ?_)
      · unfold fX9_need fX9_need_21 fX9_need_62 fX9_need_75 fX9_need_113 fX9_need_116
        rw [hkz]; rfl
      · rw [if_neg (by first | omega | (dsimp only; omega)), wnr_fly]; split <;> (try split) <;> omega
    · refine need_k h hk hf hex hag (nI ag) (nI ag) _ _ hagI hagI (by first | omega | (dsimp only; omega)) (by first | omega | (dsimp only; omega)) ?_ (fun A hA => ?_)
      · unfold fX9_need fX9_need_21
        rw [hkz]; rfl
      · rw [if_pos rfl, wnr_fly]; split <;> (try split) <;> omega
    · refine need_k h hk hf hex hag (nI ag) (nI ag) _ _ hagI hagI (by first | omega | (dsimp only; omega)) (by first | omega | (dsimp only; omega)) ?_ (fun A hA => ?_)
      · unfold fX9_need fX9_need_21
        rw [hkz]; rfl
      · rw [if_neg (by first | omega | (dsimp only; omega)), wnr_fly]; split <;> (try split) <;> omega
  have hp : k = 0 ∨ k = 3 ∨ k = 4 := by omega
  rcases (by omega : e = 0 ∨ e = 1 ∨ e = 2) with rfl | rfl | rfl <;> rcases (by omega : s = 0 ∨ s = 1) with rfl | rfl
  · refine need_k h hk hf hex hag (nI ag + 1) 1000000 _ _ hag1 hM (by first | omega | (dsimp only; omega)) (by first | omega | (dsimp only; omega)) ?_ (fun A hA => ?_)
    · unfold fX9_need fX9_need_21 fX9_need_62 fX9_need_75 fX9_need_91 fX9_need_94
      rcases hp with rfl | rfl | rfl <;> (rw [hkz]; rfl)
    · rw [if_pos rfl, wnr_pl hp]; split <;> (try split) <;> omega
  · refine need_k h hk hf hex hag 0 (nI ag - 1) _ _ h0 hagm (by first | omega | (dsimp only; omega)) (by first | omega | (dsimp only; omega)) ?_ (fun A hA => ?_)
    · unfold fX9_need fX9_need_21 fX9_need_62 fX9_need_75 fX9_need_113 fX9_need_116
      rcases hp with rfl | rfl | rfl <;> (rw [hkz]; rfl)
    · rw [if_neg (by first | omega | (dsimp only; omega)), wnr_pl hp]; split <;> (try split) <;> omega
  · refine need_k h hk hf hex hag 0 (nI ag - 1) _ _ h0 hagm (by first | omega | (dsimp only; omega)) (by first | omega | (dsimp only; omega)) ?_ (fun A hA => ?_)
    · unfold fX9_need fX9_need_21 fX9_need_62 fX9_need_75 fX9_need_113 fX9_need_116
      rcases hp with rfl | rfl | rfl <;> (rw [hkz]; rfl)
    · rw [if_pos rfl, wnr_pl hp]; split <;> (try split) <;> omega
  · refine need_k h hk hf hex hag (nI ag + 1) 1000000 _ _ hag1 hM (by first | omega | (dsimp only; omega)) (by first | omega | (dsimp only; omega)) ?_ (fun A hA => ?_)
    · unfold fX9_need fX9_need_21 fX9_need_62 fX9_need_75 fX9_need_91 fX9_need_94
      rcases hp with rfl | rfl | rfl <;> (rw [hkz]; rfl)
    · rw [if_neg (by first | omega | (dsimp only; omega)), wnr_pl hp]; split <;> (try split) <;> omega
  · refine need_k h hk hf hex hag (nI ag) (nI ag) _ _ hagI hagI (by first | omega | (dsimp only; omega)) (by first | omega | (dsimp only; omega)) ?_ (fun A hA => ?_)
    · unfold fX9_need fX9_need_21
      rcases hp with rfl | rfl | rfl <;> (rw [hkz]; rfl)
    · rw [if_pos rfl, wnr_pl hp]; split <;> (try split) <;> omega
  · refine need_k h hk hf hex hag (nI ag) (nI ag) _ _ hagI hagI (by first | omega | (dsimp only; omega)) (by first | omega | (dsimp only; omega)) ?_ (fun A hA => ?_)
    · unfold fX9_need fX9_need_21
      rcases hp with rfl | rfl | rfl <;> (rw [hkz]; rfl)
    · rw [if_neg (by first | omega | (dsimp only; omega)), wnr_pl hp]; split <;> (try split) <;> omega

/-! picked out of 57.leaves -/
/-- an answer told as the first number, or as none -/
def oV (m : Int32) (o : Option Nat) : Int32 := match o with
  | none => m
  | some v => nI v
theorem wst_x {K F : Nat → Nat} {d s i x : Nat} {w z : Nat → Nat} (hs : s ≤ 1) : wst K F d w i (if s = 0 then x else z i) (if s = 0 then z i else x) = (if s = 0 then wnr (K i) (wtN K F d w i s x) (wtN K F d w i (1 - s) (z i)) else wnr (K i) (wtN K F d w i (1 - s) (z i)) (wtN K F d w i s x)) := by
  rcases (by omega : s = 0 ∨ s = 1) with rfl | rfl
  · rfl
  · rfl
section Nd
variable {N n d : Nat} {K W F w z : Nat → Nat} {mm : Mm}
/-- the class' need of a suit, held against the first number that does it -/
theorem cneed_e {p s i e : Nat} (C : CS mm n K W F) (hd9 : d ≤ 9) (hi : i < n) (hs : s ≤ 1) (he : e ≤ 2) (hp : ln p = 6) (hw : K i = 5 → rd mm p (F i) = nI (w (F i)) ∧ w (F i) ≤ 2) (hz : z i ≤ 1000) : ∃ R, fX0_need N 3 (nI i) (nI s) (nI e) (nI (z i)) (nI d) p mm = some (R, mm) ∧ ((R = -9 ∧ nd K F d w z s i e = none) ∨ ∃ y : Nat, y ≤ 300000 ∧ R = nI y ∧ nd K F d w z s i e = if y ≤ 40 then some y else none) := by
  have hn := C.2.1
  obtain ⟨u, k1, k2, k3, k4, k5, k6, k7⟩ := C.2.2 i hi
  have hfd : F i * d ≤ 81 := Nat.le_trans (Nat.mul_le_mul k4 hd9) (by first | omega | (dsimp only; omega))
  -- flags
  have hex : ∀ b, exN (K i) (F i) d b ≤ 1000 := fun b => by unfold exN; split <;> (try split) <;> omega
  obtain ⟨b0, hb0, hb0'⟩ : ∃ b : Nat, b = (if ahN (K i) (F i) w = s then 1 else 0) ∧ b ≤ 1 := ⟨_, rfl, by split <;> omega⟩
  obtain ⟨b1, hb1, hb1'⟩ : ∃ b : Nat, b = (if ahN (K i) (F i) w = 1 - s then 1 else 0) ∧ b ≤ 1 := ⟨_, rfl, by split <;> omega⟩
  have hag : wtN K F d w i (1 - s) (z i) ≤ 200000 := wgt_b k4 hd9 (by split <;> omega) (by first | omega | (dsimp only; omega))
  have hah2 : ahN (K i) (F i) w ≤ 2 := by
    unfold ahN
    by_cases h5 : K i = 5
    · rw [if_pos h5]; exact (hw h5).2
    · rw [if_neg h5]; omega
  obtain ⟨R, r1, r2⟩ := need_z (N := N) (s := s) (e := e) (ag := wtN K F d w i (1 - s) (z i)) (ex := exN (K i) (F i) d b0) u k1 k4 hs he (hex _) hag
  refine ⟨R, ?_, ?_⟩
  · unfold fX0_need
    refine st_b (suitOf_t C hi) (st_c (st_b (ahead_e (wf := w) u k1 (fun q => by have := k6 q; omega) hp (fun q => (hw q).1)) ?_))
    have h74 : fX0_need_74 N (17 + i) (nI s) (nI e) (nI (wtN K F d w i (1 - s) (z i))) (17 + i) (nI d) (nI b0) mm = some (R, mm) := by
      unfold fX0_need_74
      exact st_b (extra_e u k1 hb0') (st_b r1 rfl)
    have h45 : fX0_need_45 N (nI s) (nI e) (nI d) (17 + i) (nI (ahN (K i) (F i) w)) (17 + i) (nI (z i)) (17 + i) (nI d) (nI b1) mm = some (R, mm) := by
      unfold fX0_need_45
      refine st_b (extra_e u k1 hb1') (st_b (weight_e u k1 k4 (by first | omega | (dsimp only; omega))) ?_)
      rw [wgt_bo k1 (by first | omega | (dsimp only; omega)) hb1]
      by_cases ha : ahN (K i) (F i) w = s
      · refine st_t (by rw [ha]) ?_
        have : b0 = 1 := by rw [hb0, if_pos ha]
        rw [this] at h74
        exact h74
      · refine st_f (fun q => ha (nI_inj q (by first | omega | (dsimp only; omega)) (by first | omega | (dsimp only; omega)))) ?_
        have : b0 = 0 := by rw [hb0, if_neg ha]
        rw [this] at h74
        exact h74
    have hsub : (1 : Int32) - nI s = nI (1 - s) := by rw [show (1 : Int32) = nI 1 from rfl, nI_sub hs]
    rw [hsub]
    by_cases ha : ahN (K i) (F i) w = 1 - s
    · refine st_t (by rw [ha]) ?_
      have : b1 = 1 := by rw [hb1, if_pos ha]
      rw [this] at h45
      exact h45
    · refine st_f (fun q => ha (nI_inj q (by first | omega | (dsimp only; omega)) (by first | omega | (dsimp only; omega)))) ?_
      have : b1 = 0 := by rw [hb1, if_neg ha]
      rw [this] at h45
      exact h45
  · have heq : ∀ x, (wnx (K i) s (lsN (K i) (F i)) (exN (K i) (F i) d b0) (wtN K F d w i (1 - s) (z i)) x = e) ↔ ndB K F d w z s i e x = true := fun x => by
      have hwt : wtZ (lsN (K i) (F i)) (exN (K i) (F i) d b0) x = wtN K F d w i s x := wgt_bo k1 hs hb0
      unfold wnx ndB
      rw [hwt, wst_x hs, decide_eq_true_eq]
    rcases r2 with ⟨q1, q2⟩ | ⟨y, q1, q2, q3, q4⟩
    · refine Or.inl ⟨q1, ?_⟩
      cases hx : nd K F d w z s i e with
      | none => rfl
      | some v =>
        obtain ⟨-, v2, v3, -⟩ := fnd_some 41 0 v hx
        exact absurd ((heq v).mpr v3) (q2 v (by first | omega | (dsimp only; omega)))
    · refine Or.inr ⟨y, q1, q2, ?_⟩
      by_cases hy : y ≤ 40
      · rw [if_pos hy]
        exact fnd_of ((heq y).mp q3) (by first | omega | (dsimp only; omega)) (fun t ht => by
          cases hb : ndB K F d w z s i e t with
          | false => rfl
          | true => exact absurd ((heq t).mpr hb) (q4 t ht))
      · rw [if_neg hy]
        cases hx : nd K F d w z s i e with
        | none => rfl
        | some v =>
          obtain ⟨-, v2, v3, -⟩ := fnd_some 41 0 v hx
          exact absurd ((heq v).mpr v3) (q4 v (by first | omega | (dsimp only; omega)))
end Nd
theorem nd_40 {K F : Nat → Nat} {d s i e y : Nat} {w z : Nat → Nat} (h : nd K F d w z s i e = some y) : y ≤ 40 := by
  obtain ⟨-, h2, -, -⟩ := fnd_some 41 0 y h
  omega
/-- where no sheets are laid, the suit ends somehow -/
theorem nd_0 {K F : Nat → Nat} {d s i : Nat} {w z : Nat → Nat} : nd K F d w z s i (wst K F d w i (if s = 0 then 0 else z i) (if s = 0 then z i else 0)) = some 0 :=
  fnd_of (by unfold ndB; rw [decide_eq_true_eq]) (by first | omega | (dsimp only; omega)) (fun t ht => by omega)
def lvC {X : Type} (f : Nat → List X) : Nat → Nat → List X
  | 0, _ => []
  | c + 1, e => f e ++ lvC f c (e + 1)
/-- score, sheets, laying -/
abbrev Lf : Type := Nat × Nat × (Nat → Nat)
/-- all ways in which the suits from i on may end, each by the fewest sheets of side s, at most L in all -/
def lvs (K W F : Nat → Nat) (d : Nat) (z : Nat → Nat) (s L : Nat) : Nat → Nat → (Nat → Nat) → (Nat → Nat) → Nat → Nat → List Lf
  | 0 => fun _ _ l sc sh => [(sc, sh, l)]
  | r + 1 => fun i w l sc sh => lvC (fun e => match nd K F d w z s i e with
    | none => []
    | some x => if sh + x ≤ L then lvs K W F d z s L r (i + 1) (up w i e) (up l i x) (sc + pts (W i) 0 e) (sh + x) else []) 3 0
/-- whether a laying comes first -/
def lexL (l b : Nat → Nat) : Nat → Nat → Bool
  | 0, _ => false
  | c + 1, i => if l i = b i then lexL l b c (i + 1) else decide (l i < b i)
def btr (n : Nat) (x y : Lf) : Bool := decide (y.1 < x.1) || (decide (x.1 = y.1) && (decide (x.2.1 < y.2.1) || (decide (x.2.1 = y.2.1) && lexL x.2.2 y.2.2 n 0)))
def bst (n : Nat) (b : Option Lf) (x : Lf) : Option Lf := match b with
  | none => some x
  | some y => if btr n x y = true then some x else some y
def omx (a : Option Nat) (v : Nat) : Option Nat := match a with
  | none => some v
  | some u => some (if u < v then v else u)
def gst (G : Nat → Option Nat) (x : Lf) : Nat → Option Nat := fun u => if u = x.2.1 then omx (G u) x.1 else G u

/-! picked out of 58.search -/
/-- what a search has found: the best leaf b, the greatest score G by sheets -/
def SR (mm : Mm) (n : Nat) (b : Option Lf) (G : Nat → Option Nat) : Prop := (∀ u, u ≤ 240 → rd mm 37 u = oV (-1) (G u) ∧ ∀ v, G u = some v → v ≤ 108) ∧ (∀ j, n ≤ j → j < 6 → rd mm 36 j = 0) ∧ (∀ y, b = some y → rd mm 35 1 = nI y.1 ∧ rd mm 35 2 = nI y.2.1 ∧ HA mm 36 n y.2.2 ∧ y.1 ≤ 108 ∧ y.2.1 ≤ 240 ∧ ∀ j, j < n → y.2.2 j ≤ 40) ∧ (b = none → rd mm 35 1 = -1)
theorem SR.c {mm m2 : Mm} {n : Nat} {b : Option Lf} {G : Nat → Option Nat} (h : SR mm n b G) (e : ∀ k j, (k = 35 ∧ (j = 1 ∨ j = 2)) ∨ k = 36 ∨ k = 37 → rd m2 k j = rd mm k j) : SR m2 n b G := by
  obtain ⟨h1, h2, h3, h4⟩ := h
  refine ⟨fun u hu => by rw [e _ _ (by first | omega | (dsimp only; omega))]; exact h1 u hu, fun j a b => by rw [e _ _ (by first | omega | (dsimp only; omega))]; exact h2 j a b, fun y hy => ?_, fun hb => by rw [e _ _ (by first | omega | (dsimp only; omega))]; exact h4 hb⟩
  obtain ⟨a1, a2, a3, a4⟩ := h3 y hy
  exact ⟨by rw [e _ _ (by first | omega | (dsimp only; omega))]; exact a1, by rw [e _ _ (by first | omega | (dsimp only; omega))]; exact a2, a3.c (fun i hi => e _ _ (by first | omega | (dsimp only; omega))), a4⟩
section Cs
variable {N n : Nat}
theorem earl_l {mm : Mm} {l v : Nat → Nat} (hn6 : n ≤ 6) (h1 : HA mm 39 n l) (h2 : HA mm 36 n v) (h3 : ∀ j, n ≤ j → j < 6 → rd mm 39 j = 0) (h4 : ∀ j, n ≤ j → j < 6 → rd mm 36 j = 0) (hl : ∀ j, j < n → l j ≤ 40) (hv : ∀ j, j < n → v j ≤ 40) : ∀ c i, i + c = 6 → ∀ f, c < f → fX8_isEarlier_2 N f 35 (nI i) mm = some (if lexL l v (n - i) i = true then 1 else 0, mm) := by
  intro c
  induction c with
  | zero =>
    intro i hi f hf
    obtain ⟨f, rfl⟩ : ∃ g, f = g + 1 := ⟨f - 1, by omega⟩
    have : n - i = 0 := by omega
    rw [this]
    unfold fX8_isEarlier_2
    exact st_t (nI_le (by first | omega | (dsimp only; omega)) (by first | omega | (dsimp only; omega))) rfl
  | succ c ih =>
    intro i hi f hf
    obtain ⟨f, rfl⟩ : ∃ g, f = g + 1 := ⟨f - 1, by omega⟩
    have ih2 := ih (i + 1) (by first | omega | (dsimp only; omega)) f (by first | omega | (dsimp only; omega))
    unfold fX8_isEarlier_2
    simp only [LXb, nI_nat (show i < 2147483648 by omega), nI_1]
    refine st_f (nI_ge (by first | omega | (dsimp only; omega)) (by first | omega | (dsimp only; omega))) (st_k rfl (by first | omega | (dsimp only; omega)) (by first | omega | (dsimp only; omega)) (st_k rfl (by first | omega | (dsimp only; omega)) (by first | omega | (dsimp only; omega)) ?_))
    by_cases hin : i < n
    · rw [h1 i hin, h2 i hin]
      have e1 : n - i = (n - (i + 1)) + 1 := by omega
      have := hl i hin
      have := hv i hin
      rw [e1]
      unfold lexL
      by_cases hq : l i = v i
      · rw [if_pos hq]
        exact st_t (by rw [hq]) ih2
      · rw [if_neg hq]
        refine st_f (fun q => hq (nI_inj q (by first | omega | (dsimp only; omega)) (by first | omega | (dsimp only; omega)))) (st_k rfl (by first | omega | (dsimp only; omega)) (by first | omega | (dsimp only; omega)) (st_k rfl (by first | omega | (dsimp only; omega)) (by first | omega | (dsimp only; omega)) ?_))
        by_cases hlt : v i ≤ l i
        · rw [if_neg (show ¬ decide (l i < v i) = true by rw [decide_eq_true_eq]; omega)]
          exact st_t (nI_le hlt (by first | omega | (dsimp only; omega))) rfl
        · rw [if_pos (show decide (l i < v i) = true by rw [decide_eq_true_eq]; omega)]
          exact st_f (nI_ge (by first | omega | (dsimp only; omega)) (by first | omega | (dsimp only; omega))) rfl
    · rw [h3 i (by first | omega | (dsimp only; omega)) (by first | omega | (dsimp only; omega)), h4 i (by first | omega | (dsimp only; omega)) (by first | omega | (dsimp only; omega))]
      have e1 : n - i = 0 := by omega
      have e2 : n - (i + 1) = 0 := by omega
      rw [e2] at ih2
      rw [e1]
      exact st_t rfl ih2
theorem earl_e {mm : Mm} {l v : Nat → Nat} (hN : 100000 ≤ N) (hn6 : n ≤ 6) (h1 : HA mm 39 n l) (h2 : HA mm 36 n v) (h3 : ∀ j, n ≤ j → j < 6 → rd mm 39 j = 0) (h4 : ∀ j, n ≤ j → j < 6 → rd mm 36 j = 0) (hl : ∀ j, j < n → l j ≤ 40) (hv : ∀ j, j < n → v j ≤ 40) : fX8_isEarlier N 35 mm = some (if lexL l v n 0 = true then 1 else 0, mm) :=
  earl_l hn6 h1 h2 h3 h4 hl hv 6 0 (by first | omega | (dsimp only; omega)) N (by first | omega | (dsimp only; omega))
theorem close_e {mm : Mm} {b : Option Lf} {G : Nat → Option Nat} {l : Nat → Nat} {sc sh : Nat} (hN : 100000 ≤ N) (hn6 : n ≤ 6) (hS : SR mm n b G) (hL : HA mm 39 n l) (h3 : ∀ j, n ≤ j → j < 6 → rd mm 39 j = 0) (hl : ∀ j, j < n → l j ≤ 40) (hsc : sc ≤ 108) (hsh : sh ≤ 240) : ∃ m', fX8_close N 35 (nI sh) (nI sc) mm = some ((), m') ∧ Fr (fun k j => (k = 35 ∧ (j = 1 ∨ j = 2)) ∨ k = 36 ∨ k = 37) mm m' ∧ SR m' n (bst n b (sc, sh, l)) (gst G (sc, sh, l)) := by
  obtain ⟨s1, s2, s3, s4⟩ := hS
  -- what close_69 leaves
  have h69 : ∀ (m1 : Mm), (∀ j, j < 6 → rd m1 39 j = rd mm 39 j) → ∃ m', fX8_close_69 N 35 (nI sh) (nI sc) m1 = some ((), m') ∧ Fr (fun k j => (k = 35 ∧ (j = 1 ∨ j = 2)) ∨ k = 36) m1 m' ∧ rd m' 35 1 = nI sc ∧ rd m' 35 2 = nI sh ∧ HA m' 36 n l ∧ ∀ j, n ≤ j → j < 6 → rd m' 36 j = 0 := by
    intro m1 e
    refine ⟨cpy (wr (wr m1 35 1 (nI sc)) 35 2 (nI sh)) 39 36 0 0 6, ?_, fr_cpy (fr_wr (fr_wr Fr.rf (by first | omega | (dsimp only; omega))) (by first | omega | (dsimp only; omega))) (fun j => by omega), ?_, ?_, fun i hi => ?_, fun j a c => ?_⟩
    · unfold fX8_close_69
      refine st_n (st_n ?_)
      simp only [LXb]
      exact st_g (by decide) (st_n rfl)
    · rw [rd_cpy, if_neg (by first | omega | (dsimp only; omega)), rd_wr_j (by first | omega | (dsimp only; omega)), rd_wr_s]
    · rw [rd_cpy, if_neg (by first | omega | (dsimp only; omega)), rd_wr_s]
    · rw [rd_cpy, if_pos ⟨rfl, by show (0 : Nat) ≤ i; omega, by show i < 0 + 6; omega⟩]
      show rd _ 39 (0 + (i - 0)) = _
      rw [show 0 + (i - 0) = i by omega, rd_wr_k (by first | omega | (dsimp only; omega)), rd_wr_k (by first | omega | (dsimp only; omega)), e i (by first | omega | (dsimp only; omega))]
      exact hL i hi
    · rw [rd_cpy, if_pos ⟨rfl, by show (0 : Nat) ≤ j; omega, by show j < 0 + 6; omega⟩]
      show rd _ 39 (0 + (j - 0)) = _
      rw [show 0 + (j - 0) = j by omega, rd_wr_k (by first | omega | (dsimp only; omega)), rd_wr_k (by first | omega | (dsimp only; omega)), e j c]
      exact h3 j a c
  -- what close_30 leaves
  have h30 : ∀ (m1 : Mm), (∀ k j, k ≠ 37 → rd m1 k j = rd mm k j) → ∃ m', fX8_close_30 N 35 (nI sh) (nI sc) m1 = some ((), m') ∧ Fr (fun k j => (k = 35 ∧ (j = 1 ∨ j = 2)) ∨ k = 36) m1 m' ∧ (∀ j, n ≤ j → j < 6 → rd m' 36 j = 0) ∧ (∀ y, bst n b (sc, sh, l) = some y → rd m' 35 1 = nI y.1 ∧ rd m' 35 2 = nI y.2.1 ∧ HA m' 36 n y.2.2 ∧ y.1 ≤ 108 ∧ y.2.1 ≤ 240 ∧ ∀ j, j < n → y.2.2 j ≤ 40) ∧ (bst n b (sc, sh, l) = none → rd m' 35 1 = -1) := by
    intro m1 e
    obtain ⟨m', r1, r2, r3, r4, r5, r6⟩ := h69 m1 (fun j _ => e _ _ (by first | omega | (dsimp only; omega)))
    have new : ∀ y, some (sc, sh, l) = some y → rd m' 35 1 = nI y.1 ∧ rd m' 35 2 = nI y.2.1 ∧ HA m' 36 n y.2.2 ∧ y.1 ≤ 108 ∧ y.2.1 ≤ 240 ∧ ∀ j, j < n → y.2.2 j ≤ 40 := by
      intro y hy
      cases hy
      exact ⟨r3, r4, r5, hsc, hsh, hl⟩
    unfold fX8_close_30
    cases b with
    | none =>
      refine ⟨m', st_t ?_ r1, r2, r6, new, fun q => by cases q⟩
      rw [e 35 1 (by first | omega | (dsimp only; omega)), s4 rfl, i_lt, nI_toInt (by first | omega | (dsimp only; omega))]
      have : (-1 : Int32).toInt = -1 := rfl
      omega
    | some y =>
      obtain ⟨a1, a2, a3, a4, a5, a6⟩ := s3 y rfl
      have old : ∀ v, some y = some v → rd m1 35 1 = nI v.1 ∧ rd m1 35 2 = nI v.2.1 ∧ HA m1 36 n v.2.2 ∧ v.1 ≤ 108 ∧ v.2.1 ≤ 240 ∧ ∀ j, j < n → v.2.2 j ≤ 40 := by
        intro v hv
        cases hv
        exact ⟨by rw [e _ _ (by first | omega | (dsimp only; omega))]; exact a1, by rw [e _ _ (by first | omega | (dsimp only; omega))]; exact a2, a3.c (fun i hi => e _ _ (by first | omega | (dsimp only; omega))), a4, a5, a6⟩
      have old6 : ∀ j, n ≤ j → j < 6 → rd m1 36 j = 0 := fun j a c => by rw [e _ _ (by first | omega | (dsimp only; omega))]; exact s2 j a c
      have hb : bst n (some y) (sc, sh, l) = if btr n (sc, sh, l) y = true then some (sc, sh, l) else some y := rfl
      rw [hb, e 35 1 (by first | omega | (dsimp only; omega)), e 35 2 (by first | omega | (dsimp only; omega)), a1, a2]
      have hB : btr n (sc, sh, l) y = true ↔ y.1 < sc ∨ (sc = y.1 ∧ (sh < y.2.1 ∨ (sh = y.2.1 ∧ lexL l y.2.2 n 0 = true))) := by
        unfold btr
        simp only [Bool.or_eq_true, Bool.and_eq_true, decide_eq_true_eq]
      by_cases c1 : y.1 < sc
      · rw [if_pos (hB.mpr (Or.inl c1))]
        exact ⟨m', st_t (nI_lt c1 (by first | omega | (dsimp only; omega))) r1, r2, r6, new, fun q => by cases q⟩
      by_cases c2 : sc = y.1
      · by_cases c3 : sh < y.2.1
        · rw [if_pos (hB.mpr (Or.inr ⟨c2, Or.inl c3⟩))]
          exact ⟨m', st_f (nI_nlt (by first | omega | (dsimp only; omega)) (by first | omega | (dsimp only; omega))) (st_t (by rw [c2]) (st_t (nI_lt c3 (by first | omega | (dsimp only; omega))) r1)), r2, r6, new, fun q => by cases q⟩
        by_cases c4 : sh = y.2.1
        · have he := earl_e (N := N) (mm := m1) (l := l) (v := y.2.2) hN hn6 (hL.c (fun i hi => e _ _ (by first | omega | (dsimp only; omega)))) (a3.c (fun i hi => e _ _ (by first | omega | (dsimp only; omega)))) (fun j a c => by rw [e _ _ (by first | omega | (dsimp only; omega))]; exact h3 j a c) old6 hl a6
          by_cases c5 : lexL l y.2.2 n 0 = true
          · rw [if_pos (hB.mpr (Or.inr ⟨c2, Or.inr ⟨c4, c5⟩⟩))]
            rw [if_pos c5] at he
            exact ⟨m', st_f (nI_nlt (by first | omega | (dsimp only; omega)) (by first | omega | (dsimp only; omega))) (st_t (by rw [c2]) (st_f (nI_nlt (by first | omega | (dsimp only; omega)) (by first | omega | (dsimp only; omega))) (st_t (by rw [c4]) (st_b he (st_f (by decide) r1))))), r2, r6, new, fun q => by cases q⟩
          · rw [if_neg (show ¬ btr n (sc, sh, l) y = true from fun q => by rcases hB.mp q with q | ⟨q, q' | ⟨q', q''⟩⟩ <;> first | omega | exact c5 q'')]
            rw [if_neg c5] at he
            exact ⟨m1, st_f (nI_nlt (by first | omega | (dsimp only; omega)) (by first | omega | (dsimp only; omega))) (st_t (by rw [c2]) (st_f (nI_nlt (by first | omega | (dsimp only; omega)) (by first | omega | (dsimp only; omega))) (st_t (by rw [c4]) (st_b he (st_t rfl rfl))))), Fr.rf, old6, old, fun q => by cases q⟩
        · rw [if_neg (show ¬ btr n (sc, sh, l) y = true from fun q => by rcases hB.mp q with q | ⟨q, q' | ⟨q', q''⟩⟩ <;> omega)]
          exact ⟨m1, st_f (nI_nlt (by first | omega | (dsimp only; omega)) (by first | omega | (dsimp only; omega))) (st_t (by rw [c2]) (st_f (nI_nlt (by first | omega | (dsimp only; omega)) (by first | omega | (dsimp only; omega))) (st_f (fun q => c4 (nI_inj q (by first | omega | (dsimp only; omega)) (by first | omega | (dsimp only; omega)))) rfl))), Fr.rf, old6, old, fun q => by cases q⟩
      · rw [if_neg (show ¬ btr n (sc, sh, l) y = true from fun q => by rcases hB.mp q with q | ⟨q, q' | ⟨q', q''⟩⟩ <;> omega)]
        exact ⟨m1, st_f (nI_nlt (by first | omega | (dsimp only; omega)) (by first | omega | (dsimp only; omega))) (st_f (fun q => c2 (nI_inj q (by first | omega | (dsimp only; omega)) (by first | omega | (dsimp only; omega)))) rfl), Fr.rf, old6, old, fun q => by cases q⟩
  -- greatest
  obtain ⟨g1, g2⟩ := s1 sh hsh
  have fin : ∀ m1 : Mm, Fr (fun k _ => k = 37) mm m1 → (∀ u, u ≤ 240 → rd m1 37 u = oV (-1) (gst G (sc, sh, l) u)) → fX8_close N 35 (nI sh) (nI sc) mm = fX8_close_30 N 35 (nI sh) (nI sc) m1 → ∃ m', fX8_close N 35 (nI sh) (nI sc) mm = some ((), m') ∧ Fr (fun k j => (k = 35 ∧ (j = 1 ∨ j = 2)) ∨ k = 36 ∨ k = 37) mm m' ∧ SR m' n (bst n b (sc, sh, l)) (gst G (sc, sh, l)) := by
    intro m1 f1 f2 f3
    obtain ⟨m', r1, r2, r3, r4, r5⟩ := h30 m1 (fun k j hk => f1.2 _ _ hk)
    refine ⟨m', f3.trans r1, (f1.mono (fun k j e => by omega)).tr (r2.mono (fun k j e => by omega)), fun u hu => ⟨?_, fun v hv => ?_⟩, r3, r4, r5⟩
    · rw [r2.2 _ _ (by first | omega | (dsimp only; omega))]; exact f2 u hu
    · unfold gst at hv
      by_cases hus : u = sh
      · rw [if_pos hus] at hv
        unfold omx at hv
        cases hG : G u with
        | none => rw [hG] at hv; cases hv; exact hsc
        | some q =>
          rw [hG] at hv
          have := (s1 u hu).2 q hG
          cases hv
          show (if q < sc then sc else q) ≤ 108
          split <;> omega
      · rw [if_neg hus] at hv; exact (s1 u hu).2 v hv
  have hcl : ∀ m1, (if nI sc ≤ rd mm 37 sh then fX8_close_30 N 35 (nI sh) (nI sc) mm else (gd (inb (nI sh) 241) <| nm (wr mm 37 sh (nI sc)) fun m18 => fX8_close_30 N 35 (nI sh) (nI sc) m18)) = fX8_close_30 N 35 (nI sh) (nI sc) m1 → fX8_close N 35 (nI sh) (nI sc) mm = fX8_close_30 N 35 (nI sh) (nI sc) m1 := by
    intro m1 e
    unfold fX8_close
    simp only [LXb, nI_nat (show sh < 2147483648 by omega)]
    exact st_f (nI_pos (by first | omega | (dsimp only; omega))) (st_f (nI_ge (b := 241) (by first | omega | (dsimp only; omega)) (by first | omega | (dsimp only; omega))) (st_k rfl (by first | omega | (dsimp only; omega)) (by first | omega | (dsimp only; omega)) e))
  by_cases hc : nI sc ≤ rd mm 37 sh
  · refine fin mm Fr.rf (fun u hu => ?_) (hcl mm (st_t hc rfl))
    rw [(s1 u hu).1]
    by_cases hus : u = sh
    · subst hus
      unfold gst
      rw [if_pos rfl]
      cases hG : G u with
      | none =>
        rw [g1, hG] at hc
        rw [i_le, nI_toInt (by first | omega | (dsimp only; omega))] at hc
        have : (oV (-1) none).toInt = -1 := rfl
        omega
      | some q =>
        have hq := g2 q hG
        rw [g1, hG] at hc
        have hc' : nI sc ≤ nI q := hc
        rw [i_le, nI_toInt (by first | omega | (dsimp only; omega)), nI_toInt (by first | omega | (dsimp only; omega))] at hc'
        show nI q = nI (if q < sc then sc else q)
        rw [if_neg (by first | omega | (dsimp only; omega))]
    · unfold gst; rw [if_neg hus]
  · refine fin (wr mm 37 sh (nI sc)) (fr_wr Fr.rf rfl) (fun u hu => ?_) (hcl _ (st_f hc (st_k rfl (by first | omega | (dsimp only; omega)) (by first | omega | (dsimp only; omega)) (st_n rfl))))
    by_cases hus : u = sh
    · subst hus
      rw [rd_wr_s]
      unfold gst
      rw [if_pos rfl]
      cases hG : G u with
      | none => rfl
      | some q =>
        have hq := g2 q hG
        rw [g1, hG] at hc
        have hc' : ¬ nI sc ≤ nI q := hc
        rw [i_le, nI_toInt (by first | omega | (dsimp only; omega)), nI_toInt (by first | omega | (dsimp only; omega))] at hc'
        show nI sc = nI (if q < sc then sc else q)
        rw [if_pos (by first | omega | (dsimp only; omega))]
    · rw [rd_wr_j hus, (s1 u hu).1]
      unfold gst; rw [if_neg hus]
end Cs
section Br
variable {N n d q Q L : Nat} {K W F z : Nat → Nat}
/-- what stands while the class searches, the suits ahead of i being fixed -/
def BI (mm : Mm) (n d q L i : Nat) (K W F z w l : Nat → Nat) : Prop := CS mm n K W F ∧ rd mm 35 7 = nI d ∧ rd mm 35 6 = nI L ∧ HA mm q n z ∧ HA mm 38 i w ∧ HA mm 39 i l ∧ (∀ j, n ≤ j → j < 6 → rd mm 39 j = 0) ∧ (∀ j, j < i → w j ≤ 2 ∧ l j ≤ 40)
theorem BI.c {mm m2 : Mm} {i : Nat} {w l : Nat → Nat} (h : BI mm n d q L i K W F z w l) (hq : q < 35 ∨ 39 < q) (hi : i ≤ n) (f : Fr (fun k j => (k = 35 ∧ (j = 1 ∨ j = 2)) ∨ k = 36 ∨ k = 37 ∨ ((k = 38 ∨ k = 39) ∧ i ≤ j ∧ j < n)) mm m2) : BI m2 n d q L i K W F z w l := by
  obtain ⟨h1, h2, h3, h4, h5, h6, h7, h8⟩ := h
  exact ⟨CS_c h1 (fun k j e => f.2 _ _ (by first | omega | (dsimp only; omega))), by rw [f.2 _ _ (by first | omega | (dsimp only; omega))]; exact h2, by rw [f.2 _ _ (by first | omega | (dsimp only; omega))]; exact h3, h4.c (fun j hj => f.2 _ _ (by first | omega | (dsimp only; omega))), h5.c (fun j hj => f.2 _ _ (by first | omega | (dsimp only; omega))), h6.c (fun j hj => f.2 _ _ (by first | omega | (dsimp only; omega))), fun j a b => by rw [f.2 _ _ (by first | omega | (dsimp only; omega))]; exact h7 j a b, h8⟩
theorem branch_l (hN : 100000 ≤ N) (hd9 : d ≤ 9) (hL : L ≤ 240) (hQ : ln q = Q) (hQ6 : 6 ≤ Q ∧ Q ≤ 1000) (hq : q < 35 ∨ 39 < q) (hz : ∀ i, i < n → z i ≤ 1000) (hn6 : n ≤ 6) : ∀ r i w l sc sh mm b G D, i + r = n → r < D → BI mm n d q L i K W F z w l → SR mm n b G → sc ≤ 18 * i → sh ≤ 240 → ∃ m', fX8_branch N D 35 3 q (nI i) (nI sh) (nI sc) mm = some ((), m') ∧ Fr (fun k j => (k = 35 ∧ (j = 1 ∨ j = 2)) ∨ k = 36 ∨ k = 37 ∨ ((k = 38 ∨ k = 39) ∧ i ≤ j ∧ j < n)) mm m' ∧ SR m' n ((lvs K W F d z 0 L r i w l sc sh).foldl (bst n) b) ((lvs K W F d z 0 L r i w l sc sh).foldl gst G) := by
  intro r
  induction r with
  | zero =>
    intro i w l sc sh mm b G D hi hD hB hS hsc hsh
    obtain ⟨D, rfl⟩ : ∃ g, D = g + 1 := ⟨D - 1, by omega⟩
    obtain rfl : i = n := by omega
    obtain ⟨h1, h2, h3, h4, h5, h6, h7, h8⟩ := hB
    obtain ⟨m', c1, c2, c3⟩ := close_e (N := N) (l := l) (sc := sc) (sh := sh) hN hn6 hS h6 h7 (fun j hj => (h8 j hj).2) (by first | omega | (dsimp only; omega)) hsh
    refine ⟨m', ?_, c2.mono (fun k j e => by omega), c3⟩
    unfold fX8_branch fX8_branch_0 fX8_branch_24
    exact st_b (suitOf_e h1) (st_c0 (st_b c1 rfl))
  | succ r ih =>
    intro i w l sc sh mm b G D hi hD hB hS hsc hsh
    obtain ⟨D, rfl⟩ : ∃ g, D = g + 1 := ⟨D - 1, by omega⟩
    have hin : i < n := by omega
    -- the loop over the ends
    have loop : ∀ c e mm b G, e + c = 3 → BI mm n d q L i K W F z w l → SR mm n b G → ∀ f, c < f → ∃ m', fX8_branch_36 N (fX8_branch N D) f 35 3 q (nI i) (nI sh) (nI sc) (17 + i) (nI e) mm = some ((), m') ∧ Fr (fun k j => (k = 35 ∧ (j = 1 ∨ j = 2)) ∨ k = 36 ∨ k = 37 ∨ ((k = 38 ∨ k = 39) ∧ i ≤ j ∧ j < n)) mm m' ∧ SR m' n ((lvC (fun e => match nd K F d w z 0 i e with
        | none => []
        | some x => if sh + x ≤ L then lvs K W F d z 0 L r (i + 1) (up w i e) (up l i x) (sc + pts (W i) 0 e) (sh + x) else []) c e).foldl (bst n) b) ((lvC (fun e => match nd K F d w z 0 i e with
        | none => []
        | some x => if sh + x ≤ L then lvs K W F d z 0 L r (i + 1) (up w i e) (up l i x) (sc + pts (W i) 0 e) (sh + x) else []) c e).foldl gst G) := by
      intro c
      induction c with
      | zero =>
        intro e mm b G he hB hS f hf
        obtain ⟨f, rfl⟩ : ∃ g, f = g + 1 := ⟨f - 1, by omega⟩
        refine ⟨mm, ?_, Fr.rf, hS⟩
        unfold fX8_branch_36
        exact st_t (nI_le (by first | omega | (dsimp only; omega)) (by first | omega | (dsimp only; omega))) rfl
      | succ c ihc =>
        intro e mm b G he hB hS f hf
        obtain ⟨f, rfl⟩ : ∃ g, f = g + 1 := ⟨f - 1, by omega⟩
        obtain ⟨h1, h2, h3, h4, h5, h6, h7, h8⟩ := hB
        obtain ⟨u, k1, k2, k3, k4, k5, k6, k7⟩ := h1.2.2 i hin
        obtain ⟨R, r1, r2⟩ := cneed_e (N := N) (d := d) (w := w) (z := z) (p := 38) (s := 0) (i := i) (e := e) h1 hd9 hin (by first | omega | (dsimp only; omega)) (by first | omega | (dsimp only; omega)) rfl (fun q => ⟨h5 _ (k6 q), (h8 _ (k6 q)).1⟩) (hz i hin)
        have pts18 := pts_18 (s := 0) (e := e) k3
        have hstep : ∀ rr, (if R < 0 then fX8_branch_36 N (fX8_branch N D) f 35 3 q (nI i) (nI sh) (nI sc) (17 + i) (nI (e + 1)) mm else if (40 : Int32) < R then fX8_branch_36 N (fX8_branch N D) f 35 3 q (nI i) (nI sh) (nI sc) (17 + i) (nI (e + 1)) mm else if nI L < nI sh + R then fX8_branch_36 N (fX8_branch N D) f 35 3 q (nI i) (nI sh) (nI sc) (17 + i) (nI (e + 1)) mm else bd2 (fX9_points N (17 + i) 0 (nI e) (wr (wr mm 38 i (nI e)) 39 i R)) fun x13 m14 => bd2 (fX8_branch N D 35 3 q (nI (i + 1)) (nI sh + R) (nI sc + x13) m14) fun x16 m17 => fX8_branch_36 N (fX8_branch N D) f 35 3 q (nI i) (nI sh) (nI sc) (17 + i) (nI (e + 1)) m17) = rr → fX8_branch_36 N (fX8_branch N D) (f + 1) 35 3 q (nI i) (nI sh) (nI sc) (17 + i) (nI e) mm = rr := by
          intro rr hrr
          unfold fX8_branch_36 fX8_branch_128
          simp only [LXb, nI_nat (show i < 2147483648 by omega), nI_1, h2, h4 i hin]
          refine st_f (nI_ge (by first | omega | (dsimp only; omega)) (by first | omega | (dsimp only; omega))) (st_k hQ (by first | omega | (dsimp only; omega)) (by first | omega | (dsimp only; omega)) (st_b r1 ?_))
          rw [← hrr, h3]
          by_cases c1 : R < 0
          · rw [if_pos c1, if_pos c1]
          rw [if_neg c1, if_neg c1]
          by_cases c2 : (40 : Int32) < R
          · rw [if_pos c2, if_pos c2]
          rw [if_neg c2, if_neg c2]
          by_cases c3 : nI L < nI sh + R
          · rw [if_pos c3, if_pos c3]
          rw [if_neg c3, if_neg c3]
          exact st_k rfl (by first | omega | (dsimp only; omega)) (by first | omega | (dsimp only; omega)) (st_n (st_k rfl (by first | omega | (dsimp only; omega)) (by first | omega | (dsimp only; omega)) (st_n rfl)))
        have skip : (match nd K F d w z 0 i e with
            | none => []
            | some x => if sh + x ≤ L then lvs K W F d z 0 L r (i + 1) (up w i e) (up l i x) (sc + pts (W i) 0 e) (sh + x) else []) = [] → (R < 0 ∨ (40 : Int32) < R ∨ nI L < nI sh + R) → ∃ m', fX8_branch_36 N (fX8_branch N D) (f + 1) 35 3 q (nI i) (nI sh) (nI sc) (17 + i) (nI e) mm = some ((), m') ∧ Fr (fun k j => (k = 35 ∧ (j = 1 ∨ j = 2)) ∨ k = 36 ∨ k = 37 ∨ ((k = 38 ∨ k = 39) ∧ i ≤ j ∧ j < n)) mm m' ∧ SR m' n ((lvC (fun e => match nd K F d w z 0 i e with
              | none => []
              | some x => if sh + x ≤ L then lvs K W F d z 0 L r (i + 1) (up w i e) (up l i x) (sc + pts (W i) 0 e) (sh + x) else []) (c + 1) e).foldl (bst n) b) ((lvC (fun e => match nd K F d w z 0 i e with
              | none => []
              | some x => if sh + x ≤ L then lvs K W F d z 0 L r (i + 1) (up w i e) (up l i x) (sc + pts (W i) 0 e) (sh + x) else []) (c + 1) e).foldl gst G) := by
          intro hnil hR
          obtain ⟨m', a1, a2, a3⟩ := ihc (e + 1) mm b G (by first | omega | (dsimp only; omega)) ⟨h1, h2, h3, h4, h5, h6, h7, h8⟩ hS f (by first | omega | (dsimp only; omega))
          refine ⟨m', hstep _ ?_, a2, ?_⟩
          · by_cases c1 : R < 0
            · exact st_t c1 a1
            · refine st_f c1 ?_
              by_cases c2 : (40 : Int32) < R
              · exact st_t c2 a1
              · refine st_f c2 ?_
                rcases hR with q | q | q
                · exact absurd q c1
                · exact absurd q c2
                · exact st_t q a1
          · unfold lvC
            rw [hnil]
            exact a3
        rcases r2 with ⟨q1, q2⟩ | ⟨y, qy, q1, q3⟩
        · exact skip (by rw [q2]) (Or.inl (by rw [q1]; decide))
        · by_cases hy : y ≤ 40
          · rw [if_pos hy] at q3
            by_cases hLy : sh + y ≤ L
            · -- taken
              have hup : Fr (fun k j => (k = 35 ∧ (j = 1 ∨ j = 2)) ∨ k = 36 ∨ k = 37 ∨ ((k = 38 ∨ k = 39) ∧ i ≤ j ∧ j < n)) mm (wr (wr mm 38 i (nI e)) 39 i (nI y)) := fr_wr (fr_wr Fr.rf (by first | omega | (dsimp only; omega))) (by first | omega | (dsimp only; omega))
              have hB0 : BI mm n d q L i K W F z w l := ⟨h1, h2, h3, h4, h5, h6, h7, h8⟩
              obtain ⟨p1, p2, p3, p4, p5, p6, p7, p8⟩ := hB0.c hq (by first | omega | (dsimp only; omega)) hup
              have hB1 : BI (wr (wr mm 38 i (nI e)) 39 i (nI y)) n d q L (i + 1) K W F z (up w i e) (up l i y) := by
                refine ⟨p1, p2, p3, p4, fun j hj => ?_, fun j hj => ?_, p7, fun j hj => ?_⟩
                · by_cases hji : j = i
                  · subst hji; rw [up_s, rd_wr_k (by first | omega | (dsimp only; omega)), rd_wr_s]
                  · rw [up_o hji]; exact p5 j (by first | omega | (dsimp only; omega))
                · by_cases hji : j = i
                  · subst hji; rw [up_s, rd_wr_s]
                  · rw [up_o hji]; exact p6 j (by first | omega | (dsimp only; omega))
                · by_cases hji : j = i
                  · subst hji; rw [up_s, up_s]; omega
                  · rw [up_o hji, up_o hji]; exact h8 j (by first | omega | (dsimp only; omega))
              obtain ⟨m1, a1, a2, a3⟩ := ih (i + 1) (up w i e) (up l i y) (sc + pts (W i) 0 e) (sh + y) _ b G D (by first | omega | (dsimp only; omega)) (by first | omega | (dsimp only; omega)) hB1 (hS.c (fun k j e => by rw [rd_wr, if_neg (by first | omega | (dsimp only; omega)), rd_wr, if_neg (by first | omega | (dsimp only; omega))])) (by first | omega | (dsimp only; omega)) (by first | omega | (dsimp only; omega))
              have hfr1 : Fr (fun k j => (k = 35 ∧ (j = 1 ∨ j = 2)) ∨ k = 36 ∨ k = 37 ∨ ((k = 38 ∨ k = 39) ∧ i ≤ j ∧ j < n)) mm m1 := hup.tr (a2.mono (fun k j e => by omega))
              obtain ⟨m2, b1, b2, b3⟩ := ihc (e + 1) m1 _ _ (by first | omega | (dsimp only; omega)) (hB0.c hq (by first | omega | (dsimp only; omega)) hfr1) a3 f (by first | omega | (dsimp only; omega))
              refine ⟨m2, hstep _ ?_, hfr1.tr b2, ?_⟩
              · rw [q1, nI_add]
                refine st_f (nI_pos (by first | omega | (dsimp only; omega))) (st_f (nI_nlt (by first | omega | (dsimp only; omega)) (by first | omega | (dsimp only; omega))) (st_f (nI_nlt (by first | omega | (dsimp only; omega)) (by first | omega | (dsimp only; omega))) ?_))
                have u2 : SU (wr (wr mm 38 i (nI e)) 39 i (nI y)) (17 + i) (K i) (W i) (F i) := (p1.2.2 i hin).1
                refine st_b (points_e (s := 0) u2 (by first | omega | (dsimp only; omega)) (by first | omega | (dsimp only; omega))) ?_
                rw [nI_add]
                exact st_b a1 b1
              · unfold lvC
                rw [List.foldl_append, List.foldl_append]
                simp only [q3, if_pos hLy]
                exact b3
            · refine skip (by rw [q3]; exact if_neg hLy) (Or.inr (Or.inr ?_))
              rw [q1, nI_add]
              exact nI_lt (by first | omega | (dsimp only; omega)) (by first | omega | (dsimp only; omega))
          · rw [if_neg hy] at q3
            refine skip (by rw [q3]) (Or.inr (Or.inl ?_))
            rw [q1]
            exact nI_lt (by first | omega | (dsimp only; omega)) (by first | omega | (dsimp only; omega))
    obtain ⟨m', l1, l2, l3⟩ := loop 3 0 mm b G (by first | omega | (dsimp only; omega)) hB hS N (by first | omega | (dsimp only; omega))
    refine ⟨m', ?_, l2, l3⟩
    unfold fX8_branch fX8_branch_0
    refine st_b (suitOf_t hB.1 hin) (st_c (st_f (nI_ge (by first | omega | (dsimp only; omega)) (by first | omega | (dsimp only; omega))) (st_t ?_ l1)))
    rw [hQ]
    exact nI_lt (by first | omega | (dsimp only; omega)) (by first | omega | (dsimp only; omega))
/-- the class' run of a search -/
theorem run_e {mm : Mm} {most : Nat} (hN : 100000 ≤ N) (hd9 : d ≤ 9) (hm : most ≤ 240) (hQ : ln q = Q) (hQ6 : 6 ≤ Q ∧ Q ≤ 1000) (hq : q < 35 ∨ 39 < q) (hz : ∀ i, i < n → z i ≤ 1000) (C : CS mm n K W F) (hZ : HA mm q n z) : ∃ m', fX8_run N 35 3 (nI d) q (nI most) mm = some ((), m') ∧ Fr (fun k j => 35 ≤ k ∧ k ≤ 39) mm m' ∧ SR m' n ((lvs K W F d z 0 most n 0 (fun _ => 0) (fun _ => 0) 0 0).foldl (bst n) none) ((lvs K W F d z 0 most n 0 (fun _ => 0) (fun _ => 0) 0 0).foldl gst (fun _ => none)) := by
  have hn6 := C.2.1
  obtain ⟨ma, a1, a2, a3⟩ := fill_ok (N := N) (k := 37) (v := -1) (mm := wr (wr (wr (wr mm 35 7 (nI d)) 35 6 (nI most)) 35 1 (-1)) 35 2 0) hN rfl (by decide)
  obtain ⟨mb, b1, b2, b3⟩ := fill_ok (N := N) (k := 36) (v := 0) (mm := ma) hN rfl (by decide)
  obtain ⟨mc, c1, c2, c3⟩ := fill_ok (N := N) (k := 39) (v := 0) (mm := mb) hN rfl (by decide)
  have f0 : Fr (fun k j => 35 ≤ k ∧ k ≤ 39) mm mc := (fr_wr (fr_wr (fr_wr (fr_wr Fr.rf (by first | omega | (dsimp only; omega))) (by first | omega | (dsimp only; omega))) (by first | omega | (dsimp only; omega))) (by first | omega | (dsimp only; omega))).tr ((a2.mono (fun k j e => by omega)).tr ((b2.mono (fun k j e => by omega)).tr (c2.mono (fun k j e => by omega))))
  have r35 : ∀ j, rd mc 35 j = rd (wr (wr (wr (wr mm 35 7 (nI d)) 35 6 (nI most)) 35 1 (-1)) 35 2 0) 35 j := fun j => by rw [c2.2 _ _ (by first | omega | (dsimp only; omega)), b2.2 _ _ (by first | omega | (dsimp only; omega)), a2.2 _ _ (by first | omega | (dsimp only; omega))]
  have hB : BI mc n d q most 0 K W F z (fun _ => 0) (fun _ => 0) := by
    refine ⟨CS_c C (fun k j e => f0.2 _ _ (by first | omega | (dsimp only; omega))), ?_, ?_, hZ.c (fun j hj => f0.2 _ _ (by first | omega | (dsimp only; omega))), fun j hj => by omega, fun j hj => by omega, fun j a b => c3 j b, fun j hj => by omega⟩
    · rw [r35, rd_wr_j (by first | omega | (dsimp only; omega)), rd_wr_j (by first | omega | (dsimp only; omega)), rd_wr_j (by first | omega | (dsimp only; omega)), rd_wr_s]
    · rw [r35, rd_wr_j (by first | omega | (dsimp only; omega)), rd_wr_j (by first | omega | (dsimp only; omega)), rd_wr_s]
  have hS : SR mc n none (fun _ => none) := by
    refine ⟨fun u hu => ⟨?_, fun v hv => by cases hv⟩, fun j a b => ?_, fun y hy => (by cases hy), fun _ => ?_⟩
    · rw [c2.2 _ _ (by first | omega | (dsimp only; omega)), b2.2 _ _ (by first | omega | (dsimp only; omega))]; exact a3 u (by show u < 241; omega)
    · rw [c2.2 _ _ (by first | omega | (dsimp only; omega))]; exact b3 j b
    · rw [r35, rd_wr_j (by first | omega | (dsimp only; omega)), rd_wr_s]
  obtain ⟨m', d1, d2, d3⟩ := branch_l (N := N) (d := d) (q := q) (L := most) hN hd9 hm hQ hQ6 hq hz hn6 n 0 _ _ 0 0 mc none _ 9 (by first | omega | (dsimp only; omega)) (by first | omega | (dsimp only; omega)) hB hS (by first | omega | (dsimp only; omega)) (by first | omega | (dsimp only; omega))
  refine ⟨m', ?_, f0.tr (d2.mono (fun k j e => by omega)), d3⟩
  unfold fX8_run
  simp only [LXb]
  refine st_n (st_n ?_)
  have e1 : (if (240 : Int32) < nI most then 240 else nI most) = nI most := if_neg (nI_nlt (a := 240) (by first | omega | (dsimp only; omega)) (by first | omega | (dsimp only; omega)))
  rw [e1]
  exact st_n (st_n (st_n (st_b a1 (st_b b1 (st_b c1 (st_b d1 rfl))))))
end Br
