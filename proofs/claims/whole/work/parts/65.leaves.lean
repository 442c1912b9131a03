/-! pure: leaves -/
section Lvx
variable {N n d s : Nat} {K W F z len sh : Nat → Nat} {B : Nat → Nat}
/-- shares of a set -/
def shN (sh : Nat → Nat) (c : Nat) : Nat := smN (fun l => if c / 2 ^ l % 2 = 0 then 0 else sh l) 4
theorem shN_b {c : Nat} (h : ∀ i, i < 4 → sh i ≤ 999) : ∀ m, m ≤ 4 → smN (fun l => if c / 2 ^ l % 2 = 0 then 0 else sh l) m ≤ 999 * m := fun m hm => smN_le m (fun i hi => by
  have := h i (by first | omega | (dsimp only; omega))
  show (if c / 2 ^ i % 2 = 0 then 0 else sh i) ≤ 999
  split <;> omega)
theorem cshare_l {mm : Mm} {q c : Nat} (hq : q < 6) (hc : c < 16) (h : HA mm (96 + 2 * q) 4 sh) : ∀ cc i, i + cc = 4 → ∀ f, cc < f → fX11_shareOf_4 N f (95 + 2 * q) (nI c) (nI (smN (fun l => if c / 2 ^ l % 2 = 0 then 0 else sh l) i)) (nI i) mm = some (nI (shN sh c), mm) := by
  intro cc
  induction cc with
  | zero =>
    intro i hi f hf
    obtain ⟨f, rfl⟩ : ∃ g, f = g + 1 := ⟨f - 1, by omega⟩
    obtain rfl : i = 4 := by omega
    unfold fX11_shareOf_4
    exact st_t (nI_le (by first | omega | (dsimp only; omega)) (by first | omega | (dsimp only; omega))) rfl
  | succ cc ih =>
    intro i hi f hf
    obtain ⟨f, rfl⟩ : ∃ g, f = g + 1 := ⟨f - 1, by omega⟩
    have ih2 := ih (i + 1) (by first | omega | (dsimp only; omega)) f (by first | omega | (dsimp only; omega))
    have hs : smN (fun l => if c / 2 ^ l % 2 = 0 then 0 else sh l) (i + 1) = smN (fun l => if c / 2 ^ l % 2 = 0 then 0 else sh l) i + (if c / 2 ^ i % 2 = 0 then 0 else sh i) := rfl
    rw [hs] at ih2
    unfold fX11_shareOf_4 fX11_shareOf_26
    simp only [fr_row hq, nI_nat (show i < 2147483648 by omega), nI_1]
    refine st_f (nI_ge (by first | omega | (dsimp only; omega)) (by first | omega | (dsimp only; omega))) ?_
    rw [bit_c c hc i (by first | omega | (dsimp only; omega))]
    by_cases hb : c / 2 ^ i % 2 = 0
    · rw [if_pos hb] at ih2
      exact st_t (by rw [hb]; rfl) ih2
    · rw [if_neg hb] at ih2
      refine st_f (fun q => hb (nI_inj (b := 0) q (by first | omega | (dsimp only; omega)) (by first | omega | (dsimp only; omega)))) (st_k (ln_row hq) (by first | omega | (dsimp only; omega)) (by first | omega | (dsimp only; omega)) (st_n ?_))
      rw [h i (by first | omega | (dsimp only; omega)), nI_add]
      exact ih2
theorem cshare_e {mm : Mm} {q c : Nat} (hN : 100000 ≤ N) (hq : q < 6) (hc : c < 16) (h : HA mm (96 + 2 * q) 4 sh) : fX11_shareOf N (95 + 2 * q) (nI c) mm = some (nI (shN sh c), mm) := cshare_l hq hc h 4 0 (by first | omega | (dsimp only; omega)) N (by first | omega | (dsimp only; omega))
/-- the first set from c on that is worth more than its shares -/
def lvR (w sh : Nat → Nat) : Nat → Nat → Nat
  | 0, _ => 0
  | cc + 1, c => if shN sh c < w c then c else if c = 15 ∧ w c ≠ shN sh c then c else lvR w sh cc (c + 1)
theorem clv_l {mm : Mm} {q : Nat} {w : Nat → Nat} (hN : 100000 ≤ N) (hq : q < 6) (h : HA mm (96 + 2 * q) 4 sh) (h9 : ∀ i, i < 4 → sh i ≤ 999) (hw8 : ∀ c, w c ≤ 108) (hw : ∀ c, c < 16 → fX11_worthOf N 0 (nI c) mm = some (nI (w c), mm)) : ∀ cc c, c + cc = 15 → ∀ f, cc < f → fX11_leaves_81 N f 0 (95 + 2 * q) (nI c) mm = some (nI (lvR w sh (cc + 1) c), mm) := by
  intro cc
  induction cc with
  | zero =>
    intro c hc f hf
    obtain ⟨f, rfl⟩ : ∃ g, f = g + 1 := ⟨f - 1, by omega⟩
    obtain rfl : c = 15 := by omega
    have hb := shN_b (c := 15) h9 4 (by first | omega | (dsimp only; omega))
    have hb' : shN sh 15 ≤ 999 * 4 := hb
    have hw1 := hw8 15
    unfold fX11_leaves_81 lvR
    refine st_t (nI_le (by first | omega | (dsimp only; omega)) (by first | omega | (dsimp only; omega))) (st_b (hw 15 (by first | omega | (dsimp only; omega))) (st_b (cshare_e (c := 15) hN hq (by first | omega | (dsimp only; omega)) h) ?_))
    by_cases he : w 15 = shN sh 15
    · rw [if_neg (show ¬ shN sh 15 < w 15 by omega), if_neg (show ¬ ((15 : Nat) = 15 ∧ w 15 ≠ shN sh 15) by omega)]
      exact st_t (by rw [he]) rfl
    · refine st_f (fun q => he (nI_inj q (by first | omega | (dsimp only; omega)) (by first | omega | (dsimp only; omega)))) ?_
      by_cases hlt : shN sh 15 < w 15
      · rw [if_pos hlt]; rfl
      · rw [if_neg hlt, if_pos (show (15 : Nat) = 15 ∧ w 15 ≠ shN sh 15 from ⟨rfl, he⟩)]; rfl
  | succ cc ih =>
    intro c hc f hf
    obtain ⟨f, rfl⟩ : ∃ g, f = g + 1 := ⟨f - 1, by omega⟩
    have ih2 := ih (c + 1) (by first | omega | (dsimp only; omega)) f (by first | omega | (dsimp only; omega))
    have hb := shN_b (c := c) h9 4 (by first | omega | (dsimp only; omega))
    have hb' : shN sh c ≤ 999 * 4 := hb
    have hw1 := hw8 c
    have hu : lvR w sh (cc + 1 + 1) c = if shN sh c < w c then c else if c = 15 ∧ w c ≠ shN sh c then c else lvR w sh (cc + 1) (c + 1) := rfl
    rw [hu]
    unfold fX11_leaves_81
    refine st_f (nI_ge (by first | omega | (dsimp only; omega)) (by first | omega | (dsimp only; omega))) (st_b (hw c (by first | omega | (dsimp only; omega))) (st_b (cshare_e hN hq (by first | omega | (dsimp only; omega)) h) ?_))
    rw [nI_1]
    by_cases hlt : shN sh c < w c
    · rw [if_pos hlt]
      exact st_f (nI_ge hlt (by first | omega | (dsimp only; omega))) rfl
    · rw [if_neg hlt, if_neg (show ¬ (c = 15 ∧ w c ≠ shN sh c) by omega)]
      exact st_t (nI_le (by first | omega | (dsimp only; omega)) (by first | omega | (dsimp only; omega))) ih2
theorem mshare_l {mm : Mm} {q c : Nat} {no : Int32} {k150 : Nat → Int32 → Int32 → Int32 → Mm → Option (Int32 × Mm)} {R : Option (Int32 × Mm)} (hq : q < 6) (hc : c < 16) (h : ∀ i, i < 4 → rd mm 178 (40 * q + i) = nI (sh i)) (hR : ∀ f, fX12_leaves_163 N k150 (f + 1) 175 (nI q) no (nI c) (nI (shN sh c)) 4 mm = R) : ∀ cc i, i + cc = 4 → ∀ f, cc < f → fX12_leaves_163 N k150 f 175 (nI q) no (nI c) (nI (smN (fun l => if c / 2 ^ l % 2 = 0 then 0 else sh l) i)) (nI i) mm = R := by
  intro cc
  induction cc with
  | zero =>
    intro i hi f hf
    obtain ⟨f, rfl⟩ : ∃ g, f = g + 1 := ⟨f - 1, by omega⟩
    obtain rfl : i = 4 := by omega
    exact hR f
  | succ cc ih =>
    intro i hi f hf
    obtain ⟨f, rfl⟩ : ∃ g, f = g + 1 := ⟨f - 1, by omega⟩
    have ih2 := ih (i + 1) (by first | omega | (dsimp only; omega)) f (by first | omega | (dsimp only; omega))
    have hs : smN (fun l => if c / 2 ^ l % 2 = 0 then 0 else sh l) (i + 1) = smN (fun l => if c / 2 ^ l % 2 = 0 then 0 else sh l) i + (if c / 2 ^ i % 2 = 0 then 0 else sh i) := rfl
    rw [hs] at ih2
    unfold fX12_leaves_163 fX12_leaves_193
    simp only [nI_1]
    refine st_f (nI_ge (by first | omega | (dsimp only; omega)) (by first | omega | (dsimp only; omega))) ?_
    rw [bit_c c hc i (by first | omega | (dsimp only; omega))]
    by_cases hb : c / 2 ^ i % 2 = 0
    · rw [if_pos hb] at ih2
      rw [hb]
      exact st_f (by decide) (by rw [show (0 : Int32) = nI 0 from rfl, nI_add]; exact ih2)
    · rw [if_neg hb] at ih2
      have hb1 : c / 2 ^ i % 2 = 1 := by omega
      rw [hb1]
      refine st_t rfl (st_b (rowAt_t hq (by first | omega | (dsimp only; omega))) ?_)
      rw [h i (by first | omega | (dsimp only; omega)), nI_add]
      exact ih2
theorem mlv_l {q B0 : Nat} (hN : 100000 ≤ N) (hq : q < 6) (h9 : ∀ i, i < 4 → sh i ≤ 999) (hB8 : ∀ c, B c ≤ 108) (hB0 : ∀ c, c < 16 → B0 ≤ B c) (hw : ∀ c mm, c < 16 → MZ mm n d s K W F z len → ∃ m', fX12_scoreWith N 175 (nI c) mm = some (nI (B c), m') ∧ Fr (fun k j => (k = 175 ∧ (j = 22 ∨ j = 24 ∨ j = 25)) ∨ (187 ≤ k ∧ k ≤ 189)) mm m') : ∀ cc c mm, c + cc = 16 → MZ mm n d s K W F z len → (∀ i, i < 4 → rd mm 178 (40 * q + i) = nI (sh i)) → ∀ f, cc < f → ∃ m', fX12_leaves_150 N f 175 (nI q) (nI B0) (nI c) mm = some (nI (lvR (fun c => B c - B0) sh cc c), m') ∧ Fr (fun k j => (k = 175 ∧ (j = 22 ∨ j = 24 ∨ j = 25)) ∨ (187 ≤ k ∧ k ≤ 189)) mm m' := by
  intro cc
  induction cc with
  | zero =>
    intro c mm hc hZ hsh f hf
    obtain ⟨f, rfl⟩ : ∃ g, f = g + 1 := ⟨f - 1, by omega⟩
    obtain rfl : c = 16 := by omega
    refine ⟨mm, ?_, Fr.rf⟩
    unfold fX12_leaves_150
    exact st_t (nI_le (by first | omega | (dsimp only; omega)) (by first | omega | (dsimp only; omega))) rfl
  | succ cc ih =>
    intro c mm hc hZ hsh f hf
    obtain ⟨f, rfl⟩ : ∃ g, f = g + 1 := ⟨f - 1, by omega⟩
    obtain ⟨m1, p1, p2⟩ := hw c mm (by first | omega | (dsimp only; omega)) hZ
    obtain ⟨m', r1, r2⟩ := ih (c + 1) m1 (by first | omega | (dsimp only; omega)) (hZ.c p2) (fun i hi => by rw [p2.2 _ _ (by first | omega | (dsimp only; omega))]; exact hsh i hi) f (by first | omega | (dsimp only; omega))
    have hb := shN_b (c := c) h9 4 (by first | omega | (dsimp only; omega))
    have hb' : shN sh c ≤ 999 * 4 := hb
    have hw1 := hB8 c
    have hb0 := hB0 c (by first | omega | (dsimp only; omega))
    have hu : lvR (fun c => B c - B0) sh (cc + 1) c = if shN sh c < B c - B0 then c else if c = 15 ∧ B c - B0 ≠ shN sh c then c else lvR (fun c => B c - B0) sh cc (c + 1) := rfl
    have main : ∀ R, (if nI (shN sh c) < nI (B c - B0) then some (nI c, m1) else if nI c = 15 then (if nI (B c - B0) = nI (shN sh c) then fX12_leaves_150 N f 175 (nI q) (nI B0) (nI (c + 1)) m1 else some (nI c, m1)) else fX12_leaves_150 N f 175 (nI q) (nI B0) (nI (c + 1)) m1) = R → fX12_leaves_150 N (f + 1) 175 (nI q) (nI B0) (nI c) mm = R := by
      intro R hR
      unfold fX12_leaves_150
      refine st_f (nI_ge (b := 16) (by first | omega | (dsimp only; omega)) (by first | omega | (dsimp only; omega))) ?_
      refine mshare_l (N := N) (sh := sh) hq (by first | omega | (dsimp only; omega)) hsh (fun g => ?_) 4 0 (by first | omega | (dsimp only; omega)) N (by first | omega | (dsimp only; omega))
      unfold fX12_leaves_163 fX12_leaves_237
      refine st_t (nI_le (by first | omega | (dsimp only; omega)) (by first | omega | (dsimp only; omega))) (st_b p1 ?_)
      rw [nI_sub hb0, nI_1]
      exact hR
    by_cases hlt : shN sh c < B c - B0
    · refine ⟨m1, main _ (st_t (nI_lt hlt (by first | omega | (dsimp only; omega))) ?_), p2⟩
      rw [hu, if_pos hlt]
    · by_cases h15 : c = 15
      · by_cases he : B c - B0 = shN sh c
        · refine ⟨m', main _ (st_f (nI_nlt (by first | omega | (dsimp only; omega)) (by first | omega | (dsimp only; omega))) (st_t (by rw [h15]; rfl) (st_t (by rw [he]) ?_))), p2.tr r2⟩
          rw [hu, if_neg hlt, if_neg (show ¬ (c = 15 ∧ B c - B0 ≠ shN sh c) by omega)]
          exact r1
        · refine ⟨m1, main _ (st_f (nI_nlt (by first | omega | (dsimp only; omega)) (by first | omega | (dsimp only; omega))) (st_t (by rw [h15]; rfl) (st_f (fun q => he (nI_inj q (by first | omega | (dsimp only; omega)) (by first | omega | (dsimp only; omega)))) ?_))), p2⟩
          rw [hu, if_neg hlt, if_pos (show (c = 15 ∧ B c - B0 ≠ shN sh c) from ⟨h15, he⟩)]
      · refine ⟨m', main _ (st_f (nI_nlt (by first | omega | (dsimp only; omega)) (by first | omega | (dsimp only; omega))) (st_f (fun q => h15 (nI_inj (b := 15) q (by first | omega | (dsimp only; omega)) (by first | omega | (dsimp only; omega)))) ?_)), p2.tr r2⟩
        rw [hu, if_neg hlt, if_neg (show ¬ (c = 15 ∧ B c - B0 ≠ shN sh c) by omega)]
        exact r1
/-- the class' check of a laying and shares -/
theorem isWS_e {mm : Mm} {r q t : Nat} (hN : 100000 ≤ N) (hr : r < 6) (hq : q < 6) (hn : rd mm 3 5 = nI n) (hn6 : n ≤ 6) (hzr : RZ mm r) (hzq : RZ mm q) (htt : rd mm 5 1 = nI t) (ht40 : t ≤ 40) :
    ∃ i z v : Nat, i ≤ 1 ∧ z ≤ 1 ∧ v ≤ 1 ∧ (i = 0 ↔ rd mm (95 + 2 * r) 1 = -1 ∨ rd mm (95 + 2 * q) 1 = -1) ∧ (z = 1 ↔ rd mm (95 + 2 * r) 1 = nI n ∧ rd mm (95 + 2 * q) 1 = nI 4) ∧ (z = 1 → (v = 1 ↔ LayOK (fun j => rd mm (96 + 2 * r) j) n t ∧ ∀ j, j < 4 → Wi (fun j => rd mm (96 + 2 * q) j) 999 j)) ∧ ∀ f, f = (if i = 0 then 1 else if z = 0 then 5 else if v = 0 then 3 else 0) → fX11_areWrong N 0 (95 + 2 * r) (95 + 2 * q) mm = if f = 0 then some (0, mm) else some (1, cRef f mm) := by
  obtain ⟨v1, e1, l1, w1⟩ := allows_x (a := 1) hN hr (by first | omega | (dsimp only; omega)) hzr htt ht40
  obtain ⟨v2, e2, l2, w2⟩ : ∃ v2 : Nat, fX6_isWithin N (95 + 2 * q) 999 mm = some (nI v2, mm) ∧ v2 ≤ 1 ∧ ∀ m, m ≤ 40 → rd mm (95 + 2 * q) 1 = nI m → (v2 = 1 ↔ ∀ j, j < m → Wi (fun j => rd mm (96 + 2 * q) j) 999 j) := by
    rcases hzq with hzq | ⟨m, hm, hzq⟩
    · refine ⟨1, within_m hN hzq, by omega, fun m hm e => ?_⟩
      rw [hzq] at e
      exact absurd e.symm (neg1_ne (by first | omega | (dsimp only; omega)))
    · by_cases hw : ∀ j, j < m → Wi (fun j => rd mm (96 + 2 * q) j) 999 j
      · refine ⟨1, within_t (b := 999) hN hq hzq hm (by first | omega | (dsimp only; omega)) hw, by omega, fun m' hm' e => ?_⟩
        rw [hzq] at e
        have := nI_inj e (by first | omega | (dsimp only; omega)) (by first | omega | (dsimp only; omega))
        subst this
        exact ⟨fun _ => hw, fun _ => rfl⟩
      · refine ⟨0, within_f (b := 999) hN hq hzq hm (by first | omega | (dsimp only; omega)) hw, by omega, fun m' hm' e => ?_⟩
        rw [hzq] at e
        have := nI_inj e (by first | omega | (dsimp only; omega)) (by first | omega | (dsimp only; omega))
        subst this
        exact ⟨fun w => by omega, fun w => absurd w hw⟩
  obtain ⟨z, hz1, hz⟩ : ∃ z : Nat, z ≤ 1 ∧ (z = 1 ↔ rd mm (95 + 2 * r) 1 = nI n ∧ rd mm (95 + 2 * q) 1 = nI 4) := by
    by_cases h : rd mm (95 + 2 * r) 1 = nI n ∧ rd mm (95 + 2 * q) 1 = nI 4
    · exact ⟨1, by omega, fun _ => h, fun _ => rfl⟩
    · exact ⟨0, by omega, fun w => by omega, fun w => absurd w h⟩
  obtain ⟨i, hi1, hi⟩ : ∃ i : Nat, i ≤ 1 ∧ (i = 0 ↔ rd mm (95 + 2 * r) 1 = -1 ∨ rd mm (95 + 2 * q) 1 = -1) := by
    by_cases h : rd mm (95 + 2 * r) 1 = -1 ∨ rd mm (95 + 2 * q) 1 = -1
    · exact ⟨0, by omega, fun _ => h, fun _ => rfl⟩
    · exact ⟨1, by omega, fun w => by omega, fun w => absurd w h⟩
  obtain ⟨v, hv1, hv⟩ : ∃ v : Nat, v ≤ 1 ∧ (v = 1 ↔ v1 = 1 ∧ v2 = 1) := by
    by_cases h : v1 = 1 ∧ v2 = 1
    · exact ⟨1, by omega, fun _ => h, fun _ => rfl⟩
    · exact ⟨0, by omega, fun w => by omega, fun w => absurd w h⟩
  refine ⟨i, z, v, hi1, hz1, hv1, hi, hz, fun hz' => ?_, fun f hf => ?_⟩
  · obtain ⟨g1, g2⟩ := hz.mp hz'
    rw [hv, w1 n (by first | omega | (dsimp only; omega)) g1, w2 4 (by first | omega | (dsimp only; omega)) g2]
  · have h80 : ∀ (a b c f : Nat), a ≤ 1 → b ≤ 1 → c ≤ 1 → f = (if a = 0 then 1 else if b = 0 then 5 else if c = 0 then 3 else 0) → fX11_areWrong_80 N 0 (nI a) (nI b) (nI c) mm = if f = 0 then some (0, mm) else some (1, cRef f mm) := by
      intro a b c f ha hb hc hf
      unfold fX11_areWrong_80
      rw [isRef_e ha hb hc hf]
      by_cases h : f = 0
      · simp only [if_pos h]; exact st_b rfl (st_g (by decide) rfl)
      · simp only [if_neg h]; exact st_b rfl (st_g (by decide) rfl)
    have h54 : ∀ c : Nat, c ≤ 1 → ∀ g, g = (if i = 0 then 1 else if c = 0 then 5 else if v = 0 then 3 else 0) → fX11_areWrong_47 N 0 (95 + 2 * r) (95 + 2 * q) (nI i) (nI c) mm = if g = 0 then some (0, mm) else some (1, cRef g mm) := by
      intro c hc g hg
      unfold fX11_areWrong_47 fX11_areWrong_79
      simp only [LXa]
      refine st_b e1 ?_
      by_cases h1 : v1 = 1
      · refine st_f (by rw [h1]; decide) (st_b e2 ?_)
        by_cases h2 : v2 = 1
        · refine st_f (by rw [h2]; decide) (h80 i c 1 g hi1 hc (by first | omega | (dsimp only; omega)) ?_)
          rw [hv.mpr ⟨h1, h2⟩] at hg
          exact hg
        · refine st_t (by rw [show v2 = 0 by omega]; rfl) (h80 i c 0 g hi1 hc (by first | omega | (dsimp only; omega)) ?_)
          have : v = 0 := by
            rcases (by omega : v = 0 ∨ v = 1) with w | w
            · exact w
            · exact absurd (hv.mp w).2 h2
          rw [this] at hg
          exact hg
      · refine st_t (by rw [show v1 = 0 by omega]; rfl) (h80 i c 0 g hi1 hc (by first | omega | (dsimp only; omega)) ?_)
        have : v = 0 := by
          rcases (by omega : v = 0 ∨ v = 1) with w | w
          · exact w
          · exact absurd (hv.mp w).1 h1
        rw [this] at hg
        exact hg
    have h19 : fX11_areWrong_19 N 0 (95 + 2 * r) (95 + 2 * q) (nI i) mm = if f = 0 then some (0, mm) else some (1, cRef f mm) := by
      unfold fX11_areWrong_19 fX11_areWrong_46
      simp only [LXa]
      rw [hn]
      have hz0 : ¬ (rd mm (95 + 2 * r) 1 = nI n ∧ rd mm (95 + 2 * q) 1 = nI 4) → z = 0 := fun w => by
        rcases (by omega : z = 0 ∨ z = 1) with u | u
        · exact u
        · exact absurd (hz.mp u) w
      by_cases h1 : rd mm (95 + 2 * r) 1 = nI n
      · refine st_t h1 ?_
        by_cases h2 : rd mm (95 + 2 * q) 1 = nI 4
        · refine st_t h2 (h54 1 (by first | omega | (dsimp only; omega)) f ?_)
          rw [hz.mpr ⟨h1, h2⟩] at hf
          exact hf
        · refine st_f h2 (h54 0 (by first | omega | (dsimp only; omega)) f ?_)
          rw [hz0 (fun w => h2 w.2)] at hf
          exact hf
      · refine st_f h1 (h54 0 (by first | omega | (dsimp only; omega)) f ?_)
        rw [hz0 (fun w => h1 w.1)] at hf
        exact hf
    unfold fX11_areWrong fX11_areWrong_18
    rcases hzr with hzr | ⟨m1, hm1, hzr⟩
    · have : i = 0 := hi.mpr (Or.inl hzr)
      subst this
      exact st_b (miss_t hzr) (st_f (by decide) h19)
    · refine st_b (miss_f hzr (by first | omega | (dsimp only; omega))) (st_t rfl ?_)
      rcases hzq with hzq | ⟨m2, hm2, hzq⟩
      · have : i = 0 := hi.mpr (Or.inr hzq)
        subst this
        exact st_b (miss_t hzq) (st_f (by decide) h19)
      · have : i = 1 := by
          rcases (by omega : i = 0 ∨ i = 1) with w | w
          · rcases hi.mp w with e | e
            · rw [hzr] at e; exact absurd e (neg1_ne (by first | omega | (dsimp only; omega)))
            · rw [hzq] at e; exact absurd e (neg1_ne (by first | omega | (dsimp only; omega)))
          · exact w
        subst this
        exact st_b (miss_f hzq (by first | omega | (dsimp only; omega))) (st_t rfl h19)
/-- the model's check of shares; behind it what follows -/
theorem mshck_l {mm : Mm} {r q : Nat} (hq : q < 6) : ∀ cc i, i + cc = 4 → ∀ f, cc < f → ((∀ j, i ≤ j → j < 4 → Wi (fun j => rd mm 178 (40 * q + j)) 999 j) → ∀ R, (∀ g, fX12_leaves_85 N (g + 1) 175 (nI r) (nI q) 4 mm = R) → fX12_leaves_85 N f 175 (nI r) (nI q) (nI i) mm = R) ∧ (¬ (∀ j, i ≤ j → j < 4 → Wi (fun j => rd mm 178 (40 * q + j)) 999 j) → fX12_leaves_85 N f 175 (nI r) (nI q) (nI i) mm = some (-3, mMeet 3 mm)) := by
  intro cc
  induction cc with
  | zero =>
    intro i hi f hf
    obtain ⟨f, rfl⟩ : ∃ g, f = g + 1 := ⟨f - 1, by omega⟩
    obtain rfl : i = 4 := by omega
    exact ⟨fun _ R hR => hR f, fun w => absurd (fun j h1 h2 => by omega) w⟩
  | succ cc ih =>
    intro i hi f hf
    obtain ⟨f, rfl⟩ : ∃ g, f = g + 1 := ⟨f - 1, by omega⟩
    obtain ⟨ih1, ih2⟩ := ih (i + 1) (by first | omega | (dsimp only; omega)) f (by first | omega | (dsimp only; omega))
    have h0 : (0 : Int32).toInt = 0 := rfl
    have h9 : (999 : Int32).toInt = 999 := rfl
    by_cases hw : Wi (fun j => rd mm 178 (40 * q + j)) 999 i
    · have hw' : 0 ≤ (rd mm 178 (40 * q + i)).toInt ∧ (rd mm 178 (40 * q + i)).toInt ≤ 999 := hw
      have step : ∀ R, fX12_leaves_85 N f 175 (nI r) (nI q) (nI (i + 1)) mm = R → fX12_leaves_85 N (f + 1) 175 (nI r) (nI q) (nI i) mm = R := by
        intro R hR
        unfold fX12_leaves_85
        refine st_f (nI_ge (by first | omega | (dsimp only; omega)) (by first | omega | (dsimp only; omega))) (st_b (rowAt_t hq (by first | omega | (dsimp only; omega))) (st_b (in_t (by rw [i_lt, h0]; omega) (by rw [i_lt, h9]; omega)) (st_f (by decide) ?_)))
        rw [nI_1]
        exact hR
      refine ⟨fun w R hR => step _ (ih1 (fun j h1 h2 => w j (by first | omega | (dsimp only; omega)) h2) R hR), fun w => step _ (ih2 (fun w2 => w (fun j h1 h2 => ?_)))⟩
      by_cases hj : j = i
      · rw [hj]; exact hw
      · exact w2 j (by first | omega | (dsimp only; omega)) h2
    · refine ⟨fun w => absurd (w i (Nat.le_refl _) (by first | omega | (dsimp only; omega))) hw, fun _ => ?_⟩
      unfold fX12_leaves_85
      refine st_f (nI_ge (by first | omega | (dsimp only; omega)) (by first | omega | (dsimp only; omega))) (st_b (rowAt_t hq (by first | omega | (dsimp only; omega))) (st_b (in_f ?_) (st_t rfl (st_b (m_meet 3 rfl (by first | omega | (dsimp only; omega))) rfl))))
      rw [i_lt, i_lt, h0, h9]
      unfold Wi at hw
      simp only at hw
      omega
end Lvx
theorem ok_28 {N : Nat} (hN : 100000 ≤ N) : OK_28 N Rel := by
  intro a1 a2 mm h
  obtain ⟨n, K, W, F, d, s, t, C, M, hd, hd', hd9, hs, hs', hs40, ht, ht', ht40⟩ := Rel_data h
  obtain ⟨len, hl, hl', hl20⟩ := Rel_lend h
  have hn := C.2.1
  rcases rng a1 6 with ⟨r, hr, -, rfl⟩ | hb
  rotate_left
  · refine ⟨-1, mm, mm, ?_, ?_, h⟩
    · unfold fX11_leaves
      refine st_b (rowOf_n hb) ?_
      rcases rng a2 6 with ⟨q, hq, -, rfl⟩ | hb3
      · exact st_b (rowOf_t hq) (st_c0 rfl)
      · exact st_b (rowOf_n hb3) (st_c0 rfl)
    · unfold fX12_leaves
      exact st_b (isRow_n hb) (st_t rfl rfl)
  rcases rng a2 6 with ⟨q, hq, -, rfl⟩ | hb
  rotate_left
  · refine ⟨-1, mm, mm, ?_, ?_, h⟩
    · unfold fX11_leaves
      exact st_b (rowOf_t hr) (st_b (rowOf_n hb) (st_c (st_c0 rfl)))
    · unfold fX12_leaves
      exact st_b (isRow_t hr) (st_f (by decide) (st_b (isRow_n hb) (st_t rfl rfl)))
  have hzr : RZ mm r := by
    rcases h.1 r hr with ⟨e, -⟩ | ⟨m, hm, e, -⟩
    · exact Or.inl e
    · exact Or.inr ⟨m, hm, e⟩
  have hzq : RZ mm q := by
    rcases h.1 q hq with ⟨e, -⟩ | ⟨m, hm, e, -⟩
    · exact Or.inl e
    · exact Or.inr ⟨m, hm, e⟩
  obtain ⟨i, z, v, i1, z1, v1, hi, hz, hv, hw⟩ := isWS_e (N := N) hN hr hq C.1 hn hzr hzq ht ht40
  have cbad : ∀ f, f ≠ 0 → f < 6 → f = (if i = 0 then 1 else if z = 0 then 5 else if v = 0 then 3 else 0) → fX11_leaves N 0 (nI r) (nI q) mm = some (-3, cRef f mm) := by
    intro f hf0 hf6 hf
    have := hw f hf
    rw [if_neg hf0] at this
    unfold fX11_leaves
    exact st_b (rowOf_t hr) (st_b (rowOf_t hq) (st_c (st_c (st_b this (st_f (by decide) rfl)))))
  have mst : ∀ m1, MA mm m1 → ∀ R, (if rd mm 177 r < 0 then some (-3, mMeet 1 m1) else if (0 : Int32) ≤ rd mm 177 q then (if rd mm 177 r = nI n then (if rd mm 177 q = 4 then (bd2 (fX12_askedNumbers N 175 (nI r) 1 m1) fun x56 m57 => if (0 : Int32) ≤ x56 then (fX12_leaves_85 N N 175 (nI r) (nI q) 0 m57) else (some (x56, m57))) else some (-3, mMeet 5 m1)) else some (-3, mMeet 5 m1)) else some (-3, mMeet 1 m1)) = R → fX12_leaves N 175 (nI r) (nI q) m1 = R := by
    intro m1 A R hR
    unfold fX12_leaves
    have h34 : fX12_leaves_34 N 175 m1 = some (-3, mMeet 1 m1) := st_b (m_meet 1 rfl (by first | omega | (dsimp only; omega))) rfl
    have h63 : fX12_leaves_63 N 175 m1 = some (-3, mMeet 5 m1) := st_b (m_meet 5 rfl (by first | omega | (dsimp only; omega))) rfl
    refine st_b (isRow_t hr) (st_f (by decide) (st_b (isRow_t hq) (st_f (by decide) ?_)))
    simp only [LXm, nI_nat (show r < 2147483648 by omega), nI_nat (show q < 2147483648 by omega), h34, h63]
    rw [A 177 r (by first | omega | (dsimp only; omega)), A 177 q (by first | omega | (dsimp only; omega)), A 175 10 (by first | omega | (dsimp only; omega)), M.1]
    refine st_k rfl hr (by first | omega | (dsimp only; omega)) ?_
    by_cases c1 : rd mm 177 r < 0
    · rw [if_pos c1] at hR; exact st_t c1 hR
    rw [if_neg c1] at hR
    refine st_f c1 (st_k rfl hq (by first | omega | (dsimp only; omega)) ?_)
    by_cases c2 : (0 : Int32) ≤ rd mm 177 q
    · rw [if_pos c2] at hR
      refine st_t c2 (st_k rfl hr (by first | omega | (dsimp only; omega)) ?_)
      by_cases c3 : rd mm 177 r = nI n
      · rw [if_pos c3] at hR
        exact st_t c3 (st_k rfl hq (by first | omega | (dsimp only; omega)) hR)
      · rw [if_neg c3] at hR
        exact st_f c3 hR
    · rw [if_neg c2] at hR
      exact st_f c2 hR
  have AR : ∀ f, MA mm (cRef f mm) := fun f k j hk => rd_cRef (by first | omega | (dsimp only; omega)) (by first | omega | (dsimp only; omega))
  by_cases hi0 : i = 0
  · refine ⟨-3, cRef 1 mm, mMeet 1 (cRef 1 mm), cbad 1 (by first | omega | (dsimp only; omega)) (by first | omega | (dsimp only; omega)) (by rw [if_pos hi0]), mst _ (AR 1) _ ?_, rel_ref h (by first | omega | (dsimp only; omega))⟩
    rcases h.1 r hr with ⟨e1, e2⟩ | ⟨m, hm, e1, e2, -⟩
    · rw [e2]; exact st_t (by decide) rfl
    · rw [e2]
      refine st_f (nI_pos (by first | omega | (dsimp only; omega))) ?_
      rcases h.1 q hq with ⟨e3, e4⟩ | ⟨m2, hm2, e3, e4, -⟩
      · rw [e4]; exact st_f (by decide) rfl
      · rcases hi.mp hi0 with e | e
        · rw [e1] at e; exact absurd e (neg1_ne (by first | omega | (dsimp only; omega)))
        · rw [e3] at e; exact absurd e (neg1_ne (by first | omega | (dsimp only; omega)))
  rcases h.1 r hr with ⟨e1, e2⟩ | ⟨m, hm, e1, e2, e3⟩
  · exact absurd (hi.mpr (Or.inl e1)) hi0
  rcases h.1 q hq with ⟨d1, d2⟩ | ⟨m2, hm2, d1, d2, d3⟩
  · exact absurd (hi.mpr (Or.inr d1)) hi0
  rw [e2, d2] at mst
  by_cases hz0 : z = 0
  · refine ⟨-3, cRef 5 mm, mMeet 5 (cRef 5 mm), cbad 5 (by first | omega | (dsimp only; omega)) (by first | omega | (dsimp only; omega)) (by rw [if_neg hi0, if_pos hz0]), mst _ (AR 5) _ ?_, rel_ref h (by first | omega | (dsimp only; omega))⟩
    refine st_f (nI_pos (by first | omega | (dsimp only; omega))) (st_t (nI_pos' (by first | omega | (dsimp only; omega))) ?_)
    by_cases hmn : nI m = nI n
    · refine st_t hmn (st_f (fun e => ?_) rfl)
      have := hz.mpr ⟨e1.trans hmn, d1.trans e⟩
      omega
    · exact st_f hmn rfl
  have hz1 : z = 1 := by omega
  obtain ⟨g1, g2⟩ := hz.mp hz1
  have hmn : m = n := nI_inj (e1.symm.trans g1) (by first | omega | (dsimp only; omega)) (by first | omega | (dsimp only; omega))
  have hmn2 : m2 = 4 := nI_inj (d1.symm.trans g2) (by first | omega | (dsimp only; omega)) (by first | omega | (dsimp only; omega))
  subst hmn
  subst hmn2
  have er : ∀ m1, MA mm m1 → ∀ i, i < m → (fun j => rd mm (96 + 2 * r) j) i = (fun j => rd m1 178 (40 * r + j)) i := fun m1 A i hi => by
    show rd mm (96 + 2 * r) i = rd m1 178 (40 * r + i)
    rw [A _ _ (by first | omega | (dsimp only; omega))]; exact (e3 i hi).1
  have eq : ∀ m1, MA mm m1 → ∀ i, i < 4 → (fun j => rd mm (96 + 2 * q) j) i = (fun j => rd m1 178 (40 * q + j)) i := fun m1 A i hi => by
    show rd mm (96 + 2 * q) i = rd m1 178 (40 * q + i)
    rw [A _ _ (by first | omega | (dsimp only; omega))]; exact (d3 i hi).1
  have mst2 : ∀ m1, MA mm m1 → ∀ R, (bd2 (fX12_askedNumbers N 175 (nI r) 1 m1) fun x56 m57 => if (0 : Int32) ≤ x56 then (fX12_leaves_85 N N 175 (nI r) (nI q) 0 m57) else (some (x56, m57))) = R → fX12_leaves N 175 (nI r) (nI q) m1 = R := fun m1 A R hR => mst m1 A R (st_f (nI_pos (by first | omega | (dsimp only; omega))) (st_t (nI_pos' (by first | omega | (dsimp only; omega))) (st_t rfl (st_t rfl hR))))
  by_cases hv0 : v = 0
  · refine ⟨-3, cRef 3 mm, mMeet 3 (cRef 3 mm), cbad 3 (by first | omega | (dsimp only; omega)) (by first | omega | (dsimp only; omega)) (by rw [if_neg hi0, if_neg hz0, if_pos hv0]), mst2 _ (AR 3) _ ?_, rel_ref h (by first | omega | (dsimp only; omega))⟩
    have M1 := (AR 3).ms M
    by_cases hL : LayOK (fun j => rd mm (96 + 2 * r) j) m t
    · refine st_b (asknum_t (a := 1) hN hr (by first | omega | (dsimp only; omega)) M1 (by rw [AR 3 _ _ (by first | omega | (dsimp only; omega))]; exact ht') ht40 ((LayOK_c (er _ (AR 3))).mp hL)) (st_t (by decide) ?_)
      refine (mshck_l (N := N) (r := r) hq 4 0 (by first | omega | (dsimp only; omega)) N (by first | omega | (dsimp only; omega))).2 (fun w => ?_)
      have := (hv hz1).mpr ⟨hL, fun j hj => (Wi_c (eq _ (AR 3) j hj)).mpr (w j (by first | omega | (dsimp only; omega)) hj)⟩
      omega
    · exact st_b (asknum_f (a := 1) hN hr (by first | omega | (dsimp only; omega)) M1 (by rw [AR 3 _ _ (by first | omega | (dsimp only; omega))]; exact ht') ht40 (fun hL2 => hL ((LayOK_c (er _ (AR 3))).mpr hL2))) (st_f (by decide) rfl)
  obtain ⟨L1, L2⟩ := (hv hz1).mp (by first | omega | (dsimp only; omega))
  have hw0 := hw 0 (by rw [if_neg hi0, if_neg hz0, if_neg hv0])
  rw [if_pos rfl] at hw0
  have hstb := stN_b (set := 15) hl20 hs40
  by_cases hst : stN s len 15 ≤ 40
  rotate_left
  · refine ⟨-6, mm, mm, ?_, mst2 _ (fun _ _ _ => rfl) _ ?_, h⟩
    · unfold fX11_leaves
      simp only [LXa]
      exact st_b (rowOf_t hr) (st_b (rowOf_t hq) (st_c (st_c (st_b hw0 (st_t rfl (st_b (cstock_e (set := 15) hN (by first | omega | (dsimp only; omega)) hs hl) (st_f (nI_ge (by first | omega | (dsimp only; omega)) (by first | omega | (dsimp only; omega))) rfl)))))))
    · refine st_b (asknum_t (a := 1) hN hr (by first | omega | (dsimp only; omega)) M ht' ht40 ((LayOK_c (er _ (fun _ _ _ => rfl))).mp L1)) (st_t (by decide) ?_)
      refine (mshck_l (N := N) (r := r) hq 4 0 (by first | omega | (dsimp only; omega)) N (by first | omega | (dsimp only; omega))).1 (fun j _ hj => (Wi_c (eq _ (fun _ _ _ => rfl) j hj)).mp (L2 j hj)) _ (fun g => ?_)
      unfold fX12_leaves_85
      exact st_t (by decide) (st_b (mstock_e (set := 15) hN (by first | omega | (dsimp only; omega)) hs' hl') (st_f (nI_ge (by first | omega | (dsimp only; omega)) (by first | omega | (dsimp only; omega))) rfl))
  obtain ⟨x1, x2⟩ := lay_n L1
  generalize lO (fun j => rd mm (96 + 2 * r) j) = x at x1 x2
  have x1' : HA mm (96 + 2 * r) m x := x1
  have x3 : ∀ i, i < m → x i ≤ 1000 := fun i hi => by have := x2 i hi; omega
  have sh1 : HA mm (96 + 2 * q) 4 (lO fun j => rd mm (96 + 2 * q) j) := fun i hi => (Wi_n (L2 i hi)).1
  have sh2 : ∀ i, i < 4 → (lO fun j => rd mm (96 + 2 * q) j) i ≤ 999 := fun i hi => (Wi_n (L2 i hi)).2
  generalize (lO fun j => rd mm (96 + 2 * q) j) = sh at sh1 sh2
  obtain ⟨m1, c1, c2, c3⟩ := run_e (N := N) (d := d) (most := 40) hN hd9 (by first | omega | (dsimp only; omega)) (ln_row hr) (by first | omega | (dsimp only; omega)) (by first | omega | (dsimp only; omega)) x3 C x1'
  have c31 := c3.1
  have h40 : ∀ c, c < 16 → stN s len c ≤ 40 := fun c hc => Nat.le_trans (stN_15 hc) hst
  obtain ⟨G, hG⟩ : ∃ G, G = (lvs K W F d x 0 40 m 0 (fun _ => 0) (fun _ => 0) 0 0).foldl gst (fun _ => none) := ⟨_, rfl⟩
  have hsc : ∀ c m', c < 16 → MZ m' m d s K W F x len → ∃ m'', fX12_scoreWith N 175 (nI c) m' = some (nI (mN G (stN s len c + 1)), m'') ∧ Fr (fun k j => (k = 175 ∧ (j = 22 ∨ j = 24 ∨ j = 25)) ∨ (187 ≤ k ∧ k ≤ 189)) m' m'' := by
    intro c m' hc hZ
    rw [hG]
    exact mscore_e hN hd9 x3 hZ hc (h40 c hc)
  rw [← hG] at c31
  obtain ⟨B, hB⟩ : ∃ B : Nat → Nat, B = fun c => if c < 16 then mN G (stN s len c + 1) else 0 := ⟨_, rfl⟩
  have hBc : ∀ c, c < 16 → B c = mN G (stN s len c + 1) := fun c hc => by rw [hB]; exact if_pos hc
  have hB8 : ∀ c, B c ≤ 108 := fun c => by
    by_cases hc : c < 16
    · rw [hBc c hc]
      exact mN_108 (fun u v hu hv => (c31 u (by have := h40 c hc; omega)).2 v hv)
    · rw [hB]; show (if c < 16 then _ else 0) ≤ 108
      rw [if_neg hc]; omega
  have hB0 : ∀ c, c < 16 → mN G (s + 1) ≤ B c := fun c hc => by
    rw [hBc c hc]
    exact mN_up G _ _ (by have := stN_ge (s0 := s) (len := len) (c := c); omega)
  have hcl := clv_l (N := N) (sh := sh) (mm := m1) (w := fun c => B c - mN G (s + 1)) hN hq (sh1.c (fun i hi => c2.2 _ _ (by first | omega | (dsimp only; omega)))) sh2 (fun c => by have := hB8 c; show B c - mN G (s + 1) ≤ 108; omega) (fun c hc => by
    show _ = some (nI (B c - mN G (s + 1)), m1)
    rw [← nI_sub (hB0 c hc), hBc c hc]
    exact worth_e hN hc (by rw [c2.2 _ _ (by first | omega | (dsimp only; omega))]; exact hs) (hl.c (fun i hi => c2.2 _ _ (by first | omega | (dsimp only; omega)))) (h40 c hc) c31) 14 1 (by first | omega | (dsimp only; omega)) N (by first | omega | (dsimp only; omega))
  have hA : MA mm m1 := fun k j hk => c2.2 _ _ (by first | omega | (dsimp only; omega))
  have M1 := hA.ms M
  obtain ⟨ma, k1, k2, k3⟩ := takes_e (N := N) (s := 1) (x := x) hN hr (by first | omega | (dsimp only; omega)) M1 (fun i hi => by rw [hA _ _ (by first | omega | (dsimp only; omega))]; exact (e3 i hi).1.symm.trans (x1 i hi))
  have Z : MZ ma m d s K W F x len := ⟨MS_c M1 (fun k j e => k2.2 _ _ (by first | omega | (dsimp only; omega))), by rw [k2.2 _ _ (by first | omega | (dsimp only; omega)), hA _ _ (by first | omega | (dsimp only; omega))]; exact hd', k3, by rw [k2.2 _ _ (by first | omega | (dsimp only; omega)), hA _ _ (by first | omega | (dsimp only; omega))]; exact hs', hl'.c (fun i hi => by rw [k2.2 _ _ (by first | omega | (dsimp only; omega)), hA _ _ (by first | omega | (dsimp only; omega))])⟩
  obtain ⟨mb, l1, l2⟩ := hsc 0 ma (by first | omega | (dsimp only; omega)) Z
  rw [stN_0] at l1
  obtain ⟨mc, o1, o2⟩ := mlv_l (N := N) (q := q) (sh := sh) (B := B) (B0 := mN G (s + 1)) hN hq sh2 hB8 hB0 (fun c m' hc hZ => by rw [hBc c hc]; exact hsc c m' hc hZ) 15 1 mb (by first | omega | (dsimp only; omega)) (Z.c l2) (fun i hi => by rw [l2.2 _ _ (by first | omega | (dsimp only; omega)), k2.2 _ _ (by first | omega | (dsimp only; omega)), hA _ _ (by first | omega | (dsimp only; omega))]; exact (d3 i hi).1.symm.trans (sh1 i hi)) N (by first | omega | (dsimp only; omega))
  refine ⟨nI (lvR (fun c => B c - mN G (s + 1)) sh 15 1), m1, mc, ?_, mst2 _ hA _ ?_, ?_⟩
  · unfold fX11_leaves
    refine st_b (rowOf_t hr) (st_b (rowOf_t hq) (st_c (st_c (st_b hw0 (st_t rfl ?_)))))
    simp only [LXa, fr_row hr]
    refine st_b (cstock_e (set := 15) hN (by first | omega | (dsimp only; omega)) hs hl) (st_t (nI_le hst (by first | omega | (dsimp only; omega))) ?_)
    rw [hd]
    exact st_b c1 hcl
  · refine st_b (asknum_t (a := 1) hN hr (by first | omega | (dsimp only; omega)) M1 (by rw [hA _ _ (by first | omega | (dsimp only; omega))]; exact ht') ht40 ((LayOK_c (er _ hA)).mp L1)) (st_t (by decide) ?_)
    refine (mshck_l (N := N) (r := r) hq 4 0 (by first | omega | (dsimp only; omega)) N (by first | omega | (dsimp only; omega))).1 (fun j _ hj => (Wi_c (eq _ hA j hj)).mp (L2 j hj)) _ (fun g => ?_)
    unfold fX12_leaves_85
    exact st_t (by decide) (st_b (mstock_e (set := 15) hN (by first | omega | (dsimp only; omega)) (by rw [hA _ _ (by first | omega | (dsimp only; omega))]; exact hs') (hl'.c (fun i hi => hA _ _ (by first | omega | (dsimp only; omega))))) (st_t (nI_le hst (by first | omega | (dsimp only; omega))) (st_b k1 (st_b l1 o1))))
  · refine Rel_row (r := 6) h ((c2.mono (fun k j e => Or.inl ?_)).tr (((k2.mono (fun k j e => Or.inr (Or.inl ?_))).tr (l2.mono (fun k j e => Or.inr (Or.inl ?_)))).tr (o2.mono (fun k j e => Or.inr (Or.inl ?_))))) ?_ ?_ (fun q => by omega)
    · unfold ScC; omega
    · unfold ScM; omega
    · unfold ScM; omega
    · unfold ScM; omega
    · exact RA_keep h.2.2.2.2.1 (fun k _ _ _ _ _ _ _ _ _ => by rw [o2.2 _ _ (by first | omega | (dsimp only; omega)), l2.2 _ _ (by first | omega | (dsimp only; omega)), k2.2 _ _ (by first | omega | (dsimp only; omega)), c2.2 _ _ (by first | omega | (dsimp only; omega))])
    · rw [o2.2 _ _ (by first | omega | (dsimp only; omega)), l2.2 _ _ (by first | omega | (dsimp only; omega)), k2.2 _ _ (by first | omega | (dsimp only; omega)), c2.2 _ _ (by first | omega | (dsimp only; omega)), o2.2 _ _ (by first | omega | (dsimp only; omega)), l2.2 _ _ (by first | omega | (dsimp only; omega)), k2.2 _ _ (by first | omega | (dsimp only; omega)), c2.2 _ _ (by first | omega | (dsimp only; omega))]
      exact h.2.2.2.1.2.2.1
