/-! pure: adds, leaves -/
theorem RF_fr {mm m2 : Mm} (h : RF mm) (e : ∀ k j, (k = 0 ∧ (j = 13 ∨ j = 14)) ∨ (k = 175 ∧ (j = 0 ∨ j = 2)) ∨ k = 94 ∨ k = 176 → rd m2 k j = rd mm k j) (h1 : rdL m2 175 3 = rdL m2 0 15) (h2 : rdL m2 175 4 = rdL m2 0 16) : RF m2 := by
  obtain ⟨g1, g2, g3, -, -⟩ := h
  exact ⟨by rw [e _ _ (by first | omega | (dsimp only; omega)), e _ _ (by first | omega | (dsimp only; omega))]; exact g1, fun f hf => by rw [e _ _ (by first | omega | (dsimp only; omega)), e _ _ (by first | omega | (dsimp only; omega))]; exact g2 f hf, by rw [e _ _ (by first | omega | (dsimp only; omega)), e _ _ (by first | omega | (dsimp only; omega))]; exact g3, h1, h2⟩
theorem or_c : ∀ c, c < 16 → ∀ l, l < 4 → c / 2 ^ l % 2 = 0 → nI c ||| (1 <<< (nI l &&& 31)) = nI (c + 2 ^ l) ∧ c + 2 ^ l < 16 := by decide +kernel
theorem bit_up : ∀ c, c < 16 → ∀ l, l < 4 → ∀ q, q < 4 → (c / 2 ^ l % 2 = 0 ∧ ¬ c / 2 ^ q % 2 = 0) → ¬ (c + 2 ^ l) / 2 ^ q % 2 = 0 := by decide +kernel
def pcN (c : Nat) : Nat := c % 2 + c / 2 % 2 + c / 4 % 2 + c / 8 % 2
def odN (p : Nat) : Nat := if p = 0 ∨ p = 3 then 6 else 2
theorem pcN_4 (c : Nat) : pcN c ≤ 4 := by unfold pcN; omega
theorem bc_e {N c : Nat} {mm : Mm} (hc : c < 16) : fJ6_bitCount_0f7a4 N (nI c) mm = some (nI (pcN c), mm) := by
  rcases (by omega : c = 0 ∨ c = 1 ∨ c = 2 ∨ c = 3 ∨ c = 4 ∨ c = 5 ∨ c = 6 ∨ c = 7 ∨ c = 8 ∨ c = 9 ∨ c = 10 ∨ c = 11 ∨ c = 12 ∨ c = 13 ∨ c = 14 ∨ c = 15) with rfl | rfl | rfl | rfl | rfl | rfl | rfl | rfl | rfl | rfl | rfl | rfl | rfl | rfl | rfl | rfl <;> rfl
theorem pc_c : ∀ c, c < 16 → (((nI c &&& 1) + ((nI c >>> ((1 : Int32) &&& 31)) &&& 1)) + ((nI c >>> ((2 : Int32) &&& 31)) &&& 1)) + ((nI c >>> ((3 : Int32) &&& 31)) &&& 1) = nI (pcN c) := by decide +kernel
theorem ord_e {N p : Nat} {mm : Mm} (hp : p ≤ 4) : fX11_ordersAround N (nI p) mm = some (nI (odN p), mm) := by
  rcases (by omega : p = 0 ∨ p = 1 ∨ p = 2 ∨ p = 3 ∨ p = 4) with rfl | rfl | rfl | rfl | rfl <;> rfl
theorem odN_6 (p : Nat) : odN p ≤ 6 := by unfold odN; split <;> omega
theorem stN_up {s0 : Nat} {len : Nat → Nat} {c l : Nat} (hc : c < 16) (hl : l < 4) (hb : c / 2 ^ l % 2 = 0) : stN s0 len c ≤ stN s0 len (c + 2 ^ l) := by
  have : ∀ m, m ≤ 4 → smN (fun l => if c / 2 ^ l % 2 = 0 then 0 else len l) m ≤ smN (fun q => if (c + 2 ^ l) / 2 ^ q % 2 = 0 then 0 else len q) m := by
    intro m
    induction m with
    | zero => intro _; exact Nat.le_refl _
    | succ m ih =>
      intro hm
      have h1 := ih (by first | omega | (dsimp only; omega))
      show _ + (if c / 2 ^ m % 2 = 0 then 0 else len m) ≤ _ + (if (c + 2 ^ l) / 2 ^ m % 2 = 0 then 0 else len m)
      by_cases hq : c / 2 ^ m % 2 = 0
      · rw [if_pos hq]; omega
      · rw [if_neg hq, if_neg (bit_up c hc l hl m (by first | omega | (dsimp only; omega)) ⟨hb, hq⟩)]
        omega
  have := this 4 (by first | omega | (dsimp only; omega))
  unfold stN; omega
theorem stN_ge {s0 : Nat} {len : Nat → Nat} {c : Nat} : s0 ≤ stN s0 len c := Nat.le_add_right _ _
theorem stN_15 {s0 : Nat} {len : Nat → Nat} {c : Nat} (hc : c < 16) : stN s0 len c ≤ stN s0 len 15 := by
  have hall : ∀ q, q < 4 → 15 / 2 ^ q % 2 ≠ 0 := by decide
  have : ∀ m, m ≤ 4 → smN (fun l => if c / 2 ^ l % 2 = 0 then 0 else len l) m ≤ smN (fun q => if 15 / 2 ^ q % 2 = 0 then 0 else len q) m := by
    intro m
    induction m with
    | zero => intro _; exact Nat.le_refl _
    | succ m ih =>
      intro hm
      have h1 := ih (by first | omega | (dsimp only; omega))
      show _ + (if c / 2 ^ m % 2 = 0 then 0 else len m) ≤ _ + (if 15 / 2 ^ m % 2 = 0 then 0 else len m)
      rw [if_neg (hall m (by first | omega | (dsimp only; omega)))]
      by_cases hq : c / 2 ^ m % 2 = 0
      · rw [if_pos hq]; omega
      · rw [if_neg hq]; omega
  have := this 4 (by first | omega | (dsimp only; omega))
  unfold stN; omega
/-- the sum of adds over the first sets -/
def adN (B : Nat → Nat) (l : Nat) : Nat → Nat
  | 0 => 0
  | c + 1 => adN B l c + (if c / 2 ^ l % 2 = 0 then odN (pcN c) * (B (c + 2 ^ l) - B c) else 0)
theorem adN_b {B : Nat → Nat} {l : Nat} (hB : ∀ c, B c ≤ 108) : ∀ c, adN B l c ≤ 648 * c := by
  intro c
  induction c with
  | zero => exact Nat.le_refl _
  | succ c ih =>
    have h1 : odN (pcN c) * (B (c + 2 ^ l) - B c) ≤ 6 * 108 := Nat.mul_le_mul (odN_6 _) (by have := hB (c + 2 ^ l); omega)
    show adN B l c + (if c / 2 ^ l % 2 = 0 then odN (pcN c) * (B (c + 2 ^ l) - B c) else 0) ≤ _
    split <;> omega
section Ads
variable {N n d s l : Nat} {K W F z len : Nat → Nat} {B : Nat → Nat}
theorem cadds_l {mm : Mm} {B0 : Nat} (hN : 100000 ≤ N) (hl : l < 4) (hB8 : ∀ c, B c ≤ 108) (hB0 : ∀ c, c < 16 → B0 ≤ B c) (hup : ∀ c, c < 16 → c / 2 ^ l % 2 = 0 → B c ≤ B (c + 2 ^ l)) (hw : ∀ c, c < 16 → fX11_worthOf N 0 (nI c) mm = some (nI (B c) - nI B0, mm)) : ∀ cc c, c + cc = 16 → ∀ f, cc < f → fX11_adds_80 N f 0 (nI l) (nI (adN B l c)) (nI c) mm = some (1, wrL (wrL mm 0 15 (frU (adN B l 16) 24)) 0 16 (frL (adN B l 16) 24)) := by
  intro cc
  induction cc with
  | zero =>
    intro c hc f hf
    obtain ⟨f, rfl⟩ : ∃ g, f = g + 1 := ⟨f - 1, by omega⟩
    obtain rfl : c = 16 := by omega
    have hb := adN_b (l := l) hB8 16
    unfold fX11_adds_80
    refine st_t (nI_lt (by first | omega | (dsimp only; omega)) (by first | omega | (dsimp only; omega))) ?_
    rw [nI_l (by first | omega | (dsimp only; omega))]
    exact st_b (cfrac_e (w := 24) hN (by first | omega | (dsimp only; omega)) (by first | omega | (dsimp only; omega)) (by first | omega | (dsimp only; omega))) rfl
  | succ cc ih =>
    intro c hc f hf
    obtain ⟨f, rfl⟩ : ∃ g, f = g + 1 := ⟨f - 1, by omega⟩
    have ih2 := ih (c + 1) (by first | omega | (dsimp only; omega)) f (by first | omega | (dsimp only; omega))
    have hs : adN B l (c + 1) = adN B l c + (if c / 2 ^ l % 2 = 0 then odN (pcN c) * (B (c + 2 ^ l) - B c) else 0) := rfl
    rw [hs] at ih2
    unfold fX11_adds_80 fX11_adds_127
    simp only [nI_1]
    refine st_f (nI_nlt (by first | omega | (dsimp only; omega)) (by first | omega | (dsimp only; omega))) ?_
    rw [bit_c c (by first | omega | (dsimp only; omega)) l hl]
    by_cases hb : c / 2 ^ l % 2 = 0
    · rw [if_pos hb] at ih2
      obtain ⟨o1, o2⟩ := or_c c (by first | omega | (dsimp only; omega)) l hl hb
      have b1 := hB0 c (by first | omega | (dsimp only; omega))
      have b2 := hup c (by first | omega | (dsimp only; omega)) hb
      have b3 := hB8 (c + 2 ^ l)
      refine st_t (by rw [hb]; rfl) (st_b (bc_e (by first | omega | (dsimp only; omega))) (st_b (ord_e (pcN_4 c)) ?_))
      rw [o1]
      refine st_b (hw _ o2) (st_b (hw c (by first | omega | (dsimp only; omega))) ?_)
      rw [nI_sub (by first | omega | (dsimp only; omega)), nI_sub (by first | omega | (dsimp only; omega)), nI_sub (by first | omega | (dsimp only; omega)), nI_mul, nI_add, show B (c + 2 ^ l) - B0 - (B c - B0) = B (c + 2 ^ l) - B c by omega]
      exact ih2
    · rw [if_neg hb] at ih2
      exact st_f (fun q => hb (nI_inj (b := 0) q (by first | omega | (dsimp only; omega)) (by first | omega | (dsimp only; omega)))) ih2
theorem madds_l (hN : 100000 ≤ N) (hl : l < 4) (hB8 : ∀ c, B c ≤ 108) (hup : ∀ c, c < 16 → c / 2 ^ l % 2 = 0 → B c ≤ B (c + 2 ^ l)) (hw : ∀ c mm, c < 16 → MZ mm n d s K W F z len → ∃ m', fX12_scoreWith N 175 (nI c) mm = some (nI (B c), m') ∧ Fr (fun k j => (k = 175 ∧ (j = 22 ∨ j = 24 ∨ j = 25)) ∨ (187 ≤ k ∧ k ≤ 189)) mm m') : ∀ cc c mm, c + cc = 16 → MZ mm n d s K W F z len → ∀ f, cc < f → ∃ m', fX12_adds_44 N f 175 (nI l) (nI (adN B l c)) (nI c) mm = some (1, wrL (wrL m' 175 3 (frU (adN B l 16) 24)) 175 4 (frL (adN B l 16) 24)) ∧ Fr (fun k j => (k = 175 ∧ (j = 22 ∨ j = 24 ∨ j = 25)) ∨ (187 ≤ k ∧ k ≤ 189)) mm m' := by
  intro cc
  induction cc with
  | zero =>
    intro c mm hc hZ f hf
    obtain ⟨f, rfl⟩ : ∃ g, f = g + 1 := ⟨f - 1, by omega⟩
    obtain rfl : c = 16 := by omega
    have hb := adN_b (l := l) hB8 16
    refine ⟨mm, ?_, Fr.rf⟩
    unfold fX12_adds_44
    refine st_t (nI_le (by first | omega | (dsimp only; omega)) (by first | omega | (dsimp only; omega))) ?_
    rw [nI_l (by first | omega | (dsimp only; omega))]
    exact st_b (mfrac_e (w := 24) hN (by first | omega | (dsimp only; omega)) (by first | omega | (dsimp only; omega)) (by first | omega | (dsimp only; omega))) rfl
  | succ cc ih =>
    intro c mm hc hZ f hf
    obtain ⟨f, rfl⟩ : ∃ g, f = g + 1 := ⟨f - 1, by omega⟩
    have hs : adN B l (c + 1) = adN B l c + (if c / 2 ^ l % 2 = 0 then odN (pcN c) * (B (c + 2 ^ l) - B c) else 0) := rfl
    by_cases hb : c / 2 ^ l % 2 = 0
    · rw [if_pos hb] at hs
      obtain ⟨o1, o2⟩ := or_c c (by first | omega | (dsimp only; omega)) l hl hb
      have b2 := hup c (by first | omega | (dsimp only; omega)) hb
      obtain ⟨m1, p1, p2⟩ := hw _ mm o2 hZ
      obtain ⟨m2, q1, q2⟩ := hw c m1 (by first | omega | (dsimp only; omega)) (hZ.c p2)
      obtain ⟨m', r1, r2⟩ := ih (c + 1) m2 (by first | omega | (dsimp only; omega)) ((hZ.c p2).c q2) f (by first | omega | (dsimp only; omega))
      refine ⟨m', ?_, p2.tr (q2.tr r2)⟩
      rw [hs] at r1
      have h104 : ∀ o : Int32, o = nI (odN (pcN c)) → fX12_adds_104 N (fX12_adds_44 N f) 175 (nI l) (nI (adN B l c)) (nI c) o mm = some (1, wrL (wrL m' 175 3 (frU (adN B l 16) 24)) 175 4 (frL (adN B l 16) 24)) := by
        intro o ho
        subst ho
        unfold fX12_adds_104 fX12_adds_131
        rw [o1]
        refine st_b p1 (st_b q1 ?_)
        rw [nI_sub (by first | omega | (dsimp only; omega)), nI_mul, nI_add, nI_1]
        exact r1
      unfold fX12_adds_44 fX12_adds_98
      refine st_f (nI_ge (b := 16) (by first | omega | (dsimp only; omega)) (by first | omega | (dsimp only; omega))) ?_
      rw [bit_c c (by first | omega | (dsimp only; omega)) l hl]
      refine st_t (by rw [hb]; rfl) (st_n ?_)
      rw [pc_c c (by first | omega | (dsimp only; omega))]
      have h4 := pcN_4 c
      by_cases e0 : pcN c = 0
      · exact st_t (by rw [e0]; rfl) (h104 6 (by rw [e0]; rfl))
      · refine st_f (fun q => e0 (nI_inj (b := 0) q (by first | omega | (dsimp only; omega)) (by first | omega | (dsimp only; omega)))) ?_
        by_cases e3 : pcN c = 3
        · exact st_t (by rw [e3]; rfl) (h104 6 (by rw [e3]; rfl))
        · refine st_f (fun q => e3 (nI_inj (b := 3) q (by first | omega | (dsimp only; omega)) (by first | omega | (dsimp only; omega)))) (h104 2 ?_)
          unfold odN
          rw [if_neg (by first | omega | (dsimp only; omega))]; rfl
    · rw [if_neg hb] at hs
      obtain ⟨m', r1, r2⟩ := ih (c + 1) mm (by first | omega | (dsimp only; omega)) hZ f (by first | omega | (dsimp only; omega))
      refine ⟨m', ?_, r2⟩
      rw [hs] at r1
      unfold fX12_adds_44 fX12_adds_131
      refine st_f (nI_ge (b := 16) (by first | omega | (dsimp only; omega)) (by first | omega | (dsimp only; omega))) ?_
      rw [bit_c c (by first | omega | (dsimp only; omega)) l hl, nI_1]
      exact st_f (fun q => hb (nI_inj (b := 0) q (by first | omega | (dsimp only; omega)) (by first | omega | (dsimp only; omega)))) r1
end Ads
/-- the class' worth of a set, told by the greatest scores -/
theorem worth_e {N s c : Nat} {len : Nat → Nat} {G : Nat → Option Nat} {mm : Mm} (hN : 100000 ≤ N) (hc : c < 16) (hs : rd mm 5 0 = nI s) (hl : HA mm 6 4 len) (h40 : stN s len c ≤ 40) (hS : ∀ u, u ≤ 240 → rd mm 37 u = oV (-1) (G u) ∧ ∀ v, G u = some v → v ≤ 108) : fX11_worthOf N 0 (nI c) mm = some (nI (mN G (stN s len c + 1)) - nI (mN G (s + 1)), mm) := by
  have := stN_ge (s0 := s) (len := len) (c := c)
  unfold fX11_worthOf
  simp only [LXa, LXb]
  refine st_b (cstock_e hN hc hs hl) (st_b (mostBy_e hN hS (by first | omega | (dsimp only; omega))) (st_g (by decide) ?_))
  rw [show ((0 : Int32).toNatClampNeg) = 0 from rfl, hs]
  exact st_b (mostBy_e hN hS (by first | omega | (dsimp only; omega))) rfl
theorem ok_29 {N : Nat} (hN : 100000 ≤ N) : OK_29 N Rel := by
  intro a1 a2 mm h
  obtain ⟨n, K, W, F, d, s, t, C, M, hd, hd', hd9, hs, hs', hs40, ht, ht', ht40⟩ := Rel_data h
  obtain ⟨len, hl, hl', hl20⟩ := Rel_lend h
  have hn := C.2.1
  rcases rng a1 4 with ⟨l, hl4, -, rfl⟩ | hb
  rotate_left
  · refine ⟨-1, mm, mm, ?_, ?_, h⟩
    · unfold fX11_adds
      have : ∀ x1, (if a1 < 0 then some ((-1 : Int32), mm) else if (4 : Int32) ≤ a1 then some (-1, mm) else x1) = some (-1, mm) := by
        intro x1
        rcases hb with hb | ⟨j, h1, h2, rfl⟩
        · exact st_t hb rfl
        · exact st_f (nI_pos h2) (st_t (nI_le (by first | omega | (dsimp only; omega)) h2) rfl)
      rcases rng a2 6 with ⟨r, hr, -, rfl⟩ | hb2
      · exact st_b (rowOf_t hr) (this _)
      · exact st_b (rowOf_n hb2) (this _)
    · unfold fX12_adds
      exact st_b (in_o (n := 4) rfl hb (by first | omega | (dsimp only; omega))) (st_t rfl rfl)
  have hin : ∀ m, fX12_in N (nI l) 0 3 m = some (1, m) := fun m => in_t (nI_pos (by first | omega | (dsimp only; omega))) (nI_nlt (by first | omega | (dsimp only; omega)) (by first | omega | (dsimp only; omega)))
  rcases rng a2 6 with ⟨r, hr, -, rfl⟩ | hb
  rotate_left
  · refine ⟨-1, mm, mm, ?_, ?_, h⟩
    · unfold fX11_adds
      exact st_b (rowOf_n hb) (st_f (nI_pos (by first | omega | (dsimp only; omega))) (st_f (nI_ge (by first | omega | (dsimp only; omega)) (by first | omega | (dsimp only; omega))) (st_c0 rfl)))
    · unfold fX12_adds
      exact st_b (hin _) (st_f (by decide) (st_b (isRow_n hb) (st_t rfl rfl)))
  rcases one_e (a := 1) hN h C M hr (by first | omega | (dsimp only; omega)) ht ht' ht40 with ⟨f, hf, e1, e2⟩ | ⟨e1, z1, z2, L1, v1, e2⟩
  · refine ⟨-3, cRef f mm, mMeet f (cRef f mm), ?_, ?_, rel_ref h hf⟩
    · unfold fX11_adds
      exact st_b (rowOf_t hr) (st_f (nI_pos (by first | omega | (dsimp only; omega))) (st_f (nI_ge (by first | omega | (dsimp only; omega)) (by first | omega | (dsimp only; omega))) (st_c (st_b e1 (st_f (by decide) rfl)))))
    · unfold fX12_adds fX12_askedLend
      exact st_b (hin _) (st_f (by decide) (st_b (isRow_t hr) (st_f (by decide) (st_b (st_b (e2 _ (fun k j hk => rd_cRef (by first | omega | (dsimp only; omega)) (by first | omega | (dsimp only; omega)))) (st_f (by decide) rfl)) (st_f (by decide) rfl)))))
  · have hstb := stN_b (set := 15) hl20 hs40
    by_cases hst : stN s len 15 ≤ 40
    rotate_left
    · refine ⟨-6, mm, mm, ?_, ?_, h⟩
      · unfold fX11_adds
        simp only [LXa]
        exact st_b (rowOf_t hr) (st_f (nI_pos (by first | omega | (dsimp only; omega))) (st_f (nI_ge (by first | omega | (dsimp only; omega)) (by first | omega | (dsimp only; omega))) (st_c (st_b e1 (st_t rfl (st_b (cstock_e (set := 15) hN (by first | omega | (dsimp only; omega)) hs hl) (st_f (nI_ge (by first | omega | (dsimp only; omega)) (by first | omega | (dsimp only; omega))) rfl)))))))
      · unfold fX12_adds fX12_askedLend
        exact st_b (hin _) (st_f (by decide) (st_b (isRow_t hr) (st_f (by decide) (st_b (st_b (e2 _ (fun k j hk => rfl)) (st_t (by decide) (st_b (mstock_e (set := 15) hN (by first | omega | (dsimp only; omega)) hs' hl') (st_f (nI_ge (by first | omega | (dsimp only; omega)) (by first | omega | (dsimp only; omega))) rfl)))) (st_f (by decide) rfl)))))
    obtain ⟨x1, x2⟩ := lay_n L1
    generalize lO (fun j => rd mm (96 + 2 * r) j) = x at x1 x2
    have x1' : HA mm (96 + 2 * r) n x := x1
    have x3 : ∀ i, i < n → x i ≤ 1000 := fun i hi => by have := x2 i hi; omega
    obtain ⟨m1, c1, c2, c3⟩ := run_e (N := N) (d := d) (most := 40) hN hd9 (by first | omega | (dsimp only; omega)) (ln_row hr) (by first | omega | (dsimp only; omega)) (by first | omega | (dsimp only; omega)) x3 C x1'
    have c31 := c3.1
    have h40 : ∀ c, c < 16 → stN s len c ≤ 40 := fun c hc => Nat.le_trans (stN_15 hc) hst
    obtain ⟨G, hG⟩ : ∃ G, G = (lvs K W F d x 0 40 n 0 (fun _ => 0) (fun _ => 0) 0 0).foldl gst (fun _ => none) := ⟨_, rfl⟩
    have hsc : ∀ c m, c < 16 → MZ m n d s K W F x len → ∃ m', fX12_scoreWith N 175 (nI c) m = some (nI (mN G (stN s len c + 1)), m') ∧ Fr (fun k j => (k = 175 ∧ (j = 22 ∨ j = 24 ∨ j = 25)) ∨ (187 ≤ k ∧ k ≤ 189)) m m' := by
      intro c m hc hZ
      rw [hG]
      exact mscore_e hN hd9 x3 hZ hc (h40 c hc)
    rw [← hG] at c31
    obtain ⟨B, hB⟩ : ∃ B : Nat → Nat, B = fun c => if c < 16 then mN G (stN s len c + 1) else 0 := ⟨_, rfl⟩
    have hBc : ∀ c, c < 16 → B c = mN G (stN s len c + 1) := fun c hc => by rw [hB]; exact if_pos hc
    have hB8 : ∀ c, B c ≤ 108 := fun c => by
      by_cases hc : c < 16
      · rw [hBc c hc]
        exact mN_108 (fun u v hu hv => (c31 u (by have := h40 c hc; omega)).2 v hv)
      · rw [hB]; show (if c < 16 then _ else 0) ≤ 108
        rw [if_neg hc]; omega
    have hup : ∀ c, c < 16 → c / 2 ^ l % 2 = 0 → B c ≤ B (c + 2 ^ l) := fun c hc hb => by
      rw [hBc c hc, hBc _ (or_c c hc l hl4 hb).2]
      exact mN_up G _ _ (by have := stN_up (s0 := s) (len := len) hc hl4 hb; omega)
    have hB0 : ∀ c, c < 16 → mN G (s + 1) ≤ B c := fun c hc => by
      rw [hBc c hc]
      exact mN_up G _ _ (by have := stN_ge (s0 := s) (len := len) (c := c); omega)
    have hcl := cadds_l (N := N) (l := l) (B := B) (mm := m1) hN hl4 hB8 hB0 hup (fun c hc => by
      rw [hBc c hc]
      exact worth_e hN hc (by rw [c2.2 _ _ (by first | omega | (dsimp only; omega))]; exact hs) (hl.c (fun i hi => c2.2 _ _ (by first | omega | (dsimp only; omega)))) (h40 c hc) c31) 16 0 (by first | omega | (dsimp only; omega)) N (by first | omega | (dsimp only; omega))
    generalize hA2 : adN B l 16 = A2 at hcl
    have hA : MA mm (wrL (wrL m1 0 15 (frU A2 24)) 0 16 (frL A2 24)) := fun k j hk => c2.2 _ _ (by first | omega | (dsimp only; omega))
    have M1 := hA.ms M
    obtain ⟨ma, k1, k2, k3⟩ := takes_e (N := N) (s := 1) (x := x) hN hr (by first | omega | (dsimp only; omega)) M1 (fun i hi => by rw [hA _ _ (by first | omega | (dsimp only; omega)), ← v1 i hi]; exact x1 i hi)
    have Z : MZ ma n d s K W F x len := ⟨MS_c M1 (fun k j e => k2.2 _ _ (by first | omega | (dsimp only; omega))), by rw [k2.2 _ _ (by first | omega | (dsimp only; omega)), hA _ _ (by first | omega | (dsimp only; omega))]; exact hd', k3, by rw [k2.2 _ _ (by first | omega | (dsimp only; omega)), hA _ _ (by first | omega | (dsimp only; omega))]; exact hs', hl'.c (fun i hi => by rw [k2.2 _ _ (by first | omega | (dsimp only; omega)), hA _ _ (by first | omega | (dsimp only; omega))])⟩
    obtain ⟨mb, l1, l2⟩ := madds_l (N := N) (l := l) (B := B) (n := n) (d := d) (s := s) (z := x) (len := len) hN hl4 hB8 hup (fun c m hc hZ => by rw [hBc c hc]; exact hsc c m hc hZ) 16 0 ma (by first | omega | (dsimp only; omega)) Z N (by first | omega | (dsimp only; omega))
    rw [hA2] at l1
    refine ⟨1, wrL (wrL m1 0 15 (frU A2 24)) 0 16 (frL A2 24), wrL (wrL mb 175 3 (frU A2 24)) 175 4 (frL A2 24), ?_, ?_, ?_⟩
    · unfold fX11_adds
      refine st_b (rowOf_t hr) (st_f (nI_pos (by first | omega | (dsimp only; omega))) (st_f (nI_ge (by first | omega | (dsimp only; omega)) (by first | omega | (dsimp only; omega))) (st_c (st_b e1 (st_t rfl ?_)))))
      simp only [LXa, fr_row hr]
      refine st_b (cstock_e (set := 15) hN (by first | omega | (dsimp only; omega)) hs hl) (st_t (nI_le hst (by first | omega | (dsimp only; omega))) ?_)
      rw [hd]
      exact st_b c1 hcl
    · unfold fX12_adds fX12_askedLend
      exact st_b (hin _) (st_f (by decide) (st_b (isRow_t hr) (st_f (by decide) (st_b (st_b (e2 _ hA) (st_t (by decide) (st_b (mstock_e (set := 15) hN (by first | omega | (dsimp only; omega)) (by rw [hA _ _ (by first | omega | (dsimp only; omega))]; exact hs') (hl'.c (fun i hi => hA _ _ (by first | omega | (dsimp only; omega))))) (st_t (nI_le hst (by first | omega | (dsimp only; omega))) rfl)))) (st_t (by decide) (st_b k1 l1))))))
    · have hk : ∀ k j, ¬ ScA 6 k j → rd (wrL (wrL mb 175 3 (frU A2 24)) 175 4 (frL A2 24)) k j = rd mm k j := fun k j hk => by
        have n1 : ¬ ScC k j := fun q => hk (Or.inl q)
        have n2 : ¬ ScM k j := fun q => hk (Or.inr (Or.inl q))
        unfold ScC at n1
        unfold ScM at n2
        rw [rd_wrL, rd_wrL, l2.2 _ _ (by first | omega | (dsimp only; omega)), k2.2 _ _ (by first | omega | (dsimp only; omega)), rd_wrL, rd_wrL, c2.2 _ _ (by first | omega | (dsimp only; omega))]
      have hrow : ∀ k j, (k ≤ 23 ∨ (94 ≤ k ∧ k ≤ 178) ∨ (k = 32 ∨ k = 46 ∨ k = 50 ∨ k = 60 ∨ k = 73 ∨ k = 77 ∨ k = 81 ∨ k = 85 ∨ k = 89 ∨ k = 93)) ∧ (k = 175 → j = 0 ∨ j = 2) → rd (wrL (wrL mb 175 3 (frU A2 24)) 175 4 (frL A2 24)) k j = rd mm k j := fun k j hk => by
        rw [rd_wrL, rd_wrL, l2.2 _ _ (by first | omega | (dsimp only; omega)), k2.2 _ _ (by first | omega | (dsimp only; omega)), rd_wrL, rd_wrL, c2.2 _ _ (by first | omega | (dsimp only; omega))]
      refine Rel_g0 (r := 6) h hk (RA_c h.2.2.2.2.1 (fun k q => hrow k 0 (by first | omega | (dsimp only; omega)))) (RF_fr h.2.2.2.1 (fun k j e => hrow k j (by first | omega | (dsimp only; omega))) ?_ ?_) (RR_c h.1 (fun k j e => hrow k j (by first | omega | (dsimp only; omega))))
      · have e1 : rdL mb 0 15 = frU A2 24 := by
          rw [l2.L, k2.L, rdL_wrL, if_neg (by first | omega | (dsimp only; omega)), rdL_wrL, if_pos ⟨rfl, rfl⟩]
        rw [rdL_wrL, if_neg (by first | omega | (dsimp only; omega)), rdL_wrL, if_pos ⟨rfl, rfl⟩, rdL_wrL, if_neg (by first | omega | (dsimp only; omega)), rdL_wrL, if_neg (by first | omega | (dsimp only; omega)), e1]
      · have e1 : rdL mb 0 16 = frL A2 24 := by
          rw [l2.L, k2.L, rdL_wrL, if_pos ⟨rfl, rfl⟩]
        rw [rdL_wrL, if_pos ⟨rfl, rfl⟩, rdL_wrL, if_neg (by first | omega | (dsimp only; omega)), rdL_wrL, if_neg (by first | omega | (dsimp only; omega)), e1]
