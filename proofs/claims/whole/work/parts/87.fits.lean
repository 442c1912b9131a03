/-! pure: which rules fit the notes -/
theorem or_6 : ∀ o, o < 6 → ∀ m, m < 2 ^ o → nI m ||| (1 <<< (nI o &&& 31)) = nI (m + 2 ^ o) := by decide +kernel
def mkN (f : Nat → Bool) (n : Nat) : Nat := smN (fun i => if f i = true then 2 ^ i else 0) n
theorem mkN_lt {f : Nat → Bool} : ∀ n, mkN f n < 2 ^ n
  | 0 => Nat.zero_lt_one
  | n + 1 => by
    have := mkN_lt (f := f) n
    show mkN f n + (if f n = true then 2 ^ n else 0) < 2 ^ (n + 1)
    rw [Nat.pow_succ]
    split <;> omega
theorem mkN_64 {f : Nat → Bool} : mkN f 6 < 64 := mkN_lt 6
/-- the suits that side 0 wins -/
def wsN (w : Nat → Nat) (n : Nat) : Nat := mkN (fun i => decide (w i = 0)) n
theorem wsN_S {w : Nat → Nat} {i : Nat} : wsN w (i + 1) = if w i = 0 then wsN w i + 2 ^ i else wsN w i := by
  show wsN w i + (if decide (w i = 0) = true then 2 ^ i else 0) = _
  by_cases h : w i = 0
  · rw [if_pos h, if_pos (by simpa using h)]
  · rw [if_neg h, if_neg (by simpa using h)]; omega
section Fit
variable {N n d t : Nat} {K W F : Nat → Nat}
theorem wonOf_e {S : Nat} {w : Nat → Nat} {mm : Mm} (hN : 100000 ≤ N) (hS : SC S) (hn : n ≤ 6) (hw2 : ∀ i, i < n → w i ≤ 2) (hW : HA mm (S + 1) n w) : fX7_wonOf N S (nI n) mm = some (nI (wsN w n), mm) := by
  have key : ∀ c i, i + c = n → ∀ f, c < f → fX7_wonOf_4 N f S (nI n) (nI (wsN w i)) (nI i) mm = some (nI (wsN w n), mm) := by
    intro c
    induction c with
    | zero =>
      intro i hi f hf
      obtain ⟨f, rfl⟩ : ∃ g, f = g + 1 := ⟨f - 1, by omega⟩
      obtain rfl : i = n := by omega
      unfold fX7_wonOf_4
      exact st_t (nI_le (by first | omega | (dsimp only; omega)) (by first | omega | (dsimp only; omega))) rfl
    | succ c ih =>
      intro i hi f hf
      obtain ⟨f, rfl⟩ : ∃ g, f = g + 1 := ⟨f - 1, by omega⟩
      have ih2 := ih (i + 1) (by first | omega | (dsimp only; omega)) f (by first | omega | (dsimp only; omega))
      rw [wsN_S] at ih2
      have hlt : wsN w i < 2 ^ i := mkN_lt i
      have h2 := hw2 i (by first | omega | (dsimp only; omega))
      unfold fX7_wonOf_4 fX7_wonOf_30
      rw [hS.1]
      simp only [nI_nat (show i < 2147483648 by omega)]
      refine st_f (nI_ge (by first | omega | (dsimp only; omega)) (by first | omega | (dsimp only; omega))) (st_f (nI_ge (show i < 6 by omega) (by first | omega | (dsimp only; omega))) (st_k hS.2.2.2.1 (show i < 6 by omega) (by first | omega | (dsimp only; omega)) ?_))
      rw [hW i (by first | omega | (dsimp only; omega)), nI_1]
      by_cases h0 : w i = 0
      · rw [if_pos h0] at ih2
        refine st_t (by rw [h0]; rfl) ?_
        rw [or_6 i (by first | omega | (dsimp only; omega)) _ hlt]; exact ih2
      · rw [if_neg h0] at ih2
        exact st_f (nw_ne (v := 0) h0 (by first | omega | (dsimp only; omega)) (by first | omega | (dsimp only; omega))) ih2
  exact key n 0 (by first | omega | (dsimp only; omega)) N (by first | omega | (dsimp only; omega))
theorem wonSet_e {w : Nat → Nat} {mm : Mm} (hN : 100000 ≤ N) (M : MS mm n K W F) (hw2 : ∀ i, i < n → w i ≤ 2) (hW : HA mm 187 n w) : fX12_wonSet N 175 mm = some (nI (wsN w n), mm) := by
  have hn := M.2.1
  have key : ∀ c i, i + c = n → ∀ f, c < f → fX12_wonSet_4 N f 175 (nI (wsN w i)) (nI i) mm = some (nI (wsN w n), mm) := by
    intro c
    induction c with
    | zero =>
      intro i hi f hf
      obtain ⟨f, rfl⟩ : ∃ g, f = g + 1 := ⟨f - 1, by omega⟩
      obtain rfl : i = n := by omega
      unfold fX12_wonSet_4
      exact st_t (by rw [M.1]; exact nI_le (by first | omega | (dsimp only; omega)) (by first | omega | (dsimp only; omega))) rfl
    | succ c ih =>
      intro i hi f hf
      obtain ⟨f, rfl⟩ : ∃ g, f = g + 1 := ⟨f - 1, by omega⟩
      have ih2 := ih (i + 1) (by first | omega | (dsimp only; omega)) f (by first | omega | (dsimp only; omega))
      rw [wsN_S] at ih2
      have hlt : wsN w i < 2 ^ i := mkN_lt i
      have h2 := hw2 i (by first | omega | (dsimp only; omega))
      unfold fX12_wonSet_4 fX12_wonSet_29
      simp only [LXm, nI_nat (show i < 2147483648 by omega)]
      refine st_f (by rw [M.1]; exact nI_ge (by first | omega | (dsimp only; omega)) (by first | omega | (dsimp only; omega))) (st_k rfl (show i < 6 by omega) (by first | omega | (dsimp only; omega)) ?_)
      rw [hW i (by first | omega | (dsimp only; omega)), nI_1]
      by_cases h0 : w i = 0
      · rw [if_pos h0] at ih2
        refine st_t (by rw [h0]; rfl) ?_
        rw [or_6 i (by first | omega | (dsimp only; omega)) _ hlt]; exact ih2
      · rw [if_neg h0] at ih2
        refine st_f (nw_ne (v := 0) h0 (by first | omega | (dsimp only; omega)) (by first | omega | (dsimp only; omega))) ?_
        rw [Int32.or_zero]; exact ih2
  exact key n 0 (by first | omega | (dsimp only; omega)) N (by first | omega | (dsimp only; omega))
/-- note k fits rule o -/
def ftB (K W F : Nat → Nat) (n d t : Nat) (Y : Nat → Nat → Nat) (Z : Nat → Nat) (o k : Nat) : Bool := decide (wsN (wn K F d (Y k) (rlN W n t o (yN Y k))) n = Z k)
def alB (P : Nat → Bool) : Nat → Nat → Bool
  | 0, _ => true
  | c + 1, k => P k && alB P c (k + 1)
def fitB (K W F : Nat → Nat) (n d t en : Nat) (Y : Nat → Nat → Nat) (Z : Nat → Nat) (o : Nat) : Bool := alB (ftB K W F n d t Y Z o) en 0
theorem SC_57 : SC 57 := ⟨rfl, rfl, rfl, rfl, rfl, rfl, by omega, by omega⟩
/-- the class' part that the rules stand on -/
def GC (mm : Mm) (n d t en : Nat) (K W F : Nat → Nat) (Y : Nat → Nat → Nat) (Z : Nat → Nat) : Prop := CS mm n K W F ∧ rd mm 3 6 = nI d ∧ rd mm 5 1 = nI t ∧ NTs mm n en Y Z
theorem GC.c {mm m2 : Mm} {en : Nat} {Y : Nat → Nat → Nat} {Z : Nat → Nat} (h : GC mm n d t en K W F Y Z) (e : ∀ k j, k ≤ 22 ∨ k = 193 ∨ (k = 175 ∧ j = 37) → rd m2 k j = rd mm k j) : GC m2 n d t en K W F Y Z :=
  ⟨CS_c h.1 (fun k j q => e _ _ (by first | omega | (dsimp only; omega))), by rw [e _ _ (by first | omega | (dsimp only; omega))]; exact h.2.1, by rw [e _ _ (by first | omega | (dsimp only; omega))]; exact h.2.2.1, h.2.2.2.c (fun k j q => e _ _ (by first | omega | (dsimp only; omega)))⟩
theorem cfits_l {o en : Nat} {Y : Nat → Nat → Nat} {Z : Nat → Nat} (hN : 100000 ≤ N) (h0 : 0 < n) (ho : o < 6) (hd9 : d ≤ 9) (ht40 : t ≤ 40) : ∀ c k mm, k + c = en → GC mm n d t en K W F Y Z → rd mm 60 0 = 0 → ∀ f, c < f → ∃ m', fX2_fits_2 N f 55 3 (nI o) (nI k) mm = some (if alB (ftB K W F n d t Y Z o) c k = true then 1 else 0, m') ∧ Fr (fun k _ => 56 ≤ k ∧ k ≤ 60) mm m' ∧ rd m' 60 0 = 0 := by
  intro c
  induction c with
  | zero =>
    intro k mm hk G h60 f hf
    obtain ⟨f, rfl⟩ : ∃ g, f = g + 1 := ⟨f - 1, by omega⟩
    obtain ⟨C, hd, ht, T⟩ := G
    have he := T.1
    refine ⟨mm, ?_, Fr.rf, h60⟩
    unfold fX2_fits_2
    exact st_t (by rw [T.2.1]; exact nI_le (by first | omega | (dsimp only; omega)) (by first | omega | (dsimp only; omega))) rfl
  | succ c ih =>
    intro k mm hk G h60 f hf
    obtain ⟨f, rfl⟩ : ∃ g, f = g + 1 := ⟨f - 1, by omega⟩
    obtain ⟨C, hd, ht, T⟩ := id G
    have he := T.1
    have hn := C.2.1
    have hke : k < en := by omega
    have hW : 0 < smN W n := wsum_pos h0 (fun i hi => (C.2.2 i hi).2.2.1)
    obtain ⟨y1, y2, y3, z1, z2, z3⟩ := T.2.2.2 k hke
    have hp := pw_n n (by first | omega | (dsimp only; omega))
    obtain ⟨m1, c1, f1, g1⟩ := layBy_e (N := N) (o := o) (k := k) hN h0 ho C ht ht40 T.2.1 he (by first | omega | (dsimp only; omega)) (T.yc (by first | omega | (dsimp only; omega))).1
    have G1 : GC m1 n d t en K W F Y Z := G.c (fun k j e => f1.2 _ _ (by first | omega | (dsimp only; omega)))
    obtain ⟨m2, c2, f2, w2, -, -⟩ := weigh_e (N := N) (S := 57) (p := 8 + k) (q := 56) (L := 6) (M := 6) (d := d) (x := Y k) (y := rlN W n t o (yN Y k)) (i := 0) (mm := m1) hN SC_57 hd9 (ln_6 (Or.inl (by first | omega | (dsimp only; omega)))) rfl ⟨Nat.le_refl _, by decide⟩ ⟨Nat.le_refl _, by decide⟩ (Or.inl (by first | omega | (dsimp only; omega))) (Or.inl (by decide)) (fun i hi => by have := y3 i hi; omega) (fun i hi => by have := rl_b (W := W) (t := t) (o := o) (y := yN Y k) h0 hW hi; omega) (by first | omega | (dsimp only; omega)) G1.1 G1.2.1 (y1.c (fun i _ => f1.2 _ _ (by first | omega | (dsimp only; omega)))) (fun i hi => by rw [g1 i (by first | omega | (dsimp only; omega)), if_pos hi]) (SW_0 (by rw [f1.2 _ _ (by first | omega | (dsimp only; omega))]; exact h60))
    have G2 : GC m2 n d t en K W F Y Z := G1.c (fun k j e => f2.2 _ _ (by first | omega | (dsimp only; omega)))
    have h602 : rd m2 60 0 = 0 := w2.2 0 (by first | omega | (dsimp only; omega))
    have hwon := wonOf_e (N := N) (S := 57) (mm := m2) (w := wn K F d (Y k) (rlN W n t o (yN Y k))) hN SC_57 hn (fun i _ => wn_2) (fun i hi => w2.1 i hi)
    have hws : wsN (wn K F d (Y k) (rlN W n t o (yN Y k))) n < 2 ^ n := mkN_lt n
    have F12 : Fr (fun k _ => 56 ≤ k ∧ k ≤ 60) mm m2 := (f1.mono (fun k j e => by omega)).tr (f2.mono (fun k j e => by omega))
    have pre : ∀ {r : Option (Int32 × Mm)}, (if nI (wsN (wn K F d (Y k) (rlN W n t o (yN Y k))) n) = nI (Z k) then (fX2_fits_2 N f 55 3 (nI o) (nI k + 1) m2) else (some (0, m2))) = r → fX2_fits_2 N (f + 1) 55 3 (nI o) (nI k) mm = r := by
      intro r hr
      have hat : fX0_wonAt N 3 (nI k) m2 = some (nI (Z k), m2) := by
        unfold fX0_wonAt
        simp only [LXa, nI_nat (show k < 2147483648 by omega)]
        refine st_f (nI_pos (by first | omega | (dsimp only; omega))) (st_t (by rw [G2.2.2.2.2.1]; exact nI_lt hke (by first | omega | (dsimp only; omega))) (st_k rfl (show k < 8 by omega) (by first | omega | (dsimp only; omega)) ?_))
        rw [F12.2 16 k (by first | omega | (dsimp only; omega)), z1]
      unfold fX2_fits_2
      refine st_f (by rw [T.2.1]; exact nI_ge hke (by first | omega | (dsimp only; omega))) (st_b (laidAt_t T.2.1 he hke) (st_c (st_b c1 ?_)))
      simp only [LXg]
      refine st_b c2 ?_
      rw [G2.1.1]
      exact st_b hwon (st_b hat hr)
    by_cases hft : wsN (wn K F d (Y k) (rlN W n t o (yN Y k))) n = Z k
    · obtain ⟨m', c3, f3, g3⟩ := ih (k + 1) m2 (by first | omega | (dsimp only; omega)) G2 h602 f (by first | omega | (dsimp only; omega))
      refine ⟨m', pre (st_t (by rw [hft]) ?_), F12.tr f3, g3⟩
      rw [nI_1, c3]
      have : ftB K W F n d t Y Z o k = true := decide_eq_true hft
      show _ = some (if (ftB K W F n d t Y Z o k && alB (ftB K W F n d t Y Z o) c (k + 1)) = true then 1 else 0, m')
      rw [this, Bool.true_and]
    · refine ⟨m2, pre (st_f (fun e => hft (nI_inj e (by first | omega | (dsimp only; omega)) (by first | omega | (dsimp only; omega)))) ?_), F12, h602⟩
      have : ftB K W F n d t Y Z o k = false := decide_eq_false hft
      show _ = some (if (ftB K W F n d t Y Z o k && alB (ftB K W F n d t Y Z o) c (k + 1)) = true then 1 else 0, m2)
      rw [this, Bool.false_and]
      rfl
theorem cfit_l {en : Nat} {Y : Nat → Nat → Nat} {Z : Nat → Nat} (hN : 100000 ≤ N) (h0 : 0 < n) (hd9 : d ≤ 9) (ht40 : t ≤ 40) : ∀ c o mm, o + c = 6 → GC mm n d t en K W F Y Z → rd mm 60 0 = 0 → ∀ f, c < f → ∃ m', fX2_fitting_4 N f 55 3 (nI (mkN (fitB K W F n d t en Y Z) o)) (nI o) mm = some (nI (mkN (fitB K W F n d t en Y Z) 6), m') ∧ Fr (fun k _ => 56 ≤ k ∧ k ≤ 60) mm m' ∧ rd m' 60 0 = 0 := by
  intro c
  induction c with
  | zero =>
    intro o mm ho G h60 f hf
    obtain ⟨f, rfl⟩ : ∃ g, f = g + 1 := ⟨f - 1, by omega⟩
    obtain rfl : o = 6 := by omega
    refine ⟨mm, ?_, Fr.rf, h60⟩
    unfold fX2_fitting_4
    exact st_t (by decide) rfl
  | succ c ih =>
    intro o mm ho G h60 f hf
    obtain ⟨f, rfl⟩ : ∃ g, f = g + 1 := ⟨f - 1, by omega⟩
    have he := G.2.2.2.1
    obtain ⟨m1, c1, f1, g1⟩ := cfits_l (N := N) (o := o) hN h0 (by first | omega | (dsimp only; omega)) hd9 ht40 en 0 mm (by first | omega | (dsimp only; omega)) G h60 N (by first | omega | (dsimp only; omega))
    obtain ⟨m', c2, f2, g2⟩ := ih (o + 1) m1 (by first | omega | (dsimp only; omega)) (G.c (fun k j e => f1.2 _ _ (by first | omega | (dsimp only; omega)))) g1 f (by first | omega | (dsimp only; omega))
    have hlt : mkN (fitB K W F n d t en Y Z) o < 2 ^ o := mkN_lt o
    have hS : mkN (fitB K W F n d t en Y Z) (o + 1) = mkN (fitB K W F n d t en Y Z) o + if fitB K W F n d t en Y Z o = true then 2 ^ o else 0 := rfl
    have c1' : fX2_fits N 55 3 (nI o) mm = some (if fitB K W F n d t en Y Z o = true then 1 else 0, m1) := c1
    refine ⟨m', ?_, f1.tr f2, g2⟩
    unfold fX2_fitting_4 fX2_fitting_25
    refine st_f (nI_ge (by first | omega | (dsimp only; omega)) (by first | omega | (dsimp only; omega))) (st_b c1' ?_)
    rw [nI_1]
    by_cases hb : fitB K W F n d t en Y Z o = true
    · rw [hS, if_pos hb] at c2
      rw [if_pos hb]
      refine st_f (by decide) ?_
      rw [or_6 o (by first | omega | (dsimp only; omega)) _ hlt]; exact c2
    · rw [hS, if_neg hb] at c2
      rw [if_neg hb]
      exact st_t rfl c2
theorem cfit_e {en : Nat} {Y : Nat → Nat → Nat} {Z : Nat → Nat} {mm : Mm} (hN : 100000 ≤ N) (h0 : 0 < n) (hd9 : d ≤ 9) (ht40 : t ≤ 40) (G : GC mm n d t en K W F Y Z) (h60 : rd mm 60 0 = 0) : ∃ m', fX2_fitting N 55 3 mm = some (nI (mkN (fitB K W F n d t en Y Z) 6), m') ∧ Fr (fun k _ => 56 ≤ k ∧ k ≤ 60) mm m' ∧ rd m' 60 0 = 0 :=
  cfit_l hN h0 hd9 ht40 6 0 mm (by first | omega | (dsimp only; omega)) G h60 N (by first | omega | (dsimp only; omega))
-- the model
def GM (mm : Mm) (n d t en : Nat) (K W F : Nat → Nat) (Y : Nat → Nat → Nat) (Z : Nat → Nat) : Prop := MS mm n K W F ∧ rd mm 175 13 = nI d ∧ rd mm 183 1 = nI t ∧ NTs mm n en Y Z
theorem GM.c {mm m2 : Mm} {en : Nat} {Y : Nat → Nat → Nat} {Z : Nat → Nat} (h : GM mm n d t en K W F Y Z) (e : ∀ k j, k ≤ 22 ∨ k = 193 ∨ (k = 182 ∧ j < 18) ∨ k = 183 ∨ (k = 175 ∧ (j = 10 ∨ j = 13 ∨ j = 37)) → rd m2 k j = rd mm k j) : GM m2 n d t en K W F Y Z :=
  ⟨MS_c h.1 (fun k j q => e _ _ (by first | omega | (dsimp only; omega))), by rw [e _ _ (by first | omega | (dsimp only; omega))]; exact h.2.1, by rw [e _ _ (by first | omega | (dsimp only; omega))]; exact h.2.2.1, h.2.2.2.c (fun k j q => e _ _ (by first | omega | (dsimp only; omega)))⟩
theorem mf18_l {k en : Nat} {x y : Nat → Nat} {z : Nat} {k2 : Nat → Int32 → Int32 → Mm → Option (Int32 × Mm)} {a1 : Int32} (hN : 100000 ≤ N) (hd9 : d ≤ 9) (hk : k < 8) (hx40 : ∀ i, i < n → x i ≤ 1000) (hy40 : ∀ i, i < n → y i ≤ 1000) : ∀ c i mm, i + c = n → MS mm n K W F → rd mm 175 13 = nI d → (∀ i, i < n → rd mm 193 (7 * k + i) = nI (x i)) → rd mm 193 (7 * k + 6) = nI z → HA mm 186 n y → HA mm 185 i x → ∀ f, c < f → ∃ m', fX12_fits_18 N k2 f 175 a1 (nI k) (nI i) mm = (if nI (wsN (wn K F d x y) n) = nI z then (k2 175 a1 (nI (k + 1)) m') else (some (0, m'))) ∧ Fr (fun k _ => k = 185 ∨ k = 187) mm m' := by
  intro c
  induction c with
  | zero =>
    intro i mm hi M hd hX hZ hy hx f hf
    obtain ⟨f, rfl⟩ : ∃ g, f = g + 1 := ⟨f - 1, by omega⟩
    obtain rfl : i = n := by omega
    have hn := M.2.1
    obtain ⟨m1, c1, f1, g1⟩ := setW_e (N := N) (x := x) (y := y) hN hd9 hx40 hy40 M hd hx hy
    have hws := wonSet_e (N := N) (mm := m1) (w := wn K F d x y) hN (MS_c M (fun k j e => f1.2 _ _ (by first | omega | (dsimp only; omega)))) (fun i _ => wn_2) g1
    refine ⟨m1, ?_, f1.mono (fun k j e => Or.inr e)⟩
    unfold fX12_fits_18
    refine st_t (by rw [M.1]; exact nI_le (by first | omega | (dsimp only; omega)) (by first | omega | (dsimp only; omega))) (st_b c1 (st_b hws ?_))
    rw [show (7 : Int32) * nI k + 6 = nI (7 * k + 6) by rw [show (7 : Int32) = nI 7 from rfl, nI_mul, show (6 : Int32) = nI 6 from rfl, nI_add]]
    simp only [LXm, nI_nat (show 7 * k + 6 < 2147483648 by omega)]
    refine st_k rfl (by first | omega | (dsimp only; omega)) (by first | omega | (dsimp only; omega)) ?_
    rw [f1.2 193 _ (by first | omega | (dsimp only; omega)), hZ, nI_1]
  | succ c ih =>
    intro i mm hi M hd hX hZ hy hx f hf
    obtain ⟨f, rfl⟩ : ∃ g, f = g + 1 := ⟨f - 1, by omega⟩
    have hn := M.2.1
    obtain ⟨m', c1, f1⟩ := ih (i + 1) (wr mm 185 i (nI (x i))) (by first | omega | (dsimp only; omega)) (MS_c M (fun k j e => rd_wr_k (by first | omega | (dsimp only; omega)))) hd (fun i hi => by rw [rd_wr_k (by first | omega | (dsimp only; omega))]; exact hX i hi) hZ (hy.c (fun j _ => rd_wr_k (by first | omega | (dsimp only; omega)))) (fun j hj => by
      by_cases hji : j = i
      · subst hji; rw [rd_wr_s]
      · rw [rd_wr_j hji]; exact hx j (by first | omega | (dsimp only; omega))) f (by first | omega | (dsimp only; omega))
    refine ⟨m', ?_, (fr_wr (S := fun k _ => k = 185 ∨ k = 187) Fr.rf (Or.inl rfl)).tr f1⟩
    unfold fX12_fits_18
    rw [show (7 : Int32) * nI k + nI i = nI (7 * k + i) by rw [show (7 : Int32) = nI 7 from rfl, nI_mul, nI_add]]
    simp only [LXm, nI_nat (show 7 * k + i < 2147483648 by omega), nI_nat (show i < 2147483648 by omega)]
    refine st_f (by rw [M.1]; exact nI_ge (by first | omega | (dsimp only; omega)) (by first | omega | (dsimp only; omega))) (st_k rfl (by first | omega | (dsimp only; omega)) (by first | omega | (dsimp only; omega)) (st_k rfl (show i < 6 by omega) (by first | omega | (dsimp only; omega)) (st_n ?_)))
    rw [hX i (by first | omega | (dsimp only; omega)), nI_1]
    exact c1
theorem mfits_l {o en : Nat} {Y : Nat → Nat → Nat} {Z : Nat → Nat} (hN : 100000 ≤ N) (h0 : 0 < n) (ho : o < 6) (hd9 : d ≤ 9) (ht40 : t ≤ 40) : ∀ c k mm, k + c = en → GM mm n d t en K W F Y Z → ∀ f, c < f → ∃ m', fX12_fits_2 N f 175 (nI o) (nI k) mm = some (if alB (ftB K W F n d t Y Z o) c k = true then 1 else 0, m') ∧ Fr (fun k _ => 185 ≤ k ∧ k ≤ 187) mm m' := by
  intro c
  induction c with
  | zero =>
    intro k mm hk G f hf
    obtain ⟨f, rfl⟩ : ∃ g, f = g + 1 := ⟨f - 1, by omega⟩
    obtain ⟨M, hd, ht, T⟩ := G
    have he := T.1
    refine ⟨mm, ?_, Fr.rf⟩
    unfold fX12_fits_2
    exact st_t (by rw [T.2.2.1]; exact nI_le (by first | omega | (dsimp only; omega)) (by first | omega | (dsimp only; omega))) rfl
  | succ c ih =>
    intro k mm hk G f hf
    obtain ⟨f, rfl⟩ : ∃ g, f = g + 1 := ⟨f - 1, by omega⟩
    obtain ⟨M, hd, ht, T⟩ := id G
    have he := T.1
    have hn := M.2.1
    have hke : k < en := by omega
    have hW : 0 < smN W n := wsum_pos h0 (fun i hi => (M.2.2 i hi).2.2.1)
    obtain ⟨y1, y2, y3, z1, z2, z3⟩ := T.2.2.2 k hke
    have hp := pw_n n (by first | omega | (dsimp only; omega))
    obtain ⟨m1, c1, f1, g1⟩ := layRule_e (N := N) (o := o) (k := k) hN h0 ho M ht ht40 (T.yc (by first | omega | (dsimp only; omega))).2
    obtain ⟨m2, c2, f2⟩ := mf18_l (N := N) (k := k) (en := en) (x := Y k) (y := rlN W n t o (yN Y k)) (z := Z k) (k2 := fX12_fits_2 N f) (a1 := nI o) hN hd9 (by first | omega | (dsimp only; omega)) (fun i hi => by have := y3 i hi; omega) (fun i hi => by have := rl_b (W := W) (t := t) (o := o) (y := yN Y k) h0 hW hi; omega) n 0 m1 (by first | omega | (dsimp only; omega)) (MS_c M (fun k j e => f1.2 _ _ (by first | omega | (dsimp only; omega)))) (by rw [f1.2 _ _ (by first | omega | (dsimp only; omega))]; exact hd) (fun i hi => by rw [f1.2 _ _ (by first | omega | (dsimp only; omega))]; exact y2 i hi) (by rw [f1.2 _ _ (by first | omega | (dsimp only; omega))]; exact z2) g1 (fun j hj => by omega) N (by first | omega | (dsimp only; omega))
    have hws : wsN (wn K F d (Y k) (rlN W n t o (yN Y k))) n < 2 ^ n := mkN_lt n
    have F12 : Fr (fun k _ => 185 ≤ k ∧ k ≤ 187) mm m2 := (f1.mono (fun k j e => by omega)).tr (f2.mono (fun k j e => by omega))
    have pre : ∀ {r : Option (Int32 × Mm)}, (if nI (wsN (wn K F d (Y k) (rlN W n t o (yN Y k))) n) = nI (Z k) then (fX12_fits_2 N f 175 (nI o) (nI (k + 1)) m2) else (some (0, m2))) = r → fX12_fits_2 N (f + 1) 175 (nI o) (nI k) mm = r := by
      intro r hr
      unfold fX12_fits_2
      exact st_f (by rw [T.2.2.1]; exact nI_ge hke (by first | omega | (dsimp only; omega))) (st_b c1 (c2.trans hr))
    by_cases hft : wsN (wn K F d (Y k) (rlN W n t o (yN Y k))) n = Z k
    · obtain ⟨m', c3, f3⟩ := ih (k + 1) m2 (by first | omega | (dsimp only; omega)) (G.c (fun k j e => F12.2 _ _ (by first | omega | (dsimp only; omega)))) f (by first | omega | (dsimp only; omega))
      refine ⟨m', pre (st_t (by rw [hft]) ?_), F12.tr f3⟩
      rw [c3]
      have : ftB K W F n d t Y Z o k = true := decide_eq_true hft
      show _ = some (if (ftB K W F n d t Y Z o k && alB (ftB K W F n d t Y Z o) c (k + 1)) = true then 1 else 0, m')
      rw [this, Bool.true_and]
    · refine ⟨m2, pre (st_f (fun e => hft (nI_inj e (by first | omega | (dsimp only; omega)) (by first | omega | (dsimp only; omega)))) ?_), F12⟩
      have : ftB K W F n d t Y Z o k = false := decide_eq_false hft
      show _ = some (if (ftB K W F n d t Y Z o k && alB (ftB K W F n d t Y Z o) c (k + 1)) = true then 1 else 0, m2)
      rw [this, Bool.false_and]
      rfl
theorem mfit_l {en : Nat} {Y : Nat → Nat → Nat} {Z : Nat → Nat} (hN : 100000 ≤ N) (h0 : 0 < n) (hd9 : d ≤ 9) (ht40 : t ≤ 40) : ∀ c o mm, o + c = 6 → GM mm n d t en K W F Y Z → ∀ f, c < f → ∃ m', fX12_fitting_4 N f 175 (nI (mkN (fitB K W F n d t en Y Z) o)) (nI o) mm = some (nI (mkN (fitB K W F n d t en Y Z) 6), m') ∧ Fr (fun k _ => 185 ≤ k ∧ k ≤ 187) mm m' := by
  intro c
  induction c with
  | zero =>
    intro o mm ho G f hf
    obtain ⟨f, rfl⟩ : ∃ g, f = g + 1 := ⟨f - 1, by omega⟩
    obtain rfl : o = 6 := by omega
    refine ⟨mm, ?_, Fr.rf⟩
    unfold fX12_fitting_4
    exact st_t (by decide) rfl
  | succ c ih =>
    intro o mm ho G f hf
    obtain ⟨f, rfl⟩ : ∃ g, f = g + 1 := ⟨f - 1, by omega⟩
    have he := G.2.2.2.1
    obtain ⟨m1, c1, f1⟩ := mfits_l (N := N) (o := o) hN h0 (by first | omega | (dsimp only; omega)) hd9 ht40 en 0 mm (by first | omega | (dsimp only; omega)) G N (by first | omega | (dsimp only; omega))
    obtain ⟨m', c2, f2⟩ := ih (o + 1) m1 (by first | omega | (dsimp only; omega)) (G.c (fun k j e => f1.2 _ _ (by first | omega | (dsimp only; omega)))) f (by first | omega | (dsimp only; omega))
    have hlt : mkN (fitB K W F n d t en Y Z) o < 2 ^ o := mkN_lt o
    have hS : mkN (fitB K W F n d t en Y Z) (o + 1) = mkN (fitB K W F n d t en Y Z) o + if fitB K W F n d t en Y Z o = true then 2 ^ o else 0 := rfl
    have c1' : fX12_fits N 175 (nI o) mm = some (if fitB K W F n d t en Y Z o = true then 1 else 0, m1) := c1
    refine ⟨m', ?_, f1.tr f2⟩
    unfold fX12_fitting_4 fX12_fitting_26
    refine st_f (nI_ge (by first | omega | (dsimp only; omega)) (by first | omega | (dsimp only; omega))) (st_b c1' ?_)
    rw [nI_1]
    by_cases hb : fitB K W F n d t en Y Z o = true
    · rw [hS, if_pos hb] at c2
      rw [if_pos hb]
      refine st_f (by decide) ?_
      rw [or_6 o (by first | omega | (dsimp only; omega)) _ hlt]; exact c2
    · rw [hS, if_neg hb] at c2
      rw [if_neg hb]
      refine st_t rfl ?_
      rw [Int32.or_zero]; exact c2
theorem mfit_e {en : Nat} {Y : Nat → Nat → Nat} {Z : Nat → Nat} {mm : Mm} (hN : 100000 ≤ N) (h0 : 0 < n) (hd9 : d ≤ 9) (ht40 : t ≤ 40) (G : GM mm n d t en K W F Y Z) : ∃ m', fX12_fitting N 175 mm = some (nI (mkN (fitB K W F n d t en Y Z) 6), m') ∧ Fr (fun k _ => 185 ≤ k ∧ k ≤ 187) mm m' :=
  mfit_l hN h0 hd9 ht40 6 0 mm (by first | omega | (dsimp only; omega)) G N (by first | omega | (dsimp only; omega))
end Fit
