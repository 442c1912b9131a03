/-! pure: the class' table of turns -/
def NdX (K F : Nat → Nat) (d i x w : Nat) (R : Int32) : Prop := NdR (fun y => zN K F d i x y = w) R
section Tab
variable {N n d : Nat} {K W F : Nat → Nat}
theorem place_e {i a b : Nat} {mm : Mm} (hi : i ≤ 6) (ha : a < 16) (hb : b < 16) : fX10_placeOf N (nI i) (nI a) (nI b) mm = some (nI ((i * 16 + a) * 16 + b), mm) := by
  unfold fX10_placeOf
  refine st_f (nI_pos (by first | omega | (dsimp only; omega))) (st_f (nI_nlt hi (by first | omega | (dsimp only; omega))) (st_f (nI_pos (by first | omega | (dsimp only; omega))) (st_f (nI_ge ha (by first | omega | (dsimp only; omega))) (st_f (nI_pos (by first | omega | (dsimp only; omega))) (st_t (nI_lt hb (by first | omega | (dsimp only; omega))) ?_)))))
  rw [show (16 : Int32) = nI 16 from rfl, nI_mul, nI_add, nI_mul, nI_add]
theorem value_e {i a b : Nat} {mm : Mm} (hi : i ≤ 6) (ha : a < 16) (hb : b < 16) : fX10_value N 52 (nI i) (nI a) (nI b) mm = some (rd mm 53 ((i * 16 + a) * 16 + b), mm) := by
  unfold fX10_value
  simp only [LXb]
  refine st_b (place_e hi ha hb) (st_t (nI_pos' (by first | omega | (dsimp only; omega))) (st_k rfl (by first | omega | (dsimp only; omega)) (by first | omega | (dsimp only; omega)) ?_))
  rw [nI_nat (by first | omega | (dsimp only; omega))]
theorem cprep_20 {i x : Nat} {R : Option (Unit × Mm)} {k10 : Nat → Nat → Int32 → Int32 → Mm → Option (Unit × Mm)} (hd9 : d ≤ 9) (hi : i < n) (hx : x < 16) : ∀ c w mm, w + c = 3 → CS mm n K W F → ∀ f, c < f → ∃ m', fX10_prepare_20 N k10 f 52 (17 + i) (nI (exN (K i) (F i) d 0)) (nI x) (nI w) mm = k10 52 (17 + i) (nI (exN (K i) (F i) d 0)) (nI (x + 1)) m' ∧ Fr (fun k j => k = 54 ∧ x * 3 ≤ j ∧ j < x * 3 + 3) mm m' ∧ (∀ v, w ≤ v → v < 3 → NdX K F d i x v (rd m' 54 (x * 3 + v))) ∧ ∀ v, v < w → rd m' 54 (x * 3 + v) = rd mm 54 (x * 3 + v) := by
  intro c
  induction c with
  | zero =>
    intro w mm hw C f hf
    obtain ⟨f, rfl⟩ : ∃ g, f = g + 1 := ⟨f - 1, by omega⟩
    obtain rfl : w = 3 := by omega
    refine ⟨mm, ?_, Fr.rf, fun v h1 h2 => by omega, fun _ _ => rfl⟩
    unfold fX10_prepare_20
    exact st_t (by decide) (by rw [nI_1])
  | succ c ih =>
    intro w mm hw C f hf
    obtain ⟨f, rfl⟩ : ∃ g, f = g + 1 := ⟨f - 1, by omega⟩
    obtain ⟨hs, hk, hW1, hW9, hf9, -, -, -⟩ := C.2.2 i hi
    have hn := C.2.1
    have hex : exN (K i) (F i) d 0 ≤ 1000 := by
      have : F i * d ≤ 9 * 9 := Nat.mul_le_mul hf9 hd9
      unfold exN
      split
      · omega
      · split <;> omega
    have hwg : ∀ y, (if y < lsN (K i) (F i) then 0 else y + exN (K i) (F i) d 0) = wgt (K i) (F i) d 0 y := fun y => wgt_ex (b := 0) hk (fun _ => rfl)
    have hwb : wgt (K i) (F i) d 0 x ≤ 200000 := wgt_b hf9 hd9 (by first | omega | (dsimp only; omega)) (by first | omega | (dsimp only; omega))
    obtain ⟨R, e1, e2⟩ := need_z (N := N) (s := 1) (e := w) (ag := wgt (K i) (F i) d 0 x) (ex := exN (K i) (F i) d 0) (mm := mm) hs hk hf9 (by first | omega | (dsimp only; omega)) (by first | omega | (dsimp only; omega)) hex hwb
    have e2' : NdX K F d i x w R := by
      have : (fun y => zN K F d i x y = w) = (fun y => wnx (K i) 1 (lsN (K i) (F i)) (exN (K i) (F i) d 0) (wgt (K i) (F i) d 0 x) y = w) := by
        funext y
        unfold wnx wtZ
        rw [if_neg (by first | omega | (dsimp only; omega)), hwg y]
        rfl
      unfold NdX
      rw [this]
      exact e2
    obtain ⟨m', c1, f1, g1, g2⟩ := ih (w + 1) (wr mm 54 (x * 3 + w) R) (by first | omega | (dsimp only; omega)) (CS_c C (fun k j e => rd_wr_k (by first | omega | (dsimp only; omega)))) f (by first | omega | (dsimp only; omega))
    refine ⟨m', ?_, (fr_wr Fr.rf ⟨rfl, by omega, by omega⟩).tr f1, fun v h1 h2 => ?_, fun v hv => ?_⟩
    · unfold fX10_prepare_20
      rw [show (3 : Int32) = nI 3 from rfl, nI_mul, nI_add]
      simp only [LXb, nI_nat (show x * 3 + w < 2147483648 by omega)]
      refine st_f (nI_ge (by first | omega | (dsimp only; omega)) (by first | omega | (dsimp only; omega))) (st_b (weight_e hs hk hf9 (by first | omega | (dsimp only; omega))) ?_)
      rw [hwg x]
      refine st_b e1 (st_k rfl (by first | omega | (dsimp only; omega)) (by first | omega | (dsimp only; omega)) (st_n ?_))
      rw [nI_1]; exact c1
    · by_cases hv : v = w
      · subst hv
        rw [g2 v (by first | omega | (dsimp only; omega)), rd_wr_s]; exact e2'
      · exact g1 v (by first | omega | (dsimp only; omega)) h2
    · rw [g2 v (by first | omega | (dsimp only; omega)), rd_wr_j (by first | omega | (dsimp only; omega))]
theorem cprep_10 {i : Nat} (hN : 100000 ≤ N) (hd9 : d ≤ 9) (hi : i < n) : ∀ c x mm, x + c = 16 → CS mm n K W F → ∀ f, c < f → ∃ m', fX10_prepare_10 N f 52 (17 + i) (nI (exN (K i) (F i) d 0)) (nI x) mm = some ((), m') ∧ Fr (fun k j => k = 54 ∧ x * 3 ≤ j ∧ j < 48) mm m' ∧ ∀ y, x ≤ y → y < 16 → ∀ v, v < 3 → NdX K F d i y v (rd m' 54 (y * 3 + v)) := by
  intro c
  induction c with
  | zero =>
    intro x mm hx C f hf
    obtain ⟨f, rfl⟩ : ∃ g, f = g + 1 := ⟨f - 1, by omega⟩
    obtain rfl : x = 16 := by omega
    refine ⟨mm, ?_, Fr.rf, fun y h1 h2 => by omega⟩
    unfold fX10_prepare_10
    exact st_t (by decide) rfl
  | succ c ih =>
    intro x mm hx C f hf
    obtain ⟨f, rfl⟩ : ∃ g, f = g + 1 := ⟨f - 1, by omega⟩
    obtain ⟨m1, c1, f1, g1, -⟩ := cprep_20 (N := N) (R := none) (k10 := fX10_prepare_10 N f) (x := x) hd9 hi (by first | omega | (dsimp only; omega)) 3 0 mm (by first | omega | (dsimp only; omega)) C N (by first | omega | (dsimp only; omega))
    obtain ⟨m', c2, f2, g2⟩ := ih (x + 1) m1 (by first | omega | (dsimp only; omega)) (CS_c C (fun k j e => f1.2 _ _ (by first | omega | (dsimp only; omega)))) f (by first | omega | (dsimp only; omega))
    refine ⟨m', ?_, (f1.mono (fun k j h => ⟨h.1, by omega, by omega⟩)).tr (f2.mono (fun k j h => ⟨h.1, by omega, by omega⟩)), fun y h1 h2 v hv => ?_⟩
    · unfold fX10_prepare_10
      exact st_f (nI_ge (by first | omega | (dsimp only; omega)) (by first | omega | (dsimp only; omega))) (c1.trans c2)
    · by_cases hy : y = x
      · subst hy
        rw [f2.2 _ _ (by first | omega | (dsimp only; omega))]; exact g1 v (by first | omega | (dsimp only; omega)) hv
      · exact g2 y (by first | omega | (dsimp only; omega)) h2 v hv
theorem cprep_e {i : Nat} {mm : Mm} (hN : 100000 ≤ N) (hd9 : d ≤ 9) (hi : i < n) (C : CS mm n K W F) : ∃ m', fX10_prepare N 52 (17 + i) (nI d) mm = some ((), m') ∧ Fr (fun k _ => k = 54) mm m' ∧ ∀ y, y < 16 → ∀ v, v < 3 → NdX K F d i y v (rd m' 54 (y * 3 + v)) := by
  obtain ⟨hs, hk, -⟩ := C.2.2 i hi
  obtain ⟨m', c1, f1, g1⟩ := cprep_10 hN hd9 hi 16 0 mm (by first | omega | (dsimp only; omega)) C N (by first | omega | (dsimp only; omega))
  refine ⟨m', ?_, f1.mono (fun k j h => h.1), fun y hy => g1 y (by first | omega | (dsimp only; omega)) hy⟩
  unfold fX10_prepare
  exact st_b (extra_e (b := 0) hs hk (by first | omega | (dsimp only; omega))) c1
/-- what the class' after stands on -/
def AFt (mm : Mm) (n d : Nat) (K W F : Nat → Nat) (i : Nat) : Prop := CS mm n K W F ∧ (∀ y, y < 16 → ∀ v, v < 3 → NdX K F d i y v (rd mm 54 (y * 3 + v))) ∧ ∀ a b, a < 16 → b < 16 → rd mm 53 (((i + 1) * 16 + a) * 16 + b) = iI (tvN K W F d n (n - (i + 1)) a b)
theorem AFt.c {i : Nat} {mm m2 : Mm} (h : AFt mm n d K W F i) (e : Fr (fun k j => (k = 52 ∧ j = 3) ∨ (k = 53 ∧ j < (i + 1) * 256)) mm m2) : AFt m2 n d K W F i :=
  ⟨CS_c h.1 (fun k j q => e.2 _ _ (by first | omega | (dsimp only; omega))), fun y hy v hv => by rw [e.2 _ _ (by first | omega | (dsimp only; omega))]; exact h.2.1 y hy v hv, fun a b ha hb => by rw [e.2 _ _ (by first | omega | (dsimp only; omega))]; exact h.2.2 a b ha hb⟩
theorem CS_W {mm : Mm} (C : CS mm n K W F) : ∀ i, i < n → W i ≤ 9 := fun i hi => (C.2.2 i hi).2.2.2.1
theorem after_l {i a b x : Nat} {mm0 : Mm} (hi : i < n) (ha : a < 16) (hb : b < 16) (hx : x < 16) (A : AFt mm0 n d K W F i) : ∀ c w B p mm, w + c = 3 → Fr (fun k j => k = 52 ∧ j = 3) mm0 mm → rd mm 52 3 = nI p → p ≤ 15 → (B = 1000000 ∨ (p ≤ b ∧ gvN K W F d i x p + tvN K W F d n (n - (i + 1)) a (b - p) = B)) → (∀ y, y ≤ b → zN K F d i x y < w → B < gvN K W F d i x y + tvN K W F d n (n - (i + 1)) a (b - y) ∨ (B = gvN K W F d i x y + tvN K W F d n (n - (i + 1)) a (b - y) ∧ p ≤ y)) → ∀ f, c < f → ∃ m' B' p', fX10_after_12 N f 52 (17 + i) (nI i) (nI a) (nI b) (nI x) (iI B) (nI w) mm = some (iI B', m') ∧ Fr (fun k j => k = 52 ∧ j = 3) mm m' ∧ rd m' 52 3 = nI p' ∧ IsMin (fun y => gvN K W F d i x y + tvN K W F d n (n - (i + 1)) a (b - y)) b B' p' := by
  have hn := A.1.2.1
  have hW := CS_W A.1
  have hv : ∀ y, -200 ≤ gvN K W F d i x y + tvN K W F d n (n - (i + 1)) a (b - y) ∧ gvN K W F d i x y + tvN K W F d n (n - (i + 1)) a (b - y) ≤ 200 := fun y => by
    have h1 := tv_b (K := K) (F := F) (d := d) hW (n - (i + 1)) (by first | omega | (dsimp only; omega)) a (b - y)
    have h2 : -18 ≤ gvN K W F d i x y ∧ gvN K W F d i x y ≤ 18 := pN_b (hW _ hi)
    omega
  intro c
  induction c with
  | zero =>
    intro w B p mm hw hF hp hp15 hB hall f hf
    obtain ⟨f, rfl⟩ : ∃ g, f = g + 1 := ⟨f - 1, by omega⟩
    obtain rfl : w = 3 := by omega
    have hz : ∀ y, zN K F d i x y < 3 := fun y => by
      have := wnr_2 (K i) (wgt (K i) (F i) d 0 x) (wgt (K i) (F i) d 0 y)
      unfold zN; omega
    refine ⟨mm, B, p, ?_, Fr.rf, hp, ?_⟩
    · unfold fX10_after_12
      exact st_t (by decide) rfl
    · have h0 := hall 0 (by first | omega | (dsimp only; omega)) (hz 0)
      have hv0 := hv 0
      have hB' : p ≤ b ∧ gvN K W F d i x p + tvN K W F d n (n - (i + 1)) a (b - p) = B := by
        rcases hB with hB | hB
        · omega
        · exact hB
      refine ⟨hB'.1, hB'.2, fun y hy => ?_, fun y hy => ?_⟩
      · have := hall y hy (hz y); dsimp only; omega
      · have := hall y (by first | omega | (dsimp only; omega)) (hz y); dsimp only; omega
  | succ c ih =>
    intro w B p mm hw hF hp hp15 hB hall f hf
    obtain ⟨f, rfl⟩ : ∃ g, f = g + 1 := ⟨f - 1, by omega⟩
    have hBb : -200 ≤ B ∧ B ≤ 1000000 := by
      rcases hB with hB | ⟨-, hB⟩
      · omega
      · have := hv p; omega
    have A1 := A.c (m2 := mm) (hF.mono (fun k j h => Or.inl h))
    have hnd : NdX K F d i x w (rd mm 54 (x * 3 + w)) := A1.2.1 x hx w (by first | omega | (dsimp only; omega))
    have hs := (A1.1.2.2 i hi).1
    have skip : (∀ y, y ≤ b → zN K F d i x y ≠ w) → ∃ m' B' p', fX10_after_12 N f 52 (17 + i) (nI i) (nI a) (nI b) (nI x) (iI B) (nI w + 1) mm = some (iI B', m') ∧ Fr (fun k j => k = 52 ∧ j = 3) mm m' ∧ rd m' 52 3 = nI p' ∧ IsMin (fun y => gvN K W F d i x y + tvN K W F d n (n - (i + 1)) a (b - y)) b B' p' := by
      intro hno
      rw [nI_1]
      exact ih (w + 1) B p mm (by first | omega | (dsimp only; omega)) hF hp hp15 hB (fun y hy hz => hall y hy (by have := hno y hy; omega)) f (by first | omega | (dsimp only; omega))
    have pre : ∀ {r : Option (Int32 × Mm)}, fX10_after_54 N (fX10_after_12 N f) 52 (17 + i) (nI i) (nI a) (nI b) (nI x) (iI B) (nI w) (rd mm 54 (x * 3 + w)) mm = r → fX10_after_12 N (f + 1) 52 (17 + i) (nI i) (nI a) (nI b) (nI x) (iI B) (nI w) mm = r := by
      intro r hr
      unfold fX10_after_12
      rw [show (3 : Int32) = nI 3 from rfl, nI_mul, nI_add]
      simp only [LXb, nI_nat (show x * 3 + w < 2147483648 by omega)]
      exact st_f (nI_ge (by first | omega | (dsimp only; omega)) (by first | omega | (dsimp only; omega))) (st_f (nI_pos (by first | omega | (dsimp only; omega))) (st_f (nI_ge (show x * 3 + w < 48 by omega) (by first | omega | (dsimp only; omega))) (st_k rfl (by first | omega | (dsimp only; omega)) (by first | omega | (dsimp only; omega)) hr)))
    rcases hnd with ⟨e9, hno⟩ | ⟨y, hy3, ey, hyw, hyf⟩
    · obtain ⟨m', B', p', q1, q2⟩ := skip (fun y hy => hno y (by first | omega | (dsimp only; omega)))
      refine ⟨m', B', p', pre ?_, q2⟩
      unfold fX10_after_54 fX10_after_136
      exact st_t (by rw [e9]; decide) q1
    by_cases hyb : b < y
    · obtain ⟨m', B', p', q1, q2⟩ := skip (fun t ht => hyf t (by first | omega | (dsimp only; omega)))
      refine ⟨m', B', p', pre ?_, q2⟩
      unfold fX10_after_54 fX10_after_136
      exact st_f (by rw [ey]; exact nI_pos (by first | omega | (dsimp only; omega))) (st_t (by rw [ey]; exact nI_lt hyb (by first | omega | (dsimp only; omega))) q1)
    have hpw : ∀ t, zN K F d i x t = w → gvN K W F d i x t = (pts (W i) 0 w : Int) - (pts (W i) 1 w : Int) := fun t ht => by
      unfold gvN pN; rw [ht]
    have hP : pts (W i) 0 w ≤ 18 ∧ pts (W i) 1 w ≤ 18 := by
      have := hW i hi
      unfold pts
      constructor <;> (split <;> (try split) <;> omega)
    have hVb := hv y
    have hval : ∀ t, t ≤ b → zN K F d i x t = w → gvN K W F d i x y + tvN K W F d n (n - (i + 1)) a (b - y) ≤ gvN K W F d i x t + tvN K W F d n (n - (i + 1)) a (b - t) ∧ y ≤ t := fun t ht htw => by
      have hyt : y ≤ t := by
        apply Decidable.byContradiction
        intro hlt
        exact hyf t (by first | omega | (dsimp only; omega)) htw
      have := tv_mm (K := K) (W := W) (F := F) (d := d) (n := n) (r := n - (i + 1)) (a := a) (t - y) (b - t)
      rw [show b - t + (t - y) = b - y by omega] at this
      rw [hpw t htw, hpw y hyw]
      omega
    have hT := A1.2.2 a (b - y) ha (by first | omega | (dsimp only; omega))
    have hTb := tv_b (K := K) (F := F) (d := d) hW (n - (i + 1)) (by first | omega | (dsimp only; omega)) a (b - y)
    have hsum : nI (pts (W i) 0 w) - nI (pts (W i) 1 w) + rd mm 53 (((i + 1) * 16 + a) * 16 + (b - y)) = iI (gvN K W F d i x y + tvN K W F d n (n - (i + 1)) a (b - y)) := by
      rw [hT, iI_n (by first | omega | (dsimp only; omega)), iI_n (by first | omega | (dsimp only; omega)), iI_sub (by first | omega | (dsimp only; omega)) (by first | omega | (dsimp only; omega)) (by first | omega | (dsimp only; omega)) (by first | omega | (dsimp only; omega)), iI_add (by first | omega | (dsimp only; omega)) (by first | omega | (dsimp only; omega)) (by first | omega | (dsimp only; omega)) (by first | omega | (dsimp only; omega)), hpw y hyw]
    generalize hVd : gvN K W F d i x y + tvN K W F d n (n - (i + 1)) a (b - y) = V at hVb hval hsum
    have go54 : ∀ {r : Option (Int32 × Mm)}, (if iI V < iI B then (fX10_after_126 N (fX10_after_12 N f) 52 (17 + i) (nI i) (nI a) (nI b) (nI x) (nI w) (nI y) (iI V) mm) else (if iI V = iI B then (if (rd mm 52 3) ≤ nI y then (fX10_after_136 N (fX10_after_12 N f) 52 (17 + i) (nI i) (nI a) (nI b) (nI x) (iI B) (nI w) mm) else (fX10_after_126 N (fX10_after_12 N f) 52 (17 + i) (nI i) (nI a) (nI b) (nI x) (nI w) (nI y) (iI V) mm)) else (fX10_after_136 N (fX10_after_12 N f) 52 (17 + i) (nI i) (nI a) (nI b) (nI x) (iI B) (nI w) mm))) = r → fX10_after_54 N (fX10_after_12 N f) 52 (17 + i) (nI i) (nI a) (nI b) (nI x) (iI B) (nI w) (rd mm 54 (x * 3 + w)) mm = r := by
      intro r hr
      unfold fX10_after_54
      rw [ey, nI_sub (by first | omega | (dsimp only; omega)), nI_1]
      refine st_f (nI_pos (by first | omega | (dsimp only; omega))) (st_f (nI_nlt (by first | omega | (dsimp only; omega)) (by first | omega | (dsimp only; omega))) (st_b (points_e (s := 0) hs (by first | omega | (dsimp only; omega)) (by first | omega | (dsimp only; omega))) (st_b (points_e (s := 1) hs (by first | omega | (dsimp only; omega)) (by first | omega | (dsimp only; omega))) (st_b (value_e (by first | omega | (dsimp only; omega)) ha (by first | omega | (dsimp only; omega))) ?_))))
      rw [hsum]
      exact hr
    have take : (V < B ∨ (V = B ∧ y < p)) → ∃ m' B' p', fX10_after_126 N (fX10_after_12 N f) 52 (17 + i) (nI i) (nI a) (nI b) (nI x) (nI w) (nI y) (iI V) mm = some (iI B', m') ∧ Fr (fun k j => k = 52 ∧ j = 3) mm m' ∧ rd m' 52 3 = nI p' ∧ IsMin (fun y => gvN K W F d i x y + tvN K W F d n (n - (i + 1)) a (b - y)) b B' p' := by
      intro hlt
      obtain ⟨m', B', p', q1, q2, q3⟩ := ih (w + 1) V y (wr mm 52 3 (nI y)) (by first | omega | (dsimp only; omega)) (fr_wr hF ⟨rfl, rfl⟩) (by rw [rd_wr_s]) (by first | omega | (dsimp only; omega)) (Or.inr ⟨by omega, hVd⟩) (fun t ht hz => by
        by_cases htw : zN K F d i x t = w
        · have := hval t ht htw; omega
        · have := hall t ht (by first | omega | (dsimp only; omega)); omega) f (by first | omega | (dsimp only; omega))
      refine ⟨m', B', p', ?_, (fr_wr Fr.rf ⟨rfl, rfl⟩).tr q2, q3⟩
      unfold fX10_after_126 fX10_after_136
      refine st_n ?_
      rw [nI_1]; exact q1
    have keep : (B < V ∨ (V = B ∧ p ≤ y)) → ∃ m' B' p', fX10_after_136 N (fX10_after_12 N f) 52 (17 + i) (nI i) (nI a) (nI b) (nI x) (iI B) (nI w) mm = some (iI B', m') ∧ Fr (fun k j => k = 52 ∧ j = 3) mm m' ∧ rd m' 52 3 = nI p' ∧ IsMin (fun y => gvN K W F d i x y + tvN K W F d n (n - (i + 1)) a (b - y)) b B' p' := by
      intro hlt
      unfold fX10_after_136
      rw [nI_1]
      exact ih (w + 1) B p mm (by first | omega | (dsimp only; omega)) hF hp hp15 hB (fun t ht hz => by
        by_cases htw : zN K F d i x t = w
        · have := hval t ht htw; omega
        · exact hall t ht (by first | omega | (dsimp only; omega))) f (by first | omega | (dsimp only; omega))
    rcases Int.lt_trichotomy V B with hlt | heq | hgt
    · obtain ⟨m', B', p', q1, q2⟩ := take (Or.inl hlt)
      exact ⟨m', B', p', pre (go54 (st_t ((iI_lt (by first | omega | (dsimp only; omega)) (by first | omega | (dsimp only; omega)) (by first | omega | (dsimp only; omega)) (by first | omega | (dsimp only; omega))).mpr hlt) q1)), q2⟩
    · by_cases hpy : p ≤ y
      · obtain ⟨m', B', p', q1, q2⟩ := keep (Or.inr ⟨heq, hpy⟩)
        exact ⟨m', B', p', pre (go54 (st_f (fun e => by have := (iI_lt (by first | omega | (dsimp only; omega)) (by first | omega | (dsimp only; omega)) (by first | omega | (dsimp only; omega)) (by first | omega | (dsimp only; omega))).mp e; omega) (st_t (by rw [heq]) (st_t (by rw [hp]; exact nI_le hpy (by first | omega | (dsimp only; omega))) q1)))), q2⟩
      · obtain ⟨m', B', p', q1, q2⟩ := take (Or.inr ⟨heq, by omega⟩)
        exact ⟨m', B', p', pre (go54 (st_f (fun e => by have := (iI_lt (by first | omega | (dsimp only; omega)) (by first | omega | (dsimp only; omega)) (by first | omega | (dsimp only; omega)) (by first | omega | (dsimp only; omega))).mp e; omega) (st_t (by rw [heq]) (st_f (by rw [hp]; exact nI_ge (by first | omega | (dsimp only; omega)) (by first | omega | (dsimp only; omega))) q1)))), q2⟩
    · obtain ⟨m', B', p', q1, q2⟩ := keep (Or.inl hgt)
      exact ⟨m', B', p', pre (go54 (st_f (fun e => by have := (iI_lt (by first | omega | (dsimp only; omega)) (by first | omega | (dsimp only; omega)) (by first | omega | (dsimp only; omega)) (by first | omega | (dsimp only; omega))).mp e; omega) (st_f (fun e => by have := (iI_eq (by first | omega | (dsimp only; omega)) (by first | omega | (dsimp only; omega)) (by first | omega | (dsimp only; omega)) (by first | omega | (dsimp only; omega))).mp e; omega) q1))), q2⟩
theorem after_e {i a b x : Nat} {mm : Mm} (hN : 100000 ≤ N) (hi : i < n) (ha : a < 16) (hb : b < 16) (hx : x < 16) (A : AFt mm n d K W F i) : ∃ m' B p, fX10_after N 52 (17 + i) (nI i) (nI a) (nI b) (nI x) mm = some (iI B, m') ∧ Fr (fun k j => k = 52 ∧ j = 3) mm m' ∧ rd m' 52 3 = nI p ∧ IsMin (fun y => gvN K W F d i x y + tvN K W F d n (n - (i + 1)) a (b - y)) b B p := by
  obtain ⟨m', B, p, q1, q2, q3⟩ := after_l (N := N) hi ha hb hx (A.c (m2 := wr mm 52 3 0) (fr_wr Fr.rf (Or.inl ⟨rfl, rfl⟩))) 3 0 1000000 0 _ (by first | omega | (dsimp only; omega)) Fr.rf (by rw [rd_wr_s]; rfl) (by first | omega | (dsimp only; omega)) (Or.inl rfl) (fun y _ h => by omega) N (by first | omega | (dsimp only; omega))
  refine ⟨m', B, p, ?_, (fr_wr Fr.rf ⟨rfl, rfl⟩).tr q2, q3⟩
  unfold fX10_after
  exact st_n q1
end Tab
