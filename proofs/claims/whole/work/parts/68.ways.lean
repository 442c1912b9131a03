/-! pure: ways, safe -/
theorem SW_pre {mm : Mm} {S d n i : Nat} {K W F x x' y : Nat → Nat} (h : SW mm S K W F d x y n) (hk : ∀ j, j < n → K j = 5 → F j < j) (hi : i ≤ n) (hx : ∀ j, j < i → x' j = x j) : SW mm S K W F d x' y i := by
  have e : ∀ j, j < i → wn K F d x' y j = wn K F d x y j := wn_c i (fun j hj => hk j (by first | omega | (dsimp only; omega))) (fun j hj => ⟨hx j hj, rfl⟩)
  refine ⟨fun j hj => by rw [h.1 j (by first | omega | (dsimp only; omega)), e j hj], fun j hj => ?_⟩
  rw [h.2 j (by first | omega | (dsimp only; omega))]
  exact congrArg nI (scr_c (fun q hq => (e q (by first | omega | (dsimp only; omega))).symm))
theorem SW_preY {mm : Mm} {S d n i : Nat} {K W F x y y' : Nat → Nat} (h : SW mm S K W F d x y n) (hk : ∀ j, j < n → K j = 5 → F j < j) (hi : i ≤ n) (hy : ∀ j, j < i → y' j = y j) : SW mm S K W F d x y' i := by
  have e : ∀ j, j < i → wn K F d x y' j = wn K F d x y j := wn_c i (fun j hj => hk j (by first | omega | (dsimp only; omega))) (fun j hj => ⟨rfl, hy j hj⟩)
  refine ⟨fun j hj => by rw [h.1 j (by first | omega | (dsimp only; omega)), e j hj], fun j hj => ?_⟩
  rw [h.2 j (by first | omega | (dsimp only; omega))]
  exact congrArg nI (scr_c (fun q hq => (e q (by first | omega | (dsimp only; omega))).symm))
/-- counts of layings and of good ones -/
def wyF (v : Nat) (sc : (Nat → Nat) → Nat) (p : Nat × Nat) (l : Nat → Nat) : Nat × Nat := (p.1 + 1, p.2 + if v ≤ sc l then 1 else 0)
theorem wy_b {n S v : Nat} {sc : (Nat → Nat) → Nat} : ∀ m l (p : Nat × Nat), p.2 ≤ p.1 → ((enm n S m l).foldl (wyF v sc) p).2 ≤ ((enm n S m l).foldl (wyF v sc) p).1 ∧ p.1 + 1 ≤ ((enm n S m l).foldl (wyF v sc) p).1 ∧ ((enm n S m l).foldl (wyF v sc) p).1 ≤ p.1 + m + 1 := by
  intro m
  induction m with
  | zero =>
    intro l p hp
    show (p.2 + if v ≤ sc l then 1 else 0) ≤ p.1 + 1 ∧ p.1 + 1 ≤ p.1 + 1 ∧ p.1 + 1 ≤ p.1 + 0 + 1
    refine ⟨?_, by omega, by omega⟩
    split <;> omega
  | succ m ih =>
    intro l p hp
    have h1 : (wyF v sc p l).2 ≤ (wyF v sc p l).1 := by
      show (p.2 + if v ≤ sc l then 1 else 0) ≤ p.1 + 1
      split <;> omega
    have h2 : (wyF v sc p l).1 = p.1 + 1 := rfl
    unfold enm
    rw [List.foldl_cons]
    cases hx : nxR n l (S - smN l n) with
    | none => exact ⟨h1, by show _ ≤ (wyF v sc p l).1; omega, by show (wyF v sc p l).1 ≤ _; omega⟩
    | some q =>
      obtain ⟨a1, a2, a3⟩ := ih q.2 (wyF v sc p l) h1
      exact ⟨a1, by show p.1 + 1 ≤ ((enm n S m q.2).foldl (wyF v sc) (wyF v sc p l)).1; omega, by show ((enm n S m q.2).foldl (wyF v sc) (wyF v sc p l)).1 ≤ _; omega⟩
section Wy
variable {N n d S v q : Nat} {K W F y : Nat → Nat}
theorem cways_l (hN : 100000 ≤ N) (hd9 : d ≤ 9) (hS : S ≤ 40) (hq : q < 6) (hy : ∀ i, i < n → y i ≤ 1000) (hv : v ≤ 108) : ∀ m l i p mm f, rkN n S l ≤ m → smN l n ≤ S → i ≤ n → p.1 + m + 2 < 1000000 → m + 1 < f → p.2 ≤ p.1 → CS mm n K W F → rd mm 3 6 = nI d → HA mm (96 + 2 * q) n y → HA mm 34 n l → rd mm 33 1 = nI n → rd mm 33 2 = nI (S - smN l n) → SW mm 29 K W F d l y i → rd mm 32 0 = 0 → ∃ m', fX11_ways_83 N f 0 (nI v) (95 + 2 * q) (nI p.1) (nI p.2) (nI i) mm = fX11_ways_148 N 0 (nI ((enm n S m l).foldl (wyF v (fun x => scr W 0 (wn K F d x y) n)) p).1) (nI ((enm n S m l).foldl (wyF v (fun x => scr W 0 (wn K F d x y) n)) p).2) m' ∧ Fr (fun k _ => 29 ≤ k ∧ k ≤ 34) mm m' ∧ rd m' 32 0 = 0 := by
  intro m
  induction m with
  | zero =>
    intro l i p mm f hrk hsl hi hp hf hp2 C hd hY hL h1 h2 hW h0
    obtain ⟨f, rfl⟩ : ∃ g, f = g + 1 := ⟨f - 1, by omega⟩
    obtain ⟨f, rfl⟩ : ∃ g, f = g + 1 := ⟨f - 1, by omega⟩
    have hn := C.2.1
    have hl40 : ∀ i, i < n → l i ≤ 1000 := fun i hi => by have := smN_at (l := l) hi; omega
    obtain ⟨m1, c1, c2, c3, c4, -⟩ := weigh_e (N := N) (d := d) (x := l) (y := y) (i := i) hN SC_29 hd9 rfl (ln_row hq) (by decide) (by first | omega | (dsimp only; omega)) (by first | omega | (dsimp only; omega)) (by first | omega | (dsimp only; omega)) hl40 hy hi C hd hL hY hW
    have hsb := scr_b (W := W) (w := wn K F d l y) (s := 0) (n := n) (fun j hj => (C.2.2 j hj).2.2.2.1) hn
    obtain ⟨m2, a1, a2⟩ := cnext_e (N := N) (S := S) (l := l) (mm := m1) hN hn hS (hL.c (fun j hj => c2.2 _ _ (by first | omega | (dsimp only; omega)))) (by rw [c2.2 _ _ (by first | omega | (dsimp only; omega))]; exact h1) (by rw [c2.2 _ _ (by first | omega | (dsimp only; omega))]; exact h2) hsl
    have hnx : fX3_next N 33 m1 = some (-9, m2) := by
      rcases a2 with ⟨-, b2⟩ | ⟨p', b1, -⟩
      · exact b2
      · have := (nx_rk hsl b1).2.2.2; omega
    have step : ∀ R x4, fX3_next N 33 m1 = some (x4, m2) → (∀ e : Nat, e = (if v ≤ scr W 0 (wn K F d l y) n then 1 else 0) → fX11_ways_83 N (f + 1) 0 (nI v) (95 + 2 * q) (nI (p.1 + 1)) (nI (p.2 + e)) x4 m2 = R) → fX11_ways_83 N ((f + 1) + 1) 0 (nI v) (95 + 2 * q) (nI p.1) (nI p.2) (nI i) mm = R := by
      intro R x4 hx hR
      unfold fX11_ways_83 fX11_ways_136
      simp only [LXa, LXb, fr_row hq]
      refine st_f (nI_pos (by first | omega | (dsimp only; omega))) (st_f (nI_ge (b := 1000000) (by first | omega | (dsimp only; omega)) (by first | omega | (dsimp only; omega))) (st_b c1 ?_))
      rw [c4, nI_1, nI_1]
      by_cases hc : v ≤ scr W 0 (wn K F d l y) n
      · exact st_f (nI_nlt hc (by first | omega | (dsimp only; omega))) (st_b hx (hR 1 (by rw [if_pos hc])))
      · exact st_t (nI_lt (by first | omega | (dsimp only; omega)) (by first | omega | (dsimp only; omega))) (st_b hx (hR 0 (by rw [if_neg hc])))
    refine ⟨m2, ?_, (c2.mono (fun k j e => by omega)).tr (a1.mono (fun k j e => by omega)), ?_⟩
    · refine step _ _ hnx (fun e he => ?_)
      rw [he]
      unfold fX11_ways_83
      exact st_t (by decide) rfl
    · rw [a1.2 _ _ (by first | omega | (dsimp only; omega))]
      exact c3.2 0 (by first | omega | (dsimp only; omega))
  | succ m ih =>
    intro l i p mm f hrk hsl hi hp hf hp2 C hd hY hL h1 h2 hW h0
    obtain ⟨f, rfl⟩ : ∃ g, f = g + 1 := ⟨f - 1, by omega⟩
    have hn := C.2.1
    have hl40 : ∀ i, i < n → l i ≤ 1000 := fun i hi => by have := smN_at (l := l) hi; omega
    obtain ⟨m1, c1, c2, c3, c4, -⟩ := weigh_e (N := N) (d := d) (x := l) (y := y) (i := i) hN SC_29 hd9 rfl (ln_row hq) (by decide) (by first | omega | (dsimp only; omega)) (by first | omega | (dsimp only; omega)) (by first | omega | (dsimp only; omega)) hl40 hy hi C hd hL hY hW
    have hsb := scr_b (W := W) (w := wn K F d l y) (s := 0) (n := n) (fun j hj => (C.2.2 j hj).2.2.2.1) hn
    obtain ⟨m2, a1, a2⟩ := cnext_e (N := N) (S := S) (l := l) (mm := m1) hN hn hS (hL.c (fun j hj => c2.2 _ _ (by first | omega | (dsimp only; omega)))) (by rw [c2.2 _ _ (by first | omega | (dsimp only; omega))]; exact h1) (by rw [c2.2 _ _ (by first | omega | (dsimp only; omega))]; exact h2) hsl
    have hf12 : Fr (fun k _ => 29 ≤ k ∧ k ≤ 34) mm m2 := (c2.mono (fun k j e => by omega)).tr (a1.mono (fun k j e => by omega))
    have c5 : SW m2 29 K W F d l y n := c3.c (fun k j e => a1.2 _ _ (by first | omega | (dsimp only; omega)))
    have step : ∀ R x4, fX3_next N 33 m1 = some (x4, m2) → (∀ e : Nat, e = (if v ≤ scr W 0 (wn K F d l y) n then 1 else 0) → fX11_ways_83 N f 0 (nI v) (95 + 2 * q) (nI (p.1 + 1)) (nI (p.2 + e)) x4 m2 = R) → fX11_ways_83 N (f + 1) 0 (nI v) (95 + 2 * q) (nI p.1) (nI p.2) (nI i) mm = R := by
      intro R x4 hx hR
      unfold fX11_ways_83 fX11_ways_136
      simp only [LXa, LXb, fr_row hq]
      refine st_f (nI_pos (by first | omega | (dsimp only; omega))) (st_f (nI_ge (b := 1000000) (by first | omega | (dsimp only; omega)) (by first | omega | (dsimp only; omega))) (st_b c1 ?_))
      rw [c4, nI_1, nI_1]
      by_cases hc : v ≤ scr W 0 (wn K F d l y) n
      · exact st_f (nI_nlt hc (by first | omega | (dsimp only; omega))) (st_b hx (hR 1 (by rw [if_pos hc])))
      · exact st_t (nI_lt (by first | omega | (dsimp only; omega)) (by first | omega | (dsimp only; omega))) (st_b hx (hR 0 (by rw [if_neg hc])))
    rcases a2 with ⟨b1, b2⟩ | ⟨p', b1, b2, b3, b4⟩
    · refine ⟨m2, step _ _ b2 (fun e he => ?_), hf12, ?_⟩
      · have e1 : enm n S (m + 1) l = [l] := by unfold enm; rw [b1]
        rw [e1, he]
        obtain ⟨f, rfl⟩ : ∃ g, f = g + 1 := ⟨f - 1, by omega⟩
        unfold fX11_ways_83
        exact st_t (by decide) rfl
      · exact c5.2 0 (by first | omega | (dsimp only; omega))
    · obtain ⟨g1, g2, g3, g4⟩ := nx_rk hsl b1
      have e1 : enm n S (m + 1) l = l :: enm n S m p'.2 := by
        show l :: (match nxR n l (S - smN l n) with | none => [] | some p => enm n S m p.2) = _
        rw [b1]
      obtain ⟨m', r1, r2, r3⟩ := ih p'.2 p'.1 (wyF v (fun x => scr W 0 (wn K F d x y) n) p l) m2 f (by first | omega | (dsimp only; omega)) g3 (by first | omega | (dsimp only; omega)) (by show p.1 + 1 + m + 2 < 1000000; omega) (by first | omega | (dsimp only; omega)) (by show (p.2 + if v ≤ scr W 0 (wn K F d l y) n then 1 else 0) ≤ p.1 + 1; split <;> omega) (CS_c C (fun k j e => hf12.2 _ _ (by first | omega | (dsimp only; omega)))) (by rw [hf12.2 _ _ (by first | omega | (dsimp only; omega))]; exact hd) (hY.c (fun j hj => hf12.2 _ _ (by first | omega | (dsimp only; omega)))) b3 (by rw [a1.2 _ _ (by first | omega | (dsimp only; omega)), c2.2 _ _ (by first | omega | (dsimp only; omega))]; exact h1) b4 (SW_pre c5 (fun j hj => (C.2.2 j hj).2.2.2.2.2.2.1) (by first | omega | (dsimp only; omega)) g2) (c5.2 0 (by first | omega | (dsimp only; omega)))
      refine ⟨m', step _ _ b2 (fun e he => ?_), hf12.tr r2, r3⟩
      rw [e1, he]
      exact r1
theorem mways_l (hN : 100000 ≤ N) (hd9 : d ≤ 9) (hS : S ≤ 40) (hy : ∀ i, i < n → y i ≤ 1000) (hv : v ≤ 108) : ∀ m l p mm f, rkN n S l ≤ m → smN l n ≤ S → p.1 + m + 2 < 90000 → m < f → p.2 ≤ p.1 → MS mm n K W F → rd mm 175 13 = nI d → rd mm 183 0 = nI S → HA mm 186 n y → HA mm 190 n l → ∃ m', fX12_ways_62 N f 175 (nI v) (nI p.1) (nI p.2) mm = some (nI ((enm n S m l).foldl (wyF v (fun x => scr W 0 (wn K F d x y) n)) p).2, wrL (wrL m' 175 3 (frU ((enm n S m l).foldl (wyF v (fun x => scr W 0 (wn K F d x y) n)) p).2 ((enm n S m l).foldl (wyF v (fun x => scr W 0 (wn K F d x y) n)) p).1)) 175 4 (frL ((enm n S m l).foldl (wyF v (fun x => scr W 0 (wn K F d x y) n)) p).2 ((enm n S m l).foldl (wyF v (fun x => scr W 0 (wn K F d x y) n)) p).1)) ∧ Fr (fun k _ => k = 185 ∨ k = 187 ∨ k = 190) mm m' := by
  intro m
  induction m with
  | zero =>
    intro l p mm f hrk hsl hp hf hp2 M hd h0 hY hL
    obtain ⟨f, rfl⟩ : ∃ g, f = g + 1 := ⟨f - 1, by omega⟩
    have hn := M.2.1
    have hl40 : ∀ i, i < n → l i ≤ 1000 := fun i hi => by have := smN_at (l := l) hi; omega
    obtain ⟨ma, a1, a2, a3⟩ := mstepF_e (N := N) (s := 0) hN (by first | omega | (dsimp only; omega)) M hL
    have Ma : MS ma n K W F := MS_c M (fun k j e => a2.2 _ _ (by first | omega | (dsimp only; omega)))
    obtain ⟨mb, b1, b2, b3⟩ := setW_e (N := N) (d := d) (x := l) (y := y) hN hd9 hl40 hy Ma (by rw [a2.2 _ _ (by first | omega | (dsimp only; omega))]; exact hd) a3 (hY.c (fun j hj => a2.2 _ _ (by first | omega | (dsimp only; omega))))
    have Mb : MS mb n K W F := MS_c Ma (fun k j e => b2.2 _ _ (by first | omega | (dsimp only; omega)))
    have hsb := scr_b (W := W) (w := wn K F d l y) (s := 0) (n := n) (fun j hj => (M.2.2 j hj).2.2.2.1) hn
    obtain ⟨mc, c1, c2⟩ := mnext_e (N := N) (S := S) (l := l) (mm := mb) hN hS Mb (hL.c (fun j hj => by rw [b2.2 _ _ (by first | omega | (dsimp only; omega)), a2.2 _ _ (by first | omega | (dsimp only; omega))])) hsl
    have hnx : fX12_nextStep N 175 (nI S) mb = some (0, mc) := by
      rcases c2 with ⟨-, q⟩ | ⟨p', q, -⟩
      · exact q
      · have := (nx_rk hsl q).2.2.2; omega
    have hfr : Fr (fun k _ => k = 185 ∨ k = 187 ∨ k = 190) mm mc := (a2.mono (fun k j e => by omega)).tr ((b2.mono (fun k j e => by omega)).tr (c1.mono (fun k j e => by omega)))
    refine ⟨mc, ?_, hfr⟩
    have h90 : ∀ e : Nat, e ≤ 1 → fX12_ways_90 N (fX12_ways_62 N f) 175 (nI v) (nI (p.1 + 1)) (nI p.2) (nI e) mb = some (nI (p.2 + e), wrL (wrL mc 175 3 (frU (p.2 + e) (p.1 + 1))) 175 4 (frL (p.2 + e) (p.1 + 1))) := by
      intro e he
      unfold fX12_ways_90
      simp only [LXm]
      refine st_g (by decide) ?_
      rw [show ((0 : Int32).toNatClampNeg) = 0 from rfl, show rd mb 183 0 = nI S by rw [b2.2 _ _ (by first | omega | (dsimp only; omega)), a2.2 _ _ (by first | omega | (dsimp only; omega))]; exact h0]
      refine st_b hnx (st_t rfl ?_)
      rw [nI_add, nI_l (by first | omega | (dsimp only; omega)), nI_l (by first | omega | (dsimp only; omega))]
      exact st_b (mfrac_e hN (by first | omega | (dsimp only; omega)) (by first | omega | (dsimp only; omega)) (by first | omega | (dsimp only; omega))) rfl
    unfold fX12_ways_62
    refine st_b a1 (st_b b1 (st_b (score_e (s := 0) (w := wn K F d l y) hN (by first | omega | (dsimp only; omega)) (fun i _ => wn_2) Mb b3) ?_))
    rw [nI_1]
    show _ = some (nI (p.2 + if v ≤ scr W 0 (wn K F d l y) n then 1 else 0), wrL (wrL mc 175 3 (frU (p.2 + if v ≤ scr W 0 (wn K F d l y) n then 1 else 0) (p.1 + 1))) 175 4 (frL (p.2 + if v ≤ scr W 0 (wn K F d l y) n then 1 else 0) (p.1 + 1)))
    by_cases hc : v ≤ scr W 0 (wn K F d l y) n
    · refine st_f (nI_nlt hc (by first | omega | (dsimp only; omega))) ?_
      simp only [if_pos hc]
      exact h90 1 (by first | omega | (dsimp only; omega))
    · refine st_t (nI_lt (by first | omega | (dsimp only; omega)) (by first | omega | (dsimp only; omega))) ?_
      simp only [if_neg hc]
      exact h90 0 (by first | omega | (dsimp only; omega))
  | succ m ih =>
    intro l p mm f hrk hsl hp hf hp2 M hd h0 hY hL
    obtain ⟨f, rfl⟩ : ∃ g, f = g + 1 := ⟨f - 1, by omega⟩
    have hn := M.2.1
    have hl40 : ∀ i, i < n → l i ≤ 1000 := fun i hi => by have := smN_at (l := l) hi; omega
    obtain ⟨ma, a1, a2, a3⟩ := mstepF_e (N := N) (s := 0) hN (by first | omega | (dsimp only; omega)) M hL
    have Ma : MS ma n K W F := MS_c M (fun k j e => a2.2 _ _ (by first | omega | (dsimp only; omega)))
    obtain ⟨mb, b1, b2, b3⟩ := setW_e (N := N) (d := d) (x := l) (y := y) hN hd9 hl40 hy Ma (by rw [a2.2 _ _ (by first | omega | (dsimp only; omega))]; exact hd) a3 (hY.c (fun j hj => a2.2 _ _ (by first | omega | (dsimp only; omega))))
    have Mb : MS mb n K W F := MS_c Ma (fun k j e => b2.2 _ _ (by first | omega | (dsimp only; omega)))
    have hsb := scr_b (W := W) (w := wn K F d l y) (s := 0) (n := n) (fun j hj => (M.2.2 j hj).2.2.2.1) hn
    obtain ⟨mc, c1, c2⟩ := mnext_e (N := N) (S := S) (l := l) (mm := mb) hN hS Mb (hL.c (fun j hj => by rw [b2.2 _ _ (by first | omega | (dsimp only; omega)), a2.2 _ _ (by first | omega | (dsimp only; omega))])) hsl
    have hfr : Fr (fun k _ => k = 185 ∨ k = 187 ∨ k = 190) mm mc := (a2.mono (fun k j e => by omega)).tr ((b2.mono (fun k j e => by omega)).tr (c1.mono (fun k j e => by omega)))
    have step : ∀ R, (∀ e : Nat, e = (if v ≤ scr W 0 (wn K F d l y) n then 1 else 0) → fX12_ways_90 N (fX12_ways_62 N f) 175 (nI v) (nI (p.1 + 1)) (nI p.2) (nI e) mb = R) → fX12_ways_62 N (f + 1) 175 (nI v) (nI p.1) (nI p.2) mm = R := by
      intro R hR
      unfold fX12_ways_62
      refine st_b a1 (st_b b1 (st_b (score_e (s := 0) (w := wn K F d l y) hN (by first | omega | (dsimp only; omega)) (fun i _ => wn_2) Mb b3) ?_))
      rw [nI_1]
      by_cases hc : v ≤ scr W 0 (wn K F d l y) n
      · exact st_f (nI_nlt hc (by first | omega | (dsimp only; omega))) (hR 1 (by rw [if_pos hc]))
      · exact st_t (nI_lt (by first | omega | (dsimp only; omega)) (by first | omega | (dsimp only; omega))) (hR 0 (by rw [if_neg hc]))
    have hS2 : rd mb 183 0 = nI S := by rw [b2.2 _ _ (by first | omega | (dsimp only; omega)), a2.2 _ _ (by first | omega | (dsimp only; omega))]; exact h0
    rcases c2 with ⟨q1, q2⟩ | ⟨p', q1, q2, q3⟩
    · have e1 : enm n S (m + 1) l = [l] := by unfold enm; rw [q1]
      refine ⟨mc, step _ (fun e he => ?_), hfr⟩
      rw [e1]
      show _ = some (nI (p.2 + if v ≤ scr W 0 (wn K F d l y) n then 1 else 0), wrL (wrL mc 175 3 (frU (p.2 + if v ≤ scr W 0 (wn K F d l y) n then 1 else 0) (p.1 + 1))) 175 4 (frL (p.2 + if v ≤ scr W 0 (wn K F d l y) n then 1 else 0) (p.1 + 1)))
      rw [← he]
      have he1 : e ≤ 1 := by rw [he]; split <;> omega
      unfold fX12_ways_90
      simp only [LXm]
      refine st_g (by decide) ?_
      rw [show ((0 : Int32).toNatClampNeg) = 0 from rfl, hS2]
      refine st_b q2 (st_t rfl ?_)
      rw [nI_add, nI_l (by first | omega | (dsimp only; omega)), nI_l (by first | omega | (dsimp only; omega))]
      exact st_b (mfrac_e hN (by first | omega | (dsimp only; omega)) (by first | omega | (dsimp only; omega)) (by first | omega | (dsimp only; omega))) rfl
    · obtain ⟨g1, g2, g3, g4⟩ := nx_rk hsl q1
      have e1 : enm n S (m + 1) l = l :: enm n S m p'.2 := by
        show l :: (match nxR n l (S - smN l n) with | none => [] | some p => enm n S m p.2) = _
        rw [q1]
      obtain ⟨m', r1, r2⟩ := ih p'.2 (wyF v (fun x => scr W 0 (wn K F d x y) n) p l) mc f (by first | omega | (dsimp only; omega)) g3 (by show p.1 + 1 + m + 2 < 90000; omega) (by first | omega | (dsimp only; omega)) (by show (p.2 + if v ≤ scr W 0 (wn K F d l y) n then 1 else 0) ≤ p.1 + 1; split <;> omega) (MS_c M (fun k j e => hfr.2 _ _ (by first | omega | (dsimp only; omega)))) (by rw [hfr.2 _ _ (by first | omega | (dsimp only; omega))]; exact hd) (by rw [hfr.2 _ _ (by first | omega | (dsimp only; omega))]; exact h0) (hY.c (fun j hj => hfr.2 _ _ (by first | omega | (dsimp only; omega)))) q3
      refine ⟨m', step _ (fun e he => ?_), hfr.tr r2⟩
      rw [e1]
      unfold fX12_ways_90
      simp only [LXm]
      refine st_g (by decide) ?_
      rw [show ((0 : Int32).toNatClampNeg) = 0 from rfl, hS2]
      refine st_b q2 (st_f (by decide) ?_)
      rw [nI_add, he]
      exact r1
end Wy
theorem ok_18 {N : Nat} (hN : 100000 ≤ N) : OK_18 N Rel := by
  intro a1 a2 mm h
  obtain ⟨n, K, W, F, d, s, t, C, M, hd, hd', hd9, hs, hs', hs40, ht, ht', ht40⟩ := Rel_data h
  have hn := C.2.1
  rcases rng a1 6 with ⟨r, hr, -, rfl⟩ | hb
  rotate_left
  · refine ⟨-1, mm, mm, ?_, ?_, h⟩
    · unfold fX11_ways
      exact st_b (rowOf_n hb) (st_c0 rfl)
    · unfold fX12_ways
      exact st_b (isRow_n hb) (st_t rfl rfl)
  rcases rng a2 109 with ⟨v, hv, -, rfl⟩ | hb
  rotate_left
  · refine ⟨-1, mm, mm, ?_, ?_, h⟩
    · unfold fX11_ways
      refine st_b (rowOf_t hr) (st_c ?_)
      rcases hb with hb | ⟨j, h1, h2, rfl⟩
      · exact st_t hb rfl
      · exact st_f (nI_pos h2) (st_f (nI_ge (by first | omega | (dsimp only; omega)) h2) rfl)
    · unfold fX12_ways
      exact st_b (isRow_t hr) (st_f (by decide) (st_b (in_o (n := 109) rfl hb (by first | omega | (dsimp only; omega))) (st_t rfl rfl)))
  have hin : ∀ m, fX12_in N (nI v) 0 108 m = some (1, m) := fun m => in_t (nI_pos (by first | omega | (dsimp only; omega))) (nI_nlt (by first | omega | (dsimp only; omega)) (by first | omega | (dsimp only; omega)))
  have cst : ∀ R, (if nI s ≤ 12 then (bd2 (fX11_isWrong N 0 (95 + 2 * r) 1 mm) fun x22 m23 => if x22 = 0 then (gd (inb 0 2) <| bd2 (fX3_begin N 33 (rd m23 3 5) (rd m23 5 0) m23) fun x27 m28 => fX11_ways_83 N N 0 (nI v) (95 + 2 * r) 0 0 0 m28) else (some ((-3), m23))) else (some ((-6), mm))) = R → fX11_ways N 0 (nI r) (nI v) mm = R := by
    intro R hR
    unfold fX11_ways
    refine st_b (rowOf_t hr) (st_c (st_f (nI_pos (by first | omega | (dsimp only; omega))) (st_t (nI_le (by first | omega | (dsimp only; omega)) (by first | omega | (dsimp only; omega))) ?_)))
    simp only [LXa, LXb]
    refine st_g (by decide) ?_
    rw [show ((0 : Int32).toNatClampNeg) = 0 from rfl, hs]
    exact hR
  have mst : ∀ m1, MA mm m1 → ∀ R, (if nI s ≤ 12 then (bd2 (fX12_askedLaying N 175 (nI r) 1 m1) fun x29 m30 => if (0 : Int32) ≤ x29 then (bd2 (fX12_takes N 175 (nI r) 1 m30) fun x33 m34 => bd2 (fX12_firstStep N 175 m34) fun x36 m37 => fX12_ways_62 N N 175 (nI v) 0 0 m37) else (some (x29, m30))) else (some ((-6), m1))) = R → fX12_ways N 175 (nI r) (nI v) m1 = R := by
    intro m1 A R hR
    unfold fX12_ways
    refine st_b (isRow_t hr) (st_f (by decide) (st_b (hin _) (st_f (by decide) ?_)))
    simp only [LXm]
    refine st_g (by decide) ?_
    rw [show ((0 : Int32).toNatClampNeg) = 0 from rfl, A _ _ (by first | omega | (dsimp only; omega)), hs']
    exact hR
  by_cases hs12 : s ≤ 12
  rotate_left
  · refine ⟨-6, mm, mm, cst _ (st_f (nI_ge (by first | omega | (dsimp only; omega)) (by first | omega | (dsimp only; omega))) rfl), mst _ (fun _ _ _ => rfl) _ (st_f (nI_ge (by first | omega | (dsimp only; omega)) (by first | omega | (dsimp only; omega))) rfl), h⟩
  have h12 : nI s ≤ 12 := nI_le hs12 (by first | omega | (dsimp only; omega))
  rcases one_e (a := 1) hN h C M hr (by first | omega | (dsimp only; omega)) ht ht' ht40 with ⟨f, hf, e1, e2⟩ | ⟨e1, z1, z2, L1, v1, e2⟩
  · have A : MA mm (cRef f mm) := fun k j hk => rd_cRef (by first | omega | (dsimp only; omega)) (by first | omega | (dsimp only; omega))
    exact ⟨-3, cRef f mm, mMeet f (cRef f mm), cst _ (st_t h12 (st_b e1 (st_f (by decide) rfl))), mst _ A _ (st_t h12 (st_b (e2 _ A) (st_f (by decide) rfl))), rel_ref h hf⟩
  · obtain ⟨y1, y2⟩ := lay_n L1
    generalize lO (fun j => rd mm (96 + 2 * r) j) = y at y1 y2
    have y1' : HA mm (96 + 2 * r) n y := y1
    have y3 : ∀ i, i < n → y i ≤ 1000 := fun i hi => by have := y2 i hi; omega
    obtain ⟨m0, b1, b2, b3, b4, b5⟩ := cbegin_e (N := N) (mm := mm) hN hn hs40
    have hz0 : smN (fun _ => 0) n = 0 := by
      have := smN_le (f := fun _ => 0) (b := 0) n (fun i _ => Nat.le_refl _)
      omega
    have hrk : rkN n s (fun _ => 0) ≤ 18564 := by
      have h1 := rk_cnt (l := fun _ => 0) n 0 s
      have h2 := cnt_12 hn hs12
      unfold rkN; omega
    have h320 : rd m0 32 0 = 0 := by rw [b2.2 _ _ (by first | omega | (dsimp only; omega))]; exact h.2.2.2.2.1.1
    obtain ⟨m1, c1, c2, c3⟩ := cways_l (N := N) (d := d) (S := s) (v := v) (q := r) (y := y) hN hd9 hs40 hr y3 (by first | omega | (dsimp only; omega)) 18564 (fun _ => 0) 0 (0, 0) m0 N hrk (by first | omega | (dsimp only; omega)) (by first | omega | (dsimp only; omega)) (by show 0 + 18564 + 2 < 1000000; omega) (by first | omega | (dsimp only; omega)) (Nat.le_refl _) (CS_c C (fun k j e => b2.2 _ _ (by first | omega | (dsimp only; omega)))) (by rw [b2.2 _ _ (by first | omega | (dsimp only; omega))]; exact hd) (y1'.c (fun j hj => b2.2 _ _ (by first | omega | (dsimp only; omega)))) b3 b4 (by rw [hz0]; exact b5) (SW_0 h320) h320
    obtain ⟨w1, w2, w3⟩ := wy_b (n := n) (S := s) (v := v) (sc := fun x => scr W 0 (wn K F d x y) n) 18564 (fun _ => 0) (0, 0) (Nat.le_refl _)
    have hc148 : fX11_ways_148 N 0 (nI ((enm n s 18564 (fun _ => 0)).foldl (wyF v (fun x => scr W 0 (wn K F d x y) n)) (0, 0)).1) (nI ((enm n s 18564 (fun _ => 0)).foldl (wyF v (fun x => scr W 0 (wn K F d x y) n)) (0, 0)).2) m1 = some (nI ((enm n s 18564 (fun _ => 0)).foldl (wyF v (fun x => scr W 0 (wn K F d x y) n)) (0, 0)).2, wrL (wrL m1 0 15 (frU ((enm n s 18564 (fun _ => 0)).foldl (wyF v (fun x => scr W 0 (wn K F d x y) n)) (0, 0)).2 ((enm n s 18564 (fun _ => 0)).foldl (wyF v (fun x => scr W 0 (wn K F d x y) n)) (0, 0)).1)) 0 16 (frL ((enm n s 18564 (fun _ => 0)).foldl (wyF v (fun x => scr W 0 (wn K F d x y) n)) (0, 0)).2 ((enm n s 18564 (fun _ => 0)).foldl (wyF v (fun x => scr W 0 (wn K F d x y) n)) (0, 0)).1)) := by
      unfold fX11_ways_148
      rw [nI_l (by first | omega | (dsimp only; omega)), nI_l (by first | omega | (dsimp only; omega))]
      exact st_b (cfrac_e hN (by first | omega | (dsimp only; omega)) (by first | omega | (dsimp only; omega)) (by first | omega | (dsimp only; omega))) rfl
    have hmw := fun ma (Ma : MS ma n K W F) h1 h2 h3 h4 => mways_l (N := N) (d := d) (S := s) (v := v) (y := y) hN hd9 hs40 y3 (by first | omega | (dsimp only; omega)) 18564 (fun _ => 0) (0, 0) ma N hrk (by first | omega | (dsimp only; omega)) (by show 0 + 18564 + 2 < 90000; omega) (by first | omega | (dsimp only; omega)) (Nat.le_refl _) Ma h1 h2 h3 h4
    generalize (enm n s 18564 (fun _ => 0)).foldl (wyF v (fun x => scr W 0 (wn K F d x y) n)) (0, 0) = P at c1 w1 w2 w3 hc148 hmw
    have hA : MA mm (wrL (wrL m1 0 15 (frU P.2 P.1)) 0 16 (frL P.2 P.1)) := fun k j hk => by rw [rd_wrL, rd_wrL, c2.2 _ _ (by first | omega | (dsimp only; omega)), b2.2 _ _ (by first | omega | (dsimp only; omega))]
    have M1 := hA.ms M
    obtain ⟨ma, k1, k2, k3⟩ := takes_e (N := N) (s := 1) (x := y) hN hr (by first | omega | (dsimp only; omega)) M1 (fun i hi => by rw [hA _ _ (by first | omega | (dsimp only; omega)), ← v1 i hi]; exact y1 i hi)
    have Ma : MS ma n K W F := MS_c M1 (fun k j e => k2.2 _ _ (by first | omega | (dsimp only; omega)))
    obtain ⟨mb, o1, o2, o3⟩ := mfirst_e (N := N) (n := n) (mm := ma) hN hn
    have Mb : MS mb n K W F := MS_c Ma (fun k j e => o2.2 _ _ (by first | omega | (dsimp only; omega)))
    obtain ⟨mc, p1, p2⟩ := hmw mb Mb (by rw [o2.2 _ _ (by first | omega | (dsimp only; omega)), k2.2 _ _ (by first | omega | (dsimp only; omega)), hA _ _ (by first | omega | (dsimp only; omega))]; exact hd') (by rw [o2.2 _ _ (by first | omega | (dsimp only; omega)), k2.2 _ _ (by first | omega | (dsimp only; omega)), hA _ _ (by first | omega | (dsimp only; omega))]; exact hs') (HA.c k3 (fun j hj => o2.2 _ _ (by first | omega | (dsimp only; omega)))) o3
    refine ⟨nI P.2, wrL (wrL m1 0 15 (frU P.2 P.1)) 0 16 (frL P.2 P.1), wrL (wrL mc 175 3 (frU P.2 P.1)) 175 4 (frL P.2 P.1), cst _ (st_t h12 (st_b e1 (st_t rfl (st_g (by decide) ?_)))), mst _ hA _ (st_t h12 (st_b (e2 _ hA) (st_t (by decide) (st_b k1 (st_b o1 p1))))), ?_⟩
    · rw [C.1, hs]
      exact st_b b1 (c1.trans hc148)
    · have hk : ∀ k j, ¬ ((29 ≤ k ∧ k ≤ 34) ∨ (185 ≤ k ∧ k ≤ 187) ∨ k = 190) → rd (wrL (wrL mc 175 3 (frU P.2 P.1)) 175 4 (frL P.2 P.1)) k j = rd mm k j := fun k j hk => by
        rw [rd_wrL, rd_wrL, p2.2 _ _ (by first | omega | (dsimp only; omega)), o2.2 _ _ (by first | omega | (dsimp only; omega)), k2.2 _ _ (by first | omega | (dsimp only; omega)), rd_wrL, rd_wrL, c2.2 _ _ (by first | omega | (dsimp only; omega)), b2.2 _ _ (by first | omega | (dsimp only; omega))]
      refine Rel_g0 (r := 6) h (fun k j q => hk k j (fun w => q ?_)) ?_ (RF_fr h.2.2.2.1 (fun k j e => hk k j (by first | omega | (dsimp only; omega))) ?_ ?_) (RR_c h.1 (fun k j e => hk k j (by first | omega | (dsimp only; omega))))
      · rcases w with w | w | w
        · exact Or.inl (by unfold ScC; omega)
        · exact Or.inr (Or.inl (by unfold ScM; omega))
        · exact Or.inr (Or.inl (by unfold ScM; omega))
      · obtain ⟨q1, q2, q3, q4, q5⟩ := h.2.2.2.2.1
        refine ⟨?_, by rw [hk _ _ (by first | omega | (dsimp only; omega))]; exact q2, by rw [hk _ _ (by first | omega | (dsimp only; omega))]; exact q3, by rw [hk _ _ (by first | omega | (dsimp only; omega))]; exact q4, fun w hw => by rw [hk _ _ (by first | omega | (dsimp only; omega))]; exact q5 w hw⟩
        rw [rd_wrL, rd_wrL, p2.2 _ _ (by first | omega | (dsimp only; omega)), o2.2 _ _ (by first | omega | (dsimp only; omega)), k2.2 _ _ (by first | omega | (dsimp only; omega)), rd_wrL, rd_wrL]
        exact c3
      · have e1 : rdL mc 0 15 = frU P.2 P.1 := by
          rw [p2.L, o2.L, k2.L, rdL_wrL, if_neg (by first | omega | (dsimp only; omega)), rdL_wrL, if_pos ⟨rfl, rfl⟩]
        rw [rdL_wrL, if_neg (by first | omega | (dsimp only; omega)), rdL_wrL, if_pos ⟨rfl, rfl⟩, rdL_wrL, if_neg (by first | omega | (dsimp only; omega)), rdL_wrL, if_neg (by first | omega | (dsimp only; omega)), e1]
      · have e1 : rdL mc 0 16 = frL P.2 P.1 := by
          rw [p2.L, o2.L, k2.L, rdL_wrL, if_pos ⟨rfl, rfl⟩]
        rw [rdL_wrL, if_pos ⟨rfl, rfl⟩, rdL_wrL, if_neg (by first | omega | (dsimp only; omega)), rdL_wrL, if_neg (by first | omega | (dsimp only; omega)), e1]
