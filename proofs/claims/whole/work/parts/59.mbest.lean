/-! pure: the model's searches -/
def SM (mm : Mm) (n : Nat) (b : Option Lf) : Prop := (∀ y, b = some y → rd mm 175 24 = nI y.1 ∧ rd mm 175 25 = nI y.2.1 ∧ HA mm 189 n y.2.2 ∧ y.1 ≤ 108 ∧ y.2.1 ≤ 240 ∧ ∀ j, j < n → y.2.2 j ≤ 40) ∧ (b = none → rd mm 175 24 = -1)
theorem SM.c {mm m2 : Mm} {n : Nat} {b : Option Lf} (h : SM mm n b) (e : ∀ k j, (k = 175 ∧ (j = 24 ∨ j = 25)) ∨ k = 189 → rd m2 k j = rd mm k j) : SM m2 n b := by
  obtain ⟨h3, h4⟩ := h
  refine ⟨fun y hy => ?_, fun hb => by rw [e _ _ (by first | omega | (dsimp only; omega))]; exact h4 hb⟩
  obtain ⟨a1, a2, a3, a4⟩ := h3 y hy
  exact ⟨by rw [e _ _ (by first | omega | (dsimp only; omega))]; exact a1, by rw [e _ _ (by first | omega | (dsimp only; omega))]; exact a2, a3.c (fun i hi => e _ _ (by first | omega | (dsimp only; omega))), a4⟩
section Mb
variable {N n d L s : Nat} {K W F z : Nat → Nat}
theorem ahd_l {mm : Mm} {l v : Nat → Nat} (M : MS mm n K W F) (h1 : HA mm 188 n l) (h2 : HA mm 189 n v) (hl : ∀ j, j < n → l j ≤ 40) (hv : ∀ j, j < n → v j ≤ 40) : ∀ c i, i + c = n → ∀ f, c < f → fX12_isAhead_48 N f 175 (nI i) mm = some (if lexL l v c i = true then 1 else 0, mm) := by
  have hn := M.2.1
  intro c
  induction c with
  | zero =>
    intro i hi f hf
    obtain ⟨f, rfl⟩ : ∃ g, f = g + 1 := ⟨f - 1, by omega⟩
    unfold fX12_isAhead_48
    exact st_t (by rw [M.1]; exact nI_le (by first | omega | (dsimp only; omega)) (by first | omega | (dsimp only; omega))) rfl
  | succ c ih =>
    intro i hi f hf
    obtain ⟨f, rfl⟩ : ∃ g, f = g + 1 := ⟨f - 1, by omega⟩
    have hin : i < n := by omega
    have ih2 := ih (i + 1) (by first | omega | (dsimp only; omega)) f (by first | omega | (dsimp only; omega))
    have := hl i hin
    have := hv i hin
    unfold fX12_isAhead_48 lexL
    simp only [LXm, nI_nat (show i < 2147483648 by omega), nI_1]
    refine st_f (by rw [M.1]; exact nI_ge hin (by first | omega | (dsimp only; omega))) (st_k rfl (by first | omega | (dsimp only; omega)) (by first | omega | (dsimp only; omega)) (st_k rfl (by first | omega | (dsimp only; omega)) (by first | omega | (dsimp only; omega)) ?_))
    rw [h1 i hin, h2 i hin]
    by_cases hq : l i = v i
    · rw [if_pos hq]
      exact st_t (by rw [hq]) ih2
    · rw [if_neg hq]
      refine st_f (fun q => hq (nI_inj q (by first | omega | (dsimp only; omega)) (by first | omega | (dsimp only; omega)))) (st_k rfl (by first | omega | (dsimp only; omega)) (by first | omega | (dsimp only; omega)) (st_k rfl (by first | omega | (dsimp only; omega)) (by first | omega | (dsimp only; omega)) ?_))
      by_cases hlt : v i ≤ l i
      · rw [if_neg (show ¬ decide (l i < v i) = true by rw [decide_eq_true_eq]; omega)]
        exact st_t (nI_le hlt (by first | omega | (dsimp only; omega))) rfl
      · rw [if_pos (show decide (l i < v i) = true by rw [decide_eq_true_eq]; omega)]
        exact st_f (nI_ge (by first | omega | (dsimp only; omega)) (by first | omega | (dsimp only; omega))) rfl
theorem bcopy_l {l : Nat → Nat} (hn6 : n ≤ 6) : ∀ c i mm, i + c = n → MS mm n K W F → HA mm 188 n l → HA mm 189 i l → ∀ (rec : Nat → Int32 → Int32 → Int32 → Mm → Option (Unit × Mm)) f, c < f → ∃ m', fX12_bestOn_30 N rec f 175 (nI i) mm = some ((), m') ∧ Fr (fun k _ => k = 189) mm m' ∧ HA m' 189 n l := by
  intro c
  induction c with
  | zero =>
    intro i mm hi M h1 h2 rec f hf
    obtain ⟨f, rfl⟩ : ∃ g, f = g + 1 := ⟨f - 1, by omega⟩
    obtain rfl : i = n := by omega
    refine ⟨mm, ?_, Fr.rf, h2⟩
    unfold fX12_bestOn_30
    exact st_t (by rw [M.1]; exact nI_le (by first | omega | (dsimp only; omega)) (by first | omega | (dsimp only; omega))) rfl
  | succ c ih =>
    intro i mm hi M h1 h2 rec f hf
    obtain ⟨f, rfl⟩ : ∃ g, f = g + 1 := ⟨f - 1, by omega⟩
    have hin : i < n := by omega
    have hfr : Fr (fun k _ => k = 189) mm (wr mm 189 i (nI (l i))) := fr_wr Fr.rf rfl
    obtain ⟨m', a1, a2, a3⟩ := ih (i + 1) (wr mm 189 i (nI (l i))) (by first | omega | (dsimp only; omega)) (MS_c M (fun k j e => hfr.2 _ _ (by first | omega | (dsimp only; omega)))) (h1.c (fun j hj => hfr.2 _ _ (by first | omega | (dsimp only; omega)))) (fun j hj => by
      by_cases hji : j = i
      · subst hji; rw [rd_wr_s]
      · rw [rd_wr_j hji]; exact h2 j (by first | omega | (dsimp only; omega))) rec f (by first | omega | (dsimp only; omega))
    refine ⟨m', ?_, hfr.tr a2, a3⟩
    unfold fX12_bestOn_30
    simp only [LXm, nI_nat (show i < 2147483648 by omega), nI_1, h1 i hin]
    exact st_f (by rw [M.1]; exact nI_ge hin (by first | omega | (dsimp only; omega))) (st_k rfl (by first | omega | (dsimp only; omega)) (by first | omega | (dsimp only; omega)) (st_k rfl (by first | omega | (dsimp only; omega)) (by first | omega | (dsimp only; omega)) (st_n a1)))
/-- a leaf, seen by the model -/
theorem mclose_e {mm : Mm} {b : Option Lf} {l : Nat → Nat} {sc sh : Nat} {rec : Nat → Int32 → Int32 → Int32 → Mm → Option (Unit × Mm)} (hN : 100000 ≤ N) (M : MS mm n K W F) (hS : SM mm n b) (hL : HA mm 188 n l) (hl : ∀ j, j < n → l j ≤ 40) (hsc : sc ≤ 108) (hsh : sh ≤ 240) : ∃ m', fX12_bestOn_0 N rec 175 (nI n) (nI sc) (nI sh) mm = some ((), m') ∧ Fr (fun k j => (k = 175 ∧ (j = 24 ∨ j = 25)) ∨ k = 189) mm m' ∧ SM m' n (bst n b (sc, sh, l)) := by
  have hn := M.2.1
  obtain ⟨s3, s4⟩ := hS
  -- taken
  have htk : fX12_isAhead N 175 (nI sc) (nI sh) mm = some (1, mm) → bst n b (sc, sh, l) = some (sc, sh, l) → ∃ m', fX12_bestOn_0 N rec 175 (nI n) (nI sc) (nI sh) mm = some ((), m') ∧ Fr (fun k j => (k = 175 ∧ (j = 24 ∨ j = 25)) ∨ k = 189) mm m' ∧ SM m' n (bst n b (sc, sh, l)) := by
    intro h1 h2
    have hfr : Fr (fun k j => (k = 175 ∧ (j = 24 ∨ j = 25)) ∨ k = 189) mm (wr (wr mm 175 24 (nI sc)) 175 25 (nI sh)) := fr_wr (fr_wr Fr.rf (by first | omega | (dsimp only; omega))) (by first | omega | (dsimp only; omega))
    obtain ⟨m', a1, a2, a3⟩ := bcopy_l (N := N) (l := l) hn n 0 (wr (wr mm 175 24 (nI sc)) 175 25 (nI sh)) (by first | omega | (dsimp only; omega)) (MS_c M (fun k j e => hfr.2 _ _ (by first | omega | (dsimp only; omega)))) (hL.c (fun i hi => hfr.2 _ _ (by first | omega | (dsimp only; omega)))) (fun j hj => by omega) rec N (by first | omega | (dsimp only; omega))
    refine ⟨m', ?_, hfr.tr (a2.mono (fun k j e => by omega)), ?_⟩
    · unfold fX12_bestOn_0
      exact st_t (by rw [M.1]) (st_b h1 (st_f (by decide) (st_n (st_n a1))))
    · rw [h2]
      refine ⟨fun y hy => ?_, fun q => by cases q⟩
      cases hy
      refine ⟨?_, ?_, a3, hsc, hsh, hl⟩
      · rw [a2.2 _ _ (by first | omega | (dsimp only; omega)), rd_wr_j (by first | omega | (dsimp only; omega)), rd_wr_s]
      · rw [a2.2 _ _ (by first | omega | (dsimp only; omega)), rd_wr_s]
  have hlv : fX12_isAhead N 175 (nI sc) (nI sh) mm = some (0, mm) → bst n b (sc, sh, l) = b → ∃ m', fX12_bestOn_0 N rec 175 (nI n) (nI sc) (nI sh) mm = some ((), m') ∧ Fr (fun k j => (k = 175 ∧ (j = 24 ∨ j = 25)) ∨ k = 189) mm m' ∧ SM m' n (bst n b (sc, sh, l)) := by
    intro h1 h2
    refine ⟨mm, ?_, Fr.rf, by rw [h2]; exact ⟨s3, s4⟩⟩
    unfold fX12_bestOn_0
    exact st_t (by rw [M.1]) (st_b h1 (st_t rfl rfl))
  cases b with
  | none =>
    refine htk ?_ rfl
    unfold fX12_isAhead fX12_isAhead_16
    rw [s4 rfl]
    refine st_f (neg1_ne (by first | omega | (dsimp only; omega))) (st_t ?_ rfl)
    rw [i_lt, nI_toInt (by first | omega | (dsimp only; omega))]
    have : (-1 : Int32).toInt = -1 := rfl
    omega
  | some y =>
    obtain ⟨a1, a2, a3, a4, a5, a6⟩ := s3 y rfl
    have hb : bst n (some y) (sc, sh, l) = if btr n (sc, sh, l) y = true then some (sc, sh, l) else some y := rfl
    have hB : btr n (sc, sh, l) y = true ↔ y.1 < sc ∨ (sc = y.1 ∧ (sh < y.2.1 ∨ (sh = y.2.1 ∧ lexL l y.2.2 n 0 = true))) := by
      unfold btr
      simp only [Bool.or_eq_true, Bool.and_eq_true, decide_eq_true_eq]
    have h16 : ¬ (sc = y.1 ∧ sh = y.2.1) → fX12_isAhead_16 N 175 (nI sc) (nI sh) mm = some (if btr n (sc, sh, l) y = true then 1 else 0, mm) := by
      intro hne
      unfold fX12_isAhead_16
      rw [a1, a2]
      by_cases c1 : y.1 < sc
      · rw [if_pos (hB.mpr (Or.inl c1))]
        exact st_t (nI_lt c1 (by first | omega | (dsimp only; omega))) rfl
      refine st_f (nI_nlt (by first | omega | (dsimp only; omega)) (by first | omega | (dsimp only; omega))) ?_
      by_cases c2 : sc = y.1
      · refine st_t (by rw [c2]) ?_
        by_cases c3 : sh < y.2.1
        · rw [if_pos (show btr n (sc, sh, l) y = true from hB.mpr (Or.inr ⟨c2, Or.inl c3⟩))]
          exact st_f (nI_ge c3 (by first | omega | (dsimp only; omega))) rfl
        · rw [if_neg (show ¬ btr n (sc, sh, l) y = true from fun q => by rcases hB.mp q with q | ⟨q, q' | ⟨q', q''⟩⟩ <;> omega)]
          exact st_t (nI_le (by first | omega | (dsimp only; omega)) (by first | omega | (dsimp only; omega))) rfl
      · rw [if_neg (show ¬ btr n (sc, sh, l) y = true from fun q => by rcases hB.mp q with q | ⟨q, q' | ⟨q', q''⟩⟩ <;> omega)]
        exact st_f (fun q => c2 (nI_inj q (by first | omega | (dsimp only; omega)) (by first | omega | (dsimp only; omega)))) rfl
    have hah : fX12_isAhead N 175 (nI sc) (nI sh) mm = some (if btr n (sc, sh, l) y = true then 1 else 0, mm) := by
      unfold fX12_isAhead
      rw [a1, a2]
      by_cases c2 : sc = y.1
      · by_cases c4 : sh = y.2.1
        · have he := ahd_l (N := N) (v := y.2.2) M hL a3 hl a6 n 0 (by first | omega | (dsimp only; omega)) N (by first | omega | (dsimp only; omega))
          have hBL : btr n (sc, sh, l) y = true ↔ lexL l y.2.2 n 0 = true := by
            rw [hB]
            constructor
            · intro q
              rcases q with q | ⟨q, q' | ⟨q', q''⟩⟩
              · omega
              · omega
              · exact q''
            · intro q
              exact Or.inr ⟨c2, Or.inr ⟨c4, q⟩⟩
          have he2 : (if btr n (sc, sh, l) y = true then (1 : Int32) else 0) = if lexL l y.2.2 n 0 = true then 1 else 0 := by
            by_cases q : lexL l y.2.2 n 0 = true
            · rw [if_pos q, if_pos (hBL.mpr q)]
            · rw [if_neg q, if_neg (fun w => q (hBL.mp w))]
          rw [he2]
          exact st_t (by rw [c2]) (st_t (by rw [c4]) he)
        · exact st_t (by rw [c2]) (st_f (fun q => c4 (nI_inj q (by first | omega | (dsimp only; omega)) (by first | omega | (dsimp only; omega)))) (h16 (fun q => c4 q.2)))
      · exact st_f (fun q => c2 (nI_inj q (by first | omega | (dsimp only; omega)) (by first | omega | (dsimp only; omega)))) (h16 (fun q => c2 q.1))
    by_cases hq : btr n (sc, sh, l) y = true
    · rw [if_pos hq] at hah hb
      exact htk hah hb
    · rw [if_neg hq] at hah hb
      exact hlv hah hb
/-- what stands while the model searches -/
def MI (mm : Mm) (n d s i : Nat) (K W F z w : Nat → Nat) : Prop := MS mm n K W F ∧ rd mm 175 13 = nI d ∧ HA mm (186 - s) n z ∧ HA mm 187 i w ∧ (∀ j, j < i → w j ≤ 2)
theorem MI.c {mm m2 : Mm} {i : Nat} {w : Nat → Nat} (h : MI mm n d s i K W F z w) (hs : s ≤ 1) (hi : i ≤ n) (f : Fr (fun k j => (k = 175 ∧ (j = 24 ∨ j = 25 ∨ j = 28 ∨ j = 29 ∨ j = 31)) ∨ k = 189 ∨ ((k = 187 ∨ k = 188) ∧ i ≤ j ∧ j < n)) mm m2) : MI m2 n d s i K W F z w := by
  obtain ⟨h1, h2, h4, h5, h8⟩ := h
  exact ⟨MS_c h1 (fun k j e => f.2 _ _ (by first | omega | (dsimp only; omega))), by rw [f.2 _ _ (by first | omega | (dsimp only; omega))]; exact h2, h4.c (fun j hj => f.2 _ _ (by first | omega | (dsimp only; omega))), h5.c (fun j hj => f.2 _ _ (by first | omega | (dsimp only; omega))), h8⟩
theorem mbest_l (hN : 100000 ≤ N) (hd9 : d ≤ 9) (hL : L ≤ 240) (hz : ∀ i, i < n → z i ≤ 1000) (hn6 : n ≤ 6) : ∀ r i w l sc sh mm b D, i + r = n → r < D → MI mm n d 0 i K W F z w → rd mm 175 22 = nI L → HA mm 188 i l → (∀ j, j < i → l j ≤ 40) → SM mm n b → sc ≤ 18 * i → sh ≤ 240 → ∃ m', fX12_bestOn N D 175 (nI i) (nI sc) (nI sh) mm = some ((), m') ∧ Fr (fun k j => (k = 175 ∧ (j = 24 ∨ j = 25)) ∨ k = 189 ∨ ((k = 187 ∨ k = 188) ∧ i ≤ j ∧ j < n)) mm m' ∧ SM m' n ((lvs K W F d z 0 L r i w l sc sh).foldl (bst n) b) := by
  intro r
  induction r with
  | zero =>
    intro i w l sc sh mm b D hi hD hB hlim hLd hl hS hsc hsh
    obtain ⟨D, rfl⟩ : ∃ g, D = g + 1 := ⟨D - 1, by omega⟩
    obtain rfl : i = n := by omega
    obtain ⟨m', c1, c2, c3⟩ := mclose_e (N := N) (l := l) (sc := sc) (sh := sh) (rec := fX12_bestOn N D) hN hB.1 hS hLd hl (by first | omega | (dsimp only; omega)) hsh
    refine ⟨m', ?_, c2.mono (fun k j e => by omega), c3⟩
    unfold fX12_bestOn
    exact c1
  | succ r ih =>
    intro i w l sc sh mm b D hi hD hB hlim hLd hl hS hsc hsh
    obtain ⟨D, rfl⟩ : ∃ g, D = g + 1 := ⟨D - 1, by omega⟩
    have hin : i < n := by omega
    have loop : ∀ c e mm b, e + c = 3 → MI mm n d 0 i K W F z w → rd mm 175 22 = nI L → HA mm 188 i l → SM mm n b → ∀ f, c < f → ∃ m', fX12_bestOn_63 N (fX12_bestOn N D) f 175 (nI i) (nI sc) (nI sh) (nI e) mm = some ((), m') ∧ Fr (fun k j => (k = 175 ∧ (j = 24 ∨ j = 25)) ∨ k = 189 ∨ ((k = 187 ∨ k = 188) ∧ i ≤ j ∧ j < n)) mm m' ∧ SM m' n ((lvC (fun e => match nd K F d w z 0 i e with
        | none => []
        | some x => if sh + x ≤ L then lvs K W F d z 0 L r (i + 1) (up w i e) (up l i x) (sc + pts (W i) 0 e) (sh + x) else []) c e).foldl (bst n) b) := by
      intro c
      induction c with
      | zero =>
        intro e mm b he hB hlim hLd hS f hf
        obtain ⟨f, rfl⟩ : ∃ g, f = g + 1 := ⟨f - 1, by omega⟩
        refine ⟨mm, ?_, Fr.rf, hS⟩
        unfold fX12_bestOn_63
        exact st_t (nI_le (by first | omega | (dsimp only; omega)) (by first | omega | (dsimp only; omega))) rfl
      | succ c ihc =>
        intro e mm b he hB hlim hLd hS f hf
        obtain ⟨f, rfl⟩ : ∃ g, f = g + 1 := ⟨f - 1, by omega⟩
        have hB0 := hB
        obtain ⟨h1, h2, h4, h5, h8⟩ := hB
        obtain ⟨-, k1, k2, k3, k4, k5, k6, k7⟩ := h1.2.2 i hin
        have r1 := mneed_e (N := N) (d := d) (w := w) (z := z) (s := 0) (i := i) (e := e) hN h1 h2 hd9 hin (by first | omega | (dsimp only; omega)) (by first | omega | (dsimp only; omega)) (fun q => ⟨h5 _ (k6 q), h8 _ (k6 q)⟩) (h4 i hin) (hz i hin)
        have pts18 := pts_18 (s := 0) (e := e) k3
        have skip : (match nd K F d w z 0 i e with
            | none => []
            | some x => if sh + x ≤ L then lvs K W F d z 0 L r (i + 1) (up w i e) (up l i x) (sc + pts (W i) 0 e) (sh + x) else []) = [] → (∀ R, fX12_bestOn_63 N (fX12_bestOn N D) f 175 (nI i) (nI sc) (nI sh) (nI (e + 1)) mm = R → fX12_bestOn_63 N (fX12_bestOn N D) (f + 1) 175 (nI i) (nI sc) (nI sh) (nI e) mm = R) → ∃ m', fX12_bestOn_63 N (fX12_bestOn N D) (f + 1) 175 (nI i) (nI sc) (nI sh) (nI e) mm = some ((), m') ∧ Fr (fun k j => (k = 175 ∧ (j = 24 ∨ j = 25)) ∨ k = 189 ∨ ((k = 187 ∨ k = 188) ∧ i ≤ j ∧ j < n)) mm m' ∧ SM m' n ((lvC (fun e => match nd K F d w z 0 i e with
              | none => []
              | some x => if sh + x ≤ L then lvs K W F d z 0 L r (i + 1) (up w i e) (up l i x) (sc + pts (W i) 0 e) (sh + x) else []) (c + 1) e).foldl (bst n) b) := by
          intro hnil hR
          obtain ⟨m', a1, a2, a3⟩ := ihc (e + 1) mm b (by first | omega | (dsimp only; omega)) hB0 hlim hLd hS f (by first | omega | (dsimp only; omega))
          refine ⟨m', hR _ a1, a2, ?_⟩
          unfold lvC
          rw [hnil]
          exact a3
        cases hy : nd K F d w z 0 i e with
        | none =>
          refine skip (by rw [hy]) (fun R hR => ?_)
          unfold fX12_bestOn_63 fX12_bestOn_134
          rw [hy] at r1
          simp only [nI_1]
          exact st_f (nI_ge (by first | omega | (dsimp only; omega)) (by first | omega | (dsimp only; omega))) (st_b r1 (st_t rfl hR))
        | some y =>
          have y40 := nd_40 hy
          rw [hy] at r1
          by_cases hLy : sh + y ≤ L
          · have hup : Fr (fun k j => (k = 175 ∧ (j = 24 ∨ j = 25)) ∨ k = 189 ∨ ((k = 187 ∨ k = 188) ∧ i ≤ j ∧ j < n)) mm (wr (wr mm 188 i (nI y)) 187 i (nI e)) := fr_wr (fr_wr Fr.rf (by first | omega | (dsimp only; omega))) (by first | omega | (dsimp only; omega))
            obtain ⟨p1, p2, p4, p5, p8⟩ := hB0.c (by first | omega | (dsimp only; omega)) (by first | omega | (dsimp only; omega)) (hup.mono (fun k j e => by omega))
            have hB1 : MI (wr (wr mm 188 i (nI y)) 187 i (nI e)) n d 0 (i + 1) K W F z (up w i e) := by
              refine ⟨p1, p2, p4, fun j hj => ?_, fun j hj => ?_⟩
              · by_cases hji : j = i
                · subst hji; rw [up_s, rd_wr_s]
                · rw [up_o hji]; exact p5 j (by first | omega | (dsimp only; omega))
              · by_cases hji : j = i
                · subst hji; rw [up_s]; omega
                · rw [up_o hji]; exact h8 j (by first | omega | (dsimp only; omega))
            obtain ⟨m1, a1, a2, a3⟩ := ih (i + 1) (up w i e) (up l i y) (sc + pts (W i) 0 e) (sh + y) _ b D (by first | omega | (dsimp only; omega)) (by first | omega | (dsimp only; omega)) hB1 (by rw [hup.2 _ _ (by first | omega | (dsimp only; omega))]; exact hlim) (fun j hj => by
              by_cases hji : j = i
              · subst hji; rw [up_s, rd_wr_k (by first | omega | (dsimp only; omega)), rd_wr_s]
              · rw [up_o hji, rd_wr_k (by first | omega | (dsimp only; omega)), rd_wr_j hji]; exact hLd j (by first | omega | (dsimp only; omega))) (fun j hj => by
              by_cases hji : j = i
              · subst hji; rw [up_s]; omega
              · rw [up_o hji]; exact hl j (by first | omega | (dsimp only; omega))) (hS.c (fun k j e => by rw [rd_wr, if_neg (by first | omega | (dsimp only; omega)), rd_wr, if_neg (by first | omega | (dsimp only; omega))])) (by first | omega | (dsimp only; omega)) (by first | omega | (dsimp only; omega))
            have hfr1 : Fr (fun k j => (k = 175 ∧ (j = 24 ∨ j = 25)) ∨ k = 189 ∨ ((k = 187 ∨ k = 188) ∧ i ≤ j ∧ j < n)) mm m1 := hup.tr (a2.mono (fun k j e => by omega))
            obtain ⟨m2, b1, b2, b3⟩ := ihc (e + 1) m1 _ (by first | omega | (dsimp only; omega)) (hB0.c (by first | omega | (dsimp only; omega)) (by first | omega | (dsimp only; omega)) (hfr1.mono (fun k j e => by omega))) (by rw [hfr1.2 _ _ (by first | omega | (dsimp only; omega))]; exact hlim) (hLd.c (fun j hj => hfr1.2 _ _ (by first | omega | (dsimp only; omega)))) a3 f (by first | omega | (dsimp only; omega))
            refine ⟨m2, ?_, hfr1.tr b2, ?_⟩
            · unfold fX12_bestOn_63 fX12_bestOn_134
              simp only [LXm, nI_nat (show i < 2147483648 by omega), nI_1]
              refine st_f (nI_ge (by first | omega | (dsimp only; omega)) (by first | omega | (dsimp only; omega))) (st_b r1 (st_f (neg9_ne (by first | omega | (dsimp only; omega))) ?_))
              rw [hlim]
              change (if nI L < nI sh + nI y then _ else _) = _
              rw [nI_add]
              refine st_f (nI_nlt (by first | omega | (dsimp only; omega)) (by first | omega | (dsimp only; omega))) (st_k rfl (by first | omega | (dsimp only; omega)) (by first | omega | (dsimp only; omega)) (st_n (st_k rfl (by first | omega | (dsimp only; omega)) (by first | omega | (dsimp only; omega)) (st_n (st_b (mworth_e (s := 0) p1 hin (by first | omega | (dsimp only; omega)) (by first | omega | (dsimp only; omega))) ?_)))))
              change bd2 (fX12_bestOn N D 175 (nI (i + 1)) (nI sc + nI (pts (W i) 0 e)) (nI sh + nI y) _) _ = _
              rw [nI_add, nI_add]
              exact st_b a1 b1
            · unfold lvC
              rw [List.foldl_append]
              simp only [hy, if_pos hLy]
              exact b3
          · refine skip (by rw [hy]; exact if_neg hLy) (fun R hR => ?_)
            unfold fX12_bestOn_63 fX12_bestOn_134
            simp only [nI_1]
            refine st_f (nI_ge (by first | omega | (dsimp only; omega)) (by first | omega | (dsimp only; omega))) (st_b r1 (st_f (neg9_ne (by first | omega | (dsimp only; omega))) (st_t ?_ hR)))
            rw [hlim]
            change nI L < nI sh + nI y
            rw [nI_add]
            exact nI_lt (by first | omega | (dsimp only; omega)) (by first | omega | (dsimp only; omega))
    obtain ⟨m', l1, l2, l3⟩ := loop 3 0 mm b (by first | omega | (dsimp only; omega)) hB hlim hLd hS N (by first | omega | (dsimp only; omega))
    refine ⟨m', ?_, l2, l3⟩
    unfold fX12_bestOn fX12_bestOn_0
    exact st_f (by rw [hB.1.1]; exact fun q => by have := nI_inj q (by first | omega | (dsimp only; omega)) (by first | omega | (dsimp only; omega)); omega) l1
/-- the model's search from the start -/
theorem setBest_e {mm : Mm} (hN : 100000 ≤ N) (hd9 : d ≤ 9) (hL : L ≤ 240) (hz : ∀ i, i < n → z i ≤ 1000) (M : MS mm n K W F) (hd : rd mm 175 13 = nI d) (hZ : HA mm 186 n z) : ∃ m', fX12_setBest N 175 (nI L) mm = some ((), m') ∧ Fr (fun k j => (k = 175 ∧ (j = 22 ∨ j = 24 ∨ j = 25)) ∨ (187 ≤ k ∧ k ≤ 189)) mm m' ∧ SM m' n ((lvs K W F d z 0 L n 0 (fun _ => 0) (fun _ => 0) 0 0).foldl (bst n) none) := by
  have hfr : Fr (fun k j => (k = 175 ∧ (j = 22 ∨ j = 24 ∨ j = 25)) ∨ (187 ≤ k ∧ k ≤ 189)) mm (wr (wr (wr mm 175 22 (nI L)) 175 24 (-1)) 175 25 0) := fr_wr (fr_wr (fr_wr Fr.rf (by first | omega | (dsimp only; omega))) (by first | omega | (dsimp only; omega))) (by first | omega | (dsimp only; omega))
  obtain ⟨m', a1, a2, a3⟩ := mbest_l (N := N) (L := L) (z := z) hN hd9 hL hz M.2.1 n 0 (fun _ => 0) (fun _ => 0) 0 0 (wr (wr (wr mm 175 22 (nI L)) 175 24 (-1)) 175 25 0) none 9 (by first | omega | (dsimp only; omega)) (by have := M.2.1; omega) ⟨MS_c M (fun k j e => hfr.2 _ _ (by first | omega | (dsimp only; omega))), by rw [hfr.2 _ _ (by first | omega | (dsimp only; omega))]; exact hd, hZ.c (fun i hi => hfr.2 _ _ (by first | omega | (dsimp only; omega))), fun j hj => by omega, fun j hj => by omega⟩ (by rw [rd_wr_j (by first | omega | (dsimp only; omega)), rd_wr_j (by first | omega | (dsimp only; omega)), rd_wr_s]) (fun j hj => by omega) (fun j hj => by omega) ⟨fun y hy => (by cases hy), fun _ => by rw [rd_wr_j (by first | omega | (dsimp only; omega)), rd_wr_s]⟩ (by first | omega | (dsimp only; omega)) (by first | omega | (dsimp only; omega))
  refine ⟨m', ?_, hfr.tr (a2.mono (fun k j e => by omega)), a3⟩
  unfold fX12_setBest
  exact st_n (st_n (st_n (st_b a1 rfl)))
theorem layB_l {r : Nat} {v : Nat → Nat} (hr : r < 6) (hn6 : n ≤ 6) : ∀ c i mm, i + c = n → MS mm n K W F → HA mm 189 n v → (∀ j, j < i → rd mm 178 (40 * r + j) = nI (v j)) → ∀ f, c < f → ∃ m', fX12_layBest_12 N f 175 (nI r) (nI i) mm = some ((), m') ∧ Fr (fun k j => k = 178 ∧ 40 * r ≤ j ∧ j < 40 * r + 40) mm m' ∧ ∀ j, j < n → rd m' 178 (40 * r + j) = nI (v j) := by
  intro c
  induction c with
  | zero =>
    intro i mm hi M h1 h2 f hf
    obtain ⟨f, rfl⟩ : ∃ g, f = g + 1 := ⟨f - 1, by omega⟩
    obtain rfl : i = n := by omega
    refine ⟨mm, ?_, Fr.rf, h2⟩
    unfold fX12_layBest_12
    exact st_t (by rw [M.1]; exact nI_le (by first | omega | (dsimp only; omega)) (by first | omega | (dsimp only; omega))) rfl
  | succ c ih =>
    intro i mm hi M h1 h2 f hf
    obtain ⟨f, rfl⟩ : ∃ g, f = g + 1 := ⟨f - 1, by omega⟩
    have hin : i < n := by omega
    have hfr : Fr (fun k j => k = 178 ∧ 40 * r ≤ j ∧ j < 40 * r + 40) mm (wr mm 178 (40 * r + i) (nI (v i))) := fr_wr Fr.rf (by first | omega | (dsimp only; omega))
    obtain ⟨m', a1, a2, a3⟩ := ih (i + 1) (wr mm 178 (40 * r + i) (nI (v i))) (by first | omega | (dsimp only; omega)) (MS_c M (fun k j e => hfr.2 _ _ (by first | omega | (dsimp only; omega)))) (h1.c (fun j hj => hfr.2 _ _ (by first | omega | (dsimp only; omega)))) (fun j hj => by
      by_cases hji : j = i
      · subst hji; rw [rd_wr_s]
      · rw [rd_wr_j (by first | omega | (dsimp only; omega))]; exact h2 j (by first | omega | (dsimp only; omega))) f (by first | omega | (dsimp only; omega))
    refine ⟨m', ?_, hfr.tr a2, a3⟩
    unfold fX12_layBest_12
    simp only [LXm, nI_nat (show i < 2147483648 by omega), nI_1, h1 i hin]
    exact st_f (by rw [M.1]; exact nI_ge hin (by first | omega | (dsimp only; omega))) (st_k rfl (by first | omega | (dsimp only; omega)) (by first | omega | (dsimp only; omega)) (st_b (setRow_t hr (by first | omega | (dsimp only; omega))) a1))
/-- the model lays its best into a row -/
theorem layB_e {r : Nat} {v : Nat → Nat} {mm : Mm} (hN : 100000 ≤ N) (hr : r < 6) (M : MS mm n K W F) (h1 : HA mm 189 n v) : ∃ m', fX12_layBest N 175 (nI r) mm = some ((), m') ∧ Fr (fun k j => (k = 177 ∧ j = r) ∨ (k = 178 ∧ 40 * r ≤ j ∧ j < 40 * r + 40)) mm m' ∧ rd m' 177 r = nI n ∧ ∀ j, j < n → rd m' 178 (40 * r + j) = nI (v j) := by
  have hn := M.2.1
  obtain ⟨m1, a1, a2, a3, -⟩ := mrow_ok (mm := mm) (n := n) hN hr (by first | omega | (dsimp only; omega))
  obtain ⟨m2, b1, b2, b3⟩ := layB_l (N := N) (r := r) (v := v) hr hn n 0 m1 (by first | omega | (dsimp only; omega)) (MS_c M (fun k j e => a2.2 _ _ (by first | omega | (dsimp only; omega)))) (h1.c (fun i hi => a2.2 _ _ (by first | omega | (dsimp only; omega)))) (fun j hj => by omega) N (by first | omega | (dsimp only; omega))
  refine ⟨m2, ?_, a2.tr (b2.mono (fun k j e => by omega)), by rw [b2.2 _ _ (by first | omega | (dsimp only; omega))]; exact a3, b3⟩
  unfold fX12_layBest
  rw [M.1]
  exact st_b a1 b1
end Mb
