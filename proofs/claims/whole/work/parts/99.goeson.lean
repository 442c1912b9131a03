/-! pure: a court's text, the model, all of it -/
section Rgo
variable {N t L : Nat} {g : Nat → Int32}
/-- blanks -/
theorem mskip_l : ∀ c p mm, p + c = L → TXm mm t L g → rd mm 175 14 = nI p → ∀ f, c ≤ f → (∃ m' f', f ≤ f' + c ∧ Fr (fun k j => k = 175 ∧ j = 14) mm m' ∧ rd m' 175 14 = nI (skB g L p) ∧ ∀ r, fX12_goesOn_15 N f' 175 (nI t) m' = r → fX12_goesOn_15 N f 175 (nI t) mm = r) := by
  intro c
  induction c with
  | zero =>
    intro p mm hp X h f hf
    rw [skB_f (fun e => by omega)]
    exact ⟨mm, f, by omega, Fr.rf, h, fun _ e => e⟩
  | succ c ih =>
    intro p mm hp X h f hf
    have hL := X.1
    have hpl : p < L := by omega
    by_cases e : g p = 32
    · obtain ⟨f, rfl⟩ : ∃ q, f = q + 1 := ⟨f - 1, by omega⟩
      obtain ⟨m', f', q1, q2, q3, q4⟩ := ih (p + 1) (wr mm 175 14 (nI (p + 1))) (by first | omega | (dsimp only; omega)) (X.c (fun k j e => rd_wr_k (by first | omega | (dsimp only; omega)))) rd_wr_s f (by first | omega | (dsimp only; omega))
      rw [skB_t hpl e]
      refine ⟨m', f', by omega, (fr_wr (S := fun k j => k = 175 ∧ j = 14) Fr.rf ⟨rfl, rfl⟩).tr q2, q3, fun r z => ?_⟩
      have hh := here_e (N := N) X h (by first | omega | (dsimp only; omega))
      rw [if_pos hpl, e] at hh
      unfold fX12_goesOn_15
      simp only [LXm, nI_nat (show t < 2147483648 by have := X.2.1; omega)]
      refine st_k rfl X.2.1 (by first | omega | (dsimp only; omega)) (st_f (by rw [X.2.2.1, h]; exact nI_ge hpl (by first | omega | (dsimp only; omega))) (st_b hh (st_t rfl (st_n ?_))))
      rw [h, nI_1]
      exact q4 r z
    · rw [skB_f (fun q => e q.2)]
      exact ⟨mm, f, by omega, Fr.rf, h, fun _ e => e⟩
theorem skN_ne : ∀ c p, p + c = L → skN g L c p < L → g (skN g L c p) ≠ 32
  | 0, p, h, h2 => by have : p < L := h2; omega
  | c + 1, p, h, h2 => by
    have e : skN g L (c + 1) p = if p < L ∧ g p = 32 then skN g L c (p + 1) else p := rfl
    by_cases hc : p < L ∧ g p = 32
    · rw [e, if_pos hc] at h2 ⊢
      exact skN_ne c (p + 1) (by first | omega | (dsimp only; omega)) h2
    · rw [e, if_neg hc] at h2 ⊢
      exact fun q => hc ⟨h2, q⟩
theorem skB_ne {p : Nat} (hp : p ≤ L) (h : skB g L p < L) : g (skB g L p) ≠ 32 := skN_ne (L - p) p (by first | omega | (dsimp only; omega)) h
/-- suits -/
theorem msuits_l : ∀ c k p T mm, c + k = 7 → k ≤ 6 → p ≤ L → TXm mm t L g → rd mm 175 14 = nI p → rd mm 175 16 = nI k → rd mm 175 17 = 1 → RdM mm k T → ∀ f, 90 * c < f → ∃ m', fX12_goesOn_15 N f 175 (nI t) mm = some (oV (-9) (prN g L c p k T).1, m') ∧ Fr FrM mm m' ∧ ((prN g L c p k T).1 = none → rd m' 175 16 = nI (prN g L c p k T).2.1 ∧ RdM m' (prN g L c p k T).2.1 (prN g L c p k T).2.2) := by
  intro c
  induction c with
  | zero => intro k p T mm hk hk6; omega
  | succ c ih =>
    intro k p T mm hk hk6 hp X h h16 h17 H f hf
    have hL := X.1
    have ht := X.2.1
    obtain ⟨s1, s2⟩ := skB_le (g := g) hp
    have e : prN g L (c + 1) p k T = if skB g L p < L then (if (rsN g L (skB g L p) k).1 = true then prN g L c (rsN g L (skB g L p) k).2.1 (k + 1) (fun j => if j = k then (rsN g L (skB g L p) k).2.2 else T j) else (some (rsN g L (skB g L p) k).2.1, k, T)) else (none, k, T) := rfl
    -- blanks first
    obtain ⟨m1, f', q1, q2, q3, q4⟩ := mskip_l (N := N) (L - p) p mm (by first | omega | (dsimp only; omega)) X h f (by first | omega | (dsimp only; omega))
    obtain ⟨f', rfl⟩ : ∃ q, f' = q + 1 := ⟨f' - 1, by omega⟩
    by_cases hlt : skB g L p < L
    · rw [if_pos hlt] at e
      have hne := skB_ne hp hlt
      obtain ⟨r1, r2, r3⟩ := rsN_ok (k := k) (g := g) hlt
      -- the suit at the place
      have su : ∀ m1, Fr (fun k j => k = 175 ∧ j = 14) mm m1 → rd m1 175 14 = nI (skB g L p) → ∃ m2, Fr FrM mm m2 ∧ TXm m2 t L g ∧ rd m2 175 14 = nI (rsN g L (skB g L p) k).2.1 ∧ rd m2 175 17 = 1 ∧ ((rsN g L (skB g L p) k).1 = true → rd m2 175 16 = nI (k + 1) ∧ RdM m2 (k + 1) (fun j => if j = k then (rsN g L (skB g L p) k).2.2 else T j)) ∧ ∀ f' r, (if bI (rsN g L (skB g L p) k).1 = 0 then (some (rd m2 175 14, m2)) else (fX12_goesOn_15 N f' 175 (nI t) m2)) = r → fX12_goesOn_15 N (f' + 1) 175 (nI t) m1 = r := by
        intro m1 f1 g1
        have X1 : TXm m1 t L g := X.c (fun k j e => f1.2 _ _ (by first | omega | (dsimp only; omega)))
        obtain ⟨m2, c2, f2, g2, v2⟩ := msuit_e (N := N) (T := T) X1 g1 (by rw [f1.2 _ _ (by first | omega | (dsimp only; omega))]; exact h16) hk6 hlt (H.c (fun j _ _ => f1.2 _ _ (by first | omega | (dsimp only; omega))))
        refine ⟨m2, (f1.mono (fun k j e => Or.inl ⟨e.1, Or.inl e.2⟩)).tr f2, X1.c (fun k j e => f2.2 _ _ (by unfold FrM; omega)), g2, by rw [f2.2 _ _ (by unfold FrM; omega), f1.2 _ _ (by first | omega | (dsimp only; omega))]; exact h17, v2, fun f' r hr => ?_⟩
        have hh := here_e (N := N) X1 g1 (by first | omega | (dsimp only; omega))
        rw [if_pos hlt] at hh
        unfold fX12_goesOn_15
        simp only [LXm, nI_nat (show t < 2147483648 by omega)]
        refine st_k rfl ht (by first | omega | (dsimp only; omega)) (st_f (by rw [X1.2.2.1, g1]; exact nI_ge hlt (by first | omega | (dsimp only; omega))) (st_b hh (st_f hne (st_f (by rw [f1.2 _ _ (by first | omega | (dsimp only; omega)), h17]; decide) (st_b c2 hr)))))
      obtain ⟨m2, z1, z2, z3, z4, z5, z6⟩ := su m1 q2 q3
      cases hb : (rsN g L (skB g L p) k).1
      · rw [hb, if_neg (by decide)] at e
        rw [hb] at z6
        rw [e]
        exact ⟨m2, q4 _ (z6 f' _ (st_t rfl (by rw [z3]; rfl))), z1, fun q => by cases q⟩
      · rw [hb, if_pos rfl] at e
        rw [hb] at z6
        obtain ⟨z7, z8⟩ := z5 hb
        rw [e]
        obtain ⟨m', c1, f1, g1⟩ := ih (k + 1) (rsN g L (skB g L p) k).2.1 (fun j => if j = k then (rsN g L (skB g L p) k).2.2 else T j) m2 (by first | omega | (dsimp only; omega)) (by have := (r3 hb).1; omega) r1 z2 z3 z7 z4 z8 f' (by first | omega | (dsimp only; omega))
        exact ⟨m', q4 _ (z6 f' _ (st_f (by decide) c1)), z1.tr f1, g1⟩
    · rw [if_neg hlt] at e
      rw [e]
      have X1 : TXm m1 t L g := X.c (fun k j e => q2.2 _ _ (by first | omega | (dsimp only; omega)))
      refine ⟨m1, q4 _ ?_, q2.mono (fun k j e => Or.inl ⟨e.1, Or.inl e.2⟩), fun _ => ⟨by rw [q2.2 _ _ (by first | omega | (dsimp only; omega))]; exact h16, H.c (fun j _ _ => q2.2 _ _ (by first | omega | (dsimp only; omega)))⟩⟩
      unfold fX12_goesOn_15
      simp only [LXm, nI_nat (show t < 2147483648 by omega)]
      exact st_k rfl ht (by first | omega | (dsimp only; omega)) (st_t (by rw [X1.2.2.1, q3]; exact nI_le (by first | omega | (dsimp only; omega)) (by first | omega | (dsimp only; omega))) (st_f (by rw [q2.2 _ _ (by first | omega | (dsimp only; omega)), h17]; decide) rfl))
/-- the whole text -/
theorem mread_e {mm : Mm} (hN : 100000 ≤ N) (X : TXm mm t L g) : ∃ m', fX12_goesOn N 175 (nI t) mm = some (oV (-9) (rdN g L).1, m') ∧ Fr (fun k j => (k = 175 ∧ 14 ≤ j ∧ j ≤ 17) ∨ k = 184 ∨ (k = 182 ∧ 18 ≤ j)) mm m' ∧ ((rdN g L).1 = none → rd m' 184 0 = nI (rdN g L).2.1 ∧ rd m' 184 1 = nI (rdN g L).2.2.1 ∧ rd m' 175 16 = nI (rdN g L).2.2.2.1 ∧ RdM m' (rdN g L).2.2.2.1 (rdN g L).2.2.2.2) := by
  have hL := X.1
  have ht := X.2.1
  have X0 : TXm (wr (wr (wr mm 175 14 0) 175 16 0) 175 17 0) t L g := X.c (fun k j e => by rw [rd_wr_k (by first | omega | (dsimp only; omega)), rd_wr_k (by first | omega | (dsimp only; omega)), rd_wr_k (by first | omega | (dsimp only; omega))])
  obtain ⟨m1, f', q1, q2, q3, q4⟩ := mskip_l (N := N) L 0 _ (by first | omega | (dsimp only; omega)) X0 (by rw [rd_wr_j (by first | omega | (dsimp only; omega)), rd_wr_j (by first | omega | (dsimp only; omega)), rd_wr_s]; rfl) N (by first | omega | (dsimp only; omega))
  obtain ⟨f', rfl⟩ : ∃ q, f' = q + 1 := ⟨f' - 1, by omega⟩
  have start : ∀ {r}, fX12_goesOn_15 N (f' + 1) 175 (nI t) m1 = r → fX12_goesOn N 175 (nI t) mm = r := fun {r} hr => st_n (st_n (st_n (q4 r hr)))
  have X1 : TXm m1 t L g := X0.c (fun k j e => q2.2 _ _ (by first | omega | (dsimp only; omega)))
  have F1 : Fr (fun k j => (k = 175 ∧ 14 ≤ j ∧ j ≤ 17) ∨ k = 184 ∨ (k = 182 ∧ 18 ≤ j)) mm m1 := (fr_wr (fr_wr (fr_wr Fr.rf (by first | omega | (dsimp only; omega))) (by first | omega | (dsimp only; omega))) (by first | omega | (dsimp only; omega))).tr (q2.mono (fun k j e => by omega))
  have h171 : rd m1 175 17 = 0 := by rw [q2.2 _ _ (by first | omega | (dsimp only; omega)), rd_wr_s]
  have h161 : rd m1 175 16 = nI 0 := by rw [q2.2 _ _ (by first | omega | (dsimp only; omega)), rd_wr_j (by first | omega | (dsimp only; omega)), rd_wr_s]; rfl
  obtain ⟨s1, -⟩ := skB_le (g := g) (L := L) (p := 0) (by first | omega | (dsimp only; omega))
  have hsk := fun h => skB_ne (g := g) (L := L) (p := 0) (by first | omega | (dsimp only; omega)) h
  have e0 : rdN g L = if sgN g L (skB g L 0) 110 = true then rdN1 g L (nuN g L (skB g L 0 + 1)) else (some (skB g L 0), 0, 0, 0, T0) := rfl
  generalize skB g L 0 = p0 at q3 s1 hsk e0
  -- no more there
  by_cases hlt : p0 < L
  rotate_left
  · have hs : sgN g L p0 110 = false := decide_eq_false (fun q => hlt q.1)
    rw [hs, if_neg (by decide)] at e0
    rw [e0]
    refine ⟨m1, start ?_, F1, fun q => by cases q⟩
    unfold fX12_goesOn_15
    simp only [LXm, nI_nat (show t < 2147483648 by omega)]
    refine st_k rfl ht (by first | omega | (dsimp only; omega)) (st_t (by rw [X1.2.2.1, q3]; exact nI_le (by first | omega | (dsimp only; omega)) (by first | omega | (dsimp only; omega))) (st_t h171 (st_k rfl ht (by first | omega | (dsimp only; omega)) ?_)))
    rw [X1.2.2.1, show p0 = L by omega]; rfl
  have hne := hsk hlt
  have hh := here_e (N := N) X1 q3 (by first | omega | (dsimp only; omega))
  rw [if_pos hlt] at hh
  have st1 : ∀ {r}, (bd2 (fX12_readsHead N 175 (nI t) m1) fun x10 m11 => if x10 = 0 then (some (rd m11 175 14, m11)) else (fX12_goesOn_15 N f' 175 (nI t) m11)) = r → fX12_goesOn_15 N (f' + 1) 175 (nI t) m1 = r := by
    intro r hr
    unfold fX12_goesOn_15
    simp only [LXm, nI_nat (show t < 2147483648 by omega)]
    exact st_k rfl ht (by first | omega | (dsimp only; omega)) (st_f (by rw [X1.2.2.1, q3]; exact nI_ge hlt (by first | omega | (dsimp only; omega))) (st_b hh (st_f hne (st_t h171 hr))))
  cases hb1 : sgN g L p0 110
  · rw [hb1, if_neg (by decide)] at e0
    rw [e0]
    have hn : ¬ g p0 = 110 := fun q => by have := of_decide_eq_false hb1; exact this ⟨hlt, q⟩
    have hd : fX12_readsHead N 175 (nI t) m1 = some (0, m1) := by
      unfold fX12_readsHead
      exact st_b hh (st_f hn rfl)
    exact ⟨m1, start (st1 (st_b hd (st_t rfl (by rw [q3]; rfl)))), F1, fun q => by cases q⟩
  rw [hb1, if_pos rfl] at e0
  have h110 : g p0 = 110 := (of_decide_eq_true hb1).2
  have X2 : TXm (wr m1 175 14 (nI (p0 + 1))) t L g := X1.c (fun k j e => rd_wr_k (by first | omega | (dsimp only; omega)))
  obtain ⟨m2, c2, f2, g2, v2⟩ := mnum_e (N := N) (p := p0 + 1) hN X2 rd_wr_s (by first | omega | (dsimp only; omega))
  obtain ⟨n1, n2, n3, n4⟩ := nuN_le (g := g) (L := L) (p := p0 + 1) (by first | omega | (dsimp only; omega))
  generalize nuN g L (p0 + 1) = u at e0 c2 g2 v2 n1 n2 n3 n4
  have F2 : Fr (fun k j => (k = 175 ∧ 14 ≤ j ∧ j ≤ 17) ∨ k = 184 ∨ (k = 182 ∧ 18 ≤ j)) mm m2 := (fr_wr F1 (by first | omega | (dsimp only; omega))).tr (f2.mono (fun k j e => by omega))
  have hd1 : ∀ {r}, (if bI u.2.2 = 0 then (some (0, m2)) else (nm (wr m2 184 0 (rd m2 175 15)) fun m11 => bd2 (fX12_here N 175 (nI t) m11) fun x12 m13 => if x12 = 58 then (nm (wr m13 175 14 ((rd m13 175 14) + 1)) fun m16 => bd2 (fX12_readsNumber N 175 (nI t) m16) fun x17 m18 => if x17 = 0 then (some (0, m18)) else (nm (wr m18 184 1 (rd m18 175 15)) fun m22 => nm (wr m22 175 17 1) fun m23 => some (1, m23))) else (some (0, m13)))) = r → fX12_readsHead N 175 (nI t) m1 = r := by
    intro r hr
    unfold fX12_readsHead
    refine st_b hh (st_t h110 (st_n ?_))
    rw [q3, nI_1]
    refine st_b c2 ?_
    simp only [LXm]
    exact hr
  have e1 : rdN1 g L u = if u.2.2 = true then (if sgN g L u.1 58 = true then rdN2 g L u.2.1 (nuN g L (u.1 + 1)) else (some u.1, 0, 0, 0, T0)) else (some u.1, 0, 0, 0, T0) := rfl
  cases hb2 : u.2.2
  · rw [hb2, if_neg (by decide)] at e1
    rw [hb2] at hd1
    rw [e0, e1]
    exact ⟨m2, start (st1 (st_b (hd1 (st_t rfl rfl)) (st_t rfl (by rw [g2]; rfl)))), F2, fun q => by cases q⟩
  rw [hb2, if_pos rfl] at e1
  rw [hb2] at hd1
  have v2' := v2 hb2
  have X3 : TXm (wr m2 184 0 (nI u.2.1)) t L g := X2.c (fun k j e => by rw [rd_wr_k (by first | omega | (dsimp only; omega)), f2.2 _ _ (by first | omega | (dsimp only; omega))])
  have h143 : rd (wr m2 184 0 (nI u.2.1)) 175 14 = nI u.1 := by rw [rd_wr_k (by first | omega | (dsimp only; omega))]; exact g2
  have hh3 := here_e (N := N) X3 h143 (by first | omega | (dsimp only; omega))
  have F3 : Fr (fun k j => (k = 175 ∧ 14 ≤ j ∧ j ≤ 17) ∨ k = 184 ∨ (k = 182 ∧ 18 ≤ j)) mm (wr m2 184 0 (nI u.2.1)) := fr_wr F2 (by first | omega | (dsimp only; omega))
  cases hb3 : sgN g L u.1 58
  · rw [hb3, if_neg (by decide)] at e1
    rw [e0, e1]
    have hn : ¬ (if u.1 < L then g u.1 else -9) = (58 : Int32) := by
      by_cases hl : u.1 < L
      · rw [if_pos hl]
        exact fun q => (of_decide_eq_false hb3) ⟨hl, q⟩
      · rw [if_neg hl]; decide
    have hd3 : fX12_readsHead N 175 (nI t) m1 = some (0, wr m2 184 0 (nI u.2.1)) := hd1 (st_f (by decide) (st_n (by rw [v2']; exact st_b hh3 (st_f hn rfl))))
    exact ⟨wr m2 184 0 (nI u.2.1), start (st1 (st_b hd3 (st_t rfl (by rw [h143]; rfl)))), F3, fun q => by cases q⟩
  rw [hb3, if_pos rfl] at e1
  obtain ⟨hl3, h58⟩ := of_decide_eq_true hb3
  rw [if_pos hl3, h58] at hh3
  have X4 : TXm (wr (wr m2 184 0 (nI u.2.1)) 175 14 (nI (u.1 + 1))) t L g := X3.c (fun k j e => rd_wr_k (by first | omega | (dsimp only; omega)))
  obtain ⟨m4, c4, f4, g4, v4⟩ := mnum_e (N := N) (p := u.1 + 1) hN X4 rd_wr_s (by first | omega | (dsimp only; omega))
  obtain ⟨o1, o2, o3, o4⟩ := nuN_le (g := g) (L := L) (p := u.1 + 1) (by first | omega | (dsimp only; omega))
  generalize nuN g L (u.1 + 1) = w at e1 c4 g4 v4 o1 o2 o3 o4
  have F4 : Fr (fun k j => (k = 175 ∧ 14 ≤ j ∧ j ≤ 17) ∨ k = 184 ∨ (k = 182 ∧ 18 ≤ j)) mm m4 := (fr_wr F3 (by first | omega | (dsimp only; omega))).tr (f4.mono (fun k j e => by omega))
  have hd2 : ∀ {r}, (if bI w.2.2 = 0 then (some (0, m4)) else (nm (wr m4 184 1 (rd m4 175 15)) fun m22 => nm (wr m22 175 17 1) fun m23 => some ((1 : Int32), m23))) = r → fX12_readsHead N 175 (nI t) m1 = r := by
    intro r hr
    refine hd1 (st_f (by decide) (st_n ?_))
    rw [v2']
    refine st_b hh3 (st_t rfl (st_n ?_))
    rw [h143, nI_1]
    exact st_b c4 hr
  have e2 : rdN2 g L u.2.1 w = if w.2.2 = true then ((prN g L 7 w.1 0 T0).1, u.2.1, w.2.1, (prN g L 7 w.1 0 T0).2.1, (prN g L 7 w.1 0 T0).2.2) else (some w.1, 0, 0, 0, T0) := rfl
  cases hb4 : w.2.2
  · rw [hb4, if_neg (by decide)] at e2
    rw [hb4] at hd2
    rw [e0, e1, e2]
    exact ⟨m4, start (st1 (st_b (hd2 (st_t rfl rfl)) (st_t rfl (by rw [g4]; rfl)))), F4, fun q => by cases q⟩
  rw [hb4, if_pos rfl] at e2
  rw [hb4] at hd2
  have v4' := v4 hb4
  have X5 : TXm (wr (wr m4 184 1 (nI w.2.1)) 175 17 1) t L g := X4.c (fun k j e => by rw [rd_wr_k (by first | omega | (dsimp only; omega)), rd_wr_k (by first | omega | (dsimp only; omega)), f4.2 _ _ (by first | omega | (dsimp only; omega))])
  obtain ⟨m6, c6, f6, g6⟩ := msuits_l (N := N) 7 0 w.1 T0 (wr (wr m4 184 1 (nI w.2.1)) 175 17 1) (by first | omega | (dsimp only; omega)) (by first | omega | (dsimp only; omega)) o2 X5 (by rw [rd_wr_j (by first | omega | (dsimp only; omega)), rd_wr_k (by first | omega | (dsimp only; omega))]; exact g4) (by rw [rd_wr_j (by first | omega | (dsimp only; omega)), rd_wr_k (by first | omega | (dsimp only; omega)), f4.2 _ _ (by first | omega | (dsimp only; omega)), rd_wr_j (by first | omega | (dsimp only; omega)), rd_wr_k (by first | omega | (dsimp only; omega)), f2.2 _ _ (by first | omega | (dsimp only; omega)), rd_wr_j (by first | omega | (dsimp only; omega))]; exact h161) rd_wr_s (fun j hj => by omega) f' (by first | omega | (dsimp only; omega))
  rw [e0, e1, e2]
  have F6 : Fr (fun k j => (k = 175 ∧ 14 ≤ j ∧ j ≤ 17) ∨ k = 184 ∨ (k = 182 ∧ 18 ≤ j)) mm m6 := (fr_wr (fr_wr F4 (by first | omega | (dsimp only; omega))) (by first | omega | (dsimp only; omega))).tr (f6.mono (fun k j e => by unfold FrM at e; omega))
  have hd4 : fX12_readsHead N 175 (nI t) m1 = some (1, wr (wr m4 184 1 (nI w.2.1)) 175 17 1) := hd2 (st_f (by decide) (st_n (st_n (by rw [v4']))))
  refine ⟨m6, start (st1 (st_b hd4 (st_f (by decide) c6))), F6, fun hnone => ⟨?_, ?_, (g6 hnone).1, (g6 hnone).2⟩⟩
  · rw [f6.2 _ _ (by unfold FrM; omega), rd_wr_k (by first | omega | (dsimp only; omega)), rd_wr_j (by first | omega | (dsimp only; omega)), f4.2 _ _ (by first | omega | (dsimp only; omega)), rd_wr_k (by first | omega | (dsimp only; omega)), rd_wr_s]
  · rw [f6.2 _ _ (by unfold FrM; omega), rd_wr_k (by first | omega | (dsimp only; omega)), rd_wr_s]
end Rgo
