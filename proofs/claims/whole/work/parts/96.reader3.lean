/-! pure: a court's text, the class, all of it -/
def T0 : Nat → Nat × Nat × Nat := fun _ => (0, 0, 0)
def rdN2 (g : Nat → Int32) (L s0 : Nat) (n2 : Nat × Nat × Bool) : Option Nat × Nat × Nat × Nat × (Nat → Nat × Nat × Nat) := if n2.2.2 = true then ((prN g L 7 n2.1 0 T0).1, s0, n2.2.1, (prN g L 7 n2.1 0 T0).2.1, (prN g L 7 n2.1 0 T0).2.2) else (some n2.1, 0, 0, 0, T0)
def rdN1 (g : Nat → Int32) (L : Nat) (n1 : Nat × Nat × Bool) : Option Nat × Nat × Nat × Nat × (Nat → Nat × Nat × Nat) := if n1.2.2 = true then (if sgN g L n1.1 58 = true then rdN2 g L n1.2.1 (nuN g L (n1.1 + 1)) else (some n1.1, 0, 0, 0, T0)) else (some n1.1, 0, 0, 0, T0)
/-- the fault, both stocks, how many suits, the suits -/
def rdN (g : Nat → Int32) (L : Nat) : Option Nat × Nat × Nat × Nat × (Nat → Nat × Nat × Nat) := if sgN g L (skB g L 0) 110 = true then rdN1 g L (nuN g L (skB g L 0 + 1)) else (some (skB g L 0), 0, 0, 0, T0)
theorem nuN_le {g : Nat → Int32} {L p : Nat} (h : p ≤ L) : p ≤ (nuN g L p).1 ∧ (nuN g L p).1 ≤ L ∧ (nuN g L p).2.1 ≤ 99 ∧ ((nuN g L p).2.2 = true → (nuN g L p).2.1 ≤ 40) := by
  cases h1 : fgN g L p with
  | none =>
    have e : nuN g L p = (p, 0, false) := by unfold nuN; rw [h1]
    rw [e]; exact ⟨Nat.le_refl _, h, Nat.zero_le 99, fun q => by cases q⟩
  | some a =>
    obtain ⟨a1, a2, -⟩ := fgN_9 h1
    cases h2 : fgN g L (p + 1) with
    | none =>
      have e : nuN g L p = (p + 1, a, decide (a ≤ 40)) := by unfold nuN; rw [h1]; dsimp only; rw [h2]
      rw [e]
      exact ⟨Nat.le_succ _, a2, by dsimp only; omega, fun q => of_decide_eq_true q⟩
    | some b =>
      obtain ⟨b1, b2, -⟩ := fgN_9 h2
      have e : nuN g L p = (p + 2, 10 * a + b, decide (10 * a + b ≤ 40)) := by unfold nuN; rw [h1]; dsimp only; rw [h2]
      rw [e]
      exact ⟨by dsimp only; omega, by dsimp only; omega, by dsimp only; omega, fun q => of_decide_eq_true q⟩
/-- a suit that was read is one -/
theorem rsN_ok {g : Nat → Int32} {L p k : Nat} (h : p < L) : (rsN g L p k).2.1 ≤ L ∧ p ≤ (rsN g L p k).2.1 ∧ ((rsN g L p k).1 = true → k < 6 ∧ kok (rsN g L p k).2.2.1 (rsN g L p k).2.2.2.1 (rsN g L p k).2.2.2.2 k) := by
  cases hkd : kdN (g p) with
  | none =>
    have e : rsN g L p k = (false, p, 0, 0, 0) := by unfold rsN; rw [hkd]
    rw [e]; exact ⟨Nat.le_of_lt h, Nat.le_refl _, fun q => by cases q⟩
  | some kd =>
    have kd5 := kdN_5 hkd
    by_cases hk6 : k < 6
    rotate_left
    · have e : rsN g L p k = (false, p, 0, 0, 0) := by unfold rsN; rw [hkd]; exact if_neg hk6
      rw [e]; exact ⟨Nat.le_of_lt h, Nat.le_refl _, fun q => by cases q⟩
    have e0 : rsN g L p k = (match fgN g L (p + 1) with
      | none => (false, p + 1, 0, 0, 0)
      | some w => if w < 1 then (false, p + 1, 0, 0, 0) else if kd < 3 then (true, p + 2, kd, w, 0) else match fgN g L (p + 2) with
        | none => (false, p + 2, 0, 0, 0)
        | some f => if kd = 5 then (if f < k then (true, p + 3, kd, w, f) else (false, p + 2, 0, 0, 0)) else if f < 1 then (false, p + 2, 0, 0, 0) else (true, p + 3, kd, w, f)) := by
      unfold rsN; rw [hkd]; exact if_pos hk6
    cases hw : fgN g L (p + 1) with
    | none =>
      have e : rsN g L p k = (false, p + 1, 0, 0, 0) := by rw [e0, hw]
      rw [e]; exact ⟨h, Nat.le_succ _, fun q => by cases q⟩
    | some w =>
      obtain ⟨w9, hw2, -⟩ := fgN_9 hw
      by_cases hw1 : w < 1
      · have e : rsN g L p k = (false, p + 1, 0, 0, 0) := by rw [e0, hw]; exact if_pos hw1
        rw [e]; exact ⟨h, Nat.le_succ _, fun q => by cases q⟩
      by_cases hk3 : kd < 3
      · have e : rsN g L p k = (true, p + 2, kd, w, 0) := by rw [e0, hw]; dsimp only; rw [if_neg hw1, if_pos hk3]
        rw [e]
        refine ⟨hw2, by dsimp only; omega, fun _ => ⟨hk6, ?_⟩⟩
        unfold kok
        dsimp only
        omega
      cases hf : fgN g L (p + 2) with
      | none =>
        have e : rsN g L p k = (false, p + 2, 0, 0, 0) := by rw [e0, hw]; dsimp only; rw [if_neg hw1, if_neg hk3, hf]
        rw [e]; exact ⟨hw2, by dsimp only; omega, fun q => by cases q⟩
      | some f =>
        obtain ⟨f9, hf2, -⟩ := fgN_9 hf
        by_cases h5 : kd = 5
        · by_cases hfk : f < k
          · have e : rsN g L p k = (true, p + 3, kd, w, f) := by rw [e0, hw]; dsimp only; rw [if_neg hw1, if_neg hk3, hf]; dsimp only; rw [if_pos h5, if_pos hfk]
            rw [e]
            refine ⟨hf2, by dsimp only; omega, fun _ => ⟨hk6, ?_⟩⟩
            unfold kok
            dsimp only
            omega
          · have e : rsN g L p k = (false, p + 2, 0, 0, 0) := by rw [e0, hw]; dsimp only; rw [if_neg hw1, if_neg hk3, hf]; dsimp only; rw [if_pos h5, if_neg hfk]
            rw [e]; exact ⟨hw2, by dsimp only; omega, fun q => by cases q⟩
        · by_cases hf1 : f < 1
          · have e : rsN g L p k = (false, p + 2, 0, 0, 0) := by rw [e0, hw]; dsimp only; rw [if_neg hw1, if_neg hk3, hf]; dsimp only; rw [if_neg h5, if_pos hf1]
            rw [e]; exact ⟨hw2, by dsimp only; omega, fun q => by cases q⟩
          · have e : rsN g L p k = (true, p + 3, kd, w, f) := by rw [e0, hw]; dsimp only; rw [if_neg hw1, if_neg hk3, hf]; dsimp only; rw [if_neg h5, if_neg hf1]
            rw [e]
            refine ⟨hf2, by dsimp only; omega, fun _ => ⟨hk6, ?_⟩⟩
            unfold kok
            dsimp only
            omega
section Rd3
variable {N z L : Nat} {g : Nat → Int32}
theorem csuits_l (hN : 100000 ≤ N) : ∀ f k p T mm, f + k = 7 → p ≤ L → TXc mm z L g → rd mm 24 5 = nI p → rd mm 24 4 = nI k → RdC mm k T → ∀ F, f < F → ∃ m', fX5_read_60 N F 24 z (nI k) mm = some (oV (-9) (prN g L f p k T).1, m') ∧ Fr (fun k j => (k = 24 ∧ (j = 4 ∨ j = 5)) ∨ k = 26 ∨ k = 27 ∨ k = 28) mm m' ∧ rd m' 24 4 = nI (prN g L f p k T).2.1 ∧ RdC m' (prN g L f p k T).2.1 (prN g L f p k T).2.2 := by
  intro f
  induction f with
  | zero =>
    intro k p T mm hk hp X h5 h4 H F hF
    obtain ⟨F, rfl⟩ : ∃ g, F = g + 1 := ⟨F - 1, by omega⟩
    obtain rfl : k = 7 := by omega
    refine ⟨mm, ?_, Fr.rf, h4, H⟩
    unfold fX5_read_60
    exact st_t (by decide) (by rw [h5]; rfl)
  | succ f ih =>
    intro k p T mm hk hp X h5 h4 H F hF
    obtain ⟨F, rfl⟩ : ∃ g, F = g + 1 := ⟨F - 1, by omega⟩
    have hL := X.1
    obtain ⟨m1, c1, f1, g1⟩ := cskip_e (N := N) (mm := mm) hN (L - p) p mm (by first | omega | (dsimp only; omega)) X h5 N (by first | omega | (dsimp only; omega))
    have c1' : fX5_skipBlanks N 24 z mm = some ((), m1) := c1
    have X1 : TXc m1 z L g := X.c (fun k j e => f1.2 _ _ (by first | omega | (dsimp only; omega)))
    have h41 : rd m1 24 4 = nI k := by rw [f1.2 _ _ (by first | omega | (dsimp only; omega))]; exact h4
    have H1 : RdC m1 k T := fun j hj => by rw [f1.2 _ _ (by first | omega | (dsimp only; omega)), f1.2 _ _ (by first | omega | (dsimp only; omega)), f1.2 _ _ (by first | omega | (dsimp only; omega))]; exact H j hj
    obtain ⟨s1, s2⟩ := skB_le (g := g) hp
    have e : prN g L (f + 1) p k T = if skB g L p < L then (if (rsN g L (skB g L p) k).1 = true then prN g L f (rsN g L (skB g L p) k).2.1 (k + 1) (fun j => if j = k then (rsN g L (skB g L p) k).2.2 else T j) else (some (rsN g L (skB g L p) k).2.1, k, T)) else (none, k, T) := rfl
    have F1 : Fr (fun k j => (k = 24 ∧ (j = 4 ∨ j = 5)) ∨ k = 26 ∨ k = 27 ∨ k = 28) mm m1 := f1.mono (fun k j e => Or.inl ⟨e.1, Or.inr e.2⟩)
    unfold fX5_read_60
    by_cases hlt : skB g L p < L
    · rw [if_pos hlt] at e
      obtain ⟨m2, c2, f2, g2, g3, g4⟩ := csuit_e (N := N) X1 g1 h41 (by first | omega | (dsimp only; omega)) hlt H1
      obtain ⟨r1, r2, r3⟩ := rsN_ok (k := k) (g := g) hlt
      have X2 : TXc m2 z L g := X1.c (fun k j e => f2.2 _ _ (by first | omega | (dsimp only; omega)))
      cases hb : (rsN g L (skB g L p) k).1
      · rw [hb, if_neg (by decide)] at e
        rw [hb] at c2
        obtain ⟨q1, q2⟩ := g3 hb
        rw [e]
        refine ⟨m2, st_f (nI_nlt (show k ≤ 6 by omega) (by first | omega | (dsimp only; omega))) (st_b c1' (st_t (by rw [g1, X1.2.1]; exact nI_lt hlt (by first | omega | (dsimp only; omega))) (st_b c2 (st_t rfl ?_)))), F1.tr f2, q1, q2⟩
        rw [g2]; rfl
      · rw [hb, if_pos rfl] at e
        rw [hb] at c2
        obtain ⟨q1, q2⟩ := g4 hb
        rw [e]
        obtain ⟨m', c3, f3, g5⟩ := ih (k + 1) (rsN g L (skB g L p) k).2.1 (fun j => if j = k then (rsN g L (skB g L p) k).2.2 else T j) m2 (by first | omega | (dsimp only; omega)) r1 X2 g2 q1 q2 F (by first | omega | (dsimp only; omega))
        refine ⟨m', st_f (nI_nlt (show k ≤ 6 by omega) (by first | omega | (dsimp only; omega))) (st_b c1' (st_t (by rw [g1, X1.2.1]; exact nI_lt hlt (by first | omega | (dsimp only; omega))) (st_b c2 (st_f (by decide) ?_)))), F1.tr (f2.tr f3), g5⟩
        rw [nI_1]; exact c3
    · rw [if_neg hlt] at e
      rw [e]
      exact ⟨m1, st_f (nI_nlt (show k ≤ 6 by omega) (by first | omega | (dsimp only; omega))) (st_b c1' (st_f (by rw [g1, X1.2.1]; exact nI_nlt (by first | omega | (dsimp only; omega)) (by first | omega | (dsimp only; omega))) rfl)), F1, h41, H1⟩
theorem cread_e {mm : Mm} (hN : 100000 ≤ N) (X : TXc mm z L g) : ∃ m', fX5_read N 24 z mm = some (oV (-9) (rdN g L).1, m') ∧ Fr FrR mm m' ∧ ((rdN g L).1 = none → rd m' 25 0 = nI (rdN g L).2.1 ∧ rd m' 25 1 = nI (rdN g L).2.2.1 ∧ rd m' 24 4 = nI (rdN g L).2.2.2.1 ∧ RdC m' (rdN g L).2.2.2.1 (rdN g L).2.2.2.2) := by
  have hL := X.1
  have X0 : TXc (wr (wr mm 24 5 0) 24 4 0) z L g := X.c (fun k j e => by rw [rd_wr_k (by first | omega | (dsimp only; omega)), rd_wr_k (by first | omega | (dsimp only; omega))])
  obtain ⟨m1, c1, f1, g1⟩ := cskip_e (N := N) (mm := mm) hN L 0 (wr (wr mm 24 5 0) 24 4 0) (by first | omega | (dsimp only; omega)) X0 (by rw [rd_wr_j (by first | omega | (dsimp only; omega)), rd_wr_s]; rfl) N (by first | omega | (dsimp only; omega))
  have c1' : fX5_skipBlanks N 24 z (wr (wr mm 24 5 0) 24 4 0) = some ((), m1) := c1
  have h41 : rd m1 24 4 = nI 0 := by rw [f1.2 _ _ (by first | omega | (dsimp only; omega)), rd_wr_s]; rfl
  have F1 : Fr FrR mm m1 := (fr_wr (fr_wr Fr.rf (Or.inl ⟨rfl, Or.inr rfl⟩)) (Or.inl ⟨rfl, Or.inl rfl⟩)).tr (f1.mono (fun k j e => Or.inl ⟨e.1, Or.inr e.2⟩))
  have X1 : TXc m1 z L g := X0.c (fun k j e => f1.2 _ _ (by first | omega | (dsimp only; omega)))
  obtain ⟨s1, -⟩ := skB_le (g := g) (L := L) (p := 0) (by first | omega | (dsimp only; omega))
  generalize hp0 : skB g L 0 = p0 at g1 s1
  have pre : ∀ {r : Option (Int32 × Mm)}, (bd2 (fX5_passes N 24 z 110 m1) fun x15 m16 => if x15 = 0 then (some (rd m16 24 5, m16)) else (bd2 (fX5_passesStock N 24 z 0 m16) fun x19 m20 => if x19 = 0 then (some (rd m20 24 5, m20)) else (bd2 (fX5_passes N 24 z 58 m20) fun x23 m24 => if x23 = 0 then (some (rd m24 24 5, m24)) else (bd2 (fX5_passesStock N 24 z 1 m24) fun x27 m28 => if x27 = 0 then (some (rd m28 24 5, m28)) else (fX5_read_60 N N 24 z 0 m28))))) = r → fX5_read N 24 z mm = r := by
    intro r hr
    unfold fX5_read
    exact st_n (st_n (st_b c1' hr))
  have P1 := passes_e (N := N) (x := 110) (by decide) X1 g1 (by first | omega | (dsimp only; omega))
  have e0 : rdN g L = if sgN g L p0 110 = true then rdN1 g L (nuN g L (p0 + 1)) else (some p0, 0, 0, 0, T0) := by unfold rdN; rw [hp0]
  cases hb1 : sgN g L p0 110
  · rw [hb1, if_neg (by decide)] at e0
    rw [hb1] at P1
    rw [e0]
    refine ⟨m1, pre (st_b P1 (st_t rfl ?_)), F1, fun q => by cases q⟩
    rw [if_neg (by decide), g1]; rfl
  rw [hb1, if_pos rfl] at e0
  rw [hb1, if_pos rfl] at P1
  have hlt0 : p0 < L := (of_decide_eq_true hb1).1
  obtain ⟨m2, c2, f2, g2, v2⟩ := rstock_e (N := N) (a := 0) (by first | omega | (dsimp only; omega)) (X1.c (fun k j e => rd_wr_k (by first | omega | (dsimp only; omega))) : TXc (wr m1 24 5 (nI (p0 + 1))) z L g) rd_wr_s (by first | omega | (dsimp only; omega))
  have F2 : Fr FrR mm m2 := (fr_wr F1 (Or.inl ⟨rfl, Or.inr rfl⟩)).tr (f2.mono (fun k j e => by unfold FrR; omega))
  have X2 : TXc m2 z L g := X1.c (fun k j e => by rw [f2.2 _ _ (by first | omega | (dsimp only; omega)), rd_wr_k (by first | omega | (dsimp only; omega))])
  have h42 : rd m2 24 4 = nI 0 := by rw [f2.2 _ _ (by first | omega | (dsimp only; omega)), rd_wr_j (by first | omega | (dsimp only; omega))]; exact h41
  obtain ⟨n1, n2, n3, n4⟩ := nuN_le (g := g) (L := L) (p := p0 + 1) (by first | omega | (dsimp only; omega))
  generalize nuN g L (p0 + 1) = u at e0 c2 g2 v2 n1 n2 n3 n4
  have e1 : rdN1 g L u = if u.2.2 = true then (if sgN g L u.1 58 = true then rdN2 g L u.2.1 (nuN g L (u.1 + 1)) else (some u.1, 0, 0, 0, T0)) else (some u.1, 0, 0, 0, T0) := rfl
  cases hb2 : u.2.2
  · rw [hb2, if_neg (by decide)] at e1
    rw [hb2] at c2
    rw [e0, e1]
    refine ⟨m2, pre (st_b P1 (st_f (by decide) (st_b c2 (st_t rfl ?_)))), F2, fun q => by cases q⟩
    rw [g2]; rfl
  rw [hb2, if_pos rfl] at e1
  rw [hb2] at c2
  have P2 := passes_e (N := N) (x := 58) (by decide) X2 g2 (by first | omega | (dsimp only; omega))
  cases hb3 : sgN g L u.1 58
  · rw [hb3, if_neg (by decide)] at e1
    rw [hb3] at P2
    rw [e0, e1]
    refine ⟨m2, pre (st_b P1 (st_f (by decide) (st_b c2 (st_f (by decide) (st_b P2 (st_t rfl ?_)))))), F2, fun q => by cases q⟩
    rw [if_neg (by decide), g2]; rfl
  rw [hb3, if_pos rfl] at e1
  rw [hb3, if_pos rfl] at P2
  have hlt1 : u.1 < L := (of_decide_eq_true hb3).1
  obtain ⟨m3, c3, f3, g3, v3⟩ := rstock_e (N := N) (a := 1) (by first | omega | (dsimp only; omega)) (X2.c (fun k j e => rd_wr_k (by first | omega | (dsimp only; omega))) : TXc (wr m2 24 5 (nI (u.1 + 1))) z L g) rd_wr_s (by first | omega | (dsimp only; omega))
  have F3 : Fr FrR mm m3 := (fr_wr F2 (Or.inl ⟨rfl, Or.inr rfl⟩)).tr (f3.mono (fun k j e => by unfold FrR; omega))
  have X3 : TXc m3 z L g := X2.c (fun k j e => by rw [f3.2 _ _ (by first | omega | (dsimp only; omega)), rd_wr_k (by first | omega | (dsimp only; omega))])
  have h43 : rd m3 24 4 = nI 0 := by rw [f3.2 _ _ (by first | omega | (dsimp only; omega)), rd_wr_j (by first | omega | (dsimp only; omega))]; exact h42
  have h250 : rd m3 25 0 = nI u.2.1 := by rw [f3.2 _ _ (by first | omega | (dsimp only; omega)), rd_wr_k (by first | omega | (dsimp only; omega))]; exact v2 hb2
  obtain ⟨o1, o2, o3, o4⟩ := nuN_le (g := g) (L := L) (p := u.1 + 1) (by first | omega | (dsimp only; omega))
  generalize nuN g L (u.1 + 1) = w at e1 c3 g3 v3 o1 o2 o3 o4
  have e2 : rdN2 g L u.2.1 w = if w.2.2 = true then ((prN g L 7 w.1 0 T0).1, u.2.1, w.2.1, (prN g L 7 w.1 0 T0).2.1, (prN g L 7 w.1 0 T0).2.2) else (some w.1, 0, 0, 0, T0) := rfl
  cases hb4 : w.2.2
  · rw [hb4, if_neg (by decide)] at e2
    rw [hb4] at c3
    rw [e0, e1, e2]
    refine ⟨m3, pre (st_b P1 (st_f (by decide) (st_b c2 (st_f (by decide) (st_b P2 (st_f (by decide) (st_b c3 (st_t rfl ?_)))))))), F3, fun q => by cases q⟩
    rw [g3]; rfl
  rw [hb4, if_pos rfl] at e2
  rw [hb4] at c3
  obtain ⟨m4, c4, f4, g4, g5⟩ := csuits_l (N := N) hN 7 0 w.1 T0 m3 (by first | omega | (dsimp only; omega)) o2 X3 g3 h43 (fun j hj => by omega) N (by first | omega | (dsimp only; omega))
  rw [e0, e1, e2]
  refine ⟨m4, pre (st_b P1 (st_f (by decide) (st_b c2 (st_f (by decide) (st_b P2 (st_f (by decide) (st_b c3 (st_f (by decide) c4)))))))), F3.tr (f4.mono (fun k j e => by unfold FrR; omega)), fun _ => ⟨?_, ?_, g4, g5⟩⟩
  · rw [f4.2 _ _ (by first | omega | (dsimp only; omega))]; exact h250
  · rw [f4.2 _ _ (by first | omega | (dsimp only; omega))]; exact v3 hb4
end Rd3
