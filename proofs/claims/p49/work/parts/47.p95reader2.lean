/-! picked out of 95.reader2 -/
section Rd2
variable {N z L : Nat} {g : Nat → Int32}
theorem ckind_e {x : Int32} {mm : Mm} : fX5_kindBy N x mm = some (oV (-9) (kdN x), mm) := by
  unfold fX5_kindBy kdN
  by_cases h1 : x = 100
  · rw [if_pos h1, if_pos h1]; rfl
  by_cases h2 : x = 102
  · rw [if_neg h1, if_pos h2, if_neg h1, if_pos h2]; rfl
  by_cases h3 : x = 104
  · rw [if_neg h1, if_neg h2, if_pos h3, if_neg h1, if_neg h2, if_pos h3]; rfl
  by_cases h4 : x = 111
  · rw [if_neg h1, if_neg h2, if_neg h3, if_pos h4, if_neg h1, if_neg h2, if_neg h3, if_pos h4]; rfl
  by_cases h5 : x = 112
  · rw [if_neg h1, if_neg h2, if_neg h3, if_neg h4, if_pos h5, if_neg h1, if_neg h2, if_neg h3, if_neg h4, if_pos h5]; rfl
  by_cases h6 : x = 115
  · rw [if_neg h1, if_neg h2, if_neg h3, if_neg h4, if_neg h5, if_pos h6, if_neg h1, if_neg h2, if_neg h3, if_neg h4, if_neg h5, if_pos h6]; rfl
  · rw [if_neg h1, if_neg h2, if_neg h3, if_neg h4, if_neg h5, if_neg h6, if_neg h1, if_neg h2, if_neg h3, if_neg h4, if_neg h5, if_neg h6]; rfl
/-- what was read of the suits -/
def RdC (mm : Mm) (k : Nat) (T : Nat → Nat × Nat × Nat) : Prop := ∀ j, j < k → rd mm 26 j = nI (T j).1 ∧ rd mm 27 j = nI (T j).2.1 ∧ rd mm 28 j = gI (T j).1 (T j).2.2
def FrR (k j : Nat) : Prop := (k = 24 ∧ (j = 4 ∨ j = 5)) ∨ k = 25 ∨ k = 26 ∨ k = 27 ∨ k = 28
theorem csuit_e {p k : Nat} {T : Nat → Nat × Nat × Nat} {mm : Mm} (X : TXc mm z L g) (h : rd mm 24 5 = nI p) (h4 : rd mm 24 4 = nI k) (hk : k ≤ 6) (hp : p < L) (H : RdC mm k T) : ∃ m', fX5_passesSuit N 24 z mm = some (bI (rsN g L p k).1, m') ∧ Fr (fun k j => (k = 24 ∧ (j = 4 ∨ j = 5)) ∨ k = 26 ∨ k = 27 ∨ k = 28) mm m' ∧ rd m' 24 5 = nI (rsN g L p k).2.1 ∧ ((rsN g L p k).1 = false → rd m' 24 4 = nI k ∧ RdC m' k T) ∧ ((rsN g L p k).1 = true → rd m' 24 4 = nI (k + 1) ∧ RdC m' (k + 1) (fun j => if j = k then (rsN g L p k).2.2 else T j)) := by
  have hL := X.1
  have st1 : ∀ {r : Option (Int32 × Mm)}, (bd2 (fX5_kindBy N (g p) mm) fun x12 m13 => if x12 < 0 then (some (0, m13)) else (if (rd m13 24 4) < 6 then (nm (wr m13 24 5 ((rd m13 24 5) + 1)) fun m17 => bd2 (fX5_figure N 24 z m17) fun x18 m19 => if (1 : Int32) ≤ x18 then (nm (wr m19 24 5 ((rd m19 24 5) + 1)) fun m22 => if x12 < 3 then (fX5_passesSuit_113 N 24 x12 x18 (-9) m22) else (bd2 (fX5_figure N 24 z m22) fun x24 m25 => if x12 = 5 then (if x24 < 0 then (some (0, m25)) else (if x24 < (rd m25 24 4) then (fX5_passesSuit_103 N 24 x12 x18 x24 m25) else (some (0, m25)))) else (if (1 : Int32) ≤ x24 then (fX5_passesSuit_103 N 24 x12 x18 x24 m25) else (some (0, m25))))) else (some (0, m19))) else (some (0, m13)))) = r → fX5_passesSuit N 24 z mm = r := by
    intro r hr
    have hs := sign_e (N := N) X h (by first | omega | (dsimp only; omega))
    rw [if_pos hp] at hs
    unfold fX5_passesSuit
    exact st_b hs hr
  cases hkd : kdN (g p) with
  | none =>
    have e : rsN g L p k = (false, p, 0, 0, 0) := by unfold rsN; rw [hkd]
    rw [e]
    refine ⟨mm, st1 (st_b ckind_e ?_), Fr.rf, h, fun _ => ⟨h4, H⟩, fun q => by cases q⟩
    rw [hkd]
    exact st_t (by decide) rfl
  | some kd =>
    have kd5 := kdN_5 hkd
    by_cases hk6 : k < 6
    rotate_left
    · have e : rsN g L p k = (false, p, 0, 0, 0) := by unfold rsN; rw [hkd]; exact if_neg hk6
      rw [e]
      refine ⟨mm, st1 (st_b ckind_e ?_), Fr.rf, h, fun _ => ⟨h4, H⟩, fun q => by cases q⟩
      rw [hkd]
      exact st_f (nI_pos (by first | omega | (dsimp only; omega))) (st_f (by rw [h4]; exact nI_nlt (b := 6) (by first | omega | (dsimp only; omega)) (by first | omega | (dsimp only; omega))) rfl)
    have e0 : rsN g L p k = (match fgN g L (p + 1) with
      | none => (false, p + 1, 0, 0, 0)
      | some w => if w < 1 then (false, p + 1, 0, 0, 0) else if kd < 3 then (true, p + 2, kd, w, 0) else match fgN g L (p + 2) with
        | none => (false, p + 2, 0, 0, 0)
        | some f => if kd = 5 then (if f < k then (true, p + 3, kd, w, f) else (false, p + 2, 0, 0, 0)) else if f < 1 then (false, p + 2, 0, 0, 0) else (true, p + 3, kd, w, f)) := by
      unfold rsN; rw [hkd]; exact if_pos hk6
    have X1 : TXc (wr mm 24 5 (nI (p + 1))) z L g := X.c (fun k j e => rd_wr_k (by first | omega | (dsimp only; omega)))
    have h1 : rd (wr mm 24 5 (nI (p + 1))) 24 5 = nI (p + 1) := rd_wr_s
    have h41 : rd (wr mm 24 5 (nI (p + 1))) 24 4 = nI k := by rw [rd_wr_j (by first | omega | (dsimp only; omega))]; exact h4
    have H1 : RdC (wr mm 24 5 (nI (p + 1))) k T := fun j hj => by rw [rd_wr_k (by first | omega | (dsimp only; omega)), rd_wr_k (by first | omega | (dsimp only; omega)), rd_wr_k (by first | omega | (dsimp only; omega))]; exact H j hj
    have F1 : Fr (fun k j => (k = 24 ∧ (j = 4 ∨ j = 5)) ∨ k = 26 ∨ k = 27 ∨ k = 28) mm (wr mm 24 5 (nI (p + 1))) := fr_wr Fr.rf (Or.inl ⟨rfl, Or.inr rfl⟩)
    have st2 : ∀ {r : Option (Int32 × Mm)}, (bd2 (fX5_figure N 24 z (wr mm 24 5 (nI (p + 1)))) fun x18 m19 => if (1 : Int32) ≤ x18 then (nm (wr m19 24 5 ((rd m19 24 5) + 1)) fun m22 => if nI kd < 3 then (fX5_passesSuit_113 N 24 (nI kd) x18 (-9) m22) else (bd2 (fX5_figure N 24 z m22) fun x24 m25 => if nI kd = 5 then (if x24 < 0 then (some (0, m25)) else (if x24 < (rd m25 24 4) then (fX5_passesSuit_103 N 24 (nI kd) x18 x24 m25) else (some (0, m25)))) else (if (1 : Int32) ≤ x24 then (fX5_passesSuit_103 N 24 (nI kd) x18 x24 m25) else (some (0, m25))))) else (some (0, m19))) = r → fX5_passesSuit N 24 z mm = r := by
      intro r hr
      refine st1 (st_b ckind_e ?_)
      rw [hkd]
      refine st_f (nI_pos (by first | omega | (dsimp only; omega))) (st_t (by rw [h4]; exact nI_lt hk6 (by first | omega | (dsimp only; omega))) (st_n ?_))
      rw [h, nI_1]
      exact hr
    -- the end of a suit
    have fin : ∀ (q w f : Nat) (m1 : Mm), w ≤ 9 → Fr (fun k j => (k = 24 ∧ (j = 4 ∨ j = 5)) ∨ k = 26 ∨ k = 27 ∨ k = 28) mm m1 → rd m1 24 5 = nI q → rd m1 24 4 = nI k → RdC m1 k T → ∃ m', fX5_passesSuit_113 N 24 (nI kd) (nI w) (gI kd f) m1 = some (bI true, m') ∧ Fr (fun k j => (k = 24 ∧ (j = 4 ∨ j = 5)) ∨ k = 26 ∨ k = 27 ∨ k = 28) mm m' ∧ rd m' 24 5 = nI q ∧ rd m' 24 4 = nI (k + 1) ∧ RdC m' (k + 1) (fun j => if j = k then (kd, w, f) else T j) := by
      intro q w f m1 hw f1 h5 h4 HR
      refine ⟨wr (wr (wr (wr m1 26 k (nI kd)) 27 k (nI w)) 28 k (gI kd f)) 24 4 (nI (k + 1)), ?_, fr_wr (fr_wr (fr_wr (fr_wr f1 (Or.inr (Or.inl rfl))) (Or.inr (Or.inr (Or.inl rfl)))) (Or.inr (Or.inr (Or.inr rfl)))) (Or.inl ⟨rfl, Or.inl rfl⟩), ?_, rd_wr_s, fun j hj => ?_⟩
      · unfold fX5_passesSuit_113
        simp only [LXb, h4, nI_nat (show k < 2147483648 by omega)]
        refine st_k rfl hk6 (by first | omega | (dsimp only; omega)) (st_n ?_)
        rw [rd_wr_k (by first | omega | (dsimp only; omega)), h4, nI_nat (show k < 2147483648 by omega)]
        refine st_k rfl hk6 (by first | omega | (dsimp only; omega)) (st_n ?_)
        rw [rd_wr_k (by first | omega | (dsimp only; omega)), rd_wr_k (by first | omega | (dsimp only; omega)), h4, nI_nat (show k < 2147483648 by omega)]
        refine st_k rfl hk6 (by first | omega | (dsimp only; omega)) (st_n (st_n ?_))
        rw [rd_wr_k (by first | omega | (dsimp only; omega)), rd_wr_k (by first | omega | (dsimp only; omega)), rd_wr_k (by first | omega | (dsimp only; omega)), h4, nI_1]
        rfl
      · rw [rd_wr_j (by first | omega | (dsimp only; omega)), rd_wr_k (by first | omega | (dsimp only; omega)), rd_wr_k (by first | omega | (dsimp only; omega)), rd_wr_k (by first | omega | (dsimp only; omega))]; exact h5
      · dsimp only
        by_cases hjk : j = k
        · subst hjk
          rw [if_pos rfl]
          exact ⟨by rw [rd_wr_k (by first | omega | (dsimp only; omega)), rd_wr_k (by first | omega | (dsimp only; omega)), rd_wr_k (by first | omega | (dsimp only; omega)), rd_wr_s], by rw [rd_wr_k (by first | omega | (dsimp only; omega)), rd_wr_k (by first | omega | (dsimp only; omega)), rd_wr_s], by rw [rd_wr_k (by first | omega | (dsimp only; omega)), rd_wr_s]⟩
        · rw [if_neg hjk]
          obtain ⟨z1, z2, z3⟩ := HR j (by first | omega | (dsimp only; omega))
          exact ⟨by rw [rd_wr_k (by first | omega | (dsimp only; omega)), rd_wr_k (by first | omega | (dsimp only; omega)), rd_wr_k (by first | omega | (dsimp only; omega)), rd_wr_j hjk]; exact z1, by rw [rd_wr_k (by first | omega | (dsimp only; omega)), rd_wr_k (by first | omega | (dsimp only; omega)), rd_wr_j hjk, rd_wr_k (by first | omega | (dsimp only; omega))]; exact z2, by rw [rd_wr_k (by first | omega | (dsimp only; omega)), rd_wr_j hjk, rd_wr_k (by first | omega | (dsimp only; omega)), rd_wr_k (by first | omega | (dsimp only; omega))]; exact z3⟩
    cases hw : fgN g L (p + 1) with
    | none =>
      have e : rsN g L p k = (false, p + 1, 0, 0, 0) := by rw [e0, hw]
      rw [e]
      refine ⟨_, st2 (st_b (figure_e X1 h1 (by first | omega | (dsimp only; omega))) ?_), F1, h1, fun _ => ⟨h41, H1⟩, fun q => by cases q⟩
      rw [hw]
      exact st_f (by decide) rfl
    | some w =>
      obtain ⟨w9, -, -⟩ := fgN_9 hw
      by_cases hw1 : w < 1
      · have e : rsN g L p k = (false, p + 1, 0, 0, 0) := by rw [e0, hw]; exact if_pos hw1
        rw [e]
        refine ⟨_, st2 (st_b (figure_e X1 h1 (by first | omega | (dsimp only; omega))) ?_), F1, h1, fun _ => ⟨h41, H1⟩, fun q => by cases q⟩
        rw [hw]
        exact st_f (nI_ge (b := 1) hw1 (by first | omega | (dsimp only; omega))) rfl
      have X2 : TXc (wr (wr mm 24 5 (nI (p + 1))) 24 5 (nI (p + 2))) z L g := X1.c (fun k j e => rd_wr_k (by first | omega | (dsimp only; omega)))
      have h2 : rd (wr (wr mm 24 5 (nI (p + 1))) 24 5 (nI (p + 2))) 24 5 = nI (p + 2) := rd_wr_s
      have h42 : rd (wr (wr mm 24 5 (nI (p + 1))) 24 5 (nI (p + 2))) 24 4 = nI k := by rw [rd_wr_j (by first | omega | (dsimp only; omega))]; exact h41
      have H2 : RdC (wr (wr mm 24 5 (nI (p + 1))) 24 5 (nI (p + 2))) k T := fun j hj => by rw [rd_wr_k (by first | omega | (dsimp only; omega)), rd_wr_k (by first | omega | (dsimp only; omega)), rd_wr_k (by first | omega | (dsimp only; omega))]; exact H1 j hj
      have F2 : Fr (fun k j => (k = 24 ∧ (j = 4 ∨ j = 5)) ∨ k = 26 ∨ k = 27 ∨ k = 28) mm (wr (wr mm 24 5 (nI (p + 1))) 24 5 (nI (p + 2))) := fr_wr F1 (Or.inl ⟨rfl, Or.inr rfl⟩)
      have st3 : ∀ {r : Option (Int32 × Mm)}, (if nI kd < 3 then (fX5_passesSuit_113 N 24 (nI kd) (nI w) (-9) (wr (wr mm 24 5 (nI (p + 1))) 24 5 (nI (p + 2)))) else (bd2 (fX5_figure N 24 z (wr (wr mm 24 5 (nI (p + 1))) 24 5 (nI (p + 2)))) fun x24 m25 => if nI kd = 5 then (if x24 < 0 then (some (0, m25)) else (if x24 < (rd m25 24 4) then (fX5_passesSuit_103 N 24 (nI kd) (nI w) x24 m25) else (some (0, m25)))) else (if (1 : Int32) ≤ x24 then (fX5_passesSuit_103 N 24 (nI kd) (nI w) x24 m25) else (some (0, m25))))) = r → fX5_passesSuit N 24 z mm = r := by
        intro r hr
        refine st2 (st_b (figure_e X1 h1 (by first | omega | (dsimp only; omega))) ?_)
        rw [hw]
        refine st_t (nI_le (show 1 ≤ w by omega) (by first | omega | (dsimp only; omega))) (st_n ?_)
        rw [h1, nI_1]
        exact hr
      by_cases hk3 : kd < 3
      · have e : rsN g L p k = (true, p + 2, kd, w, 0) := by rw [e0, hw]; dsimp only; rw [if_neg hw1, if_pos hk3]
        rw [e]
        obtain ⟨m', c1, c2, c3, c4, c5⟩ := fin (p + 2) w 0 _ w9 F2 h2 h42 H2
        rw [show gI kd 0 = -9 by unfold gI; exact if_pos (by first | omega | (dsimp only; omega))] at c1
        exact ⟨m', st3 (st_t (nI_lt hk3 (by first | omega | (dsimp only; omega))) c1), c2, c3, (fun q => by cases q), fun _ => ⟨c4, c5⟩⟩
      have go3 : ∀ q f, f ≤ 9 → q = p + 3 → ∃ m', fX5_passesSuit_103 N 24 (nI kd) (nI w) (nI f) (wr (wr mm 24 5 (nI (p + 1))) 24 5 (nI (p + 2))) = some (bI true, m') ∧ Fr (fun k j => (k = 24 ∧ (j = 4 ∨ j = 5)) ∨ k = 26 ∨ k = 27 ∨ k = 28) mm m' ∧ rd m' 24 5 = nI q ∧ rd m' 24 4 = nI (k + 1) ∧ RdC m' (k + 1) (fun j => if j = k then (kd, w, f) else T j) := by
        intro q f hf hq
        subst hq
        obtain ⟨m', c1, c2⟩ := fin (p + 3) w f (wr (wr (wr mm 24 5 (nI (p + 1))) 24 5 (nI (p + 2))) 24 5 (nI (p + 3))) w9 (fr_wr F2 (Or.inl ⟨rfl, Or.inr rfl⟩)) rd_wr_s (by rw [rd_wr_j (by first | omega | (dsimp only; omega))]; exact h42) (fun j hj => by rw [rd_wr_k (by first | omega | (dsimp only; omega)), rd_wr_k (by first | omega | (dsimp only; omega)), rd_wr_k (by first | omega | (dsimp only; omega))]; exact H2 j hj)
        rw [show gI kd f = nI f by unfold gI; exact if_neg (by first | omega | (dsimp only; omega))] at c1
        refine ⟨m', ?_, c2⟩
        unfold fX5_passesSuit_103
        refine st_n ?_
        rw [h2, nI_1]
        exact c1
      have n3 : ¬ nI kd < 3 := nI_nlt (b := 3) (by first | omega | (dsimp only; omega)) (by first | omega | (dsimp only; omega))
      have hfe := figure_e (N := N) X2 h2 (by first | omega | (dsimp only; omega))
      cases hf : fgN g L (p + 2) with
      | none =>
        have e : rsN g L p k = (false, p + 2, 0, 0, 0) := by rw [e0, hw]; dsimp only; rw [if_neg hw1, if_neg hk3, hf]
        rw [e]
        rw [hf] at hfe
        refine ⟨_, st3 (st_f n3 (st_b hfe ?_)), F2, h2, fun _ => ⟨h42, H2⟩, fun q => by cases q⟩
        by_cases h5 : kd = 5
        · exact st_t (by rw [h5]; rfl) (st_t (by decide) rfl)
        · exact st_f (nw_ne (v := 5) h5 (by first | omega | (dsimp only; omega)) (by first | omega | (dsimp only; omega))) (st_f (by decide) rfl)
      | some f =>
        obtain ⟨f9, -, -⟩ := fgN_9 hf
        rw [hf] at hfe
        by_cases h5 : kd = 5
        · by_cases hfk : f < k
          · have e : rsN g L p k = (true, p + 3, kd, w, f) := by rw [e0, hw]; dsimp only; rw [if_neg hw1, if_neg hk3, hf]; dsimp only; rw [if_pos h5, if_pos hfk]
            rw [e]
            obtain ⟨m', c1, c2, c3, c4, c5⟩ := go3 (p + 3) f f9 rfl
            exact ⟨m', st3 (st_f n3 (st_b hfe (st_t (by rw [h5]; rfl) (st_f (nI_pos (by first | omega | (dsimp only; omega))) (st_t (by rw [h42]; exact nI_lt hfk (by first | omega | (dsimp only; omega))) c1))))), c2, c3, (fun q => by cases q), fun _ => ⟨c4, c5⟩⟩
          · have e : rsN g L p k = (false, p + 2, 0, 0, 0) := by rw [e0, hw]; dsimp only; rw [if_neg hw1, if_neg hk3, hf]; dsimp only; rw [if_pos h5, if_neg hfk]
            rw [e]
            exact ⟨_, st3 (st_f n3 (st_b hfe (st_t (by rw [h5]; rfl) (st_f (nI_pos (by first | omega | (dsimp only; omega))) (st_f (by rw [h42]; exact nI_nlt (by first | omega | (dsimp only; omega)) (by first | omega | (dsimp only; omega))) rfl))))), F2, h2, fun _ => ⟨h42, H2⟩, fun q => by cases q⟩
        · by_cases hf1 : f < 1
          · have e : rsN g L p k = (false, p + 2, 0, 0, 0) := by rw [e0, hw]; dsimp only; rw [if_neg hw1, if_neg hk3, hf]; dsimp only; rw [if_neg h5, if_pos hf1]
            rw [e]
            exact ⟨_, st3 (st_f n3 (st_b hfe (st_f (nw_ne (v := 5) h5 (by first | omega | (dsimp only; omega)) (by first | omega | (dsimp only; omega))) (st_f (nI_ge (b := 1) hf1 (by first | omega | (dsimp only; omega))) rfl)))), F2, h2, fun _ => ⟨h42, H2⟩, fun q => by cases q⟩
          · have e : rsN g L p k = (true, p + 3, kd, w, f) := by rw [e0, hw]; dsimp only; rw [if_neg hw1, if_neg hk3, hf]; dsimp only; rw [if_neg h5, if_neg hf1]
            rw [e]
            obtain ⟨m', c1, c2, c3, c4, c5⟩ := go3 (p + 3) f f9 rfl
            exact ⟨m', st3 (st_f n3 (st_b hfe (st_f (nw_ne (v := 5) h5 (by first | omega | (dsimp only; omega)) (by first | omega | (dsimp only; omega))) (st_t (nI_le (show 1 ≤ f by omega) (by first | omega | (dsimp only; omega))) c1)))), c2, c3, (fun q => by cases q), fun _ => ⟨c4, c5⟩⟩
end Rd2

/-! picked out of 96.reader3 -/
def T0 : Nat → Nat × Nat × Nat := fun _ => (0, 0, 0)
def rdN2 (g : Nat → Int32) (L s0 : Nat) (n2 : Nat × Nat × Bool) : Option Nat × Nat × Nat × Nat × (Nat → Nat × Nat × Nat) := if n2.2.2 = true then ((prN g L 7 n2.1 0 T0).1, s0, n2.2.1, (prN g L 7 n2.1 0 T0).2.1, (prN g L 7 n2.1 0 T0).2.2) else (some n2.1, 0, 0, 0, T0)
def rdN1 (g : Nat → Int32) (L : Nat) (n1 : Nat × Nat × Bool) : Option Nat × Nat × Nat × Nat × (Nat → Nat × Nat × Nat) := if n1.2.2 = true then (if sgN g L n1.1 58 = true then rdN2 g L n1.2.1 (nuN g L (n1.1 + 1)) else (some n1.1, 0, 0, 0, T0)) else (some n1.1, 0, 0, 0, T0)
/-- the fault, both stocks, how many suits, the suits -/
def rdN (g : Nat → Int32) (L : Nat) : Option Nat × Nat × Nat × Nat × (Nat → Nat × Nat × Nat) := if sgN g L (skB g L 0) 110 = true then rdN1 g L (nuN g L (skB g L 0 + 1)) else (some (skB g L 0), 0, 0, 0, T0)
theorem nuN_le {g : Nat → Int32} {L p : Nat} (h : p ≤ L) : p ≤ (nuN g L p).1 ∧ (nuN g L p).1 ≤ L ∧ (nuN g L p).2.1 ≤ 99 ∧ ((nuN g L p).2.2 = true → (nuN g L p).2.1 ≤ 40) := by
  cases h1 : fgN g L p with
  | none =>
    have e : nuN g L p = (p, 0, false) := by unfold nuN; rw [h1]
    rw [e]; exact ⟨Nat.le_refl _, h, Nat.zero_le 99, fun q => by cases q⟩
  | some a =>
    obtain ⟨a1, a2, -⟩ := fgN_9 h1
    cases h2 : fgN g L (p + 1) with
    | none =>
      have e : nuN g L p = (p + 1, a, decide (a ≤ 40)) := by unfold nuN; rw [h1]; dsimp only; rw [h2]
      rw [e]
      exact ⟨Nat.le_succ _, a2, by dsimp only; omega, fun q => of_decide_eq_true q⟩
    | some b =>
      obtain ⟨b1, b2, -⟩ := fgN_9 h2
      have e : nuN g L p = (p + 2, 10 * a + b, decide (10 * a + b ≤ 40)) := by unfold nuN; rw [h1]; dsimp only; rw [h2]
      rw [e]
      exact ⟨by dsimp only; omega, by dsimp only; omega, by dsimp only; omega, fun q => of_decide_eq_true q⟩
/-- a suit that was read is one -/
theorem rsN_ok {g : Nat → Int32} {L p k : Nat} (h : p < L) : (rsN g L p k).2.1 ≤ L ∧ p ≤ (rsN g L p k).2.1 ∧ ((rsN g L p k).1 = true → k < 6 ∧ kok (rsN g L p k).2.2.1 (rsN g L p k).2.2.2.1 (rsN g L p k).2.2.2.2 k) := by
  cases hkd : kdN (g p) with
  | none =>
    have e : rsN g L p k = (false, p, 0, 0, 0) := by unfold rsN; rw [hkd]
    rw [e]; exact ⟨Nat.le_of_lt h, Nat.le_refl _, fun q => by cases q⟩
  | some kd =>
    have kd5 := kdN_5 hkd
    by_cases hk6 : k < 6
    rotate_left
    · have e : rsN g L p k = (false, p, 0, 0, 0) := by unfold rsN; rw [hkd]; exact if_neg hk6
      rw [e]; exact ⟨Nat.le_of_lt h, Nat.le_refl _, fun q => by cases q⟩
    have e0 : rsN g L p k = (match fgN g L (p + 1) with
      | none => (false, p + 1, 0, 0, 0)
      | some w => if w < 1 then (false, p + 1, 0, 0, 0) else if kd < 3 then (true, p + 2, kd, w, 0) else match fgN g L (p + 2) with
        | none => (false, p + 2, 0, 0, 0)
        | some f => if kd = 5 then (if f < k then (true, p + 3, kd, w, f) else (false, p + 2, 0, 0, 0)) else if f < 1 then (false, p + 2, 0, 0, 0) else (true, p + 3, kd, w, f)) := by
      unfold rsN; rw [hkd]; exact if_pos hk6
    cases hw : fgN g L (p + 1) with
    | none =>
      have e : rsN g L p k = (false, p + 1, 0, 0, 0) := by rw [e0, hw]
      rw [e]; exact ⟨h, Nat.le_succ _, fun q => by cases q⟩
    | some w =>
      obtain ⟨w9, hw2, -⟩ := fgN_9 hw
      by_cases hw1 : w < 1
      · have e : rsN g L p k = (false, p + 1, 0, 0, 0) := by rw [e0, hw]; exact if_pos hw1
        rw [e]; exact ⟨h, Nat.le_succ _, fun q => by cases q⟩
      by_cases hk3 : kd < 3
      · have e : rsN g L p k = (true, p + 2, kd, w, 0) := by rw [e0, hw]; dsimp only; rw [if_neg hw1, if_pos hk3]
        rw [e]
        refine ⟨hw2, by dsimp only; omega, fun _ => ⟨hk6, ?_⟩⟩
        unfold kok
        dsimp only
        omega
      cases hf : fgN g L (p + 2) with
      | none =>
        have e : rsN g L p k = (false, p + 2, 0, 0, 0) := by rw [e0, hw]; dsimp only; rw [if_neg hw1, if_neg hk3, hf]
        rw [e]; exact ⟨hw2, by dsimp only; omega, fun q => by cases q⟩
      | some f =>
        obtain ⟨f9, hf2, -⟩ := fgN_9 hf
        by_cases h5 : kd = 5
        · by_cases hfk : f < k
          · have e : rsN g L p k = (true, p + 3, kd, w, f) := by rw [e0, hw]; dsimp only; rw [if_neg hw1, if_neg hk3, hf]; dsimp only; rw [if_pos h5, if_pos hfk]
            rw [e]
            refine ⟨hf2, by dsimp only; omega, fun _ => ⟨hk6, ?_⟩⟩
            unfold kok
            dsimp only
            omega
          · have e : rsN g L p k = (false, p + 2, 0, 0, 0) := by rw [e0, hw]; dsimp only; rw [if_neg hw1, if_neg hk3, hf]; dsimp only; rw [if_pos h5, if_neg hfk]
            rw [e]; exact ⟨hw2, by dsimp only; omega, fun q => by cases q⟩
        · by_cases hf1 : f < 1
          · have e : rsN g L p k = (false, p + 2, 0, 0, 0) := by rw [e0, hw]; dsimp only; rw [if_neg hw1, if_neg hk3, hf]; dsimp only; rw [if_neg h5, if_pos hf1]
            rw [e]; exact ⟨hw2, by dsimp only; omega, fun q => by cases q⟩
          · have e : rsN g L p k = (true, p + 3, kd, w, f) := by rw [e0, hw]; dsimp only; rw [if_neg hw1, if_neg hk3, hf]; dsimp only; rw [if_neg h5, if_neg hf1]
            rw [e]
            refine ⟨hf2, by dsimp only; omega, fun _ => ⟨hk6, ?_⟩⟩
            unfold kok
            dsimp only
            omega
section Rd3
variable {N z L : Nat} {g : Nat → Int32}
theorem csuits_l (hN : 100000 ≤ N) : ∀ f k p T mm, f + k = 7 → p ≤ L → TXc mm z L g → rd mm 24 5 = nI p → rd mm 24 4 = nI k → RdC mm k T → ∀ F, f < F → ∃ m', fX5_read_60 N F 24 z (nI k) mm = some (oV (-9) (prN g L f p k T).1, m') ∧ Fr (fun k j => (k = 24 ∧ (j = 4 ∨ j = 5)) ∨ k = 26 ∨ k = 27 ∨ k = 28) mm m' ∧ rd m' 24 4 = nI (prN g L f p k T).2.1 ∧ RdC m' (prN g L f p k T).2.1 (prN g L f p k T).2.2 := by
  intro f
  induction f with
  | zero =>
    intro k p T mm hk hp X h5 h4 H F hF
    obtain ⟨F, rfl⟩ : ∃ g, F = g + 1 := ⟨F - 1, by omega⟩
    obtain rfl : k = 7 := by omega
    refine ⟨mm, ?_, Fr.rf, h4, H⟩
    unfold fX5_read_60
    exact st_t (by decide) (by rw [h5]; rfl)
  | succ f ih =>
    intro k p T mm hk hp X h5 h4 H F hF
    obtain ⟨F, rfl⟩ : ∃ g, F = g + 1 := ⟨F - 1, by omega⟩
    have hL := X.1
    obtain ⟨m1, c1, f1, g1⟩ := cskip_e (N := N) (mm := mm) hN (L - p) p mm (by first | omega | (dsimp only; omega)) X h5 N (by first | omega | (dsimp only; omega))
    have c1' : fX5_skipBlanks N 24 z mm = some ((), m1) := c1
    have X1 : TXc m1 z L g := X.c (fun k j e => f1.2 _ _ (by first | omega | (dsimp only; omega)))
    have h41 : rd m1 24 4 = nI k := by rw [f1.2 _ _ (by first | omega | (dsimp only; omega))]; exact h4
    have H1 : RdC m1 k T := fun j hj => by rw [f1.2 _ _ (by first | omega | (dsimp only; omega)), f1.2 _ _ (by first | omega | (dsimp only; omega)), f1.2 _ _ (by first | omega | (dsimp only; omega))]; exact H j hj
    obtain ⟨s1, s2⟩ := skB_le (g := g) hp
    have e : prN g L (f + 1) p k T = if skB g L p < L then (if (rsN g L (skB g L p) k).1 = true then prN g L f (rsN g L (skB g L p) k).2.1 (k + 1) (fun j => if j = k then (rsN g L (skB g L p) k).2.2 else T j) else (some (rsN g L (skB g L p) k).2.1, k, T)) else (none, k, T) := rfl
    have F1 : Fr (fun k j => (k = 24 ∧ (j = 4 ∨ j = 5)) ∨ k = 26 ∨ k = 27 ∨ k = 28) mm m1 := f1.mono (fun k j e => Or.inl ⟨e.1, Or.inr e.2⟩)
    unfold fX5_read_60
    by_cases hlt : skB g L p < L
    · rw [if_pos hlt] at e
      obtain ⟨m2, c2, f2, g2, g3, g4⟩ := csuit_e (N := N) X1 g1 h41 (by first | omega | (dsimp only; omega)) hlt H1
      obtain ⟨r1, r2, r3⟩ := rsN_ok (k := k) (g := g) hlt
      have X2 : TXc m2 z L g := X1.c (fun k j e => f2.2 _ _ (by first | omega | (dsimp only; omega)))
      cases hb : (rsN g L (skB g L p) k).1
      · rw [hb, if_neg (by decide)] at e
        rw [hb] at c2
        obtain ⟨q1, q2⟩ := g3 hb
        rw [e]
        refine ⟨m2, st_f (nI_nlt (show k ≤ 6 by omega) (by first | omega | (dsimp only; omega))) (st_b c1' (st_t (by rw [g1, X1.2.1]; exact nI_lt hlt (by first | omega | (dsimp only; omega))) (st_b c2 (st_t rfl ?_)))), F1.tr f2, q1, q2⟩
        rw [g2]; rfl
      · rw [hb, if_pos rfl] at e
        rw [hb] at c2
        obtain ⟨q1, q2⟩ := g4 hb
        rw [e]
        obtain ⟨m', c3, f3, g5⟩ := ih (k + 1) (rsN g L (skB g L p) k).2.1 (fun j => if j = k then (rsN g L (skB g L p) k).2.2 else T j) m2 (by first | omega | (dsimp only; omega)) r1 X2 g2 q1 q2 F (by first | omega | (dsimp only; omega))
        refine ⟨m', st_f (nI_nlt (show k ≤ 6 by omega) (by first | omega | (dsimp only; omega))) (st_b c1' (st_t (by rw [g1, X1.2.1]; exact nI_lt hlt (by first | omega | (dsimp only; omega))) (st_b c2 (st_f (by decide) ?_)))), F1.tr (f2.tr f3), g5⟩
        rw [nI_1]; exact c3
    · rw [if_neg hlt] at e
      rw [e]
      exact ⟨m1, st_f (nI_nlt (show k ≤ 6 by omega) (by first | omega | (dsimp only; omega))) (st_b c1' (st_f (by rw [g1, X1.2.1]; exact nI_nlt (by first | omega | (dsimp only; omega)) (by first | omega | (dsimp only; omega))) rfl)), F1, h41, H1⟩
theorem cread_e {mm : Mm} (hN : 100000 ≤ N) (X : TXc mm z L g) : ∃ m', fX5_read N 24 z mm = some (oV (-9) (rdN g L).1, m') ∧ Fr FrR mm m' ∧ ((rdN g L).1 = none → rd m' 25 0 = nI (rdN g L).2.1 ∧ rd m' 25 1 = nI (rdN g L).2.2.1 ∧ rd m' 24 4 = nI (rdN g L).2.2.2.1 ∧ RdC m' (rdN g L).2.2.2.1 (rdN g L).2.2.2.2) := by
  have hL := X.1
  have X0 : TXc (wr (wr mm 24 5 0) 24 4 0) z L g := X.c (fun k j e => by rw [rd_wr_k (by first | omega | (dsimp only; omega)), rd_wr_k (by first | omega | (dsimp only; omega))])
  obtain ⟨m1, c1, f1, g1⟩ := cskip_e (N := N) (mm := mm) hN L 0 (wr (wr mm 24 5 0) 24 4 0) (by first | omega | (dsimp only; omega)) X0 (by rw [rd_wr_j (by first | omega | (dsimp only; omega)), rd_wr_s]; rfl) N (by first | omega | (dsimp only; omega))
  have c1' : fX5_skipBlanks N 24 z (wr (wr mm 24 5 0) 24 4 0) = some ((), m1) := c1
  have h41 : rd m1 24 4 = nI 0 := by rw [f1.2 _ _ (by first | omega | (dsimp only; omega)), rd_wr_s]; rfl
  have F1 : Fr FrR mm m1 := (fr_wr (fr_wr Fr.rf (Or.inl ⟨rfl, Or.inr rfl⟩)) (Or.inl ⟨rfl, Or.inl rfl⟩)).tr (f1.mono (fun k j e => Or.inl ⟨e.1, Or.inr e.2⟩))
  have X1 : TXc m1 z L g := X0.c (fun k j e => f1.2 _ _ (by first | omega | (dsimp only; omega)))
  obtain ⟨s1, -⟩ := skB_le (g := g) (L := L) (p := 0) (by first | omega | (dsimp only; omega))
  generalize hp0 : skB g L 0 = p0 at g1 s1
  have pre : ∀ {r : Option (Int32 × Mm)}, (bd2 (fX5_passes N 24 z 110 m1) fun x15 m16 => if x15 = 0 then (some (rd m16 24 5, m16)) else (bd2 (fX5_passesStock N 24 z 0 m16) fun x19 m20 => if x19 = 0 then (some (rd m20 24 5, m20)) else (bd2 (fX5_passes N 24 z 58 m20) fun x23 m24 => if x23 = 0 then (some (rd m24 24 5, m24)) else (bd2 (fX5_passesStock N 24 z 1 m24) fun x27 m28 => if x27 = 0 then (some (rd m28 24 5, m28)) else (fX5_read_60 N N 24 z 0 m28))))) = r → fX5_read N 24 z mm = r := by
    intro r hr
    unfold fX5_read
    exact st_n (st_n (st_b c1' hr))
  have P1 := passes_e (N := N) (x := 110) (by decide) X1 g1 (by first | omega | (dsimp only; omega))
  have e0 : rdN g L = if sgN g L p0 110 = true then rdN1 g L (nuN g L (p0 + 1)) else (some p0, 0, 0, 0, T0) := by unfold rdN; rw [hp0]
  cases hb1 : sgN g L p0 110
  · rw [hb1, if_neg (by decide)] at e0
    rw [hb1] at P1
    rw [e0]
    refine ⟨m1, pre (st_b P1 (st_t rfl ?_)), F1, fun q => by cases q⟩
    rw [if_neg (by decide), g1]; rfl
  rw [hb1, if_pos rfl] at e0
  rw [hb1, if_pos rfl] at P1
  have hlt0 : p0 < L := (of_decide_eq_true hb1).1
  obtain ⟨m2, c2, f2, g2, v2⟩ := rstock_e (N := N) (a := 0) (by first | omega | (dsimp only; omega)) (X1.c (fun k j e => rd_wr_k (by first | omega | (dsimp only; omega))) : TXc (wr m1 24 5 (nI (p0 + 1))) z L g) rd_wr_s (by first | omega | (dsimp only; omega))
  have F2 : Fr FrR mm m2 := (fr_wr F1 (Or.inl ⟨rfl, Or.inr rfl⟩)).tr (f2.mono (fun k j e => by unfold FrR; omega))
  have X2 : TXc m2 z L g := X1.c (fun k j e => by rw [f2.2 _ _ (by first | omega | (dsimp only; omega)), rd_wr_k (by first | omega | (dsimp only; omega))])
  have h42 : rd m2 24 4 = nI 0 := by rw [f2.2 _ _ (by first | omega | (dsimp only; omega)), rd_wr_j (by first | omega | (dsimp only; omega))]; exact h41
  obtain ⟨n1, n2, n3, n4⟩ := nuN_le (g := g) (L := L) (p := p0 + 1) (by first | omega | (dsimp only; omega))
  generalize nuN g L (p0 + 1) = u at e0 c2 g2 v2 n1 n2 n3 n4
  have e1 : rdN1 g L u = if u.2.2 = true then (if sgN g L u.1 58 = true then rdN2 g L u.2.1 (nuN g L (u.1 + 1)) else (some u.1, 0, 0, 0, T0)) else (some u.1, 0, 0, 0, T0) := rfl
  cases hb2 : u.2.2
  · rw [hb2, if_neg (by decide)] at e1
    rw [hb2] at c2
    rw [e0, e1]
    refine ⟨m2, pre (st_b P1 (st_f (by decide) (st_b c2 (st_t rfl ?_)))), F2, fun q => by cases q⟩
    rw [g2]; rfl
  rw [hb2, if_pos rfl] at e1
  rw [hb2] at c2
  have P2 := passes_e (N := N) (x := 58) (by decide) X2 g2 (by first | omega | (dsimp only; omega))
  cases hb3 : sgN g L u.1 58
  · rw [hb3, if_neg (by decide)] at e1
    rw [hb3] at P2
    rw [e0, e1]
    refine ⟨m2, pre (st_b P1 (st_f (by decide) (st_b c2 (st_f (by decide) (st_b P2 (st_t rfl ?_)))))), F2, fun q => by cases q⟩
    rw [if_neg (by decide), g2]; rfl
  rw [hb3, if_pos rfl] at e1
  rw [hb3, if_pos rfl] at P2
  have hlt1 : u.1 < L := (of_decide_eq_true hb3).1
  obtain ⟨m3, c3, f3, g3, v3⟩ := rstock_e (N := N) (a := 1) (by first | omega | (dsimp only; omega)) (X2.c (fun k j e => rd_wr_k (by first | omega | (dsimp only; omega))) : TXc (wr m2 24 5 (nI (u.1 + 1))) z L g) rd_wr_s (by first | omega | (dsimp only; omega))
  have F3 : Fr FrR mm m3 := (fr_wr F2 (Or.inl ⟨rfl, Or.inr rfl⟩)).tr (f3.mono (fun k j e => by unfold FrR; omega))
  have X3 : TXc m3 z L g := X2.c (fun k j e => by rw [f3.2 _ _ (by first | omega | (dsimp only; omega)), rd_wr_k (by first | omega | (dsimp only; omega))])
  have h43 : rd m3 24 4 = nI 0 := by rw [f3.2 _ _ (by first | omega | (dsimp only; omega)), rd_wr_j (by first | omega | (dsimp only; omega))]; exact h42
  have h250 : rd m3 25 0 = nI u.2.1 := by rw [f3.2 _ _ (by first | omega | (dsimp only; omega)), rd_wr_k (by first | omega | (dsimp only; omega))]; exact v2 hb2
  obtain ⟨o1, o2, o3, o4⟩ := nuN_le (g := g) (L := L) (p := u.1 + 1) (by first | omega | (dsimp only; omega))
  generalize nuN g L (u.1 + 1) = w at e1 c3 g3 v3 o1 o2 o3 o4
  have e2 : rdN2 g L u.2.1 w = if w.2.2 = true then ((prN g L 7 w.1 0 T0).1, u.2.1, w.2.1, (prN g L 7 w.1 0 T0).2.1, (prN g L 7 w.1 0 T0).2.2) else (some w.1, 0, 0, 0, T0) := rfl
  cases hb4 : w.2.2
  · rw [hb4, if_neg (by decide)] at e2
    rw [hb4] at c3
    rw [e0, e1, e2]
    refine ⟨m3, pre (st_b P1 (st_f (by decide) (st_b c2 (st_f (by decide) (st_b P2 (st_f (by decide) (st_b c3 (st_t rfl ?_)))))))), F3, fun q => by cases q⟩
    rw [g3]; rfl
  rw [hb4, if_pos rfl] at e2
  rw [hb4] at c3
  obtain ⟨m4, c4, f4, g4, g5⟩ := csuits_l (N := N) hN 7 0 w.1 T0 m3 (by first | omega | (dsimp only; omega)) o2 X3 g3 h43 (fun j hj => by omega) N (by first | omega | (dsimp only; omega))
  rw [e0, e1, e2]
  refine ⟨m4, pre (st_b P1 (st_f (by decide) (st_b c2 (st_f (by decide) (st_b P2 (st_f (by decide) (st_b c3 (st_f (by decide) c4)))))))), F3.tr (f4.mono (fun k j e => by unfold FrR; omega)), fun _ => ⟨?_, ?_, g4, g5⟩⟩
  · rw [f4.2 _ _ (by first | omega | (dsimp only; omega))]; exact h250
  · rw [f4.2 _ _ (by first | omega | (dsimp only; omega))]; exact v3 hb4
end Rd3

/-! picked out of 99b.open -/
theorem prN_ok {g : Nat → Int32} {L : Nat} : ∀ c p k T, p ≤ L → k ≤ 6 → (∀ j, j < k → kok (T j).1 (T j).2.1 (T j).2.2 j) → (prN g L c p k T).1 = none → (prN g L c p k T).2.1 ≤ 6 ∧ ∀ j, j < (prN g L c p k T).2.1 → kok ((prN g L c p k T).2.2 j).1 ((prN g L c p k T).2.2 j).2.1 ((prN g L c p k T).2.2 j).2.2 j := by
  intro c
  induction c with
  | zero => intro p k T hp hk H h; cases h
  | succ c ih =>
    intro p k T hp hk H h
    have e : prN g L (c + 1) p k T = if skB g L p < L then (if (rsN g L (skB g L p) k).1 = true then prN g L c (rsN g L (skB g L p) k).2.1 (k + 1) (fun j => if j = k then (rsN g L (skB g L p) k).2.2 else T j) else (some (rsN g L (skB g L p) k).2.1, k, T)) else (none, k, T) := rfl
    by_cases hlt : skB g L p < L
    · rw [if_pos hlt] at e
      obtain ⟨r1, r2, r3⟩ := rsN_ok (k := k) (g := g) hlt
      cases hb : (rsN g L (skB g L p) k).1
      · rw [hb, if_neg (by decide)] at e
        rw [e] at h; cases h
      · rw [hb, if_pos rfl] at e
        obtain ⟨z1, z2⟩ := r3 hb
        rw [e] at h ⊢
        refine ih _ (k + 1) _ r1 (by first | omega | (dsimp only; omega)) (fun j hj => ?_) h
        by_cases hjk : j = k
        · subst hjk; rw [if_pos rfl]; exact z2
        · rw [if_neg hjk]; exact H j (by first | omega | (dsimp only; omega))
    · rw [if_neg hlt] at e
      rw [e]
      exact ⟨hk, H⟩
theorem rdN_ok {g : Nat → Int32} {L : Nat} (h : (rdN g L).1 = none) : (rdN g L).2.1 ≤ 40 ∧ (rdN g L).2.2.1 ≤ 40 ∧ (rdN g L).2.2.2.1 ≤ 6 ∧ ∀ j, j < (rdN g L).2.2.2.1 → kok ((rdN g L).2.2.2.2 j).1 ((rdN g L).2.2.2.2 j).2.1 ((rdN g L).2.2.2.2 j).2.2 j := by
  have e0 : rdN g L = if sgN g L (skB g L 0) 110 = true then rdN1 g L (nuN g L (skB g L 0 + 1)) else (some (skB g L 0), 0, 0, 0, T0) := rfl
  cases hb1 : sgN g L (skB g L 0) 110
  · rw [hb1, if_neg (by decide)] at e0
    rw [e0] at h; cases h
  rw [hb1, if_pos rfl] at e0
  have hlt := (of_decide_eq_true hb1).1
  obtain ⟨-, n2, -, n4⟩ := nuN_le (g := g) (L := L) (p := skB g L 0 + 1) (by first | omega | (dsimp only; omega))
  generalize nuN g L (skB g L 0 + 1) = u at e0 n2 n4
  have e1 : rdN1 g L u = if u.2.2 = true then (if sgN g L u.1 58 = true then rdN2 g L u.2.1 (nuN g L (u.1 + 1)) else (some u.1, 0, 0, 0, T0)) else (some u.1, 0, 0, 0, T0) := rfl
  cases hb2 : u.2.2
  · rw [hb2, if_neg (by decide)] at e1
    rw [e0, e1] at h; cases h
  rw [hb2, if_pos rfl] at e1
  cases hb3 : sgN g L u.1 58
  · rw [hb3, if_neg (by decide)] at e1
    rw [e0, e1] at h; cases h
  rw [hb3, if_pos rfl] at e1
  have hl3 := (of_decide_eq_true hb3).1
  obtain ⟨-, o2, -, o4⟩ := nuN_le (g := g) (L := L) (p := u.1 + 1) (by first | omega | (dsimp only; omega))
  generalize nuN g L (u.1 + 1) = w at e1 o2 o4
  have e2 : rdN2 g L u.2.1 w = if w.2.2 = true then ((prN g L 7 w.1 0 T0).1, u.2.1, w.2.1, (prN g L 7 w.1 0 T0).2.1, (prN g L 7 w.1 0 T0).2.2) else (some w.1, 0, 0, 0, T0) := rfl
  cases hb4 : w.2.2
  · rw [hb4, if_neg (by decide)] at e2
    rw [e0, e1, e2] at h; cases h
  rw [hb4, if_pos rfl] at e2
  rw [e0, e1, e2] at h ⊢
  obtain ⟨z1, z2⟩ := prN_ok 7 w.1 0 T0 o2 (by first | omega | (dsimp only; omega)) (fun j hj => by omega) h
  exact ⟨n4 hb2, o4 hb4, z1, z2⟩
section Opn
variable {N : Nat}
theorem copen_l {n : Nat} {T : Nat → Nat × Nat × Nat} (hN : 100000 ≤ N) (hn : n ≤ 6) : ∀ c i mm, i + c = n → rd mm 3 5 = nI n → RdC mm n T → (∀ j, j < i → SU mm (17 + j) (T j).1 (T j).2.1 (T j).2.2) → ∀ f, c < f → ∃ m', fX0_open_10 N f 3 24 (nI i) mm = some ((), m') ∧ Fr (fun k j => (17 ≤ k ∧ k ≤ 22) ∨ k = 5 ∨ k = 6 ∨ (k = 3 ∧ (j = 6 ∨ j = 7))) mm m' ∧ (∀ j, j < n → SU m' (17 + j) (T j).1 (T j).2.1 (T j).2.2) ∧ (∀ j, j < 2 → rd m' 5 j = rd mm 25 j) ∧ (∀ j, j < 4 → rd m' 6 j = 0) ∧ rd m' 3 6 = 0 ∧ rd m' 3 7 = 0 := by
  intro c
  induction c with
  | zero =>
    intro i mm hi h5 H hS f hf
    obtain ⟨f, rfl⟩ : ∃ g, f = g + 1 := ⟨f - 1, by omega⟩
    obtain rfl : i = n := by omega
    obtain ⟨m1, c1, f1, g1⟩ := fill_ok (N := N) (k := 6) (v := 0) (L := 4) (mm := cpy mm 25 5 0 0 2) hN rfl (by first | omega | (dsimp only; omega))
    have hA : ∀ k j, k ≠ 5 → k ≠ 6 → k ≠ 3 → rd (wr (wr m1 3 6 0) 3 7 0) k j = rd mm k j := fun k j h1 h2 h3 => by rw [rd_wr_k h3, rd_wr_k h3, f1.2 _ _ h2, rd_cpy, if_neg (fun q => h1 q.1)]
    refine ⟨wr (wr m1 3 6 0) 3 7 0, ?_, ?_, fun j hj => ?_, fun j hj => ?_, fun j hj => ?_, ?_, rd_wr_s⟩
    · unfold fX0_open_10
      simp only [LXa, LXb]
      refine st_t (by rw [h5]; exact nI_le (by first | omega | (dsimp only; omega)) (by first | omega | (dsimp only; omega))) (st_g (cpok_n (i := 0) (j := 0) (c := 2) (by first | omega | (dsimp only; omega)) (by first | omega | (dsimp only; omega)) (by first | omega | (dsimp only; omega)) (by first | omega | (dsimp only; omega))) (st_n (st_b c1 rfl)))
    · exact fr_wr (fr_wr ((fr_cpy Fr.rf (fun j => Or.inr (Or.inl rfl))).tr (f1.mono (fun k j e => Or.inr (Or.inr (Or.inl e))))) (Or.inr (Or.inr (Or.inr ⟨rfl, Or.inl rfl⟩)))) (Or.inr (Or.inr (Or.inr ⟨rfl, Or.inr rfl⟩)))
    · obtain ⟨z1, z2, z3⟩ := hS j hj
      exact ⟨by rw [hA _ _ (by first | omega | (dsimp only; omega)) (by first | omega | (dsimp only; omega)) (by first | omega | (dsimp only; omega))]; exact z1, by rw [hA _ _ (by first | omega | (dsimp only; omega)) (by first | omega | (dsimp only; omega)) (by first | omega | (dsimp only; omega))]; exact z2, by rw [hA _ _ (by first | omega | (dsimp only; omega)) (by first | omega | (dsimp only; omega)) (by first | omega | (dsimp only; omega))]; exact z3⟩
    · rw [rd_wr_k (by first | omega | (dsimp only; omega)), rd_wr_k (by first | omega | (dsimp only; omega)), f1.2 _ _ (by first | omega | (dsimp only; omega)), rd_cpy, if_pos ⟨rfl, Nat.zero_le _, hj⟩]
      show rd mm 25 (0 + (j - 0)) = _
      rw [Nat.zero_add, Nat.sub_zero]
    · rw [rd_wr_k (by first | omega | (dsimp only; omega)), rd_wr_k (by first | omega | (dsimp only; omega))]; exact g1 j hj
    · rw [rd_wr_j (by first | omega | (dsimp only; omega)), rd_wr_s]
  | succ c ih =>
    intro i mm hi h5 H hS f hf
    obtain ⟨f, rfl⟩ : ∃ g, f = g + 1 := ⟨f - 1, by omega⟩
    obtain ⟨y1, y2, y3⟩ := H i (by first | omega | (dsimp only; omega))
    obtain ⟨m', c1, f1, g1⟩ := ih (i + 1) (wr (wr (wr mm (17 + i) 0 (nI (T i).1)) (17 + i) 1 (nI (T i).2.1)) (17 + i) 2 (gI (T i).1 (T i).2.2)) (by first | omega | (dsimp only; omega)) (by rw [rd_wr_k (by first | omega | (dsimp only; omega)), rd_wr_k (by first | omega | (dsimp only; omega)), rd_wr_k (by first | omega | (dsimp only; omega))]; exact h5) (fun j hj => by
      obtain ⟨z1, z2, z3⟩ := H j hj
      exact ⟨by rw [rd_wr_k (by first | omega | (dsimp only; omega)), rd_wr_k (by first | omega | (dsimp only; omega)), rd_wr_k (by first | omega | (dsimp only; omega))]; exact z1, by rw [rd_wr_k (by first | omega | (dsimp only; omega)), rd_wr_k (by first | omega | (dsimp only; omega)), rd_wr_k (by first | omega | (dsimp only; omega))]; exact z2, by rw [rd_wr_k (by first | omega | (dsimp only; omega)), rd_wr_k (by first | omega | (dsimp only; omega)), rd_wr_k (by first | omega | (dsimp only; omega))]; exact z3⟩) (fun j hj => by
      by_cases hji : j = i
      · subst hji
        exact ⟨by rw [rd_wr_j (by first | omega | (dsimp only; omega)), rd_wr_j (by first | omega | (dsimp only; omega)), rd_wr_s], by rw [rd_wr_j (by first | omega | (dsimp only; omega)), rd_wr_s], by rw [rd_wr_s]⟩
      · obtain ⟨z1, z2, z3⟩ := hS j (by first | omega | (dsimp only; omega))
        exact ⟨by rw [rd_wr_k (by first | omega | (dsimp only; omega)), rd_wr_k (by first | omega | (dsimp only; omega)), rd_wr_k (by first | omega | (dsimp only; omega))]; exact z1, by rw [rd_wr_k (by first | omega | (dsimp only; omega)), rd_wr_k (by first | omega | (dsimp only; omega)), rd_wr_k (by first | omega | (dsimp only; omega))]; exact z2, by rw [rd_wr_k (by first | omega | (dsimp only; omega)), rd_wr_k (by first | omega | (dsimp only; omega)), rd_wr_k (by first | omega | (dsimp only; omega))]; exact z3⟩) f (by first | omega | (dsimp only; omega))
    obtain ⟨g1, g2, g3⟩ := g1
    refine ⟨m', ?_, (fr_wr (fr_wr (fr_wr Fr.rf (by first | omega | (dsimp only; omega))) (by first | omega | (dsimp only; omega))) (by first | omega | (dsimp only; omega))).tr f1, g1, fun j hj => ?_, g3⟩
    · unfold fX0_open_10
      simp only [LXa, LXb, nI_nat (show i < 2147483648 by omega)]
      refine st_f (by rw [h5]; exact nI_ge (by first | omega | (dsimp only; omega)) (by first | omega | (dsimp only; omega))) (st_k rfl (show i < 6 by omega) (by first | omega | (dsimp only; omega)) (st_k rfl (show i < 6 by omega) (by first | omega | (dsimp only; omega)) (st_k rfl (show i < 6 by omega) (by first | omega | (dsimp only; omega)) (st_k rfl (show i < 6 by omega) (by first | omega | (dsimp only; omega)) (st_b rfl ?_)))))
      rw [y1, y2, y3, nI_1]; exact c1
    · rw [g2 j hj, rd_wr_k (by first | omega | (dsimp only; omega)), rd_wr_k (by first | omega | (dsimp only; omega)), rd_wr_k (by first | omega | (dsimp only; omega))]
theorem ckept_l {v : Int32} : ∀ c i mm, i + c = 3 → rd mm 3 5 = v → (∀ j, j < i → rd mm (115 + 20 * j) 8 = 0) → ∀ f, c < f → ∃ m', fX11_court_54 N f 0 (nI i) mm = some (v, m') ∧ Fr (fun k j => (k = 52 ∧ j = 2) ∨ ((k = 115 ∨ k = 135 ∨ k = 155) ∧ j = 8)) mm m' ∧ (∀ j, j < 3 → rd m' (115 + 20 * j) 8 = 0) ∧ rd m' 52 2 = 0 := by
  intro c
  induction c with
  | zero =>
    intro i mm hi h5 hd f hf
    obtain ⟨f, rfl⟩ : ∃ g, f = g + 1 := ⟨f - 1, by omega⟩
    obtain rfl : i = 3 := by omega
    refine ⟨wr mm 52 2 0, ?_, fr_wr Fr.rf (Or.inl ⟨rfl, rfl⟩), fun j hj => by rw [rd_wr_k (by first | omega | (dsimp only; omega))]; exact hd j hj, rd_wr_s⟩
    unfold fX11_court_54
    simp only [LXa]
    refine st_t (nI_le (by first | omega | (dsimp only; omega)) (by first | omega | (dsimp only; omega))) (st_b (st_n rfl) ?_)
    rw [rd_wr_k (by first | omega | (dsimp only; omega)), h5]
  | succ c ih =>
    intro i mm hi h5 hd f hf
    obtain ⟨f, rfl⟩ : ∃ g, f = g + 1 := ⟨f - 1, by omega⟩
    obtain ⟨m', c1, f1, g1⟩ := ih (i + 1) (wr mm (115 + 20 * i) 8 0) (by first | omega | (dsimp only; omega)) (by rw [rd_wr_k (by first | omega | (dsimp only; omega))]; exact h5) (fun j hj => by
      by_cases hji : j = i
      · subst hji; rw [rd_wr_s]
      · rw [rd_wr_k (by first | omega | (dsimp only; omega))]; exact hd j (by first | omega | (dsimp only; omega))) f (by first | omega | (dsimp only; omega))
    refine ⟨m', ?_, (fr_wr (S := fun k j => (k = 52 ∧ j = 2) ∨ ((k = 115 ∨ k = 135 ∨ k = 155) ∧ j = 8)) Fr.rf (by first | omega | (dsimp only; omega))).tr f1, g1⟩
    unfold fX11_court_54
    simp only [LXa, nI_nat (show i < 2147483648 by omega)]
    refine st_f (nI_ge (by first | omega | (dsimp only; omega)) (by first | omega | (dsimp only; omega))) (st_k rfl (show i < 3 by omega) (by first | omega | (dsimp only; omega)) (st_n ?_))
    rw [nI_1]; exact c1
end Opn

/-! picked out of 99c.court2 -/
theorem sok_k {i k w f : Nat} (h : kok k w f i) : SOK i (nI k) (nI w) (gI k f) := by
  obtain ⟨h1, h2, h3, h4, h5, h6, h7⟩ := h
  refine ⟨k, w, h1, h2, h3, rfl, rfl, ?_⟩
  unfold gI
  by_cases hk : k ≤ 2
  · rw [if_pos hk]; exact Or.inl ⟨hk, rfl⟩
  · rw [if_neg hk]
    refine Or.inr ⟨f, rfl, ?_⟩
    by_cases h55 : k = 5
    · exact Or.inr ⟨h55, h6 h55⟩
    · exact Or.inl ⟨by omega, h5 (by first | omega | (dsimp only; omega)), h4⟩
theorem prN_b {g : Nat → Int32} {L : Nat} : ∀ c p k T q, p ≤ L → (prN g L c p k T).1 = some q → q ≤ L := by
  intro c
  induction c with
  | zero => intro p k T q hp h; cases h; exact hp
  | succ c ih =>
    intro p k T q hp h
    have e : prN g L (c + 1) p k T = if skB g L p < L then (if (rsN g L (skB g L p) k).1 = true then prN g L c (rsN g L (skB g L p) k).2.1 (k + 1) (fun j => if j = k then (rsN g L (skB g L p) k).2.2 else T j) else (some (rsN g L (skB g L p) k).2.1, k, T)) else (none, k, T) := rfl
    by_cases hlt : skB g L p < L
    · rw [if_pos hlt] at e
      obtain ⟨r1, r2, r3⟩ := rsN_ok (k := k) (g := g) hlt
      cases hb : (rsN g L (skB g L p) k).1
      · rw [hb, if_neg (by decide)] at e
        rw [e] at h; cases h; exact r1
      · rw [hb, if_pos rfl] at e
        rw [e] at h
        exact ih _ _ _ q r1 h
    · rw [if_neg hlt] at e
      rw [e] at h; cases h
theorem rdN_b {g : Nat → Int32} {L q : Nat} (h : (rdN g L).1 = some q) : q ≤ L := by
  have e0 : rdN g L = if sgN g L (skB g L 0) 110 = true then rdN1 g L (nuN g L (skB g L 0 + 1)) else (some (skB g L 0), 0, 0, 0, T0) := rfl
  cases hb1 : sgN g L (skB g L 0) 110
  · rw [hb1, if_neg (by decide)] at e0
    rw [e0] at h; cases h
    exact (skB_le (g := g) (L := L) (p := 0) (by first | omega | (dsimp only; omega))).1
  rw [hb1, if_pos rfl] at e0
  have hlt := (of_decide_eq_true hb1).1
  obtain ⟨-, n2, -, n4⟩ := nuN_le (g := g) (L := L) (p := skB g L 0 + 1) (by first | omega | (dsimp only; omega))
  generalize nuN g L (skB g L 0 + 1) = u at e0 n2 n4
  have e1 : rdN1 g L u = if u.2.2 = true then (if sgN g L u.1 58 = true then rdN2 g L u.2.1 (nuN g L (u.1 + 1)) else (some u.1, 0, 0, 0, T0)) else (some u.1, 0, 0, 0, T0) := rfl
  cases hb2 : u.2.2
  · rw [hb2, if_neg (by decide)] at e1
    rw [e0, e1] at h; cases h; exact n2
  rw [hb2, if_pos rfl] at e1
  cases hb3 : sgN g L u.1 58
  · rw [hb3, if_neg (by decide)] at e1
    rw [e0, e1] at h; cases h; exact n2
  rw [hb3, if_pos rfl] at e1
  have hl3 := (of_decide_eq_true hb3).1
  obtain ⟨-, o2, -, o4⟩ := nuN_le (g := g) (L := L) (p := u.1 + 1) (by first | omega | (dsimp only; omega))
  generalize nuN g L (u.1 + 1) = w at e1 o2 o4
  have e2 : rdN2 g L u.2.1 w = if w.2.2 = true then ((prN g L 7 w.1 0 T0).1, u.2.1, w.2.1, (prN g L 7 w.1 0 T0).2.1, (prN g L 7 w.1 0 T0).2.2) else (some w.1, 0, 0, 0, T0) := rfl
  cases hb4 : w.2.2
  · rw [hb4, if_neg (by decide)] at e2
    rw [e0, e1, e2] at h; cases h; exact o2
  rw [hb4, if_pos rfl] at e2
  rw [e0, e1, e2] at h
  exact prN_b 7 w.1 0 T0 q o2 h
