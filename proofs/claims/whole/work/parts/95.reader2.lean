/-! pure: a court's text, the class -/
section Rd2
variable {N z L : Nat} {g : Nat → Int32}
theorem ckind_e {x : Int32} {mm : Mm} : fX5_kindBy N x mm = some (oV (-9) (kdN x), mm) := by
  unfold fX5_kindBy kdN
  by_cases h1 : x = 100
  · rw [if_pos h1, if_pos h1]; rfl
  by_cases h2 : x = 102
  · rw [if_neg h1, if_pos h2, if_neg h1, if_pos h2]; rfl
  by_cases h3 : x = 104
  · rw [if_neg h1, if_neg h2, if_pos h3, if_neg h1, if_neg h2, if_pos h3]; rfl
  by_cases h4 : x = 111
  · rw [if_neg h1, if_neg h2, if_neg h3, if_pos h4, if_neg h1, if_neg h2, if_neg h3, if_pos h4]; rfl
  by_cases h5 : x = 112
  · rw [if_neg h1, if_neg h2, if_neg h3, if_neg h4, if_pos h5, if_neg h1, if_neg h2, if_neg h3, if_neg h4, if_pos h5]; rfl
  by_cases h6 : x = 115
  · rw [if_neg h1, if_neg h2, if_neg h3, if_neg h4, if_neg h5, if_pos h6, if_neg h1, if_neg h2, if_neg h3, if_neg h4, if_neg h5, if_pos h6]; rfl
  · rw [if_neg h1, if_neg h2, if_neg h3, if_neg h4, if_neg h5, if_neg h6, if_neg h1, if_neg h2, if_neg h3, if_neg h4, if_neg h5, if_neg h6]; rfl
/-- what was read of the suits -/
def RdC (mm : Mm) (k : Nat) (T : Nat → Nat × Nat × Nat) : Prop := ∀ j, j < k → rd mm 26 j = nI (T j).1 ∧ rd mm 27 j = nI (T j).2.1 ∧ rd mm 28 j = gI (T j).1 (T j).2.2
def FrR (k j : Nat) : Prop := (k = 24 ∧ (j = 4 ∨ j = 5)) ∨ k = 25 ∨ k = 26 ∨ k = 27 ∨ k = 28
theorem csuit_e {p k : Nat} {T : Nat → Nat × Nat × Nat} {mm : Mm} (X : TXc mm z L g) (h : rd mm 24 5 = nI p) (h4 : rd mm 24 4 = nI k) (hk : k ≤ 6) (hp : p < L) (H : RdC mm k T) : ∃ m', fX5_passesSuit N 24 z mm = some (bI (rsN g L p k).1, m') ∧ Fr (fun k j => (k = 24 ∧ (j = 4 ∨ j = 5)) ∨ k = 26 ∨ k = 27 ∨ k = 28) mm m' ∧ rd m' 24 5 = nI (rsN g L p k).2.1 ∧ ((rsN g L p k).1 = false → rd m' 24 4 = nI k ∧ RdC m' k T) ∧ ((rsN g L p k).1 = true → rd m' 24 4 = nI (k + 1) ∧ RdC m' (k + 1) (fun j => if j = k then (rsN g L p k).2.2 else T j)) := by
  have hL := X.1
  have st1 : ∀ {r : Option (Int32 × Mm)}, (bd2 (fX5_kindBy N (g p) mm) fun x12 m13 => if x12 < 0 then (some (0, m13)) else (if (rd m13 24 4) < 6 then (nm (wr m13 24 5 ((rd m13 24 5) + 1)) fun m17 => bd2 (fX5_figure N 24 z m17) fun x18 m19 => if (1 : Int32) ≤ x18 then (nm (wr m19 24 5 ((rd m19 24 5) + 1)) fun m22 => if x12 < 3 then (fX5_passesSuit_113 N 24 x12 x18 (-9) m22) else (bd2 (fX5_figure N 24 z m22) fun x24 m25 => if x12 = 5 then (if x24 < 0 then (some (0, m25)) else (if x24 < (rd m25 24 4) then (fX5_passesSuit_103 N 24 x12 x18 x24 m25) else (some (0, m25)))) else (if (1 : Int32) ≤ x24 then (fX5_passesSuit_103 N 24 x12 x18 x24 m25) else (some (0, m25))))) else (some (0, m19))) else (some (0, m13)))) = r → fX5_passesSuit N 24 z mm = r := by
    intro r hr
    have hs := sign_e (N := N) X h (by first | omega | (dsimp only; omega))
    rw [if_pos hp] at hs
    unfold fX5_passesSuit
    exact st_b hs hr
  cases hkd : kdN (g p) with
  | none =>
    have e : rsN g L p k = (false, p, 0, 0, 0) := by unfold rsN; rw [hkd]
    rw [e]
    refine ⟨mm, st1 (st_b ckind_e ?_), Fr.rf, h, fun _ => ⟨h4, H⟩, fun q => by cases q⟩
    rw [hkd]
    exact st_t (by decide) rfl
  | some kd =>
    have kd5 := kdN_5 hkd
    by_cases hk6 : k < 6
    rotate_left
    · have e : rsN g L p k = (false, p, 0, 0, 0) := by unfold rsN; rw [hkd]; exact if_neg hk6
      rw [e]
      refine ⟨mm, st1 (st_b ckind_e ?_), Fr.rf, h, fun _ => ⟨h4, H⟩, fun q => by cases q⟩
      rw [hkd]
      exact st_f (nI_pos (by first | omega | (dsimp only; omega))) (st_f (by rw [h4]; exact nI_nlt (b := 6) (by first | omega | (dsimp only; omega)) (by first | omega | (dsimp only; omega))) rfl)
    have e0 : rsN g L p k = (match fgN g L (p + 1) with
      | none => (false, p + 1, 0, 0, 0)
      | some w => if w < 1 then (false, p + 1, 0, 0, 0) else if kd < 3 then (true, p + 2, kd, w, 0) else match fgN g L (p + 2) with
        | none => (false, p + 2, 0, 0, 0)
        | some f => if kd = 5 then (if f < k then (true, p + 3, kd, w, f) else (false, p + 2, 0, 0, 0)) else if f < 1 then (false, p + 2, 0, 0, 0) else (true, p + 3, kd, w, f)) := by
      unfold rsN; rw [hkd]; exact if_pos hk6
    have X1 : TXc (wr mm 24 5 (nI (p + 1))) z L g := X.c (fun k j e => rd_wr_k (by first | omega | (dsimp only; omega)))
    have h1 : rd (wr mm 24 5 (nI (p + 1))) 24 5 = nI (p + 1) := rd_wr_s
    have h41 : rd (wr mm 24 5 (nI (p + 1))) 24 4 = nI k := by rw [rd_wr_j (by first | omega | (dsimp only; omega))]; exact h4
    have H1 : RdC (wr mm 24 5 (nI (p + 1))) k T := fun j hj => by rw [rd_wr_k (by first | omega | (dsimp only; omega)), rd_wr_k (by first | omega | (dsimp only; omega)), rd_wr_k (by first | omega | (dsimp only; omega))]; exact H j hj
    have F1 : Fr (fun k j => (k = 24 ∧ (j = 4 ∨ j = 5)) ∨ k = 26 ∨ k = 27 ∨ k = 28) mm (wr mm 24 5 (nI (p + 1))) := fr_wr Fr.rf (Or.inl ⟨rfl, Or.inr rfl⟩)
    have st2 : ∀ {r : Option (Int32 × Mm)}, (bd2 (fX5_figure N 24 z (wr mm 24 5 (nI (p + 1)))) fun x18 m19 => if (1 : Int32) ≤ x18 then (nm (wr m19 24 5 ((rd m19 24 5) + 1)) fun m22 => if nI kd < 3 then (fX5_passesSuit_113 N 24 (nI kd) x18 (-9) m22) else (bd2 (fX5_figure N 24 z m22) fun x24 m25 => if nI kd = 5 then (if x24 < 0 then (some (0, m25)) else (if x24 < (rd m25 24 4) then (fX5_passesSuit_103 N 24 (nI kd) x18 x24 m25) else (some (0, m25)))) else (if (1 : Int32) ≤ x24 then (fX5_passesSuit_103 N 24 (nI kd) x18 x24 m25) else (some (0, m25))))) else (some (0, m19))) = r → fX5_passesSuit N 24 z mm = r := by
      intro r hr
      refine st1 (st_b ckind_e ?_)
      rw [hkd]
      refine st_f (nI_pos (by first | omega | (dsimp only; omega))) (st_t (by rw [h4]; exact nI_lt hk6 (by first | omega | (dsimp only; omega))) (st_n ?_))
      rw [h, nI_1]
      exact hr
    -- the end of a suit
    have fin : ∀ (q w f : Nat) (m1 : Mm), w ≤ 9 → Fr (fun k j => (k = 24 ∧ (j = 4 ∨ j = 5)) ∨ k = 26 ∨ k = 27 ∨ k = 28) mm m1 → rd m1 24 5 = nI q → rd m1 24 4 = nI k → RdC m1 k T → ∃ m', fX5_passesSuit_113 N 24 (nI kd) (nI w) (gI kd f) m1 = some (bI true, m') ∧ Fr (fun k j => (k = 24 ∧ (j = 4 ∨ j = 5)) ∨ k = 26 ∨ k = 27 ∨ k = 28) mm m' ∧ rd m' 24 5 = nI q ∧ rd m' 24 4 = nI (k + 1) ∧ RdC m' (k + 1) (fun j => if j = k then (kd, w, f) else T j) := by
      intro q w f m1 hw f1 h5 h4 HR
      refine ⟨wr (wr (wr (wr m1 26 k (nI kd)) 27 k (nI w)) 28 k (gI kd f)) 24 4 (nI (k + 1)), ?_, fr_wr (fr_wr (fr_wr (fr_wr f1 (Or.inr (Or.inl rfl))) (Or.inr (Or.inr (Or.inl rfl)))) (Or.inr (Or.inr (Or.inr rfl)))) (Or.inl ⟨rfl, Or.inl rfl⟩), ?_, rd_wr_s, fun j hj => ?_⟩
      · unfold fX5_passesSuit_113
        simp only [LXb, h4, nI_nat (show k < 2147483648 by omega)]
        refine st_k rfl hk6 (by first | omega | (dsimp only; omega)) (st_n ?_)
        rw [rd_wr_k (by first | omega | (dsimp only; omega)), h4, nI_nat (show k < 2147483648 by omega)]
        refine st_k rfl hk6 (by first | omega | (dsimp only; omega)) (st_n ?_)
        rw [rd_wr_k (by first | omega | (dsimp only; omega)), rd_wr_k (by first | omega | (dsimp only; omega)), h4, nI_nat (show k < 2147483648 by omega)]
        refine st_k rfl hk6 (by first | omega | (dsimp only; omega)) (st_n (st_n ?_))
        rw [rd_wr_k (by first | omega | (dsimp only; omega)), rd_wr_k (by first | omega | (dsimp only; omega)), rd_wr_k (by first | omega | (dsimp only; omega)), h4, nI_1]
        rfl
      · rw [rd_wr_j (by first | omega | (dsimp only; omega)), rd_wr_k (by first | omega | (dsimp only; omega)), rd_wr_k (by first | omega | (dsimp only; omega)), rd_wr_k (by first | omega | (dsimp only; omega))]; exact h5
      · dsimp only
        by_cases hjk : j = k
        · subst hjk
          rw [if_pos rfl]
          exact ⟨by rw [rd_wr_k (by first | omega | (dsimp only; omega)), rd_wr_k (by first | omega | (dsimp only; omega)), rd_wr_k (by first | omega | (dsimp only; omega)), rd_wr_s], by rw [rd_wr_k (by first | omega | (dsimp only; omega)), rd_wr_k (by first | omega | (dsimp only; omega)), rd_wr_s], by rw [rd_wr_k (by first | omega | (dsimp only; omega)), rd_wr_s]⟩
        · rw [if_neg hjk]
          obtain ⟨z1, z2, z3⟩ := HR j (by first | omega | (dsimp only; omega))
          exact ⟨by rw [rd_wr_k (by first | omega | (dsimp only; omega)), rd_wr_k (by first | omega | (dsimp only; omega)), rd_wr_k (by first | omega | (dsimp only; omega)), rd_wr_j hjk]; exact z1, by rw [rd_wr_k (by first | omega | (dsimp only; omega)), rd_wr_k (by first | omega | (dsimp only; omega)), rd_wr_j hjk, rd_wr_k (by first | omega | (dsimp only; omega))]; exact z2, by rw [rd_wr_k (by first | omega | (dsimp only; omega)), rd_wr_j hjk, rd_wr_k (by first | omega | (dsimp only; omega)), rd_wr_k (by first | omega | (dsimp only; omega))]; exact z3⟩
    cases hw : fgN g L (p + 1) with
    | none =>
      have e : rsN g L p k = (false, p + 1, 0, 0, 0) := by rw [e0, hw]
      rw [e]
      refine ⟨_, st2 (st_b (figure_e X1 h1 (by first | omega | (dsimp only; omega))) ?_), F1, h1, fun _ => ⟨h41, H1⟩, fun q => by cases q⟩
      rw [hw]
      exact st_f (by decide) rfl
    | some w =>
      obtain ⟨w9, -, -⟩ := fgN_9 hw
      by_cases hw1 : w < 1
      · have e : rsN g L p k = (false, p + 1, 0, 0, 0) := by rw [e0, hw]; exact if_pos hw1
        rw [e]
        refine ⟨_, st2 (st_b (figure_e X1 h1 (by first | omega | (dsimp only; omega))) ?_), F1, h1, fun _ => ⟨h41, H1⟩, fun q => by cases q⟩
        rw [hw]
        exact st_f (nI_ge (b := 1) hw1 (by first | omega | (dsimp only; omega))) rfl
      have X2 : TXc (wr (wr mm 24 5 (nI (p + 1))) 24 5 (nI (p + 2))) z L g := X1.c (fun k j e => rd_wr_k (by first | omega | (dsimp only; omega)))
      have h2 : rd (wr (wr mm 24 5 (nI (p + 1))) 24 5 (nI (p + 2))) 24 5 = nI (p + 2) := rd_wr_s
      have h42 : rd (wr (wr mm 24 5 (nI (p + 1))) 24 5 (nI (p + 2))) 24 4 = nI k := by rw [rd_wr_j (by first | omega | (dsimp only; omega))]; exact h41
      have H2 : RdC (wr (wr mm 24 5 (nI (p + 1))) 24 5 (nI (p + 2))) k T := fun j hj => by rw [rd_wr_k (by first | omega | (dsimp only; omega)), rd_wr_k (by first | omega | (dsimp only; omega)), rd_wr_k (by first | omega | (dsimp only; omega))]; exact H1 j hj
      have F2 : Fr (fun k j => (k = 24 ∧ (j = 4 ∨ j = 5)) ∨ k = 26 ∨ k = 27 ∨ k = 28) mm (wr (wr mm 24 5 (nI (p + 1))) 24 5 (nI (p + 2))) := fr_wr F1 (Or.inl ⟨rfl, Or.inr rfl⟩)
      have st3 : ∀ {r : Option (Int32 × Mm)}, (if nI kd < 3 then (fX5_passesSuit_113 N 24 (nI kd) (nI w) (-9) (wr (wr mm 24 5 (nI (p + 1))) 24 5 (nI (p + 2)))) else (bd2 (fX5_figure N 24 z (wr (wr mm 24 5 (nI (p + 1))) 24 5 (nI (p + 2)))) fun x24 m25 => if nI kd = 5 then (if x24 < 0 then (some (0, m25)) else (if x24 < (rd m25 24 4) then (fX5_passesSuit_103 N 24 (nI kd) (nI w) x24 m25) else (some (0, m25)))) else (if (1 : Int32) ≤ x24 then (fX5_passesSuit_103 N 24 (nI kd) (nI w) x24 m25) else (some (0, m25))))) = r → fX5_passesSuit N 24 z mm = r := by
        intro r hr
        refine st2 (st_b (figure_e X1 h1 (by first | omega | (dsimp only; omega))) ?_)
        rw [hw]
        refine st_t (nI_le (show 1 ≤ w by omega) (by first | omega | (dsimp only; omega))) (st_n ?_)
        rw [h1, nI_1]
        exact hr
      by_cases hk3 : kd < 3
      · have e : rsN g L p k = (true, p + 2, kd, w, 0) := by rw [e0, hw]; dsimp only; rw [if_neg hw1, if_pos hk3]
        rw [e]
        obtain ⟨m', c1, c2, c3, c4, c5⟩ := fin (p + 2) w 0 _ w9 F2 h2 h42 H2
        rw [show gI kd 0 = -9 by unfold gI; exact if_pos (by first | omega | (dsimp only; omega))] at c1
        exact ⟨m', st3 (st_t (nI_lt hk3 (by first | omega | (dsimp only; omega))) c1), c2, c3, (fun q => by cases q), fun _ => ⟨c4, c5⟩⟩
      have go3 : ∀ q f, f ≤ 9 → q = p + 3 → ∃ m', fX5_passesSuit_103 N 24 (nI kd) (nI w) (nI f) (wr (wr mm 24 5 (nI (p + 1))) 24 5 (nI (p + 2))) = some (bI true, m') ∧ Fr (fun k j => (k = 24 ∧ (j = 4 ∨ j = 5)) ∨ k = 26 ∨ k = 27 ∨ k = 28) mm m' ∧ rd m' 24 5 = nI q ∧ rd m' 24 4 = nI (k + 1) ∧ RdC m' (k + 1) (fun j => if j = k then (kd, w, f) else T j) := by
        intro q f hf hq
        subst hq
        obtain ⟨m', c1, c2⟩ := fin (p + 3) w f (wr (wr (wr mm 24 5 (nI (p + 1))) 24 5 (nI (p + 2))) 24 5 (nI (p + 3))) w9 (fr_wr F2 (Or.inl ⟨rfl, Or.inr rfl⟩)) rd_wr_s (by rw [rd_wr_j (by first | omega | (dsimp only; omega))]; exact h42) (fun j hj => by rw [rd_wr_k (by first | omega | (dsimp only; omega)), rd_wr_k (by first | omega | (dsimp only; omega)), rd_wr_k (by first | omega | (dsimp only; omega))]; exact H2 j hj)
        rw [show gI kd f = nI f by unfold gI; exact if_neg (by first | omega | (dsimp only; omega))] at c1
        refine ⟨m', ?_, c2⟩
        unfold fX5_passesSuit_103
        refine st_n ?_
        rw [h2, nI_1]
        exact c1
      have n3 : ¬ nI kd < 3 := nI_nlt (b := 3) (by first | omega | (dsimp only; omega)) (by first | omega | (dsimp only; omega))
      have hfe := figure_e (N := N) X2 h2 (by first | omega | (dsimp only; omega))
      cases hf : fgN g L (p + 2) with
      | none =>
        have e : rsN g L p k = (false, p + 2, 0, 0, 0) := by rw [e0, hw]; dsimp only; rw [if_neg hw1, if_neg hk3, hf]
        rw [e]
        rw [hf] at hfe
        refine ⟨_, st3 (st_f n3 (st_b hfe ?_)), F2, h2, fun _ => ⟨h42, H2⟩, fun q => by cases q⟩
        by_cases h5 : kd = 5
        · exact st_t (by rw [h5]; rfl) (st_t (by decide) rfl)
        · exact st_f (nw_ne (v := 5) h5 (by first | omega | (dsimp only; omega)) (by first | omega | (dsimp only; omega))) (st_f (by decide) rfl)
      | some f =>
        obtain ⟨f9, -, -⟩ := fgN_9 hf
        rw [hf] at hfe
        by_cases h5 : kd = 5
        · by_cases hfk : f < k
          · have e : rsN g L p k = (true, p + 3, kd, w, f) := by rw [e0, hw]; dsimp only; rw [if_neg hw1, if_neg hk3, hf]; dsimp only; rw [if_pos h5, if_pos hfk]
            rw [e]
            obtain ⟨m', c1, c2, c3, c4, c5⟩ := go3 (p + 3) f f9 rfl
            exact ⟨m', st3 (st_f n3 (st_b hfe (st_t (by rw [h5]; rfl) (st_f (nI_pos (by first | omega | (dsimp only; omega))) (st_t (by rw [h42]; exact nI_lt hfk (by first | omega | (dsimp only; omega))) c1))))), c2, c3, (fun q => by cases q), fun _ => ⟨c4, c5⟩⟩
          · have e : rsN g L p k = (false, p + 2, 0, 0, 0) := by rw [e0, hw]; dsimp only; rw [if_neg hw1, if_neg hk3, hf]; dsimp only; rw [if_pos h5, if_neg hfk]
            rw [e]
            exact ⟨_, st3 (st_f n3 (st_b hfe (st_t (by rw [h5]; rfl) (st_f (nI_pos (by first | omega | (dsimp only; omega))) (st_f (by rw [h42]; exact nI_nlt (by first | omega | (dsimp only; omega)) (by first | omega | (dsimp only; omega))) rfl))))), F2, h2, fun _ => ⟨h42, H2⟩, fun q => by cases q⟩
        · by_cases hf1 : f < 1
          · have e : rsN g L p k = (false, p + 2, 0, 0, 0) := by rw [e0, hw]; dsimp only; rw [if_neg hw1, if_neg hk3, hf]; dsimp only; rw [if_neg h5, if_pos hf1]
            rw [e]
            exact ⟨_, st3 (st_f n3 (st_b hfe (st_f (nw_ne (v := 5) h5 (by first | omega | (dsimp only; omega)) (by first | omega | (dsimp only; omega))) (st_f (nI_ge (b := 1) hf1 (by first | omega | (dsimp only; omega))) rfl)))), F2, h2, fun _ => ⟨h42, H2⟩, fun q => by cases q⟩
          · have e : rsN g L p k = (true, p + 3, kd, w, f) := by rw [e0, hw]; dsimp only; rw [if_neg hw1, if_neg hk3, hf]; dsimp only; rw [if_neg h5, if_neg hf1]
            rw [e]
            obtain ⟨m', c1, c2, c3, c4, c5⟩ := go3 (p + 3) f f9 rfl
            exact ⟨m', st3 (st_f n3 (st_b hfe (st_f (nw_ne (v := 5) h5 (by first | omega | (dsimp only; omega)) (by first | omega | (dsimp only; omega))) (st_t (nI_le (show 1 ≤ f by omega) (by first | omega | (dsimp only; omega))) c1)))), c2, c3, (fun q => by cases q), fun _ => ⟨c4, c5⟩⟩
end Rd2
