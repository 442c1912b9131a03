/-! pure: a court's text, the model's suits -/
theorem fg_19 : ∀ v, v < 10 → fgB (some v) 1 9 = decide (¬ v < 1) := by decide
theorem fg_0k : ∀ k, k < 7 → ∀ v, v < 10 → fgB (some v) 0 (nI k - 1) = decide (v < k) := by decide
section Rms
variable {N t L : Nat} {g : Nat → Int32}
def RdM (mm : Mm) (k : Nat) (T : Nat → Nat × Nat × Nat) : Prop := ∀ j, j < k → rd mm 182 (18 + 3 * j) = nI (T j).1 ∧ rd mm 182 (18 + 3 * j + 1) = nI (T j).2.1 ∧ rd mm 182 (18 + 3 * j + 2) = gI (T j).1 (T j).2.2
theorem RdM.c {mm m2 : Mm} {k : Nat} {T : Nat → Nat × Nat × Nat} (h : RdM mm k T) (e : ∀ j, 18 ≤ j → j < 18 + 3 * k → rd m2 182 j = rd mm 182 j) : RdM m2 k T := fun j hj => by
  rw [e _ (by first | omega | (dsimp only; omega)) (by first | omega | (dsimp only; omega)), e _ (by first | omega | (dsimp only; omega)) (by first | omega | (dsimp only; omega)), e _ (by first | omega | (dsimp only; omega)) (by first | omega | (dsimp only; omega))]; exact h j hj
def FrM (k j : Nat) : Prop := (k = 175 ∧ (j = 14 ∨ j = 15 ∨ j = 16)) ∨ (k = 182 ∧ 18 ≤ j)
theorem msuit_e {p k : Nat} {T : Nat → Nat × Nat × Nat} {mm : Mm} (X : TXm mm t L g) (h : rd mm 175 14 = nI p) (h4 : rd mm 175 16 = nI k) (hk : k ≤ 6) (hp : p < L) (H : RdM mm k T) : ∃ m', fX12_readsSuit N 175 (nI t) mm = some (bI (rsN g L p k).1, m') ∧ Fr FrM mm m' ∧ rd m' 175 14 = nI (rsN g L p k).2.1 ∧ ((rsN g L p k).1 = true → rd m' 175 16 = nI (k + 1) ∧ RdM m' (k + 1) (fun j => if j = k then (rsN g L p k).2.2 else T j)) := by
  have hL := X.1
  have hh := here_e (N := N) X h (by first | omega | (dsimp only; omega))
  rw [if_pos hp] at hh
  cases hkd : kdN (g p) with
  | none =>
    have e : rsN g L p k = (false, p, 0, 0, 0) := by unfold rsN; rw [hkd]
    rw [e]
    refine ⟨mm, ?_, Fr.rf, h, fun q => by cases q⟩
    unfold fX12_readsSuit
    refine st_b hh (st_b mkind_e ?_)
    rw [hkd]
    exact st_t rfl rfl
  | some kd =>
    have kd5 := kdN_5 hkd
    have hne : nI kd ≠ -9 := neg9_ne (by first | omega | (dsimp only; omega))
    by_cases hk6 : k < 6
    rotate_left
    · have e : rsN g L p k = (false, p, 0, 0, 0) := by unfold rsN; rw [hkd]; exact if_neg hk6
      rw [e]
      refine ⟨mm, ?_, Fr.rf, h, fun q => by cases q⟩
      unfold fX12_readsSuit
      refine st_b hh (st_b mkind_e ?_)
      rw [hkd]
      exact st_f hne (st_t (by rw [h4, show k = 6 by omega]; rfl) rfl)
    have e0 : rsN g L p k = (match fgN g L (p + 1) with
      | none => (false, p + 1, 0, 0, 0)
      | some w => if w < 1 then (false, p + 1, 0, 0, 0) else if kd < 3 then (true, p + 2, kd, w, 0) else match fgN g L (p + 2) with
        | none => (false, p + 2, 0, 0, 0)
        | some f => if kd = 5 then (if f < k then (true, p + 3, kd, w, f) else (false, p + 2, 0, 0, 0)) else if f < 1 then (false, p + 2, 0, 0, 0) else (true, p + 3, kd, w, f)) := by
      unfold rsN; rw [hkd]; exact if_pos hk6
    -- ahead of the worth
    have F1 : Fr FrM mm (wr (wr mm 175 14 (nI (p + 1))) 182 (18 + 3 * k) (nI kd)) := fr_wr (fr_wr Fr.rf (Or.inl ⟨rfl, Or.inl rfl⟩)) (Or.inr ⟨rfl, by omega⟩)
    have X1 : TXm (wr (wr mm 175 14 (nI (p + 1))) 182 (18 + 3 * k) (nI kd)) t L g := X.c (fun k j e => by rw [rd_wr_k (by first | omega | (dsimp only; omega)), rd_wr_k (by first | omega | (dsimp only; omega))])
    have h1 : rd (wr (wr mm 175 14 (nI (p + 1))) 182 (18 + 3 * k) (nI kd)) 175 14 = nI (p + 1) := by rw [rd_wr_k (by first | omega | (dsimp only; omega)), rd_wr_s]
    obtain ⟨m2, c2, f2, g2, v2⟩ := mfigure_e (N := N) (p := p + 1) (lo := 1) (hi := 9) (by decide) (by decide) X1 h1 (by first | omega | (dsimp only; omega))
    have F2 : Fr FrM mm m2 := F1.tr (f2.mono (fun k j e => by unfold FrM; omega))
    have pre : ∀ {r : Option (Int32 × Mm)}, (if bI (fgB (fgN g L (p + 1)) 1 9) = 0 then (some (0, m2)) else (gd (inb (nI (18 + 3 * k + 1)) (ln 182)) <| nm (wr m2 182 (18 + 3 * k + 1) (rd m2 175 15)) fun m25 => gd (inb (nI (18 + 3 * k + 2)) (ln 182)) <| nm (wr m25 182 (18 + 3 * k + 2) (-9)) fun m27 => if nI kd < 3 then (fX12_readsSuit_141 N 175 m27) else (if nI kd = 5 then (fX12_readsSuit_105 N 175 (nI kd) (nI (18 + 3 * k)) 175 (nI t) 0 m27) else (fX12_readsSuit_105 N 175 (nI kd) (nI (18 + 3 * k)) 175 (nI t) 1 m27)))) = r → fX12_readsSuit N 175 (nI t) mm = r := by
      intro r hr
      unfold fX12_readsSuit
      refine st_b hh (st_b mkind_e ?_)
      rw [hkd]
      have h16 : rd (wr mm 175 14 (nI (p + 1))) 175 16 = nI k := by rw [rd_wr_j (by first | omega | (dsimp only; omega))]; exact h4
      have eb : (18 : Int32) + 3 * nI k = nI (18 + 3 * k) := by rw [show (18 : Int32) = nI 18 from rfl, show (3 : Int32) = nI 3 from rfl, nI_mul, nI_add]
      refine st_f hne (st_f (by rw [h4]; exact nw_ne (v := 6) (by first | omega | (dsimp only; omega)) (by first | omega | (dsimp only; omega)) (by first | omega | (dsimp only; omega))) (st_n ?_))
      rw [h, nI_1, h16, show (oV (-9) (some kd)) = nI kd from rfl]
      rw [eb, show nI (18 + 3 * k) + 1 = nI (18 + 3 * k + 1) from nI_1 _, show nI (18 + 3 * k) + 2 = nI (18 + 3 * k + 2) from nI_add _ _]
      simp only [LXm, nI_nat (show 18 + 3 * k < 2147483648 by omega), nI_nat (show 18 + 3 * k + 1 < 2147483648 by omega), nI_nat (show 18 + 3 * k + 2 < 2147483648 by omega)]
      refine st_k rfl (show 18 + 3 * k < 36 by omega) (by first | omega | (dsimp only; omega)) (st_n (st_b c2 ?_))
      exact hr
    cases hw : fgN g L (p + 1) with
    | none =>
      have e : rsN g L p k = (false, p + 1, 0, 0, 0) := by rw [e0, hw]
      rw [hw] at pre g2
      rw [e]
      exact ⟨m2, pre (st_t rfl rfl), F2, g2, fun q => by cases q⟩
    | some w =>
      obtain ⟨w9, wl, -⟩ := fgN_9 hw
      have e19 := fg_19 w (by first | omega | (dsimp only; omega))
      rw [hw] at pre g2
      by_cases hw1 : w < 1
      · have e : rsN g L p k = (false, p + 1, 0, 0, 0) := by rw [e0, hw]; exact if_pos hw1
        rw [decide_eq_false (fun q => q hw1)] at e19
        rw [e19] at pre g2
        rw [e]
        exact ⟨m2, pre (st_t rfl rfl), F2, g2, fun q => by cases q⟩
      rw [decide_eq_true hw1] at e19
      rw [e19] at pre g2
      rw [if_pos rfl] at g2
      have hv := v2 w hw
      have h162 : rd m2 175 16 = nI k := by rw [f2.2 _ _ (by first | omega | (dsimp only; omega)), rd_wr_k (by first | omega | (dsimp only; omega)), rd_wr_j (by first | omega | (dsimp only; omega))]; exact h4
      have hkdm : rd m2 182 (18 + 3 * k) = nI kd := by rw [f2.2 _ _ (by first | omega | (dsimp only; omega)), rd_wr_s]
      have H2 : RdM m2 k T := H.c (fun j h1 h2 => by rw [f2.2 _ _ (by first | omega | (dsimp only; omega)), rd_wr_j (by first | omega | (dsimp only; omega)), rd_wr_k (by first | omega | (dsimp only; omega))])
      have F3 : Fr FrM mm (wr (wr m2 182 (18 + 3 * k + 1) (nI w)) 182 (18 + 3 * k + 2) (-9)) := fr_wr (fr_wr F2 (Or.inr ⟨rfl, by omega⟩)) (Or.inr ⟨rfl, by omega⟩)
      have pre2 : ∀ {r : Option (Int32 × Mm)}, (if nI kd < 3 then (fX12_readsSuit_141 N 175 (wr (wr m2 182 (18 + 3 * k + 1) (nI w)) 182 (18 + 3 * k + 2) (-9))) else (if nI kd = 5 then (fX12_readsSuit_105 N 175 (nI kd) (nI (18 + 3 * k)) 175 (nI t) 0 (wr (wr m2 182 (18 + 3 * k + 1) (nI w)) 182 (18 + 3 * k + 2) (-9))) else (fX12_readsSuit_105 N 175 (nI kd) (nI (18 + 3 * k)) 175 (nI t) 1 (wr (wr m2 182 (18 + 3 * k + 1) (nI w)) 182 (18 + 3 * k + 2) (-9))))) = r → fX12_readsSuit N 175 (nI t) mm = r := by
        intro r hr
        refine pre (st_f (by decide) (st_k (L := 36) rfl (by first | omega | (dsimp only; omega)) (by first | omega | (dsimp only; omega)) (st_n (st_k (L := 36) rfl (by first | omega | (dsimp only; omega)) (by first | omega | (dsimp only; omega)) (st_n ?_)))))
        rw [hv]; exact hr
      generalize hm3 : wr (wr m2 182 (18 + 3 * k + 1) (nI w)) 182 (18 + 3 * k + 2) (-9) = m3 at pre2 F3
      have X3 : TXm m3 t L g := X.c (fun k j e => F3.2 _ _ (by unfold FrM; omega))
      have h143 : rd m3 175 14 = nI (p + 2) := by rw [← hm3, rd_wr_k (by first | omega | (dsimp only; omega)), rd_wr_k (by first | omega | (dsimp only; omega))]; exact g2
      have h163 : rd m3 175 16 = nI k := by rw [← hm3, rd_wr_k (by first | omega | (dsimp only; omega)), rd_wr_k (by first | omega | (dsimp only; omega))]; exact h162
      have hT : rd m3 182 (18 + 3 * k) = nI kd ∧ rd m3 182 (18 + 3 * k + 1) = nI w ∧ rd m3 182 (18 + 3 * k + 2) = -9 := by
        refine ⟨?_, ?_, ?_⟩
        · rw [← hm3, rd_wr_j (by first | omega | (dsimp only; omega)), rd_wr_j (by first | omega | (dsimp only; omega))]; exact hkdm
        · rw [← hm3, rd_wr_j (by first | omega | (dsimp only; omega)), rd_wr_s]
        · rw [← hm3, rd_wr_s]
      have H3 : RdM m3 k T := H2.c (fun j h1 h2 => by rw [← hm3, rd_wr_j (by first | omega | (dsimp only; omega)), rd_wr_j (by first | omega | (dsimp only; omega))])
      have F3' : Fr FrM mm m3 := F3
      -- the end of a suit
      have fin : ∀ (f : Nat) (m4 : Mm), (∀ j, rd m4 182 j = if j = 18 + 3 * k + 2 then gI kd f else rd m3 182 j) → rd m4 175 16 = nI k → fX12_readsSuit_141 N 175 m4 = some (bI true, wr m4 175 16 (nI (k + 1))) ∧ RdM (wr m4 175 16 (nI (k + 1))) (k + 1) (fun j => if j = k then (kd, w, f) else T j) := by
        intro f m4 h182 h16
        refine ⟨?_, fun j hj => ?_⟩
        · unfold fX12_readsSuit_141
          refine st_n ?_
          rw [h16, nI_1]; rfl
        · rw [rd_wr_k (by first | omega | (dsimp only; omega)), rd_wr_k (by first | omega | (dsimp only; omega)), rd_wr_k (by first | omega | (dsimp only; omega)), h182, h182, h182]
          dsimp only
          have t1 : (if 18 + 3 * j = 18 + 3 * k + 2 then gI kd f else rd m3 182 (18 + 3 * j)) = rd m3 182 (18 + 3 * j) := if_neg (by first | omega | (dsimp only; omega))
          have t2 : (if 18 + 3 * j + 1 = 18 + 3 * k + 2 then gI kd f else rd m3 182 (18 + 3 * j + 1)) = rd m3 182 (18 + 3 * j + 1) := if_neg (by first | omega | (dsimp only; omega))
          rw [t1, t2]
          by_cases hjk : j = k
          · have t3 : (if 18 + 3 * j + 2 = 18 + 3 * k + 2 then gI kd f else rd m3 182 (18 + 3 * j + 2)) = gI kd f := if_pos (by first | omega | (dsimp only; omega))
            rw [t3, if_pos hjk, hjk]
            exact ⟨hT.1, hT.2.1, rfl⟩
          · have t3 : (if 18 + 3 * j + 2 = 18 + 3 * k + 2 then gI kd f else rd m3 182 (18 + 3 * j + 2)) = rd m3 182 (18 + 3 * j + 2) := if_neg (by first | omega | (dsimp only; omega))
            rw [t3, if_neg hjk]
            exact H3 j (by first | omega | (dsimp only; omega))
      by_cases hk3 : kd < 3
      · have e : rsN g L p k = (true, p + 2, kd, w, 0) := by rw [e0, hw]; dsimp only; rw [if_neg hw1, if_pos hk3]
        rw [e]
        obtain ⟨z1, z2⟩ := fin 0 m3 (fun j => by
          by_cases hj : j = 18 + 3 * k + 2
          · rw [if_pos hj, hj, hT.2.2, show gI kd 0 = -9 by unfold gI; exact if_pos (by first | omega | (dsimp only; omega))]
          · rw [if_neg hj]) h163
        exact ⟨_, pre2 (st_t (nI_lt hk3 (by first | omega | (dsimp only; omega))) z1), fr_wr F3' (Or.inl ⟨rfl, Or.inr (Or.inr rfl)⟩), by rw [rd_wr_j (by first | omega | (dsimp only; omega))]; exact h143, fun _ => ⟨rd_wr_s, z2⟩⟩
      have n3 : ¬ nI kd < 3 := nI_nlt (b := 3) (by first | omega | (dsimp only; omega)) (by first | omega | (dsimp only; omega))
      have hgf : ∀ f, gI kd f = nI f := fun f => by unfold gI; exact if_neg (by first | omega | (dsimp only; omega))
      -- the figure behind
      have go : ∀ lo hi : Int32, 0 ≤ lo.toInt → hi.toInt ≤ 9 → ∃ m', fX12_readsSuit_121 N 175 (nI (18 + 3 * k)) 175 (nI t) lo hi m3 = some (bI (fgB (fgN g L (p + 2)) lo hi), m') ∧ Fr FrM mm m' ∧ rd m' 175 14 = nI (if fgB (fgN g L (p + 2)) lo hi = true then p + 3 else p + 2) ∧ ∀ f, fgN g L (p + 2) = some f → fgB (fgN g L (p + 2)) lo hi = true → rd m' 175 16 = nI (k + 1) ∧ RdM m' (k + 1) (fun j => if j = k then (kd, w, f) else T j) := by
        intro lo hi hlo hhi
        obtain ⟨m4, c4, f4, g4, v4⟩ := mfigure_e (N := N) (p := p + 2) hlo hhi X3 h143 (by first | omega | (dsimp only; omega))
        have F4 : Fr FrM mm m4 := F3'.tr (f4.mono (fun k j e => by unfold FrM; omega))
        have h164 : rd m4 175 16 = nI k := by rw [f4.2 _ _ (by first | omega | (dsimp only; omega))]; exact h163
        unfold fX12_readsSuit_121
        rw [show nI (18 + 3 * k) + 2 = nI (18 + 3 * k + 2) from nI_add _ _]
        simp only [LXm, nI_nat (show 18 + 3 * k + 2 < 2147483648 by omega)]
        cases hb : fgB (fgN g L (p + 2)) lo hi
        · rw [hb] at c4 g4
          exact ⟨m4, st_b c4 (st_t rfl rfl), F4, g4, fun f _ q => by cases q⟩
        · rw [hb] at c4 g4
          cases hf : fgN g L (p + 2) with
          | none => rw [hf] at hb; cases hb
          | some f =>
            obtain ⟨z1, z2⟩ := fin f (wr m4 182 (18 + 3 * k + 2) (nI f)) (fun j => by
              by_cases hj : j = 18 + 3 * k + 2
              · rw [if_pos hj, hj, rd_wr_s, hgf]
              · rw [if_neg hj, rd_wr_j hj, f4.2 _ _ (by first | omega | (dsimp only; omega))]) (by rw [rd_wr_k (by first | omega | (dsimp only; omega))]; exact h164)
            refine ⟨wr (wr m4 182 (18 + 3 * k + 2) (nI f)) 175 16 (nI (k + 1)), st_b c4 (st_f (by decide) (st_k rfl (show 18 + 3 * k + 2 < 36 by omega) (by first | omega | (dsimp only; omega)) (st_n ?_))), fr_wr (fr_wr F4 (Or.inr ⟨rfl, (show 18 ≤ 18 + 3 * k + 2 by omega)⟩)) (Or.inl ⟨rfl, Or.inr (Or.inr rfl)⟩), ?_, fun f' hf' _ => ?_⟩
            · rw [v4 f hf]; exact z1
            · rw [rd_wr_j (by first | omega | (dsimp only; omega)), rd_wr_k (by first | omega | (dsimp only; omega))]; exact g4
            · cases hf'
              exact ⟨rd_wr_s, z2⟩
      by_cases h5 : kd = 5
      · obtain ⟨m', c5, f5, g5, v5⟩ := go 0 (nI k - 1) (by decide) (by
          have e1 : (1 : Int32).toInt = 1 := rfl
          rw [i_sub _ _ (by rw [nI_toInt (by first | omega | (dsimp only; omega)), e1]; omega) (by rw [nI_toInt (by first | omega | (dsimp only; omega)), e1]; omega), nI_toInt (by first | omega | (dsimp only; omega)), e1]; omega)
        have c5' : fX12_readsSuit_105 N 175 (nI kd) (nI (18 + 3 * k)) 175 (nI t) 0 m3 = some (bI (fgB (fgN g L (p + 2)) 0 (nI k - 1)), m') := by
          unfold fX12_readsSuit_105
          refine st_t (by rw [h5]; rfl) ?_
          rw [h163]; exact c5
        have n5 : nI kd = 5 := by rw [h5]; rfl
        cases hf : fgN g L (p + 2) with
        | none =>
          have e : rsN g L p k = (false, p + 2, 0, 0, 0) := by rw [e0, hw]; dsimp only; rw [if_neg hw1, if_neg hk3, hf]
          rw [hf] at c5' g5
          rw [e]
          exact ⟨m', pre2 (st_f n3 (st_t n5 c5')), f5, g5, fun q => by cases q⟩
        | some f =>
          obtain ⟨f9, -, -⟩ := fgN_9 hf
          have ek := fg_0k k (by first | omega | (dsimp only; omega)) f (by first | omega | (dsimp only; omega))
          by_cases hfk : f < k
          · have e : rsN g L p k = (true, p + 3, kd, w, f) := by rw [e0, hw]; dsimp only; rw [if_neg hw1, if_neg hk3, hf]; dsimp only; rw [if_pos h5, if_pos hfk]
            rw [decide_eq_true hfk] at ek
            rw [hf, ek] at c5' g5
            rw [e]
            exact ⟨m', pre2 (st_f n3 (st_t n5 c5')), f5, g5, fun _ => v5 f hf (by rw [hf]; exact ek)⟩
          · have e : rsN g L p k = (false, p + 2, 0, 0, 0) := by rw [e0, hw]; dsimp only; rw [if_neg hw1, if_neg hk3, hf]; dsimp only; rw [if_pos h5, if_neg hfk]
            rw [decide_eq_false hfk] at ek
            rw [hf, ek] at c5' g5
            rw [e]
            exact ⟨m', pre2 (st_f n3 (st_t n5 c5')), f5, g5, fun q => by cases q⟩
      · obtain ⟨m', c5, f5, g5, v5⟩ := go 1 9 (by decide) (by decide)
        have n5 : nI kd ≠ 5 := nw_ne (v := 5) h5 (by first | omega | (dsimp only; omega)) (by first | omega | (dsimp only; omega))
        have c5' : fX12_readsSuit_105 N 175 (nI kd) (nI (18 + 3 * k)) 175 (nI t) 1 m3 = some (bI (fgB (fgN g L (p + 2)) 1 9), m') := by
          unfold fX12_readsSuit_105
          exact st_f n5 c5
        cases hf : fgN g L (p + 2) with
        | none =>
          have e : rsN g L p k = (false, p + 2, 0, 0, 0) := by rw [e0, hw]; dsimp only; rw [if_neg hw1, if_neg hk3, hf]
          rw [hf] at c5' g5
          rw [e]
          exact ⟨m', pre2 (st_f n3 (st_f n5 c5')), f5, g5, fun q => by cases q⟩
        | some f =>
          obtain ⟨f9, -, -⟩ := fgN_9 hf
          have ek := fg_19 f (by first | omega | (dsimp only; omega))
          by_cases hf1 : f < 1
          · have e : rsN g L p k = (false, p + 2, 0, 0, 0) := by rw [e0, hw]; dsimp only; rw [if_neg hw1, if_neg hk3, hf]; dsimp only; rw [if_neg h5, if_pos hf1]
            rw [decide_eq_false (fun q => q hf1)] at ek
            rw [hf, ek] at c5' g5
            rw [e]
            exact ⟨m', pre2 (st_f n3 (st_f n5 c5')), f5, g5, fun q => by cases q⟩
          · have e : rsN g L p k = (true, p + 3, kd, w, f) := by rw [e0, hw]; dsimp only; rw [if_neg hw1, if_neg hk3, hf]; dsimp only; rw [if_neg h5, if_neg hf1]
            rw [decide_eq_true hf1] at ek
            rw [hf, ek] at c5' g5
            rw [e]
            exact ⟨m', pre2 (st_f n3 (st_f n5 c5')), f5, g5, fun _ => v5 f hf (by rw [hf]; exact ek)⟩
end Rms
