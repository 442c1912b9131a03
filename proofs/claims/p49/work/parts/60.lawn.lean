/-! the law's last loop: three notes by a rule, then what the reader says -/
/-- cells that the notes' loop leaves -/
def Pu (k j : Nat) : Prop := (3 ≤ k ∧ k ≤ 22) ∨ (k = 175 ∧ j = 18) ∨ (k = 115 ∧ (j = 7 ∨ j = 8)) ∨ k = 118
/-- what stands in the notes' loop -/
def LJ (mm : Mm) (n d s t en : Nat) (K W F len : Nat → Nat) (Y : Nat → Nat → Nat) (Z : Nat → Nat) : Prop := KD mm n d s t K W F len ∧ RA mm ∧ rd mm 175 18 = nI s ∧ KP mm ∧ NTs mm n en Y Z
section Lj
variable {N n d s t en o L f : Nat} {xs : Nat → Int32} {K W F len x y : Nat → Nat} {Y : Nat → Nat → Nat} {Z : Nat → Nat} {mm m2 : Mm} {S : Nat → Nat → Prop}
theorem LJ.st (h : LJ mm n d s t en K W F len Y Z) (f : Fi S mm m2) (hS : ∀ k j, S k j → ¬ Pu k j) (hA : RA m2) : LJ m2 n d s t en K W F len Y Z := by
  have e : ∀ k j, Pu k j → rd m2 k j = rd mm k j := fun k j hp => f k j (fun q => hS k j q hp)
  unfold Pu at e
  obtain ⟨h1, h2, h5, h6, h7⟩ := h
  exact ⟨h1.c (fun k j q => e _ _ (by first | omega | (dsimp only; omega))), hA, by rw [e _ _ (by first | omega | (dsimp only; omega))]; exact h5, h6.c (fun k j q => e _ _ (by first | omega | (dsimp only; omega))), h7.c (fun k j q => e _ _ (by first | omega | (dsimp only; omega)))⟩
theorem KD.su (B : KB n d s t len) (D : KD mm n d s t K W F len) : SuN n K W F := ⟨B.1, B.2.1, fun i hi => (D.1.2.2 i hi).2⟩
theorem smN_add {g : Nat → Nat} {c o : Nat} : ∀ n, smN (fun i => g i + (if o = 1 ∧ i = 0 then c else 0)) n = smN g n + (if o = 1 ∧ 0 < n then c else 0)
  | 0 => by
    rw [if_neg (by first | omega | (dsimp only; omega))]
    rfl
  | n + 1 => by
    show smN (fun i => g i + (if o = 1 ∧ i = 0 then c else 0)) n + (g n + (if o = 1 ∧ n = 0 then c else 0)) = smN g n + g n + _
    rw [smN_add n]
    by_cases h1 : o = 1
    · by_cases h0 : n = 0
      · rw [if_neg (by first | omega | (dsimp only; omega)), if_pos ⟨h1, h0⟩, if_pos ⟨h1, by omega⟩]; omega
      · rw [if_pos ⟨h1, by omega⟩, if_neg (by first | omega | (dsimp only; omega)), if_pos ⟨h1, by omega⟩]; omega
    · rw [if_neg (by first | omega | (dsimp only; omega)), if_neg (by first | omega | (dsimp only; omega)), if_neg (by first | omega | (dsimp only; omega))]; omega
theorem rlA_lay (h0 : 0 < n) (hW : 0 < smN W n) (ht : t ≤ 8) : LayN n t (rlA W n t Y en o) := by
  refine ⟨fun i hi => by have := rlA_40 (t := t) (o := o) (Y := Y) (en := en) h0 hW ht i hi; omega, ?_⟩
  have h1 := rb_sum (W := W) (n := n) (t := t) (o := o) (y := yN Y en) h0 hW n (Nat.le_refl n)
  have e : smN (rlA W n t Y en o) n = smN (rbN W n t o (yN Y en)) n + (if o = 1 ∧ 0 < n then t - smN (rbN W n t o (yN Y en)) n else 0) := smN_add n
  rw [e]
  by_cases q : o = 1 ∧ 0 < n
  · rw [if_pos q]; omega
  · rw [if_neg q]; omega
/-- the suits that row 0 wins are gathered -/
theorem l1096 (hN : 100000 ≤ N) (B : KB n d s t len) {v : Int32} {a4 : Nat} {a25 : Int32} {k : Nat → Int32 → Nat → Nat → Int32 → Int32 → Mm → Option (Int32 × Mm)} : ∀ c i mm, i + c = n → LJ mm n d s t en K W F len Y Z → RX mm 0 n s x → RX mm 1 n t y → ∀ f, c < f → ∃ m2, Fr (fun k j => (29 ≤ k ∧ k ≤ 32) ∨ (k = 0 ∧ j = 14)) mm m2 ∧ RA m2 ∧ fL_law_1096 N L xs k f 0 (nI n) 175 a4 a25 v (nI (wsN (wn K F d x y) i)) (nI i) mm = bd2 (fX11_note N 0 0 (nI (wsN (wn K F d x y) n)) m2) fun x2 m3 => if x2 = v then (bd2 (fX11_rules N 0 m3) fun x6 m7 => if ((x6 >>> (a25 &&& 31)) &&& 1) = 1 then (k 0 (nI n) 175 a4 a25 (v + 1) m7) else (some (0, m7))) else (some (0, m3)) := by
  intro c
  induction c with
  | zero =>
    intro i mm hi J hx hy f hf
    obtain ⟨f, rfl⟩ : ∃ q, f = q + 1 := ⟨f - 1, by omega⟩
    obtain rfl : i = n := by omega
    refine ⟨mm, Fr.rf, J.2.1, ?_⟩
    unfold fL_law_1096
    have := B.2.1
    exact st_t (nI_le (by first | omega | (dsimp only; omega)) (by first | omega | (dsimp only; omega))) rfl
  | succ c ih =>
    intro i mm hi J hx hy f hf
    obtain ⟨f, rfl⟩ : ∃ q, f = q + 1 := ⟨f - 1, by omega⟩
    have hin : i < n := by omega
    have hn4 := B.2.1
    obtain ⟨m1, c1, f1, a1⟩ := who_e (N := N) (r := 0) (q := 1) hN B J.1 J.2.1 (by first | omega | (dsimp only; omega)) (by first | omega | (dsimp only; omega)) hin hx hy
    have J1 : LJ m1 n d s t en K W F len Y Z := J.st f1.i (fun k j q => by unfold Pu; first | omega | (dsimp only; omega)) a1
    obtain ⟨m2, f2, a2, c2⟩ := ih (i + 1) m1 (by first | omega | (dsimp only; omega)) J1 (hx.c (fun k j q => f1.2 _ _ (by first | omega | (dsimp only; omega)))) (hy.c (fun k j q => f1.2 _ _ (by first | omega | (dsimp only; omega)))) f (by first | omega | (dsimp only; omega))
    refine ⟨m2, f1.tr f2, a2, ?_⟩
    have hw2 : wn K F d x y i ≤ 2 := wn_2
    have hlt : wsN (wn K F d x y) i < 2 ^ i := mkN_lt i
    unfold fL_law_1096
    refine st_f (nI_ge hin (by first | omega | (dsimp only; omega))) (st_b c1 ?_)
    rw [wsN_S] at c2
    by_cases h0 : wn K F d x y i = 0
    · rw [if_pos h0] at c2
      refine st_t (by rw [h0]; rfl) ?_
      unfold fL_law_1123
      rw [or_6 i (by first | omega | (dsimp only; omega)) _ hlt, nI_1]
      exact c2
    · rw [if_neg h0] at c2
      refine st_f ?_ ?_
      · by_cases h2 : wn K F d x y i = 2
        · rw [if_pos h2]; decide
        · rw [if_neg h2]; exact nI_ne0 (by first | omega | (dsimp only; omega)) (by first | omega | (dsimp only; omega))
      · unfold fL_law_1123
        rw [Int32.or_zero, nI_1]
        exact c2
theorem l1048 (hN : 100000 ≤ N) (hL : L ≤ 260) (B : KB n d s t len) (ho : o < 6) : ∀ c en Y Z mm, en + c = 3 → LJ mm n d s t en K W F len Y Z → FT n d t en o K W F Y Z → ∀ f, c < f → ∃ m', fL_law_1048 N L xs f 0 (nI n) 175 177 (nI o) (nI en) mm = some (1, m') := by
  intro c
  induction c with
  | zero =>
    intro en Y Z mm hen J hF f hf
    obtain ⟨f, rfl⟩ : ∃ q, f = q + 1 := ⟨f - 1, by omega⟩
    obtain rfl : en = 3 := by omega
    obtain ⟨b1, b2, b3, b4, b5, b6⟩ := id B
    have hu := KD.su B J.1
    have hW := CS_w J.1.1 b1
    obtain ⟨q, q1, q2, q3, q4⟩ := FT_first ho hF
    obtain ⟨b, hb, hb2, hb3⟩ := bst_x (n := n) (K := K) (W := W) (F := F) (z := rlA W n t Y 3 q) (d := d) (s := s)
    obtain ⟨o1, o2, o3⟩ := best_own hu hb2
    have hb108 : b.1 ≤ 108 := by rw [o1]; exact scr_b hu.w (by first | omega | (dsimp only; omega))
    obtain ⟨m1, c1, f1, a1, d1, e1, g1⟩ := reply_e (N := N) (r := 2) hN B J.1 J.2.1 J.2.2.2.2 (by first | omega | (dsimp only; omega)) q1 q3 q4 hb
    have J1 : LJ m1 n d s t 3 K W F len Y Z := J.st f1.i (fun k j q => by unfold Pu; first | omega | (dsimp only; omega)) a1
    obtain ⟨m2, v, c2, v2, f2, e2, g2⟩ := rule_e (N := N) (r := 1) hN B J1.1 J1.2.2.2.2 q1 (by first | omega | (dsimp only; omega))
    have J2 : LJ m2 n d s t 3 K W F len Y Z := J1.st f2.i (fun k j q => by unfold Pu; first | omega | (dsimp only; omega)) (RA_c a1 (fun k q => f2.2 _ _ (by first | omega | (dsimp only; omega))))
    have hx : RX m2 2 n s b.2.2 := ⟨by rw [f2.2 _ _ (by first | omega | (dsimp only; omega))]; exact e1, g1.c (fun i _ => f2.2 _ _ (by first | omega | (dsimp only; omega))), o3.1, o3.2⟩
    have hly := rlA_lay (W := W) (t := t) (Y := Y) (en := 3) (o := q) (show 0 < n by omega) hW b5
    have hy : RX m2 1 n t (rlA W n t Y 3 q) := ⟨e2, g2, hly.1, hly.2⟩
    obtain ⟨m3, c3, f3, d3, a3⟩ := judge_e (N := N) (r := 2) (q := 1) hN B J2.1 J2.2.1 (by first | omega | (dsimp only; omega)) (by first | omega | (dsimp only; omega)) hx hy
    have J3 : LJ m3 n d s t 3 K W F len Y Z := J2.st f3.i (fun k j q => by unfold Pu; first | omega | (dsimp only; omega)) a3
    obtain ⟨p, hp, p1, p6⟩ := tell_b (n := n) (d := d) (s := s) (t := t) (K := K) (W := W) (F := F) b4 b2 ho hF
    obtain ⟨m4, c4, f4⟩ := tell_e (N := N) (q := 2) hN B J3.1 a3 J3.2.2.2.2 (by first | omega | (dsimp only; omega)) hp
    have hK : KP m4 := J3.2.2.2.1.c (fun k j q => f4.2 _ _ (by first | omega | (dsimp only; omega)))
    obtain ⟨m5, c5, d5, e5⟩ := on_e (N := N) hN hK
    have c6 := count4_e (N := N) d5
    have c7 := lender_e (N := N) (l := 0) (v := 0) (mm := m5) (by first | omega | (dsimp only; omega)) (by first | omega | (dsimp only; omega))
    rw [e5] at c7
    refine ⟨wr m5 6 0 (nI 0), ?_⟩
    unfold fL_law_1048
    refine st_t (nI_le (a := 3) (b := 3) (by first | omega | (dsimp only; omega)) (by first | omega | (dsimp only; omega))) (st_b c1 (st_b (show fX11_asked N 0 m1 = some (nI q, m1) by unfold fX11_asked; rw [d1]) (st_f (nI_pos (by first | omega | (dsimp only; omega))) (st_f (nI_nlt q2 (by first | omega | (dsimp only; omega))) (st_b c2 (st_f (nI_pos (by first | omega | (dsimp only; omega))) (st_b c3 (st_t (by rw [o1]) (st_b c4 (st_f ?_ (st_f ?_ (st_b c5 (st_t rfl (st_b c6 (st_t rfl (st_b c7 (st_t rfl rfl)))))))))))))))))
    · exact nI_nlt (a := p.1) (b := 1) p1 (by first | omega | (dsimp only; omega))
    · exact nI_nlt (a := 6) (b := p.1) p6 (by first | omega | (dsimp only; omega))
  | succ c ih =>
    intro en Y Z mm hen J hF f hf
    obtain ⟨f, rfl⟩ : ∃ q, f = q + 1 := ⟨f - 1, by omega⟩
    obtain ⟨b1, b2, b3, b4, b5, b6⟩ := id B
    have hu := KD.su B J.1
    have hW := CS_w J.1.1 b1
    obtain ⟨m1, v, c1, v1, f1, e1, g1⟩ := rule_e (N := N) (r := 1) hN B J.1 J.2.2.2.2 ho (by first | omega | (dsimp only; omega))
    have J1 : LJ m1 n d s t en K W F len Y Z := J.st f1.i (fun k j q => by unfold Pu; first | omega | (dsimp only; omega)) (RA_c J.2.1 (fun k q => f1.2 _ _ (by first | omega | (dsimp only; omega))))
    obtain ⟨cv, hcv⟩ := cell_e (N := N) (L := L) (xs := xs) (mm := m1) (k := 24 + en) (by first | omega | (dsimp only; omega)) hL
    obtain ⟨m2, x, c2, x2, f2⟩ := laying_e (N := N) (n := n) (r := 0) (kl := 177) (S := s) (x := cv) (mm := m1) hN (by first | omega | (dsimp only; omega)) (by first | omega | (dsimp only; omega)) (by first | omega | (dsimp only; omega)) rfl (by first | omega | (dsimp only; omega)) (by first | omega | (dsimp only; omega))
    have J2 : LJ m2 n d s t en K W F len Y Z := J1.st f2.i (fun k j q => by unfold Pu; first | omega | (dsimp only; omega)) (RA_c J1.2.1 (fun k q => f2.2 _ _ (by first | omega | (dsimp only; omega))))
    have hly := rlA_lay (W := W) (t := t) (Y := Y) (en := en) (o := o) (show 0 < n by omega) hW b5
    have hy : RX m2 1 n t (rlA W n t Y en o) := ⟨by rw [f2.2 _ _ (by first | omega | (dsimp only; omega))]; exact e1, g1.c (fun i _ => f2.2 _ _ (by first | omega | (dsimp only; omega))), hly.1, hly.2⟩
    obtain ⟨m3, f3, a3, c3⟩ := l1096 (N := N) (L := L) (xs := xs) (v := nI en) (a4 := 177) (a25 := nI o) (k := fL_law_1048 N L xs f) (en := en) (Y := Y) (Z := Z) hN B n 0 m2 (by first | omega | (dsimp only; omega)) J2 x2 hy N (by first | omega | (dsimp only; omega))
    have J3 : LJ m3 n d s t en K W F len Y Z := J2.st f3.i (fun k j q => by unfold Pu; first | omega | (dsimp only; omega)) a3
    have hw : wsN (wn K F d x (rlA W n t Y en o)) n < 2 ^ n := mkN_lt n
    obtain ⟨m4, c4, f4, T4⟩ := note_e (N := N) (r := 0) (x := x) hN B J3.1 J3.2.2.2.2 (by first | omega | (dsimp only; omega)) (by first | omega | (dsimp only; omega)) hw (x2.c (fun k j q => f3.2 _ _ (by first | omega | (dsimp only; omega))))
    have D4 : KD m4 n d s t K W F len := by
      obtain ⟨h1, h2, h3, h4, h5⟩ := J3.1
      exact ⟨CS_c h1 (fun k j q => f4.2 _ _ (by first | omega | (dsimp only; omega))), by rw [f4.2 _ _ (by first | omega | (dsimp only; omega))]; exact h2, by rw [f4.2 _ _ (by first | omega | (dsimp only; omega))]; exact h3, by rw [f4.2 _ _ (by first | omega | (dsimp only; omega))]; exact h4, h5.c (fun i _ => f4.2 _ _ (by first | omega | (dsimp only; omega)))⟩
    have J4 : LJ m4 n d s t (en + 1) K W F len (fun k => if k = en then x else Y k) (fun k => if k = en then wsN (wn K F d x (rlA W n t Y en o)) n else Z k) := ⟨D4, RA_c a3 (fun k q => f4.2 _ _ (by first | omega | (dsimp only; omega))), by rw [f4.2 _ _ (by first | omega | (dsimp only; omega))]; exact J3.2.2.1, J3.2.2.2.1.c (fun k j q => f4.2 _ _ (by first | omega | (dsimp only; omega))), T4⟩
    have hF4 := FT_up (x := x) hF
    obtain ⟨m5, c5, f5, a5⟩ := rules_e (N := N) hN B D4 J4.2.1 T4
    have J5 := J4.st f5.i (fun k j q => by unfold Pu; first | omega | (dsimp only; omega)) a5
    obtain ⟨m', z⟩ := ih (en + 1) _ _ m5 (by first | omega | (dsimp only; omega)) J5 hF4 f (by first | omega | (dsimp only; omega))
    refine ⟨m', ?_⟩
    unfold fL_law_1048
    refine st_f (nI_ge (a := en) (b := 3) (by first | omega | (dsimp only; omega)) (by first | omega | (dsimp only; omega))) (st_b c1 (st_f (nI_pos (by first | omega | (dsimp only; omega))) (st_k (i := 18) (L := 20) rfl (by first | omega | (dsimp only; omega)) (by first | omega | (dsimp only; omega)) ?_)))
    rw [show (24 : Int32) + nI en = nI (24 + en) from nI_add 24 en]
    refine st_b hcv ?_
    have e18 : rd m1 175 ((18 : Int32).toNatClampNeg) = nI s := J1.2.2.1
    rw [e18]
    refine st_b c2 (st_f (by decide) ?_)
    refine c3.trans (st_b c4 (st_t rfl (st_b c5 (st_t ?_ ?_))))
    · rw [bt_6 _ mkN_64 o ho, FT_bit ho hF4]; rfl
    · rw [nI_1]; exact z
end Lj
