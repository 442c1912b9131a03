/-! pure: the greatest score by sheets; fractions; sets of lenders -/
def GP (G : Nat → Option Nat) (ys : List Lf) : Prop := ∀ u, (∀ v, G u = some v → (∃ x ∈ ys, x.2.1 = u ∧ x.1 = v) ∧ ∀ x ∈ ys, x.2.1 = u → x.1 ≤ v) ∧ (G u = none → ∀ x ∈ ys, x.2.1 ≠ u)
theorem gst_p : ∀ (xs ys : List Lf) (G : Nat → Option Nat), GP G ys → GP (xs.foldl gst G) (ys ++ xs) := by
  intro xs
  induction xs with
  | nil => intro ys G h; rw [List.append_nil]; exact h
  | cons a xs ih =>
    intro ys G h
    have hap : ys ++ a :: xs = (ys ++ [a]) ++ xs := by rw [List.append_assoc]; rfl
    rw [hap]
    show GP (xs.foldl gst (gst G a)) _
    refine ih (ys ++ [a]) (gst G a) (fun u => ?_)
    obtain ⟨h1, h2⟩ := h u
    have hin : ∀ x, x ∈ ys ++ [a] ↔ x ∈ ys ∨ x = a := fun x => by rw [List.mem_append, List.mem_singleton]
    by_cases hu : u = a.2.1
    · have hg : gst G a u = omx (G u) a.1 := if_pos hu
      rw [hg]
      cases hG : G u with
      | none =>
        refine ⟨fun v hv => ?_, fun q => by cases q⟩
        have hv' : a.1 = v := by
          have : omx none a.1 = some a.1 := rfl
          rw [this] at hv; cases hv; rfl
        subst hv'
        refine ⟨⟨a, (hin a).mpr (Or.inr rfl), hu.symm, rfl⟩, fun x hx hxu => ?_⟩
        rcases (hin x).mp hx with q | q
        · exact absurd hxu (h2 hG x q)
        · rw [q]; exact Nat.le_refl _
      | some w =>
        obtain ⟨⟨y, y1, y2, y3⟩, g2⟩ := h1 w hG
        refine ⟨fun v hv => ?_, fun q => by cases q⟩
        have hv' : (if w < a.1 then a.1 else w) = v := by
          have : omx (some w) a.1 = some (if w < a.1 then a.1 else w) := rfl
          rw [this] at hv; cases hv; rfl
        by_cases hc : w < a.1
        · rw [if_pos hc] at hv'
          subst hv'
          refine ⟨⟨a, (hin a).mpr (Or.inr rfl), hu.symm, rfl⟩, fun x hx hxu => ?_⟩
          rcases (hin x).mp hx with q | q
          · have := g2 x q hxu; omega
          · rw [q]; exact Nat.le_refl _
        · rw [if_neg hc] at hv'
          subst hv'
          refine ⟨⟨y, (hin y).mpr (Or.inl y1), y2, y3⟩, fun x hx hxu => ?_⟩
          rcases (hin x).mp hx with q | q
          · exact g2 x q hxu
          · rw [q]; omega
    · have hg : gst G a u = G u := if_neg hu
      rw [hg]
      refine ⟨fun v hv => ?_, fun q x hx hxu => ?_⟩
      · obtain ⟨⟨y, y1, y2, y3⟩, g2⟩ := h1 v hv
        refine ⟨⟨y, (hin y).mpr (Or.inl y1), y2, y3⟩, fun x hx hxu => ?_⟩
        rcases (hin x).mp hx with q | q
        · exact g2 x q hxu
        · rw [q] at hxu; exact absurd hxu.symm hu
      · rcases (hin x).mp hx with w | w
        · exact h2 q x w hxu
        · rw [w] at hxu; exact hu hxu.symm
theorem gst_e (xs : List Lf) : GP (xs.foldl gst (fun _ => none)) xs := by
  have := gst_p xs [] (fun _ => none) (fun u => ⟨fun v hv => (by cases hv), fun _ x hx => (by cases hx)⟩)
  rw [List.nil_append] at this
  exact this
/-- the greatest of the first numbers of a row with gaps -/
def mN (G : Nat → Option Nat) : Nat → Nat
  | 0 => 0
  | c + 1 => match G c with
    | none => mN G c
    | some v => if mN G c < v then v else mN G c
theorem mN_s (G : Nat → Option Nat) (c : Nat) : (G c = none ∧ mN G (c + 1) = mN G c) ∨ ∃ v, G c = some v ∧ mN G (c + 1) = if mN G c < v then v else mN G c := by
  cases h : G c with
  | none => left; refine ⟨rfl, ?_⟩; show (match G c with | none => mN G c | some v => if mN G c < v then v else mN G c) = _; rw [h]
  | some v => right; refine ⟨v, rfl, ?_⟩; show (match G c with | none => mN G c | some v => if mN G c < v then v else mN G c) = _; rw [h]
theorem mN_up (G : Nat → Option Nat) : ∀ c c', c ≤ c' → mN G c ≤ mN G c' := by
  intro c c' h
  induction c' with
  | zero => obtain rfl : c = 0 := by omega
            exact Nat.le_refl _
  | succ k ih =>
    by_cases hk : c = k + 1
    · subst hk; exact Nat.le_refl _
    · refine Nat.le_trans (ih (by first | omega | (dsimp only; omega))) ?_
      rcases mN_s G k with ⟨-, e⟩ | ⟨v, -, e⟩
      · rw [e]; exact Nat.le_refl _
      · rw [e]; split <;> omega
theorem mN_ge (G : Nat → Option Nat) {u v c : Nat} (h : u < c) (hv : G u = some v) : v ≤ mN G c := by
  refine Nat.le_trans ?_ (mN_up G (u + 1) c h)
  rcases mN_s G u with ⟨e, -⟩ | ⟨w, e1, e2⟩
  · rw [e] at hv; cases hv
  · rw [e1] at hv; cases hv
    rw [e2]; split <;> omega
theorem mN_ex (G : Nat → Option Nat) : ∀ c, mN G c = 0 ∨ ∃ u, u < c ∧ G u = some (mN G c) := by
  intro c
  induction c with
  | zero => exact Or.inl rfl
  | succ c ih =>
    rcases mN_s G c with ⟨-, e⟩ | ⟨v, e1, e2⟩
    · rw [e]
      rcases ih with q | ⟨u, q1, q2⟩
      · exact Or.inl q
      · exact Or.inr ⟨u, by omega, q2⟩
    · rw [e2]
      by_cases h : mN G c < v
      · rw [if_pos h]; exact Or.inr ⟨c, by omega, e1⟩
      · rw [if_neg h]
        rcases ih with q | ⟨u, q1, q2⟩
        · exact Or.inl q
        · exact Or.inr ⟨u, by omega, q2⟩
/-- the best with fewer sheets is the greatest of those by so many -/
theorem best_most {K W F : Nat → Nat} {d s L L' n : Nat} {z : Nat → Nat} (hL : L' ≤ L) {y : Lf} (h1 : y ∈ lvs K W F d z s L' n 0 (fun _ => 0) (fun _ => 0) 0 0) (h2 : ∀ x ∈ lvs K W F d z s L' n 0 (fun _ => 0) (fun _ => 0) 0 0, x.1 ≤ y.1) : y.1 = mN ((lvs K W F d z s L n 0 (fun _ => 0) (fun _ => 0) 0 0).foldl gst (fun _ => none)) (L' + 1) := by
  have hG := gst_e (lvs K W F d z s L n 0 (fun _ => 0) (fun _ => 0) 0 0)
  generalize (lvs K W F d z s L n 0 (fun _ => 0) (fun _ => 0) 0 0).foldl gst (fun _ => none) = G at hG
  have hm := fun x => lvs_L (K := K) (W := W) (F := F) (d := d) (s := s) (z := z) hL n 0 (fun _ => 0) (fun _ => 0) 0 0 x (by first | omega | (dsimp only; omega))
  refine Nat.le_antisymm ?_ ?_
  · obtain ⟨g1, g2⟩ := (hm y).mp h1
    cases hv : G y.2.1 with
    | none => exact absurd rfl ((hG y.2.1).2 hv y g1)
    | some v =>
      have := ((hG y.2.1).1 v hv).2 y g1 rfl
      exact Nat.le_trans this (mN_ge G (by first | omega | (dsimp only; omega)) hv)
  · rcases mN_ex G (L' + 1) with q | ⟨u, q1, q2⟩
    · rw [q]; omega
    · obtain ⟨⟨x, x1, x2, x3⟩, -⟩ := (hG u).1 _ q2
      rw [← x3]
      exact h2 x ((hm x).mpr ⟨x1, by omega⟩)
theorem mostBy_l {N s : Nat} {G : Nat → Option Nat} {mm : Mm} (hS : ∀ u, u ≤ 240 → rd mm 37 u = oV (-1) (G u) ∧ ∀ v, G u = some v → v ≤ 108) (hs : s ≤ 240) : ∀ c i, i + c = s + 1 → ∀ f, c < f → fX8_mostBy_4 N f 35 (nI s) (nI (mN G i)) (nI i) mm = some (nI (mN G (s + 1)), mm) := by
  intro c
  induction c with
  | zero =>
    intro i hi f hf
    obtain ⟨f, rfl⟩ : ∃ g, f = g + 1 := ⟨f - 1, by omega⟩
    obtain rfl : i = s + 1 := by omega
    unfold fX8_mostBy_4
    exact st_t (nI_lt (by first | omega | (dsimp only; omega)) (by first | omega | (dsimp only; omega))) rfl
  | succ c ih =>
    intro i hi f hf
    obtain ⟨f, rfl⟩ : ∃ g, f = g + 1 := ⟨f - 1, by omega⟩
    have ih2 := ih (i + 1) (by first | omega | (dsimp only; omega)) f (by first | omega | (dsimp only; omega))
    have hb : ∀ c, c ≤ 241 → mN G c ≤ 108 := fun c hc => by
      rcases mN_ex G c with q | ⟨u, q1, q2⟩
      · rw [q]; omega
      · exact (hS u (by first | omega | (dsimp only; omega))).2 _ q2
    unfold fX8_mostBy_4
    simp only [LXb, nI_nat (show i < 2147483648 by omega), nI_1]
    refine st_f (nI_nlt (by first | omega | (dsimp only; omega)) (by first | omega | (dsimp only; omega))) (st_f (nI_ge (b := 241) (by first | omega | (dsimp only; omega)) (by first | omega | (dsimp only; omega))) (st_k rfl (by first | omega | (dsimp only; omega)) (by first | omega | (dsimp only; omega)) (st_n ?_)))
    have hv : (if nI (mN G i) < rd mm 37 i then rd mm 37 i else nI (mN G i)) = nI (mN G (i + 1)) := by
      have h108 := hb i (by first | omega | (dsimp only; omega))
      rw [(hS i (by first | omega | (dsimp only; omega))).1]
      rcases mN_s G i with ⟨e1, e2⟩ | ⟨v, e1, e2⟩
      · rw [e1, e2]
        refine if_neg (fun q => ?_)
        rw [i_lt, nI_toInt (by first | omega | (dsimp only; omega))] at q
        have : (oV (-1) none).toInt = -1 := rfl
        omega
      · have hv := (hS i (by first | omega | (dsimp only; omega))).2 v e1
        rw [e1, e2]
        show (if nI (mN G i) < nI v then nI v else nI (mN G i)) = _
        by_cases h : mN G i < v
        · rw [if_pos h, if_pos (nI_lt h (by first | omega | (dsimp only; omega)))]
        · rw [if_neg h, if_neg (nI_nlt (by first | omega | (dsimp only; omega)) (by first | omega | (dsimp only; omega)))]
    rw [hv]
    exact ih2
theorem mostBy_e {N s : Nat} {G : Nat → Option Nat} {mm : Mm} (hN : 100000 ≤ N) (hS : ∀ u, u ≤ 240 → rd mm 37 u = oV (-1) (G u) ∧ ∀ v, G u = some v → v ≤ 108) (hs : s ≤ 240) : fX8_mostBy N 35 (nI s) mm = some (nI (mN G (s + 1)), mm) := mostBy_l hS hs (s + 1) 0 (by first | omega | (dsimp only; omega)) N (by first | omega | (dsimp only; omega))
theorem mN_108 {G : Nat → Option Nat} {c : Nat} (h : ∀ u v, u < c → G u = some v → v ≤ 108) : mN G c ≤ 108 := by
  rcases mN_ex G c with q | ⟨u, q1, q2⟩
  · rw [q]; omega
  · exact h u _ q1 q2
-- sets of lenders
theorem bit_c : ∀ s, s < 16 → ∀ l, l < 4 → (nI s >>> (nI l &&& 31)) &&& 1 = nI (s / 2 ^ l % 2) := by decide +kernel
def stN (s0 : Nat) (len : Nat → Nat) (set : Nat) : Nat := s0 + smN (fun l => if set / 2 ^ l % 2 = 0 then 0 else len l) 4
section Sets
variable {N s0 set : Nat} {len : Nat → Nat} {mm : Mm}
theorem cstock_l (hset : set < 16) (h : HA mm 6 4 len) : ∀ c i, i + c = 4 → ∀ f, c < f → fX0_stockWith_9 N f 3 (nI set) (nI (s0 + smN (fun l => if set / 2 ^ l % 2 = 0 then 0 else len l) i)) (nI i) mm = some (nI (stN s0 len set), mm) := by
  intro c
  induction c with
  | zero =>
    intro i hi f hf
    obtain ⟨f, rfl⟩ : ∃ g, f = g + 1 := ⟨f - 1, by omega⟩
    obtain rfl : i = 4 := by omega
    unfold fX0_stockWith_9
    exact st_t (nI_le (by first | omega | (dsimp only; omega)) (by first | omega | (dsimp only; omega))) rfl
  | succ c ih =>
    intro i hi f hf
    obtain ⟨f, rfl⟩ : ∃ g, f = g + 1 := ⟨f - 1, by omega⟩
    have ih2 := ih (i + 1) (by first | omega | (dsimp only; omega)) f (by first | omega | (dsimp only; omega))
    have hs : smN (fun l => if set / 2 ^ l % 2 = 0 then 0 else len l) (i + 1) = smN (fun l => if set / 2 ^ l % 2 = 0 then 0 else len l) i + (if set / 2 ^ i % 2 = 0 then 0 else len i) := rfl
    rw [hs] at ih2
    unfold fX0_stockWith_9 fX0_stockWith_31
    simp only [LXa, nI_nat (show i < 2147483648 by omega), nI_1]
    refine st_f (nI_ge (by first | omega | (dsimp only; omega)) (by first | omega | (dsimp only; omega))) ?_
    rw [bit_c set hset i (by first | omega | (dsimp only; omega))]
    by_cases hb : set / 2 ^ i % 2 = 0
    · rw [if_pos hb] at ih2
      exact st_t (by rw [hb]; rfl) ih2
    · rw [if_neg hb] at ih2
      refine st_f (fun q => hb (nI_inj (b := 0) q (by first | omega | (dsimp only; omega)) (by first | omega | (dsimp only; omega)))) (st_k rfl (by first | omega | (dsimp only; omega)) (by first | omega | (dsimp only; omega)) (st_n ?_))
      rw [h i (by first | omega | (dsimp only; omega)), nI_add, Nat.add_assoc]
      exact ih2
theorem cstock_e (hN : 100000 ≤ N) (hset : set < 16) (h0 : rd mm 5 0 = nI s0) (h : HA mm 6 4 len) : fX0_stockWith N 3 (nI set) mm = some (nI (stN s0 len set), mm) := by
  unfold fX0_stockWith
  simp only [LXa]
  refine st_g (by decide) (st_n ?_)
  rw [show ((0 : Int32).toNatClampNeg) = 0 from rfl, h0]
  exact cstock_l hset h 4 0 (by first | omega | (dsimp only; omega)) N (by first | omega | (dsimp only; omega))
theorem mstock_l (hset : set < 16) (h : HA mm 192 4 len) : ∀ c i, i + c = 4 → ∀ f, c < f → fX12_stockWith_9 N f 175 (nI set) (nI (s0 + smN (fun l => if set / 2 ^ l % 2 = 0 then 0 else len l) i)) (nI i) mm = some (nI (stN s0 len set), mm) := by
  intro c
  induction c with
  | zero =>
    intro i hi f hf
    obtain ⟨f, rfl⟩ : ∃ g, f = g + 1 := ⟨f - 1, by omega⟩
    obtain rfl : i = 4 := by omega
    unfold fX12_stockWith_9
    exact st_t (nI_le (by first | omega | (dsimp only; omega)) (by first | omega | (dsimp only; omega))) rfl
  | succ c ih =>
    intro i hi f hf
    obtain ⟨f, rfl⟩ : ∃ g, f = g + 1 := ⟨f - 1, by omega⟩
    have ih2 := ih (i + 1) (by first | omega | (dsimp only; omega)) f (by first | omega | (dsimp only; omega))
    have hs : smN (fun l => if set / 2 ^ l % 2 = 0 then 0 else len l) (i + 1) = smN (fun l => if set / 2 ^ l % 2 = 0 then 0 else len l) i + (if set / 2 ^ i % 2 = 0 then 0 else len i) := rfl
    rw [hs] at ih2
    unfold fX12_stockWith_9 fX12_stockWith_34
    simp only [LXm, nI_nat (show i < 2147483648 by omega), nI_1]
    refine st_f (nI_ge (by first | omega | (dsimp only; omega)) (by first | omega | (dsimp only; omega))) ?_
    rw [bit_c set hset i (by first | omega | (dsimp only; omega))]
    by_cases hb : set / 2 ^ i % 2 = 0
    · rw [if_pos hb] at ih2
      rw [hb]
      exact st_f (by decide) (by rw [show (0 : Int32) = nI 0 from rfl, nI_add]; exact ih2)
    · rw [if_neg hb] at ih2
      have hb1 : set / 2 ^ i % 2 = 1 := by omega
      rw [hb1]
      refine st_t rfl (st_k rfl (by first | omega | (dsimp only; omega)) (by first | omega | (dsimp only; omega)) ?_)
      rw [h i (by first | omega | (dsimp only; omega)), nI_add, Nat.add_assoc]
      exact ih2
theorem mstock_e (hN : 100000 ≤ N) (hset : set < 16) (h0 : rd mm 183 0 = nI s0) (h : HA mm 192 4 len) : fX12_stockWith N 175 (nI set) mm = some (nI (stN s0 len set), mm) := by
  unfold fX12_stockWith
  simp only [LXm]
  refine st_g (by decide) (st_n ?_)
  rw [show ((0 : Int32).toNatClampNeg) = 0 from rfl, h0]
  exact mstock_l hset h 4 0 (by first | omega | (dsimp only; omega)) N (by first | omega | (dsimp only; omega))
theorem stN_b (h : ∀ i, i < 4 → len i ≤ 20) (hs : s0 ≤ 40) : stN s0 len set ≤ 120 := by
  have := smN_le (f := fun l => if set / 2 ^ l % 2 = 0 then 0 else len l) (b := 20) 4 (fun i hi => by
    have := h i hi
    show (if set / 2 ^ i % 2 = 0 then 0 else len i) ≤ 20
    split <;> omega)
  unfold stN; omega
theorem stN_0 : stN s0 len 0 = s0 := by
  unfold stN
  have : smN (fun l => if 0 / 2 ^ l % 2 = 0 then 0 else len l) 4 = 0 := by
    simp [smN]
  rw [this]; rfl
end Sets
theorem Rel_lend {mm : Mm} (h : Rel mm) : ∃ len : Nat → Nat, HA mm 6 4 len ∧ HA mm 192 4 len ∧ ∀ i, i < 4 → len i ≤ 20 := by
  obtain ⟨n, -, g4, -⟩ := h.2.2.1
  refine ⟨fun i => (rd mm 6 i).toInt.toNat, fun i hi => ?_, fun i hi => ?_, fun i hi => ?_⟩
  · obtain ⟨e, q, hq, e2⟩ := g4.2.2.2.1 i hi
    have e1 : rd mm 6 i = nI q := e.trans e2
    show rd mm 6 i = nI ((rd mm 6 i).toInt.toNat)
    rw [e1, nI_back (by first | omega | (dsimp only; omega))]
  · obtain ⟨e, q, hq, e2⟩ := g4.2.2.2.1 i hi
    have e1 : rd mm 6 i = nI q := e.trans e2
    show rd mm 192 i = nI ((rd mm 6 i).toInt.toNat)
    rw [e1, nI_back (by first | omega | (dsimp only; omega))]
    exact e2
  · obtain ⟨e, q, hq, e2⟩ := g4.2.2.2.1 i hi
    have e1 : rd mm 6 i = nI q := e.trans e2
    show (rd mm 6 i).toInt.toNat ≤ 20
    rw [e1, nI_back (by first | omega | (dsimp only; omega))]
    exact hq
-- fractions
theorem lN_iI {a : Nat} (h : a < 2147483648) : (lN a).toInt = a := by rw [← nI_l (by first | omega | (dsimp only; omega))]; exact l_nI h
theorem lN_rem {a b : Nat} (ha : a < 2147483648) (hb : b < 2147483648) (h0 : 0 < b) : lN a - lN a / lN b * lN b = lN (a % b) := by
  have hd : (lN a / lN b).toInt = ((a / b : Nat) : Int) := by
    rw [Int64.toInt_div, lN_iI ha, lN_iI hb]
    have : ((a : Int).tdiv b) = ((a / b : Nat) : Int) := by
      rw [Int.tdiv_eq_ediv_of_nonneg (by first | omega | (dsimp only; omega))]
      rfl
    rw [this]
    have : a / b ≤ a := Nat.div_le_self _ _
    generalize a / b = q at this ⊢
    exact Int.bmod_eq_of_le_mul_two (by show -((18446744073709551616 : Nat) : Int) ≤ _; omega) (by show _ < ((18446744073709551616 : Nat) : Int); omega)
  have hab : a / b * b ≤ a := Nat.div_mul_le_self _ _
  have hmul : (lN a / lN b * lN b).toInt = ((a / b * b : Nat) : Int) := by
    rw [Int64.toInt_mul, hd, lN_iI hb, ← Int.natCast_mul]
    generalize a / b * b = q at hab
    exact Int.bmod_eq_of_le_mul_two (by show -((18446744073709551616 : Nat) : Int) ≤ _; omega) (by show _ < ((18446744073709551616 : Nat) : Int); omega)
  have hmod : a % b = a - a / b * b := by
    have := Nat.div_add_mod a b
    rw [Nat.mul_comm] at this
    omega
  have hle : a % b ≤ a := Nat.mod_le _ _
  apply Int64.toInt_inj.mp
  rw [Int64.toInt_sub, hmul, lN_iI ha, lN_iI (by first | omega | (dsimp only; omega)), hmod]
  generalize a / b * b = q at hab
  rw [show ((a : Int) - (q : Int)) = ((a - q : Nat) : Int) by omega]
  exact Int.bmod_eq_of_le_mul_two (by show -((18446744073709551616 : Nat) : Int) ≤ _; omega) (by show _ < ((18446744073709551616 : Nat) : Int); omega)
theorem lN_z {a : Nat} (h : a < 2147483648) : lN a = 0 ↔ a = 0 := by
  constructor
  · intro e
    have := lN_iI h
    rw [e] at this
    have h0 : (0 : Int64).toInt = 0 := rfl
    omega
  · rintro rfl; rfl
theorem lN_nz {a : Nat} (h0 : 0 < a) (h : a < 2147483648) : nzL (lN a) = true := by
  unfold nzL
  rw [decide_eq_true_eq, lN_z h]
  omega
/-- what both lay into the fraction -/
def frU (up low : Nat) : Int64 := lN up / lN (Nat.gcd low up)
def frL (up low : Nat) : Int64 := lN low / lN (Nat.gcd low up)
section Frac
variable {N : Nat} {mm : Mm}
theorem cfrac_l {A B : Int64} : ∀ b a f q, a < 2147483648 → b ≤ 90000 → 0 < a + b → b < f → q + b ≤ 100000 → fX11_fraction_12 N f 0 A B (lN a) (lN b) (nI q) mm = some ((), wrL (wrL mm 0 15 (A / lN (Nat.gcd b a))) 0 16 (B / lN (Nat.gcd b a))) := by
  intro b
  induction b using Nat.strongRecOn with
  | _ b ih =>
    intro a f q ha hb hab hf hq
    obtain ⟨f, rfl⟩ : ∃ g, f = g + 1 := ⟨f - 1, by omega⟩
    unfold fX11_fraction_12
    rcases Nat.eq_zero_or_pos b with h0 | h0
    · subst h0
      unfold fX11_fraction_47
      rw [Nat.gcd_zero_left]
      refine st_t (by rw [lg_cmp_eq]; rfl) (st_f ?_ (st_g (lN_nz (by first | omega | (dsimp only; omega)) ha) (st_n (st_g (lN_nz (by first | omega | (dsimp only; omega)) ha) (st_n rfl)))))
      rw [lg_cmp_le, Int64.le_iff_toInt_le, lN_iI ha]
      have : (0 : Int64).toInt = 0 := rfl
      omega
    · have hlt : a % b < b := Nat.mod_lt _ h0
      refine st_f (by rw [lg_cmp_eq, lN_z (by first | omega | (dsimp only; omega))]; omega) (st_f (nI_ge (b := 1000000) (by first | omega | (dsimp only; omega)) (by first | omega | (dsimp only; omega))) (st_g (lN_nz h0 (by first | omega | (dsimp only; omega))) ?_))
      rw [lN_rem ha (by first | omega | (dsimp only; omega)) h0, nI_1, Nat.gcd_rec b a]
      exact ih (a % b) hlt b f (q + 1) (by first | omega | (dsimp only; omega)) (by first | omega | (dsimp only; omega)) (by first | omega | (dsimp only; omega)) (by first | omega | (dsimp only; omega)) (by first | omega | (dsimp only; omega))
theorem cfrac_e {u w : Nat} (hN : 100000 ≤ N) (hu : u ≤ 90000) (hw : w ≤ 90000) (h0 : 0 < w) : fX11_fraction N 0 (lN u) (lN w) mm = some ((), wrL (wrL mm 0 15 (frU u w)) 0 16 (frL u w)) := by
  unfold fX11_fraction
  refine st_n ?_
  have e : (if 0 < lN u then lN u else -lN u) = lN u := by
    rcases Nat.eq_zero_or_pos u with h | h
    · subst h; rfl
    · refine if_pos ?_
      rw [Int64.lt_iff_toInt_lt, lN_iI (by first | omega | (dsimp only; omega))]
      have : (0 : Int64).toInt = 0 := rfl
      omega
  rw [e]
  exact cfrac_l w u N 0 (by first | omega | (dsimp only; omega)) hw (by first | omega | (dsimp only; omega)) (by first | omega | (dsimp only; omega)) (by first | omega | (dsimp only; omega))
theorem mfrac_l {A B : Int64} {ans : Int32} : ∀ b a f, a < 2147483648 → b ≤ 90000 → 0 < a + b → b < f → fX12_part_6 N f 175 A B ans (lN a) (lN b) mm = some (ans, wrL (wrL mm 175 3 (A / lN (Nat.gcd b a))) 175 4 (B / lN (Nat.gcd b a))) := by
  intro b
  induction b using Nat.strongRecOn with
  | _ b ih =>
    intro a f ha hb hab hf
    obtain ⟨f, rfl⟩ : ∃ g, f = g + 1 := ⟨f - 1, by omega⟩
    unfold fX12_part_6
    rcases Nat.eq_zero_or_pos b with h0 | h0
    · subst h0
      unfold fX12_part_46
      rw [Nat.gcd_zero_left]
      refine st_t (by rw [lg_cmp_eq]; rfl) (st_t ?_ (st_g (lN_nz (by first | omega | (dsimp only; omega)) ha) (st_n (st_g (lN_nz (by first | omega | (dsimp only; omega)) ha) (st_n rfl)))))
      rw [lg_cmp_ge, Int64.le_iff_toInt_le, lN_iI ha]
      have : (0 : Int64).toInt = 0 := rfl
      omega
    · have hlt : a % b < b := Nat.mod_lt _ h0
      refine st_f (by rw [lg_cmp_eq, lN_z (by first | omega | (dsimp only; omega))]; omega) (st_g (lN_nz h0 (by first | omega | (dsimp only; omega))) ?_)
      rw [lN_rem ha (by first | omega | (dsimp only; omega)) h0, Nat.gcd_rec b a]
      exact ih (a % b) hlt b f (by first | omega | (dsimp only; omega)) (by first | omega | (dsimp only; omega)) (by first | omega | (dsimp only; omega)) (by first | omega | (dsimp only; omega))
theorem mfrac_e {u w : Nat} {ans : Int32} (hN : 100000 ≤ N) (hu : u ≤ 90000) (hw : w ≤ 90000) (h0 : 0 < w) : fX12_part N 175 (lN u) (lN w) ans mm = some (ans, wrL (wrL mm 175 3 (frU u w)) 175 4 (frL u w)) := by
  unfold fX12_part
  exact mfrac_l w u N (by first | omega | (dsimp only; omega)) hw (by first | omega | (dsimp only; omega)) (by first | omega | (dsimp only; omega))
end Frac
