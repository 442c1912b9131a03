/-! pure: the fewest sheets by which a suit ends so -/
def up (f : Nat → Nat) (i v : Nat) : Nat → Nat := fun j => if j = i then v else f j
theorem up_s {f : Nat → Nat} {i v : Nat} : up f i v i = v := if_pos rfl
theorem up_o {f : Nat → Nat} {i v j : Nat} (h : j ≠ i) : up f i v j = f j := if_neg h
/-- the first number from x on, c being looked at -/
def fnd (P : Nat → Bool) : Nat → Nat → Option Nat
  | 0, _ => none
  | c + 1, x => if P x = true then some x else fnd P c (x + 1)
theorem fnd_some {P : Nat → Bool} : ∀ c x y, fnd P c x = some y → x ≤ y ∧ y < x + c ∧ P y = true ∧ ∀ t, x ≤ t → t < y → P t = false := by
  intro c
  induction c with
  | zero => intro x y h; cases h
  | succ c ih =>
    intro x y h
    unfold fnd at h
    by_cases hp : P x = true
    · rw [if_pos hp] at h
      cases h
      exact ⟨Nat.le_refl _, by omega, hp, fun t h1 h2 => by omega⟩
    · rw [if_neg hp] at h
      obtain ⟨h1, h2, h3, h4⟩ := ih _ _ h
      refine ⟨by omega, by omega, h3, fun t h5 h6 => ?_⟩
      by_cases ht : t = x
      · rw [ht]; simpa using hp
      · exact h4 t (by first | omega | (dsimp only; omega)) h6
theorem fnd_none {P : Nat → Bool} : ∀ c x, fnd P c x = none → ∀ t, x ≤ t → t < x + c → P t = false := by
  intro c
  induction c with
  | zero => intro x h t h1 h2; omega
  | succ c ih =>
    intro x h t h1 h2
    unfold fnd at h
    by_cases hp : P x = true
    · rw [if_pos hp] at h; cases h
    · rw [if_neg hp] at h
      by_cases ht : t = x
      · rw [ht]; simpa using hp
      · exact ih _ h t (by first | omega | (dsimp only; omega)) (by first | omega | (dsimp only; omega))
theorem fnd_of {P : Nat → Bool} {c y : Nat} (h : P y = true) (hy : y < c) (hm : ∀ t, t < y → P t = false) : fnd P c 0 = some y := by
  cases e : fnd P c 0 with
  | none =>
    have := fnd_none c 0 e y (by first | omega | (dsimp only; omega)) (by first | omega | (dsimp only; omega))
    rw [h] at this; cases this
  | some u =>
    obtain ⟨-, h2, h3, h4⟩ := fnd_some c 0 u e
    rcases Nat.lt_trichotomy u y with q | q | q
    · rw [hm u q] at h3; cases h3
    · rw [q]
    · rw [h4 y (by first | omega | (dsimp only; omega)) q] at h; cases h
/-- whether x sheets of side s on suit i end it so -/
def ndB (K F : Nat → Nat) (d : Nat) (w z : Nat → Nat) (s i e x : Nat) : Bool := decide (wst K F d w i (if s = 0 then x else z i) (if s = 0 then z i else x) = e)
def nd (K F : Nat → Nat) (d : Nat) (w z : Nat → Nat) (s i e : Nat) : Option Nat := fnd (ndB K F d w z s i e) 41 0
theorem nd_c {K F : Nat → Nat} {d s i e : Nat} {w v z : Nat → Nat} (h : K i = 5 → w (F i) = v (F i)) : nd K F d w z s i e = nd K F d v z s i e := by
  have : ndB K F d w z s i e = ndB K F d v z s i e := by
    funext x
    unfold ndB
    rw [wst_c h]
  unfold nd
  rw [this]
-- the class' way to it
def coreZ (l ex : Nat) (lo hi : Int) : Int :=
  if (if 0 < l then 0 else (ex : Int)) < lo then (if hi < (if (l : Int) < lo - ex then lo - ex else l) + ex then -9 else (if (l : Int) < lo - ex then lo - ex else l)) else if hi < (if 0 < l then 0 else (ex : Int)) then -9 else 0
def wtZ (l ex x : Nat) : Nat := if x < l then 0 else x + ex
theorem core_ok (l ex : Nat) (lo hi : Int) : (coreZ l ex lo hi = -9 ∧ ∀ x : Nat, ¬ (lo ≤ (wtZ l ex x : Int) ∧ (wtZ l ex x : Int) ≤ hi)) ∨ ∃ y : Nat, coreZ l ex lo hi = y ∧ (y = 0 ∨ y = l ∨ (y : Int) = lo - ex) ∧ (lo ≤ (wtZ l ex y : Int) ∧ (wtZ l ex y : Int) ≤ hi) ∧ ∀ x : Nat, x < y → ¬ (lo ≤ (wtZ l ex x : Int) ∧ (wtZ l ex x : Int) ≤ hi) := by
  unfold coreZ
  by_cases h1 : (if 0 < l then 0 else (ex : Int)) < lo
  · rw [if_pos h1]
    by_cases h2 : hi < (if (l : Int) < lo - ex then lo - ex else l) + ex
    · rw [if_pos h2]
      refine Or.inl ⟨rfl, fun x => ?_⟩
      unfold wtZ
      split at h1 <;> split at h2 <;> split <;> omega
    · rw [if_neg h2]
      by_cases hq : (l : Int) < lo - ex
      · simp only [if_pos hq] at h2 ⊢
        obtain ⟨y, hy⟩ : ∃ y : Nat, (y : Int) = lo - ex := ⟨(lo - ex).toNat, by omega⟩
        refine Or.inr ⟨y, hy.symm, by omega, ?_, fun x hx => ?_⟩
        · unfold wtZ
          split at h1 <;> split <;> omega
        · unfold wtZ
          split at h1 <;> split <;> omega
      · simp only [if_neg hq] at h2 ⊢
        refine Or.inr ⟨l, rfl, by omega, ?_, fun x hx => ?_⟩
        · unfold wtZ
          split at h1 <;> split <;> omega
        · unfold wtZ
          split at h1 <;> split <;> omega
  · rw [if_neg h1]
    by_cases h2 : hi < (if 0 < l then 0 else (ex : Int))
    · rw [if_pos h2]
      refine Or.inl ⟨rfl, fun x => ?_⟩
      unfold wtZ
      split at h1 <;> split at h2 <;> split <;> omega
    · rw [if_neg h2]
      refine Or.inr ⟨0, rfl, Or.inl rfl, ?_, fun x hx => by omega⟩
      unfold wtZ
      split at h1 <;> split at h2 <;> split <;> omega
theorem core_e {N z k w f ex : Nat} {lo hi : Int32} {mm : Mm} (h : SU mm z k w f) (hk : k ≤ 5) (hf : f ≤ 9) (hex : ex ≤ 1000) (h1 : -1 ≤ lo.toInt ∧ lo.toInt ≤ 300000) (h2 : -1 ≤ hi.toInt ∧ hi.toInt ≤ 1000000) : ∃ R : Int32, fX9_need_118 N z (nI ex) lo hi mm = some (R, mm) ∧ R.toInt = coreZ (lsN k f) ex lo.toInt hi.toInt := by
  have hl := lsN_9 (k := k) hf
  have hexI : (nI ex).toInt = ex := nI_toInt (by first | omega | (dsimp only; omega))
  have hlI : (nI (lsN k f)).toInt = lsN k f := nI_toInt (by first | omega | (dsimp only; omega))
  have hsub : (lo - nI ex).toInt = lo.toInt - ex := by rw [i_sub _ _ (by rw [hexI]; omega) (by rw [hexI]; omega), hexI]
  have hm9 : (-9 : Int32).toInt = -9 := rfl
  have h00 : (0 : Int32).toInt = 0 := rfl
  unfold fX9_need_118 coreZ
  have hw : fX9_weight N z 0 (nI ex) mm = some (nI (if 0 < lsN k f then 0 else 0 + ex), mm) := weight_e (x := 0) h hk hf (by first | omega | (dsimp only; omega))
  have hnI : (nI (if 0 < lsN k f then 0 else 0 + ex)).toInt = (if 0 < lsN k f then 0 else (ex : Int)) := by
    rw [nI_toInt (by split <;> omega)]
    split <;> omega
  generalize nI (if 0 < lsN k f then 0 else 0 + ex) = nn at hw hnI
  by_cases hc : nn < lo
  · have hc' := hc
    rw [i_lt, hnI] at hc'
    rw [if_pos hc']
    have hx8 : (if nI (lsN k f) < lo - nI ex then lo - nI ex else nI (lsN k f)).toInt = (if (lsN k f : Int) < lo.toInt - ex then lo.toInt - ex else lsN k f) := by
      by_cases hq : nI (lsN k f) < lo - nI ex
      · have hq' := hq
        rw [i_lt, hlI, hsub] at hq'
        rw [if_pos hq, if_pos hq', hsub]
      · have hq' := hq
        rw [i_lt, hlI, hsub] at hq'
        rw [if_neg hq, if_neg hq', hlI]
    generalize hx : (if nI (lsN k f) < lo - nI ex then lo - nI ex else nI (lsN k f)) = x8 at hx8
    have hb : (0 : Int) ≤ x8.toInt ∧ x8.toInt ≤ 300000 := by rw [hx8]; split <;> omega
    have hadd : (x8 + nI ex).toInt = x8.toInt + ex := by rw [i_add _ _ (by rw [hexI]; omega) (by rw [hexI]; omega), hexI]
    by_cases hd : hi < x8 + nI ex
    · have hd' := hd
      rw [i_lt, hadd, hx8] at hd'
      rw [if_pos hd']
      exact ⟨-9, st_b hw (st_t hc (st_b (least_e h hk) (st_n (by rw [hx]; exact st_t hd rfl)))), hm9⟩
    · have hd' := hd
      rw [i_lt, hadd, hx8] at hd'
      rw [if_neg hd']
      exact ⟨x8, st_b hw (st_t hc (st_b (least_e h hk) (st_n (by rw [hx]; exact st_f hd rfl)))), hx8⟩
  · have hc' := hc
    rw [i_lt, hnI] at hc'
    rw [if_neg hc']
    by_cases hd : hi < nn
    · have hd' := hd
      rw [i_lt, hnI] at hd'
      rw [if_pos hd']
      exact ⟨-9, st_b hw (st_f hc (st_t hd rfl)), hm9⟩
    · have hd' := hd
      rw [i_lt, hnI] at hd'
      rw [if_neg hd']
      exact ⟨0, st_b hw (st_f hc (st_f hd rfl)), h00⟩
theorem wnr_own {k a b : Nat} (h : k = 1 ∨ k = 5) : wnr k a b = if b ≤ a then 0 else 1 := by
  unfold wnr
  by_cases hab : a = b
  · subst hab; rw [if_pos rfl, if_pos h, if_pos (Nat.le_refl _)]
  · rw [if_neg hab]
    have h2 : k ≠ 2 := by omega
    by_cases hlt : b < a
    · rw [if_pos (by simp [hlt, h2]), if_pos (by first | omega | (dsimp only; omega))]
    · rw [if_neg (by simp [hlt, h2]), if_neg (by first | omega | (dsimp only; omega))]
theorem wnr_fly {a b : Nat} : wnr 2 a b = if a = b then 2 else if a < b then 0 else 1 := by
  unfold wnr
  by_cases hab : a = b
  · rw [if_pos hab, if_pos hab]; rfl
  · rw [if_neg hab, if_neg hab]
    by_cases hlt : b < a
    · rw [if_neg (by simp [hlt]), if_neg (by first | omega | (dsimp only; omega))]
    · rw [if_pos (by simp [hlt]), if_pos (by first | omega | (dsimp only; omega))]
theorem wnr_pl {k a b : Nat} (h : k = 0 ∨ k = 3 ∨ k = 4) : wnr k a b = if a = b then 2 else if b < a then 0 else 1 := by
  unfold wnr
  by_cases hab : a = b
  · rw [if_pos hab, if_pos hab, if_neg (by first | omega | (dsimp only; omega))]
  · rw [if_neg hab, if_neg hab]
    have h2 : k ≠ 2 := by omega
    by_cases hlt : b < a
    · rw [if_pos (by simp [hlt, h2]), if_pos hlt]
    · rw [if_neg (by simp [hlt, h2]), if_neg hlt]
/-- who wins by x sheets of side s of weight function (l, ex) against a weight -/
def wnx (k s l ex ag x : Nat) : Nat := if s = 0 then wnr k (wtZ l ex x) ag else wnr k ag (wtZ l ex x)
/-- an answer of the class' need -/
def NdR (P : Nat → Prop) (R : Int32) : Prop := (R = -9 ∧ ∀ x, x ≤ 1000 → ¬ P x) ∨ ∃ y : Nat, y ≤ 300000 ∧ R = nI y ∧ P y ∧ ∀ t, t < y → ¬ P t
theorem wtZ_b {l ex x : Nat} (hx : x ≤ 1000) (he : ex ≤ 1000) : wtZ l ex x ≤ 2000 := by unfold wtZ; split <;> omega
theorem need_k {N z k w f s e ag ex : Nat} {mm : Mm} (h : SU mm z k w f) (hk : k ≤ 5) (hf : f ≤ 9) (hex : ex ≤ 1000) (hag : ag ≤ 200000) (lo hi : Int32) (lz hz : Int) (e1 : lo.toInt = lz) (e2 : hi.toInt = hz) (b1 : -1 ≤ lz ∧ lz ≤ 300000) (b2 : -1 ≤ hz ∧ hz ≤ 1000000) (hp : fX9_need N z (nI s) (nI e) (nI ag) (nI ex) mm = fX9_need_118 N z (nI ex) lo hi mm) (hiff : ∀ A : Nat, A ≤ 1000000 → ((lz ≤ (A : Int) ∧ (A : Int) ≤ hz) ↔ (if s = 0 then wnr k A ag else wnr k ag A) = e)) : ∃ R, fX9_need N z (nI s) (nI e) (nI ag) (nI ex) mm = some (R, mm) ∧ NdR (fun x => wnx k s (lsN k f) ex ag x = e) R := by
  obtain ⟨R, h1, h2⟩ := core_e (N := N) (lo := lo) (hi := hi) h hk hf hex (by rw [e1]; exact b1) (by rw [e2]; exact b2)
  have hl := lsN_9 (k := k) hf
  refine ⟨R, hp.trans h1, ?_⟩
  rw [e1, e2] at h2
  rcases core_ok (lsN k f) ex lz hz with ⟨q1, q2⟩ | ⟨y, q1, q2, q3, q4⟩
  · refine Or.inl ⟨?_, fun x hx hn => q2 x ((hiff _ ?_).mpr hn)⟩
    · rw [i_eq, h2, q1]; rfl
    · have := wtZ_b (l := lsN k f) hx hex; omega
  · have hy : y ≤ 300000 := by omega
    refine Or.inr ⟨y, hy, ?_, (hiff _ ?_).mp q3, fun t ht hn => q4 t ht ((hiff _ ?_).mpr hn)⟩
    · rw [i_eq, h2, q1, nI_toInt (by first | omega | (dsimp only; omega))]
    · have : wtZ (lsN k f) ex y ≤ y + ex := by unfold wtZ; split <;> omega
      omega
    · have : wtZ (lsN k f) ex t ≤ t + ex := by unfold wtZ; split <;> omega
      omega
theorem need_z {N z k w f s e ag ex : Nat} {mm : Mm} (h : SU mm z k w f) (hk : k ≤ 5) (hf : f ≤ 9) (hs : s ≤ 1) (he : e ≤ 2) (hex : ex ≤ 1000) (hag : ag ≤ 200000) : ∃ R, fX9_need N z (nI s) (nI e) (nI ag) (nI ex) mm = some (R, mm) ∧ NdR (fun x => wnx k s (lsN k f) ex ag x = e) R := by
  have hagI : (nI ag).toInt = ag := nI_toInt (by first | omega | (dsimp only; omega))
  have hag1 : (nI ag + 1).toInt = ag + 1 := by rw [nI_1, nI_toInt (by first | omega | (dsimp only; omega))]; omega
  have hagm : (nI ag - 1).toInt = (ag : Int) - 1 := by
    rw [show (1 : Int32) = nI 1 from rfl, i_sub _ _ (by rw [hagI, nI_toInt (by first | omega | (dsimp only; omega))]; omega) (by rw [hagI, nI_toInt (by first | omega | (dsimp only; omega))]; omega), hagI, nI_toInt (by first | omega | (dsimp only; omega))]
    rfl
  have hM : (1000000 : Int32).toInt = 1000000 := rfl
  have h0 : (0 : Int32).toInt = 0 := rfl
  have hkz := h.1
  by_cases ho : k = 1 ∨ k = 5
  · rcases (by omega : e = 0 ∨ e = 1 ∨ e = 2) with rfl | rfl | rfl <;> rcases (by omega : s = 0 ∨ s = 1) with rfl | rfl
    · refine need_k h hk hf hex hag (nI ag) 1000000 _ _ hagI hM (by first | omega | (dsimp only; omega)) (by first | omega | (dsimp only; omega)) ?_ (fun A hA => ?_)
      · unfold fX9_need fX9_need_16 fX9_need_21 fX9_need_62 fX9_need_75 fX9_need_94
        rcases ho with rfl | rfl <;> (rw [hkz]; rfl)
      · rw [if_pos rfl, wnr_own ho]; split <;> omega
    · refine need_k h hk hf hex hag 0 (nI ag) _ _ h0 hagI (by first | omega | (dsimp only; omega)) (by first | omega | (dsimp only; omega)) ?_ (fun A hA => ?_)
      · unfold fX9_need fX9_need_16 fX9_need_21 fX9_need_62 fX9_need_75 fX9_need_116
        rcases ho with rfl | rfl <;> (rw [hkz]; rfl)
      · rw [if_neg (by first | omega | (dsimp only; omega)), wnr_own ho]; split <;> omega
    · refine need_k h hk hf hex hag 0 (nI ag - 1) _ _ h0 hagm (by first | omega | (dsimp only; omega)) (by first | omega | (dsimp only; omega)) ?_ (fun A hA => ?_)
      · unfold fX9_need fX9_need_16 fX9_need_21 fX9_need_62 fX9_need_75 fX9_need_113 fX9_need_116
        rcases ho with rfl | rfl <;> (rw [hkz]; rfl)
      · rw [if_pos rfl, wnr_own ho]; split <;> omega
    · refine need_k h hk hf hex hag (nI ag + 1) 1000000 _ _ hag1 hM (by first | omega | (dsimp only; omega)) (by first | omega | (dsimp only; omega)) ?_ (fun A hA => ?_)
      · unfold fX9_need fX9_need_16 fX9_need_21 fX9_need_62 fX9_need_75 fX9_need_91 fX9_need_94
        rcases ho with rfl | rfl <;> (rw [hkz]; rfl)
      · rw [if_neg (by first | omega | (dsimp only; omega)), wnr_own ho]; split <;> omega
    · refine ⟨-9, ?_, Or.inl ⟨rfl, fun x hx => ?_⟩⟩
      · unfold fX9_need fX9_need_16 fX9_need_21
        rcases ho with rfl | rfl <;> (rw [hkz]; rfl)
      · show ¬ (if 0 = 0 then wnr k (wtZ (lsN k f) ex x) ag else wnr k ag (wtZ (lsN k f) ex x)) = 2
        rw [if_pos rfl, wnr_own ho]; split <;> omega
    · refine ⟨-9, ?_, Or.inl ⟨rfl, fun x hx => ?_⟩⟩
      · unfold fX9_need fX9_need_16 fX9_need_21
        rcases ho with rfl | rfl <;> (rw [hkz]; rfl)
      · show ¬ (if 1 = 0 then wnr k (wtZ (lsN k f) ex x) ag else wnr k ag (wtZ (lsN k f) ex x)) = 2
        rw [if_neg (by first | omega | (dsimp only; omega)), wnr_own ho]; split <;> omega
  by_cases h2 : k = 2
  · subst h2
    rcases (by omega : e = 0 ∨ e = 1 ∨ e = 2) with rfl | rfl | rfl <;> rcases (by omega : s = 0 ∨ s = 1) with rfl | rfl
    · refine need_k h hk hf hex hag 0 (nI ag - 1) _ _ h0 hagm (by first | omega | (dsimp only; omega)) (by first | omega | (dsimp only; omega)) ?_ (fun A hA => ?_)
      · unfold fX9_need fX9_need_21 fX9_need_62 fX9_need_75 fX9_need_113 fX9_need_116
        rw [hkz]; rfl
      · rw [if_pos rfl, wnr_fly]; split <;> (try split) <;> omega
    · refine need_k h hk hf hex hag (nI ag + 1) 1000000 _ _ hag1 hM (by first | omega | (dsimp only; omega)) (by first | omega | (dsimp only; omega)) ?_ (fun A hA => ?_)
      · unfold fX9_need fX9_need_21 fX9_need_62 fX9_need_75 fX9_need_91 fX9_need_94
        rw [hkz]; rfl
      · rw [if_neg (by first | omega | (dsimp only; omega)), wnr_fly]; split <;> (try split) <;> omega
    · refine need_k h hk hf hex hag (nI ag + 1) 1000000 _ _ hag1 hM (by first | omega | (dsimp only; omega)) (by first | omega | (dsimp only; omega)) ?_ (fun A hA => ?_)
      · unfold fX9_need fX9_need_21 fX9_need_62 fX9_need_75 fX9_need_91 fX9_need_94
        rw [hkz]; rfl
      · rw [if_pos rfl, wnr_fly]; split <;> (try split) <;> omega
    · refine need_k h hk hf hex hag 0 (nI ag - 1) _ _ h0 hagm (by first | omega | (dsimp only; omega)) (by first | omega | (dsimp only; omega)) ?_ (fun A hA => ?_)
      · unfold fX9_need fX9_need_21 fX9_need_62 fX9_need_75 fX9_need_113 fX9_need_116
        rw [hkz]; rfl
      · rw [if_neg (by first | omega | (dsimp only; omega)), wnr_fly]; split <;> (try split) <;> omega
    · refine need_k h hk hf hex hag (nI ag) (nI ag) _ _ hagI hagI (by first | omega | (dsimp only; omega)) (by first | omega | (dsimp only; omega)) ?_ (fun A hA => ?_)
      · unfold fX9_need fX9_need_21
        rw [hkz]; rfl
      · rw [if_pos rfl, wnr_fly]; split <;> (try split) <;> omega
    · refine need_k h hk hf hex hag (nI ag) (nI ag) _ _ hagI hagI (by first | omega | (dsimp only; omega)) (by first | omega | (dsimp only; omega)) ?_ (fun A hA => ?_)
      · unfold fX9_need fX9_need_21
        rw [hkz]; rfl
      · rw [if_neg (by first | omega | (dsimp only; omega)), wnr_fly]; split <;> (try split) <;> omega
  have hp : k = 0 ∨ k = 3 ∨ k = 4 := by omega
  rcases (by omega : e = 0 ∨ e = 1 ∨ e = 2) with rfl | rfl | rfl <;> rcases (by omega : s = 0 ∨ s = 1) with rfl | rfl
  · refine need_k h hk hf hex hag (nI ag + 1) 1000000 _ _ hag1 hM (by first | omega | (dsimp only; omega)) (by first | omega | (dsimp only; omega)) ?_ (fun A hA => ?_)
    · unfold fX9_need fX9_need_21 fX9_need_62 fX9_need_75 fX9_need_91 fX9_need_94
      rcases hp with rfl | rfl | rfl <;> (rw [hkz]; rfl)
    · rw [if_pos rfl, wnr_pl hp]; split <;> (try split) <;> omega
  · refine need_k h hk hf hex hag 0 (nI ag - 1) _ _ h0 hagm (by first | omega | (dsimp only; omega)) (by first | omega | (dsimp only; omega)) ?_ (fun A hA => ?_)
    · unfold fX9_need fX9_need_21 fX9_need_62 fX9_need_75 fX9_need_113 fX9_need_116
      rcases hp with rfl | rfl | rfl <;> (rw [hkz]; rfl)
    · rw [if_neg (by first | omega | (dsimp only; omega)), wnr_pl hp]; split <;> (try split) <;> omega
  · refine need_k h hk hf hex hag 0 (nI ag - 1) _ _ h0 hagm (by first | omega | (dsimp only; omega)) (by first | omega | (dsimp only; omega)) ?_ (fun A hA => ?_)
    · unfold fX9_need fX9_need_21 fX9_need_62 fX9_need_75 fX9_need_113 fX9_need_116
      rcases hp with rfl | rfl | rfl <;> (rw [hkz]; rfl)
    · rw [if_pos rfl, wnr_pl hp]; split <;> (try split) <;> omega
  · refine need_k h hk hf hex hag (nI ag + 1) 1000000 _ _ hag1 hM (by first | omega | (dsimp only; omega)) (by first | omega | (dsimp only; omega)) ?_ (fun A hA => ?_)
    · unfold fX9_need fX9_need_21 fX9_need_62 fX9_need_75 fX9_need_91 fX9_need_94
      rcases hp with rfl | rfl | rfl <;> (rw [hkz]; rfl)
    · rw [if_neg (by first | omega | (dsimp only; omega)), wnr_pl hp]; split <;> (try split) <;> omega
  · refine need_k h hk hf hex hag (nI ag) (nI ag) _ _ hagI hagI (by first | omega | (dsimp only; omega)) (by first | omega | (dsimp only; omega)) ?_ (fun A hA => ?_)
    · unfold fX9_need fX9_need_21
      rcases hp with rfl | rfl | rfl <;> (rw [hkz]; rfl)
    · rw [if_pos rfl, wnr_pl hp]; split <;> (try split) <;> omega
  · refine need_k h hk hf hex hag (nI ag) (nI ag) _ _ hagI hagI (by first | omega | (dsimp only; omega)) (by first | omega | (dsimp only; omega)) ?_ (fun A hA => ?_)
    · unfold fX9_need fX9_need_21
      rcases hp with rfl | rfl | rfl <;> (rw [hkz]; rfl)
    · rw [if_neg (by first | omega | (dsimp only; omega)), wnr_pl hp]; split <;> (try split) <;> omega
