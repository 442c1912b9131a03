theorem bm {x : Int} (h1 : -2147483648 ≤ x) (h2 : x < 2147483648) : x.bmod (2 ^ 32) = x := Int.bmod_eq_of_le_mul_two (by show -((4294967296 : Nat) : Int) ≤ _; omega) (by show _ < ((4294967296 : Nat) : Int); omega)

/-! picked out of 40.pure -/
theorem rd_wr (mm : Mm) (k j k' j' : Nat) (v : Int32) : rd (wr mm k j v) k' j' = if k' = k ∧ j' = j then v else rd mm k' j' := by
  unfold rd wr upd
  by_cases h : k' = k <;> by_cases h2 : j' = j <;> simp [h, h2]
theorem rd_wr_k {mm : Mm} {k j k' j' : Nat} {v : Int32} (h : k' ≠ k) : rd (wr mm k j v) k' j' = rd mm k' j' := by rw [rd_wr, if_neg (fun q => h q.1)]
theorem rd_wr_j {mm : Mm} {k j j' : Nat} {v : Int32} (h : j' ≠ j) : rd (wr mm k j v) k j' = rd mm k j' := by rw [rd_wr, if_neg (fun q => h q.2)]
theorem rd_wr_s {mm : Mm} {k j : Nat} {v : Int32} : rd (wr mm k j v) k j = v := by rw [rd_wr, if_pos ⟨rfl, rfl⟩]
theorem rdL_wr (mm : Mm) (k j k' j' : Nat) (v : Int32) : rdL (wr mm k j v) k' j' = rdL mm k' j' := rfl
theorem rd_wrL (mm : Mm) (k j k' j' : Nat) (v : Int64) : rd (wrL mm k j v) k' j' = rd mm k' j' := rfl
theorem rdL_wrL (mm : Mm) (k j k' j' : Nat) (v : Int64) : rdL (wrL mm k j v) k' j' = if k' = k ∧ j' = j then v else rdL mm k' j' := by
  unfold rdL wrL vp_updL
  by_cases h : k' = k <;> by_cases h2 : j' = j <;> simp [h, h2]
theorem rd_cpy (mm : Mm) (src dst k j : Nat) (sp dp n : Int32) : rd (cpy mm src dst sp dp n) k j = if k = dst ∧ dp.toNatClampNeg ≤ j ∧ j < dp.toNatClampNeg + n.toNatClampNeg then rd mm src (sp.toNatClampNeg + (j - dp.toNatClampNeg)) else rd mm k j := by
  unfold rd cpy va_cpy
  by_cases h : k = dst
  · subst h
    simp
  · simp [h]
theorem rdL_cpy (mm : Mm) (src dst k j : Nat) (sp dp n : Int32) : rdL (cpy mm src dst sp dp n) k j = rdL mm k j := rfl
theorem gd_t {α : Type} {b : Bool} {x : Option α} (h : b = true) : gd b x = x := if_pos h
theorem bd2_t {α β : Type} {x : Option (α × Mm)} {f : α → Mm → Option β} {a : α} {m1 : Mm} (h : x = some (a, m1)) : bd2 x f = f a m1 := by rw [h]; rfl
theorem nm_t {α β : Type} {x : α} {f : α → β} : nm x f = f x := rfl
theorem cs_some {α : Type} {q : Nat} {a : α} {b : Nat → α} : cs (some q) a b = b q := rfl
theorem cs_none {α : Type} {a : α} {b : Nat → α} : cs none a b = a := rfl
theorem i_lt (a b : Int32) : a < b ↔ a.toInt < b.toInt := Int32.lt_iff_toInt_lt
theorem i_le (a b : Int32) : a ≤ b ↔ a.toInt ≤ b.toInt := Int32.le_iff_toInt_le
theorem i_eq (a b : Int32) : a = b ↔ a.toInt = b.toInt := Int32.toInt_inj.symm
theorem i_b (a : Int32) : -2147483648 ≤ a.toInt ∧ a.toInt < 2147483648 := ⟨Int32.le_toInt a, Int32.toInt_lt a⟩
theorem i_add (a b : Int32) (h1 : -2147483648 ≤ a.toInt + b.toInt) (h2 : a.toInt + b.toInt < 2147483648) : (a + b).toInt = a.toInt + b.toInt := by
  rw [Int32.toInt_add, bm h1 h2]
theorem i_sub (a b : Int32) (h1 : -2147483648 ≤ a.toInt - b.toInt) (h2 : a.toInt - b.toInt < 2147483648) : (a - b).toInt = a.toInt - b.toInt := by
  rw [Int32.toInt_sub, bm h1 h2]
theorem i_mul (a b : Int32) (h1 : -2147483648 ≤ a.toInt * b.toInt) (h2 : a.toInt * b.toInt < 2147483648) : (a * b).toInt = a.toInt * b.toInt := by
  rw [Int32.toInt_mul, bm h1 h2]
theorem i_nat (a : Int32) : a.toNatClampNeg = a.toInt.toNat := rfl
theorem inb_t {i : Int32} {n : Nat} (h1 : 0 ≤ i.toInt) (h2 : i.toInt < n) : inb i n = true := by
  unfold inb
  rw [decide_eq_true_eq]
  rintro (h | h)
  · rw [i_lt] at h
    have : (0 : Int32).toInt = 0 := rfl
    omega
  · rw [i_nat] at h
    omega
theorem nI_ex {x : Int32} {b : Nat} (h1 : 0 ≤ x.toInt) (h2 : x.toInt < b) : ∃ n : Nat, n < b ∧ x = nI n ∧ n < 2147483648 := by
  have := i_b x
  refine ⟨x.toInt.toNat, by omega, ?_, by omega⟩
  rw [i_eq, nI_toInt (by omega)]
  omega
theorem inb_n {i n : Nat} (h : i < n) (hn : n < 2147483648) : inb (nI i) n = true := inb_t (by rw [nI_toInt (by omega)]; omega) (by rw [nI_toInt (by omega)]; omega)
theorem nI_nat {n : Nat} (h : n < 2147483648) : (nI n).toNatClampNeg = n := nI_clamp h

/-! picked out of 41.rel -/
/-- a suit of a court -/
def SOK (i : Nat) (kd w fg : Int32) : Prop := ∃ kn wn : Nat, kn ≤ 5 ∧ 1 ≤ wn ∧ wn ≤ 9 ∧ kd = nI kn ∧ w = nI wn ∧ ((kn ≤ 2 ∧ fg = -9) ∨ ∃ fn : Nat, fg = nI fn ∧ (((kn = 3 ∨ kn = 4) ∧ 1 ≤ fn ∧ fn ≤ 9) ∨ (kn = 5 ∧ fn < i)))
/-- a number of at most b -/
def LE (x : Int32) (b : Nat) : Prop := ∃ n : Nat, n ≤ b ∧ x = nI n
def mxO (f : Nat → Int) : Nat → Int
  | 0 => f 0
  | n + 1 => max (mxO f n) (f (n + 1))
def mnO (f : Nat → Int) : Nat → Int
  | 0 => f 0
  | n + 1 => min (mnO f n) (f (n + 1))
def uK (mm : Mm) (i : Nat) : Nat := (rd mm (17 + i) 0).toInt.toNat
def uW (mm : Mm) (i : Nat) : Nat := (rd mm (17 + i) 1).toInt.toNat
def uF (mm : Mm) (i : Nat) : Nat := (rd mm (17 + i) 2).toInt.toNat
/-- what x sheets weigh in a suit: of kind k, k or j being f, the damp d, b more if the suit that it hangs on was won -/
def wgt (k f d b x : Nat) : Nat := if k = 3 then (if x < 1 then 0 else x + f * d) else if k = 4 then (if x < f then 0 else x + f * d) else if k = 5 then x + b else x
/-- who wins: 0, 1, 2 nobody -/
def wnr (k a b : Nat) : Nat := if a = b then (if k = 1 ∨ k = 5 then 0 else 2) else if (b < a) = (k ≠ 2) then 0 else 1
/-- SCORE of a side -/
def pts (w side who : Nat) : Nat := if who = side then 2 * w else if who = 2 then w else 0
/-- what suit i gives side 0 more than side 1, in turn -/
def gvs (mm : Mm) (d i x y : Nat) : Int := let z := wnr (uK mm i) (wgt (uK mm i) (uF mm i) d 0 x) (wgt (uK mm i) (uF mm i) d 0 y)
  (pts (uW mm i) 0 z : Int) - (pts (uW mm i) 1 z : Int)
def tvR (mm : Mm) (d n : Nat) : Nat → Nat → Nat → Int
  | 0 => fun _ _ => 0
  | r + 1 => fun a b => mxO (fun x => mnO (fun y => gvs mm d (n - (r + 1)) x y + tvR mm d n r (a - x) (b - y)) b) a
def TT (mm : Mm) : Prop := ∃ n d : Nat, rd mm 3 5 = nI n ∧ rd mm 3 6 = nI d ∧ n ≤ 6 ∧ d ≤ 9 ∧ ∀ i a b, i ≤ n → a < 16 → b < 16 → rd mm 53 ((i * 16 + a) * 16 + b) = Int32.ofInt (tvR mm d n (n - i) a b)
def RA (mm : Mm) : Prop := rd mm 32 0 = 0 ∧ rd mm 46 0 = 0 ∧ rd mm 50 0 = 0 ∧ rd mm 60 0 = 0 ∧ ∀ w, w < 6 → rd mm (73 + 4 * w) 0 = 0
def RTT (mm : Mm) : Prop := rd mm 52 2 = 0 ∨ (rd mm 52 2 = 1 ∧ TT mm)
theorem RA_c {mm m2 : Mm} (h : RA mm) (e : ∀ k, (k = 32 ∨ k = 46 ∨ k = 50 ∨ k = 60 ∨ k = 73 ∨ k = 77 ∨ k = 81 ∨ k = 85 ∨ k = 89 ∨ k = 93) → rd m2 k 0 = rd mm k 0) : RA m2 := by
  obtain ⟨h1, h2, h3, h4, h5⟩ := h
  refine ⟨by rw [e _ (by omega)]; exact h1, by rw [e _ (by omega)]; exact h2, by rw [e _ (by omega)]; exact h3, by rw [e _ (by omega)]; exact h4, fun w hw => ?_⟩
  rw [e _ (by omega)]; exact h5 w hw
theorem mnO_c {f g : Nat → Int} : ∀ n, (∀ i, i ≤ n → f i = g i) → mnO f n = mnO g n
  | 0, h => h 0 (Nat.le_refl _)
  | n + 1, h => by
    show min (mnO f n) (f (n + 1)) = min (mnO g n) (g (n + 1))
    rw [mnO_c n (fun i hi => h i (by omega)), h (n + 1) (Nat.le_refl _)]
theorem mxO_c {f g : Nat → Int} : ∀ n, (∀ i, i ≤ n → f i = g i) → mxO f n = mxO g n
  | 0, h => h 0 (Nat.le_refl _)
  | n + 1, h => by
    show max (mxO f n) (f (n + 1)) = max (mxO g n) (g (n + 1))
    rw [mxO_c n (fun i hi => h i (by omega)), h (n + 1) (Nat.le_refl _)]
theorem tvR_c {mm m2 : Mm} {d n : Nat} (hn : n ≤ 6) (e : ∀ k j, (17 ≤ k ∧ k ≤ 22) → rd m2 k j = rd mm k j) : ∀ r, r ≤ n → ∀ a b, tvR m2 d n r a b = tvR mm d n r a b := by
  intro r
  induction r with
  | zero => intro _ a b; rfl
  | succ r ih =>
    intro hr a b
    show mxO _ a = mxO _ a
    refine mxO_c a (fun x _ => mnO_c b (fun y _ => ?_))
    rw [ih (by omega)]
    have : gvs m2 d (n - (r + 1)) x y = gvs mm d (n - (r + 1)) x y := by
      unfold gvs uK uW uF
      rw [e (17 + (n - (r + 1))) 0 (by omega), e (17 + (n - (r + 1))) 1 (by omega), e (17 + (n - (r + 1))) 2 (by omega)]
    rw [this]
theorem RTT_c {mm m2 : Mm} (h : RTT mm) (e : ∀ k j, (17 ≤ k ∧ k ≤ 22) ∨ (k = 3 ∧ (j = 5 ∨ j = 6)) ∨ k = 53 ∨ (k = 52 ∧ j = 2) → rd m2 k j = rd mm k j) : RTT m2 := by
  unfold RTT
  rw [e 52 2 (by omega)]
  rcases h with h | ⟨h, n, d, h1, h2, h3, h4, h5⟩
  · exact Or.inl h
  · refine Or.inr ⟨h, n, d, by rw [e _ _ (by omega)]; exact h1, by rw [e _ _ (by omega)]; exact h2, h3, h4, fun i a b hi ha hb => ?_⟩
    rw [e _ _ (by omega), h5 i a b hi ha hb, tvR_c h3 (fun k j hk => e k j (by omega)) _ (by omega)]

/-! picked out of 42.steps -/
theorem st_g {α : Type} {b : Bool} {x r : Option α} (h : b = true) (e : x = r) : gd b x = r := by rw [gd_t h]; exact e
theorem st_b {α β : Type} {x : Option (α × Mm)} {f : α → Mm → Option β} {a : α} {m1 : Mm} {r : Option β} (h : x = some (a, m1)) (e : f a m1 = r) : bd2 x f = r := by rw [bd2_t h]; exact e
theorem st_n {α β : Type} {x : α} {f : α → β} {r : β} (e : f x = r) : nm x f = r := e
theorem st_t {α : Type} {c : Prop} [Decidable c] {x y r : α} (h : c) (e : x = r) : (if c then x else y) = r := by rw [if_pos h]; exact e
theorem st_f {α : Type} {c : Prop} [Decidable c] {x y r : α} (h : ¬ c) (e : y = r) : (if c then x else y) = r := by rw [if_neg h]; exact e
theorem st_c {α : Type} {q : Nat} {a : α} {b : Nat → α} {r : α} (h : b q = r) : cs (some q) a b = r := h
theorem st_c0 {α : Type} {a : α} {b : Nat → α} {r : α} (h : a = r) : cs none a b = r := h
theorem st_k {α : Type} {i n L : Nat} {x r : Option α} (hl : n = L) (h : i < L) (hL : L ≤ 2000) (e : x = r) : gd (inb (nI i) n) x = r := by
  subst hl; exact st_g (inb_n h (by first | omega | (dsimp only; omega))) e
theorem fr_row {r : Nat} (h : r < 6) : fr (95 + 2 * r) 0 = 96 + 2 * r := by
  rcases (by omega : r = 0 ∨ r = 1 ∨ r = 2 ∨ r = 3 ∨ r = 4 ∨ r = 5) with rfl | rfl | rfl | rfl | rfl | rfl <;> rfl
theorem ln_row {r : Nat} (h : r < 6) : ln (96 + 2 * r) = 40 := by
  rcases (by omega : r = 0 ∨ r = 1 ∨ r = 2 ∨ r = 3 ∨ r = 4 ∨ r = 5) with rfl | rfl | rfl | rfl | rfl | rfl <;> rfl
theorem fr_crt {k : Nat} (h : k < 3) : fr (115 + 20 * k) 0 = 116 + 20 * k ∧ fr (115 + 20 * k) 1 = 117 + 20 * k ∧ fr (115 + 20 * k) 2 = 118 + 20 * k ∧ fr (115 + 20 * k) 3 = 119 + 20 * k ∧ fr (115 + 20 * k) 4 = 128 + 20 * k ∧ ln (116 + 20 * k) = 6 ∧ ln (117 + 20 * k) = 2 ∧ ln (118 + 20 * k) = 4 ∧ ln (119 + 20 * k) = 8 ∧ ln (128 + 20 * k) = 8 ∧ (∀ j, el (116 + 20 * k) j = 129 + 20 * k + j) ∧ (∀ j, el (119 + 20 * k) j = 120 + 20 * k + j) := by
  rcases (by omega : k = 0 ∨ k = 1 ∨ k = 2) with rfl | rfl | rfl <;> exact ⟨rfl, rfl, rfl, rfl, rfl, rfl, rfl, rfl, rfl, rfl, fun _ => rfl, fun _ => rfl⟩
theorem ln_6 {k : Nat} (h : (8 ≤ k ∧ k ≤ 15) ∨ (62 ≤ k ∧ k ≤ 67) ∨ ∃ c j, c < 3 ∧ j < 8 ∧ k = 120 + 20 * c + j) : ln k = 6 := by
  rcases h with h | h | ⟨c, j, hc, hj, rfl⟩
  · rcases (by omega : k = 8 ∨ k = 9 ∨ k = 10 ∨ k = 11 ∨ k = 12 ∨ k = 13 ∨ k = 14 ∨ k = 15) with rfl | rfl | rfl | rfl | rfl | rfl | rfl | rfl <;> rfl
  · rcases (by omega : k = 62 ∨ k = 63 ∨ k = 64 ∨ k = 65 ∨ k = 66 ∨ k = 67) with rfl | rfl | rfl | rfl | rfl | rfl <;> rfl
  · rcases (by omega : c = 0 ∨ c = 1 ∨ c = 2) with rfl | rfl | rfl <;> rcases (by omega : j = 0 ∨ j = 1 ∨ j = 2 ∨ j = 3 ∨ j = 4 ∨ j = 5 ∨ j = 6 ∨ j = 7) with rfl | rfl | rfl | rfl | rfl | rfl | rfl | rfl <;> rfl
/-- an int is one of 0 .. b - 1, or below 0, or greater -/
def Out (a : Int32) (b : Nat) : Prop := a < 0 ∨ ∃ j, b ≤ j ∧ j < 2147483648 ∧ a = nI j
theorem rng (a : Int32) (b : Nat) : (∃ r, r < b ∧ r < 2147483648 ∧ a = nI r) ∨ Out a b := by
  by_cases h1 : a < 0
  · exact Or.inr (Or.inl h1)
  · obtain ⟨j, hj, rfl⟩ := nI_of h1
    by_cases h2 : j < b
    · exact Or.inl ⟨j, h2, hj, rfl⟩
    · exact Or.inr (Or.inr ⟨j, by omega, hj, rfl⟩)
/-- all cells outside of S stay, longs stay -/
def Fr (S : Nat → Nat → Prop) (m m2 : Mm) : Prop := m2.2 = m.2 ∧ ∀ k j, ¬ S k j → rd m2 k j = rd m k j
theorem Fr.rf {S : Nat → Nat → Prop} {m : Mm} : Fr S m m := ⟨rfl, fun _ _ _ => rfl⟩
theorem Fr.tr {S : Nat → Nat → Prop} {m m2 m3 : Mm} (h : Fr S m m2) (h2 : Fr S m2 m3) : Fr S m m3 := ⟨h2.1.trans h.1, fun k j e => (h2.2 k j e).trans (h.2 k j e)⟩
theorem Fr.mono {S T : Nat → Nat → Prop} {m m2 : Mm} (h : Fr S m m2) (q : ∀ k j, S k j → T k j) : Fr T m m2 := ⟨h.1, fun k j e => h.2 k j (fun s => e (q k j s))⟩
theorem fr_wr {S : Nat → Nat → Prop} {m m2 : Mm} {k j : Nat} {v : Int32} (h : Fr S m m2) (hk : S k j) : Fr S m (wr m2 k j v) := ⟨h.1, fun i q e => by
  have : ¬ (i = k ∧ q = j) := fun z => e (by rw [z.1, z.2]; exact hk)
  rw [rd_wr, if_neg this]; exact h.2 i q e⟩
theorem fr_cpy {S : Nat → Nat → Prop} {m m2 : Mm} {a b : Nat} {x y n : Int32} (h : Fr S m m2) (hk : ∀ j, S b j) : Fr S m (cpy m2 a b x y n) := ⟨h.1, fun i q e => by
  have : ¬ i = b := fun z => e (by rw [z]; exact hk q)
  rw [rd_cpy, if_neg (fun z => this z.1)]; exact h.2 i q e⟩
theorem fr_st {S : Nat → Nat → Prop} {m m2 : Mm} {k j : Nat} {v : Int32} (h : Fr S (wr m k j v) m2) (hk : S k j) : Fr S m m2 := Fr.tr (fr_wr Fr.rf hk) h
theorem Fr.L {S : Nat → Nat → Prop} {m m2 : Mm} (h : Fr S m m2) (k j : Nat) : rdL m2 k j = rdL m k j := by unfold rdL; rw [h.1]
theorem nI_mul (a b : Nat) : nI a * nI b = nI (a * b) := by unfold nI; rw [← Int32.ofNat_mul]
theorem nI_sub {a b : Nat} (h : b ≤ a) : nI a - nI b = nI (a - b) := by
  have e := nI_add (a - b) b
  rw [Nat.sub_add_cancel h] at e
  rw [← e, Int32.add_sub_cancel]
theorem nI_inj {a b : Nat} (e : nI a = nI b) (ha : a < 2147483648) (hb : b < 2147483648) : a = b := (nI_eq ha hb).mp e
theorem neg9_ne {n : Nat} (h : n < 2147483648) : nI n ≠ -9 := fun e => by
  have h1 := nI_toInt h
  rw [e] at h1
  have : (-9 : Int32).toInt = -9 := rfl
  omega
theorem neg1_ne {n : Nat} (h : n < 2147483648) : nI n ≠ -1 := fun e => by
  have h1 := nI_toInt h
  rw [e] at h1
  have : (-1 : Int32).toInt = -1 := rfl
  omega
theorem LXa : fr 0 0 = 1 ∧ fr 0 1 = 2 ∧ fr 0 2 = 3 ∧ fr 0 3 = 23 ∧ fr 0 4 = 24 ∧ fr 0 5 = 29 ∧ fr 0 6 = 33 ∧ fr 0 7 = 35 ∧ fr 0 8 = 40 ∧ fr 0 9 = 42 ∧ fr 0 10 = 52 ∧ fr 0 11 = 55 ∧ fr 0 12 = 94 ∧ ln 1 = 6 ∧ (∀ j, el 1 j = 95 + 2 * j) ∧ ln 2 = 4 ∧ (∀ j, el 2 j = 107 + 2 * j) ∧ fr 3 0 = 4 ∧ fr 3 1 = 5 ∧ fr 3 2 = 6 ∧ fr 3 3 = 7 ∧ fr 3 4 = 16 ∧ ln 4 = 6 ∧ (∀ j, el 4 j = 17 + j) ∧ ln 5 = 2 ∧ ln 6 = 4 ∧ ln 7 = 8 ∧ (∀ j, el 7 j = 8 + j) ∧ ln 8 = 6 ∧ ln 9 = 6 ∧ ln 10 = 6 ∧ ln 11 = 6 ∧ ln 12 = 6 ∧ ln 13 = 6 ∧ ln 14 = 6 ∧ ln 15 = 6 ∧ ln 16 = 8 ∧ ln 23 = 3 ∧ (∀ j, el 23 j = 115 + 20 * j) := ⟨rfl, rfl, rfl, rfl, rfl, rfl, rfl, rfl, rfl, rfl, rfl, rfl, rfl, rfl, (fun _ => rfl), rfl, (fun _ => rfl), rfl, rfl, rfl, rfl, rfl, rfl, (fun _ => rfl), rfl, rfl, rfl, (fun _ => rfl), rfl, rfl, rfl, rfl, rfl, rfl, rfl, rfl, rfl, rfl, (fun _ => rfl)⟩
theorem LXb : fr 24 0 = 25 ∧ fr 24 1 = 26 ∧ fr 24 2 = 27 ∧ fr 24 3 = 28 ∧ ln 25 = 2 ∧ ln 26 = 6 ∧ ln 27 = 6 ∧ ln 28 = 6 ∧ fr 29 0 = 30 ∧ fr 29 1 = 31 ∧ fr 29 2 = 32 ∧ ln 30 = 6 ∧ ln 31 = 6 ∧ ln 32 = 7 ∧ fr 33 0 = 34 ∧ ln 34 = 6 ∧ fr 35 0 = 36 ∧ fr 35 3 = 37 ∧ fr 35 4 = 38 ∧ fr 35 5 = 39 ∧ ln 36 = 6 ∧ ln 37 = 241 ∧ ln 38 = 6 ∧ ln 39 = 6 ∧ fr 40 0 = 41 ∧ ln 41 = 6 ∧ fr 42 0 = 43 ∧ fr 42 1 = 47 ∧ fr 42 2 = 51 ∧ fr 43 0 = 44 ∧ fr 43 1 = 45 ∧ fr 43 2 = 46 ∧ ln 44 = 6 ∧ ln 45 = 6 ∧ ln 46 = 7 ∧ fr 47 0 = 48 ∧ fr 47 1 = 49 ∧ fr 47 2 = 50 ∧ ln 48 = 6 ∧ ln 49 = 6 ∧ ln 50 = 7 ∧ ln 51 = 109 ∧ fr 52 0 = 53 ∧ fr 52 1 = 54 ∧ ln 53 = 1792 ∧ ln 54 = 48 ∧ fr 55 0 = 56 ∧ fr 55 1 = 57 ∧ fr 55 2 = 61 ∧ fr 55 3 = 68 ∧ fr 55 4 = 69 := ⟨rfl, rfl, rfl, rfl, rfl, rfl, rfl, rfl, rfl, rfl, rfl, rfl, rfl, rfl, rfl, rfl, rfl, rfl, rfl, rfl, rfl, rfl, rfl, rfl, rfl, rfl, rfl, rfl, rfl, rfl, rfl, rfl, rfl, rfl, rfl, rfl, rfl, rfl, rfl, rfl, rfl, rfl, rfl, rfl, rfl, rfl, rfl, rfl, rfl, rfl, rfl⟩
theorem LXg : fr 55 0 = 56 ∧ fr 55 1 = 57 ∧ fr 55 2 = 61 ∧ fr 55 3 = 68 ∧ fr 55 4 = 69 ∧ ln 56 = 6 ∧ fr 57 0 = 58 ∧ fr 57 1 = 59 ∧ fr 57 2 = 60 ∧ ln 58 = 6 ∧ ln 59 = 6 ∧ ln 60 = 7 ∧ ln 61 = 6 ∧ (∀ j, el 61 j = 62 + j) ∧ ln 62 = 6 ∧ ln 63 = 6 ∧ ln 64 = 6 ∧ ln 65 = 6 ∧ ln 66 = 6 ∧ ln 67 = 6 ∧ ln 68 = 6 ∧ (∀ j, el 68 j = 70 + 4 * j) ∧ ln 69 = 6 ∧ fr 70 0 = 71 ∧ fr 70 1 = 72 ∧ fr 70 2 = 73 ∧ ln 71 = 6 ∧ ln 72 = 6 ∧ ln 73 = 7 ∧ fr 74 0 = 75 ∧ fr 74 1 = 76 ∧ fr 74 2 = 77 ∧ ln 75 = 6 ∧ ln 76 = 6 ∧ ln 77 = 7 ∧ fr 78 0 = 79 ∧ fr 78 1 = 80 ∧ fr 78 2 = 81 ∧ ln 79 = 6 ∧ ln 80 = 6 ∧ ln 81 = 7 ∧ fr 82 0 = 83 ∧ fr 82 1 = 84 ∧ fr 82 2 = 85 ∧ ln 83 = 6 ∧ ln 84 = 6 ∧ ln 85 = 7 ∧ fr 86 0 = 87 ∧ fr 86 1 = 88 ∧ fr 86 2 = 89 ∧ ln 87 = 6 ∧ ln 88 = 6 ∧ ln 89 = 7 ∧ fr 90 0 = 91 ∧ fr 90 1 = 92 ∧ fr 90 2 = 93 ∧ ln 91 = 6 ∧ ln 92 = 6 ∧ ln 93 = 7 ∧ ln 94 = 6 := ⟨rfl, rfl, rfl, rfl, rfl, rfl, rfl, rfl, rfl, rfl, rfl, rfl, rfl, (fun _ => rfl), rfl, rfl, rfl, rfl, rfl, rfl, rfl, (fun _ => rfl), rfl, rfl, rfl, rfl, rfl, rfl, rfl, rfl, rfl, rfl, rfl, rfl, rfl, rfl, rfl, rfl, rfl, rfl, rfl, rfl, rfl, rfl, rfl, rfl, rfl, rfl, rfl, rfl, rfl, rfl, rfl, rfl, rfl, rfl, rfl, rfl, rfl, rfl⟩

/-! picked out of 43.rows -/
def cRef (f : Nat) (mm : Mm) : Mm := wr (wr mm 0 13 (nI f)) 94 f (rd mm 94 f + 1)
theorem c_ref {N : Nat} {mm : Mm} (f : Nat) {a : Int32} (ha : a = nI f) (hf : f < 6) : fX11_refused N 0 a mm = some (-3, cRef f mm) := by
  subst ha
  unfold fX11_refused cRef
  refine st_n ?_
  refine st_k (L := 6) rfl hf (by first | omega | (dsimp only; omega)) ?_
  refine st_k (L := 6) rfl hf (by first | omega | (dsimp only; omega)) ?_
  simp only [LXa, nI_nat (show f < 2147483648 by omega)]
  refine st_n ?_
  rw [rd_wr_k (by first | omega | (dsimp only; omega))]
theorem rowOf_t {N r : Nat} {mm : Mm} (h : r < 6) : fX11_rowOf N 0 (nI r) mm = some (some (95 + 2 * r), mm) := by
  unfold fX11_rowOf
  refine st_f (nI_pos (by first | omega | (dsimp only; omega))) (st_t (nI_lt h (by first | omega | (dsimp only; omega))) (st_k (L := 6) rfl h (by first | omega | (dsimp only; omega)) ?_))
  rw [nI_nat (by first | omega | (dsimp only; omega))]; rfl
theorem rowOf_n {N : Nat} {a : Int32} {mm : Mm} (h : Out a 6) : fX11_rowOf N 0 a mm = some (none, mm) := by
  unfold fX11_rowOf
  rcases h with h | ⟨j, h1, h2, rfl⟩
  · exact st_t h rfl
  · exact st_f (nI_pos h2) (st_f (nI_nlt h1 h2) rfl)
theorem textOf_t {N r : Nat} {mm : Mm} (h : r < 4) : fX11_textOf N 0 (nI r) mm = some (some (107 + 2 * r), mm) := by
  unfold fX11_textOf
  refine st_f (nI_pos (by first | omega | (dsimp only; omega))) (st_t (nI_lt h (by first | omega | (dsimp only; omega))) (st_k (L := 4) rfl h (by first | omega | (dsimp only; omega)) ?_))
  rw [nI_nat (by first | omega | (dsimp only; omega))]; rfl
theorem textOf_n {N : Nat} {a : Int32} {mm : Mm} (h : Out a 4) : fX11_textOf N 0 a mm = some (none, mm) := by
  unfold fX11_textOf
  rcases h with h | ⟨j, h1, h2, rfl⟩
  · exact st_t h rfl
  · exact st_f (nI_pos h2) (st_f (nI_nlt h1 h2) rfl)
theorem miss_t {N k : Nat} {mm : Mm} (h : rd mm k 1 = -1) : fX6_isMissing N k mm = some (1, mm) := by
  unfold fX6_isMissing
  exact st_f (by rw [h]; decide) rfl
theorem miss_f {N k n : Nat} {mm : Mm} (h : rd mm k 1 = nI n) (hn : n < 2147483648) : fX6_isMissing N k mm = some (0, mm) := by
  unfold fX6_isMissing
  exact st_t (by rw [h]; exact nI_pos' hn) rfl
theorem has_t {N k n i : Nat} {mm : Mm} (h : rd mm k 1 = nI n) (hn : n < 2147483648) (hi : i < n) : fX6_has N k (nI i) mm = some (1, mm) := by
  unfold fX6_has
  exact st_f (nI_pos (by first | omega | (dsimp only; omega))) (st_f (by rw [h]; exact nI_ge hi hn) rfl)
theorem has_f {N k n : Nat} {a : Int32} {mm : Mm} (h : rd mm k 1 = nI n) (ho : Out a n) : fX6_has N k a mm = some (0, mm) := by
  unfold fX6_has
  rcases ho with ho | ⟨j, h1, h2, rfl⟩
  · exact st_t ho rfl
  · exact st_f (nI_pos h2) (st_t (by rw [h]; exact nI_le h1 h2) rfl)
theorem fill_l {N k L : Nat} {v : Int32} (hl : ln k = L) (hL : L ≤ 1800) : ∀ m i mm, i + m = L → ∀ f, m < f → ∃ m', fJ7_fill_53178_5 N f k v (nI i) (nI L) mm = some ((), m') ∧ Fr (fun q _ => q = k) mm m' ∧ (∀ j, i ≤ j → j < L → rd m' k j = v) ∧ ∀ j, j < i → rd m' k j = rd mm k j := by
  intro m
  induction m with
  | zero =>
    intro i mm hi f hf
    obtain ⟨f, rfl⟩ : ∃ g, f = g + 1 := ⟨f - 1, by omega⟩
    refine ⟨mm, ?_, Fr.rf, fun j h1 h2 => by omega, fun _ _ => rfl⟩
    unfold fJ7_fill_53178_5
    exact st_t (nI_le (by first | omega | (dsimp only; omega)) (by first | omega | (dsimp only; omega))) rfl
  | succ m ih =>
    intro i mm hi f hf
    obtain ⟨f, rfl⟩ : ∃ g, f = g + 1 := ⟨f - 1, by omega⟩
    obtain ⟨m', h1, h2, h3, h4⟩ := ih (i + 1) (wr mm k i v) (by first | omega | (dsimp only; omega)) f (by first | omega | (dsimp only; omega))
    refine ⟨m', ?_, fr_st h2 rfl, fun j a b => ?_, fun j a => ?_⟩
    · unfold fJ7_fill_53178_5
      refine st_f (nI_ge (by first | omega | (dsimp only; omega)) (by first | omega | (dsimp only; omega))) (st_k hl (by first | omega | (dsimp only; omega)) (by first | omega | (dsimp only; omega)) (st_n ?_))
      rw [nI_nat (by first | omega | (dsimp only; omega)), nI_1]
      exact h1
    · by_cases hj : j = i
      · subst hj; rw [h4 _ (by first | omega | (dsimp only; omega)), rd_wr_s]
      · exact h3 j (by first | omega | (dsimp only; omega)) b
    · rw [h4 _ (by first | omega | (dsimp only; omega)), rd_wr_j (by first | omega | (dsimp only; omega))]
theorem fill_ok {N k L : Nat} {v : Int32} {mm : Mm} (hN : 100000 ≤ N) (hl : ln k = L) (hL : L ≤ 1800) : ∃ m', fJ7_fill_53178 N k v mm = some ((), m') ∧ Fr (fun q _ => q = k) mm m' ∧ ∀ j, j < L → rd m' k j = v := by
  obtain ⟨m', h1, h2, h3, -⟩ := fill_l (N := N) (v := v) hl hL L 0 mm (by first | omega | (dsimp only; omega)) N (by first | omega | (dsimp only; omega))
  refine ⟨m', ?_, h2, fun j hj => h3 j (by first | omega | (dsimp only; omega)) hj⟩
  unfold fJ7_fill_53178
  rw [hl]
  exact h1

/-! picked out of 45.copy -/
def sL (g : Nat → Int32) : Nat → Int64
  | 0 => 0
  | n + 1 => sL g n + (g n).toInt64
theorem sL_c {g h : Nat → Int32} : ∀ n, (∀ i, i < n → g i = h i) → sL g n = sL h n
  | 0, _ => rfl
  | n + 1, e => by
    show sL g n + (g n).toInt64 = sL h n + (h n).toInt64
    rw [sL_c n (fun i hi => e i (by first | omega | (dsimp only; omega))), e n (by first | omega | (dsimp only; omega))]
theorem total_l {N k q L n : Nat} {mm : Mm} (hk : fr k 0 = q) (hq : ln q = L) (hs : rd mm k 1 = nI n) (hn : n ≤ L) (hL : L ≤ 80) : ∀ m i, i + m = n → ∀ f, m < f → fX6_total_4 N f k (sL (fun j => rd mm q j) i) (nI i) mm = some (sL (fun j => rd mm q j) n, mm) := by
  intro m
  induction m with
  | zero =>
    intro i hi f hf
    obtain ⟨f, rfl⟩ : ∃ g, f = g + 1 := ⟨f - 1, by omega⟩
    obtain rfl : i = n := by omega
    unfold fX6_total_4
    exact st_t (by rw [hs]; exact nI_le (by first | omega | (dsimp only; omega)) (by first | omega | (dsimp only; omega))) rfl
  | succ m ih =>
    intro i hi f hf
    obtain ⟨f, rfl⟩ : ∃ g, f = g + 1 := ⟨f - 1, by omega⟩
    unfold fX6_total_4
    refine st_f (by rw [hs]; exact nI_ge (by first | omega | (dsimp only; omega)) (by first | omega | (dsimp only; omega))) ?_
    rw [hk]
    refine st_k hq (by first | omega | (dsimp only; omega)) (by first | omega | (dsimp only; omega)) (st_n ?_)
    rw [nI_nat (by first | omega | (dsimp only; omega)), nI_1]
    exact ih (i + 1) (by first | omega | (dsimp only; omega)) f (by first | omega | (dsimp only; omega))
theorem total_ok {N k q L n : Nat} {mm : Mm} (hN : 100000 ≤ N) (hk : fr k 0 = q) (hq : ln q = L) (hs : rd mm k 1 = nI n) (hn : n ≤ L) (hL : L ≤ 80) : fX6_total N k mm = some (sL (fun j => rd mm q j) n, mm) := by
  unfold fX6_total
  exact total_l hk hq hs hn hL n 0 (by first | omega | (dsimp only; omega)) N (by first | omega | (dsimp only; omega))
theorem total_m {N k : Nat} {mm : Mm} (hN : 100000 ≤ N) (hs : rd mm k 1 = -1) : fX6_total N k mm = some (0, mm) := by
  obtain ⟨f, rfl⟩ : ∃ g, N = g + 1 := ⟨N - 1, by omega⟩
  unfold fX6_total fX6_total_4
  exact st_t (by rw [hs]; decide) rfl
theorem l_nz {n : Nat} (h : 0 < n) (hn : n ≤ 1000) : nzL (nI n).toInt64 = true := by
  unfold nzL
  rw [decide_eq_true_eq]
  intro e
  have h1 : ((nI n).toInt64).toInt = ((0 : Int64)).toInt := by rw [e]
  rw [Int32.toInt_toInt64, nI_toInt (by first | omega | (dsimp only; omega))] at h1
  have : (0 : Int64).toInt = 0 := rfl
  omega
theorem l_add {a b : Nat} (ha : a < 2147483648) (hb : b < 2147483648) : ((nI a).toInt64 + (nI b).toInt64).toInt = a + b := by
  have h1 : ((nI a).toInt64).toInt = a := by rw [Int32.toInt_toInt64, nI_toInt ha]
  have h2 : ((nI b).toInt64).toInt = b := by rw [Int32.toInt_toInt64, nI_toInt hb]
  rw [Int64.toInt_add, h1, h2]
  exact Int.bmod_eq_of_le_mul_two (by show -((18446744073709551616 : Nat) : Int) ≤ _; omega) (by show _ < ((18446744073709551616 : Nat) : Int); omega)
theorem l_nI {a : Nat} (ha : a < 2147483648) : ((nI a).toInt64).toInt = a := by rw [Int32.toInt_toInt64, nI_toInt ha]
theorem cpok_n {L M i j c : Nat} (hi : i + c ≤ L) (hj : j + c ≤ M) (hL : L ≤ 1000) (hM : M ≤ 1000) : cpok L M (nI i) (nI j) (nI c) = true := by
  unfold cpok
  rw [decide_eq_true_eq, nI_nat (by first | omega | (dsimp only; omega)), nI_nat (by first | omega | (dsimp only; omega)), nI_nat (by first | omega | (dsimp only; omega))]
  exact ⟨nI_pos (by first | omega | (dsimp only; omega)), nI_pos (by first | omega | (dsimp only; omega)), nI_pos (by first | omega | (dsimp only; omega)), hi, hj⟩

/-! picked out of 47.put -/
theorem byte_rng (v : Int32) : -128 ≤ v.toInt8.toInt32.toInt ∧ v.toInt8.toInt32.toInt ≤ 127 := by
  rw [Int8.toInt_toInt32]
  have h1 := Int8.le_toInt v.toInt8
  have h2 := Int8.toInt_lt v.toInt8
  omega

/-! picked out of 48.court -/
def gI (k f : Nat) : Int32 := if k ≤ 2 then -9 else nI f
def kok (k w f i : Nat) : Prop := k ≤ 5 ∧ 1 ≤ w ∧ w ≤ 9 ∧ f ≤ 9 ∧ ((k = 3 ∨ k = 4) → 1 ≤ f) ∧ (k = 5 → f < i) ∧ (k ≤ 2 → f = 0)
def SU (mm : Mm) (z k w f : Nat) : Prop := rd mm z 0 = nI k ∧ rd mm z 1 = nI w ∧ rd mm z 2 = gI k f
/-- the suits of the class' court -/
def CS (mm : Mm) (n : Nat) (K W F : Nat → Nat) : Prop := rd mm 3 5 = nI n ∧ n ≤ 6 ∧ ∀ i, i < n → SU mm (17 + i) (K i) (W i) (F i) ∧ kok (K i) (W i) (F i) i
theorem CS_c {mm m2 : Mm} {n : Nat} {K W F : Nat → Nat} (h : CS mm n K W F) (e : ∀ k j, (17 ≤ k ∧ k ≤ 22) ∨ (k = 3 ∧ j = 5) → rd m2 k j = rd mm k j) : CS m2 n K W F := by
  obtain ⟨h1, h2, h3⟩ := h
  refine ⟨by rw [e _ _ (by first | omega | (dsimp only; omega))]; exact h1, h2, fun i hi => ?_⟩
  obtain ⟨⟨a, b, c⟩, d⟩ := h3 i hi
  exact ⟨⟨by rw [e _ _ (by first | omega | (dsimp only; omega))]; exact a, by rw [e _ _ (by first | omega | (dsimp only; omega))]; exact b, by rw [e _ _ (by first | omega | (dsimp only; omega))]; exact c⟩, d⟩
theorem nI_back {n : Nat} (h : n < 2147483648) : (nI n).toInt.toNat = n := by rw [nI_toInt h]; omega
theorem SOK_u {i : Nat} {mm : Mm} {z : Nat} (h : SOK i (rd mm z 0) (rd mm z 1) (rd mm z 2)) (hi : i < 6) : SU mm z (rd mm z 0).toInt.toNat (rd mm z 1).toInt.toNat (rd mm z 2).toInt.toNat ∧ kok (rd mm z 0).toInt.toNat (rd mm z 1).toInt.toNat (rd mm z 2).toInt.toNat i := by
  obtain ⟨kn, wn, h1, h2, h3, h4, h5, h6⟩ := h
  unfold SU kok
  rw [h4, h5, nI_back (by first | omega | (dsimp only; omega)), nI_back (by first | omega | (dsimp only; omega))]
  rcases h6 with ⟨h6, h7⟩ | ⟨fn, h6, h7⟩
  · rw [h7]
    have : (-9 : Int32).toInt.toNat = 0 := rfl
    rw [this]
    refine ⟨⟨rfl, rfl, ?_⟩, by omega, by omega, by omega, by omega, by omega, by omega, by omega⟩
    unfold gI; rw [if_pos h6]
  · rw [h6, nI_back (by first | omega | (dsimp only; omega))]
    refine ⟨⟨rfl, rfl, ?_⟩, by omega, by omega, by omega, by omega, by omega, by omega, by omega⟩
    unfold gI; rw [if_neg (by first | omega | (dsimp only; omega))]
theorem suitOf_t {N n i : Nat} {K W F : Nat → Nat} {mm : Mm} (h : CS mm n K W F) (hi : i < n) : fX0_suitOf N 3 (nI i) mm = some (some (17 + i), mm) := by
  have hn := h.2.1
  unfold fX0_suitOf
  refine st_f (nI_pos (by first | omega | (dsimp only; omega))) (st_f (by rw [h.1]; exact nI_ge hi (by first | omega | (dsimp only; omega))) (st_t (nI_lt (by first | omega | (dsimp only; omega)) (by first | omega | (dsimp only; omega))) (st_k (L := 6) rfl (by first | omega | (dsimp only; omega)) (by first | omega | (dsimp only; omega)) ?_)))
  rw [nI_nat (by first | omega | (dsimp only; omega))]; rfl
theorem suitOf_n {N n : Nat} {a : Int32} {K W F : Nat → Nat} {mm : Mm} (h : CS mm n K W F) (ho : Out a n) : fX0_suitOf N 3 a mm = some (none, mm) := by
  have hn := h.2.1
  unfold fX0_suitOf
  rcases ho with ho | ⟨j, h1, h2, rfl⟩
  · exact st_t ho rfl
  · exact st_f (nI_pos h2) (st_t (by rw [h.1]; exact nI_le h1 h2) rfl)
theorem suitOf_e {N n : Nat} {K W F : Nat → Nat} {mm : Mm} (h : CS mm n K W F) : fX0_suitOf N 3 (nI n) mm = some (none, mm) := by
  have hn := h.2.1
  exact suitOf_n h (Or.inr ⟨n, Nat.le_refl _, by omega, rfl⟩)
def isaN (k o : Nat) : Nat := if k = o ∨ (o = 1 ∧ k = 5) ∨ (o = 3 ∧ k = 4) then 1 else 0
theorem isA_e {N z k w f o : Nat} {mm : Mm} (h : SU mm z k w f) (hk : k ≤ 5) (ho : 1 ≤ o ∧ o ≤ 5) : fX9_isA N z (nI o) mm = some (nI (isaN k o), mm) := by
  unfold fX9_isA fX9_isA_25
  rw [h.1]
  obtain ⟨o1, o2⟩ := ho
  rcases (by omega : k = 0 ∨ k = 1 ∨ k = 2 ∨ k = 3 ∨ k = 4 ∨ k = 5) with rfl | rfl | rfl | rfl | rfl | rfl <;> rcases (by omega : o = 1 ∨ o = 2 ∨ o = 3 ∨ o = 4 ∨ o = 5) with rfl | rfl | rfl | rfl | rfl <;> rfl
theorem isaN_1 (k o : Nat) : isaN k o ≤ 1 := by unfold isaN; split <;> omega
def exN (k f d b : Nat) : Nat := if k = 3 ∨ k = 4 then f * d else if b = 0 then 0 else 2
def lsN (k f : Nat) : Nat := if k = 4 then f else if k = 3 then 1 else 0
theorem extra_e {N z k w f d b : Nat} {mm : Mm} (h : SU mm z k w f) (hk : k ≤ 5) (hb : b ≤ 1) : fX9_extra N z (nI d) (nI b) mm = some (nI (exN k f d b), mm) := by
  unfold fX9_extra exN
  rw [h.1, h.2.2]
  rcases (by omega : k = 0 ∨ k = 1 ∨ k = 2 ∨ k = 3 ∨ k = 4 ∨ k = 5) with rfl | rfl | rfl | rfl | rfl | rfl <;> rcases (by omega : b = 0 ∨ b = 1) with rfl | rfl <;> first | rfl | (refine st_t rfl ?_; rw [if_pos (by first | omega | (dsimp only; omega))]; unfold gI; rw [if_neg (by first | omega | (dsimp only; omega)), nI_mul]) | (refine st_f (by decide) (st_t rfl ?_); rw [if_pos (by first | omega | (dsimp only; omega))]; unfold gI; rw [if_neg (by first | omega | (dsimp only; omega)), nI_mul])
theorem least_e {N z k w f : Nat} {mm : Mm} (h : SU mm z k w f) (hk : k ≤ 5) : fX9_least N z mm = some (nI (lsN k f), mm) := by
  unfold fX9_least lsN
  rw [h.1, h.2.2]
  rcases (by omega : k = 0 ∨ k = 1 ∨ k = 2 ∨ k = 3 ∨ k = 4 ∨ k = 5) with rfl | rfl | rfl | rfl | rfl | rfl <;> rfl
theorem lsN_9 {k f : Nat} (hf : f ≤ 9) : lsN k f ≤ 9 := by unfold lsN; split <;> (try split) <;> omega
theorem weight_e {N z k w f x e : Nat} {mm : Mm} (h : SU mm z k w f) (hk : k ≤ 5) (hf : f ≤ 9) (hx : x < 2147483648) : fX9_weight N z (nI x) (nI e) mm = some (nI (if x < lsN k f then 0 else x + e), mm) := by
  have h9 := lsN_9 (k := k) hf
  unfold fX9_weight
  refine st_b (least_e h hk) ?_
  by_cases hl : x < lsN k f
  · rw [if_pos hl]; exact st_f (nI_ge hl (by first | omega | (dsimp only; omega))) rfl
  · rw [if_neg hl]
    refine st_t (nI_le (by first | omega | (dsimp only; omega)) (by first | omega | (dsimp only; omega))) ?_
    rw [nI_add]
theorem winner_e {N z k w f a b : Nat} {mm : Mm} (h : SU mm z k w f) (hk : k ≤ 5) (ha : a < 2147483648) (hb : b < 2147483648) : fX9_winner N z (nI a) (nI b) mm = some (nI (wnr k a b), mm) := by
  unfold fX9_winner fX9_winner_37 fX9_winner_50 wnr
  rw [h.1]
  by_cases hab : a = b
  · subst hab
    refine st_t rfl ?_
    rw [if_pos rfl]
    rcases (by omega : k = 0 ∨ k = 1 ∨ k = 2 ∨ k = 3 ∨ k = 4 ∨ k = 5) with rfl | rfl | rfl | rfl | rfl | rfl <;> rfl
  · rw [if_neg hab]
    refine st_f (fun e => hab (nI_inj e ha hb)) ?_
    by_cases hlt : a ≤ b
    · refine st_t (nI_le hlt hb) ?_
      have : ¬ b < a := by omega
      rcases (by omega : k = 0 ∨ k = 1 ∨ k = 2 ∨ k = 3 ∨ k = 4 ∨ k = 5) with rfl | rfl | rfl | rfl | rfl | rfl <;> simp [this] <;> rfl
    · refine st_f (nI_ge (by first | omega | (dsimp only; omega)) ha) ?_
      have : b < a := by omega
      rcases (by omega : k = 0 ∨ k = 1 ∨ k = 2 ∨ k = 3 ∨ k = 4 ∨ k = 5) with rfl | rfl | rfl | rfl | rfl | rfl <;> simp [this] <;> rfl
theorem wnr_2 (k a b : Nat) : wnr k a b ≤ 2 := by unfold wnr; split <;> split <;> omega
theorem points_e {N z k w f s e : Nat} {mm : Mm} (h : SU mm z k w f) (hs : s ≤ 1) (he : e ≤ 2) : fX9_points N z (nI s) (nI e) mm = some (nI (pts w s e), mm) := by
  unfold fX9_points pts
  rw [h.2.1]
  by_cases h1 : e = s
  · subst h1
    refine st_t rfl ?_
    rw [if_pos rfl, show (2 : Int32) = nI 2 from rfl, nI_mul]
  · rw [if_neg h1]
    refine st_f (fun q => h1 (nI_inj q (by first | omega | (dsimp only; omega)) (by first | omega | (dsimp only; omega)))) ?_
    by_cases h2 : e = 2
    · subst h2; refine st_t rfl ?_; rw [if_pos rfl]
    · rw [if_neg h2]
      exact st_f (fun q => h2 (nI_inj (b := 2) q (by first | omega | (dsimp only; omega)) (by first | omega | (dsimp only; omega)))) rfl
theorem pts_18 {w s e : Nat} (hw : w ≤ 9) : pts w s e ≤ 18 := by unfold pts; split <;> (try split) <;> omega
/-- who won the suit that it hangs on; 2 for another kind -/
def ahN (k f : Nat) (w : Nat → Nat) : Nat := if k = 5 then w f else 2
theorem ahead_e {N z k w f p : Nat} {wf : Nat → Nat} {mm : Mm} (h : SU mm z k w f) (hk : k ≤ 5) (hf : k = 5 → f < 6) (hp : ln p = 6) (hw : k = 5 → rd mm p f = nI (wf f)) : fX9_aheadIn N z p mm = some (nI (ahN k f wf), mm) := by
  unfold fX9_aheadIn ahN
  rw [h.1, h.2.2, hp]
  rcases (by omega : k = 5 ∨ k < 5) with rfl | h5
  · refine st_t rfl ?_
    have e : gI 5 f = nI f := rfl
    rw [e, if_pos rfl]
    have hf := hf rfl
    refine st_f (nI_pos (by first | omega | (dsimp only; omega))) (st_f (nI_ge hf (by first | omega | (dsimp only; omega))) (st_k rfl hf (by first | omega | (dsimp only; omega)) ?_))
    rw [nI_nat (by first | omega | (dsimp only; omega)), hw rfl]
  · rw [if_neg (show ¬ k = 5 by omega)]
    exact st_f (fun q => by have := nI_inj (a := k) (b := 5) q (by first | omega | (dsimp only; omega)) (by first | omega | (dsimp only; omega)); omega) rfl
/-- the weight is the same by both ways to say it -/
theorem wgt_ex {k f d b x : Nat} (hk : k ≤ 5) (hb : k < 5 → b = 0) : (if x < lsN k f then 0 else x + exN k f d b) = wgt k f d (if b = 0 then 0 else 2) x := by
  unfold lsN exN wgt
  rcases (by omega : k = 0 ∨ k = 1 ∨ k = 2 ∨ k = 3 ∨ k = 4 ∨ k = 5) with rfl | rfl | rfl | rfl | rfl | rfl
  · simp [hb (by first | omega | (dsimp only; omega))]
  · simp [hb (by first | omega | (dsimp only; omega))]
  · simp [hb (by first | omega | (dsimp only; omega))]
  · simp
  · simp
  · simp
theorem wgt_b {k f d b x : Nat} (hf : f ≤ 9) (hd : d ≤ 9) (hb : b ≤ 2) (hx : x ≤ 100000) : wgt k f d b x ≤ 200000 := by
  have : f * d ≤ 81 := Nat.mul_le_mul hf hd
  unfold wgt
  split <;> (try split) <;> (try split) <;> (try split) <;> omega
theorem wgt_k {k f d b b' x : Nat} (h : k = 5 → b = b') : wgt k f d b x = wgt k f d b' x := by
  unfold wgt
  by_cases hk : k = 5
  · rw [h hk]
  · simp only [hk, if_false]
theorem wgt_3 {f d b x : Nat} : wgt 3 f d b x = if x < 1 then 0 else x + f * d := rfl
theorem wgt_4 {f d b x : Nat} : wgt 4 f d b x = if x < f then 0 else x + f * d := rfl
theorem wgt_5 {f d b x : Nat} : wgt 5 f d b x = x + b := rfl
theorem n3 (i w : Nat) : (3 : Int32) * nI i + nI w = nI (3 * i + w) := by rw [show (3 : Int32) = nI 3 from rfl, nI_mul, nI_add]
/-- who wins suit i, the winners ahead being wf -/
def wst (K F : Nat → Nat) (d : Nat) (wf : Nat → Nat) (i a b : Nat) : Nat := wnr (K i) (wgt (K i) (F i) d (if wf (F i) = 0 then 2 else 0) a) (wgt (K i) (F i) d (if wf (F i) = 1 then 2 else 0) b)
theorem wst_2 (K F : Nat → Nat) (d : Nat) (wf : Nat → Nat) (i a b : Nat) : wst K F d wf i a b ≤ 2 := wnr_2 _ _ _

/-! picked out of 50.counts -/
def smN (f : Nat → Nat) : Nat → Nat
  | 0 => 0
  | n + 1 => smN f n + f n
theorem smN_c {f g : Nat → Nat} : ∀ n, (∀ i, i < n → f i = g i) → smN f n = smN g n
  | 0, _ => rfl
  | n + 1, h => by
    show smN f n + f n = smN g n + g n
    rw [smN_c n (fun i hi => h i (by first | omega | (dsimp only; omega))), h n (by first | omega | (dsimp only; omega))]
theorem smN_le {f : Nat → Nat} {b : Nat} : ∀ n, (∀ i, i < n → f i ≤ b) → smN f n ≤ b * n
  | 0, _ => by simp [smN]
  | n + 1, h => by
    have h1 := smN_le n (fun i hi => h i (by first | omega | (dsimp only; omega)))
    have h2 := h n (by first | omega | (dsimp only; omega))
    show smN f n + f n ≤ b * (n + 1)
    rw [Nat.mul_add]; omega
theorem smN_mono {f : Nat → Nat} {i n : Nat} (h : i ≤ n) : smN f i ≤ smN f n := by
  induction n with
  | zero => obtain rfl : i = 0 := by omega
            exact Nat.le_refl _
  | succ n ih =>
    by_cases hi : i = n + 1
    · subst hi; exact Nat.le_refl _
    · exact Nat.le_trans (ih (by first | omega | (dsimp only; omega))) (Nat.le_add_right _ _)
section Cnt
variable {N n : Nat} {K W F : Nat → Nat} {mm : Mm}
theorem worths_l (h : CS mm n K W F) : ∀ m i, i + m = n → ∀ f, m < f → fX0_worths_4 N f 3 (nI (smN W i)) (nI i) mm = some (nI (smN W n), mm) := by
  have hn := h.2.1
  intro m
  induction m with
  | zero =>
    intro i hi f hf
    obtain ⟨f, rfl⟩ : ∃ g, f = g + 1 := ⟨f - 1, by omega⟩
    obtain rfl : i = n := by omega
    unfold fX0_worths_4
    exact st_t (by rw [h.1]; exact nI_le (by first | omega | (dsimp only; omega)) (by first | omega | (dsimp only; omega))) rfl
  | succ m ih =>
    intro i hi f hf
    obtain ⟨f, rfl⟩ : ∃ g, f = g + 1 := ⟨f - 1, by omega⟩
    unfold fX0_worths_4
    simp only [LXa, nI_nat (show i < 2147483648 by omega)]
    refine st_f (by rw [h.1]; exact nI_ge (by first | omega | (dsimp only; omega)) (by first | omega | (dsimp only; omega))) (st_k rfl (by first | omega | (dsimp only; omega)) (by first | omega | (dsimp only; omega)) (st_n ?_))
    rw [(h.2.2 i (by first | omega | (dsimp only; omega))).1.2.1, nI_1, nI_add]
    exact ih (i + 1) (by first | omega | (dsimp only; omega)) f (by first | omega | (dsimp only; omega))
theorem worths_e (hN : 100000 ≤ N) (h : CS mm n K W F) : fX0_worths N 3 mm = some (nI (smN W n), mm) := worths_l h n 0 (by first | omega | (dsimp only; omega)) N (by have := h.2.1; omega)
theorem howMany_l {o : Nat} (ho : 1 ≤ o ∧ o ≤ 5) (h : CS mm n K W F) : ∀ m i, i + m = n → ∀ f, m < f → fX0_howMany_4 N f 3 (nI o) (nI (smN (fun i => isaN (K i) o) i)) (nI i) mm = some (nI (smN (fun i => isaN (K i) o) n), mm) := by
  have hn := h.2.1
  intro m
  induction m with
  | zero =>
    intro i hi f hf
    obtain ⟨f, rfl⟩ : ∃ g, f = g + 1 := ⟨f - 1, by omega⟩
    obtain rfl : i = n := by omega
    unfold fX0_howMany_4
    exact st_t (by rw [h.1]; exact nI_le (by first | omega | (dsimp only; omega)) (by first | omega | (dsimp only; omega))) rfl
  | succ m ih =>
    intro i hi f hf
    obtain ⟨f, rfl⟩ : ∃ g, f = g + 1 := ⟨f - 1, by omega⟩
    unfold fX0_howMany_4 fX0_howMany_28
    simp only [LXa, nI_nat (show i < 2147483648 by omega)]
    have hi2 := h.2.2 i (by first | omega | (dsimp only; omega))
    have ih2 := ih (i + 1) (by first | omega | (dsimp only; omega)) f (by first | omega | (dsimp only; omega))
    refine st_f (by rw [h.1]; exact nI_ge (by first | omega | (dsimp only; omega)) (by first | omega | (dsimp only; omega))) (st_k rfl (by first | omega | (dsimp only; omega)) (by first | omega | (dsimp only; omega)) (st_b (isA_e hi2.1 hi2.2.1 ho) ?_))
    rw [nI_1, nI_1]
    have hs : smN (fun i => isaN (K i) o) (i + 1) = smN (fun i => isaN (K i) o) i + isaN (K i) o := rfl
    rw [hs] at ih2
    rcases (by have := isaN_1 (K i) o; omega : isaN (K i) o = 0 ∨ isaN (K i) o = 1) with hz | hz
    · rw [hz] at ih2 ⊢; exact st_t rfl ih2
    · rw [hz] at ih2 ⊢; exact st_f (by decide) ih2
theorem howMany_e {o : Nat} (hN : 100000 ≤ N) (ho : 1 ≤ o ∧ o ≤ 5) (h : CS mm n K W F) : fX0_howMany N 3 (nI o) mm = some (nI (smN (fun i => isaN (K i) o) n), mm) := howMany_l ho h n 0 (by first | omega | (dsimp only; omega)) N (by have := h.2.1; omega)
end Cnt

/-! picked out of 51.weigh -/
/-- who won the first suits, told up to one -/
def wnl (K F : Nat → Nat) (d : Nat) (x y : Nat → Nat) : Nat → Nat → Nat
  | 0 => fun _ => 2
  | i + 1 => fun j => if j = i then wst K F d (wnl K F d x y i) i (x i) (y i) else wnl K F d x y i j
/-- who won a suit -/
def wn (K F : Nat → Nat) (d : Nat) (x y : Nat → Nat) (i : Nat) : Nat := wnl K F d x y (i + 1) i
theorem wnl_lt {K F : Nat → Nat} {d : Nat} {x y : Nat → Nat} : ∀ m j, j < m → wnl K F d x y m j = wn K F d x y j := by
  intro m
  induction m with
  | zero => intro j h; omega
  | succ m ih =>
    intro j h
    by_cases hj : j = m
    · subst hj; rfl
    · show (if j = m then _ else _) = _
      rw [if_neg hj]
      exact ih j (by first | omega | (dsimp only; omega))
theorem wst_c {K F : Nat → Nat} {d i a b : Nat} {w v : Nat → Nat} (h : K i = 5 → w (F i) = v (F i)) : wst K F d w i a b = wst K F d v i a b := by
  unfold wst
  rw [wgt_k (b' := if v (F i) = 0 then 2 else 0) (fun q => by rw [h q]), wgt_k (b := if w (F i) = 1 then 2 else 0) (b' := if v (F i) = 1 then 2 else 0) (fun q => by rw [h q])]
theorem wn_eq {K F : Nat → Nat} {d i : Nat} {x y : Nat → Nat} (h : K i = 5 → F i < i) : wn K F d x y i = wst K F d (wn K F d x y) i (x i) (y i) := by
  show (if i = i then wst K F d (wnl K F d x y i) i (x i) (y i) else _) = _
  rw [if_pos rfl]
  exact wst_c (fun q => wnl_lt i _ (h q))
theorem wn_2 {K F : Nat → Nat} {d i : Nat} {x y : Nat → Nat} : wn K F d x y i ≤ 2 := by
  show (if i = i then wst K F d (wnl K F d x y i) i (x i) (y i) else _) ≤ 2
  rw [if_pos rfl]
  exact wst_2 _ _ _ _ _ _ _
theorem wn_c {K F : Nat → Nat} {d : Nat} {x y x' y' : Nat → Nat} : ∀ m, (∀ i, i < m → K i = 5 → F i < i) → (∀ i, i < m → x i = x' i ∧ y i = y' i) → ∀ i, i < m → wn K F d x y i = wn K F d x' y' i := by
  intro m hk
  induction m with
  | zero => intro _ i hi; omega
  | succ m ih =>
    intro h i hi
    rw [wn_eq (hk i hi), wn_eq (hk i hi), (h i hi).1, (h i hi).2]
    refine wst_c (fun q => ih (fun j hj => hk j (by first | omega | (dsimp only; omega))) (fun j hj => h j (by first | omega | (dsimp only; omega))) _ ?_)
    have := hk i hi q
    omega
/-- SCORE of a side of the first suits -/
def scr (W : Nat → Nat) (s : Nat) (w : Nat → Nat) (n : Nat) : Nat := smN (fun i => pts (W i) s (w i)) n
theorem scr_c {W w v : Nat → Nat} {s n : Nat} (h : ∀ i, i < n → w i = v i) : scr W s w n = scr W s v n := smN_c n (fun i hi => by rw [h i hi])
theorem scr_b {W w : Nat → Nat} {s n : Nat} (h : ∀ i, i < n → W i ≤ 9) (hn : n ≤ 6) : scr W s w n ≤ 108 := by
  have := smN_le (f := fun i => pts (W i) s (w i)) (b := 18) n (fun i hi => pts_18 (h i hi))
  unfold scr; omega
/-- weights of both sides -/
def wtN (K F : Nat → Nat) (d : Nat) (w : Nat → Nat) (i s a : Nat) : Nat := wgt (K i) (F i) d (if w (F i) = s then 2 else 0) a
def dfN (a b : Nat) : Nat := if b ≤ a then a - b else b - a
theorem absI {a b : Nat} (ha : a < 1000000) (hb : b < 1000000) : (if (0 : Int32) ≤ nI a - nI b then nI a - nI b else 0 - (nI a - nI b)) = nI (dfN a b) := by
  have h0 : (0 : Int32).toInt = 0 := rfl
  unfold dfN
  by_cases h : b ≤ a
  · rw [nI_sub h, if_pos (nI_pos' (by first | omega | (dsimp only; omega))), if_pos h]
  · have e : (nI a - nI b).toInt = (a : Int) - b := by
      rw [i_sub _ _ (by rw [nI_toInt (by first | omega | (dsimp only; omega)), nI_toInt (by first | omega | (dsimp only; omega))]; omega) (by rw [nI_toInt (by first | omega | (dsimp only; omega)), nI_toInt (by first | omega | (dsimp only; omega))]; omega), nI_toInt (by first | omega | (dsimp only; omega)), nI_toInt (by first | omega | (dsimp only; omega))]
    rw [if_neg (by rw [i_le, e, h0]; omega), if_neg h, Int32.zero_sub, Int32.neg_sub, nI_sub (by first | omega | (dsimp only; omega))]
/-- a scale -/
def SC (S : Nat) : Prop := fr S 0 = S + 1 ∧ fr S 1 = S + 2 ∧ fr S 2 = S + 3 ∧ ln (S + 1) = 6 ∧ ln (S + 2) = 6 ∧ ln (S + 3) = 7 ∧ 29 ≤ S ∧ S ≤ 90
/-- places of an array hold numbers -/
def HA (mm : Mm) (p n : Nat) (x : Nat → Nat) : Prop := ∀ i, i < n → rd mm p i = nI (x i)
theorem HA.c {mm m2 : Mm} {p n : Nat} {x : Nat → Nat} (h : HA mm p n x) (e : ∀ i, i < n → rd m2 p i = rd mm p i) : HA m2 p n x := fun i hi => (e i hi).trans (h i hi)
theorem wgt_bo {k f d s b x : Nat} {w : Nat → Nat} (hk : k ≤ 5) (hs : s ≤ 1) (hb : b = if ahN k f w = s then 1 else 0) : (if x < lsN k f then 0 else x + exN k f d b) = wgt k f d (if w f = s then 2 else 0) x := by
  rw [wgt_ex hk (fun h => by
    have e : ahN k f w = 2 := by unfold ahN; rw [if_neg (show ¬ k = 5 by omega)]
    rw [hb, e, if_neg (show ¬ 2 = s by omega)])]
  refine wgt_k (fun h5 => ?_)
  have e : ahN k f w = w f := by unfold ahN; rw [if_pos h5]
  rw [hb, e]
  by_cases h : w f = s
  · simp [h]
  · simp [h]
section Wgh
variable {N n d S p q L M : Nat} {K W F x y : Nat → Nat}
theorem wg_step {mm : Mm} {r : Option (Unit × Mm)} {i : Nat} {k24 : Nat → Nat → Nat → Nat → Int32 → Int32 → Mm → Option (Unit × Mm)} {a5 : Int32} {w : Nat → Nat} {sc : Nat} (hS : SC S) (C : CS mm n K W F) (hd9 : d ≤ 9) (hi : i < n) (hx : x i ≤ 1000) (hy : y i ≤ 1000) (hsc : rd mm (S + 3) i = nI sc) (hlt : sc ≤ 1000)
    (k : k24 S 3 p q a5 (nI (i + 1)) (wr (wr (wr mm (S + 1) i (nI (wst K F d w i (x i) (y i)))) (S + 2) i (nI (dfN (wtN K F d w i 0 (x i)) (wtN K F d w i 1 (y i))))) (S + 3) (i + 1) (nI (sc + pts (W i) 0 (wst K F d w i (x i) (y i))))) = r) {b1 : Nat} (hb1 : b1 = if ahN (K i) (F i) w = 1 then 1 else 0) : fX7_weigh_115 N k24 S 3 p q a5 (nI i) (17 + i) (nI (wtN K F d w i 0 (x i))) (17 + i) (nI (y i)) (17 + i) (nI d) (nI b1) mm = r := by
  have hn := C.2.1
  obtain ⟨u, k1, k2, k3, k4, k5, k6, k7⟩ := C.2.2 i hi
  obtain ⟨s0, s1, s2, s3, s4, s5, s6, s7⟩ := hS
  have hb1' : b1 ≤ 1 := by rw [hb1]; split <;> omega
  have hA : wtN K F d w i 0 (x i) ≤ 200000 := wgt_b k4 hd9 (by split <;> omega) (by first | omega | (dsimp only; omega))
  have hB : wtN K F d w i 1 (y i) ≤ 200000 := wgt_b k4 hd9 (by split <;> omega) (by first | omega | (dsimp only; omega))
  have hw2 := wst_2 K F d w i (x i) (y i)
  unfold fX7_weigh_115 fX7_weigh_184
  simp only [s0, s1, s2, nI_1, nI_nat (show i < 2147483648 by omega), nI_nat (show i + 1 < 2147483648 by omega)]
  refine st_b (extra_e u k1 hb1') (st_b (weight_e u k1 k4 (by first | omega | (dsimp only; omega))) ?_)
  rw [wgt_bo k1 (by first | omega | (dsimp only; omega)) hb1]
  change bd2 (fX9_winner N (17 + i) (nI (wtN K F d w i 0 (x i))) (nI (wtN K F d w i 1 (y i))) mm) _ = r
  refine st_b (winner_e u k1 (by first | omega | (dsimp only; omega)) (by first | omega | (dsimp only; omega))) ?_
  change gd (inb (nI i) (ln (S + 1))) _ = r
  refine st_k s3 (by first | omega | (dsimp only; omega)) (by first | omega | (dsimp only; omega)) (st_n (st_n ?_))
  rw [absI (by show wtN K F d w i 0 (x i) < 1000000; omega) (by show wtN K F d w i 1 (y i) < 1000000; omega)]
  refine st_k s4 (by first | omega | (dsimp only; omega)) (by first | omega | (dsimp only; omega)) (st_n (st_k s5 (by first | omega | (dsimp only; omega)) (by first | omega | (dsimp only; omega)) (st_k s3 (by first | omega | (dsimp only; omega)) (by first | omega | (dsimp only; omega)) ?_)))
  have e1 : rd (wr (wr mm (S + 1) i (nI (wst K F d w i (x i) (y i)))) (S + 2) i (nI (dfN (wtN K F d w i 0 (x i)) (wtN K F d w i 1 (y i))))) (S + 1) i = nI (wst K F d w i (x i) (y i)) := by rw [rd_wr_k (by first | omega | (dsimp only; omega)), rd_wr_s]
  have e2 : rd (wr (wr mm (S + 1) i (nI (wst K F d w i (x i) (y i)))) (S + 2) i (nI (dfN (wtN K F d w i 0 (x i)) (wtN K F d w i 1 (y i))))) (S + 3) i = nI sc := by rw [rd_wr_k (by first | omega | (dsimp only; omega)), rd_wr_k (by first | omega | (dsimp only; omega))]; exact hsc
  have u2 : SU (wr (wr mm (S + 1) i (nI (wst K F d w i (x i) (y i)))) (S + 2) i (nI (dfN (wtN K F d w i 0 (x i)) (wtN K F d w i 1 (y i))))) (17 + i) (K i) (W i) (F i) := by
    unfold SU
    rw [rd_wr_k (by first | omega | (dsimp only; omega)), rd_wr_k (by first | omega | (dsimp only; omega)), rd_wr_k (by first | omega | (dsimp only; omega)), rd_wr_k (by first | omega | (dsimp only; omega)), rd_wr_k (by first | omega | (dsimp only; omega)), rd_wr_k (by first | omega | (dsimp only; omega))]
    exact u
  change bd2 (fX9_points N (17 + i) 0 (rd (wr (wr mm (S + 1) i (nI (wst K F d w i (x i) (y i)))) (S + 2) i (nI (dfN (wtN K F d w i 0 (x i)) (wtN K F d w i 1 (y i))))) (S + 1) i) _) _ = r
  rw [e1]
  refine st_b (points_e (s := 0) u2 (by first | omega | (dsimp only; omega)) hw2) (st_k s5 (by first | omega | (dsimp only; omega)) (by first | omega | (dsimp only; omega)) (st_n ?_))
  change k24 S 3 p q a5 (nI (i + 1)) (wr _ (S + 3) (i + 1) (rd (wr (wr mm (S + 1) i (nI (wst K F d w i (x i) (y i)))) (S + 2) i (nI (dfN (wtN K F d w i 0 (x i)) (wtN K F d w i 1 (y i))))) (S + 3) i + nI (pts (W i) 0 (wst K F d w i (x i) (y i))))) = r
  rw [e2, nI_add]
  exact k
/-- the first i suits are weighed -/
def SW (mm : Mm) (S : Nat) (K W F : Nat → Nat) (d : Nat) (x y : Nat → Nat) (i : Nat) : Prop := (∀ j, j < i → rd mm (S + 1) j = nI (wn K F d x y j)) ∧ ∀ j, j ≤ i → rd mm (S + 3) j = nI (scr W 0 (wn K F d x y) j)
theorem SW.c {mm m2 : Mm} {i : Nat} (h : SW mm S K W F d x y i) (e : ∀ k j, S ≤ k ∧ k ≤ S + 3 → rd m2 k j = rd mm k j) : SW m2 S K W F d x y i := ⟨fun j hj => by rw [e _ _ (by first | omega | (dsimp only; omega))]; exact h.1 j hj, fun j hj => by rw [e _ _ (by first | omega | (dsimp only; omega))]; exact h.2 j hj⟩
theorem weigh_l (hS : SC S) (hd9 : d ≤ 9) (hn6 : n ≤ 6) (hp : ln p = L) (hq : ln q = M) (hL : 6 ≤ L ∧ L ≤ 1000) (hM : 6 ≤ M ∧ M ≤ 1000) (hpS : p < S ∨ S + 3 < p) (hqS : q < S ∨ S + 3 < q) (hx : ∀ i, i < n → x i ≤ 1000) (hy : ∀ i, i < n → y i ≤ 1000) : ∀ m i mm, i + m = n → CS mm n K W F → rd mm 3 6 = nI d → HA mm p n x → HA mm q n y → SW mm S K W F d x y i → ∀ f, m < f → ∃ m', fX7_weigh_24 N f S 3 p q (nI n) (nI i) mm = some ((), m') ∧ Fr (fun k _ => S ≤ k ∧ k ≤ S + 3) mm m' ∧ SW m' S K W F d x y n ∧ rd m' S 3 = nI (scr W 0 (wn K F d x y) n) ∧ (∀ j, i ≤ j → j < n → rd m' (S + 2) j = nI (dfN (wtN K F d (wn K F d x y) j 0 (x j)) (wtN K F d (wn K F d x y) j 1 (y j)))) ∧ ∀ j, j < i → rd m' (S + 2) j = rd mm (S + 2) j := by
  intro m
  have hSs := hS
  obtain ⟨s0, s1, s2, s3, s4, s5, s6, s7⟩ := hS
  induction m with
  | zero =>
    intro i mm hi C hd hX hY hW f hf
    obtain ⟨f, rfl⟩ : ∃ g, f = g + 1 := ⟨f - 1, by omega⟩
    obtain rfl : i = n := by omega
    refine ⟨wr mm S 3 (rd mm (S + 3) i), ?_, fr_wr Fr.rf (by first | omega | (dsimp only; omega)), ⟨fun j hj => by rw [rd_wr_k (by first | omega | (dsimp only; omega))]; exact hW.1 j hj, fun j hj => by rw [rd_wr_k (by first | omega | (dsimp only; omega))]; exact hW.2 j hj⟩, ?_, fun j h1 h2 => by omega, fun j hj => by rw [rd_wr_k (by first | omega | (dsimp only; omega))]⟩
    · unfold fX7_weigh_24 fX7_weigh_190 fX7_weigh_214
      simp only [s2, nI_nat (show i < 2147483648 by omega)]
      exact st_t (nI_le (Nat.le_refl _) (by first | omega | (dsimp only; omega))) (st_f (nI_pos (by first | omega | (dsimp only; omega))) (st_t (nI_le hn6 (by first | omega | (dsimp only; omega))) (st_k s5 (by first | omega | (dsimp only; omega)) (by first | omega | (dsimp only; omega)) (st_n rfl))))
    · rw [rd_wr_s]; exact hW.2 i (Nat.le_refl _)
  | succ m ih =>
    intro i mm hi C hd hX hY hW f hf
    obtain ⟨f, rfl⟩ : ∃ g, f = g + 1 := ⟨f - 1, by omega⟩
    have hin : i < n := by omega
    obtain ⟨u, k1, k2, k3, k4, k5, k6, k7⟩ := C.2.2 i hin
    have hwe : wn K F d x y i = wst K F d (wn K F d x y) i (x i) (y i) := wn_eq k6
    have hsb : ∀ j, j ≤ n → scr W 0 (wn K F d x y) j ≤ 108 := fun j hj => scr_b (fun q hq => (C.2.2 q (by first | omega | (dsimp only; omega))).2.2.2.1) (by first | omega | (dsimp only; omega))
    generalize hm3 : wr (wr (wr mm (S + 1) i (nI (wst K F d (wn K F d x y) i (x i) (y i)))) (S + 2) i (nI (dfN (wtN K F d (wn K F d x y) i 0 (x i)) (wtN K F d (wn K F d x y) i 1 (y i))))) (S + 3) (i + 1) (nI (scr W 0 (wn K F d x y) i + pts (W i) 0 (wst K F d (wn K F d x y) i (x i) (y i)))) = m3
    have hfr : Fr (fun k _ => S ≤ k ∧ k ≤ S + 3) mm m3 := by
      rw [← hm3]
      exact fr_wr (fr_wr (fr_wr Fr.rf (by first | omega | (dsimp only; omega))) (by first | omega | (dsimp only; omega))) (by first | omega | (dsimp only; omega))
    obtain ⟨m', h1, h2, h3, h4, h5, h6⟩ := ih (i + 1) m3 (by first | omega | (dsimp only; omega)) (CS_c C (fun k j e => hfr.2 _ _ (by first | omega | (dsimp only; omega)))) (by rw [hfr.2 _ _ (by first | omega | (dsimp only; omega))]; exact hd) (hX.c (fun j hj => hfr.2 _ _ (by first | omega | (dsimp only; omega)))) (hY.c (fun j hj => hfr.2 _ _ (by first | omega | (dsimp only; omega)))) ⟨fun j hj => by
      rw [← hm3, rd_wr_k (by first | omega | (dsimp only; omega)), rd_wr_k (by first | omega | (dsimp only; omega))]
      by_cases hji : j = i
      · subst hji; rw [rd_wr_s, hwe]
      · rw [rd_wr_j hji]; exact hW.1 j (by first | omega | (dsimp only; omega)), fun j hj => by
      rw [← hm3]
      by_cases hji : j = i + 1
      · subst hji; rw [rd_wr_s, ← hwe]; rfl
      · rw [rd_wr_j hji, rd_wr_k (by first | omega | (dsimp only; omega)), rd_wr_k (by first | omega | (dsimp only; omega))]; exact hW.2 j (by first | omega | (dsimp only; omega))⟩ f (by first | omega | (dsimp only; omega))
    refine ⟨m', ?_, hfr.tr h2, h3, h4, fun j a b => ?_, fun j hj => ?_⟩
    · unfold fX7_weigh_24 fX7_weigh_84
      simp only [s0, nI_nat (show i < 2147483648 by omega), hX i hin]
      refine st_f (nI_ge hin (by first | omega | (dsimp only; omega))) (st_f (nI_ge (by first | omega | (dsimp only; omega)) (by first | omega | (dsimp only; omega))) (st_b (suitOf_t C hin) (st_c (st_b (ahead_e (wf := wn K F d x y) u k1 (fun q => by have := k6 q; omega) s3 (fun q => hW.1 _ (k6 q))) (st_k hp (by first | omega | (dsimp only; omega)) (by first | omega | (dsimp only; omega)) ?_)))))
      simp only [hX i hin, hd]
      rw [← hm3] at h1
      have hah : ahN (K i) (F i) (wn K F d x y) ≤ 2 := by unfold ahN; split; exact wn_2; omega
      have hf0 : ∀ b0 : Nat, b0 = (if ahN (K i) (F i) (wn K F d x y) = 0 then 1 else 0) → (bd2 (fX9_extra N (17 + i) (nI d) (nI b0) mm) fun x26 m27 => bd2 (fX9_weight N (17 + i) (nI (x i)) x26 m27) fun x29 m30 => gd (inb (nI i) (ln q)) <| if nI (ahN (K i) (F i) (wn K F d x y)) = 1 then (fX7_weigh_115 N (fX7_weigh_24 N f) S 3 p q (nI n) (nI i) (17 + i) x29 (17 + i) (rd m30 q i) (17 + i) (rd m30 3 6) 1 m30) else (fX7_weigh_115 N (fX7_weigh_24 N f) S 3 p q (nI n) (nI i) (17 + i) x29 (17 + i) (rd m30 q i) (17 + i) (rd m30 3 6) 0 m30)) = some ((), m') := by
        intro b0 hb0
        have hb0' : b0 ≤ 1 := by rw [hb0]; split <;> omega
        refine st_b (extra_e u k1 hb0') (st_b (weight_e u k1 k4 (by have := hx i hin; omega)) ?_)
        rw [wgt_bo k1 (by first | omega | (dsimp only; omega)) hb0]
        refine st_k hq (by first | omega | (dsimp only; omega)) (by first | omega | (dsimp only; omega)) ?_
        rw [hY i hin, hd]
        by_cases ha1 : ahN (K i) (F i) (wn K F d x y) = 1
        · refine st_t (by rw [ha1]; rfl) ?_
          exact wg_step (b1 := 1) hSs C hd9 hin (hx i hin) (hy i hin) (hW.2 i (Nat.le_refl _)) (by have := hsb i (by first | omega | (dsimp only; omega)); omega) h1 (by rw [if_pos ha1])
        · refine st_f (fun e => ha1 (nI_inj (b := 1) e (by first | omega | (dsimp only; omega)) (by first | omega | (dsimp only; omega)))) ?_
          exact wg_step (b1 := 0) hSs C hd9 hin (hx i hin) (hy i hin) (hW.2 i (Nat.le_refl _)) (by have := hsb i (by first | omega | (dsimp only; omega)); omega) h1 (by rw [if_neg ha1])
      by_cases ha0 : ahN (K i) (F i) (wn K F d x y) = 0
      · exact st_t (by rw [ha0]; rfl) (hf0 1 (by rw [if_pos ha0]))
      · exact st_f (fun e => ha0 (nI_inj (b := 0) e (by first | omega | (dsimp only; omega)) (by first | omega | (dsimp only; omega)))) (hf0 0 (by rw [if_neg ha0]))
    · by_cases hji : j = i
      · rw [hji, h6 i (by first | omega | (dsimp only; omega)), ← hm3, rd_wr_k (by first | omega | (dsimp only; omega)), rd_wr_s]
      · exact h5 j (by first | omega | (dsimp only; omega)) b
    · rw [h6 j (by first | omega | (dsimp only; omega)), ← hm3, rd_wr_k (by first | omega | (dsimp only; omega)), rd_wr_j (by first | omega | (dsimp only; omega)), rd_wr_k (by first | omega | (dsimp only; omega))]
theorem weigh_e {i : Nat} {mm : Mm} (hN : 100000 ≤ N) (hS : SC S) (hd9 : d ≤ 9) (hp : ln p = L) (hq : ln q = M) (hL : 6 ≤ L ∧ L ≤ 1000) (hM : 6 ≤ M ∧ M ≤ 1000) (hpS : p < S ∨ S + 3 < p) (hqS : q < S ∨ S + 3 < q) (hx : ∀ i, i < n → x i ≤ 1000) (hy : ∀ i, i < n → y i ≤ 1000) (hi : i ≤ n) (C : CS mm n K W F) (hd : rd mm 3 6 = nI d) (hX : HA mm p n x) (hY : HA mm q n y) (hW : SW mm S K W F d x y i) : ∃ m', fX7_weigh N S 3 p q (nI i) mm = some ((), m') ∧ Fr (fun k _ => S ≤ k ∧ k ≤ S + 3) mm m' ∧ SW m' S K W F d x y n ∧ rd m' S 3 = nI (scr W 0 (wn K F d x y) n) ∧ ∀ j, i ≤ j → j < n → rd m' (S + 2) j = nI (dfN (wtN K F d (wn K F d x y) j 0 (x j)) (wtN K F d (wn K F d x y) j 1 (y j))) := by
  have hn := C.2.1
  obtain ⟨m', h1, h2, h3, h4, h5, -⟩ := weigh_l (N := N) hS hd9 hn hp hq hL hM hpS hqS hx hy (n - i) i mm (by first | omega | (dsimp only; omega)) C hd hX hY hW N (by first | omega | (dsimp only; omega))
  refine ⟨m', ?_, h2, h3, h4, h5⟩
  unfold fX7_weigh
  rw [hp, hq, C.1]
  have e1 : (if nI M < nI L then nI M else nI L) = nI (if M < L then M else L) := by
    by_cases h : M < L
    · rw [if_pos h, if_pos (nI_lt h (by first | omega | (dsimp only; omega)))]
    · rw [if_neg h, if_neg (nI_nlt (by first | omega | (dsimp only; omega)) (by first | omega | (dsimp only; omega)))]
  have hml : 6 ≤ (if M < L then M else L) ∧ (if M < L then M else L) ≤ 1000 := by split <;> omega
  refine st_n (st_n (st_n ?_))
  change fX7_weigh_24 N N S 3 p q (if (if nI M < nI L then nI M else nI L) < nI n then (if nI M < nI L then nI M else nI L) else nI n) (if nI i < 0 then 0 else nI i) mm = _
  rw [e1, if_neg (nI_nlt (by first | omega | (dsimp only; omega)) (by first | omega | (dsimp only; omega))), if_neg (nI_pos (by first | omega | (dsimp only; omega)))]
  exact h1
end Wgh
