/-! pure: steps of a program; what the layout says; ranges; frames -/
theorem st_g {α : Type} {b : Bool} {x r : Option α} (h : b = true) (e : x = r) : gd b x = r := by rw [gd_t h]; exact e
theorem st_b {α β : Type} {x : Option (α × Mm)} {f : α → Mm → Option β} {a : α} {m1 : Mm} {r : Option β} (h : x = some (a, m1)) (e : f a m1 = r) : bd2 x f = r := by rw [bd2_t h]; exact e
theorem st_n {α β : Type} {x : α} {f : α → β} {r : β} (e : f x = r) : nm x f = r := e
theorem st_t {α : Type} {c : Prop} [Decidable c] {x y r : α} (h : c) (e : x = r) : (if c then x else y) = r := by rw [if_pos h]; exact e
theorem st_f {α : Type} {c : Prop} [Decidable c] {x y r : α} (h : ¬ c) (e : y = r) : (if c then x else y) = r := by rw [if_neg h]; exact e
theorem st_c {α : Type} {q : Nat} {a : α} {b : Nat → α} {r : α} (h : b q = r) : cs (some q) a b = r := h
theorem st_c0 {α : Type} {a : α} {b : Nat → α} {r : α} (h : a = r) : cs none a b = r := h
theorem st_k {α : Type} {i n L : Nat} {x r : Option α} (hl : n = L) (h : i < L) (hL : L ≤ 2000) (e : x = r) : gd (inb (nI i) n) x = r := by
  subst hl; exact st_g (inb_n h (by first | omega | (dsimp only; omega))) e
theorem fr_row {r : Nat} (h : r < 6) : fr (95 + 2 * r) 0 = 96 + 2 * r := by
  rcases (by omega : r = 0 ∨ r = 1 ∨ r = 2 ∨ r = 3 ∨ r = 4 ∨ r = 5) with rfl | rfl | rfl | rfl | rfl | rfl <;> rfl
theorem ln_row {r : Nat} (h : r < 6) : ln (96 + 2 * r) = 40 := by
  rcases (by omega : r = 0 ∨ r = 1 ∨ r = 2 ∨ r = 3 ∨ r = 4 ∨ r = 5) with rfl | rfl | rfl | rfl | rfl | rfl <;> rfl
theorem fr_txt {r : Nat} (h : r < 4) : fr (107 + 2 * r) 0 = 108 + 2 * r := by
  rcases (by omega : r = 0 ∨ r = 1 ∨ r = 2 ∨ r = 3) with rfl | rfl | rfl | rfl <;> rfl
theorem ln_txt {r : Nat} (h : r < 4) : ln (108 + 2 * r) = 80 := by
  rcases (by omega : r = 0 ∨ r = 1 ∨ r = 2 ∨ r = 3) with rfl | rfl | rfl | rfl <;> rfl
theorem fr_crt {k : Nat} (h : k < 3) : fr (115 + 20 * k) 0 = 116 + 20 * k ∧ fr (115 + 20 * k) 1 = 117 + 20 * k ∧ fr (115 + 20 * k) 2 = 118 + 20 * k ∧ fr (115 + 20 * k) 3 = 119 + 20 * k ∧ fr (115 + 20 * k) 4 = 128 + 20 * k ∧ ln (116 + 20 * k) = 6 ∧ ln (117 + 20 * k) = 2 ∧ ln (118 + 20 * k) = 4 ∧ ln (119 + 20 * k) = 8 ∧ ln (128 + 20 * k) = 8 ∧ (∀ j, el (116 + 20 * k) j = 129 + 20 * k + j) ∧ (∀ j, el (119 + 20 * k) j = 120 + 20 * k + j) := by
  rcases (by omega : k = 0 ∨ k = 1 ∨ k = 2) with rfl | rfl | rfl <;> exact ⟨rfl, rfl, rfl, rfl, rfl, rfl, rfl, rfl, rfl, rfl, fun _ => rfl, fun _ => rfl⟩
theorem ln_6 {k : Nat} (h : (8 ≤ k ∧ k ≤ 15) ∨ (62 ≤ k ∧ k ≤ 67) ∨ ∃ c j, c < 3 ∧ j < 8 ∧ k = 120 + 20 * c + j) : ln k = 6 := by
  rcases h with h | h | ⟨c, j, hc, hj, rfl⟩
  · rcases (by omega : k = 8 ∨ k = 9 ∨ k = 10 ∨ k = 11 ∨ k = 12 ∨ k = 13 ∨ k = 14 ∨ k = 15) with rfl | rfl | rfl | rfl | rfl | rfl | rfl | rfl <;> rfl
  · rcases (by omega : k = 62 ∨ k = 63 ∨ k = 64 ∨ k = 65 ∨ k = 66 ∨ k = 67) with rfl | rfl | rfl | rfl | rfl | rfl <;> rfl
  · rcases (by omega : c = 0 ∨ c = 1 ∨ c = 2) with rfl | rfl | rfl <;> rcases (by omega : j = 0 ∨ j = 1 ∨ j = 2 ∨ j = 3 ∨ j = 4 ∨ j = 5 ∨ j = 6 ∨ j = 7) with rfl | rfl | rfl | rfl | rfl | rfl | rfl | rfl <;> rfl
/-- an int is one of 0 .. b - 1, or below 0, or greater -/
def Out (a : Int32) (b : Nat) : Prop := a < 0 ∨ ∃ j, b ≤ j ∧ j < 2147483648 ∧ a = nI j
theorem rng (a : Int32) (b : Nat) : (∃ r, r < b ∧ r < 2147483648 ∧ a = nI r) ∨ Out a b := by
  by_cases h1 : a < 0
  · exact Or.inr (Or.inl h1)
  · obtain ⟨j, hj, rfl⟩ := nI_of h1
    by_cases h2 : j < b
    · exact Or.inl ⟨j, h2, hj, rfl⟩
    · exact Or.inr (Or.inr ⟨j, by omega, hj, rfl⟩)
/-- all cells outside of S stay, longs stay -/
def Fr (S : Nat → Nat → Prop) (m m2 : Mm) : Prop := m2.2 = m.2 ∧ ∀ k j, ¬ S k j → rd m2 k j = rd m k j
theorem Fr.rf {S : Nat → Nat → Prop} {m : Mm} : Fr S m m := ⟨rfl, fun _ _ _ => rfl⟩
theorem Fr.tr {S : Nat → Nat → Prop} {m m2 m3 : Mm} (h : Fr S m m2) (h2 : Fr S m2 m3) : Fr S m m3 := ⟨h2.1.trans h.1, fun k j e => (h2.2 k j e).trans (h.2 k j e)⟩
theorem Fr.mono {S T : Nat → Nat → Prop} {m m2 : Mm} (h : Fr S m m2) (q : ∀ k j, S k j → T k j) : Fr T m m2 := ⟨h.1, fun k j e => h.2 k j (fun s => e (q k j s))⟩
theorem fr_wr {S : Nat → Nat → Prop} {m m2 : Mm} {k j : Nat} {v : Int32} (h : Fr S m m2) (hk : S k j) : Fr S m (wr m2 k j v) := ⟨h.1, fun i q e => by
  have : ¬ (i = k ∧ q = j) := fun z => e (by rw [z.1, z.2]; exact hk)
  rw [rd_wr, if_neg this]; exact h.2 i q e⟩
theorem fr_cpy {S : Nat → Nat → Prop} {m m2 : Mm} {a b : Nat} {x y n : Int32} (h : Fr S m m2) (hk : ∀ j, S b j) : Fr S m (cpy m2 a b x y n) := ⟨h.1, fun i q e => by
  have : ¬ i = b := fun z => e (by rw [z]; exact hk q)
  rw [rd_cpy, if_neg (fun z => this z.1)]; exact h.2 i q e⟩
theorem fr_st {S : Nat → Nat → Prop} {m m2 : Mm} {k j : Nat} {v : Int32} (h : Fr S (wr m k j v) m2) (hk : S k j) : Fr S m m2 := Fr.tr (fr_wr Fr.rf hk) h
theorem Fr.L {S : Nat → Nat → Prop} {m m2 : Mm} (h : Fr S m m2) (k j : Nat) : rdL m2 k j = rdL m k j := by unfold rdL; rw [h.1]
theorem nI_mul (a b : Nat) : nI a * nI b = nI (a * b) := by unfold nI; rw [← Int32.ofNat_mul]
theorem nI_sub {a b : Nat} (h : b ≤ a) : nI a - nI b = nI (a - b) := by
  have e := nI_add (a - b) b
  rw [Nat.sub_add_cancel h] at e
  rw [← e, Int32.add_sub_cancel]
theorem nI_inj {a b : Nat} (e : nI a = nI b) (ha : a < 2147483648) (hb : b < 2147483648) : a = b := (nI_eq ha hb).mp e
theorem neg9_ne {n : Nat} (h : n < 2147483648) : nI n ≠ -9 := fun e => by
  have h1 := nI_toInt h
  rw [e] at h1
  have : (-9 : Int32).toInt = -9 := rfl
  omega
theorem neg1_ne {n : Nat} (h : n < 2147483648) : nI n ≠ -1 := fun e => by
  have h1 := nI_toInt h
  rw [e] at h1
  have : (-1 : Int32).toInt = -1 := rfl
  omega
theorem LXa : fr 0 0 = 1 ∧ fr 0 1 = 2 ∧ fr 0 2 = 3 ∧ fr 0 3 = 23 ∧ fr 0 4 = 24 ∧ fr 0 5 = 29 ∧ fr 0 6 = 33 ∧ fr 0 7 = 35 ∧ fr 0 8 = 40 ∧ fr 0 9 = 42 ∧ fr 0 10 = 52 ∧ fr 0 11 = 55 ∧ fr 0 12 = 94 ∧ ln 1 = 6 ∧ (∀ j, el 1 j = 95 + 2 * j) ∧ ln 2 = 4 ∧ (∀ j, el 2 j = 107 + 2 * j) ∧ fr 3 0 = 4 ∧ fr 3 1 = 5 ∧ fr 3 2 = 6 ∧ fr 3 3 = 7 ∧ fr 3 4 = 16 ∧ ln 4 = 6 ∧ (∀ j, el 4 j = 17 + j) ∧ ln 5 = 2 ∧ ln 6 = 4 ∧ ln 7 = 8 ∧ (∀ j, el 7 j = 8 + j) ∧ ln 8 = 6 ∧ ln 9 = 6 ∧ ln 10 = 6 ∧ ln 11 = 6 ∧ ln 12 = 6 ∧ ln 13 = 6 ∧ ln 14 = 6 ∧ ln 15 = 6 ∧ ln 16 = 8 ∧ ln 23 = 3 ∧ (∀ j, el 23 j = 115 + 20 * j) := ⟨rfl, rfl, rfl, rfl, rfl, rfl, rfl, rfl, rfl, rfl, rfl, rfl, rfl, rfl, (fun _ => rfl), rfl, (fun _ => rfl), rfl, rfl, rfl, rfl, rfl, rfl, (fun _ => rfl), rfl, rfl, rfl, (fun _ => rfl), rfl, rfl, rfl, rfl, rfl, rfl, rfl, rfl, rfl, rfl, (fun _ => rfl)⟩
theorem LXb : fr 24 0 = 25 ∧ fr 24 1 = 26 ∧ fr 24 2 = 27 ∧ fr 24 3 = 28 ∧ ln 25 = 2 ∧ ln 26 = 6 ∧ ln 27 = 6 ∧ ln 28 = 6 ∧ fr 29 0 = 30 ∧ fr 29 1 = 31 ∧ fr 29 2 = 32 ∧ ln 30 = 6 ∧ ln 31 = 6 ∧ ln 32 = 7 ∧ fr 33 0 = 34 ∧ ln 34 = 6 ∧ fr 35 0 = 36 ∧ fr 35 3 = 37 ∧ fr 35 4 = 38 ∧ fr 35 5 = 39 ∧ ln 36 = 6 ∧ ln 37 = 241 ∧ ln 38 = 6 ∧ ln 39 = 6 ∧ fr 40 0 = 41 ∧ ln 41 = 6 ∧ fr 42 0 = 43 ∧ fr 42 1 = 47 ∧ fr 42 2 = 51 ∧ fr 43 0 = 44 ∧ fr 43 1 = 45 ∧ fr 43 2 = 46 ∧ ln 44 = 6 ∧ ln 45 = 6 ∧ ln 46 = 7 ∧ fr 47 0 = 48 ∧ fr 47 1 = 49 ∧ fr 47 2 = 50 ∧ ln 48 = 6 ∧ ln 49 = 6 ∧ ln 50 = 7 ∧ ln 51 = 109 ∧ fr 52 0 = 53 ∧ fr 52 1 = 54 ∧ ln 53 = 1792 ∧ ln 54 = 48 ∧ fr 55 0 = 56 ∧ fr 55 1 = 57 ∧ fr 55 2 = 61 ∧ fr 55 3 = 68 ∧ fr 55 4 = 69 := ⟨rfl, rfl, rfl, rfl, rfl, rfl, rfl, rfl, rfl, rfl, rfl, rfl, rfl, rfl, rfl, rfl, rfl, rfl, rfl, rfl, rfl, rfl, rfl, rfl, rfl, rfl, rfl, rfl, rfl, rfl, rfl, rfl, rfl, rfl, rfl, rfl, rfl, rfl, rfl, rfl, rfl, rfl, rfl, rfl, rfl, rfl, rfl, rfl, rfl, rfl, rfl⟩
theorem LXg : fr 55 0 = 56 ∧ fr 55 1 = 57 ∧ fr 55 2 = 61 ∧ fr 55 3 = 68 ∧ fr 55 4 = 69 ∧ ln 56 = 6 ∧ fr 57 0 = 58 ∧ fr 57 1 = 59 ∧ fr 57 2 = 60 ∧ ln 58 = 6 ∧ ln 59 = 6 ∧ ln 60 = 7 ∧ ln 61 = 6 ∧ (∀ j, el 61 j = 62 + j) ∧ ln 62 = 6 ∧ ln 63 = 6 ∧ ln 64 = 6 ∧ ln 65 = 6 ∧ ln 66 = 6 ∧ ln 67 = 6 ∧ ln 68 = 6 ∧ (∀ j, el 68 j = 70 + 4 * j) ∧ ln 69 = 6 ∧ fr 70 0 = 71 ∧ fr 70 1 = 72 ∧ fr 70 2 = 73 ∧ ln 71 = 6 ∧ ln 72 = 6 ∧ ln 73 = 7 ∧ fr 74 0 = 75 ∧ fr 74 1 = 76 ∧ fr 74 2 = 77 ∧ ln 75 = 6 ∧ ln 76 = 6 ∧ ln 77 = 7 ∧ fr 78 0 = 79 ∧ fr 78 1 = 80 ∧ fr 78 2 = 81 ∧ ln 79 = 6 ∧ ln 80 = 6 ∧ ln 81 = 7 ∧ fr 82 0 = 83 ∧ fr 82 1 = 84 ∧ fr 82 2 = 85 ∧ ln 83 = 6 ∧ ln 84 = 6 ∧ ln 85 = 7 ∧ fr 86 0 = 87 ∧ fr 86 1 = 88 ∧ fr 86 2 = 89 ∧ ln 87 = 6 ∧ ln 88 = 6 ∧ ln 89 = 7 ∧ fr 90 0 = 91 ∧ fr 90 1 = 92 ∧ fr 90 2 = 93 ∧ ln 91 = 6 ∧ ln 92 = 6 ∧ ln 93 = 7 ∧ ln 94 = 6 := ⟨rfl, rfl, rfl, rfl, rfl, rfl, rfl, rfl, rfl, rfl, rfl, rfl, rfl, (fun _ => rfl), rfl, rfl, rfl, rfl, rfl, rfl, rfl, (fun _ => rfl), rfl, rfl, rfl, rfl, rfl, rfl, rfl, rfl, rfl, rfl, rfl, rfl, rfl, rfl, rfl, rfl, rfl, rfl, rfl, rfl, rfl, rfl, rfl, rfl, rfl, rfl, rfl, rfl, rfl, rfl, rfl, rfl, rfl, rfl, rfl, rfl, rfl, rfl⟩
theorem LXm : fr 175 1 = 176 ∧ fr 175 5 = 177 ∧ fr 175 6 = 178 ∧ fr 175 7 = 179 ∧ fr 175 8 = 180 ∧ fr 175 9 = 181 ∧ fr 175 11 = 182 ∧ fr 175 12 = 183 ∧ fr 175 18 = 184 ∧ fr 175 19 = 185 ∧ fr 175 20 = 186 ∧ fr 175 21 = 187 ∧ fr 175 26 = 188 ∧ fr 175 27 = 189 ∧ fr 175 30 = 190 ∧ fr 175 32 = 191 ∧ fr 175 35 = 192 ∧ fr 175 36 = 193 ∧ fr 175 38 = 194 ∧ fr 175 39 = 195 ∧ fr 175 40 = 196 ∧ ln 176 = 6 ∧ ln 177 = 6 ∧ ln 178 = 240 ∧ ln 179 = 40 ∧ ln 180 = 4 ∧ ln 181 = 320 ∧ ln 182 = 36 ∧ ln 183 = 2 ∧ ln 184 = 2 ∧ ln 185 = 6 ∧ ln 186 = 6 ∧ ln 187 = 6 ∧ ln 188 = 6 ∧ ln 189 = 6 ∧ ln 190 = 6 ∧ ln 191 = 1792 ∧ ln 192 = 4 ∧ ln 193 = 56 ∧ ln 194 = 36 ∧ ln 195 = 6 ∧ ln 196 = 216 := ⟨rfl, rfl, rfl, rfl, rfl, rfl, rfl, rfl, rfl, rfl, rfl, rfl, rfl, rfl, rfl, rfl, rfl, rfl, rfl, rfl, rfl, rfl, rfl, rfl, rfl, rfl, rfl, rfl, rfl, rfl, rfl, rfl, rfl, rfl, rfl, rfl, rfl, rfl, rfl, rfl, rfl, rfl⟩
