/-! pure: what the programs do to the memory -/
theorem rd_wr (mm : Mm) (k j k' j' : Nat) (v : Int32) : rd (wr mm k j v) k' j' = if k' = k ∧ j' = j then v else rd mm k' j' := by
  unfold rd wr upd
  by_cases h : k' = k <;> by_cases h2 : j' = j <;> simp [h, h2]
theorem rd_wr_k {mm : Mm} {k j k' j' : Nat} {v : Int32} (h : k' ≠ k) : rd (wr mm k j v) k' j' = rd mm k' j' := by rw [rd_wr, if_neg (fun q => h q.1)]
theorem rd_wr_j {mm : Mm} {k j j' : Nat} {v : Int32} (h : j' ≠ j) : rd (wr mm k j v) k j' = rd mm k j' := by rw [rd_wr, if_neg (fun q => h q.2)]
theorem rd_wr_s {mm : Mm} {k j : Nat} {v : Int32} : rd (wr mm k j v) k j = v := by rw [rd_wr, if_pos ⟨rfl, rfl⟩]
theorem rdL_wr (mm : Mm) (k j k' j' : Nat) (v : Int32) : rdL (wr mm k j v) k' j' = rdL mm k' j' := rfl
theorem rd_wrL (mm : Mm) (k j k' j' : Nat) (v : Int64) : rd (wrL mm k j v) k' j' = rd mm k' j' := rfl
theorem rdL_wrL (mm : Mm) (k j k' j' : Nat) (v : Int64) : rdL (wrL mm k j v) k' j' = if k' = k ∧ j' = j then v else rdL mm k' j' := by
  unfold rdL wrL vp_updL
  by_cases h : k' = k <;> by_cases h2 : j' = j <;> simp [h, h2]
theorem rd_cpy (mm : Mm) (src dst k j : Nat) (sp dp n : Int32) : rd (cpy mm src dst sp dp n) k j = if k = dst ∧ dp.toNatClampNeg ≤ j ∧ j < dp.toNatClampNeg + n.toNatClampNeg then rd mm src (sp.toNatClampNeg + (j - dp.toNatClampNeg)) else rd mm k j := by
  unfold rd cpy va_cpy
  by_cases h : k = dst
  · subst h
    simp
  · simp [h]
theorem rdL_cpy (mm : Mm) (src dst k j : Nat) (sp dp n : Int32) : rdL (cpy mm src dst sp dp n) k j = rdL mm k j := rfl
theorem gd_t {α : Type} {b : Bool} {x : Option α} (h : b = true) : gd b x = x := if_pos h
theorem bd2_t {α β : Type} {x : Option (α × Mm)} {f : α → Mm → Option β} {a : α} {m1 : Mm} (h : x = some (a, m1)) : bd2 x f = f a m1 := by rw [h]; rfl
theorem nm_t {α β : Type} {x : α} {f : α → β} : nm x f = f x := rfl
theorem cs_some {α : Type} {q : Nat} {a : α} {b : Nat → α} : cs (some q) a b = b q := rfl
theorem cs_none {α : Type} {a : α} {b : Nat → α} : cs none a b = a := rfl
-- Int32 by Int
theorem i_lt (a b : Int32) : a < b ↔ a.toInt < b.toInt := Int32.lt_iff_toInt_lt
theorem i_le (a b : Int32) : a ≤ b ↔ a.toInt ≤ b.toInt := Int32.le_iff_toInt_le
theorem i_eq (a b : Int32) : a = b ↔ a.toInt = b.toInt := Int32.toInt_inj.symm
theorem i_b (a : Int32) : -2147483648 ≤ a.toInt ∧ a.toInt < 2147483648 := ⟨Int32.le_toInt a, Int32.toInt_lt a⟩
theorem i_add (a b : Int32) (h1 : -2147483648 ≤ a.toInt + b.toInt) (h2 : a.toInt + b.toInt < 2147483648) : (a + b).toInt = a.toInt + b.toInt := by
  rw [Int32.toInt_add, bm h1 h2]
theorem i_sub (a b : Int32) (h1 : -2147483648 ≤ a.toInt - b.toInt) (h2 : a.toInt - b.toInt < 2147483648) : (a - b).toInt = a.toInt - b.toInt := by
  rw [Int32.toInt_sub, bm h1 h2]
theorem i_mul (a b : Int32) (h1 : -2147483648 ≤ a.toInt * b.toInt) (h2 : a.toInt * b.toInt < 2147483648) : (a * b).toInt = a.toInt * b.toInt := by
  rw [Int32.toInt_mul, bm h1 h2]
theorem i_nat (a : Int32) : a.toNatClampNeg = a.toInt.toNat := rfl
theorem inb_t {i : Int32} {n : Nat} (h1 : 0 ≤ i.toInt) (h2 : i.toInt < n) : inb i n = true := by
  unfold inb
  rw [decide_eq_true_eq]
  rintro (h | h)
  · rw [i_lt] at h
    have : (0 : Int32).toInt = 0 := rfl
    omega
  · rw [i_nat] at h
    omega
theorem nI_ex {x : Int32} {b : Nat} (h1 : 0 ≤ x.toInt) (h2 : x.toInt < b) : ∃ n : Nat, n < b ∧ x = nI n ∧ n < 2147483648 := by
  have := i_b x
  refine ⟨x.toInt.toNat, by omega, ?_, by omega⟩
  rw [i_eq, nI_toInt (by omega)]
  omega
theorem inb_n {i n : Nat} (h : i < n) (hn : n < 2147483648) : inb (nI i) n = true := inb_t (by rw [nI_toInt (by omega)]; omega) (by rw [nI_toInt (by omega)]; omega)
theorem nI_nat {n : Nat} (h : n < 2147483648) : (nI n).toNatClampNeg = n := nI_clamp h
