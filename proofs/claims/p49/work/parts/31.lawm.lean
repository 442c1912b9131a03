theorem dL_low_0 : decode cL_low 0 = .ok (.iload_n 0, 1) := by decide +kernel
theorem dL_low_1 : decode cL_low 1 = .ok (.ldc 7, 2) := by decide +kernel
theorem dL_low_3 : decode cL_low 3 = .ok (.iand, 1) := by decide +kernel
theorem dL_low_4 : decode cL_low 4 = .ok (.iload_n 1, 1) := by decide +kernel
theorem dL_low_5 : decode cL_low 5 = .ok (.irem, 1) := by decide +kernel
theorem dL_low_6 : decode cL_low 6 = .ok (.ireturn, 1) := by decide +kernel
theorem dL_cell_0 : decode cL_cell 0 = .ok (.iload_n 1, 1) := by decide +kernel
theorem dL_cell_1 : decode cL_cell 1 = .ok (.aload_n 0, 1) := by decide +kernel
theorem dL_cell_2 : decode cL_cell 2 = .ok (.arraylength, 1) := by decide +kernel
theorem dL_cell_3 : decode cL_cell 3 = .ok (.if_icmp .ge 9, 3) := by decide +kernel
theorem dL_cell_6 : decode cL_cell 6 = .ok (.aload_n 0, 1) := by decide +kernel
theorem dL_cell_7 : decode cL_cell 7 = .ok (.iload_n 1, 1) := by decide +kernel
theorem dL_cell_8 : decode cL_cell 8 = .ok (.iaload, 1) := by decide +kernel
theorem dL_cell_9 : decode cL_cell 9 = .ok (.goto 11, 3) := by decide +kernel
theorem dL_cell_12 : decode cL_cell 12 = .ok (.ldc 8, 2) := by decide +kernel
theorem dL_cell_14 : decode cL_cell 14 = .ok (.iload_n 1, 1) := by decide +kernel
theorem dL_cell_15 : decode cL_cell 15 = .ok (.imul, 1) := by decide +kernel
theorem dL_cell_16 : decode cL_cell 16 = .ok (.sipush 977, 3) := by decide +kernel
theorem dL_cell_19 : decode cL_cell 19 = .ok (.iadd, 1) := by decide +kernel
theorem dL_cell_20 : decode cL_cell 20 = .ok (.ireturn, 1) := by decide +kernel
theorem dL_told_0 : decode cL_told 0 = .ok (.iload_n 1, 1) := by decide +kernel
theorem dL_told_1 : decode cL_told 1 = .ok (.iconst 1, 1) := by decide +kernel
theorem dL_told_2 : decode cL_told 2 = .ok (.if_icmp .ne 10, 3) := by decide +kernel
theorem dL_told_5 : decode cL_told 5 = .ok (.aload_n 0, 1) := by decide +kernel
theorem dL_told_6 : decode cL_told 6 = .ok (.invokevirtual 9, 3) := by decide +kernel
theorem dL_told_9 : decode cL_told 9 = .ok (.goto 6, 3) := by decide +kernel
theorem dL_told_12 : decode cL_told 12 = .ok (.sipush (-7777), 3) := by decide +kernel
theorem dL_told_15 : decode cL_told 15 = .ok (.ireturn, 1) := by decide +kernel
theorem dL_number_0 : decode cL_number 0 = .ok (.iload_n 2, 1) := by decide +kernel
theorem dL_number_1 : decode cL_number 1 = .ok (.bipush 10, 2) := by decide +kernel
theorem dL_number_3 : decode cL_number 3 = .ok (.if_icmp .ge 14, 3) := by decide +kernel
theorem dL_number_6 : decode cL_number 6 = .ok (.aload_n 0, 1) := by decide +kernel
theorem dL_number_7 : decode cL_number 7 = .ok (.iload_n 1, 1) := by decide +kernel
theorem dL_number_8 : decode cL_number 8 = .ok (.bipush 48, 2) := by decide +kernel
theorem dL_number_10 : decode cL_number 10 = .ok (.iload_n 2, 1) := by decide +kernel
theorem dL_number_11 : decode cL_number 11 = .ok (.iadd, 1) := by decide +kernel
theorem dL_number_12 : decode cL_number 12 = .ok (.iastore, 1) := by decide +kernel
theorem dL_number_13 : decode cL_number 13 = .ok (.iload_n 1, 1) := by decide +kernel
theorem dL_number_14 : decode cL_number 14 = .ok (.iconst 1, 1) := by decide +kernel
theorem dL_number_15 : decode cL_number 15 = .ok (.iadd, 1) := by decide +kernel
theorem dL_number_16 : decode cL_number 16 = .ok (.ireturn, 1) := by decide +kernel
theorem dL_number_17 : decode cL_number 17 = .ok (.aload_n 0, 1) := by decide +kernel
theorem dL_number_18 : decode cL_number 18 = .ok (.iload_n 1, 1) := by decide +kernel
theorem dL_number_19 : decode cL_number 19 = .ok (.bipush 48, 2) := by decide +kernel
theorem dL_number_21 : decode cL_number 21 = .ok (.iload_n 2, 1) := by decide +kernel
theorem dL_number_22 : decode cL_number 22 = .ok (.bipush 10, 2) := by decide +kernel
theorem dL_number_24 : decode cL_number 24 = .ok (.idiv, 1) := by decide +kernel
theorem dL_number_25 : decode cL_number 25 = .ok (.iadd, 1) := by decide +kernel
theorem dL_number_26 : decode cL_number 26 = .ok (.iastore, 1) := by decide +kernel
theorem dL_number_27 : decode cL_number 27 = .ok (.aload_n 0, 1) := by decide +kernel
theorem dL_number_28 : decode cL_number 28 = .ok (.iload_n 1, 1) := by decide +kernel
theorem dL_number_29 : decode cL_number 29 = .ok (.iconst 1, 1) := by decide +kernel
theorem dL_number_30 : decode cL_number 30 = .ok (.iadd, 1) := by decide +kernel
theorem dL_number_31 : decode cL_number 31 = .ok (.bipush 48, 2) := by decide +kernel
theorem dL_number_33 : decode cL_number 33 = .ok (.iload_n 2, 1) := by decide +kernel
theorem dL_number_34 : decode cL_number 34 = .ok (.bipush 10, 2) := by decide +kernel
theorem dL_number_36 : decode cL_number 36 = .ok (.irem, 1) := by decide +kernel
theorem dL_number_37 : decode cL_number 37 = .ok (.iadd, 1) := by decide +kernel
theorem dL_number_38 : decode cL_number 38 = .ok (.iastore, 1) := by decide +kernel
theorem dL_number_39 : decode cL_number 39 = .ok (.iload_n 1, 1) := by decide +kernel
theorem dL_number_40 : decode cL_number 40 = .ok (.iconst 2, 1) := by decide +kernel
theorem dL_number_41 : decode cL_number 41 = .ok (.iadd, 1) := by decide +kernel
theorem dL_number_42 : decode cL_number 42 = .ok (.ireturn, 1) := by decide +kernel
theorem dL_laying_0 : decode cL_laying 0 = .ok (.iload_n 3, 1) := by decide +kernel
theorem dL_laying_1 : decode cL_laying 1 = .ok (.istore 6, 2) := by decide +kernel
theorem dL_laying_3 : decode cL_laying 3 = .ok (.aload_n 0, 1) := by decide +kernel
theorem dL_laying_4 : decode cL_laying 4 = .ok (.iload_n 1, 1) := by decide +kernel
theorem dL_laying_5 : decode cL_laying 5 = .ok (.iload_n 2, 1) := by decide +kernel
theorem dL_laying_6 : decode cL_laying 6 = .ok (.invokevirtual 43, 3) := by decide +kernel
theorem dL_laying_9 : decode cL_laying 9 = .ok (.iload_n 2, 1) := by decide +kernel
theorem dL_laying_10 : decode cL_laying 10 = .ok (.if_icmp .ne 7, 3) := by decide +kernel
theorem dL_laying_13 : decode cL_laying 13 = .ok (.iconst 1, 1) := by decide +kernel
theorem dL_laying_14 : decode cL_laying 14 = .ok (.goto 4, 3) := by decide +kernel
theorem dL_laying_17 : decode cL_laying 17 = .ok (.iconst 0, 1) := by decide +kernel
theorem dL_laying_18 : decode cL_laying 18 = .ok (.istore 7, 2) := by decide +kernel
theorem dL_laying_20 : decode cL_laying 20 = .ok (.iconst 0, 1) := by decide +kernel
theorem dL_laying_21 : decode cL_laying 21 = .ok (.istore 8, 2) := by decide +kernel
theorem dL_laying_23 : decode cL_laying 23 = .ok (.iload 8, 2) := by decide +kernel
theorem dL_laying_25 : decode cL_laying 25 = .ok (.iload_n 2, 1) := by decide +kernel
theorem dL_laying_26 : decode cL_laying 26 = .ok (.if_icmp .ge 99, 3) := by decide +kernel
theorem dL_laying_29 : decode cL_laying 29 = .ok (.iload 7, 2) := by decide +kernel
theorem dL_laying_31 : decode cL_laying 31 = .ok (.ifCond .eq 94, 3) := by decide +kernel
theorem dL_laying_34 : decode cL_laying 34 = .ok (.iload 4, 2) := by decide +kernel
theorem dL_laying_36 : decode cL_laying 36 = .ok (.iconst 3, 1) := by decide +kernel
theorem dL_laying_37 : decode cL_laying 37 = .ok (.iload 8, 2) := by decide +kernel
theorem dL_laying_39 : decode cL_laying 39 = .ok (.imul, 1) := by decide +kernel
theorem dL_laying_40 : decode cL_laying 40 = .ok (.ishr, 1) := by decide +kernel
theorem dL_laying_41 : decode cL_laying 41 = .ok (.iload 6, 2) := by decide +kernel
theorem dL_laying_43 : decode cL_laying 43 = .ok (.iconst 1, 1) := by decide +kernel
theorem dL_laying_44 : decode cL_laying 44 = .ok (.iadd, 1) := by decide +kernel
theorem dL_laying_45 : decode cL_laying 45 = .ok (.invokestatic 21, 3) := by decide +kernel
theorem dL_laying_48 : decode cL_laying 48 = .ok (.istore 9, 2) := by decide +kernel
theorem dL_laying_50 : decode cL_laying 50 = .ok (.iload 8, 2) := by decide +kernel
theorem dL_laying_52 : decode cL_laying 52 = .ok (.iload 4, 2) := by decide +kernel
theorem dL_laying_54 : decode cL_laying 54 = .ok (.bipush 20, 2) := by decide +kernel
theorem dL_laying_56 : decode cL_laying 56 = .ok (.ishr, 1) := by decide +kernel
theorem dL_laying_57 : decode cL_laying 57 = .ok (.iload_n 2, 1) := by decide +kernel
theorem dL_laying_58 : decode cL_laying 58 = .ok (.invokestatic 21, 3) := by decide +kernel
theorem dL_laying_61 : decode cL_laying 61 = .ok (.if_icmp .ne 20, 3) := by decide +kernel
theorem dL_laying_64 : decode cL_laying 64 = .ok (.iload 4, 2) := by decide +kernel
theorem dL_laying_66 : decode cL_laying 66 = .ok (.bipush 24, 2) := by decide +kernel
theorem dL_laying_68 : decode cL_laying 68 = .ok (.ishr, 1) := by decide +kernel
theorem dL_laying_69 : decode cL_laying 69 = .ok (.iconst 2, 1) := by decide +kernel
theorem dL_laying_70 : decode cL_laying 70 = .ok (.invokestatic 21, 3) := by decide +kernel
theorem dL_laying_73 : decode cL_laying 73 = .ok (.ifCond .ne 8, 3) := by decide +kernel
theorem dL_laying_76 : decode cL_laying 76 = .ok (.iload 6, 2) := by decide +kernel
theorem dL_laying_78 : decode cL_laying 78 = .ok (.goto 5, 3) := by decide +kernel
theorem dL_laying_81 : decode cL_laying 81 = .ok (.iload 9, 2) := by decide +kernel
theorem dL_laying_83 : decode cL_laying 83 = .ok (.istore 9, 2) := by decide +kernel
theorem dL_laying_85 : decode cL_laying 85 = .ok (.aload 5, 2) := by decide +kernel
theorem dL_laying_87 : decode cL_laying 87 = .ok (.iload 8, 2) := by decide +kernel
theorem dL_laying_89 : decode cL_laying 89 = .ok (.iload 9, 2) := by decide +kernel
theorem dL_laying_91 : decode cL_laying 91 = .ok (.iastore, 1) := by decide +kernel
theorem dL_laying_92 : decode cL_laying 92 = .ok (.iload 6, 2) := by decide +kernel
theorem dL_laying_94 : decode cL_laying 94 = .ok (.iload 9, 2) := by decide +kernel
theorem dL_laying_96 : decode cL_laying 96 = .ok (.isub, 1) := by decide +kernel
theorem dL_laying_97 : decode cL_laying 97 = .ok (.istore 6, 2) := by decide +kernel
theorem dL_laying_99 : decode cL_laying 99 = .ok (.aload_n 0, 1) := by decide +kernel
theorem dL_laying_100 : decode cL_laying 100 = .ok (.iload_n 1, 1) := by decide +kernel
theorem dL_laying_101 : decode cL_laying 101 = .ok (.iload 8, 2) := by decide +kernel
theorem dL_laying_103 : decode cL_laying 103 = .ok (.iload 9, 2) := by decide +kernel
theorem dL_laying_105 : decode cL_laying 105 = .ok (.invokevirtual 46, 3) := by decide +kernel
theorem dL_laying_108 : decode cL_laying 108 = .ok (.iconst 1, 1) := by decide +kernel
theorem dL_laying_109 : decode cL_laying 109 = .ok (.if_icmp .ne 7, 3) := by decide +kernel
theorem dL_laying_112 : decode cL_laying 112 = .ok (.iconst 1, 1) := by decide +kernel
theorem dL_laying_113 : decode cL_laying 113 = .ok (.goto 4, 3) := by decide +kernel
theorem dL_laying_116 : decode cL_laying 116 = .ok (.iconst 0, 1) := by decide +kernel
theorem dL_laying_117 : decode cL_laying 117 = .ok (.istore 7, 2) := by decide +kernel
theorem dL_laying_119 : decode cL_laying 119 = .ok (.iinc 8 1, 3) := by decide +kernel
theorem dL_laying_122 : decode cL_laying 122 = .ok (.goto (-99), 3) := by decide +kernel
theorem dL_laying_125 : decode cL_laying 125 = .ok (.iload 7, 2) := by decide +kernel
theorem dL_laying_127 : decode cL_laying 127 = .ok (.ireturn, 1) := by decide +kernel
theorem q_834 : Cond.constant RL 7 2147483647 ∈ wT := wi_t 834 (by decide +kernel) (by decide +kernel)
theorem q_838 : Cond.constant RL 8 40503 ∈ wT := wi_t 838 (by decide +kernel) (by decide +kernel)
theorem q_800 : Cond.methodLink RL 9 yX11_asked ∈ wT := wi_t 800 (by decide +kernel) (by decide +kernel)
theorem q_803 : Cond.code yX11_asked cX11_asked 1 (some .int) ∈ wT := wi_t 803 (by decide +kernel) (by decide +kernel)
theorem q_801 : Cond.instanceMethod yX11_asked ∈ wT := wi_t 801 (by decide +kernel) (by decide +kernel)
theorem q_802 : Cond.selects RX11 yX11_asked yX11_asked ∈ wT := wi_t 802 (by decide +kernel) (by decide +kernel)
theorem q_917 : Cond.methodLink RL 46 yX11_lay ∈ wT := wi_t 917 (by decide +kernel) (by decide +kernel)
theorem q_920 : Cond.code yX11_lay cX11_lay 6 (some .int) ∈ wT := wi_t 920 (by decide +kernel) (by decide +kernel)
theorem q_918 : Cond.instanceMethod yX11_lay ∈ wT := wi_t 918 (by decide +kernel) (by decide +kernel)
theorem q_919 : Cond.selects RX11 yX11_lay yX11_lay ∈ wT := wi_t 919 (by decide +kernel) (by decide +kernel)
theorem q_831 : Cond.methodLink RL 21 yL_low ∈ wT := wi_t 831 (by decide +kernel) (by decide +kernel)
theorem q_833 : Cond.code yL_low cL_low 2 (some .int) ∈ wT := wi_t 833 (by decide +kernel) (by decide +kernel)
theorem q_832 : Cond.static yL_low ∈ wT := wi_t 832 (by decide +kernel) (by decide +kernel)
theorem q_0 : Cond.initialized RL ∈ wT := wi_t 0 (by decide +kernel) (by decide +kernel)
theorem q_913 : Cond.methodLink RL 43 yX11_row ∈ wT := wi_t 913 (by decide +kernel) (by decide +kernel)
theorem q_916 : Cond.code yX11_row cX11_row 4 (some .int) ∈ wT := wi_t 916 (by decide +kernel) (by decide +kernel)
theorem q_914 : Cond.instanceMethod yX11_row ∈ wT := wi_t 914 (by decide +kernel) (by decide +kernel)
theorem q_915 : Cond.selects RX11 yX11_row yX11_row ∈ wT := wi_t 915 (by decide +kernel) (by decide +kernel)
theorem kvX11_asked : KV yX11_asked RX11 cX11_asked 1 (some .int) 0 := ⟨q_801, q_802, q_1, q_803, rfl, by decide +kernel, by decide +kernel, by decide +kernel⟩
theorem kvX11_lay : KV yX11_lay RX11 cX11_lay 6 (some .int) 3 := ⟨q_918, q_919, q_1, q_920, rfl, by decide +kernel, by decide +kernel, by decide +kernel⟩
theorem kvL_low : KS yL_low cL_low 2 (some .int) 2 := ⟨q_832, q_0, q_833, by decide +kernel, by decide +kernel, by decide +kernel⟩
theorem kvX11_row : KV yX11_row RX11 cX11_row 4 (some .int) 2 := ⟨q_914, q_915, q_1, q_916, rfl, by decide +kernel, by decide +kernel, by decide +kernel⟩
/-! low -/
def fL_low (N : Nat)  (a0 : Int32) (a1 : Int32) (mm : Mm) : Option (Int32 × Mm) :=
  gd (nz a1) <| some ((a0 &&& 2147483647) - (a0 &&& 2147483647) / a1 * a1, mm)
abbrev rmL_low : Room := { frames := 1, cells := 0, slots := 0, locals := 40 }
/-! cell -/
def fL_cell_0 (N L : Nat) (xs : Nat → Int32)  (a1 : Int32) (mm : Mm) : Option (Int32 × Mm) :=
  if (Int32.ofNat L) ≤ a1 then (some ((40503 * a1) + 977, mm)) else (gd (inb a1 L) <| some (xs a1.toNatClampNeg, mm))
/-! told -/
def fL_told (N : Nat)  (a0 : Nat) (a1 : Int32) (mm : Mm) : Option (Int32 × Mm) :=
  if a1 = 1 then (bd2 (fX11_asked N a0 mm) fun x2 m3 => some (x2, m3)) else (some ((-7777), mm))
abbrev rmL_told : Room := { frames := 2, cells := 0, slots := 0, locals := 68 }
/-! number -/
def fL_number (N : Nat)  (a0 : Nat) (a1 : Int32) (a2 : Int32) (mm : Mm) : Option (Int32 × Mm) :=
  if (10 : Int32) ≤ a2 then (gd (nz 10) <| gd (inb a1 (ln a0)) <| nm (wr mm a0 a1.toNatClampNeg (48 + (a2 / 10))) fun m4 => gd (nz 10) <| gd (inb (a1 + 1) (ln a0)) <| nm (wr m4 a0 (a1 + 1).toNatClampNeg (48 + (a2 - a2 / 10 * 10))) fun m7 => some (a1 + 2, m7)) else (gd (inb a1 (ln a0)) <| nm (wr mm a0 a1.toNatClampNeg (48 + a2)) fun m9 => some (a1 + 1, m9))
abbrev rmL_number : Room := { frames := 1, cells := 0, slots := 0, locals := 40 }
/-! laying -/
def fL_laying_117 (N : Nat) (k23 : Nat → Int32 → Int32 → Int32 → Nat → Int32 → Int32 → Int32 → Mm → Option (Int32 × Mm)) (a0 : Nat) (a1 : Int32) (a2 : Int32) (a4 : Int32) (a5 : Nat) (a6 : Int32) (a8 : Int32) (s0 : Int32) (mm : Mm) : Option (Int32 × Mm) :=
  k23 a0 a1 a2 a4 a5 a6 s0 (a8 + 1) mm
def fL_laying_83 (N : Nat) (k23 : Nat → Int32 → Int32 → Int32 → Nat → Int32 → Int32 → Int32 → Mm → Option (Int32 × Mm)) (a0 : Nat) (a1 : Int32) (a2 : Int32) (a4 : Int32) (a5 : Nat) (a6 : Int32) (a8 : Int32) (s0 : Int32) (mm : Mm) : Option (Int32 × Mm) :=
  gd (inb a8 (ln a5)) <| nm (wr mm a5 a8.toNatClampNeg s0) fun m2 => bd2 (fX11_lay N a0 a1 a8 s0 m2) fun x3 m4 => if x3 = 1 then (fL_laying_117 N k23 a0 a1 a2 a4 a5 (a6 - s0) a8 1 m4) else (fL_laying_117 N k23 a0 a1 a2 a4 a5 (a6 - s0) a8 0 m4)
def fL_laying_81 (N : Nat) (k23 : Nat → Int32 → Int32 → Int32 → Nat → Int32 → Int32 → Int32 → Mm → Option (Int32 × Mm)) (a0 : Nat) (a1 : Int32) (a2 : Int32) (a4 : Int32) (a5 : Nat) (a6 : Int32) (a8 : Int32) (a9 : Int32) (mm : Mm) : Option (Int32 × Mm) :=
  fL_laying_83 N k23 a0 a1 a2 a4 a5 a6 a8 a9 mm
def fL_laying_23 (N : Nat)  : Nat → Nat → Int32 → Int32 → Int32 → Nat → Int32 → Int32 → Int32 → Mm → Option (Int32 × Mm)
  | 0 => fun _ _ _ _ _ _ _ _ _ => none
  | n + 1 => fun a0 a1 a2 a4 a5 a6 a7 a8 mm =>
    let k23 := fL_laying_23 N  n
    if a2 ≤ a8 then (gd (zb a7) <| some (a7, mm)) else (if a7 = 0 then (gd (zb a7) <| some (a7, mm)) else (bd2 (fL_low N (a4 >>> ((3 * a8) &&& 31)) (a6 + 1) mm) fun x11 m12 => bd2 (fL_low N (a4 >>> ((20 : Int32) &&& 31)) a2 m12) fun x14 m15 => if a8 = x14 then (bd2 (fL_low N (a4 >>> ((24 : Int32) &&& 31)) 2 m15) fun x18 m19 => if x18 = 0 then (fL_laying_83 N k23 a0 a1 a2 a4 a5 a6 a8 a6 m19) else (fL_laying_81 N k23 a0 a1 a2 a4 a5 a6 a8 x11 m19)) else (fL_laying_81 N k23 a0 a1 a2 a4 a5 a6 a8 x11 m15)))
def fL_laying_18 (N : Nat)  (a0 : Nat) (a1 : Int32) (a2 : Int32) (a4 : Int32) (a5 : Nat) (a6 : Int32) (s0 : Int32) (mm : Mm) : Option (Int32 × Mm) :=
  fL_laying_23 N N a0 a1 a2 a4 a5 a6 s0 0 mm
def fL_laying (N : Nat)  (a0 : Nat) (a1 : Int32) (a2 : Int32) (a3 : Int32) (a4 : Int32) (a5 : Nat) (mm : Mm) : Option (Int32 × Mm) :=
  bd2 (fX11_row N a0 a1 a2 mm) fun x22 m23 => if x22 = a2 then (fL_laying_18 N a0 a1 a2 a4 a5 a3 1 m23) else (fL_laying_18 N a0 a1 a2 a4 a5 a3 0 m23)
abbrev rmL_laying : Room := { frames := 4, cells := 0, slots := 0, locals := 132 }
def fL_cell (N L : Nat) (xs : Nat → Int32) (a1 : Int32) (mm : Mm) : Option (Int32 × Mm) := fL_cell_0 N L xs a1 mm
abbrev rmL_cell : Room := { frames := 1, cells := 0, slots := 0, locals := 40 }
section W_lm
variable {p : Program} {l : Launch} {e : Env} {s : State} {m : MethodId} {args : Array Value} {below : List Frame} {meth : Method} {c : Code} {D : va_G} {ca ad : Nat → Nat} {b L : Nat} {xs : Nat → Int32}
set_option maxRecDepth 100000 in
set_option maxHeartbeats 4000000 in
theorem wL_low_0 (C : Cx p s m meth c args cL_low 2 (some .int) RL D ca ad) {res : Int32 × Mm} {N : Nat}  {a0 : Int32} {a1 : Int32} {mm : Mm} {H : Heap} {locs : List Loc} {ls : Array Slot}  (hW : Wd D ca ad s.heap mm H locs) (hl : lv_has ls 2 [(0, .int a0), (1, .int a1)]) (hf : fL_low N a0 a1 mm = some res) : W p l e (rmL_low) s m args below meth c H locs 0 0 (MQ below (QI D ca ad res) args s 0 0 (AA ad)) (F0 m 0 ls []) := by
  unfold fL_low at hf
  refine lv_iload_n C.1 C.2.1 dL_low_0 rfl (lv_at hl 0 rfl) ?_
  refine lv_ldc C.1 C.2.1 C.2.2.2.1 (C.2.2.2.2.1 _ q_834) dL_low_1 ?_
  refine lv_iand C.1 C.2.1 dL_low_3 ?_
  refine lv_iload_n C.1 C.2.1 dL_low_4 rfl (lv_at hl 1 rfl) ?_
  obtain ⟨g1, hf⟩ := gd_s hf
  refine lv_irem C.1 C.2.1 dL_low_5 (of_decide_eq_true g1) ?_
  cases hf
  exact z_iret C hW dL_low_6
set_option maxRecDepth 100000 in
set_option maxHeartbeats 4000000 in
theorem tL_low (l : Launch) {D : va_G} {ca ad : Nat → Nat} (hi : Inj ad) {N : Nat} {a0 : Int32} {a1 : Int32} {mm : Mm} {res : Int32 × Mm}  (hf : fL_low N a0 a1 mm = some res) : Met l yL_low (WS yL_low cL_low 2 (some .int)) (rmL_low) (va_Pc [.int a0, .int a1] (WB D ca ad mm)) (QI D ca ad res) 0 0 (AA ad) := by
  refine x_start hi (by decide) rfl (Nat.le_of_ble_eq_true rfl) (fun p e s m args below meth c ls C hW hl => ?_)
  exact wL_low_0 C  hW (lv_sub hl [0, 1] rfl) hf
set_option maxRecDepth 100000 in
set_option maxHeartbeats 4000000 in
theorem wL_cell_0 (CS : CxS p s m meth c args cL_cell 2 (some .int) RL D ca ad b L xs) {res : Int32 × Mm} {N : Nat}  {a1 : Int32} {mm : Mm} {H : Heap} {locs : List Loc} {ls : Array Slot}  (hW : Wd D ca ad s.heap mm H locs) (hl : lv_has ls 2 [(1, .int a1), (0, .ref b)]) (hf : fL_cell_0 N L xs a1 mm = some res) : W p l e (rmL_cell) s m args below meth c H locs 0 0 (MQ below (QI D ca ad res) args s 0 0 (AA ad)) (F0 m 0 ls []) := by
  have C := CS.1
  unfold fL_cell_0 at hf
  refine lv_iload_n C.1 C.2.1 dL_cell_0 rfl (lv_at hl 0 rfl) ?_
  refine lv_aload_n C.1 C.2.1 dL_cell_1 rfl (lv_at hl 1 rfl) ?_
  refine z_slen CS hW dL_cell_2 ?_
  refine lv_icmp_ge (tgt := 12) C.1 C.2.1 dL_cell_3 (by decide) (fun c1 => ?_) (fun c1 => ?_)
  · have hf := if_t c1 hf
    refine lv_ldc C.1 C.2.1 C.2.2.2.1 (C.2.2.2.2.1 _ q_838) dL_cell_12 ?_
    refine lv_iload_n C.1 C.2.1 dL_cell_14 rfl (lv_at hl 0 rfl) ?_
    refine lv_imul C.1 C.2.1 dL_cell_15 ?_
    refine lv_sipush (v := 977) C.1 C.2.1 dL_cell_16 (by decide) ?_
    refine lv_iadd C.1 C.2.1 dL_cell_19 ?_
    cases hf
    exact z_iret C hW dL_cell_20
  · have hf := if_f c1 hf
    refine lv_aload_n C.1 C.2.1 dL_cell_6 rfl (lv_at hl 1 rfl) ?_
    refine lv_iload_n C.1 C.2.1 dL_cell_7 rfl (lv_at hl 0 rfl) ?_
    obtain ⟨g2, hf⟩ := gd_s hf
    refine z_sld CS hW g2 dL_cell_8 ?_
    refine lv_goto (tgt := 20) C.1 C.2.1 dL_cell_9 (by decide) ?_
    cases hf
    exact z_iret C hW dL_cell_20
set_option maxRecDepth 100000 in
set_option maxHeartbeats 4000000 in
theorem wL_told_0 (C : Cx p s m meth c args cL_told 2 (some .int) RL D ca ad) {res : Int32 × Mm} {N : Nat}  {a0 : Nat} {a1 : Int32} {mm : Mm} {H : Heap} {locs : List Loc} {ls : Array Slot} (ha0 : sX11 a0) (hW : Wd D ca ad s.heap mm H locs) (hl : lv_has ls 2 [(0, .ref (ad a0)), (1, .int a1)]) (hf : fL_told N a0 a1 mm = some res) : W p l e (rmL_told) s m args below meth c H locs 0 0 (MQ below (QI D ca ad res) args s 0 0 (AA ad)) (F0 m 0 ls []) := by
  unfold fL_told at hf
  refine lv_iload_n C.1 C.2.1 dL_told_0 rfl (lv_at hl 1 rfl) ?_
  refine lv_iconst (v := 1) C.1 C.2.1 dL_told_1 (by decide) ?_
  refine lv_icmp_ne (tgt := 12) C.1 C.2.1 dL_told_2 (by decide) (fun c1 => ?_) (fun c1 => ?_)
  · have hf := if_f c1 hf
    refine lv_sipush (v := (-7777)) C.1 C.2.1 dL_told_12 (by decide) ?_
    cases hf
    exact z_iret C hW dL_told_15
  · have hf := if_t c1 hf
    refine lv_aload_n C.1 C.2.1 dL_told_5 rfl (lv_at hl 0 rfl) ?_
    obtain ⟨x2, m3, r4, hf⟩ := bd2_s hf
    refine z_ci hW (z_runV C hW [] [] (ha0).1 (ha0).2.1 kX11.1 kvX11_asked q_800 (tX11_asked l C.2.2.2.2.2.2.1 ha0 r4) rfl rfl ⟨by decide, by decide⟩ rfl hl.1 rfl (Nat.le_of_ble_eq_true rfl) dL_told_6 ⟨Nat.le_of_ble_eq_true rfl, Nat.le_of_ble_eq_true rfl⟩) (fun H locs hW => ?_)
    refine lv_goto (tgt := 15) C.1 C.2.1 dL_told_9 (by decide) ?_
    cases hf
    exact z_iret C hW dL_told_15
set_option maxRecDepth 100000 in
set_option maxHeartbeats 4000000 in
theorem tL_told (l : Launch) {D : va_G} {ca ad : Nat → Nat} (hi : Inj ad) {N : Nat} {a0 : Nat} {a1 : Int32} {mm : Mm} {res : Int32 × Mm} (ha0 : sX11 a0) (hf : fL_told N a0 a1 mm = some res) : Met l yL_told (WS yL_told cL_told 2 (some .int)) (rmL_told) (va_Pc [.ref (ad a0), .int a1] (WB D ca ad mm)) (QI D ca ad res) 0 0 (AA ad) := by
  refine x_start hi (by decide) rfl (Nat.le_of_ble_eq_true rfl) (fun p e s m args below meth c ls C hW hl => ?_)
  exact wL_told_0 C ha0 hW (lv_sub hl [0, 1] rfl) hf
set_option maxRecDepth 100000 in
set_option maxHeartbeats 4000000 in
theorem wL_number_0 (C : Cx p s m meth c args cL_number 3 (some .int) RL D ca ad) {res : Int32 × Mm} {N : Nat}  {a0 : Nat} {a1 : Int32} {a2 : Int32} {mm : Mm} {H : Heap} {locs : List Loc} {ls : Array Slot} (ha0 : sJ ad a0) (hW : Wd D ca ad s.heap mm H locs) (hl : lv_has ls 3 [(0, .ref (ad a0)), (1, .int a1), (2, .int a2)]) (hf : fL_number N a0 a1 a2 mm = some res) : W p l e (rmL_number) s m args below meth c H locs 0 0 (MQ below (QI D ca ad res) args s 0 0 (AA ad)) (F0 m 0 ls []) := by
  unfold fL_number at hf
  refine lv_iload_n C.1 C.2.1 dL_number_0 rfl (lv_at hl 2 rfl) ?_
  refine lv_bipush (v := 10) C.1 C.2.1 dL_number_1 (by decide) ?_
  refine lv_icmp_ge (tgt := 17) C.1 C.2.1 dL_number_3 (by decide) (fun c1 => ?_) (fun c1 => ?_)
  · have hf := if_t c1 hf
    refine lv_aload_n C.1 C.2.1 dL_number_17 rfl (lv_at hl 0 rfl) ?_
    refine lv_iload_n C.1 C.2.1 dL_number_18 rfl (lv_at hl 1 rfl) ?_
    refine lv_bipush (v := 48) C.1 C.2.1 dL_number_19 (by decide) ?_
    refine lv_iload_n C.1 C.2.1 dL_number_21 rfl (lv_at hl 2 rfl) ?_
    refine lv_bipush (v := 10) C.1 C.2.1 dL_number_22 (by decide) ?_
    obtain ⟨g2, hf⟩ := gd_s hf
    refine lv_idiv C.1 C.2.1 dL_number_24 (of_decide_eq_true g2) ?_
    refine lv_iadd C.1 C.2.1 dL_number_25 ?_
    obtain ⟨g3, hf⟩ := gd_s hf
    refine z_iast C hW ha0 g3 dL_number_26 (fun H locs hW => ?_)
    obtain ⟨m4, em4⟩ : ∃ z, z = wr mm a0 a1.toNatClampNeg (48 + (a2 / 10)) := ⟨_, rfl⟩
    have hf := nm_s hf em4
    rw [← em4] at hW
    refine lv_aload_n C.1 C.2.1 dL_number_27 rfl (lv_at hl 0 rfl) ?_
    refine lv_iload_n C.1 C.2.1 dL_number_28 rfl (lv_at hl 1 rfl) ?_
    refine lv_iconst (v := 1) C.1 C.2.1 dL_number_29 (by decide) ?_
    refine lv_iadd C.1 C.2.1 dL_number_30 ?_
    refine lv_bipush (v := 48) C.1 C.2.1 dL_number_31 (by decide) ?_
    refine lv_iload_n C.1 C.2.1 dL_number_33 rfl (lv_at hl 2 rfl) ?_
    refine lv_bipush (v := 10) C.1 C.2.1 dL_number_34 (by decide) ?_
    obtain ⟨g5, hf⟩ := gd_s hf
    refine lv_irem C.1 C.2.1 dL_number_36 (of_decide_eq_true g5) ?_
    refine lv_iadd C.1 C.2.1 dL_number_37 ?_
    obtain ⟨g6, hf⟩ := gd_s hf
    refine z_iast C hW ha0 g6 dL_number_38 (fun H locs hW => ?_)
    obtain ⟨m7, em7⟩ : ∃ z, z = wr m4 a0 (a1 + 1).toNatClampNeg (48 + (a2 - a2 / 10 * 10)) := ⟨_, rfl⟩
    have hf := nm_s hf em7
    rw [← em7] at hW
    refine lv_iload_n C.1 C.2.1 dL_number_39 rfl (lv_at hl 1 rfl) ?_
    refine lv_iconst (v := 2) C.1 C.2.1 dL_number_40 (by decide) ?_
    refine lv_iadd C.1 C.2.1 dL_number_41 ?_
    cases hf
    exact z_iret C hW dL_number_42
  · have hf := if_f c1 hf
    refine lv_aload_n C.1 C.2.1 dL_number_6 rfl (lv_at hl 0 rfl) ?_
    refine lv_iload_n C.1 C.2.1 dL_number_7 rfl (lv_at hl 1 rfl) ?_
    refine lv_bipush (v := 48) C.1 C.2.1 dL_number_8 (by decide) ?_
    refine lv_iload_n C.1 C.2.1 dL_number_10 rfl (lv_at hl 2 rfl) ?_
    refine lv_iadd C.1 C.2.1 dL_number_11 ?_
    obtain ⟨g8, hf⟩ := gd_s hf
    refine z_iast C hW ha0 g8 dL_number_12 (fun H locs hW => ?_)
    obtain ⟨m9, em9⟩ : ∃ z, z = wr mm a0 a1.toNatClampNeg (48 + a2) := ⟨_, rfl⟩
    have hf := nm_s hf em9
    rw [← em9] at hW
    refine lv_iload_n C.1 C.2.1 dL_number_13 rfl (lv_at hl 1 rfl) ?_
    refine lv_iconst (v := 1) C.1 C.2.1 dL_number_14 (by decide) ?_
    refine lv_iadd C.1 C.2.1 dL_number_15 ?_
    cases hf
    exact z_iret C hW dL_number_16
set_option maxRecDepth 100000 in
set_option maxHeartbeats 4000000 in
theorem tL_number (l : Launch) {D : va_G} {ca ad : Nat → Nat} (hi : Inj ad) {N : Nat} {a0 : Nat} {a1 : Int32} {a2 : Int32} {mm : Mm} {res : Int32 × Mm} (ha0 : sJ ad a0) (hf : fL_number N a0 a1 a2 mm = some res) : Met l yL_number (WS yL_number cL_number 3 (some .int)) (rmL_number) (va_Pc [.ref (ad a0), .int a1, .int a2] (WB D ca ad mm)) (QI D ca ad res) 0 0 (AA ad) := by
  refine x_start hi (by decide) rfl (Nat.le_of_ble_eq_true rfl) (fun p e s m args below meth c ls C hW hl => ?_)
  exact wL_number_0 C ha0 hW (lv_sub hl [0, 1, 2] rfl) hf
set_option maxRecDepth 100000 in
set_option maxHeartbeats 4000000 in
theorem wL_laying_117 (C : Cx p s m meth c args cL_laying 10 (some .boolean) RL D ca ad) {res : Int32 × Mm} {N : Nat} {k23 : Nat → Int32 → Int32 → Int32 → Nat → Int32 → Int32 → Int32 → Mm → Option (Int32 × Mm)} (hk23 : ∀ (a0 : Nat) (a1 : Int32) (a2 : Int32) (a4 : Int32) (a5 : Nat) (a6 : Int32) (a7 : Int32) (a8 : Int32) (mm : Mm) (H : Heap) (locs : List Loc) (ls : Array Slot), (sX11 a0) → (sJ ad a5) → Wd D ca ad s.heap mm H locs → lv_has ls 10 [(0, .ref (ad a0)), (1, .int a1), (2, .int a2), (4, .int a4), (5, .ref (ad a5)), (6, .int a6), (7, .int a7), (8, .int a8)] → k23 a0 a1 a2 a4 a5 a6 a7 a8 mm = some res → W p l e (rmL_laying) s m args below meth c H locs 0 0 (MQ below (QI D ca ad res) args s 0 0 (AA ad)) (F0 m 23 ls [])) {a0 : Nat} {a1 : Int32} {a2 : Int32} {a4 : Int32} {a5 : Nat} {a6 : Int32} {a8 : Int32} {s0 : Int32} {mm : Mm} {H : Heap} {locs : List Loc} {ls : Array Slot} (ha0 : sX11 a0) (ha5 : sJ ad a5) (hW : Wd D ca ad s.heap mm H locs) (hl : lv_has ls 10 [(0, .ref (ad a0)), (1, .int a1), (2, .int a2), (4, .int a4), (5, .ref (ad a5)), (6, .int a6), (8, .int a8)]) (hf : fL_laying_117 N k23 a0 a1 a2 a4 a5 a6 a8 s0 mm = some res) : W p l e (rmL_laying) s m args below meth c H locs 0 0 (MQ below (QI D ca ad res) args s 0 0 (AA ad)) (F0 m 117 ls [.int s0]) := by
  unfold fL_laying_117 at hf
  refine lv_istore (lv' := [(7, .int s0), (0, .ref (ad a0)), (1, .int a1), (2, .int a2), (4, .int a4), (5, .ref (ad a5)), (6, .int a6), (8, .int a8)]) C.1 C.2.1 dL_laying_117 hl (by decide) rfl (fun ls hl => ?_)
  refine lv_iinc (v := (a8 + 1)) (lv' := [(8, .int (a8 + 1)), (7, .int s0), (0, .ref (ad a0)), (1, .int a1), (2, .int a2), (4, .int a4), (5, .ref (ad a5)), (6, .int a6)]) C.1 C.2.1 dL_laying_119 hl (k := 7) rfl rfl (by decide) rfl (fun ls hl => ?_)
  refine lv_goto (tgt := 23) C.1 C.2.1 dL_laying_122 (by decide) ?_
  exact hk23 _ _ _ _ _ _ _ _ _ _ _ _ ha0 ha5 hW (lv_sub hl [2, 3, 4, 5, 6, 7, 1, 0] rfl) hf
set_option maxRecDepth 100000 in
set_option maxHeartbeats 4000000 in
theorem wL_laying_83 (C : Cx p s m meth c args cL_laying 10 (some .boolean) RL D ca ad) {res : Int32 × Mm} {N : Nat} {k23 : Nat → Int32 → Int32 → Int32 → Nat → Int32 → Int32 → Int32 → Mm → Option (Int32 × Mm)} (hk23 : ∀ (a0 : Nat) (a1 : Int32) (a2 : Int32) (a4 : Int32) (a5 : Nat) (a6 : Int32) (a7 : Int32) (a8 : Int32) (mm : Mm) (H : Heap) (locs : List Loc) (ls : Array Slot), (sX11 a0) → (sJ ad a5) → Wd D ca ad s.heap mm H locs → lv_has ls 10 [(0, .ref (ad a0)), (1, .int a1), (2, .int a2), (4, .int a4), (5, .ref (ad a5)), (6, .int a6), (7, .int a7), (8, .int a8)] → k23 a0 a1 a2 a4 a5 a6 a7 a8 mm = some res → W p l e (rmL_laying) s m args below meth c H locs 0 0 (MQ below (QI D ca ad res) args s 0 0 (AA ad)) (F0 m 23 ls [])) {a0 : Nat} {a1 : Int32} {a2 : Int32} {a4 : Int32} {a5 : Nat} {a6 : Int32} {a8 : Int32} {s0 : Int32} {mm : Mm} {H : Heap} {locs : List Loc} {ls : Array Slot} (ha0 : sX11 a0) (ha5 : sJ ad a5) (hW : Wd D ca ad s.heap mm H locs) (hl : lv_has ls 10 [(0, .ref (ad a0)), (1, .int a1), (2, .int a2), (4, .int a4), (5, .ref (ad a5)), (6, .int a6), (8, .int a8)]) (hf : fL_laying_83 N k23 a0 a1 a2 a4 a5 a6 a8 s0 mm = some res) : W p l e (rmL_laying) s m args below meth c H locs 0 0 (MQ below (QI D ca ad res) args s 0 0 (AA ad)) (F0 m 83 ls [.int s0]) := by
  unfold fL_laying_83 at hf
  refine lv_istore (lv' := [(9, .int s0), (0, .ref (ad a0)), (1, .int a1), (2, .int a2), (4, .int a4), (5, .ref (ad a5)), (6, .int a6), (8, .int a8)]) C.1 C.2.1 dL_laying_83 hl (by decide) rfl (fun ls hl => ?_)
  refine lv_aload C.1 C.2.1 dL_laying_85 (lv_at hl 5 rfl) ?_
  refine lv_iload C.1 C.2.1 dL_laying_87 (lv_at hl 7 rfl) ?_
  refine lv_iload C.1 C.2.1 dL_laying_89 (lv_at hl 0 rfl) ?_
  obtain ⟨g1, hf⟩ := gd_s hf
  refine z_iast C hW ha5 g1 dL_laying_91 (fun H locs hW => ?_)
  obtain ⟨m2, em2⟩ : ∃ z, z = wr mm a5 a8.toNatClampNeg s0 := ⟨_, rfl⟩
  have hf := nm_s hf em2
  rw [← em2] at hW
  refine lv_iload C.1 C.2.1 dL_laying_92 (lv_at hl 6 rfl) ?_
  refine lv_iload C.1 C.2.1 dL_laying_94 (lv_at hl 0 rfl) ?_
  refine lv_isub C.1 C.2.1 dL_laying_96 ?_
  refine lv_istore (lv' := [(6, .int (a6 - s0)), (9, .int s0), (0, .ref (ad a0)), (1, .int a1), (2, .int a2), (4, .int a4), (5, .ref (ad a5)), (8, .int a8)]) C.1 C.2.1 dL_laying_97 hl (by decide) rfl (fun ls hl => ?_)
  refine lv_aload_n C.1 C.2.1 dL_laying_99 rfl (lv_at hl 2 rfl) ?_
  refine lv_iload_n C.1 C.2.1 dL_laying_100 rfl (lv_at hl 3 rfl) ?_
  refine lv_iload C.1 C.2.1 dL_laying_101 (lv_at hl 7 rfl) ?_
  refine lv_iload C.1 C.2.1 dL_laying_103 (lv_at hl 1 rfl) ?_
  obtain ⟨x3, m4, r5, hf⟩ := bd2_s hf
  refine z_ci hW (z_runV C hW [.int a1, .int a8, .int s0] [] (ha0).1 (ha0).2.1 kX11.1 kvX11_lay q_917 (tX11_lay l C.2.2.2.2.2.2.1 ha0 r5) rfl rfl ⟨by decide, by decide⟩ rfl hl.1 rfl (Nat.le_of_ble_eq_true rfl) dL_laying_105 ⟨Nat.le_of_ble_eq_true rfl, Nat.le_of_ble_eq_true rfl⟩) (fun H locs hW => ?_)
  refine lv_iconst (v := 1) C.1 C.2.1 dL_laying_108 (by decide) ?_
  refine lv_icmp_ne (tgt := 116) C.1 C.2.1 dL_laying_109 (by decide) (fun c6 => ?_) (fun c6 => ?_)
  · have hf := if_f c6 hf
    refine lv_iconst (v := 0) C.1 C.2.1 dL_laying_116 (by decide) ?_
    exact wL_laying_117 C hk23 ha0 ha5 hW (lv_sub hl [2, 3, 4, 5, 6, 0, 7] rfl) hf
  · have hf := if_t c6 hf
    refine lv_iconst (v := 1) C.1 C.2.1 dL_laying_112 (by decide) ?_
    refine lv_goto (tgt := 117) C.1 C.2.1 dL_laying_113 (by decide) ?_
    exact wL_laying_117 C hk23 ha0 ha5 hW (lv_sub hl [2, 3, 4, 5, 6, 0, 7] rfl) hf
set_option maxRecDepth 100000 in
set_option maxHeartbeats 4000000 in
theorem wL_laying_81 (C : Cx p s m meth c args cL_laying 10 (some .boolean) RL D ca ad) {res : Int32 × Mm} {N : Nat} {k23 : Nat → Int32 → Int32 → Int32 → Nat → Int32 → Int32 → Int32 → Mm → Option (Int32 × Mm)} (hk23 : ∀ (a0 : Nat) (a1 : Int32) (a2 : Int32) (a4 : Int32) (a5 : Nat) (a6 : Int32) (a7 : Int32) (a8 : Int32) (mm : Mm) (H : Heap) (locs : List Loc) (ls : Array Slot), (sX11 a0) → (sJ ad a5) → Wd D ca ad s.heap mm H locs → lv_has ls 10 [(0, .ref (ad a0)), (1, .int a1), (2, .int a2), (4, .int a4), (5, .ref (ad a5)), (6, .int a6), (7, .int a7), (8, .int a8)] → k23 a0 a1 a2 a4 a5 a6 a7 a8 mm = some res → W p l e (rmL_laying) s m args below meth c H locs 0 0 (MQ below (QI D ca ad res) args s 0 0 (AA ad)) (F0 m 23 ls [])) {a0 : Nat} {a1 : Int32} {a2 : Int32} {a4 : Int32} {a5 : Nat} {a6 : Int32} {a8 : Int32} {a9 : Int32} {mm : Mm} {H : Heap} {locs : List Loc} {ls : Array Slot} (ha0 : sX11 a0) (ha5 : sJ ad a5) (hW : Wd D ca ad s.heap mm H locs) (hl : lv_has ls 10 [(0, .ref (ad a0)), (1, .int a1), (2, .int a2), (4, .int a4), (5, .ref (ad a5)), (6, .int a6), (8, .int a8), (9, .int a9)]) (hf : fL_laying_81 N k23 a0 a1 a2 a4 a5 a6 a8 a9 mm = some res) : W p l e (rmL_laying) s m args below meth c H locs 0 0 (MQ below (QI D ca ad res) args s 0 0 (AA ad)) (F0 m 81 ls []) := by
  unfold fL_laying_81 at hf
  refine lv_iload C.1 C.2.1 dL_laying_81 (lv_at hl 7 rfl) ?_
  exact wL_laying_83 C hk23 ha0 ha5 hW (lv_sub hl [0, 1, 2, 3, 4, 5, 6] rfl) hf
set_option maxRecDepth 100000 in
set_option maxHeartbeats 4000000 in
theorem wL_laying_23 (C : Cx p s m meth c args cL_laying 10 (some .boolean) RL D ca ad) {res : Int32 × Mm} {N : Nat}  : ∀ (n : Nat) {a0 : Nat} {a1 : Int32} {a2 : Int32} {a4 : Int32} {a5 : Nat} {a6 : Int32} {a7 : Int32} {a8 : Int32} {mm : Mm} {H : Heap} {locs : List Loc} {ls : Array Slot}, (sX11 a0) → (sJ ad a5) → Wd D ca ad s.heap mm H locs → lv_has ls 10 [(0, .ref (ad a0)), (1, .int a1), (2, .int a2), (4, .int a4), (5, .ref (ad a5)), (6, .int a6), (7, .int a7), (8, .int a8)] → fL_laying_23 N n a0 a1 a2 a4 a5 a6 a7 a8 mm = some res → W p l e (rmL_laying) s m args below meth c H locs 0 0 (MQ below (QI D ca ad res) args s 0 0 (AA ad)) (F0 m 23 ls []) := by
  intro n
  induction n with
  | zero => intro a0 a1 a2 a4 a5 a6 a7 a8 mm H locs ls ha0 ha5 hW hl hf; cases hf
  | succ n ih =>
    intro a0 a1 a2 a4 a5 a6 a7 a8 mm H locs ls ha0 ha5 hW hl hf
    have hk23 : ∀ (a0 : Nat) (a1 : Int32) (a2 : Int32) (a4 : Int32) (a5 : Nat) (a6 : Int32) (a7 : Int32) (a8 : Int32) (mm : Mm) (H : Heap) (locs : List Loc) (ls : Array Slot), (sX11 a0) → (sJ ad a5) → Wd D ca ad s.heap mm H locs → lv_has ls 10 [(0, .ref (ad a0)), (1, .int a1), (2, .int a2), (4, .int a4), (5, .ref (ad a5)), (6, .int a6), (7, .int a7), (8, .int a8)] → (fL_laying_23 N n) a0 a1 a2 a4 a5 a6 a7 a8 mm = some res → W p l e (rmL_laying) s m args below meth c H locs 0 0 (MQ below (QI D ca ad res) args s 0 0 (AA ad)) (F0 m 23 ls []) := fun a0 a1 a2 a4 a5 a6 a7 a8 mm H locs ls ha0 ha5 hW hl hf => ih ha0 ha5 hW hl hf
    unfold fL_laying_23 at hf
    try dsimp only at hf
    refine lv_iload C.1 C.2.1 dL_laying_23 (lv_at hl 7 rfl) ?_
    refine lv_iload_n C.1 C.2.1 dL_laying_25 rfl (lv_at hl 2 rfl) ?_
    refine lv_icmp_ge (tgt := 125) C.1 C.2.1 dL_laying_26 (by decide) (fun c7 => ?_) (fun c7 => ?_)
    · have hf := if_t c7 hf
      refine lv_iload C.1 C.2.1 dL_laying_125 (lv_at hl 6 rfl) ?_
      obtain ⟨g8, hf⟩ := gd_s hf
      cases hf
      exact z_zret C hW (of_decide_eq_true g8) dL_laying_127
    · have hf := if_f c7 hf
      refine lv_iload C.1 C.2.1 dL_laying_29 (lv_at hl 6 rfl) ?_
      refine lv_if_eq (tgt := 125) C.1 C.2.1 dL_laying_31 (by decide) (fun c9 => ?_) (fun c9 => ?_)
      · have hf := if_t c9 hf
        refine lv_iload C.1 C.2.1 dL_laying_125 (lv_at hl 6 rfl) ?_
        obtain ⟨g10, hf⟩ := gd_s hf
        cases hf
        exact z_zret C hW (of_decide_eq_true g10) dL_laying_127
      · have hf := if_f c9 hf
        refine lv_iload C.1 C.2.1 dL_laying_34 (lv_at hl 3 rfl) ?_
        refine lv_iconst (v := 3) C.1 C.2.1 dL_laying_36 (by decide) ?_
        refine lv_iload C.1 C.2.1 dL_laying_37 (lv_at hl 7 rfl) ?_
        refine lv_imul C.1 C.2.1 dL_laying_39 ?_
        refine lv_ishr C.1 C.2.1 dL_laying_40 ?_
        refine lv_iload C.1 C.2.1 dL_laying_41 (lv_at hl 5 rfl) ?_
        refine lv_iconst (v := 1) C.1 C.2.1 dL_laying_43 (by decide) ?_
        refine lv_iadd C.1 C.2.1 dL_laying_44 ?_
        obtain ⟨x11, m12, r13, hf⟩ := bd2_s hf
        refine z_ci hW (z_runS C hW [.int (a4 >>> ((3 * a8) &&& 31)), .int (a6 + 1)] [] kvL_low q_831 (tL_low l C.2.2.2.2.2.2.1  r13) rfl rfl ⟨by decide, by decide⟩ rfl hl.1 rfl (Nat.le_of_ble_eq_true rfl) dL_laying_45 ⟨Nat.le_of_ble_eq_true rfl, Nat.le_of_ble_eq_true rfl⟩) (fun H locs hW => ?_)
        refine lv_istore (lv' := [(9, .int x11), (0, .ref (ad a0)), (1, .int a1), (2, .int a2), (4, .int a4), (5, .ref (ad a5)), (6, .int a6), (7, .int a7), (8, .int a8)]) C.1 C.2.1 dL_laying_48 hl (by decide) rfl (fun ls hl => ?_)
        refine lv_iload C.1 C.2.1 dL_laying_50 (lv_at hl 8 rfl) ?_
        refine lv_iload C.1 C.2.1 dL_laying_52 (lv_at hl 4 rfl) ?_
        refine lv_bipush (v := 20) C.1 C.2.1 dL_laying_54 (by decide) ?_
        refine lv_ishr C.1 C.2.1 dL_laying_56 ?_
        refine lv_iload_n C.1 C.2.1 dL_laying_57 rfl (lv_at hl 3 rfl) ?_
        obtain ⟨x14, m15, r16, hf⟩ := bd2_s hf
        refine z_ci hW (z_runS C hW [.int (a4 >>> ((20 : Int32) &&& 31)), .int a2] [.int a8] kvL_low q_831 (tL_low l C.2.2.2.2.2.2.1  r16) rfl rfl ⟨by decide, by decide⟩ rfl hl.1 rfl (Nat.le_of_ble_eq_true rfl) dL_laying_58 ⟨Nat.le_of_ble_eq_true rfl, Nat.le_of_ble_eq_true rfl⟩) (fun H locs hW => ?_)
        refine lv_icmp_ne (tgt := 81) C.1 C.2.1 dL_laying_61 (by decide) (fun c17 => ?_) (fun c17 => ?_)
        · have hf := if_f c17 hf
          exact wL_laying_81 C hk23 ha0 ha5 hW (lv_sub hl [1, 2, 3, 4, 5, 6, 8, 0] rfl) hf
        · have hf := if_t c17 hf
          refine lv_iload C.1 C.2.1 dL_laying_64 (lv_at hl 4 rfl) ?_
          refine lv_bipush (v := 24) C.1 C.2.1 dL_laying_66 (by decide) ?_
          refine lv_ishr C.1 C.2.1 dL_laying_68 ?_
          refine lv_iconst (v := 2) C.1 C.2.1 dL_laying_69 (by decide) ?_
          obtain ⟨x18, m19, r20, hf⟩ := bd2_s hf
          refine z_ci hW (z_runS C hW [.int (a4 >>> ((24 : Int32) &&& 31)), .int 2] [] kvL_low q_831 (tL_low l C.2.2.2.2.2.2.1  r20) rfl rfl ⟨by decide, by decide⟩ rfl hl.1 rfl (Nat.le_of_ble_eq_true rfl) dL_laying_70 ⟨Nat.le_of_ble_eq_true rfl, Nat.le_of_ble_eq_true rfl⟩) (fun H locs hW => ?_)
          refine lv_if_ne (tgt := 81) C.1 C.2.1 dL_laying_73 (by decide) (fun c21 => ?_) (fun c21 => ?_)
          · have hf := if_f c21 hf
            exact wL_laying_81 C hk23 ha0 ha5 hW (lv_sub hl [1, 2, 3, 4, 5, 6, 8, 0] rfl) hf
          · have hf := if_t c21 hf
            refine lv_iload C.1 C.2.1 dL_laying_76 (lv_at hl 6 rfl) ?_
            refine lv_goto (tgt := 83) C.1 C.2.1 dL_laying_78 (by decide) ?_
            exact wL_laying_83 C hk23 ha0 ha5 hW (lv_sub hl [1, 2, 3, 4, 5, 6, 8] rfl) hf
set_option maxRecDepth 100000 in
set_option maxHeartbeats 4000000 in
theorem wL_laying_18 (C : Cx p s m meth c args cL_laying 10 (some .boolean) RL D ca ad) {res : Int32 × Mm} {N : Nat}  {a0 : Nat} {a1 : Int32} {a2 : Int32} {a4 : Int32} {a5 : Nat} {a6 : Int32} {s0 : Int32} {mm : Mm} {H : Heap} {locs : List Loc} {ls : Array Slot} (ha0 : sX11 a0) (ha5 : sJ ad a5) (hW : Wd D ca ad s.heap mm H locs) (hl : lv_has ls 10 [(0, .ref (ad a0)), (1, .int a1), (2, .int a2), (4, .int a4), (5, .ref (ad a5)), (6, .int a6)]) (hf : fL_laying_18 N a0 a1 a2 a4 a5 a6 s0 mm = some res) : W p l e (rmL_laying) s m args below meth c H locs 0 0 (MQ below (QI D ca ad res) args s 0 0 (AA ad)) (F0 m 18 ls [.int s0]) := by
  unfold fL_laying_18 at hf
  refine lv_istore (lv' := [(7, .int s0), (0, .ref (ad a0)), (1, .int a1), (2, .int a2), (4, .int a4), (5, .ref (ad a5)), (6, .int a6)]) C.1 C.2.1 dL_laying_18 hl (by decide) rfl (fun ls hl => ?_)
  refine lv_iconst (v := 0) C.1 C.2.1 dL_laying_20 (by decide) ?_
  refine lv_istore (lv' := [(8, .int 0), (7, .int s0), (0, .ref (ad a0)), (1, .int a1), (2, .int a2), (4, .int a4), (5, .ref (ad a5)), (6, .int a6)]) C.1 C.2.1 dL_laying_21 hl (by decide) rfl (fun ls hl => ?_)
  exact wL_laying_23 C  N ha0 ha5 hW (lv_sub hl [2, 3, 4, 5, 6, 7, 1, 0] rfl) hf
set_option maxRecDepth 100000 in
set_option maxHeartbeats 4000000 in
theorem wL_laying_0 (C : Cx p s m meth c args cL_laying 10 (some .boolean) RL D ca ad) {res : Int32 × Mm} {N : Nat}  {a0 : Nat} {a1 : Int32} {a2 : Int32} {a3 : Int32} {a4 : Int32} {a5 : Nat} {mm : Mm} {H : Heap} {locs : List Loc} {ls : Array Slot} (ha0 : sX11 a0) (ha5 : sJ ad a5) (hW : Wd D ca ad s.heap mm H locs) (hl : lv_has ls 10 [(0, .ref (ad a0)), (1, .int a1), (2, .int a2), (3, .int a3), (4, .int a4), (5, .ref (ad a5))]) (hf : fL_laying N a0 a1 a2 a3 a4 a5 mm = some res) : W p l e (rmL_laying) s m args below meth c H locs 0 0 (MQ below (QI D ca ad res) args s 0 0 (AA ad)) (F0 m 0 ls []) := by
  unfold fL_laying at hf
  refine lv_iload_n C.1 C.2.1 dL_laying_0 rfl (lv_at hl 3 rfl) ?_
  refine lv_istore (lv' := [(6, .int a3), (0, .ref (ad a0)), (1, .int a1), (2, .int a2), (3, .int a3), (4, .int a4), (5, .ref (ad a5))]) C.1 C.2.1 dL_laying_1 hl (by decide) rfl (fun ls hl => ?_)
  refine lv_aload_n C.1 C.2.1 dL_laying_3 rfl (lv_at hl 1 rfl) ?_
  refine lv_iload_n C.1 C.2.1 dL_laying_4 rfl (lv_at hl 2 rfl) ?_
  refine lv_iload_n C.1 C.2.1 dL_laying_5 rfl (lv_at hl 3 rfl) ?_
  obtain ⟨x22, m23, r24, hf⟩ := bd2_s hf
  refine z_ci hW (z_runV C hW [.int a1, .int a2] [] (ha0).1 (ha0).2.1 kX11.1 kvX11_row q_913 (tX11_row l C.2.2.2.2.2.2.1 ha0 r24) rfl rfl ⟨by decide, by decide⟩ rfl hl.1 rfl (Nat.le_of_ble_eq_true rfl) dL_laying_6 ⟨Nat.le_of_ble_eq_true rfl, Nat.le_of_ble_eq_true rfl⟩) (fun H locs hW => ?_)
  refine lv_iload_n C.1 C.2.1 dL_laying_9 rfl (lv_at hl 3 rfl) ?_
  refine lv_icmp_ne (tgt := 17) C.1 C.2.1 dL_laying_10 (by decide) (fun c25 => ?_) (fun c25 => ?_)
  · have hf := if_f c25 hf
    refine lv_iconst (v := 0) C.1 C.2.1 dL_laying_17 (by decide) ?_
    exact wL_laying_18 C  ha0 ha5 hW (lv_sub hl [1, 2, 3, 5, 6, 0] rfl) hf
  · have hf := if_t c25 hf
    refine lv_iconst (v := 1) C.1 C.2.1 dL_laying_13 (by decide) ?_
    refine lv_goto (tgt := 18) C.1 C.2.1 dL_laying_14 (by decide) ?_
    exact wL_laying_18 C  ha0 ha5 hW (lv_sub hl [1, 2, 3, 5, 6, 0] rfl) hf
set_option maxRecDepth 100000 in
set_option maxHeartbeats 4000000 in
theorem tL_laying (l : Launch) {D : va_G} {ca ad : Nat → Nat} (hi : Inj ad) {N : Nat} {a0 : Nat} {a1 : Int32} {a2 : Int32} {a3 : Int32} {a4 : Int32} {a5 : Nat} {mm : Mm} {res : Int32 × Mm} (ha0 : sX11 a0) (ha5 : sJ ad a5) (hf : fL_laying N a0 a1 a2 a3 a4 a5 mm = some res) : Met l yL_laying (WS yL_laying cL_laying 10 (some .boolean)) (rmL_laying) (va_Pc [.ref (ad a0), .int a1, .int a2, .int a3, .int a4, .ref (ad a5)] (WB D ca ad mm)) (QI D ca ad res) 0 0 (AA ad) := by
  refine x_start hi (by decide) rfl (Nat.le_of_ble_eq_true rfl) (fun p e s m args below meth c ls C hW hl => ?_)
  exact wL_laying_0 C ha0 ha5 hW (lv_sub hl [0, 1, 2, 3, 4, 5] rfl) hf
theorem tL_cell (l : Launch) {D : va_G} {ca ad : Nat → Nat} (hi : Inj ad) {N b L : Nat} {xs : Nat → Int32} {a1 : Int32} {mm : Mm} {res : Int32 × Mm} (hf : fL_cell N L xs a1 mm = some res) : Met l yL_cell (WS yL_cell cL_cell 2 (some .int)) rmL_cell (va_Pc [.ref b, .int a1] (WBS D ca ad mm b L xs)) (QI D ca ad res) 0 0 (AA ad) := by
  refine z_startX hi (by decide) rfl (Nat.le_of_ble_eq_true rfl) (fun p e s m args below meth c ls CS hW hl => ?_)
  exact wL_cell_0 CS hW (lv_sub hl [1, 0] rfl) hf
end W_lm
