theorem dX6_isWithin_0 : decode cX6_isWithin 0 = .ok (.iconst 0, 1) := by decide +kernel
theorem dX6_isWithin_1 : decode cX6_isWithin 1 = .ok (.istore_n 2, 1) := by decide +kernel
theorem dX6_isWithin_2 : decode cX6_isWithin 2 = .ok (.iload_n 2, 1) := by decide +kernel
theorem dX6_isWithin_3 : decode cX6_isWithin 3 = .ok (.aload_n 0, 1) := by decide +kernel
theorem dX6_isWithin_4 : decode cX6_isWithin 4 = .ok (.getfield 9, 3) := by decide +kernel
theorem dX6_isWithin_7 : decode cX6_isWithin 7 = .ok (.if_icmp .ge 30, 3) := by decide +kernel
theorem dX6_isWithin_10 : decode cX6_isWithin 10 = .ok (.aload_n 0, 1) := by decide +kernel
theorem dX6_isWithin_11 : decode cX6_isWithin 11 = .ok (.getfield 15, 3) := by decide +kernel
theorem dX6_isWithin_14 : decode cX6_isWithin 14 = .ok (.iload_n 2, 1) := by decide +kernel
theorem dX6_isWithin_15 : decode cX6_isWithin 15 = .ok (.iaload, 1) := by decide +kernel
theorem dX6_isWithin_16 : decode cX6_isWithin 16 = .ok (.ifCond .lt 13, 3) := by decide +kernel
theorem dX6_isWithin_19 : decode cX6_isWithin 19 = .ok (.aload_n 0, 1) := by decide +kernel
theorem dX6_isWithin_20 : decode cX6_isWithin 20 = .ok (.getfield 15, 3) := by decide +kernel
theorem dX6_isWithin_23 : decode cX6_isWithin 23 = .ok (.iload_n 2, 1) := by decide +kernel
theorem dX6_isWithin_24 : decode cX6_isWithin 24 = .ok (.iaload, 1) := by decide +kernel
theorem dX6_isWithin_25 : decode cX6_isWithin 25 = .ok (.iload_n 1, 1) := by decide +kernel
theorem dX6_isWithin_26 : decode cX6_isWithin 26 = .ok (.if_icmp .le 5, 3) := by decide +kernel
theorem dX6_isWithin_29 : decode cX6_isWithin 29 = .ok (.iconst 0, 1) := by decide +kernel
theorem dX6_isWithin_30 : decode cX6_isWithin 30 = .ok (.ireturn, 1) := by decide +kernel
theorem dX6_isWithin_31 : decode cX6_isWithin 31 = .ok (.iinc 2 1, 3) := by decide +kernel
theorem dX6_isWithin_34 : decode cX6_isWithin 34 = .ok (.goto (-32), 3) := by decide +kernel
theorem dX6_isWithin_37 : decode cX6_isWithin 37 = .ok (.iconst 1, 1) := by decide +kernel
theorem dX6_isWithin_38 : decode cX6_isWithin 38 = .ok (.ireturn, 1) := by decide +kernel
theorem dX6_total_0 : decode cX6_total 0 = .ok (.lconst 0, 1) := by decide +kernel
theorem dX6_total_1 : decode cX6_total 1 = .ok (.lstore_n 1, 1) := by decide +kernel
theorem dX6_total_2 : decode cX6_total 2 = .ok (.iconst 0, 1) := by decide +kernel
theorem dX6_total_3 : decode cX6_total 3 = .ok (.istore_n 3, 1) := by decide +kernel
theorem dX6_total_4 : decode cX6_total 4 = .ok (.iload_n 3, 1) := by decide +kernel
theorem dX6_total_5 : decode cX6_total 5 = .ok (.aload_n 0, 1) := by decide +kernel
theorem dX6_total_6 : decode cX6_total 6 = .ok (.getfield 9, 3) := by decide +kernel
theorem dX6_total_9 : decode cX6_total 9 = .ok (.if_icmp .ge 19, 3) := by decide +kernel
theorem dX6_total_12 : decode cX6_total 12 = .ok (.lload_n 1, 1) := by decide +kernel
theorem dX6_total_13 : decode cX6_total 13 = .ok (.aload_n 0, 1) := by decide +kernel
theorem dX6_total_14 : decode cX6_total 14 = .ok (.getfield 15, 3) := by decide +kernel
theorem dX6_total_17 : decode cX6_total 17 = .ok (.iload_n 3, 1) := by decide +kernel
theorem dX6_total_18 : decode cX6_total 18 = .ok (.iaload, 1) := by decide +kernel
theorem dX6_total_19 : decode cX6_total 19 = .ok (.i2l, 1) := by decide +kernel
theorem dX6_total_20 : decode cX6_total 20 = .ok (.ladd, 1) := by decide +kernel
theorem dX6_total_21 : decode cX6_total 21 = .ok (.lstore_n 1, 1) := by decide +kernel
theorem dX6_total_22 : decode cX6_total 22 = .ok (.iinc 3 1, 3) := by decide +kernel
theorem dX6_total_25 : decode cX6_total 25 = .ok (.goto (-21), 3) := by decide +kernel
theorem dX6_total_28 : decode cX6_total 28 = .ok (.lload_n 1, 1) := by decide +kernel
theorem dX6_total_29 : decode cX6_total 29 = .ok (.lreturn, 1) := by decide +kernel
theorem dX6_has_0 : decode cX6_has 0 = .ok (.iload_n 1, 1) := by decide +kernel
theorem dX6_has_1 : decode cX6_has 1 = .ok (.ifCond .lt 15, 3) := by decide +kernel
theorem dX6_has_4 : decode cX6_has 4 = .ok (.iload_n 1, 1) := by decide +kernel
theorem dX6_has_5 : decode cX6_has 5 = .ok (.aload_n 0, 1) := by decide +kernel
theorem dX6_has_6 : decode cX6_has 6 = .ok (.getfield 9, 3) := by decide +kernel
theorem dX6_has_9 : decode cX6_has 9 = .ok (.if_icmp .ge 7, 3) := by decide +kernel
theorem dX6_has_12 : decode cX6_has 12 = .ok (.iconst 1, 1) := by decide +kernel
theorem dX6_has_13 : decode cX6_has 13 = .ok (.goto 4, 3) := by decide +kernel
theorem dX6_has_16 : decode cX6_has 16 = .ok (.iconst 0, 1) := by decide +kernel
theorem dX6_has_17 : decode cX6_has 17 = .ok (.ireturn, 1) := by decide +kernel
theorem dX6_isMissing_0 : decode cX6_isMissing 0 = .ok (.aload_n 0, 1) := by decide +kernel
theorem dX6_isMissing_1 : decode cX6_isMissing 1 = .ok (.getfield 9, 3) := by decide +kernel
theorem dX6_isMissing_4 : decode cX6_isMissing 4 = .ok (.ifCond .ge 7, 3) := by decide +kernel
theorem dX6_isMissing_7 : decode cX6_isMissing 7 = .ok (.iconst 1, 1) := by decide +kernel
theorem dX6_isMissing_8 : decode cX6_isMissing 8 = .ok (.goto 4, 3) := by decide +kernel
theorem dX6_isMissing_11 : decode cX6_isMissing 11 = .ok (.iconst 0, 1) := by decide +kernel
theorem dX6_isMissing_12 : decode cX6_isMissing 12 = .ok (.ireturn, 1) := by decide +kernel
theorem dX6_renew_0 : decode cX6_renew 0 = .ok (.aload_n 0, 1) := by decide +kernel
theorem dX6_renew_1 : decode cX6_renew 1 = .ok (.iload_n 1, 1) := by decide +kernel
theorem dX6_renew_2 : decode cX6_renew 2 = .ok (.putfield 9, 3) := by decide +kernel
theorem dX6_renew_5 : decode cX6_renew 5 = .ok (.aload_n 0, 1) := by decide +kernel
theorem dX6_renew_6 : decode cX6_renew 6 = .ok (.getfield 15, 3) := by decide +kernel
theorem dX6_renew_9 : decode cX6_renew 9 = .ok (.iload_n 2, 1) := by decide +kernel
theorem dX6_renew_10 : decode cX6_renew 10 = .ok (.invokestatic 19, 3) := by decide +kernel
theorem dX6_renew_13 : decode cX6_renew 13 = .ok (.return_, 1) := by decide +kernel
theorem dX6_take_0 : decode cX6_take 0 = .ok (.aload_n 0, 1) := by decide +kernel
theorem dX6_take_1 : decode cX6_take 1 = .ok (.iconst 0, 1) := by decide +kernel
theorem dX6_take_2 : decode cX6_take 2 = .ok (.iload_n 2, 1) := by decide +kernel
theorem dX6_take_3 : decode cX6_take 3 = .ok (.aload_n 1, 1) := by decide +kernel
theorem dX6_take_4 : decode cX6_take 4 = .ok (.arraylength, 1) := by decide +kernel
theorem dX6_take_5 : decode cX6_take 5 = .ok (.aload_n 0, 1) := by decide +kernel
theorem dX6_take_6 : decode cX6_take 6 = .ok (.getfield 15, 3) := by decide +kernel
theorem dX6_take_9 : decode cX6_take 9 = .ok (.arraylength, 1) := by decide +kernel
theorem dX6_take_10 : decode cX6_take 10 = .ok (.invokestatic 25, 3) := by decide +kernel
theorem dX6_take_13 : decode cX6_take 13 = .ok (.invokestatic 25, 3) := by decide +kernel
theorem dX6_take_16 : decode cX6_take 16 = .ok (.invokestatic 31, 3) := by decide +kernel
theorem dX6_take_19 : decode cX6_take 19 = .ok (.putfield 9, 3) := by decide +kernel
theorem dX6_take_22 : decode cX6_take 22 = .ok (.aload_n 1, 1) := by decide +kernel
theorem dX6_take_23 : decode cX6_take 23 = .ok (.iconst 0, 1) := by decide +kernel
theorem dX6_take_24 : decode cX6_take 24 = .ok (.aload_n 0, 1) := by decide +kernel
theorem dX6_take_25 : decode cX6_take 25 = .ok (.getfield 15, 3) := by decide +kernel
theorem dX6_take_28 : decode cX6_take 28 = .ok (.iconst 0, 1) := by decide +kernel
theorem dX6_take_29 : decode cX6_take 29 = .ok (.aload_n 0, 1) := by decide +kernel
theorem dX6_take_30 : decode cX6_take 30 = .ok (.getfield 9, 3) := by decide +kernel
theorem dX6_take_33 : decode cX6_take 33 = .ok (.invokestatic 34, 3) := by decide +kernel
theorem dX6_take_36 : decode cX6_take 36 = .ok (.return_, 1) := by decide +kernel
theorem q_300 : Cond.fieldLink RX6 9 "HeavyFiles$Row" "size" "I" ∈ wT := wi_t 300 (by decide +kernel) (by decide +kernel)
theorem q_297 : Cond.fieldLink RX6 15 "HeavyFiles$Row" "places" "[I" ∈ wT := wi_t 297 (by decide +kernel) (by decide +kernel)
theorem q_860 : Cond.methodLink RX6 19 yJ7_fill_53178 ∈ wT := wi_t 860 (by decide +kernel) (by decide +kernel)
theorem q_481 : Cond.code yJ7_fill_53178 cJ7_fill_53178 4 none ∈ wT := wi_t 481 (by decide +kernel) (by decide +kernel)
theorem q_480 : Cond.static yJ7_fill_53178 ∈ wT := wi_t 480 (by decide +kernel) (by decide +kernel)
theorem q_13 : Cond.initialized RJ7 ∈ wT := wi_t 13 (by decide +kernel) (by decide +kernel)
theorem q_517 : Cond.methodLink RX6 25 Lib.Math.min.name ∈ wT := wi_t 517 (by decide +kernel) (by decide +kernel)
theorem q_421 : Cond.static Lib.Math.min.name ∈ wT := wi_t 421 (by decide +kernel) (by decide +kernel)
theorem q_422 : Cond.code Lib.Math.min.name Lib.Math.min.code 2 (some .int) ∈ wT := wi_t 422 (by decide +kernel) (by decide +kernel)
theorem q_518 : Cond.methodLink RX6 31 Lib.Math.max.name ∈ wT := wi_t 518 (by decide +kernel) (by decide +kernel)
theorem q_519 : Cond.methodLink RX6 34 arraycopyName ∈ wT := wi_t 519 (by decide +kernel) (by decide +kernel)
theorem q_496 : Cond.native arraycopyName ∈ wT := wi_t 496 (by decide +kernel) (by decide +kernel)
theorem q_495 : Cond.static arraycopyName ∈ wT := wi_t 495 (by decide +kernel) (by decide +kernel)
theorem q_14 : Cond.initialized "java/lang/System" ∈ wT := wi_t 14 (by decide +kernel) (by decide +kernel)
theorem kvJ7_fill_53178 : KS yJ7_fill_53178 cJ7_fill_53178 4 none 2 := ⟨q_480, q_13, q_481, by decide +kernel, by decide +kernel, by decide +kernel⟩
/-! HeavyFiles$Row.isWithin(I)Z -/
def fX6_isWithin_2 (N : Nat)  : Nat → Nat → Int32 → Int32 → Mm → Option (Int32 × Mm)
  | 0 => fun _ _ _ _ => none
  | n + 1 => fun a0 a1 a2 mm =>
    let k2 := fX6_isWithin_2 N  n
    if (rd mm a0 1) ≤ a2 then (some (1, mm)) else (gd (inb a2 (ln (fr a0 0))) <| if (rd mm (fr a0 0) a2.toNatClampNeg) < 0 then (some (0, mm)) else (gd (inb a2 (ln (fr a0 0))) <| if (rd mm (fr a0 0) a2.toNatClampNeg) ≤ a1 then (k2 a0 a1 (a2 + 1) mm) else (some (0, mm))))
def fX6_isWithin (N : Nat)  (a0 : Nat) (a1 : Int32) (mm : Mm) : Option (Int32 × Mm) :=
  fX6_isWithin_2 N N a0 a1 0 mm
abbrev rmX6_isWithin : Room := { frames := 1, cells := 0, slots := 0, locals := 40 }
/-! HeavyFiles$Row.total()J -/
def fX6_total_4 (N : Nat)  : Nat → Nat → Int64 → Int32 → Mm → Option (Int64 × Mm)
  | 0 => fun _ _ _ _ => none
  | n + 1 => fun a0 a1 a3 mm =>
    let k4 := fX6_total_4 N  n
    if (rd mm a0 1) ≤ a3 then (some (a1, mm)) else (gd (inb a3 (ln (fr a0 0))) <| nm (a1 + ((rd mm (fr a0 0) a3.toNatClampNeg).toInt64)) fun x3 => k4 a0 x3 (a3 + 1) mm)
def fX6_total (N : Nat)  (a0 : Nat) (mm : Mm) : Option (Int64 × Mm) :=
  fX6_total_4 N N a0 0 0 mm
abbrev rmX6_total : Room := { frames := 1, cells := 0, slots := 0, locals := 40 }
/-! HeavyFiles$Row.has(I)Z -/
def fX6_has (N : Nat)  (a0 : Nat) (a1 : Int32) (mm : Mm) : Option (Int32 × Mm) :=
  if a1 < 0 then (some (0, mm)) else (if (rd mm a0 1) ≤ a1 then (some (0, mm)) else (some (1, mm)))
abbrev rmX6_has : Room := { frames := 1, cells := 0, slots := 0, locals := 40 }
/-! HeavyFiles$Row.isMissing()Z -/
def fX6_isMissing (N : Nat)  (a0 : Nat) (mm : Mm) : Option (Int32 × Mm) :=
  if (0 : Int32) ≤ (rd mm a0 1) then (some (0, mm)) else (some (1, mm))
abbrev rmX6_isMissing : Room := { frames := 1, cells := 0, slots := 0, locals := 40 }
/-! HeavyFiles$Row.renew(II)V -/
def fX6_renew (N : Nat)  (a0 : Nat) (a1 : Int32) (a2 : Int32) (mm : Mm) : Option (Unit × Mm) :=
  nm (wr mm a0 1 a1) fun m1 => bd2 (fJ7_fill_53178 N (fr a0 0) a2 m1) fun x2 m3 => some ((), m3)
abbrev rmX6_renew : Room := { frames := 2, cells := 0, slots := 0, locals := 71 }
/-! HeavyFiles$Row.take([II)V -/
def fX6_take (N : Nat)  (a0 : Nat) (a1 : Nat) (a2 : Int32) (mm : Mm) : Option (Unit × Mm) :=
  nm (if (Int32.ofNat (ln (fr a0 0))) < (Int32.ofNat (ln a1)) then (Int32.ofNat (ln (fr a0 0))) else (Int32.ofNat (ln a1))) fun x1 => nm (if x1 < a2 then x1 else a2) fun x2 => nm (if 0 < x2 then x2 else 0) fun x3 => nm (wr mm a0 1 x3) fun m4 => gd (cpok (ln a1) (ln (fr a0 0)) 0 0 (rd m4 a0 1)) <| nm (cpy m4 a1 (fr a0 0) 0 0 (rd m4 a0 1)) fun m6 => some ((), m6)
abbrev rmX6_take : Room := { frames := 2, cells := 0, slots := 0, locals := 69 }
section W_row07
variable {p : Program} {l : Launch} {e : Env} {s : State} {m : MethodId} {args : Array Value} {below : List Frame} {meth : Method} {c : Code} {D : va_G} {ca ad : Nat → Nat}
set_option maxRecDepth 100000 in
set_option maxHeartbeats 4000000 in
theorem wX6_isWithin_2 (C : Cx p s m meth c args cX6_isWithin 3 (some .boolean) RX6 D ca ad) {res : Int32 × Mm} {N : Nat}  : ∀ (n : Nat) {a0 : Nat} {a1 : Int32} {a2 : Int32} {mm : Mm} {H : Heap} {locs : List Loc} {ls : Array Slot}, (sX6 a0) → Wd D ca ad s.heap mm H locs → lv_has ls 3 [(0, .ref (ad a0)), (1, .int a1), (2, .int a2)] → fX6_isWithin_2 N n a0 a1 a2 mm = some res → W p l e (rmX6_isWithin) s m args below meth c H locs 0 0 (MQ below (QI D ca ad res) args s 0 0 (AA ad)) (F0 m 2 ls []) := by
  intro n
  induction n with
  | zero => intro a0 a1 a2 mm H locs ls ha0 hW hl hf; cases hf
  | succ n ih =>
    intro a0 a1 a2 mm H locs ls ha0 hW hl hf
    have hk2 : ∀ (a0 : Nat) (a1 : Int32) (a2 : Int32) (mm : Mm) (H : Heap) (locs : List Loc) (ls : Array Slot), (sX6 a0) → Wd D ca ad s.heap mm H locs → lv_has ls 3 [(0, .ref (ad a0)), (1, .int a1), (2, .int a2)] → (fX6_isWithin_2 N n) a0 a1 a2 mm = some res → W p l e (rmX6_isWithin) s m args below meth c H locs 0 0 (MQ below (QI D ca ad res) args s 0 0 (AA ad)) (F0 m 2 ls []) := fun a0 a1 a2 mm H locs ls ha0 hW hl hf => ih ha0 hW hl hf
    unfold fX6_isWithin_2 at hf
    try dsimp only at hf
    refine lv_iload_n C.1 C.2.1 dX6_isWithin_2 rfl (lv_at hl 2 rfl) ?_
    refine lv_aload_n C.1 C.2.1 dX6_isWithin_3 rfl (lv_at hl 0 rfl) ?_
    refine x_geti C hW (ha0).1 (ha0).2.1 (j := 1) rfl kX6 (by decide) rfl q_300 dX6_isWithin_4 ?_
    refine lv_icmp_ge (tgt := 37) C.1 C.2.1 dX6_isWithin_7 (by decide) (fun c1 => ?_) (fun c1 => ?_)
    · have hf := if_t c1 hf
      refine lv_iconst (v := 1) C.1 C.2.1 dX6_isWithin_37 (by decide) ?_
      cases hf
      exact x_zret C hW (by decide) dX6_isWithin_38
    · have hf := if_f c1 hf
      refine lv_aload_n C.1 C.2.1 dX6_isWithin_10 rfl (lv_at hl 0 rfl) ?_
      refine x_getr C hW (ha0).1 (ha0).2.1 (j := 0) rfl kX6 (by decide) rfl q_297 dX6_isWithin_11 ?_
      refine lv_iload_n C.1 C.2.1 dX6_isWithin_14 rfl (lv_at hl 2 rfl) ?_
      obtain ⟨g2, hf⟩ := gd_s hf
      refine x_iald C hW ha0.2.2 g2 dX6_isWithin_15 ?_
      refine lv_if_lt (tgt := 29) C.1 C.2.1 dX6_isWithin_16 (by decide) (fun c3 => ?_) (fun c3 => ?_)
      · have hf := if_t c3 hf
        refine lv_iconst (v := 0) C.1 C.2.1 dX6_isWithin_29 (by decide) ?_
        cases hf
        exact x_zret C hW (by decide) dX6_isWithin_30
      · have hf := if_f c3 hf
        refine lv_aload_n C.1 C.2.1 dX6_isWithin_19 rfl (lv_at hl 0 rfl) ?_
        refine x_getr C hW (ha0).1 (ha0).2.1 (j := 0) rfl kX6 (by decide) rfl q_297 dX6_isWithin_20 ?_
        refine lv_iload_n C.1 C.2.1 dX6_isWithin_23 rfl (lv_at hl 2 rfl) ?_
        obtain ⟨g4, hf⟩ := gd_s hf
        refine x_iald C hW ha0.2.2 g4 dX6_isWithin_24 ?_
        refine lv_iload_n C.1 C.2.1 dX6_isWithin_25 rfl (lv_at hl 1 rfl) ?_
        refine lv_icmp_le (tgt := 31) C.1 C.2.1 dX6_isWithin_26 (by decide) (fun c5 => ?_) (fun c5 => ?_)
        · have hf := if_t c5 hf
          refine lv_iinc (v := (a2 + 1)) (lv' := [(2, .int (a2 + 1)), (0, .ref (ad a0)), (1, .int a1)]) C.1 C.2.1 dX6_isWithin_31 hl (k := 2) rfl rfl (by decide) rfl (fun ls hl => ?_)
          refine lv_goto (tgt := 2) C.1 C.2.1 dX6_isWithin_34 (by decide) ?_
          exact hk2 _ _ _ _ _ _ _ ha0 hW (lv_sub hl [1, 2, 0] rfl) hf
        · have hf := if_f c5 hf
          refine lv_iconst (v := 0) C.1 C.2.1 dX6_isWithin_29 (by decide) ?_
          cases hf
          exact x_zret C hW (by decide) dX6_isWithin_30
set_option maxRecDepth 100000 in
set_option maxHeartbeats 4000000 in
theorem wX6_isWithin_0 (C : Cx p s m meth c args cX6_isWithin 3 (some .boolean) RX6 D ca ad) {res : Int32 × Mm} {N : Nat}  {a0 : Nat} {a1 : Int32} {mm : Mm} {H : Heap} {locs : List Loc} {ls : Array Slot} (ha0 : sX6 a0) (hW : Wd D ca ad s.heap mm H locs) (hl : lv_has ls 3 [(0, .ref (ad a0)), (1, .int a1)]) (hf : fX6_isWithin N a0 a1 mm = some res) : W p l e (rmX6_isWithin) s m args below meth c H locs 0 0 (MQ below (QI D ca ad res) args s 0 0 (AA ad)) (F0 m 0 ls []) := by
  unfold fX6_isWithin at hf
  refine lv_iconst (v := 0) C.1 C.2.1 dX6_isWithin_0 (by decide) ?_
  refine lv_istore_n (lv' := [(2, .int 0), (0, .ref (ad a0)), (1, .int a1)]) C.1 C.2.1 dX6_isWithin_1 rfl hl (by decide) rfl (fun ls hl => ?_)
  exact wX6_isWithin_2 C  N ha0 hW (lv_sub hl [1, 2, 0] rfl) hf
set_option maxRecDepth 100000 in
set_option maxHeartbeats 4000000 in
theorem tX6_isWithin (l : Launch) {D : va_G} {ca ad : Nat → Nat} (hi : Inj ad) {N : Nat} {a0 : Nat} {a1 : Int32} {mm : Mm} {res : Int32 × Mm} (ha0 : sX6 a0) (hf : fX6_isWithin N a0 a1 mm = some res) : Met l yX6_isWithin (WS yX6_isWithin cX6_isWithin 3 (some .boolean)) (rmX6_isWithin) (va_Pc [.ref (ad a0), .int a1] (WB D ca ad mm)) (QI D ca ad res) 0 0 (AA ad) := by
  refine x_start hi (by decide) rfl (Nat.le_of_ble_eq_true rfl) (fun p e s m args below meth c ls C hW hl => ?_)
  exact wX6_isWithin_0 C ha0 hW (lv_sub hl [0, 1] rfl) hf
set_option maxRecDepth 100000 in
set_option maxHeartbeats 4000000 in
theorem wX6_total_4 (C : Cx p s m meth c args cX6_total 4 (some .long) RX6 D ca ad) {res : Int64 × Mm} {N : Nat}  : ∀ (n : Nat) {a0 : Nat} {a1 : Int64} {a3 : Int32} {mm : Mm} {H : Heap} {locs : List Loc} {ls : Array Slot}, (sX6 a0) → Wd D ca ad s.heap mm H locs → lv_has ls 4 [(0, .ref (ad a0)), (1, .long a1), (3, .int a3)] → fX6_total_4 N n a0 a1 a3 mm = some res → W p l e (rmX6_total) s m args below meth c H locs 0 0 (MQ below (QL D ca ad res) args s 0 0 (AA ad)) (F0 m 4 ls []) := by
  intro n
  induction n with
  | zero => intro a0 a1 a3 mm H locs ls ha0 hW hl hf; cases hf
  | succ n ih =>
    intro a0 a1 a3 mm H locs ls ha0 hW hl hf
    have hk4 : ∀ (a0 : Nat) (a1 : Int64) (a3 : Int32) (mm : Mm) (H : Heap) (locs : List Loc) (ls : Array Slot), (sX6 a0) → Wd D ca ad s.heap mm H locs → lv_has ls 4 [(0, .ref (ad a0)), (1, .long a1), (3, .int a3)] → (fX6_total_4 N n) a0 a1 a3 mm = some res → W p l e (rmX6_total) s m args below meth c H locs 0 0 (MQ below (QL D ca ad res) args s 0 0 (AA ad)) (F0 m 4 ls []) := fun a0 a1 a3 mm H locs ls ha0 hW hl hf => ih ha0 hW hl hf
    unfold fX6_total_4 at hf
    try dsimp only at hf
    refine lv_iload_n C.1 C.2.1 dX6_total_4 rfl (lv_at hl 2 rfl) ?_
    refine lv_aload_n C.1 C.2.1 dX6_total_5 rfl (lv_at hl 0 rfl) ?_
    refine x_geti C hW (ha0).1 (ha0).2.1 (j := 1) rfl kX6 (by decide) rfl q_300 dX6_total_6 ?_
    refine lv_icmp_ge (tgt := 28) C.1 C.2.1 dX6_total_9 (by decide) (fun c1 => ?_) (fun c1 => ?_)
    · have hf := if_t c1 hf
      refine lv_lload_n C.1 C.2.1 dX6_total_28 rfl (lv_at hl 1 rfl) ?_
      cases hf
      exact x_lret C hW dX6_total_29
    · have hf := if_f c1 hf
      refine lv_lload_n C.1 C.2.1 dX6_total_12 rfl (lv_at hl 1 rfl) ?_
      refine lv_aload_n C.1 C.2.1 dX6_total_13 rfl (lv_at hl 0 rfl) ?_
      refine x_getr C hW (ha0).1 (ha0).2.1 (j := 0) rfl kX6 (by decide) rfl q_297 dX6_total_14 ?_
      refine lv_iload_n C.1 C.2.1 dX6_total_17 rfl (lv_at hl 2 rfl) ?_
      obtain ⟨g2, hf⟩ := gd_s hf
      refine x_iald C hW ha0.2.2 g2 dX6_total_18 ?_
      refine lv_i2l C.1 C.2.1 dX6_total_19 rfl ?_
      refine lv_ladd C.1 C.2.1 dX6_total_20 ?_
      refine lv_topl (fun x3 ex3 => ?_)
      have hf := nm_s hf ex3
      refine lv_lstore_n (lv' := [(1, .long x3), (0, .ref (ad a0)), (3, .int a3)]) C.1 C.2.1 dX6_total_21 rfl hl (by decide) rfl (fun ls hl => ?_)
      refine lv_iinc (v := (a3 + 1)) (lv' := [(3, .int (a3 + 1)), (1, .long x3), (0, .ref (ad a0))]) C.1 C.2.1 dX6_total_22 hl (k := 2) rfl rfl (by decide) rfl (fun ls hl => ?_)
      refine lv_goto (tgt := 4) C.1 C.2.1 dX6_total_25 (by decide) ?_
      exact hk4 _ _ _ _ _ _ _ ha0 hW (lv_sub hl [2, 1, 0] rfl) hf
set_option maxRecDepth 100000 in
set_option maxHeartbeats 4000000 in
theorem wX6_total_0 (C : Cx p s m meth c args cX6_total 4 (some .long) RX6 D ca ad) {res : Int64 × Mm} {N : Nat}  {a0 : Nat} {mm : Mm} {H : Heap} {locs : List Loc} {ls : Array Slot} (ha0 : sX6 a0) (hW : Wd D ca ad s.heap mm H locs) (hl : lv_has ls 4 [(0, .ref (ad a0))]) (hf : fX6_total N a0 mm = some res) : W p l e (rmX6_total) s m args below meth c H locs 0 0 (MQ below (QL D ca ad res) args s 0 0 (AA ad)) (F0 m 0 ls []) := by
  unfold fX6_total at hf
  refine lv_lconst (v := 0) C.1 C.2.1 dX6_total_0 (by decide) ?_
  refine lv_lstore_n (lv' := [(1, .long 0), (0, .ref (ad a0))]) C.1 C.2.1 dX6_total_1 rfl hl (by decide) rfl (fun ls hl => ?_)
  refine lv_iconst (v := 0) C.1 C.2.1 dX6_total_2 (by decide) ?_
  refine lv_istore_n (lv' := [(3, .int 0), (1, .long 0), (0, .ref (ad a0))]) C.1 C.2.1 dX6_total_3 rfl hl (by decide) rfl (fun ls hl => ?_)
  exact wX6_total_4 C  N ha0 hW (lv_sub hl [2, 1, 0] rfl) hf
set_option maxRecDepth 100000 in
set_option maxHeartbeats 4000000 in
theorem tX6_total (l : Launch) {D : va_G} {ca ad : Nat → Nat} (hi : Inj ad) {N : Nat} {a0 : Nat} {mm : Mm} {res : Int64 × Mm} (ha0 : sX6 a0) (hf : fX6_total N a0 mm = some res) : Met l yX6_total (WS yX6_total cX6_total 4 (some .long)) (rmX6_total) (va_Pc [.ref (ad a0)] (WB D ca ad mm)) (QL D ca ad res) 0 0 (AA ad) := by
  refine x_start hi (by decide) rfl (Nat.le_of_ble_eq_true rfl) (fun p e s m args below meth c ls C hW hl => ?_)
  exact wX6_total_0 C ha0 hW (lv_sub hl [0] rfl) hf
set_option maxRecDepth 100000 in
set_option maxHeartbeats 4000000 in
theorem wX6_has_0 (C : Cx p s m meth c args cX6_has 2 (some .boolean) RX6 D ca ad) {res : Int32 × Mm} {N : Nat}  {a0 : Nat} {a1 : Int32} {mm : Mm} {H : Heap} {locs : List Loc} {ls : Array Slot} (ha0 : sX6 a0) (hW : Wd D ca ad s.heap mm H locs) (hl : lv_has ls 2 [(0, .ref (ad a0)), (1, .int a1)]) (hf : fX6_has N a0 a1 mm = some res) : W p l e (rmX6_has) s m args below meth c H locs 0 0 (MQ below (QI D ca ad res) args s 0 0 (AA ad)) (F0 m 0 ls []) := by
  unfold fX6_has at hf
  refine lv_iload_n C.1 C.2.1 dX6_has_0 rfl (lv_at hl 1 rfl) ?_
  refine lv_if_lt (tgt := 16) C.1 C.2.1 dX6_has_1 (by decide) (fun c1 => ?_) (fun c1 => ?_)
  · have hf := if_t c1 hf
    refine lv_iconst (v := 0) C.1 C.2.1 dX6_has_16 (by decide) ?_
    cases hf
    exact x_zret C hW (by decide) dX6_has_17
  · have hf := if_f c1 hf
    refine lv_iload_n C.1 C.2.1 dX6_has_4 rfl (lv_at hl 1 rfl) ?_
    refine lv_aload_n C.1 C.2.1 dX6_has_5 rfl (lv_at hl 0 rfl) ?_
    refine x_geti C hW (ha0).1 (ha0).2.1 (j := 1) rfl kX6 (by decide) rfl q_300 dX6_has_6 ?_
    refine lv_icmp_ge (tgt := 16) C.1 C.2.1 dX6_has_9 (by decide) (fun c2 => ?_) (fun c2 => ?_)
    · have hf := if_t c2 hf
      refine lv_iconst (v := 0) C.1 C.2.1 dX6_has_16 (by decide) ?_
      cases hf
      exact x_zret C hW (by decide) dX6_has_17
    · have hf := if_f c2 hf
      refine lv_iconst (v := 1) C.1 C.2.1 dX6_has_12 (by decide) ?_
      refine lv_goto (tgt := 17) C.1 C.2.1 dX6_has_13 (by decide) ?_
      cases hf
      exact x_zret C hW (by decide) dX6_has_17
set_option maxRecDepth 100000 in
set_option maxHeartbeats 4000000 in
theorem tX6_has (l : Launch) {D : va_G} {ca ad : Nat → Nat} (hi : Inj ad) {N : Nat} {a0 : Nat} {a1 : Int32} {mm : Mm} {res : Int32 × Mm} (ha0 : sX6 a0) (hf : fX6_has N a0 a1 mm = some res) : Met l yX6_has (WS yX6_has cX6_has 2 (some .boolean)) (rmX6_has) (va_Pc [.ref (ad a0), .int a1] (WB D ca ad mm)) (QI D ca ad res) 0 0 (AA ad) := by
  refine x_start hi (by decide) rfl (Nat.le_of_ble_eq_true rfl) (fun p e s m args below meth c ls C hW hl => ?_)
  exact wX6_has_0 C ha0 hW (lv_sub hl [0, 1] rfl) hf
set_option maxRecDepth 100000 in
set_option maxHeartbeats 4000000 in
theorem wX6_isMissing_0 (C : Cx p s m meth c args cX6_isMissing 1 (some .boolean) RX6 D ca ad) {res : Int32 × Mm} {N : Nat}  {a0 : Nat} {mm : Mm} {H : Heap} {locs : List Loc} {ls : Array Slot} (ha0 : sX6 a0) (hW : Wd D ca ad s.heap mm H locs) (hl : lv_has ls 1 [(0, .ref (ad a0))]) (hf : fX6_isMissing N a0 mm = some res) : W p l e (rmX6_isMissing) s m args below meth c H locs 0 0 (MQ below (QI D ca ad res) args s 0 0 (AA ad)) (F0 m 0 ls []) := by
  unfold fX6_isMissing at hf
  refine lv_aload_n C.1 C.2.1 dX6_isMissing_0 rfl (lv_at hl 0 rfl) ?_
  refine x_geti C hW (ha0).1 (ha0).2.1 (j := 1) rfl kX6 (by decide) rfl q_300 dX6_isMissing_1 ?_
  refine lv_if_ge (tgt := 11) C.1 C.2.1 dX6_isMissing_4 (by decide) (fun c1 => ?_) (fun c1 => ?_)
  · have hf := if_t c1 hf
    refine lv_iconst (v := 0) C.1 C.2.1 dX6_isMissing_11 (by decide) ?_
    cases hf
    exact x_zret C hW (by decide) dX6_isMissing_12
  · have hf := if_f c1 hf
    refine lv_iconst (v := 1) C.1 C.2.1 dX6_isMissing_7 (by decide) ?_
    refine lv_goto (tgt := 12) C.1 C.2.1 dX6_isMissing_8 (by decide) ?_
    cases hf
    exact x_zret C hW (by decide) dX6_isMissing_12
set_option maxRecDepth 100000 in
set_option maxHeartbeats 4000000 in
theorem tX6_isMissing (l : Launch) {D : va_G} {ca ad : Nat → Nat} (hi : Inj ad) {N : Nat} {a0 : Nat} {mm : Mm} {res : Int32 × Mm} (ha0 : sX6 a0) (hf : fX6_isMissing N a0 mm = some res) : Met l yX6_isMissing (WS yX6_isMissing cX6_isMissing 1 (some .boolean)) (rmX6_isMissing) (va_Pc [.ref (ad a0)] (WB D ca ad mm)) (QI D ca ad res) 0 0 (AA ad) := by
  refine x_start hi (by decide) rfl (Nat.le_of_ble_eq_true rfl) (fun p e s m args below meth c ls C hW hl => ?_)
  exact wX6_isMissing_0 C ha0 hW (lv_sub hl [0] rfl) hf
set_option maxRecDepth 100000 in
set_option maxHeartbeats 4000000 in
theorem wX6_renew_0 (C : Cx p s m meth c args cX6_renew 3 none RX6 D ca ad) {res : Unit × Mm} {N : Nat}  {a0 : Nat} {a1 : Int32} {a2 : Int32} {mm : Mm} {H : Heap} {locs : List Loc} {ls : Array Slot} (ha0 : sX6 a0) (hW : Wd D ca ad s.heap mm H locs) (hl : lv_has ls 3 [(0, .ref (ad a0)), (1, .int a1), (2, .int a2)]) (hf : fX6_renew N a0 a1 a2 mm = some res) : W p l e (rmX6_renew) s m args below meth c H locs 0 0 (MQ below (QV D ca ad res) args s 0 0 (AA ad)) (F0 m 0 ls []) := by
  unfold fX6_renew at hf
  refine lv_aload_n C.1 C.2.1 dX6_renew_0 rfl (lv_at hl 0 rfl) ?_
  refine lv_iload_n C.1 C.2.1 dX6_renew_1 rfl (lv_at hl 1 rfl) ?_
  refine x_put C hW (ha0).1 (ha0).2.1 (j := 1) (t1 := .int) rfl kX6 (by decide) rfl rfl q_300 (by decide +kernel) rfl rfl dX6_renew_2 (fun H locs hW => ?_)
  obtain ⟨m1, em1⟩ : ∃ z, z = wr mm a0 1 a1 := ⟨_, rfl⟩
  have hf := nm_s hf em1
  rw [← em1] at hW
  refine lv_aload_n C.1 C.2.1 dX6_renew_5 rfl (lv_at hl 0 rfl) ?_
  refine x_getr C hW (ha0).1 (ha0).2.1 (j := 0) rfl kX6 (by decide) rfl q_297 dX6_renew_6 ?_
  refine lv_iload_n C.1 C.2.1 dX6_renew_9 rfl (lv_at hl 2 rfl) ?_
  obtain ⟨x2, m3, r4, hf⟩ := bd2_s hf
  refine x_cv hW (x_runS C hW [.ref (ad (fr a0 0)), .int a2] [] kvJ7_fill_53178 q_860 (tJ7_fill_53178 l C.2.2.2.2.2.2.1 ha0.2.2 r4) rfl rfl ⟨by decide, by decide⟩ rfl hl.1 rfl (Nat.le_of_ble_eq_true rfl) dX6_renew_10) (fun H locs hW => ?_)
  cases hf
  exact x_vret C hW dX6_renew_13
set_option maxRecDepth 100000 in
set_option maxHeartbeats 4000000 in
theorem tX6_renew (l : Launch) {D : va_G} {ca ad : Nat → Nat} (hi : Inj ad) {N : Nat} {a0 : Nat} {a1 : Int32} {a2 : Int32} {mm : Mm} {res : Unit × Mm} (ha0 : sX6 a0) (hf : fX6_renew N a0 a1 a2 mm = some res) : Met l yX6_renew (WS yX6_renew cX6_renew 3 none) (rmX6_renew) (va_Pc [.ref (ad a0), .int a1, .int a2] (WB D ca ad mm)) (QV D ca ad res) 0 0 (AA ad) := by
  refine x_start hi (by decide) rfl (Nat.le_of_ble_eq_true rfl) (fun p e s m args below meth c ls C hW hl => ?_)
  exact wX6_renew_0 C ha0 hW (lv_sub hl [0, 1, 2] rfl) hf
set_option maxRecDepth 100000 in
set_option maxHeartbeats 4000000 in
theorem wX6_take_0 (C : Cx p s m meth c args cX6_take 3 none RX6 D ca ad) {res : Unit × Mm} {N : Nat}  {a0 : Nat} {a1 : Nat} {a2 : Int32} {mm : Mm} {H : Heap} {locs : List Loc} {ls : Array Slot} (ha0 : sX6 a0) (ha1 : sI a1) (hW : Wd D ca ad s.heap mm H locs) (hl : lv_has ls 3 [(0, .ref (ad a0)), (1, .ref (ad a1)), (2, .int a2)]) (hf : fX6_take N a0 a1 a2 mm = some res) : W p l e (rmX6_take) s m args below meth c H locs 0 0 (MQ below (QV D ca ad res) args s 0 0 (AA ad)) (F0 m 0 ls []) := by
  unfold fX6_take at hf
  refine lv_aload_n C.1 C.2.1 dX6_take_0 rfl (lv_at hl 0 rfl) ?_
  refine lv_iconst (v := 0) C.1 C.2.1 dX6_take_1 (by decide) ?_
  refine lv_iload_n C.1 C.2.1 dX6_take_2 rfl (lv_at hl 2 rfl) ?_
  refine lv_aload_n C.1 C.2.1 dX6_take_3 rfl (lv_at hl 1 rfl) ?_
  refine x_alen C hW ha1 dX6_take_4 ?_
  refine lv_aload_n C.1 C.2.1 dX6_take_5 rfl (lv_at hl 0 rfl) ?_
  refine x_getr C hW (ha0).1 (ha0).2.1 (j := 0) rfl kX6 (by decide) rfl q_297 dX6_take_6 ?_
  refine x_alen C hW ha0.2.2 dX6_take_9 ?_
  refine va_mmin C.1 C.2.1 (C.2.2.1.trans hl.1.symm) C.2.2.2.1 (C.2.2.2.2.1 _ q_517) (C.2.2.2.2.1 _ q_421) (C.2.2.2.2.1 _ q_15) (C.2.2.2.2.1 _ q_422) (by decide) (Nat.le_of_ble_eq_true rfl) (Nat.zero_le _) (Nat.zero_le _) dX6_take_10 ?_
  refine lv_topi (fun x1 ex1 => ?_)
  have hf := nm_s hf ex1
  refine va_mmin C.1 C.2.1 (C.2.2.1.trans hl.1.symm) C.2.2.2.1 (C.2.2.2.2.1 _ q_517) (C.2.2.2.2.1 _ q_421) (C.2.2.2.2.1 _ q_15) (C.2.2.2.2.1 _ q_422) (by decide) (Nat.le_of_ble_eq_true rfl) (Nat.zero_le _) (Nat.zero_le _) dX6_take_13 ?_
  refine lv_topi (fun x2 ex2 => ?_)
  have hf := nm_s hf ex2
  refine va_mmax C.1 C.2.1 (C.2.2.1.trans hl.1.symm) C.2.2.2.1 (C.2.2.2.2.1 _ q_518) (C.2.2.2.2.1 _ q_424) (C.2.2.2.2.1 _ q_15) (C.2.2.2.2.1 _ q_425) (by decide) (Nat.le_of_ble_eq_true rfl) (Nat.zero_le _) (Nat.zero_le _) dX6_take_16 ?_
  refine lv_topi (fun x3 ex3 => ?_)
  have hf := nm_s hf ex3
  refine x_put C hW (ha0).1 (ha0).2.1 (j := 1) (t1 := .int) rfl kX6 (by decide) rfl rfl q_300 (by decide +kernel) rfl rfl dX6_take_19 (fun H locs hW => ?_)
  obtain ⟨m4, em4⟩ : ∃ z, z = wr mm a0 1 x3 := ⟨_, rfl⟩
  have hf := nm_s hf em4
  rw [← em4] at hW
  refine lv_aload_n C.1 C.2.1 dX6_take_22 rfl (lv_at hl 1 rfl) ?_
  refine lv_iconst (v := 0) C.1 C.2.1 dX6_take_23 (by decide) ?_
  refine lv_aload_n C.1 C.2.1 dX6_take_24 rfl (lv_at hl 0 rfl) ?_
  refine x_getr C hW (ha0).1 (ha0).2.1 (j := 0) rfl kX6 (by decide) rfl q_297 dX6_take_25 ?_
  refine lv_iconst (v := 0) C.1 C.2.1 dX6_take_28 (by decide) ?_
  refine lv_aload_n C.1 C.2.1 dX6_take_29 rfl (lv_at hl 0 rfl) ?_
  refine x_geti C hW (ha0).1 (ha0).2.1 (j := 1) rfl kX6 (by decide) rfl q_300 dX6_take_30 ?_
  obtain ⟨g5, hf⟩ := gd_s hf
  refine x_copy C hW ha1 ha0.2.2 g5 hl.1 q_519 q_496 q_495 q_14 (by decide) (Nat.le_of_ble_eq_true rfl) dX6_take_33 (fun H locs hW => ?_)
  obtain ⟨m6, em6⟩ : ∃ z, z = cpy m4 a1 (fr a0 0) 0 0 (rd m4 a0 1) := ⟨_, rfl⟩
  have hf := nm_s hf em6
  rw [← em6] at hW
  cases hf
  exact x_vret C hW dX6_take_36
set_option maxRecDepth 100000 in
set_option maxHeartbeats 4000000 in
theorem tX6_take (l : Launch) {D : va_G} {ca ad : Nat → Nat} (hi : Inj ad) {N : Nat} {a0 : Nat} {a1 : Nat} {a2 : Int32} {mm : Mm} {res : Unit × Mm} (ha0 : sX6 a0) (ha1 : sI a1) (hf : fX6_take N a0 a1 a2 mm = some res) : Met l yX6_take (WS yX6_take cX6_take 3 none) (rmX6_take) (va_Pc [.ref (ad a0), .ref (ad a1), .int a2] (WB D ca ad mm)) (QV D ca ad res) 0 0 (AA ad) := by
  refine x_start hi (by decide) rfl (Nat.le_of_ble_eq_true rfl) (fun p e s m args below meth c ls C hW hl => ?_)
  exact wX6_take_0 C ha0 ha1 hW (lv_sub hl [0, 1, 2] rfl) hf
end W_row07
