theorem dX9_init_0 : decode cX9_init 0 = .ok (.aload_n 0, 1) := by decide +kernel
theorem dX9_init_1 : decode cX9_init 1 = .ok (.invokespecial 3, 3) := by decide +kernel
theorem dX9_init_4 : decode cX9_init 4 = .ok (.aload_n 0, 1) := by decide +kernel
theorem dX9_init_5 : decode cX9_init 5 = .ok (.bipush (-9), 2) := by decide +kernel
theorem dX9_init_7 : decode cX9_init 7 = .ok (.putfield 9, 3) := by decide +kernel
theorem dX9_init_10 : decode cX9_init 10 = .ok (.return_, 1) := by decide +kernel
theorem q_41 : Cond.methodLink RX9 3 objectInit ∈ wT := wi_t 41 (by decide +kernel) (by decide +kernel)
theorem q_23 : Cond.instanceMethod objectInit ∈ wT := wi_t 23 (by decide +kernel) (by decide +kernel)
theorem q_24 : Cond.code objectInit ⟨#[0xb1]⟩ 1 none ∈ wT := wi_t 24 (by decide +kernel) (by decide +kernel)
def kkX9 (ca a : Nat → Nat) : va_W := [(a 0, .inr (9, [.int 0, .int 0, .int (-9)]))]
set_option maxRecDepth 100000 in
set_option maxHeartbeats 8000000 in
theorem tX9_init (l : Launch) (D : va_G) (ca : Nat → Nat) (q sz : Nat) : Met l yX9_init (WS yX9_init cX9_init 1 none) ({ frames := 1, cells := 0, slots := 0, locals := 40 } : Room) (PI D ca q 9 [.int 0, .int 0, .int 0] [] sz) (QN D ca (kkX9 ca) q 9 [.int 0, .int 0, .int 0] sz) 0 0 (AI q 9 [.int 0, .int 0, .int 0] sz) := by
  refine y_start (by decide) rfl rfl (Nat.le_of_ble_eq_true rfl) (fun p e s m args below meth c ls A hA C hN hin hP hD hS hl => ?_)
  have hl : lv_has ls 1 [(0, .ref q)] := hl
  refine lv_aload_n C.1 C.2.1 dX9_init_0 rfl (lv_at hl 0 rfl) ?_
  refine y_obj C q_41 q_23 q_24 hl.1 (by decide) (by decide) dX9_init_1 ?_
  refine lv_aload_n C.1 C.2.1 dX9_init_4 rfl (lv_at hl 0 rfl) ?_
  refine lv_bipush (v := (-9)) C.1 C.2.1 dX9_init_5 (by decide) ?_
  refine y_put C hP hD hS rfl (k := 2) (t1 := .int) kX9 (by decide) rfl rfl q_47 (by decide +kernel) rfl rfl (Nat.le_of_ble_eq_true rfl) dX9_init_7 (fun H locs hP hD hS => ?_)
  have hP : va_P D vwCl [(q, .inr (9, [.int 0, .int 0, .int (-9)]))] H := hP
  have hD : va_D A [(q, .inr (9, [.int 0, .int 0, .int (-9)]))] := hD
  exact y_end (kX := kkX9 ca) C (fun k => [q].getD k 0) rfl hP hD hS rfl rfl dX9_init_10
theorem dX7_init_0 : decode cX7_init 0 = .ok (.aload_n 0, 1) := by decide +kernel
theorem dX7_init_1 : decode cX7_init 1 = .ok (.invokespecial 3, 3) := by decide +kernel
theorem dX7_init_4 : decode cX7_init 4 = .ok (.aload_n 0, 1) := by decide +kernel
theorem dX7_init_5 : decode cX7_init 5 = .ok (.bipush 6, 2) := by decide +kernel
theorem dX7_init_7 : decode cX7_init 7 = .ok (.newarray .int, 2) := by decide +kernel
theorem dX7_init_9 : decode cX7_init 9 = .ok (.putfield 9, 3) := by decide +kernel
theorem dX7_init_12 : decode cX7_init 12 = .ok (.aload_n 0, 1) := by decide +kernel
theorem dX7_init_13 : decode cX7_init 13 = .ok (.bipush 6, 2) := by decide +kernel
theorem dX7_init_15 : decode cX7_init 15 = .ok (.newarray .int, 2) := by decide +kernel
theorem dX7_init_17 : decode cX7_init 17 = .ok (.putfield 15, 3) := by decide +kernel
theorem dX7_init_20 : decode cX7_init 20 = .ok (.aload_n 0, 1) := by decide +kernel
theorem dX7_init_21 : decode cX7_init 21 = .ok (.bipush 7, 2) := by decide +kernel
theorem dX7_init_23 : decode cX7_init 23 = .ok (.newarray .int, 2) := by decide +kernel
theorem dX7_init_25 : decode cX7_init 25 = .ok (.putfield 18, 3) := by decide +kernel
theorem dX7_init_28 : decode cX7_init 28 = .ok (.return_, 1) := by decide +kernel
theorem q_137 : Cond.methodLink RX7 3 objectInit ∈ wT := wi_t 137 (by decide +kernel) (by decide +kernel)
theorem q_56 : Cond.arrayClass .int ∈ wT := wi_t 56 (by decide +kernel) (by decide +kernel)
def kkX7 (ca a : Nat → Nat) : va_W := [(a 0, .inr (7, [.ref (a 1), .ref (a 2), .ref (a 3), .int 0, .int 0])), (a 1, .inl (ca 0, 6, .inl fun _ => 0)), (a 2, .inl (ca 0, 6, .inl fun _ => 0)), (a 3, .inl (ca 0, 7, .inl fun _ => 0))]
set_option maxRecDepth 100000 in
set_option maxHeartbeats 8000000 in
theorem tX7_init (l : Launch) (D : va_G) (ca : Nat → Nat) (q sz : Nat) : Met l yX7_init (WS yX7_init cX7_init 1 none) ({ frames := 1, cells := 3, slots := 19, locals := 40 } : Room) (PI D ca q 7 [.null, .null, .null, .int 0, .int 0] [] sz) (QN D ca (kkX7 ca) q 7 [.null, .null, .null, .int 0, .int 0] sz) 3 19 (AI q 7 [.null, .null, .null, .int 0, .int 0] sz) := by
  refine y_start (by decide) rfl rfl (Nat.le_of_ble_eq_true rfl) (fun p e s m args below meth c ls A hA C hN hin hP hD hS hl => ?_)
  have hl : lv_has ls 1 [(0, .ref q)] := hl
  refine lv_aload_n C.1 C.2.1 dX7_init_0 rfl (lv_at hl 0 rfl) ?_
  refine y_obj C q_137 q_23 q_24 hl.1 (by decide) (by decide) dX7_init_1 ?_
  refine lv_aload_n C.1 C.2.1 dX7_init_4 rfl (lv_at hl 0 rfl) ?_
  refine lv_bipush (v := 6) C.1 C.2.1 dX7_init_5 (by decide) ?_
  refine y_newa C hP hD hS hA 6 (by decide) (by decide) (by decide) (Nat.le_of_ble_eq_true rfl) (Nat.le_of_ble_eq_true rfl) q_56 dX7_init_7 (fun q1 H hP hD hS => ?_)
  have hP : va_P D vwCl [(q, .inr (7, [.null, .null, .null, .int 0, .int 0])), (q1, .inl (ca 0, 6, .inl fun _ => 0))] H := hP
  have hD : va_D A [(q, .inr (7, [.null, .null, .null, .int 0, .int 0])), (q1, .inl (ca 0, 6, .inl fun _ => 0))] := hD
  refine W.widen (k := 1) (n := 6) (by decide) (by decide) ?_
  refine y_putF C hP hD hS hin rfl (k := 0) (t1 := (.array .int)) kX7 (by decide) rfl rfl q_138 (by decide +kernel) rfl rfl (Nat.le_of_ble_eq_true rfl) dX7_init_9 (fun H locs hP hD hS => ?_)
  have hP : va_P D vwCl [(q, .inr (7, [.ref q1, .null, .null, .int 0, .int 0])), (q1, .inl (ca 0, 6, .inl fun _ => 0))] H := hP
  have hD : va_D A [(q, .inr (7, [.ref q1, .null, .null, .int 0, .int 0])), (q1, .inl (ca 0, 6, .inl fun _ => 0))] := hD
  refine lv_aload_n C.1 C.2.1 dX7_init_12 rfl (lv_at hl 0 rfl) ?_
  refine lv_bipush (v := 6) C.1 C.2.1 dX7_init_13 (by decide) ?_
  refine y_newa C hP hD hS hA 6 (by decide) (by decide) (by decide) (Nat.le_of_ble_eq_true rfl) (Nat.le_of_ble_eq_true rfl) q_56 dX7_init_15 (fun q2 H hP hD hS => ?_)
  have hP : va_P D vwCl [(q, .inr (7, [.ref q1, .null, .null, .int 0, .int 0])), (q1, .inl (ca 0, 6, .inl fun _ => 0)), (q2, .inl (ca 0, 6, .inl fun _ => 0))] H := hP
  have hD : va_D A [(q, .inr (7, [.ref q1, .null, .null, .int 0, .int 0])), (q1, .inl (ca 0, 6, .inl fun _ => 0)), (q2, .inl (ca 0, 6, .inl fun _ => 0))] := hD
  refine W.widen (k := 2) (n := 12) (by decide) (by decide) ?_
  refine y_putF C hP hD hS hin rfl (k := 1) (t1 := (.array .int)) kX7 (by decide) rfl rfl q_140 (by decide +kernel) rfl rfl (Nat.le_of_ble_eq_true rfl) dX7_init_17 (fun H locs hP hD hS => ?_)
  have hP : va_P D vwCl [(q, .inr (7, [.ref q1, .ref q2, .null, .int 0, .int 0])), (q1, .inl (ca 0, 6, .inl fun _ => 0)), (q2, .inl (ca 0, 6, .inl fun _ => 0))] H := hP
  have hD : va_D A [(q, .inr (7, [.ref q1, .ref q2, .null, .int 0, .int 0])), (q1, .inl (ca 0, 6, .inl fun _ => 0)), (q2, .inl (ca 0, 6, .inl fun _ => 0))] := hD
  refine lv_aload_n C.1 C.2.1 dX7_init_20 rfl (lv_at hl 0 rfl) ?_
  refine lv_bipush (v := 7) C.1 C.2.1 dX7_init_21 (by decide) ?_
  refine y_newa C hP hD hS hA 7 (by decide) (by decide) (by decide) (Nat.le_of_ble_eq_true rfl) (Nat.le_of_ble_eq_true rfl) q_56 dX7_init_23 (fun q3 H hP hD hS => ?_)
  have hP : va_P D vwCl [(q, .inr (7, [.ref q1, .ref q2, .null, .int 0, .int 0])), (q1, .inl (ca 0, 6, .inl fun _ => 0)), (q2, .inl (ca 0, 6, .inl fun _ => 0)), (q3, .inl (ca 0, 7, .inl fun _ => 0))] H := hP
  have hD : va_D A [(q, .inr (7, [.ref q1, .ref q2, .null, .int 0, .int 0])), (q1, .inl (ca 0, 6, .inl fun _ => 0)), (q2, .inl (ca 0, 6, .inl fun _ => 0)), (q3, .inl (ca 0, 7, .inl fun _ => 0))] := hD
  refine W.widen (k := 3) (n := 19) (by decide) (by decide) ?_
  refine y_putF C hP hD hS hin rfl (k := 2) (t1 := (.array .int)) kX7 (by decide) rfl rfl q_142 (by decide +kernel) rfl rfl (Nat.le_of_ble_eq_true rfl) dX7_init_25 (fun H locs hP hD hS => ?_)
  have hP : va_P D vwCl [(q, .inr (7, [.ref q1, .ref q2, .ref q3, .int 0, .int 0])), (q1, .inl (ca 0, 6, .inl fun _ => 0)), (q2, .inl (ca 0, 6, .inl fun _ => 0)), (q3, .inl (ca 0, 7, .inl fun _ => 0))] H := hP
  have hD : va_D A [(q, .inr (7, [.ref q1, .ref q2, .ref q3, .int 0, .int 0])), (q1, .inl (ca 0, 6, .inl fun _ => 0)), (q2, .inl (ca 0, 6, .inl fun _ => 0)), (q3, .inl (ca 0, 7, .inl fun _ => 0))] := hD
  exact y_end (kX := kkX7 ca) C (fun k => [q, q1, q2, q3].getD k 0) rfl hP hD hS rfl rfl dX7_init_28
theorem dX3_init_0 : decode cX3_init 0 = .ok (.aload_n 0, 1) := by decide +kernel
theorem dX3_init_1 : decode cX3_init 1 = .ok (.invokespecial 3, 3) := by decide +kernel
theorem dX3_init_4 : decode cX3_init 4 = .ok (.aload_n 0, 1) := by decide +kernel
theorem dX3_init_5 : decode cX3_init 5 = .ok (.bipush 6, 2) := by decide +kernel
theorem dX3_init_7 : decode cX3_init 7 = .ok (.newarray .int, 2) := by decide +kernel
theorem dX3_init_9 : decode cX3_init 9 = .ok (.putfield 9, 3) := by decide +kernel
theorem dX3_init_12 : decode cX3_init 12 = .ok (.return_, 1) := by decide +kernel
theorem q_162 : Cond.methodLink RX3 3 objectInit ∈ wT := wi_t 162 (by decide +kernel) (by decide +kernel)
def kkX3 (ca a : Nat → Nat) : va_W := [(a 0, .inr (3, [.ref (a 1), .int 0, .int 0])), (a 1, .inl (ca 0, 6, .inl fun _ => 0))]
set_option maxRecDepth 100000 in
set_option maxHeartbeats 8000000 in
theorem tX3_init (l : Launch) (D : va_G) (ca : Nat → Nat) (q sz : Nat) : Met l yX3_init (WS yX3_init cX3_init 1 none) ({ frames := 1, cells := 1, slots := 6, locals := 40 } : Room) (PI D ca q 3 [.null, .int 0, .int 0] [] sz) (QN D ca (kkX3 ca) q 3 [.null, .int 0, .int 0] sz) 1 6 (AI q 3 [.null, .int 0, .int 0] sz) := by
  refine y_start (by decide) rfl rfl (Nat.le_of_ble_eq_true rfl) (fun p e s m args below meth c ls A hA C hN hin hP hD hS hl => ?_)
  have hl : lv_has ls 1 [(0, .ref q)] := hl
  refine lv_aload_n C.1 C.2.1 dX3_init_0 rfl (lv_at hl 0 rfl) ?_
  refine y_obj C q_162 q_23 q_24 hl.1 (by decide) (by decide) dX3_init_1 ?_
  refine lv_aload_n C.1 C.2.1 dX3_init_4 rfl (lv_at hl 0 rfl) ?_
  refine lv_bipush (v := 6) C.1 C.2.1 dX3_init_5 (by decide) ?_
  refine y_newa C hP hD hS hA 6 (by decide) (by decide) (by decide) (Nat.le_of_ble_eq_true rfl) (Nat.le_of_ble_eq_true rfl) q_56 dX3_init_7 (fun q1 H hP hD hS => ?_)
  have hP : va_P D vwCl [(q, .inr (3, [.null, .int 0, .int 0])), (q1, .inl (ca 0, 6, .inl fun _ => 0))] H := hP
  have hD : va_D A [(q, .inr (3, [.null, .int 0, .int 0])), (q1, .inl (ca 0, 6, .inl fun _ => 0))] := hD
  refine W.widen (k := 1) (n := 6) (by decide) (by decide) ?_
  refine y_putF C hP hD hS hin rfl (k := 0) (t1 := (.array .int)) kX3 (by decide) rfl rfl q_163 (by decide +kernel) rfl rfl (Nat.le_of_ble_eq_true rfl) dX3_init_9 (fun H locs hP hD hS => ?_)
  have hP : va_P D vwCl [(q, .inr (3, [.ref q1, .int 0, .int 0])), (q1, .inl (ca 0, 6, .inl fun _ => 0))] H := hP
  have hD : va_D A [(q, .inr (3, [.ref q1, .int 0, .int 0])), (q1, .inl (ca 0, 6, .inl fun _ => 0))] := hD
  exact y_end (kX := kkX3 ca) C (fun k => [q, q1].getD k 0) rfl hP hD hS rfl rfl dX3_init_12
theorem dX5_init_0 : decode cX5_init 0 = .ok (.aload_n 0, 1) := by decide +kernel
theorem dX5_init_1 : decode cX5_init 1 = .ok (.invokespecial 3, 3) := by decide +kernel
theorem dX5_init_4 : decode cX5_init 4 = .ok (.aload_n 0, 1) := by decide +kernel
theorem dX5_init_5 : decode cX5_init 5 = .ok (.iconst 2, 1) := by decide +kernel
theorem dX5_init_6 : decode cX5_init 6 = .ok (.newarray .int, 2) := by decide +kernel
theorem dX5_init_8 : decode cX5_init 8 = .ok (.putfield 9, 3) := by decide +kernel
theorem dX5_init_11 : decode cX5_init 11 = .ok (.aload_n 0, 1) := by decide +kernel
theorem dX5_init_12 : decode cX5_init 12 = .ok (.bipush 6, 2) := by decide +kernel
theorem dX5_init_14 : decode cX5_init 14 = .ok (.newarray .int, 2) := by decide +kernel
theorem dX5_init_16 : decode cX5_init 16 = .ok (.putfield 15, 3) := by decide +kernel
theorem dX5_init_19 : decode cX5_init 19 = .ok (.aload_n 0, 1) := by decide +kernel
theorem dX5_init_20 : decode cX5_init 20 = .ok (.bipush 6, 2) := by decide +kernel
theorem dX5_init_22 : decode cX5_init 22 = .ok (.newarray .int, 2) := by decide +kernel
theorem dX5_init_24 : decode cX5_init 24 = .ok (.putfield 18, 3) := by decide +kernel
theorem dX5_init_27 : decode cX5_init 27 = .ok (.aload_n 0, 1) := by decide +kernel
theorem dX5_init_28 : decode cX5_init 28 = .ok (.bipush 6, 2) := by decide +kernel
theorem dX5_init_30 : decode cX5_init 30 = .ok (.newarray .int, 2) := by decide +kernel
theorem dX5_init_32 : decode cX5_init 32 = .ok (.putfield 21, 3) := by decide +kernel
theorem dX5_init_35 : decode cX5_init 35 = .ok (.return_, 1) := by decide +kernel
theorem q_107 : Cond.methodLink RX5 3 objectInit ∈ wT := wi_t 107 (by decide +kernel) (by decide +kernel)
def kkX5 (ca a : Nat → Nat) : va_W := [(a 0, .inr (5, [.ref (a 1), .ref (a 2), .ref (a 3), .ref (a 4), .int 0, .int 0])), (a 1, .inl (ca 0, 2, .inl fun _ => 0)), (a 2, .inl (ca 0, 6, .inl fun _ => 0)), (a 3, .inl (ca 0, 6, .inl fun _ => 0)), (a 4, .inl (ca 0, 6, .inl fun _ => 0))]
set_option maxRecDepth 100000 in
set_option maxHeartbeats 8000000 in
theorem tX5_init (l : Launch) (D : va_G) (ca : Nat → Nat) (q sz : Nat) : Met l yX5_init (WS yX5_init cX5_init 1 none) ({ frames := 1, cells := 4, slots := 20, locals := 40 } : Room) (PI D ca q 5 [.null, .null, .null, .null, .int 0, .int 0] [] sz) (QN D ca (kkX5 ca) q 5 [.null, .null, .null, .null, .int 0, .int 0] sz) 4 20 (AI q 5 [.null, .null, .null, .null, .int 0, .int 0] sz) := by
  refine y_start (by decide) rfl rfl (Nat.le_of_ble_eq_true rfl) (fun p e s m args below meth c ls A hA C hN hin hP hD hS hl => ?_)
  have hl : lv_has ls 1 [(0, .ref q)] := hl
  refine lv_aload_n C.1 C.2.1 dX5_init_0 rfl (lv_at hl 0 rfl) ?_
  refine y_obj C q_107 q_23 q_24 hl.1 (by decide) (by decide) dX5_init_1 ?_
  refine lv_aload_n C.1 C.2.1 dX5_init_4 rfl (lv_at hl 0 rfl) ?_
  refine lv_iconst (v := 2) C.1 C.2.1 dX5_init_5 (by decide) ?_
  refine y_newa C hP hD hS hA 2 (by decide) (by decide) (by decide) (Nat.le_of_ble_eq_true rfl) (Nat.le_of_ble_eq_true rfl) q_56 dX5_init_6 (fun q1 H hP hD hS => ?_)
  have hP : va_P D vwCl [(q, .inr (5, [.null, .null, .null, .null, .int 0, .int 0])), (q1, .inl (ca 0, 2, .inl fun _ => 0))] H := hP
  have hD : va_D A [(q, .inr (5, [.null, .null, .null, .null, .int 0, .int 0])), (q1, .inl (ca 0, 2, .inl fun _ => 0))] := hD
  refine W.widen (k := 1) (n := 2) (by decide) (by decide) ?_
  refine y_putF C hP hD hS hin rfl (k := 0) (t1 := (.array .int)) kX5 (by decide) rfl rfl q_108 (by decide +kernel) rfl rfl (Nat.le_of_ble_eq_true rfl) dX5_init_8 (fun H locs hP hD hS => ?_)
  have hP : va_P D vwCl [(q, .inr (5, [.ref q1, .null, .null, .null, .int 0, .int 0])), (q1, .inl (ca 0, 2, .inl fun _ => 0))] H := hP
  have hD : va_D A [(q, .inr (5, [.ref q1, .null, .null, .null, .int 0, .int 0])), (q1, .inl (ca 0, 2, .inl fun _ => 0))] := hD
  refine lv_aload_n C.1 C.2.1 dX5_init_11 rfl (lv_at hl 0 rfl) ?_
  refine lv_bipush (v := 6) C.1 C.2.1 dX5_init_12 (by decide) ?_
  refine y_newa C hP hD hS hA 6 (by decide) (by decide) (by decide) (Nat.le_of_ble_eq_true rfl) (Nat.le_of_ble_eq_true rfl) q_56 dX5_init_14 (fun q2 H hP hD hS => ?_)
  have hP : va_P D vwCl [(q, .inr (5, [.ref q1, .null, .null, .null, .int 0, .int 0])), (q1, .inl (ca 0, 2, .inl fun _ => 0)), (q2, .inl (ca 0, 6, .inl fun _ => 0))] H := hP
  have hD : va_D A [(q, .inr (5, [.ref q1, .null, .null, .null, .int 0, .int 0])), (q1, .inl (ca 0, 2, .inl fun _ => 0)), (q2, .inl (ca 0, 6, .inl fun _ => 0))] := hD
  refine W.widen (k := 2) (n := 8) (by decide) (by decide) ?_
  refine y_putF C hP hD hS hin rfl (k := 1) (t1 := (.array .int)) kX5 (by decide) rfl rfl q_110 (by decide +kernel) rfl rfl (Nat.le_of_ble_eq_true rfl) dX5_init_16 (fun H locs hP hD hS => ?_)
  have hP : va_P D vwCl [(q, .inr (5, [.ref q1, .ref q2, .null, .null, .int 0, .int 0])), (q1, .inl (ca 0, 2, .inl fun _ => 0)), (q2, .inl (ca 0, 6, .inl fun _ => 0))] H := hP
  have hD : va_D A [(q, .inr (5, [.ref q1, .ref q2, .null, .null, .int 0, .int 0])), (q1, .inl (ca 0, 2, .inl fun _ => 0)), (q2, .inl (ca 0, 6, .inl fun _ => 0))] := hD
  refine lv_aload_n C.1 C.2.1 dX5_init_19 rfl (lv_at hl 0 rfl) ?_
  refine lv_bipush (v := 6) C.1 C.2.1 dX5_init_20 (by decide) ?_
  refine y_newa C hP hD hS hA 6 (by decide) (by decide) (by decide) (Nat.le_of_ble_eq_true rfl) (Nat.le_of_ble_eq_true rfl) q_56 dX5_init_22 (fun q3 H hP hD hS => ?_)
  have hP : va_P D vwCl [(q, .inr (5, [.ref q1, .ref q2, .null, .null, .int 0, .int 0])), (q1, .inl (ca 0, 2, .inl fun _ => 0)), (q2, .inl (ca 0, 6, .inl fun _ => 0)), (q3, .inl (ca 0, 6, .inl fun _ => 0))] H := hP
  have hD : va_D A [(q, .inr (5, [.ref q1, .ref q2, .null, .null, .int 0, .int 0])), (q1, .inl (ca 0, 2, .inl fun _ => 0)), (q2, .inl (ca 0, 6, .inl fun _ => 0)), (q3, .inl (ca 0, 6, .inl fun _ => 0))] := hD
  refine W.widen (k := 3) (n := 14) (by decide) (by decide) ?_
  refine y_putF C hP hD hS hin rfl (k := 2) (t1 := (.array .int)) kX5 (by decide) rfl rfl q_112 (by decide +kernel) rfl rfl (Nat.le_of_ble_eq_true rfl) dX5_init_24 (fun H locs hP hD hS => ?_)
  have hP : va_P D vwCl [(q, .inr (5, [.ref q1, .ref q2, .ref q3, .null, .int 0, .int 0])), (q1, .inl (ca 0, 2, .inl fun _ => 0)), (q2, .inl (ca 0, 6, .inl fun _ => 0)), (q3, .inl (ca 0, 6, .inl fun _ => 0))] H := hP
  have hD : va_D A [(q, .inr (5, [.ref q1, .ref q2, .ref q3, .null, .int 0, .int 0])), (q1, .inl (ca 0, 2, .inl fun _ => 0)), (q2, .inl (ca 0, 6, .inl fun _ => 0)), (q3, .inl (ca 0, 6, .inl fun _ => 0))] := hD
  refine lv_aload_n C.1 C.2.1 dX5_init_27 rfl (lv_at hl 0 rfl) ?_
  refine lv_bipush (v := 6) C.1 C.2.1 dX5_init_28 (by decide) ?_
  refine y_newa C hP hD hS hA 6 (by decide) (by decide) (by decide) (Nat.le_of_ble_eq_true rfl) (Nat.le_of_ble_eq_true rfl) q_56 dX5_init_30 (fun q4 H hP hD hS => ?_)
  have hP : va_P D vwCl [(q, .inr (5, [.ref q1, .ref q2, .ref q3, .null, .int 0, .int 0])), (q1, .inl (ca 0, 2, .inl fun _ => 0)), (q2, .inl (ca 0, 6, .inl fun _ => 0)), (q3, .inl (ca 0, 6, .inl fun _ => 0)), (q4, .inl (ca 0, 6, .inl fun _ => 0))] H := hP
  have hD : va_D A [(q, .inr (5, [.ref q1, .ref q2, .ref q3, .null, .int 0, .int 0])), (q1, .inl (ca 0, 2, .inl fun _ => 0)), (q2, .inl (ca 0, 6, .inl fun _ => 0)), (q3, .inl (ca 0, 6, .inl fun _ => 0)), (q4, .inl (ca 0, 6, .inl fun _ => 0))] := hD
  refine W.widen (k := 4) (n := 20) (by decide) (by decide) ?_
  refine y_putF C hP hD hS hin rfl (k := 3) (t1 := (.array .int)) kX5 (by decide) rfl rfl q_114 (by decide +kernel) rfl rfl (Nat.le_of_ble_eq_true rfl) dX5_init_32 (fun H locs hP hD hS => ?_)
  have hP : va_P D vwCl [(q, .inr (5, [.ref q1, .ref q2, .ref q3, .ref q4, .int 0, .int 0])), (q1, .inl (ca 0, 2, .inl fun _ => 0)), (q2, .inl (ca 0, 6, .inl fun _ => 0)), (q3, .inl (ca 0, 6, .inl fun _ => 0)), (q4, .inl (ca 0, 6, .inl fun _ => 0))] H := hP
  have hD : va_D A [(q, .inr (5, [.ref q1, .ref q2, .ref q3, .ref q4, .int 0, .int 0])), (q1, .inl (ca 0, 2, .inl fun _ => 0)), (q2, .inl (ca 0, 6, .inl fun _ => 0)), (q3, .inl (ca 0, 6, .inl fun _ => 0)), (q4, .inl (ca 0, 6, .inl fun _ => 0))] := hD
  exact y_end (kX := kkX5 ca) C (fun k => [q, q1, q2, q3, q4].getD k 0) rfl hP hD hS rfl rfl dX5_init_35
theorem dX1_init_0 : decode cX1_init 0 = .ok (.aload_n 0, 1) := by decide +kernel
theorem dX1_init_1 : decode cX1_init 1 = .ok (.invokespecial 3, 3) := by decide +kernel
theorem dX1_init_4 : decode cX1_init 4 = .ok (.aload_n 0, 1) := by decide +kernel
theorem dX1_init_5 : decode cX1_init 5 = .ok (.bipush 6, 2) := by decide +kernel
theorem dX1_init_7 : decode cX1_init 7 = .ok (.newarray .int, 2) := by decide +kernel
theorem dX1_init_9 : decode cX1_init 9 = .ok (.putfield 9, 3) := by decide +kernel
theorem dX1_init_12 : decode cX1_init 12 = .ok (.return_, 1) := by decide +kernel
theorem q_214 : Cond.methodLink RX1 3 objectInit ∈ wT := wi_t 214 (by decide +kernel) (by decide +kernel)
def kkX1 (ca a : Nat → Nat) : va_W := [(a 0, .inr (1, [.ref (a 1), .int 0, .int 0])), (a 1, .inl (ca 0, 6, .inl fun _ => 0))]
set_option maxRecDepth 100000 in
set_option maxHeartbeats 8000000 in
theorem tX1_init (l : Launch) (D : va_G) (ca : Nat → Nat) (q sz : Nat) : Met l yX1_init (WS yX1_init cX1_init 1 none) ({ frames := 1, cells := 1, slots := 6, locals := 40 } : Room) (PI D ca q 1 [.null, .int 0, .int 0] [] sz) (QN D ca (kkX1 ca) q 1 [.null, .int 0, .int 0] sz) 1 6 (AI q 1 [.null, .int 0, .int 0] sz) := by
  refine y_start (by decide) rfl rfl (Nat.le_of_ble_eq_true rfl) (fun p e s m args below meth c ls A hA C hN hin hP hD hS hl => ?_)
  have hl : lv_has ls 1 [(0, .ref q)] := hl
  refine lv_aload_n C.1 C.2.1 dX1_init_0 rfl (lv_at hl 0 rfl) ?_
  refine y_obj C q_214 q_23 q_24 hl.1 (by decide) (by decide) dX1_init_1 ?_
  refine lv_aload_n C.1 C.2.1 dX1_init_4 rfl (lv_at hl 0 rfl) ?_
  refine lv_bipush (v := 6) C.1 C.2.1 dX1_init_5 (by decide) ?_
  refine y_newa C hP hD hS hA 6 (by decide) (by decide) (by decide) (Nat.le_of_ble_eq_true rfl) (Nat.le_of_ble_eq_true rfl) q_56 dX1_init_7 (fun q1 H hP hD hS => ?_)
  have hP : va_P D vwCl [(q, .inr (1, [.null, .int 0, .int 0])), (q1, .inl (ca 0, 6, .inl fun _ => 0))] H := hP
  have hD : va_D A [(q, .inr (1, [.null, .int 0, .int 0])), (q1, .inl (ca 0, 6, .inl fun _ => 0))] := hD
  refine W.widen (k := 1) (n := 6) (by decide) (by decide) ?_
  refine y_putF C hP hD hS hin rfl (k := 0) (t1 := (.array .int)) kX1 (by decide) rfl rfl q_215 (by decide +kernel) rfl rfl (Nat.le_of_ble_eq_true rfl) dX1_init_9 (fun H locs hP hD hS => ?_)
  have hP : va_P D vwCl [(q, .inr (1, [.ref q1, .int 0, .int 0])), (q1, .inl (ca 0, 6, .inl fun _ => 0))] H := hP
  have hD : va_D A [(q, .inr (1, [.ref q1, .int 0, .int 0])), (q1, .inl (ca 0, 6, .inl fun _ => 0))] := hD
  exact y_end (kX := kkX1 ca) C (fun k => [q, q1].getD k 0) rfl hP hD hS rfl rfl dX1_init_12
theorem dX10_init_0 : decode cX10_init 0 = .ok (.aload_n 0, 1) := by decide +kernel
theorem dX10_init_1 : decode cX10_init 1 = .ok (.invokespecial 3, 3) := by decide +kernel
theorem dX10_init_4 : decode cX10_init 4 = .ok (.aload_n 0, 1) := by decide +kernel
theorem dX10_init_5 : decode cX10_init 5 = .ok (.sipush 1792, 3) := by decide +kernel
theorem dX10_init_8 : decode cX10_init 8 = .ok (.newarray .int, 2) := by decide +kernel
theorem dX10_init_10 : decode cX10_init 10 = .ok (.putfield 9, 3) := by decide +kernel
theorem dX10_init_13 : decode cX10_init 13 = .ok (.aload_n 0, 1) := by decide +kernel
theorem dX10_init_14 : decode cX10_init 14 = .ok (.bipush 48, 2) := by decide +kernel
theorem dX10_init_16 : decode cX10_init 16 = .ok (.newarray .int, 2) := by decide +kernel
theorem dX10_init_18 : decode cX10_init 18 = .ok (.putfield 15, 3) := by decide +kernel
theorem dX10_init_21 : decode cX10_init 21 = .ok (.return_, 1) := by decide +kernel
theorem q_248 : Cond.methodLink RX10 3 objectInit ∈ wT := wi_t 248 (by decide +kernel) (by decide +kernel)
def kkX10 (ca a : Nat → Nat) : va_W := [(a 0, .inr (10, [.ref (a 1), .ref (a 2), .int 0, .int 0])), (a 1, .inl (ca 0, 1792, .inl fun _ => 0)), (a 2, .inl (ca 0, 48, .inl fun _ => 0))]
set_option maxRecDepth 100000 in
set_option maxHeartbeats 8000000 in
theorem tX10_init (l : Launch) (D : va_G) (ca : Nat → Nat) (q sz : Nat) : Met l yX10_init (WS yX10_init cX10_init 1 none) ({ frames := 1, cells := 2, slots := 1840, locals := 40 } : Room) (PI D ca q 10 [.null, .null, .int 0, .int 0] [] sz) (QN D ca (kkX10 ca) q 10 [.null, .null, .int 0, .int 0] sz) 2 1840 (AI q 10 [.null, .null, .int 0, .int 0] sz) := by
  refine y_start (by decide) rfl rfl (Nat.le_of_ble_eq_true rfl) (fun p e s m args below meth c ls A hA C hN hin hP hD hS hl => ?_)
  have hl : lv_has ls 1 [(0, .ref q)] := hl
  refine lv_aload_n C.1 C.2.1 dX10_init_0 rfl (lv_at hl 0 rfl) ?_
  refine y_obj C q_248 q_23 q_24 hl.1 (by decide) (by decide) dX10_init_1 ?_
  refine lv_aload_n C.1 C.2.1 dX10_init_4 rfl (lv_at hl 0 rfl) ?_
  refine lv_sipush (v := 1792) C.1 C.2.1 dX10_init_5 (by decide) ?_
  refine y_newa C hP hD hS hA 1792 (by decide) (by decide) (by decide) (Nat.le_of_ble_eq_true rfl) (Nat.le_of_ble_eq_true rfl) q_56 dX10_init_8 (fun q1 H hP hD hS => ?_)
  have hP : va_P D vwCl [(q, .inr (10, [.null, .null, .int 0, .int 0])), (q1, .inl (ca 0, 1792, .inl fun _ => 0))] H := hP
  have hD : va_D A [(q, .inr (10, [.null, .null, .int 0, .int 0])), (q1, .inl (ca 0, 1792, .inl fun _ => 0))] := hD
  refine W.widen (k := 1) (n := 1792) (by decide) (by decide) ?_
  refine y_putF C hP hD hS hin rfl (k := 0) (t1 := (.array .int)) kX10 (by decide) rfl rfl q_249 (by decide +kernel) rfl rfl (Nat.le_of_ble_eq_true rfl) dX10_init_10 (fun H locs hP hD hS => ?_)
  have hP : va_P D vwCl [(q, .inr (10, [.ref q1, .null, .int 0, .int 0])), (q1, .inl (ca 0, 1792, .inl fun _ => 0))] H := hP
  have hD : va_D A [(q, .inr (10, [.ref q1, .null, .int 0, .int 0])), (q1, .inl (ca 0, 1792, .inl fun _ => 0))] := hD
  refine lv_aload_n C.1 C.2.1 dX10_init_13 rfl (lv_at hl 0 rfl) ?_
  refine lv_bipush (v := 48) C.1 C.2.1 dX10_init_14 (by decide) ?_
  refine y_newa C hP hD hS hA 48 (by decide) (by decide) (by decide) (Nat.le_of_ble_eq_true rfl) (Nat.le_of_ble_eq_true rfl) q_56 dX10_init_16 (fun q2 H hP hD hS => ?_)
  have hP : va_P D vwCl [(q, .inr (10, [.ref q1, .null, .int 0, .int 0])), (q1, .inl (ca 0, 1792, .inl fun _ => 0)), (q2, .inl (ca 0, 48, .inl fun _ => 0))] H := hP
  have hD : va_D A [(q, .inr (10, [.ref q1, .null, .int 0, .int 0])), (q1, .inl (ca 0, 1792, .inl fun _ => 0)), (q2, .inl (ca 0, 48, .inl fun _ => 0))] := hD
  refine W.widen (k := 2) (n := 1840) (by decide) (by decide) ?_
  refine y_putF C hP hD hS hin rfl (k := 1) (t1 := (.array .int)) kX10 (by decide) rfl rfl q_250 (by decide +kernel) rfl rfl (Nat.le_of_ble_eq_true rfl) dX10_init_18 (fun H locs hP hD hS => ?_)
  have hP : va_P D vwCl [(q, .inr (10, [.ref q1, .ref q2, .int 0, .int 0])), (q1, .inl (ca 0, 1792, .inl fun _ => 0)), (q2, .inl (ca 0, 48, .inl fun _ => 0))] H := hP
  have hD : va_D A [(q, .inr (10, [.ref q1, .ref q2, .int 0, .int 0])), (q1, .inl (ca 0, 1792, .inl fun _ => 0)), (q2, .inl (ca 0, 48, .inl fun _ => 0))] := hD
  exact y_end (kX := kkX10 ca) C (fun k => [q, q1, q2].getD k 0) rfl hP hD hS rfl rfl dX10_init_21
theorem dX8_init_0 : decode cX8_init 0 = .ok (.aload_n 0, 1) := by decide +kernel
theorem dX8_init_1 : decode cX8_init 1 = .ok (.invokespecial 3, 3) := by decide +kernel
theorem dX8_init_4 : decode cX8_init 4 = .ok (.aload_n 0, 1) := by decide +kernel
theorem dX8_init_5 : decode cX8_init 5 = .ok (.bipush 6, 2) := by decide +kernel
theorem dX8_init_7 : decode cX8_init 7 = .ok (.newarray .int, 2) := by decide +kernel
theorem dX8_init_9 : decode cX8_init 9 = .ok (.putfield 9, 3) := by decide +kernel
theorem dX8_init_12 : decode cX8_init 12 = .ok (.aload_n 0, 1) := by decide +kernel
theorem dX8_init_13 : decode cX8_init 13 = .ok (.sipush 241, 3) := by decide +kernel
theorem dX8_init_16 : decode cX8_init 16 = .ok (.newarray .int, 2) := by decide +kernel
theorem dX8_init_18 : decode cX8_init 18 = .ok (.putfield 15, 3) := by decide +kernel
theorem dX8_init_21 : decode cX8_init 21 = .ok (.aload_n 0, 1) := by decide +kernel
theorem dX8_init_22 : decode cX8_init 22 = .ok (.bipush 6, 2) := by decide +kernel
theorem dX8_init_24 : decode cX8_init 24 = .ok (.newarray .int, 2) := by decide +kernel
theorem dX8_init_26 : decode cX8_init 26 = .ok (.putfield 18, 3) := by decide +kernel
theorem dX8_init_29 : decode cX8_init 29 = .ok (.aload_n 0, 1) := by decide +kernel
theorem dX8_init_30 : decode cX8_init 30 = .ok (.bipush 6, 2) := by decide +kernel
theorem dX8_init_32 : decode cX8_init 32 = .ok (.newarray .int, 2) := by decide +kernel
theorem dX8_init_34 : decode cX8_init 34 = .ok (.putfield 21, 3) := by decide +kernel
theorem dX8_init_37 : decode cX8_init 37 = .ok (.return_, 1) := by decide +kernel
theorem q_180 : Cond.methodLink RX8 3 objectInit ∈ wT := wi_t 180 (by decide +kernel) (by decide +kernel)
def kkX8 (ca a : Nat → Nat) : va_W := [(a 0, .inr (8, [.ref (a 1), .int 0, .int 0, .ref (a 2), .ref (a 3), .ref (a 4), .int 0, .int 0])), (a 1, .inl (ca 0, 6, .inl fun _ => 0)), (a 2, .inl (ca 0, 241, .inl fun _ => 0)), (a 3, .inl (ca 0, 6, .inl fun _ => 0)), (a 4, .inl (ca 0, 6, .inl fun _ => 0))]
set_option maxRecDepth 100000 in
set_option maxHeartbeats 8000000 in
theorem tX8_init (l : Launch) (D : va_G) (ca : Nat → Nat) (q sz : Nat) : Met l yX8_init (WS yX8_init cX8_init 1 none) ({ frames := 1, cells := 4, slots := 259, locals := 40 } : Room) (PI D ca q 8 [.null, .int 0, .int 0, .null, .null, .null, .int 0, .int 0] [] sz) (QN D ca (kkX8 ca) q 8 [.null, .int 0, .int 0, .null, .null, .null, .int 0, .int 0] sz) 4 259 (AI q 8 [.null, .int 0, .int 0, .null, .null, .null, .int 0, .int 0] sz) := by
  refine y_start (by decide) rfl rfl (Nat.le_of_ble_eq_true rfl) (fun p e s m args below meth c ls A hA C hN hin hP hD hS hl => ?_)
  have hl : lv_has ls 1 [(0, .ref q)] := hl
  refine lv_aload_n C.1 C.2.1 dX8_init_0 rfl (lv_at hl 0 rfl) ?_
  refine y_obj C q_180 q_23 q_24 hl.1 (by decide) (by decide) dX8_init_1 ?_
  refine lv_aload_n C.1 C.2.1 dX8_init_4 rfl (lv_at hl 0 rfl) ?_
  refine lv_bipush (v := 6) C.1 C.2.1 dX8_init_5 (by decide) ?_
  refine y_newa C hP hD hS hA 6 (by decide) (by decide) (by decide) (Nat.le_of_ble_eq_true rfl) (Nat.le_of_ble_eq_true rfl) q_56 dX8_init_7 (fun q1 H hP hD hS => ?_)
  have hP : va_P D vwCl [(q, .inr (8, [.null, .int 0, .int 0, .null, .null, .null, .int 0, .int 0])), (q1, .inl (ca 0, 6, .inl fun _ => 0))] H := hP
  have hD : va_D A [(q, .inr (8, [.null, .int 0, .int 0, .null, .null, .null, .int 0, .int 0])), (q1, .inl (ca 0, 6, .inl fun _ => 0))] := hD
  refine W.widen (k := 1) (n := 6) (by decide) (by decide) ?_
  refine y_putF C hP hD hS hin rfl (k := 0) (t1 := (.array .int)) kX8 (by decide) rfl rfl q_181 (by decide +kernel) rfl rfl (Nat.le_of_ble_eq_true rfl) dX8_init_9 (fun H locs hP hD hS => ?_)
  have hP : va_P D vwCl [(q, .inr (8, [.ref q1, .int 0, .int 0, .null, .null, .null, .int 0, .int 0])), (q1, .inl (ca 0, 6, .inl fun _ => 0))] H := hP
  have hD : va_D A [(q, .inr (8, [.ref q1, .int 0, .int 0, .null, .null, .null, .int 0, .int 0])), (q1, .inl (ca 0, 6, .inl fun _ => 0))] := hD
  refine lv_aload_n C.1 C.2.1 dX8_init_12 rfl (lv_at hl 0 rfl) ?_
  refine lv_sipush (v := 241) C.1 C.2.1 dX8_init_13 (by decide) ?_
  refine y_newa C hP hD hS hA 241 (by decide) (by decide) (by decide) (Nat.le_of_ble_eq_true rfl) (Nat.le_of_ble_eq_true rfl) q_56 dX8_init_16 (fun q2 H hP hD hS => ?_)
  have hP : va_P D vwCl [(q, .inr (8, [.ref q1, .int 0, .int 0, .null, .null, .null, .int 0, .int 0])), (q1, .inl (ca 0, 6, .inl fun _ => 0)), (q2, .inl (ca 0, 241, .inl fun _ => 0))] H := hP
  have hD : va_D A [(q, .inr (8, [.ref q1, .int 0, .int 0, .null, .null, .null, .int 0, .int 0])), (q1, .inl (ca 0, 6, .inl fun _ => 0)), (q2, .inl (ca 0, 241, .inl fun _ => 0))] := hD
  refine W.widen (k := 2) (n := 247) (by decide) (by decide) ?_
  refine y_putF C hP hD hS hin rfl (k := 3) (t1 := (.array .int)) kX8 (by decide) rfl rfl q_187 (by decide +kernel) rfl rfl (Nat.le_of_ble_eq_true rfl) dX8_init_18 (fun H locs hP hD hS => ?_)
  have hP : va_P D vwCl [(q, .inr (8, [.ref q1, .int 0, .int 0, .ref q2, .null, .null, .int 0, .int 0])), (q1, .inl (ca 0, 6, .inl fun _ => 0)), (q2, .inl (ca 0, 241, .inl fun _ => 0))] H := hP
  have hD : va_D A [(q, .inr (8, [.ref q1, .int 0, .int 0, .ref q2, .null, .null, .int 0, .int 0])), (q1, .inl (ca 0, 6, .inl fun _ => 0)), (q2, .inl (ca 0, 241, .inl fun _ => 0))] := hD
  refine lv_aload_n C.1 C.2.1 dX8_init_21 rfl (lv_at hl 0 rfl) ?_
  refine lv_bipush (v := 6) C.1 C.2.1 dX8_init_22 (by decide) ?_
  refine y_newa C hP hD hS hA 6 (by decide) (by decide) (by decide) (Nat.le_of_ble_eq_true rfl) (Nat.le_of_ble_eq_true rfl) q_56 dX8_init_24 (fun q3 H hP hD hS => ?_)
  have hP : va_P D vwCl [(q, .inr (8, [.ref q1, .int 0, .int 0, .ref q2, .null, .null, .int 0, .int 0])), (q1, .inl (ca 0, 6, .inl fun _ => 0)), (q2, .inl (ca 0, 241, .inl fun _ => 0)), (q3, .inl (ca 0, 6, .inl fun _ => 0))] H := hP
  have hD : va_D A [(q, .inr (8, [.ref q1, .int 0, .int 0, .ref q2, .null, .null, .int 0, .int 0])), (q1, .inl (ca 0, 6, .inl fun _ => 0)), (q2, .inl (ca 0, 241, .inl fun _ => 0)), (q3, .inl (ca 0, 6, .inl fun _ => 0))] := hD
  refine W.widen (k := 3) (n := 253) (by decide) (by decide) ?_
  refine y_putF C hP hD hS hin rfl (k := 4) (t1 := (.array .int)) kX8 (by decide) rfl rfl q_188 (by decide +kernel) rfl rfl (Nat.le_of_ble_eq_true rfl) dX8_init_26 (fun H locs hP hD hS => ?_)
  have hP : va_P D vwCl [(q, .inr (8, [.ref q1, .int 0, .int 0, .ref q2, .ref q3, .null, .int 0, .int 0])), (q1, .inl (ca 0, 6, .inl fun _ => 0)), (q2, .inl (ca 0, 241, .inl fun _ => 0)), (q3, .inl (ca 0, 6, .inl fun _ => 0))] H := hP
  have hD : va_D A [(q, .inr (8, [.ref q1, .int 0, .int 0, .ref q2, .ref q3, .null, .int 0, .int 0])), (q1, .inl (ca 0, 6, .inl fun _ => 0)), (q2, .inl (ca 0, 241, .inl fun _ => 0)), (q3, .inl (ca 0, 6, .inl fun _ => 0))] := hD
  refine lv_aload_n C.1 C.2.1 dX8_init_29 rfl (lv_at hl 0 rfl) ?_
  refine lv_bipush (v := 6) C.1 C.2.1 dX8_init_30 (by decide) ?_
  refine y_newa C hP hD hS hA 6 (by decide) (by decide) (by decide) (Nat.le_of_ble_eq_true rfl) (Nat.le_of_ble_eq_true rfl) q_56 dX8_init_32 (fun q4 H hP hD hS => ?_)
  have hP : va_P D vwCl [(q, .inr (8, [.ref q1, .int 0, .int 0, .ref q2, .ref q3, .null, .int 0, .int 0])), (q1, .inl (ca 0, 6, .inl fun _ => 0)), (q2, .inl (ca 0, 241, .inl fun _ => 0)), (q3, .inl (ca 0, 6, .inl fun _ => 0)), (q4, .inl (ca 0, 6, .inl fun _ => 0))] H := hP
  have hD : va_D A [(q, .inr (8, [.ref q1, .int 0, .int 0, .ref q2, .ref q3, .null, .int 0, .int 0])), (q1, .inl (ca 0, 6, .inl fun _ => 0)), (q2, .inl (ca 0, 241, .inl fun _ => 0)), (q3, .inl (ca 0, 6, .inl fun _ => 0)), (q4, .inl (ca 0, 6, .inl fun _ => 0))] := hD
  refine W.widen (k := 4) (n := 259) (by decide) (by decide) ?_
  refine y_putF C hP hD hS hin rfl (k := 5) (t1 := (.array .int)) kX8 (by decide) rfl rfl q_189 (by decide +kernel) rfl rfl (Nat.le_of_ble_eq_true rfl) dX8_init_34 (fun H locs hP hD hS => ?_)
  have hP : va_P D vwCl [(q, .inr (8, [.ref q1, .int 0, .int 0, .ref q2, .ref q3, .ref q4, .int 0, .int 0])), (q1, .inl (ca 0, 6, .inl fun _ => 0)), (q2, .inl (ca 0, 241, .inl fun _ => 0)), (q3, .inl (ca 0, 6, .inl fun _ => 0)), (q4, .inl (ca 0, 6, .inl fun _ => 0))] H := hP
  have hD : va_D A [(q, .inr (8, [.ref q1, .int 0, .int 0, .ref q2, .ref q3, .ref q4, .int 0, .int 0])), (q1, .inl (ca 0, 6, .inl fun _ => 0)), (q2, .inl (ca 0, 241, .inl fun _ => 0)), (q3, .inl (ca 0, 6, .inl fun _ => 0)), (q4, .inl (ca 0, 6, .inl fun _ => 0))] := hD
  exact y_end (kX := kkX8 ca) C (fun k => [q, q1, q2, q3, q4].getD k 0) rfl hP hD hS rfl rfl dX8_init_37
theorem dX6_init_0 : decode cX6_init 0 = .ok (.aload_n 0, 1) := by decide +kernel
theorem dX6_init_1 : decode cX6_init 1 = .ok (.invokespecial 3, 3) := by decide +kernel
theorem dX6_init_4 : decode cX6_init 4 = .ok (.aload_n 0, 1) := by decide +kernel
theorem dX6_init_5 : decode cX6_init 5 = .ok (.iconst (-1), 1) := by decide +kernel
theorem dX6_init_6 : decode cX6_init 6 = .ok (.putfield 9, 3) := by decide +kernel
theorem dX6_init_9 : decode cX6_init 9 = .ok (.aload_n 0, 1) := by decide +kernel
theorem dX6_init_10 : decode cX6_init 10 = .ok (.iload_n 1, 1) := by decide +kernel
theorem dX6_init_11 : decode cX6_init 11 = .ok (.newarray .int, 2) := by decide +kernel
theorem dX6_init_13 : decode cX6_init 13 = .ok (.putfield 15, 3) := by decide +kernel
theorem dX6_init_16 : decode cX6_init 16 = .ok (.return_, 1) := by decide +kernel
theorem q_296 : Cond.methodLink RX6 3 objectInit ∈ wT := wi_t 296 (by decide +kernel) (by decide +kernel)
def kkX6_40 (ca a : Nat → Nat) : va_W := [(a 0, .inr (6, [.ref (a 1), .int (-1)])), (a 1, .inl (ca 0, 40, .inl fun _ => 0))]
set_option maxRecDepth 100000 in
set_option maxHeartbeats 8000000 in
theorem tX6_40_init (l : Launch) (D : va_G) (ca : Nat → Nat) (q sz : Nat) : Met l yX6_init (WS yX6_init cX6_init 2 none) ({ frames := 1, cells := 1, slots := 40, locals := 40 } : Room) (PI D ca q 6 [.null, .int 0] [.int 40] sz) (QN D ca (kkX6_40 ca) q 6 [.null, .int 0] sz) 1 40 (AI q 6 [.null, .int 0] sz) := by
  refine y_start (by decide) rfl rfl (Nat.le_of_ble_eq_true rfl) (fun p e s m args below meth c ls A hA C hN hin hP hD hS hl => ?_)
  have hl : lv_has ls 2 [(0, .ref q), (1, .int 40)] := hl
  refine lv_aload_n C.1 C.2.1 dX6_init_0 rfl (lv_at hl 0 rfl) ?_
  refine y_obj C q_296 q_23 q_24 hl.1 (by decide) (by decide) dX6_init_1 ?_
  refine lv_aload_n C.1 C.2.1 dX6_init_4 rfl (lv_at hl 0 rfl) ?_
  refine lv_iconst (v := (-1)) C.1 C.2.1 dX6_init_5 (by decide) ?_
  refine y_put C hP hD hS rfl (k := 1) (t1 := .int) kX6 (by decide) rfl rfl q_300 (by decide +kernel) rfl rfl (Nat.le_of_ble_eq_true rfl) dX6_init_6 (fun H locs hP hD hS => ?_)
  have hP : va_P D vwCl [(q, .inr (6, [.null, .int (-1)]))] H := hP
  have hD : va_D A [(q, .inr (6, [.null, .int (-1)]))] := hD
  refine lv_aload_n C.1 C.2.1 dX6_init_9 rfl (lv_at hl 0 rfl) ?_
  refine lv_iload_n C.1 C.2.1 dX6_init_10 rfl (lv_at hl 1 rfl) ?_
  refine y_newa C hP hD hS hA 40 (by decide) (by decide) (by decide) (Nat.le_of_ble_eq_true rfl) (Nat.le_of_ble_eq_true rfl) q_56 dX6_init_11 (fun q1 H hP hD hS => ?_)
  have hP : va_P D vwCl [(q, .inr (6, [.null, .int (-1)])), (q1, .inl (ca 0, 40, .inl fun _ => 0))] H := hP
  have hD : va_D A [(q, .inr (6, [.null, .int (-1)])), (q1, .inl (ca 0, 40, .inl fun _ => 0))] := hD
  refine W.widen (k := 1) (n := 40) (by decide) (by decide) ?_
  refine y_putF C hP hD hS hin rfl (k := 0) (t1 := (.array .int)) kX6 (by decide) rfl rfl q_297 (by decide +kernel) rfl rfl (Nat.le_of_ble_eq_true rfl) dX6_init_13 (fun H locs hP hD hS => ?_)
  have hP : va_P D vwCl [(q, .inr (6, [.ref q1, .int (-1)])), (q1, .inl (ca 0, 40, .inl fun _ => 0))] H := hP
  have hD : va_D A [(q, .inr (6, [.ref q1, .int (-1)])), (q1, .inl (ca 0, 40, .inl fun _ => 0))] := hD
  exact y_end (kX := kkX6_40 ca) C (fun k => [q, q1].getD k 0) rfl hP hD hS rfl rfl dX6_init_16
def kkX6_80 (ca a : Nat → Nat) : va_W := [(a 0, .inr (6, [.ref (a 1), .int (-1)])), (a 1, .inl (ca 0, 80, .inl fun _ => 0))]
set_option maxRecDepth 100000 in
set_option maxHeartbeats 8000000 in
theorem tX6_80_init (l : Launch) (D : va_G) (ca : Nat → Nat) (q sz : Nat) : Met l yX6_init (WS yX6_init cX6_init 2 none) ({ frames := 1, cells := 1, slots := 80, locals := 40 } : Room) (PI D ca q 6 [.null, .int 0] [.int 80] sz) (QN D ca (kkX6_80 ca) q 6 [.null, .int 0] sz) 1 80 (AI q 6 [.null, .int 0] sz) := by
  refine y_start (by decide) rfl rfl (Nat.le_of_ble_eq_true rfl) (fun p e s m args below meth c ls A hA C hN hin hP hD hS hl => ?_)
  have hl : lv_has ls 2 [(0, .ref q), (1, .int 80)] := hl
  refine lv_aload_n C.1 C.2.1 dX6_init_0 rfl (lv_at hl 0 rfl) ?_
  refine y_obj C q_296 q_23 q_24 hl.1 (by decide) (by decide) dX6_init_1 ?_
  refine lv_aload_n C.1 C.2.1 dX6_init_4 rfl (lv_at hl 0 rfl) ?_
  refine lv_iconst (v := (-1)) C.1 C.2.1 dX6_init_5 (by decide) ?_
  refine y_put C hP hD hS rfl (k := 1) (t1 := .int) kX6 (by decide) rfl rfl q_300 (by decide +kernel) rfl rfl (Nat.le_of_ble_eq_true rfl) dX6_init_6 (fun H locs hP hD hS => ?_)
  have hP : va_P D vwCl [(q, .inr (6, [.null, .int (-1)]))] H := hP
  have hD : va_D A [(q, .inr (6, [.null, .int (-1)]))] := hD
  refine lv_aload_n C.1 C.2.1 dX6_init_9 rfl (lv_at hl 0 rfl) ?_
  refine lv_iload_n C.1 C.2.1 dX6_init_10 rfl (lv_at hl 1 rfl) ?_
  refine y_newa C hP hD hS hA 80 (by decide) (by decide) (by decide) (Nat.le_of_ble_eq_true rfl) (Nat.le_of_ble_eq_true rfl) q_56 dX6_init_11 (fun q1 H hP hD hS => ?_)
  have hP : va_P D vwCl [(q, .inr (6, [.null, .int (-1)])), (q1, .inl (ca 0, 80, .inl fun _ => 0))] H := hP
  have hD : va_D A [(q, .inr (6, [.null, .int (-1)])), (q1, .inl (ca 0, 80, .inl fun _ => 0))] := hD
  refine W.widen (k := 1) (n := 80) (by decide) (by decide) ?_
  refine y_putF C hP hD hS hin rfl (k := 0) (t1 := (.array .int)) kX6 (by decide) rfl rfl q_297 (by decide +kernel) rfl rfl (Nat.le_of_ble_eq_true rfl) dX6_init_13 (fun H locs hP hD hS => ?_)
  have hP : va_P D vwCl [(q, .inr (6, [.ref q1, .int (-1)])), (q1, .inl (ca 0, 80, .inl fun _ => 0))] H := hP
  have hD : va_D A [(q, .inr (6, [.ref q1, .int (-1)])), (q1, .inl (ca 0, 80, .inl fun _ => 0))] := hD
  exact y_end (kX := kkX6_80 ca) C (fun k => [q, q1].getD k 0) rfl hP hD hS rfl rfl dX6_init_16
theorem dX4_init_0 : decode cX4_init 0 = .ok (.aload_n 0, 1) := by decide +kernel
theorem dX4_init_1 : decode cX4_init 1 = .ok (.invokespecial 3, 3) := by decide +kernel
theorem dX4_init_4 : decode cX4_init 4 = .ok (.aload_n 0, 1) := by decide +kernel
theorem dX4_init_5 : decode cX4_init 5 = .ok (.new 9, 3) := by decide +kernel
theorem dX4_init_8 : decode cX4_init 8 = .ok (.dup, 1) := by decide +kernel
theorem dX4_init_9 : decode cX4_init 9 = .ok (.invokespecial 11, 3) := by decide +kernel
theorem dX4_init_12 : decode cX4_init 12 = .ok (.putfield 12, 3) := by decide +kernel
theorem dX4_init_15 : decode cX4_init 15 = .ok (.aload_n 0, 1) := by decide +kernel
theorem dX4_init_16 : decode cX4_init 16 = .ok (.new 9, 3) := by decide +kernel
theorem dX4_init_19 : decode cX4_init 19 = .ok (.dup, 1) := by decide +kernel
theorem dX4_init_20 : decode cX4_init 20 = .ok (.invokespecial 11, 3) := by decide +kernel
theorem dX4_init_23 : decode cX4_init 23 = .ok (.putfield 18, 3) := by decide +kernel
theorem dX4_init_26 : decode cX4_init 26 = .ok (.aload_n 0, 1) := by decide +kernel
theorem dX4_init_27 : decode cX4_init 27 = .ok (.bipush 109, 2) := by decide +kernel
theorem dX4_init_29 : decode cX4_init 29 = .ok (.newarray .int, 2) := by decide +kernel
theorem dX4_init_31 : decode cX4_init 31 = .ok (.putfield 21, 3) := by decide +kernel
theorem dX4_init_34 : decode cX4_init 34 = .ok (.return_, 1) := by decide +kernel
theorem q_230 : Cond.methodLink RX4 3 objectInit ∈ wT := wi_t 230 (by decide +kernel) (by decide +kernel)
theorem q_231 : Cond.classLink RX4 9 RX7 ∈ wT := wi_t 231 (by decide +kernel) (by decide +kernel)
theorem q_133 : Cond.instantiable RX7 5 ∈ wT := wi_t 133 (by decide +kernel) (by decide +kernel)
theorem q_136 : Cond.code yX7_init cX7_init 1 none ∈ wT := wi_t 136 (by decide +kernel) (by decide +kernel)
theorem q_135 : Cond.instanceMethod yX7_init ∈ wT := wi_t 135 (by decide +kernel) (by decide +kernel)
theorem kiX7_init : KI yX7_init RX7 cX7_init 1 0 := ⟨rfl, rfl, q_135, q_5, q_136, by decide +kernel, by decide +kernel, by decide +kernel⟩
def kkX4 (ca a : Nat → Nat) : va_W := ((([(a 0, .inr (4, [.ref (a 1), .ref (a 5), .ref (a 9)]))] ++ kkX7 ca (fun j => a (1 + j))) ++ kkX7 ca (fun j => a (5 + j))) ++ [(a 9, .inl (ca 0, 109, .inl fun _ => 0))])
set_option maxRecDepth 100000 in
set_option maxHeartbeats 8000000 in
theorem tX4_init (l : Launch) (D : va_G) (ca : Nat → Nat) (q sz : Nat) : Met l yX4_init (WS yX4_init cX4_init 1 none) ({ frames := 2, cells := 9, slots := 157, locals := 68 } : Room) (PI D ca q 4 [.null, .null, .null] [] sz) (QN D ca (kkX4 ca) q 4 [.null, .null, .null] sz) 9 157 (AI q 4 [.null, .null, .null] sz) := by
  refine y_start (by decide) rfl rfl (Nat.le_of_ble_eq_true rfl) (fun p e s m args below meth c ls A hA C hN hin hP hD hS hl => ?_)
  have hl : lv_has ls 1 [(0, .ref q)] := hl
  refine lv_aload_n C.1 C.2.1 dX4_init_0 rfl (lv_at hl 0 rfl) ?_
  refine y_obj C q_230 q_23 q_24 hl.1 (by decide) (by decide) dX4_init_1 ?_
  refine lv_aload_n C.1 C.2.1 dX4_init_4 rfl (lv_at hl 0 rfl) ?_
  refine y_newo C hP hD hS hA [.null, .null, .null, .int 0, .int 0] kX7 (fun j hj => by (rcases (by omega : j = 0 ∨ j = 1 ∨ j = 2 ∨ j = 3 ∨ j = 4) with rfl | rfl | rfl | rfl | rfl <;> rfl)) q_231 q_133 q_5 (Nat.le_of_ble_eq_true rfl) (Nat.le_of_ble_eq_true rfl) dX4_init_5 (fun q1 H hP hD hS => ?_)
  have hP : va_P D vwCl ([(q, .inr (4, [.null, .null, .null]))] ++ [(q1, .inr (7, [.null, .null, .null, .int 0, .int 0]))]) H := hP
  have hD : va_D A ([(q, .inr (4, [.null, .null, .null]))] ++ [(q1, .inr (7, [.null, .null, .null, .int 0, .int 0]))]) := hD
  refine W.widen (k := 1) (n := 5) (by decide) (by decide) ?_
  refine lv_dup C.1 C.2.1 dX4_init_8 rfl ?_
  refine y_call (kX := kkX7 ca) hP hD hS hA (y_runIN (host := "HeavyFiles") C hN hP [] [.ref q1, .ref q] RX7 kiX7_init (by decide +kernel) (tX7_init l D ca q1 H.size) rfl rfl ⟨by decide, by decide⟩ rfl hl.1 rfl (Nat.le_of_ble_eq_true rfl) dX4_init_9 ⟨Nat.le_of_ble_eq_true rfl, Nat.le_of_ble_eq_true rfl⟩) (fun b2 H locs eb2 hP hD hS => ?_)
  rw [← eb2]
  have hP : va_P D vwCl ([(q, .inr (4, [.null, .null, .null]))] ++ kkX7 ca b2) H := hP
  have hD : va_D A ([(q, .inr (4, [.null, .null, .null]))] ++ kkX7 ca b2) := hD
  refine W.widen (k := 4) (n := 24) (by decide) (by decide) ?_
  refine y_putF C hP hD hS hin rfl (k := 0) (t1 := (.object "HeavyFiles$Scale")) kX4 (by decide) rfl rfl q_233 (by decide +kernel) rfl rfl (Nat.le_of_ble_eq_true rfl) dX4_init_12 (fun H locs hP hD hS => ?_)
  have hP : va_P D vwCl ([(q, .inr (4, [.ref (b2 0), .null, .null]))] ++ kkX7 ca b2) H := hP
  have hD : va_D A ([(q, .inr (4, [.ref (b2 0), .null, .null]))] ++ kkX7 ca b2) := hD
  refine lv_aload_n C.1 C.2.1 dX4_init_15 rfl (lv_at hl 0 rfl) ?_
  refine y_newo C hP hD hS hA [.null, .null, .null, .int 0, .int 0] kX7 (fun j hj => by (rcases (by omega : j = 0 ∨ j = 1 ∨ j = 2 ∨ j = 3 ∨ j = 4) with rfl | rfl | rfl | rfl | rfl <;> rfl)) q_231 q_133 q_5 (Nat.le_of_ble_eq_true rfl) (Nat.le_of_ble_eq_true rfl) dX4_init_16 (fun q3 H hP hD hS => ?_)
  have hP : va_P D vwCl (([(q, .inr (4, [.ref (b2 0), .null, .null]))] ++ kkX7 ca b2) ++ [(q3, .inr (7, [.null, .null, .null, .int 0, .int 0]))]) H := hP
  have hD : va_D A (([(q, .inr (4, [.ref (b2 0), .null, .null]))] ++ kkX7 ca b2) ++ [(q3, .inr (7, [.null, .null, .null, .int 0, .int 0]))]) := hD
  refine W.widen (k := 5) (n := 29) (by decide) (by decide) ?_
  refine lv_dup C.1 C.2.1 dX4_init_19 rfl ?_
  refine y_call (kX := kkX7 ca) hP hD hS hA (y_runIN (host := "HeavyFiles") C hN hP [] [.ref q3, .ref q] RX7 kiX7_init (by decide +kernel) (tX7_init l D ca q3 H.size) rfl rfl ⟨by decide, by decide⟩ rfl hl.1 rfl (Nat.le_of_ble_eq_true rfl) dX4_init_20 ⟨Nat.le_of_ble_eq_true rfl, Nat.le_of_ble_eq_true rfl⟩) (fun b4 H locs eb4 hP hD hS => ?_)
  rw [← eb4]
  have hP : va_P D vwCl (([(q, .inr (4, [.ref (b2 0), .null, .null]))] ++ kkX7 ca b2) ++ kkX7 ca b4) H := hP
  have hD : va_D A (([(q, .inr (4, [.ref (b2 0), .null, .null]))] ++ kkX7 ca b2) ++ kkX7 ca b4) := hD
  refine W.widen (k := 8) (n := 48) (by decide) (by decide) ?_
  refine y_putF C hP hD hS hin rfl (k := 1) (t1 := (.object "HeavyFiles$Scale")) kX4 (by decide) rfl rfl q_234 (by decide +kernel) rfl rfl (Nat.le_of_ble_eq_true rfl) dX4_init_23 (fun H locs hP hD hS => ?_)
  have hP : va_P D vwCl (([(q, .inr (4, [.ref (b2 0), .ref (b4 0), .null]))] ++ kkX7 ca b2) ++ kkX7 ca b4) H := hP
  have hD : va_D A (([(q, .inr (4, [.ref (b2 0), .ref (b4 0), .null]))] ++ kkX7 ca b2) ++ kkX7 ca b4) := hD
  refine lv_aload_n C.1 C.2.1 dX4_init_26 rfl (lv_at hl 0 rfl) ?_
  refine lv_bipush (v := 109) C.1 C.2.1 dX4_init_27 (by decide) ?_
  refine y_newa C hP hD hS hA 109 (by decide) (by decide) (by decide) (Nat.le_of_ble_eq_true rfl) (Nat.le_of_ble_eq_true rfl) q_56 dX4_init_29 (fun q5 H hP hD hS => ?_)
  have hP : va_P D vwCl ((([(q, .inr (4, [.ref (b2 0), .ref (b4 0), .null]))] ++ kkX7 ca b2) ++ kkX7 ca b4) ++ [(q5, .inl (ca 0, 109, .inl fun _ => 0))]) H := hP
  have hD : va_D A ((([(q, .inr (4, [.ref (b2 0), .ref (b4 0), .null]))] ++ kkX7 ca b2) ++ kkX7 ca b4) ++ [(q5, .inl (ca 0, 109, .inl fun _ => 0))]) := hD
  refine W.widen (k := 9) (n := 157) (by decide) (by decide) ?_
  refine y_putF C hP hD hS hin rfl (k := 2) (t1 := (.array .int)) kX4 (by decide) rfl rfl q_235 (by decide +kernel) rfl rfl (Nat.le_of_ble_eq_true rfl) dX4_init_31 (fun H locs hP hD hS => ?_)
  have hP : va_P D vwCl ((([(q, .inr (4, [.ref (b2 0), .ref (b4 0), .ref q5]))] ++ kkX7 ca b2) ++ kkX7 ca b4) ++ [(q5, .inl (ca 0, 109, .inl fun _ => 0))]) H := hP
  have hD : va_D A ((([(q, .inr (4, [.ref (b2 0), .ref (b4 0), .ref q5]))] ++ kkX7 ca b2) ++ kkX7 ca b4) ++ [(q5, .inl (ca 0, 109, .inl fun _ => 0))]) := hD
  exact y_end (kX := kkX4 ca) C (fun k => [q, b2 0, b2 1, b2 2, b2 3, b4 0, b4 1, b4 2, b4 3, q5].getD k 0) rfl hP hD hS rfl rfl dX4_init_34
theorem dX2_init_0 : decode cX2_init 0 = .ok (.aload_n 0, 1) := by decide +kernel
theorem dX2_init_1 : decode cX2_init 1 = .ok (.invokespecial 3, 3) := by decide +kernel
theorem dX2_init_4 : decode cX2_init 4 = .ok (.aload_n 0, 1) := by decide +kernel
theorem dX2_init_5 : decode cX2_init 5 = .ok (.bipush 6, 2) := by decide +kernel
theorem dX2_init_7 : decode cX2_init 7 = .ok (.newarray .int, 2) := by decide +kernel
theorem dX2_init_9 : decode cX2_init 9 = .ok (.putfield 9, 3) := by decide +kernel
theorem dX2_init_12 : decode cX2_init 12 = .ok (.aload_n 0, 1) := by decide +kernel
theorem dX2_init_13 : decode cX2_init 13 = .ok (.new 15, 3) := by decide +kernel
theorem dX2_init_16 : decode cX2_init 16 = .ok (.dup, 1) := by decide +kernel
theorem dX2_init_17 : decode cX2_init 17 = .ok (.invokespecial 17, 3) := by decide +kernel
theorem dX2_init_20 : decode cX2_init 20 = .ok (.putfield 18, 3) := by decide +kernel
theorem dX2_init_23 : decode cX2_init 23 = .ok (.aload_n 0, 1) := by decide +kernel
theorem dX2_init_24 : decode cX2_init 24 = .ok (.bipush 6, 2) := by decide +kernel
theorem dX2_init_26 : decode cX2_init 26 = .ok (.bipush 6, 2) := by decide +kernel
theorem dX2_init_28 : decode cX2_init 28 = .ok (.multianewarray 22 2, 4) := by decide +kernel
theorem dX2_init_32 : decode cX2_init 32 = .ok (.putfield 24, 3) := by decide +kernel
theorem dX2_init_35 : decode cX2_init 35 = .ok (.aload_n 0, 1) := by decide +kernel
theorem dX2_init_36 : decode cX2_init 36 = .ok (.bipush 6, 2) := by decide +kernel
theorem dX2_init_38 : decode cX2_init 38 = .ok (.anewarray 15, 3) := by decide +kernel
theorem dX2_init_41 : decode cX2_init 41 = .ok (.putfield 27, 3) := by decide +kernel
theorem dX2_init_44 : decode cX2_init 44 = .ok (.aload_n 0, 1) := by decide +kernel
theorem dX2_init_45 : decode cX2_init 45 = .ok (.bipush 6, 2) := by decide +kernel
theorem dX2_init_47 : decode cX2_init 47 = .ok (.newarray .int, 2) := by decide +kernel
theorem dX2_init_49 : decode cX2_init 49 = .ok (.putfield 31, 3) := by decide +kernel
theorem dX2_init_52 : decode cX2_init 52 = .ok (.iconst 0, 1) := by decide +kernel
theorem dX2_init_53 : decode cX2_init 53 = .ok (.istore_n 1, 1) := by decide +kernel
theorem dX2_init_54 : decode cX2_init 54 = .ok (.iload_n 1, 1) := by decide +kernel
theorem dX2_init_55 : decode cX2_init 55 = .ok (.bipush 6, 2) := by decide +kernel
theorem dX2_init_57 : decode cX2_init 57 = .ok (.if_icmp .ge 22, 3) := by decide +kernel
theorem dX2_init_60 : decode cX2_init 60 = .ok (.aload_n 0, 1) := by decide +kernel
theorem dX2_init_61 : decode cX2_init 61 = .ok (.getfield 27, 3) := by decide +kernel
theorem dX2_init_64 : decode cX2_init 64 = .ok (.iload_n 1, 1) := by decide +kernel
theorem dX2_init_65 : decode cX2_init 65 = .ok (.new 15, 3) := by decide +kernel
theorem dX2_init_68 : decode cX2_init 68 = .ok (.dup, 1) := by decide +kernel
theorem dX2_init_69 : decode cX2_init 69 = .ok (.invokespecial 17, 3) := by decide +kernel
theorem dX2_init_72 : decode cX2_init 72 = .ok (.aastore, 1) := by decide +kernel
theorem dX2_init_73 : decode cX2_init 73 = .ok (.iinc 1 1, 3) := by decide +kernel
theorem dX2_init_76 : decode cX2_init 76 = .ok (.goto (-22), 3) := by decide +kernel
theorem dX2_init_79 : decode cX2_init 79 = .ok (.return_, 1) := by decide +kernel
theorem q_267 : Cond.methodLink RX2 3 objectInit ∈ wT := wi_t 267 (by decide +kernel) (by decide +kernel)
theorem q_268 : Cond.classLink RX2 15 RX7 ∈ wT := wi_t 268 (by decide +kernel) (by decide +kernel)
theorem q_270 : Cond.classLink RX2 22 "[[I" ∈ wT := wi_t 270 (by decide +kernel) (by decide +kernel)
def kkX2 (ca a : Nat → Nat) : va_W := (((((((([(a 0, .inr (2, [.ref (a 1), .ref (a 2), .ref (a 6), .ref (a 13), .ref (a 14), .int 0])), (a 1, .inl (ca 0, 6, .inl fun _ => 0))] ++ kkX7 ca (fun j => a (2 + j))) ++ [(a 6, .inl (ca 4, 6, refs (fun j => some ([a 7, a 8, a 9, a 10, a 11, a 12].getD j 0)))), (a 7, .inl (ca 0, 6, .inl fun _ => 0)), (a 8, .inl (ca 0, 6, .inl fun _ => 0)), (a 9, .inl (ca 0, 6, .inl fun _ => 0)), (a 10, .inl (ca 0, 6, .inl fun _ => 0)), (a 11, .inl (ca 0, 6, .inl fun _ => 0)), (a 12, .inl (ca 0, 6, .inl fun _ => 0)), (a 13, .inl (ca 5, 6, refs (fun j => some ([a 15, a 19, a 23, a 27, a 31, a 35].getD j 0)))), (a 14, .inl (ca 0, 6, .inl fun _ => 0))]) ++ kkX7 ca (fun j => a (15 + j))) ++ kkX7 ca (fun j => a (19 + j))) ++ kkX7 ca (fun j => a (23 + j))) ++ kkX7 ca (fun j => a (27 + j))) ++ kkX7 ca (fun j => a (31 + j))) ++ kkX7 ca (fun j => a (35 + j)))
set_option maxRecDepth 100000 in
set_option maxHeartbeats 8000000 in
theorem tX2_init (l : Launch) (D : va_G) (ca : Nat → Nat) (q sz : Nat) : Met l yX2_init (WS yX2_init cX2_init 2 none) ({ frames := 2, cells := 38, slots := 228, locals := 68 } : Room) (PI D ca q 2 [.null, .null, .null, .null, .null, .int 0] [] sz) (QN D ca (kkX2 ca) q 2 [.null, .null, .null, .null, .null, .int 0] sz) 38 228 (AI q 2 [.null, .null, .null, .null, .null, .int 0] sz) := by
  refine y_start (by decide) rfl rfl (Nat.le_of_ble_eq_true rfl) (fun p e s m args below meth c ls A hA C hN hin hP hD hS hl => ?_)
  have hl : lv_has ls 2 [(0, .ref q)] := hl
  refine lv_aload_n C.1 C.2.1 dX2_init_0 rfl (lv_at hl 0 rfl) ?_
  refine y_obj C q_267 q_23 q_24 hl.1 (by decide) (by decide) dX2_init_1 ?_
  refine lv_aload_n C.1 C.2.1 dX2_init_4 rfl (lv_at hl 0 rfl) ?_
  refine lv_bipush (v := 6) C.1 C.2.1 dX2_init_5 (by decide) ?_
  refine y_newa C hP hD hS hA 6 (by decide) (by decide) (by decide) (Nat.le_of_ble_eq_true rfl) (Nat.le_of_ble_eq_true rfl) q_56 dX2_init_7 (fun q1 H hP hD hS => ?_)
  have hP : va_P D vwCl [(q, .inr (2, [.null, .null, .null, .null, .null, .int 0])), (q1, .inl (ca 0, 6, .inl fun _ => 0))] H := hP
  have hD : va_D A [(q, .inr (2, [.null, .null, .null, .null, .null, .int 0])), (q1, .inl (ca 0, 6, .inl fun _ => 0))] := hD
  refine W.widen (k := 1) (n := 6) (by decide) (by decide) ?_
  refine y_putF C hP hD hS hin rfl (k := 0) (t1 := (.array .int)) kX2 (by decide) rfl rfl q_272 (by decide +kernel) rfl rfl (Nat.le_of_ble_eq_true rfl) dX2_init_9 (fun H locs hP hD hS => ?_)
  have hP : va_P D vwCl [(q, .inr (2, [.ref q1, .null, .null, .null, .null, .int 0])), (q1, .inl (ca 0, 6, .inl fun _ => 0))] H := hP
  have hD : va_D A [(q, .inr (2, [.ref q1, .null, .null, .null, .null, .int 0])), (q1, .inl (ca 0, 6, .inl fun _ => 0))] := hD
  refine lv_aload_n C.1 C.2.1 dX2_init_12 rfl (lv_at hl 0 rfl) ?_
  refine y_newo C hP hD hS hA [.null, .null, .null, .int 0, .int 0] kX7 (fun j hj => by (rcases (by omega : j = 0 ∨ j = 1 ∨ j = 2 ∨ j = 3 ∨ j = 4) with rfl | rfl | rfl | rfl | rfl <;> rfl)) q_268 q_133 q_5 (Nat.le_of_ble_eq_true rfl) (Nat.le_of_ble_eq_true rfl) dX2_init_13 (fun q2 H hP hD hS => ?_)
  have hP : va_P D vwCl ([(q, .inr (2, [.ref q1, .null, .null, .null, .null, .int 0])), (q1, .inl (ca 0, 6, .inl fun _ => 0))] ++ [(q2, .inr (7, [.null, .null, .null, .int 0, .int 0]))]) H := hP
  have hD : va_D A ([(q, .inr (2, [.ref q1, .null, .null, .null, .null, .int 0])), (q1, .inl (ca 0, 6, .inl fun _ => 0))] ++ [(q2, .inr (7, [.null, .null, .null, .int 0, .int 0]))]) := hD
  refine W.widen (k := 2) (n := 11) (by decide) (by decide) ?_
  refine lv_dup C.1 C.2.1 dX2_init_16 rfl ?_
  refine y_call (kX := kkX7 ca) hP hD hS hA (y_runIN (host := "HeavyFiles") C hN hP [] [.ref q2, .ref q] RX7 kiX7_init (by decide +kernel) (tX7_init l D ca q2 H.size) rfl rfl ⟨by decide, by decide⟩ rfl hl.1 rfl (Nat.le_of_ble_eq_true rfl) dX2_init_17 ⟨Nat.le_of_ble_eq_true rfl, Nat.le_of_ble_eq_true rfl⟩) (fun b3 H locs eb3 hP hD hS => ?_)
  rw [← eb3]
  have hP : va_P D vwCl ([(q, .inr (2, [.ref q1, .null, .null, .null, .null, .int 0])), (q1, .inl (ca 0, 6, .inl fun _ => 0))] ++ kkX7 ca b3) H := hP
  have hD : va_D A ([(q, .inr (2, [.ref q1, .null, .null, .null, .null, .int 0])), (q1, .inl (ca 0, 6, .inl fun _ => 0))] ++ kkX7 ca b3) := hD
  refine W.widen (k := 5) (n := 30) (by decide) (by decide) ?_
  refine y_putF C hP hD hS hin rfl (k := 1) (t1 := (.object "HeavyFiles$Scale")) kX2 (by decide) rfl rfl q_274 (by decide +kernel) rfl rfl (Nat.le_of_ble_eq_true rfl) dX2_init_20 (fun H locs hP hD hS => ?_)
  have hP : va_P D vwCl ([(q, .inr (2, [.ref q1, .ref (b3 0), .null, .null, .null, .int 0])), (q1, .inl (ca 0, 6, .inl fun _ => 0))] ++ kkX7 ca b3) H := hP
  have hD : va_D A ([(q, .inr (2, [.ref q1, .ref (b3 0), .null, .null, .null, .int 0])), (q1, .inl (ca 0, 6, .inl fun _ => 0))] ++ kkX7 ca b3) := hD
  refine lv_aload_n C.1 C.2.1 dX2_init_23 rfl (lv_at hl 0 rfl) ?_
  refine lv_bipush (v := 6) C.1 C.2.1 dX2_init_24 (by decide) ?_
  refine lv_bipush (v := 6) C.1 C.2.1 dX2_init_26 (by decide) ?_
  refine y_mna C hP hD hS hA hN.2.2.2.2.2 6 6 (by decide) (by decide) (by decide) (by decide) (by decide) (by decide) (Nat.le_of_ble_eq_true rfl) (Nat.le_of_ble_eq_true rfl) q_270 q_56 dX2_init_28 (fun q4 r5 H hP hD hS => ?_)
  have hP : va_P D vwCl (([(q, .inr (2, [.ref q1, .ref (b3 0), .null, .null, .null, .int 0])), (q1, .inl (ca 0, 6, .inl fun _ => 0))] ++ kkX7 ca b3) ++ [(q4, .inl (ca 4, 6, refs (fun i => if i < 6 then some (r5 i) else none))), (r5 0, .inl (ca 0, 6, .inl fun _ => 0)), (r5 1, .inl (ca 0, 6, .inl fun _ => 0)), (r5 2, .inl (ca 0, 6, .inl fun _ => 0)), (r5 3, .inl (ca 0, 6, .inl fun _ => 0)), (r5 4, .inl (ca 0, 6, .inl fun _ => 0)), (r5 5, .inl (ca 0, 6, .inl fun _ => 0))]) H := hP
  have hD : va_D A (([(q, .inr (2, [.ref q1, .ref (b3 0), .null, .null, .null, .int 0])), (q1, .inl (ca 0, 6, .inl fun _ => 0))] ++ kkX7 ca b3) ++ [(q4, .inl (ca 4, 6, refs (fun i => if i < 6 then some (r5 i) else none))), (r5 0, .inl (ca 0, 6, .inl fun _ => 0)), (r5 1, .inl (ca 0, 6, .inl fun _ => 0)), (r5 2, .inl (ca 0, 6, .inl fun _ => 0)), (r5 3, .inl (ca 0, 6, .inl fun _ => 0)), (r5 4, .inl (ca 0, 6, .inl fun _ => 0)), (r5 5, .inl (ca 0, 6, .inl fun _ => 0))]) := hD
  refine W.widen (k := 12) (n := 72) (by decide) (by decide) ?_
  refine y_putF C hP hD hS hin rfl (k := 2) (t1 := (.array (.array .int))) kX2 (by decide) rfl rfl q_275 (by decide +kernel) rfl rfl (Nat.le_of_ble_eq_true rfl) dX2_init_32 (fun H locs hP hD hS => ?_)
  have hP : va_P D vwCl (([(q, .inr (2, [.ref q1, .ref (b3 0), .ref q4, .null, .null, .int 0])), (q1, .inl (ca 0, 6, .inl fun _ => 0))] ++ kkX7 ca b3) ++ [(q4, .inl (ca 4, 6, refs (fun i => if i < 6 then some (r5 i) else none))), (r5 0, .inl (ca 0, 6, .inl fun _ => 0)), (r5 1, .inl (ca 0, 6, .inl fun _ => 0)), (r5 2, .inl (ca 0, 6, .inl fun _ => 0)), (r5 3, .inl (ca 0, 6, .inl fun _ => 0)), (r5 4, .inl (ca 0, 6, .inl fun _ => 0)), (r5 5, .inl (ca 0, 6, .inl fun _ => 0))]) H := hP
  have hD : va_D A (([(q, .inr (2, [.ref q1, .ref (b3 0), .ref q4, .null, .null, .int 0])), (q1, .inl (ca 0, 6, .inl fun _ => 0))] ++ kkX7 ca b3) ++ [(q4, .inl (ca 4, 6, refs (fun i => if i < 6 then some (r5 i) else none))), (r5 0, .inl (ca 0, 6, .inl fun _ => 0)), (r5 1, .inl (ca 0, 6, .inl fun _ => 0)), (r5 2, .inl (ca 0, 6, .inl fun _ => 0)), (r5 3, .inl (ca 0, 6, .inl fun _ => 0)), (r5 4, .inl (ca 0, 6, .inl fun _ => 0)), (r5 5, .inl (ca 0, 6, .inl fun _ => 0))]) := hD
  refine lv_aload_n C.1 C.2.1 dX2_init_35 rfl (lv_at hl 0 rfl) ?_
  refine lv_bipush (v := 6) C.1 C.2.1 dX2_init_36 (by decide) ?_
  refine y_newq C hP hD hS hA 5 rfl hN.2.2.2.2.1 6 (by decide) (by decide) (by decide) (Nat.le_of_ble_eq_true rfl) (Nat.le_of_ble_eq_true rfl) q_268 dX2_init_38 (fun q6 H hP hD hS => ?_)
  have hP : va_P D vwCl (([(q, .inr (2, [.ref q1, .ref (b3 0), .ref q4, .null, .null, .int 0])), (q1, .inl (ca 0, 6, .inl fun _ => 0))] ++ kkX7 ca b3) ++ [(q4, .inl (ca 4, 6, refs (fun i => if i < 6 then some (r5 i) else none))), (r5 0, .inl (ca 0, 6, .inl fun _ => 0)), (r5 1, .inl (ca 0, 6, .inl fun _ => 0)), (r5 2, .inl (ca 0, 6, .inl fun _ => 0)), (r5 3, .inl (ca 0, 6, .inl fun _ => 0)), (r5 4, .inl (ca 0, 6, .inl fun _ => 0)), (r5 5, .inl (ca 0, 6, .inl fun _ => 0)), (q6, .inl (ca 5, 6, refs fun _ => none))]) H := hP
  have hD : va_D A (([(q, .inr (2, [.ref q1, .ref (b3 0), .ref q4, .null, .null, .int 0])), (q1, .inl (ca 0, 6, .inl fun _ => 0))] ++ kkX7 ca b3) ++ [(q4, .inl (ca 4, 6, refs (fun i => if i < 6 then some (r5 i) else none))), (r5 0, .inl (ca 0, 6, .inl fun _ => 0)), (r5 1, .inl (ca 0, 6, .inl fun _ => 0)), (r5 2, .inl (ca 0, 6, .inl fun _ => 0)), (r5 3, .inl (ca 0, 6, .inl fun _ => 0)), (r5 4, .inl (ca 0, 6, .inl fun _ => 0)), (r5 5, .inl (ca 0, 6, .inl fun _ => 0)), (q6, .inl (ca 5, 6, refs fun _ => none))]) := hD
  refine W.widen (k := 13) (n := 78) (by decide) (by decide) ?_
  refine y_putF C hP hD hS hin rfl (k := 3) (t1 := (.array (.object "HeavyFiles$Scale"))) kX2 (by decide) rfl rfl q_276 (by decide +kernel) rfl rfl (Nat.le_of_ble_eq_true rfl) dX2_init_41 (fun H locs hP hD hS => ?_)
  have hP : va_P D vwCl (([(q, .inr (2, [.ref q1, .ref (b3 0), .ref q4, .ref q6, .null, .int 0])), (q1, .inl (ca 0, 6, .inl fun _ => 0))] ++ kkX7 ca b3) ++ [(q4, .inl (ca 4, 6, refs (fun i => if i < 6 then some (r5 i) else none))), (r5 0, .inl (ca 0, 6, .inl fun _ => 0)), (r5 1, .inl (ca 0, 6, .inl fun _ => 0)), (r5 2, .inl (ca 0, 6, .inl fun _ => 0)), (r5 3, .inl (ca 0, 6, .inl fun _ => 0)), (r5 4, .inl (ca 0, 6, .inl fun _ => 0)), (r5 5, .inl (ca 0, 6, .inl fun _ => 0)), (q6, .inl (ca 5, 6, refs fun _ => none))]) H := hP
  have hD : va_D A (([(q, .inr (2, [.ref q1, .ref (b3 0), .ref q4, .ref q6, .null, .int 0])), (q1, .inl (ca 0, 6, .inl fun _ => 0))] ++ kkX7 ca b3) ++ [(q4, .inl (ca 4, 6, refs (fun i => if i < 6 then some (r5 i) else none))), (r5 0, .inl (ca 0, 6, .inl fun _ => 0)), (r5 1, .inl (ca 0, 6, .inl fun _ => 0)), (r5 2, .inl (ca 0, 6, .inl fun _ => 0)), (r5 3, .inl (ca 0, 6, .inl fun _ => 0)), (r5 4, .inl (ca 0, 6, .inl fun _ => 0)), (r5 5, .inl (ca 0, 6, .inl fun _ => 0)), (q6, .inl (ca 5, 6, refs fun _ => none))]) := hD
  refine lv_aload_n C.1 C.2.1 dX2_init_44 rfl (lv_at hl 0 rfl) ?_
  refine lv_bipush (v := 6) C.1 C.2.1 dX2_init_45 (by decide) ?_
  refine y_newa C hP hD hS hA 6 (by decide) (by decide) (by decide) (Nat.le_of_ble_eq_true rfl) (Nat.le_of_ble_eq_true rfl) q_56 dX2_init_47 (fun q7 H hP hD hS => ?_)
  have hP : va_P D vwCl (([(q, .inr (2, [.ref q1, .ref (b3 0), .ref q4, .ref q6, .null, .int 0])), (q1, .inl (ca 0, 6, .inl fun _ => 0))] ++ kkX7 ca b3) ++ [(q4, .inl (ca 4, 6, refs (fun i => if i < 6 then some (r5 i) else none))), (r5 0, .inl (ca 0, 6, .inl fun _ => 0)), (r5 1, .inl (ca 0, 6, .inl fun _ => 0)), (r5 2, .inl (ca 0, 6, .inl fun _ => 0)), (r5 3, .inl (ca 0, 6, .inl fun _ => 0)), (r5 4, .inl (ca 0, 6, .inl fun _ => 0)), (r5 5, .inl (ca 0, 6, .inl fun _ => 0)), (q6, .inl (ca 5, 6, refs fun _ => none)), (q7, .inl (ca 0, 6, .inl fun _ => 0))]) H := hP
  have hD : va_D A (([(q, .inr (2, [.ref q1, .ref (b3 0), .ref q4, .ref q6, .null, .int 0])), (q1, .inl (ca 0, 6, .inl fun _ => 0))] ++ kkX7 ca b3) ++ [(q4, .inl (ca 4, 6, refs (fun i => if i < 6 then some (r5 i) else none))), (r5 0, .inl (ca 0, 6, .inl fun _ => 0)), (r5 1, .inl (ca 0, 6, .inl fun _ => 0)), (r5 2, .inl (ca 0, 6, .inl fun _ => 0)), (r5 3, .inl (ca 0, 6, .inl fun _ => 0)), (r5 4, .inl (ca 0, 6, .inl fun _ => 0)), (r5 5, .inl (ca 0, 6, .inl fun _ => 0)), (q6, .inl (ca 5, 6, refs fun _ => none)), (q7, .inl (ca 0, 6, .inl fun _ => 0))]) := hD
  refine W.widen (k := 14) (n := 84) (by decide) (by decide) ?_
  refine y_putF C hP hD hS hin rfl (k := 4) (t1 := (.array .int)) kX2 (by decide) rfl rfl q_277 (by decide +kernel) rfl rfl (Nat.le_of_ble_eq_true rfl) dX2_init_49 (fun H locs hP hD hS => ?_)
  have hP : va_P D vwCl (([(q, .inr (2, [.ref q1, .ref (b3 0), .ref q4, .ref q6, .ref q7, .int 0])), (q1, .inl (ca 0, 6, .inl fun _ => 0))] ++ kkX7 ca b3) ++ [(q4, .inl (ca 4, 6, refs (fun i => if i < 6 then some (r5 i) else none))), (r5 0, .inl (ca 0, 6, .inl fun _ => 0)), (r5 1, .inl (ca 0, 6, .inl fun _ => 0)), (r5 2, .inl (ca 0, 6, .inl fun _ => 0)), (r5 3, .inl (ca 0, 6, .inl fun _ => 0)), (r5 4, .inl (ca 0, 6, .inl fun _ => 0)), (r5 5, .inl (ca 0, 6, .inl fun _ => 0)), (q6, .inl (ca 5, 6, refs fun _ => none)), (q7, .inl (ca 0, 6, .inl fun _ => 0))]) H := hP
  have hD : va_D A (([(q, .inr (2, [.ref q1, .ref (b3 0), .ref q4, .ref q6, .ref q7, .int 0])), (q1, .inl (ca 0, 6, .inl fun _ => 0))] ++ kkX7 ca b3) ++ [(q4, .inl (ca 4, 6, refs (fun i => if i < 6 then some (r5 i) else none))), (r5 0, .inl (ca 0, 6, .inl fun _ => 0)), (r5 1, .inl (ca 0, 6, .inl fun _ => 0)), (r5 2, .inl (ca 0, 6, .inl fun _ => 0)), (r5 3, .inl (ca 0, 6, .inl fun _ => 0)), (r5 4, .inl (ca 0, 6, .inl fun _ => 0)), (r5 5, .inl (ca 0, 6, .inl fun _ => 0)), (q6, .inl (ca 5, 6, refs fun _ => none)), (q7, .inl (ca 0, 6, .inl fun _ => 0))]) := hD
  refine lv_iconst (v := 0) C.1 C.2.1 dX2_init_52 (by decide) ?_
  refine lv_istore_n (lv' := [(1, .int 0), (0, .ref q)]) C.1 C.2.1 dX2_init_53 rfl hl (by decide) rfl (fun ls hl => ?_)
  refine lv_iload_n C.1 C.2.1 dX2_init_54 rfl (lv_at hl 0 rfl) ?_
  refine lv_bipush (v := 6) C.1 C.2.1 dX2_init_55 (by decide) ?_
  refine lv_icmp_ge (tgt := 79) C.1 C.2.1 dX2_init_57 (by decide) (fun c => absurd c (by decide)) (fun _ => ?_)
  refine lv_aload_n C.1 C.2.1 dX2_init_60 rfl (lv_at hl 1 rfl) ?_
  refine y_get C hP rfl (k := 3) kX2 (by decide) rfl q_276 rfl dX2_init_61 ?_
  refine lv_iload_n C.1 C.2.1 dX2_init_64 rfl (lv_at hl 0 rfl) ?_
  refine y_newo C hP hD hS hA [.null, .null, .null, .int 0, .int 0] kX7 (fun j hj => by (rcases (by omega : j = 0 ∨ j = 1 ∨ j = 2 ∨ j = 3 ∨ j = 4) with rfl | rfl | rfl | rfl | rfl <;> rfl)) q_268 q_133 q_5 (Nat.le_of_ble_eq_true rfl) (Nat.le_of_ble_eq_true rfl) dX2_init_65 (fun q8 H hP hD hS => ?_)
  have hP : va_P D vwCl ((([(q, .inr (2, [.ref q1, .ref (b3 0), .ref q4, .ref q6, .ref q7, .int 0])), (q1, .inl (ca 0, 6, .inl fun _ => 0))] ++ kkX7 ca b3) ++ [(q4, .inl (ca 4, 6, refs (fun i => if i < 6 then some (r5 i) else none))), (r5 0, .inl (ca 0, 6, .inl fun _ => 0)), (r5 1, .inl (ca 0, 6, .inl fun _ => 0)), (r5 2, .inl (ca 0, 6, .inl fun _ => 0)), (r5 3, .inl (ca 0, 6, .inl fun _ => 0)), (r5 4, .inl (ca 0, 6, .inl fun _ => 0)), (r5 5, .inl (ca 0, 6, .inl fun _ => 0)), (q6, .inl (ca 5, 6, refs fun _ => none)), (q7, .inl (ca 0, 6, .inl fun _ => 0))]) ++ [(q8, .inr (7, [.null, .null, .null, .int 0, .int 0]))]) H := hP
  have hD : va_D A ((([(q, .inr (2, [.ref q1, .ref (b3 0), .ref q4, .ref q6, .ref q7, .int 0])), (q1, .inl (ca 0, 6, .inl fun _ => 0))] ++ kkX7 ca b3) ++ [(q4, .inl (ca 4, 6, refs (fun i => if i < 6 then some (r5 i) else none))), (r5 0, .inl (ca 0, 6, .inl fun _ => 0)), (r5 1, .inl (ca 0, 6, .inl fun _ => 0)), (r5 2, .inl (ca 0, 6, .inl fun _ => 0)), (r5 3, .inl (ca 0, 6, .inl fun _ => 0)), (r5 4, .inl (ca 0, 6, .inl fun _ => 0)), (r5 5, .inl (ca 0, 6, .inl fun _ => 0)), (q6, .inl (ca 5, 6, refs fun _ => none)), (q7, .inl (ca 0, 6, .inl fun _ => 0))]) ++ [(q8, .inr (7, [.null, .null, .null, .int 0, .int 0]))]) := hD
  refine W.widen (k := 15) (n := 89) (by decide) (by decide) ?_
  refine lv_dup C.1 C.2.1 dX2_init_68 rfl ?_
  refine y_call (kX := kkX7 ca) hP hD hS hA (y_runIN (host := "HeavyFiles") C hN hP [] [.ref q8, .int 0, .ref q6] RX7 kiX7_init (by decide +kernel) (tX7_init l D ca q8 H.size) rfl rfl ⟨by decide, by decide⟩ rfl hl.1 rfl (Nat.le_of_ble_eq_true rfl) dX2_init_69 ⟨Nat.le_of_ble_eq_true rfl, Nat.le_of_ble_eq_true rfl⟩) (fun b9 H locs eb9 hP hD hS => ?_)
  rw [← eb9]
  have hP : va_P D vwCl ((([(q, .inr (2, [.ref q1, .ref (b3 0), .ref q4, .ref q6, .ref q7, .int 0])), (q1, .inl (ca 0, 6, .inl fun _ => 0))] ++ kkX7 ca b3) ++ [(q4, .inl (ca 4, 6, refs (fun i => if i < 6 then some (r5 i) else none))), (r5 0, .inl (ca 0, 6, .inl fun _ => 0)), (r5 1, .inl (ca 0, 6, .inl fun _ => 0)), (r5 2, .inl (ca 0, 6, .inl fun _ => 0)), (r5 3, .inl (ca 0, 6, .inl fun _ => 0)), (r5 4, .inl (ca 0, 6, .inl fun _ => 0)), (r5 5, .inl (ca 0, 6, .inl fun _ => 0)), (q6, .inl (ca 5, 6, refs fun _ => none)), (q7, .inl (ca 0, 6, .inl fun _ => 0))]) ++ kkX7 ca b9) H := hP
  have hD : va_D A ((([(q, .inr (2, [.ref q1, .ref (b3 0), .ref q4, .ref q6, .ref q7, .int 0])), (q1, .inl (ca 0, 6, .inl fun _ => 0))] ++ kkX7 ca b3) ++ [(q4, .inl (ca 4, 6, refs (fun i => if i < 6 then some (r5 i) else none))), (r5 0, .inl (ca 0, 6, .inl fun _ => 0)), (r5 1, .inl (ca 0, 6, .inl fun _ => 0)), (r5 2, .inl (ca 0, 6, .inl fun _ => 0)), (r5 3, .inl (ca 0, 6, .inl fun _ => 0)), (r5 4, .inl (ca 0, 6, .inl fun _ => 0)), (r5 5, .inl (ca 0, 6, .inl fun _ => 0)), (q6, .inl (ca 5, 6, refs fun _ => none)), (q7, .inl (ca 0, 6, .inl fun _ => 0))]) ++ kkX7 ca b9) := hD
  refine W.widen (k := 18) (n := 108) (by decide) (by decide) ?_
  refine y_asto C hP hD hS 13 15 5 rfl rfl rfl rfl (by decide) dX2_init_72 (fun H locs hP hD hS => ?_)
  have hP : va_P D vwCl ((([(q, .inr (2, [.ref q1, .ref (b3 0), .ref q4, .ref q6, .ref q7, .int 0])), (q1, .inl (ca 0, 6, .inl fun _ => 0))] ++ kkX7 ca b3) ++ [(q4, .inl (ca 4, 6, refs (fun i => if i < 6 then some (r5 i) else none))), (r5 0, .inl (ca 0, 6, .inl fun _ => 0)), (r5 1, .inl (ca 0, 6, .inl fun _ => 0)), (r5 2, .inl (ca 0, 6, .inl fun _ => 0)), (r5 3, .inl (ca 0, 6, .inl fun _ => 0)), (r5 4, .inl (ca 0, 6, .inl fun _ => 0)), (r5 5, .inl (ca 0, 6, .inl fun _ => 0)), (q6, .inl (ca 5, 6, refs (va_up (fun _ => none) (0 : Int32).toNatClampNeg (some (b9 0))))), (q7, .inl (ca 0, 6, .inl fun _ => 0))]) ++ kkX7 ca b9) H := hP
  have hD : va_D A ((([(q, .inr (2, [.ref q1, .ref (b3 0), .ref q4, .ref q6, .ref q7, .int 0])), (q1, .inl (ca 0, 6, .inl fun _ => 0))] ++ kkX7 ca b3) ++ [(q4, .inl (ca 4, 6, refs (fun i => if i < 6 then some (r5 i) else none))), (r5 0, .inl (ca 0, 6, .inl fun _ => 0)), (r5 1, .inl (ca 0, 6, .inl fun _ => 0)), (r5 2, .inl (ca 0, 6, .inl fun _ => 0)), (r5 3, .inl (ca 0, 6, .inl fun _ => 0)), (r5 4, .inl (ca 0, 6, .inl fun _ => 0)), (r5 5, .inl (ca 0, 6, .inl fun _ => 0)), (q6, .inl (ca 5, 6, refs (va_up (fun _ => none) (0 : Int32).toNatClampNeg (some (b9 0))))), (q7, .inl (ca 0, 6, .inl fun _ => 0))]) ++ kkX7 ca b9) := hD
  refine lv_iinc (v := 1) (lv' := [(1, .int 1), (0, .ref q)]) C.1 C.2.1 dX2_init_73 hl (k := 0) rfl (by decide) (by decide) rfl (fun ls hl => ?_)
  refine lv_goto (tgt := 54) C.1 C.2.1 dX2_init_76 (by decide) ?_
  refine lv_iload_n C.1 C.2.1 dX2_init_54 rfl (lv_at hl 0 rfl) ?_
  refine lv_bipush (v := 6) C.1 C.2.1 dX2_init_55 (by decide) ?_
  refine lv_icmp_ge (tgt := 79) C.1 C.2.1 dX2_init_57 (by decide) (fun c => absurd c (by decide)) (fun _ => ?_)
  refine lv_aload_n C.1 C.2.1 dX2_init_60 rfl (lv_at hl 1 rfl) ?_
  refine y_get C hP rfl (k := 3) kX2 (by decide) rfl q_276 rfl dX2_init_61 ?_
  refine lv_iload_n C.1 C.2.1 dX2_init_64 rfl (lv_at hl 0 rfl) ?_
  refine y_newo C hP hD hS hA [.null, .null, .null, .int 0, .int 0] kX7 (fun j hj => by (rcases (by omega : j = 0 ∨ j = 1 ∨ j = 2 ∨ j = 3 ∨ j = 4) with rfl | rfl | rfl | rfl | rfl <;> rfl)) q_268 q_133 q_5 (Nat.le_of_ble_eq_true rfl) (Nat.le_of_ble_eq_true rfl) dX2_init_65 (fun q10 H hP hD hS => ?_)
  have hP : va_P D vwCl (((([(q, .inr (2, [.ref q1, .ref (b3 0), .ref q4, .ref q6, .ref q7, .int 0])), (q1, .inl (ca 0, 6, .inl fun _ => 0))] ++ kkX7 ca b3) ++ [(q4, .inl (ca 4, 6, refs (fun i => if i < 6 then some (r5 i) else none))), (r5 0, .inl (ca 0, 6, .inl fun _ => 0)), (r5 1, .inl (ca 0, 6, .inl fun _ => 0)), (r5 2, .inl (ca 0, 6, .inl fun _ => 0)), (r5 3, .inl (ca 0, 6, .inl fun _ => 0)), (r5 4, .inl (ca 0, 6, .inl fun _ => 0)), (r5 5, .inl (ca 0, 6, .inl fun _ => 0)), (q6, .inl (ca 5, 6, refs (va_up (fun _ => none) (0 : Int32).toNatClampNeg (some (b9 0))))), (q7, .inl (ca 0, 6, .inl fun _ => 0))]) ++ kkX7 ca b9) ++ [(q10, .inr (7, [.null, .null, .null, .int 0, .int 0]))]) H := hP
  have hD : va_D A (((([(q, .inr (2, [.ref q1, .ref (b3 0), .ref q4, .ref q6, .ref q7, .int 0])), (q1, .inl (ca 0, 6, .inl fun _ => 0))] ++ kkX7 ca b3) ++ [(q4, .inl (ca 4, 6, refs (fun i => if i < 6 then some (r5 i) else none))), (r5 0, .inl (ca 0, 6, .inl fun _ => 0)), (r5 1, .inl (ca 0, 6, .inl fun _ => 0)), (r5 2, .inl (ca 0, 6, .inl fun _ => 0)), (r5 3, .inl (ca 0, 6, .inl fun _ => 0)), (r5 4, .inl (ca 0, 6, .inl fun _ => 0)), (r5 5, .inl (ca 0, 6, .inl fun _ => 0)), (q6, .inl (ca 5, 6, refs (va_up (fun _ => none) (0 : Int32).toNatClampNeg (some (b9 0))))), (q7, .inl (ca 0, 6, .inl fun _ => 0))]) ++ kkX7 ca b9) ++ [(q10, .inr (7, [.null, .null, .null, .int 0, .int 0]))]) := hD
  refine W.widen (k := 19) (n := 113) (by decide) (by decide) ?_
  refine lv_dup C.1 C.2.1 dX2_init_68 rfl ?_
  refine y_call (kX := kkX7 ca) hP hD hS hA (y_runIN (host := "HeavyFiles") C hN hP [] [.ref q10, .int 1, .ref q6] RX7 kiX7_init (by decide +kernel) (tX7_init l D ca q10 H.size) rfl rfl ⟨by decide, by decide⟩ rfl hl.1 rfl (Nat.le_of_ble_eq_true rfl) dX2_init_69 ⟨Nat.le_of_ble_eq_true rfl, Nat.le_of_ble_eq_true rfl⟩) (fun b11 H locs eb11 hP hD hS => ?_)
  rw [← eb11]
  have hP : va_P D vwCl (((([(q, .inr (2, [.ref q1, .ref (b3 0), .ref q4, .ref q6, .ref q7, .int 0])), (q1, .inl (ca 0, 6, .inl fun _ => 0))] ++ kkX7 ca b3) ++ [(q4, .inl (ca 4, 6, refs (fun i => if i < 6 then some (r5 i) else none))), (r5 0, .inl (ca 0, 6, .inl fun _ => 0)), (r5 1, .inl (ca 0, 6, .inl fun _ => 0)), (r5 2, .inl (ca 0, 6, .inl fun _ => 0)), (r5 3, .inl (ca 0, 6, .inl fun _ => 0)), (r5 4, .inl (ca 0, 6, .inl fun _ => 0)), (r5 5, .inl (ca 0, 6, .inl fun _ => 0)), (q6, .inl (ca 5, 6, refs (va_up (fun _ => none) (0 : Int32).toNatClampNeg (some (b9 0))))), (q7, .inl (ca 0, 6, .inl fun _ => 0))]) ++ kkX7 ca b9) ++ kkX7 ca b11) H := hP
  have hD : va_D A (((([(q, .inr (2, [.ref q1, .ref (b3 0), .ref q4, .ref q6, .ref q7, .int 0])), (q1, .inl (ca 0, 6, .inl fun _ => 0))] ++ kkX7 ca b3) ++ [(q4, .inl (ca 4, 6, refs (fun i => if i < 6 then some (r5 i) else none))), (r5 0, .inl (ca 0, 6, .inl fun _ => 0)), (r5 1, .inl (ca 0, 6, .inl fun _ => 0)), (r5 2, .inl (ca 0, 6, .inl fun _ => 0)), (r5 3, .inl (ca 0, 6, .inl fun _ => 0)), (r5 4, .inl (ca 0, 6, .inl fun _ => 0)), (r5 5, .inl (ca 0, 6, .inl fun _ => 0)), (q6, .inl (ca 5, 6, refs (va_up (fun _ => none) (0 : Int32).toNatClampNeg (some (b9 0))))), (q7, .inl (ca 0, 6, .inl fun _ => 0))]) ++ kkX7 ca b9) ++ kkX7 ca b11) := hD
  refine W.widen (k := 22) (n := 132) (by decide) (by decide) ?_
  refine y_asto C hP hD hS 13 19 5 rfl rfl rfl rfl (by decide) dX2_init_72 (fun H locs hP hD hS => ?_)
  have hP : va_P D vwCl (((([(q, .inr (2, [.ref q1, .ref (b3 0), .ref q4, .ref q6, .ref q7, .int 0])), (q1, .inl (ca 0, 6, .inl fun _ => 0))] ++ kkX7 ca b3) ++ [(q4, .inl (ca 4, 6, refs (fun i => if i < 6 then some (r5 i) else none))), (r5 0, .inl (ca 0, 6, .inl fun _ => 0)), (r5 1, .inl (ca 0, 6, .inl fun _ => 0)), (r5 2, .inl (ca 0, 6, .inl fun _ => 0)), (r5 3, .inl (ca 0, 6, .inl fun _ => 0)), (r5 4, .inl (ca 0, 6, .inl fun _ => 0)), (r5 5, .inl (ca 0, 6, .inl fun _ => 0)), (q6, .inl (ca 5, 6, refs (va_up ((va_up (fun _ => none) (0 : Int32).toNatClampNeg (some (b9 0)))) (1 : Int32).toNatClampNeg (some (b11 0))))), (q7, .inl (ca 0, 6, .inl fun _ => 0))]) ++ kkX7 ca b9) ++ kkX7 ca b11) H := hP
  have hD : va_D A (((([(q, .inr (2, [.ref q1, .ref (b3 0), .ref q4, .ref q6, .ref q7, .int 0])), (q1, .inl (ca 0, 6, .inl fun _ => 0))] ++ kkX7 ca b3) ++ [(q4, .inl (ca 4, 6, refs (fun i => if i < 6 then some (r5 i) else none))), (r5 0, .inl (ca 0, 6, .inl fun _ => 0)), (r5 1, .inl (ca 0, 6, .inl fun _ => 0)), (r5 2, .inl (ca 0, 6, .inl fun _ => 0)), (r5 3, .inl (ca 0, 6, .inl fun _ => 0)), (r5 4, .inl (ca 0, 6, .inl fun _ => 0)), (r5 5, .inl (ca 0, 6, .inl fun _ => 0)), (q6, .inl (ca 5, 6, refs (va_up ((va_up (fun _ => none) (0 : Int32).toNatClampNeg (some (b9 0)))) (1 : Int32).toNatClampNeg (some (b11 0))))), (q7, .inl (ca 0, 6, .inl fun _ => 0))]) ++ kkX7 ca b9) ++ kkX7 ca b11) := hD
  refine lv_iinc (v := 2) (lv' := [(1, .int 2), (0, .ref q)]) C.1 C.2.1 dX2_init_73 hl (k := 0) rfl (by decide) (by decide) rfl (fun ls hl => ?_)
  refine lv_goto (tgt := 54) C.1 C.2.1 dX2_init_76 (by decide) ?_
  refine lv_iload_n C.1 C.2.1 dX2_init_54 rfl (lv_at hl 0 rfl) ?_
  refine lv_bipush (v := 6) C.1 C.2.1 dX2_init_55 (by decide) ?_
  refine lv_icmp_ge (tgt := 79) C.1 C.2.1 dX2_init_57 (by decide) (fun c => absurd c (by decide)) (fun _ => ?_)
  refine lv_aload_n C.1 C.2.1 dX2_init_60 rfl (lv_at hl 1 rfl) ?_
  refine y_get C hP rfl (k := 3) kX2 (by decide) rfl q_276 rfl dX2_init_61 ?_
  refine lv_iload_n C.1 C.2.1 dX2_init_64 rfl (lv_at hl 0 rfl) ?_
  refine y_newo C hP hD hS hA [.null, .null, .null, .int 0, .int 0] kX7 (fun j hj => by (rcases (by omega : j = 0 ∨ j = 1 ∨ j = 2 ∨ j = 3 ∨ j = 4) with rfl | rfl | rfl | rfl | rfl <;> rfl)) q_268 q_133 q_5 (Nat.le_of_ble_eq_true rfl) (Nat.le_of_ble_eq_true rfl) dX2_init_65 (fun q12 H hP hD hS => ?_)
  have hP : va_P D vwCl ((((([(q, .inr (2, [.ref q1, .ref (b3 0), .ref q4, .ref q6, .ref q7, .int 0])), (q1, .inl (ca 0, 6, .inl fun _ => 0))] ++ kkX7 ca b3) ++ [(q4, .inl (ca 4, 6, refs (fun i => if i < 6 then some (r5 i) else none))), (r5 0, .inl (ca 0, 6, .inl fun _ => 0)), (r5 1, .inl (ca 0, 6, .inl fun _ => 0)), (r5 2, .inl (ca 0, 6, .inl fun _ => 0)), (r5 3, .inl (ca 0, 6, .inl fun _ => 0)), (r5 4, .inl (ca 0, 6, .inl fun _ => 0)), (r5 5, .inl (ca 0, 6, .inl fun _ => 0)), (q6, .inl (ca 5, 6, refs (va_up ((va_up (fun _ => none) (0 : Int32).toNatClampNeg (some (b9 0)))) (1 : Int32).toNatClampNeg (some (b11 0))))), (q7, .inl (ca 0, 6, .inl fun _ => 0))]) ++ kkX7 ca b9) ++ kkX7 ca b11) ++ [(q12, .inr (7, [.null, .null, .null, .int 0, .int 0]))]) H := hP
  have hD : va_D A ((((([(q, .inr (2, [.ref q1, .ref (b3 0), .ref q4, .ref q6, .ref q7, .int 0])), (q1, .inl (ca 0, 6, .inl fun _ => 0))] ++ kkX7 ca b3) ++ [(q4, .inl (ca 4, 6, refs (fun i => if i < 6 then some (r5 i) else none))), (r5 0, .inl (ca 0, 6, .inl fun _ => 0)), (r5 1, .inl (ca 0, 6, .inl fun _ => 0)), (r5 2, .inl (ca 0, 6, .inl fun _ => 0)), (r5 3, .inl (ca 0, 6, .inl fun _ => 0)), (r5 4, .inl (ca 0, 6, .inl fun _ => 0)), (r5 5, .inl (ca 0, 6, .inl fun _ => 0)), (q6, .inl (ca 5, 6, refs (va_up ((va_up (fun _ => none) (0 : Int32).toNatClampNeg (some (b9 0)))) (1 : Int32).toNatClampNeg (some (b11 0))))), (q7, .inl (ca 0, 6, .inl fun _ => 0))]) ++ kkX7 ca b9) ++ kkX7 ca b11) ++ [(q12, .inr (7, [.null, .null, .null, .int 0, .int 0]))]) := hD
  refine W.widen (k := 23) (n := 137) (by decide) (by decide) ?_
  refine lv_dup C.1 C.2.1 dX2_init_68 rfl ?_
  refine y_call (kX := kkX7 ca) hP hD hS hA (y_runIN (host := "HeavyFiles") C hN hP [] [.ref q12, .int 2, .ref q6] RX7 kiX7_init (by decide +kernel) (tX7_init l D ca q12 H.size) rfl rfl ⟨by decide, by decide⟩ rfl hl.1 rfl (Nat.le_of_ble_eq_true rfl) dX2_init_69 ⟨Nat.le_of_ble_eq_true rfl, Nat.le_of_ble_eq_true rfl⟩) (fun b13 H locs eb13 hP hD hS => ?_)
  rw [← eb13]
  have hP : va_P D vwCl ((((([(q, .inr (2, [.ref q1, .ref (b3 0), .ref q4, .ref q6, .ref q7, .int 0])), (q1, .inl (ca 0, 6, .inl fun _ => 0))] ++ kkX7 ca b3) ++ [(q4, .inl (ca 4, 6, refs (fun i => if i < 6 then some (r5 i) else none))), (r5 0, .inl (ca 0, 6, .inl fun _ => 0)), (r5 1, .inl (ca 0, 6, .inl fun _ => 0)), (r5 2, .inl (ca 0, 6, .inl fun _ => 0)), (r5 3, .inl (ca 0, 6, .inl fun _ => 0)), (r5 4, .inl (ca 0, 6, .inl fun _ => 0)), (r5 5, .inl (ca 0, 6, .inl fun _ => 0)), (q6, .inl (ca 5, 6, refs (va_up ((va_up (fun _ => none) (0 : Int32).toNatClampNeg (some (b9 0)))) (1 : Int32).toNatClampNeg (some (b11 0))))), (q7, .inl (ca 0, 6, .inl fun _ => 0))]) ++ kkX7 ca b9) ++ kkX7 ca b11) ++ kkX7 ca b13) H := hP
  have hD : va_D A ((((([(q, .inr (2, [.ref q1, .ref (b3 0), .ref q4, .ref q6, .ref q7, .int 0])), (q1, .inl (ca 0, 6, .inl fun _ => 0))] ++ kkX7 ca b3) ++ [(q4, .inl (ca 4, 6, refs (fun i => if i < 6 then some (r5 i) else none))), (r5 0, .inl (ca 0, 6, .inl fun _ => 0)), (r5 1, .inl (ca 0, 6, .inl fun _ => 0)), (r5 2, .inl (ca 0, 6, .inl fun _ => 0)), (r5 3, .inl (ca 0, 6, .inl fun _ => 0)), (r5 4, .inl (ca 0, 6, .inl fun _ => 0)), (r5 5, .inl (ca 0, 6, .inl fun _ => 0)), (q6, .inl (ca 5, 6, refs (va_up ((va_up (fun _ => none) (0 : Int32).toNatClampNeg (some (b9 0)))) (1 : Int32).toNatClampNeg (some (b11 0))))), (q7, .inl (ca 0, 6, .inl fun _ => 0))]) ++ kkX7 ca b9) ++ kkX7 ca b11) ++ kkX7 ca b13) := hD
  refine W.widen (k := 26) (n := 156) (by decide) (by decide) ?_
  refine y_asto C hP hD hS 13 23 5 rfl rfl rfl rfl (by decide) dX2_init_72 (fun H locs hP hD hS => ?_)
  have hP : va_P D vwCl ((((([(q, .inr (2, [.ref q1, .ref (b3 0), .ref q4, .ref q6, .ref q7, .int 0])), (q1, .inl (ca 0, 6, .inl fun _ => 0))] ++ kkX7 ca b3) ++ [(q4, .inl (ca 4, 6, refs (fun i => if i < 6 then some (r5 i) else none))), (r5 0, .inl (ca 0, 6, .inl fun _ => 0)), (r5 1, .inl (ca 0, 6, .inl fun _ => 0)), (r5 2, .inl (ca 0, 6, .inl fun _ => 0)), (r5 3, .inl (ca 0, 6, .inl fun _ => 0)), (r5 4, .inl (ca 0, 6, .inl fun _ => 0)), (r5 5, .inl (ca 0, 6, .inl fun _ => 0)), (q6, .inl (ca 5, 6, refs (va_up ((va_up ((va_up (fun _ => none) (0 : Int32).toNatClampNeg (some (b9 0)))) (1 : Int32).toNatClampNeg (some (b11 0)))) (2 : Int32).toNatClampNeg (some (b13 0))))), (q7, .inl (ca 0, 6, .inl fun _ => 0))]) ++ kkX7 ca b9) ++ kkX7 ca b11) ++ kkX7 ca b13) H := hP
  have hD : va_D A ((((([(q, .inr (2, [.ref q1, .ref (b3 0), .ref q4, .ref q6, .ref q7, .int 0])), (q1, .inl (ca 0, 6, .inl fun _ => 0))] ++ kkX7 ca b3) ++ [(q4, .inl (ca 4, 6, refs (fun i => if i < 6 then some (r5 i) else none))), (r5 0, .inl (ca 0, 6, .inl fun _ => 0)), (r5 1, .inl (ca 0, 6, .inl fun _ => 0)), (r5 2, .inl (ca 0, 6, .inl fun _ => 0)), (r5 3, .inl (ca 0, 6, .inl fun _ => 0)), (r5 4, .inl (ca 0, 6, .inl fun _ => 0)), (r5 5, .inl (ca 0, 6, .inl fun _ => 0)), (q6, .inl (ca 5, 6, refs (va_up ((va_up ((va_up (fun _ => none) (0 : Int32).toNatClampNeg (some (b9 0)))) (1 : Int32).toNatClampNeg (some (b11 0)))) (2 : Int32).toNatClampNeg (some (b13 0))))), (q7, .inl (ca 0, 6, .inl fun _ => 0))]) ++ kkX7 ca b9) ++ kkX7 ca b11) ++ kkX7 ca b13) := hD
  refine lv_iinc (v := 3) (lv' := [(1, .int 3), (0, .ref q)]) C.1 C.2.1 dX2_init_73 hl (k := 0) rfl (by decide) (by decide) rfl (fun ls hl => ?_)
  refine lv_goto (tgt := 54) C.1 C.2.1 dX2_init_76 (by decide) ?_
  refine lv_iload_n C.1 C.2.1 dX2_init_54 rfl (lv_at hl 0 rfl) ?_
  refine lv_bipush (v := 6) C.1 C.2.1 dX2_init_55 (by decide) ?_
  refine lv_icmp_ge (tgt := 79) C.1 C.2.1 dX2_init_57 (by decide) (fun c => absurd c (by decide)) (fun _ => ?_)
  refine lv_aload_n C.1 C.2.1 dX2_init_60 rfl (lv_at hl 1 rfl) ?_
  refine y_get C hP rfl (k := 3) kX2 (by decide) rfl q_276 rfl dX2_init_61 ?_
  refine lv_iload_n C.1 C.2.1 dX2_init_64 rfl (lv_at hl 0 rfl) ?_
  refine y_newo C hP hD hS hA [.null, .null, .null, .int 0, .int 0] kX7 (fun j hj => by (rcases (by omega : j = 0 ∨ j = 1 ∨ j = 2 ∨ j = 3 ∨ j = 4) with rfl | rfl | rfl | rfl | rfl <;> rfl)) q_268 q_133 q_5 (Nat.le_of_ble_eq_true rfl) (Nat.le_of_ble_eq_true rfl) dX2_init_65 (fun q14 H hP hD hS => ?_)
  have hP : va_P D vwCl (((((([(q, .inr (2, [.ref q1, .ref (b3 0), .ref q4, .ref q6, .ref q7, .int 0])), (q1, .inl (ca 0, 6, .inl fun _ => 0))] ++ kkX7 ca b3) ++ [(q4, .inl (ca 4, 6, refs (fun i => if i < 6 then some (r5 i) else none))), (r5 0, .inl (ca 0, 6, .inl fun _ => 0)), (r5 1, .inl (ca 0, 6, .inl fun _ => 0)), (r5 2, .inl (ca 0, 6, .inl fun _ => 0)), (r5 3, .inl (ca 0, 6, .inl fun _ => 0)), (r5 4, .inl (ca 0, 6, .inl fun _ => 0)), (r5 5, .inl (ca 0, 6, .inl fun _ => 0)), (q6, .inl (ca 5, 6, refs (va_up ((va_up ((va_up (fun _ => none) (0 : Int32).toNatClampNeg (some (b9 0)))) (1 : Int32).toNatClampNeg (some (b11 0)))) (2 : Int32).toNatClampNeg (some (b13 0))))), (q7, .inl (ca 0, 6, .inl fun _ => 0))]) ++ kkX7 ca b9) ++ kkX7 ca b11) ++ kkX7 ca b13) ++ [(q14, .inr (7, [.null, .null, .null, .int 0, .int 0]))]) H := hP
  have hD : va_D A (((((([(q, .inr (2, [.ref q1, .ref (b3 0), .ref q4, .ref q6, .ref q7, .int 0])), (q1, .inl (ca 0, 6, .inl fun _ => 0))] ++ kkX7 ca b3) ++ [(q4, .inl (ca 4, 6, refs (fun i => if i < 6 then some (r5 i) else none))), (r5 0, .inl (ca 0, 6, .inl fun _ => 0)), (r5 1, .inl (ca 0, 6, .inl fun _ => 0)), (r5 2, .inl (ca 0, 6, .inl fun _ => 0)), (r5 3, .inl (ca 0, 6, .inl fun _ => 0)), (r5 4, .inl (ca 0, 6, .inl fun _ => 0)), (r5 5, .inl (ca 0, 6, .inl fun _ => 0)), (q6, .inl (ca 5, 6, refs (va_up ((va_up ((va_up (fun _ => none) (0 : Int32).toNatClampNeg (some (b9 0)))) (1 : Int32).toNatClampNeg (some (b11 0)))) (2 : Int32).toNatClampNeg (some (b13 0))))), (q7, .inl (ca 0, 6, .inl fun _ => 0))]) ++ kkX7 ca b9) ++ kkX7 ca b11) ++ kkX7 ca b13) ++ [(q14, .inr (7, [.null, .null, .null, .int 0, .int 0]))]) := hD
  refine W.widen (k := 27) (n := 161) (by decide) (by decide) ?_
  refine lv_dup C.1 C.2.1 dX2_init_68 rfl ?_
  refine y_call (kX := kkX7 ca) hP hD hS hA (y_runIN (host := "HeavyFiles") C hN hP [] [.ref q14, .int 3, .ref q6] RX7 kiX7_init (by decide +kernel) (tX7_init l D ca q14 H.size) rfl rfl ⟨by decide, by decide⟩ rfl hl.1 rfl (Nat.le_of_ble_eq_true rfl) dX2_init_69 ⟨Nat.le_of_ble_eq_true rfl, Nat.le_of_ble_eq_true rfl⟩) (fun b15 H locs eb15 hP hD hS => ?_)
  rw [← eb15]
  have hP : va_P D vwCl (((((([(q, .inr (2, [.ref q1, .ref (b3 0), .ref q4, .ref q6, .ref q7, .int 0])), (q1, .inl (ca 0, 6, .inl fun _ => 0))] ++ kkX7 ca b3) ++ [(q4, .inl (ca 4, 6, refs (fun i => if i < 6 then some (r5 i) else none))), (r5 0, .inl (ca 0, 6, .inl fun _ => 0)), (r5 1, .inl (ca 0, 6, .inl fun _ => 0)), (r5 2, .inl (ca 0, 6, .inl fun _ => 0)), (r5 3, .inl (ca 0, 6, .inl fun _ => 0)), (r5 4, .inl (ca 0, 6, .inl fun _ => 0)), (r5 5, .inl (ca 0, 6, .inl fun _ => 0)), (q6, .inl (ca 5, 6, refs (va_up ((va_up ((va_up (fun _ => none) (0 : Int32).toNatClampNeg (some (b9 0)))) (1 : Int32).toNatClampNeg (some (b11 0)))) (2 : Int32).toNatClampNeg (some (b13 0))))), (q7, .inl (ca 0, 6, .inl fun _ => 0))]) ++ kkX7 ca b9) ++ kkX7 ca b11) ++ kkX7 ca b13) ++ kkX7 ca b15) H := hP
  have hD : va_D A (((((([(q, .inr (2, [.ref q1, .ref (b3 0), .ref q4, .ref q6, .ref q7, .int 0])), (q1, .inl (ca 0, 6, .inl fun _ => 0))] ++ kkX7 ca b3) ++ [(q4, .inl (ca 4, 6, refs (fun i => if i < 6 then some (r5 i) else none))), (r5 0, .inl (ca 0, 6, .inl fun _ => 0)), (r5 1, .inl (ca 0, 6, .inl fun _ => 0)), (r5 2, .inl (ca 0, 6, .inl fun _ => 0)), (r5 3, .inl (ca 0, 6, .inl fun _ => 0)), (r5 4, .inl (ca 0, 6, .inl fun _ => 0)), (r5 5, .inl (ca 0, 6, .inl fun _ => 0)), (q6, .inl (ca 5, 6, refs (va_up ((va_up ((va_up (fun _ => none) (0 : Int32).toNatClampNeg (some (b9 0)))) (1 : Int32).toNatClampNeg (some (b11 0)))) (2 : Int32).toNatClampNeg (some (b13 0))))), (q7, .inl (ca 0, 6, .inl fun _ => 0))]) ++ kkX7 ca b9) ++ kkX7 ca b11) ++ kkX7 ca b13) ++ kkX7 ca b15) := hD
  refine W.widen (k := 30) (n := 180) (by decide) (by decide) ?_
  refine y_asto C hP hD hS 13 27 5 rfl rfl rfl rfl (by decide) dX2_init_72 (fun H locs hP hD hS => ?_)
  have hP : va_P D vwCl (((((([(q, .inr (2, [.ref q1, .ref (b3 0), .ref q4, .ref q6, .ref q7, .int 0])), (q1, .inl (ca 0, 6, .inl fun _ => 0))] ++ kkX7 ca b3) ++ [(q4, .inl (ca 4, 6, refs (fun i => if i < 6 then some (r5 i) else none))), (r5 0, .inl (ca 0, 6, .inl fun _ => 0)), (r5 1, .inl (ca 0, 6, .inl fun _ => 0)), (r5 2, .inl (ca 0, 6, .inl fun _ => 0)), (r5 3, .inl (ca 0, 6, .inl fun _ => 0)), (r5 4, .inl (ca 0, 6, .inl fun _ => 0)), (r5 5, .inl (ca 0, 6, .inl fun _ => 0)), (q6, .inl (ca 5, 6, refs (va_up ((va_up ((va_up ((va_up (fun _ => none) (0 : Int32).toNatClampNeg (some (b9 0)))) (1 : Int32).toNatClampNeg (some (b11 0)))) (2 : Int32).toNatClampNeg (some (b13 0)))) (3 : Int32).toNatClampNeg (some (b15 0))))), (q7, .inl (ca 0, 6, .inl fun _ => 0))]) ++ kkX7 ca b9) ++ kkX7 ca b11) ++ kkX7 ca b13) ++ kkX7 ca b15) H := hP
  have hD : va_D A (((((([(q, .inr (2, [.ref q1, .ref (b3 0), .ref q4, .ref q6, .ref q7, .int 0])), (q1, .inl (ca 0, 6, .inl fun _ => 0))] ++ kkX7 ca b3) ++ [(q4, .inl (ca 4, 6, refs (fun i => if i < 6 then some (r5 i) else none))), (r5 0, .inl (ca 0, 6, .inl fun _ => 0)), (r5 1, .inl (ca 0, 6, .inl fun _ => 0)), (r5 2, .inl (ca 0, 6, .inl fun _ => 0)), (r5 3, .inl (ca 0, 6, .inl fun _ => 0)), (r5 4, .inl (ca 0, 6, .inl fun _ => 0)), (r5 5, .inl (ca 0, 6, .inl fun _ => 0)), (q6, .inl (ca 5, 6, refs (va_up ((va_up ((va_up ((va_up (fun _ => none) (0 : Int32).toNatClampNeg (some (b9 0)))) (1 : Int32).toNatClampNeg (some (b11 0)))) (2 : Int32).toNatClampNeg (some (b13 0)))) (3 : Int32).toNatClampNeg (some (b15 0))))), (q7, .inl (ca 0, 6, .inl fun _ => 0))]) ++ kkX7 ca b9) ++ kkX7 ca b11) ++ kkX7 ca b13) ++ kkX7 ca b15) := hD
  refine lv_iinc (v := 4) (lv' := [(1, .int 4), (0, .ref q)]) C.1 C.2.1 dX2_init_73 hl (k := 0) rfl (by decide) (by decide) rfl (fun ls hl => ?_)
  refine lv_goto (tgt := 54) C.1 C.2.1 dX2_init_76 (by decide) ?_
  refine lv_iload_n C.1 C.2.1 dX2_init_54 rfl (lv_at hl 0 rfl) ?_
  refine lv_bipush (v := 6) C.1 C.2.1 dX2_init_55 (by decide) ?_
  refine lv_icmp_ge (tgt := 79) C.1 C.2.1 dX2_init_57 (by decide) (fun c => absurd c (by decide)) (fun _ => ?_)
  refine lv_aload_n C.1 C.2.1 dX2_init_60 rfl (lv_at hl 1 rfl) ?_
  refine y_get C hP rfl (k := 3) kX2 (by decide) rfl q_276 rfl dX2_init_61 ?_
  refine lv_iload_n C.1 C.2.1 dX2_init_64 rfl (lv_at hl 0 rfl) ?_
  refine y_newo C hP hD hS hA [.null, .null, .null, .int 0, .int 0] kX7 (fun j hj => by (rcases (by omega : j = 0 ∨ j = 1 ∨ j = 2 ∨ j = 3 ∨ j = 4) with rfl | rfl | rfl | rfl | rfl <;> rfl)) q_268 q_133 q_5 (Nat.le_of_ble_eq_true rfl) (Nat.le_of_ble_eq_true rfl) dX2_init_65 (fun q16 H hP hD hS => ?_)
  have hP : va_P D vwCl ((((((([(q, .inr (2, [.ref q1, .ref (b3 0), .ref q4, .ref q6, .ref q7, .int 0])), (q1, .inl (ca 0, 6, .inl fun _ => 0))] ++ kkX7 ca b3) ++ [(q4, .inl (ca 4, 6, refs (fun i => if i < 6 then some (r5 i) else none))), (r5 0, .inl (ca 0, 6, .inl fun _ => 0)), (r5 1, .inl (ca 0, 6, .inl fun _ => 0)), (r5 2, .inl (ca 0, 6, .inl fun _ => 0)), (r5 3, .inl (ca 0, 6, .inl fun _ => 0)), (r5 4, .inl (ca 0, 6, .inl fun _ => 0)), (r5 5, .inl (ca 0, 6, .inl fun _ => 0)), (q6, .inl (ca 5, 6, refs (va_up ((va_up ((va_up ((va_up (fun _ => none) (0 : Int32).toNatClampNeg (some (b9 0)))) (1 : Int32).toNatClampNeg (some (b11 0)))) (2 : Int32).toNatClampNeg (some (b13 0)))) (3 : Int32).toNatClampNeg (some (b15 0))))), (q7, .inl (ca 0, 6, .inl fun _ => 0))]) ++ kkX7 ca b9) ++ kkX7 ca b11) ++ kkX7 ca b13) ++ kkX7 ca b15) ++ [(q16, .inr (7, [.null, .null, .null, .int 0, .int 0]))]) H := hP
  have hD : va_D A ((((((([(q, .inr (2, [.ref q1, .ref (b3 0), .ref q4, .ref q6, .ref q7, .int 0])), (q1, .inl (ca 0, 6, .inl fun _ => 0))] ++ kkX7 ca b3) ++ [(q4, .inl (ca 4, 6, refs (fun i => if i < 6 then some (r5 i) else none))), (r5 0, .inl (ca 0, 6, .inl fun _ => 0)), (r5 1, .inl (ca 0, 6, .inl fun _ => 0)), (r5 2, .inl (ca 0, 6, .inl fun _ => 0)), (r5 3, .inl (ca 0, 6, .inl fun _ => 0)), (r5 4, .inl (ca 0, 6, .inl fun _ => 0)), (r5 5, .inl (ca 0, 6, .inl fun _ => 0)), (q6, .inl (ca 5, 6, refs (va_up ((va_up ((va_up ((va_up (fun _ => none) (0 : Int32).toNatClampNeg (some (b9 0)))) (1 : Int32).toNatClampNeg (some (b11 0)))) (2 : Int32).toNatClampNeg (some (b13 0)))) (3 : Int32).toNatClampNeg (some (b15 0))))), (q7, .inl (ca 0, 6, .inl fun _ => 0))]) ++ kkX7 ca b9) ++ kkX7 ca b11) ++ kkX7 ca b13) ++ kkX7 ca b15) ++ [(q16, .inr (7, [.null, .null, .null, .int 0, .int 0]))]) := hD
  refine W.widen (k := 31) (n := 185) (by decide) (by decide) ?_
  refine lv_dup C.1 C.2.1 dX2_init_68 rfl ?_
  refine y_call (kX := kkX7 ca) hP hD hS hA (y_runIN (host := "HeavyFiles") C hN hP [] [.ref q16, .int 4, .ref q6] RX7 kiX7_init (by decide +kernel) (tX7_init l D ca q16 H.size) rfl rfl ⟨by decide, by decide⟩ rfl hl.1 rfl (Nat.le_of_ble_eq_true rfl) dX2_init_69 ⟨Nat.le_of_ble_eq_true rfl, Nat.le_of_ble_eq_true rfl⟩) (fun b17 H locs eb17 hP hD hS => ?_)
  rw [← eb17]
  have hP : va_P D vwCl ((((((([(q, .inr (2, [.ref q1, .ref (b3 0), .ref q4, .ref q6, .ref q7, .int 0])), (q1, .inl (ca 0, 6, .inl fun _ => 0))] ++ kkX7 ca b3) ++ [(q4, .inl (ca 4, 6, refs (fun i => if i < 6 then some (r5 i) else none))), (r5 0, .inl (ca 0, 6, .inl fun _ => 0)), (r5 1, .inl (ca 0, 6, .inl fun _ => 0)), (r5 2, .inl (ca 0, 6, .inl fun _ => 0)), (r5 3, .inl (ca 0, 6, .inl fun _ => 0)), (r5 4, .inl (ca 0, 6, .inl fun _ => 0)), (r5 5, .inl (ca 0, 6, .inl fun _ => 0)), (q6, .inl (ca 5, 6, refs (va_up ((va_up ((va_up ((va_up (fun _ => none) (0 : Int32).toNatClampNeg (some (b9 0)))) (1 : Int32).toNatClampNeg (some (b11 0)))) (2 : Int32).toNatClampNeg (some (b13 0)))) (3 : Int32).toNatClampNeg (some (b15 0))))), (q7, .inl (ca 0, 6, .inl fun _ => 0))]) ++ kkX7 ca b9) ++ kkX7 ca b11) ++ kkX7 ca b13) ++ kkX7 ca b15) ++ kkX7 ca b17) H := hP
  have hD : va_D A ((((((([(q, .inr (2, [.ref q1, .ref (b3 0), .ref q4, .ref q6, .ref q7, .int 0])), (q1, .inl (ca 0, 6, .inl fun _ => 0))] ++ kkX7 ca b3) ++ [(q4, .inl (ca 4, 6, refs (fun i => if i < 6 then some (r5 i) else none))), (r5 0, .inl (ca 0, 6, .inl fun _ => 0)), (r5 1, .inl (ca 0, 6, .inl fun _ => 0)), (r5 2, .inl (ca 0, 6, .inl fun _ => 0)), (r5 3, .inl (ca 0, 6, .inl fun _ => 0)), (r5 4, .inl (ca 0, 6, .inl fun _ => 0)), (r5 5, .inl (ca 0, 6, .inl fun _ => 0)), (q6, .inl (ca 5, 6, refs (va_up ((va_up ((va_up ((va_up (fun _ => none) (0 : Int32).toNatClampNeg (some (b9 0)))) (1 : Int32).toNatClampNeg (some (b11 0)))) (2 : Int32).toNatClampNeg (some (b13 0)))) (3 : Int32).toNatClampNeg (some (b15 0))))), (q7, .inl (ca 0, 6, .inl fun _ => 0))]) ++ kkX7 ca b9) ++ kkX7 ca b11) ++ kkX7 ca b13) ++ kkX7 ca b15) ++ kkX7 ca b17) := hD
  refine W.widen (k := 34) (n := 204) (by decide) (by decide) ?_
  refine y_asto C hP hD hS 13 31 5 rfl rfl rfl rfl (by decide) dX2_init_72 (fun H locs hP hD hS => ?_)
  have hP : va_P D vwCl ((((((([(q, .inr (2, [.ref q1, .ref (b3 0), .ref q4, .ref q6, .ref q7, .int 0])), (q1, .inl (ca 0, 6, .inl fun _ => 0))] ++ kkX7 ca b3) ++ [(q4, .inl (ca 4, 6, refs (fun i => if i < 6 then some (r5 i) else none))), (r5 0, .inl (ca 0, 6, .inl fun _ => 0)), (r5 1, .inl (ca 0, 6, .inl fun _ => 0)), (r5 2, .inl (ca 0, 6, .inl fun _ => 0)), (r5 3, .inl (ca 0, 6, .inl fun _ => 0)), (r5 4, .inl (ca 0, 6, .inl fun _ => 0)), (r5 5, .inl (ca 0, 6, .inl fun _ => 0)), (q6, .inl (ca 5, 6, refs (va_up ((va_up ((va_up ((va_up ((va_up (fun _ => none) (0 : Int32).toNatClampNeg (some (b9 0)))) (1 : Int32).toNatClampNeg (some (b11 0)))) (2 : Int32).toNatClampNeg (some (b13 0)))) (3 : Int32).toNatClampNeg (some (b15 0)))) (4 : Int32).toNatClampNeg (some (b17 0))))), (q7, .inl (ca 0, 6, .inl fun _ => 0))]) ++ kkX7 ca b9) ++ kkX7 ca b11) ++ kkX7 ca b13) ++ kkX7 ca b15) ++ kkX7 ca b17) H := hP
  have hD : va_D A ((((((([(q, .inr (2, [.ref q1, .ref (b3 0), .ref q4, .ref q6, .ref q7, .int 0])), (q1, .inl (ca 0, 6, .inl fun _ => 0))] ++ kkX7 ca b3) ++ [(q4, .inl (ca 4, 6, refs (fun i => if i < 6 then some (r5 i) else none))), (r5 0, .inl (ca 0, 6, .inl fun _ => 0)), (r5 1, .inl (ca 0, 6, .inl fun _ => 0)), (r5 2, .inl (ca 0, 6, .inl fun _ => 0)), (r5 3, .inl (ca 0, 6, .inl fun _ => 0)), (r5 4, .inl (ca 0, 6, .inl fun _ => 0)), (r5 5, .inl (ca 0, 6, .inl fun _ => 0)), (q6, .inl (ca 5, 6, refs (va_up ((va_up ((va_up ((va_up ((va_up (fun _ => none) (0 : Int32).toNatClampNeg (some (b9 0)))) (1 : Int32).toNatClampNeg (some (b11 0)))) (2 : Int32).toNatClampNeg (some (b13 0)))) (3 : Int32).toNatClampNeg (some (b15 0)))) (4 : Int32).toNatClampNeg (some (b17 0))))), (q7, .inl (ca 0, 6, .inl fun _ => 0))]) ++ kkX7 ca b9) ++ kkX7 ca b11) ++ kkX7 ca b13) ++ kkX7 ca b15) ++ kkX7 ca b17) := hD
  refine lv_iinc (v := 5) (lv' := [(1, .int 5), (0, .ref q)]) C.1 C.2.1 dX2_init_73 hl (k := 0) rfl (by decide) (by decide) rfl (fun ls hl => ?_)
  refine lv_goto (tgt := 54) C.1 C.2.1 dX2_init_76 (by decide) ?_
  refine lv_iload_n C.1 C.2.1 dX2_init_54 rfl (lv_at hl 0 rfl) ?_
  refine lv_bipush (v := 6) C.1 C.2.1 dX2_init_55 (by decide) ?_
  refine lv_icmp_ge (tgt := 79) C.1 C.2.1 dX2_init_57 (by decide) (fun c => absurd c (by decide)) (fun _ => ?_)
  refine lv_aload_n C.1 C.2.1 dX2_init_60 rfl (lv_at hl 1 rfl) ?_
  refine y_get C hP rfl (k := 3) kX2 (by decide) rfl q_276 rfl dX2_init_61 ?_
  refine lv_iload_n C.1 C.2.1 dX2_init_64 rfl (lv_at hl 0 rfl) ?_
  refine y_newo C hP hD hS hA [.null, .null, .null, .int 0, .int 0] kX7 (fun j hj => by (rcases (by omega : j = 0 ∨ j = 1 ∨ j = 2 ∨ j = 3 ∨ j = 4) with rfl | rfl | rfl | rfl | rfl <;> rfl)) q_268 q_133 q_5 (Nat.le_of_ble_eq_true rfl) (Nat.le_of_ble_eq_true rfl) dX2_init_65 (fun q18 H hP hD hS => ?_)
  have hP : va_P D vwCl (((((((([(q, .inr (2, [.ref q1, .ref (b3 0), .ref q4, .ref q6, .ref q7, .int 0])), (q1, .inl (ca 0, 6, .inl fun _ => 0))] ++ kkX7 ca b3) ++ [(q4, .inl (ca 4, 6, refs (fun i => if i < 6 then some (r5 i) else none))), (r5 0, .inl (ca 0, 6, .inl fun _ => 0)), (r5 1, .inl (ca 0, 6, .inl fun _ => 0)), (r5 2, .inl (ca 0, 6, .inl fun _ => 0)), (r5 3, .inl (ca 0, 6, .inl fun _ => 0)), (r5 4, .inl (ca 0, 6, .inl fun _ => 0)), (r5 5, .inl (ca 0, 6, .inl fun _ => 0)), (q6, .inl (ca 5, 6, refs (va_up ((va_up ((va_up ((va_up ((va_up (fun _ => none) (0 : Int32).toNatClampNeg (some (b9 0)))) (1 : Int32).toNatClampNeg (some (b11 0)))) (2 : Int32).toNatClampNeg (some (b13 0)))) (3 : Int32).toNatClampNeg (some (b15 0)))) (4 : Int32).toNatClampNeg (some (b17 0))))), (q7, .inl (ca 0, 6, .inl fun _ => 0))]) ++ kkX7 ca b9) ++ kkX7 ca b11) ++ kkX7 ca b13) ++ kkX7 ca b15) ++ kkX7 ca b17) ++ [(q18, .inr (7, [.null, .null, .null, .int 0, .int 0]))]) H := hP
  have hD : va_D A (((((((([(q, .inr (2, [.ref q1, .ref (b3 0), .ref q4, .ref q6, .ref q7, .int 0])), (q1, .inl (ca 0, 6, .inl fun _ => 0))] ++ kkX7 ca b3) ++ [(q4, .inl (ca 4, 6, refs (fun i => if i < 6 then some (r5 i) else none))), (r5 0, .inl (ca 0, 6, .inl fun _ => 0)), (r5 1, .inl (ca 0, 6, .inl fun _ => 0)), (r5 2, .inl (ca 0, 6, .inl fun _ => 0)), (r5 3, .inl (ca 0, 6, .inl fun _ => 0)), (r5 4, .inl (ca 0, 6, .inl fun _ => 0)), (r5 5, .inl (ca 0, 6, .inl fun _ => 0)), (q6, .inl (ca 5, 6, refs (va_up ((va_up ((va_up ((va_up ((va_up (fun _ => none) (0 : Int32).toNatClampNeg (some (b9 0)))) (1 : Int32).toNatClampNeg (some (b11 0)))) (2 : Int32).toNatClampNeg (some (b13 0)))) (3 : Int32).toNatClampNeg (some (b15 0)))) (4 : Int32).toNatClampNeg (some (b17 0))))), (q7, .inl (ca 0, 6, .inl fun _ => 0))]) ++ kkX7 ca b9) ++ kkX7 ca b11) ++ kkX7 ca b13) ++ kkX7 ca b15) ++ kkX7 ca b17) ++ [(q18, .inr (7, [.null, .null, .null, .int 0, .int 0]))]) := hD
  refine W.widen (k := 35) (n := 209) (by decide) (by decide) ?_
  refine lv_dup C.1 C.2.1 dX2_init_68 rfl ?_
  refine y_call (kX := kkX7 ca) hP hD hS hA (y_runIN (host := "HeavyFiles") C hN hP [] [.ref q18, .int 5, .ref q6] RX7 kiX7_init (by decide +kernel) (tX7_init l D ca q18 H.size) rfl rfl ⟨by decide, by decide⟩ rfl hl.1 rfl (Nat.le_of_ble_eq_true rfl) dX2_init_69 ⟨Nat.le_of_ble_eq_true rfl, Nat.le_of_ble_eq_true rfl⟩) (fun b19 H locs eb19 hP hD hS => ?_)
  rw [← eb19]
  have hP : va_P D vwCl (((((((([(q, .inr (2, [.ref q1, .ref (b3 0), .ref q4, .ref q6, .ref q7, .int 0])), (q1, .inl (ca 0, 6, .inl fun _ => 0))] ++ kkX7 ca b3) ++ [(q4, .inl (ca 4, 6, refs (fun i => if i < 6 then some (r5 i) else none))), (r5 0, .inl (ca 0, 6, .inl fun _ => 0)), (r5 1, .inl (ca 0, 6, .inl fun _ => 0)), (r5 2, .inl (ca 0, 6, .inl fun _ => 0)), (r5 3, .inl (ca 0, 6, .inl fun _ => 0)), (r5 4, .inl (ca 0, 6, .inl fun _ => 0)), (r5 5, .inl (ca 0, 6, .inl fun _ => 0)), (q6, .inl (ca 5, 6, refs (va_up ((va_up ((va_up ((va_up ((va_up (fun _ => none) (0 : Int32).toNatClampNeg (some (b9 0)))) (1 : Int32).toNatClampNeg (some (b11 0)))) (2 : Int32).toNatClampNeg (some (b13 0)))) (3 : Int32).toNatClampNeg (some (b15 0)))) (4 : Int32).toNatClampNeg (some (b17 0))))), (q7, .inl (ca 0, 6, .inl fun _ => 0))]) ++ kkX7 ca b9) ++ kkX7 ca b11) ++ kkX7 ca b13) ++ kkX7 ca b15) ++ kkX7 ca b17) ++ kkX7 ca b19) H := hP
  have hD : va_D A (((((((([(q, .inr (2, [.ref q1, .ref (b3 0), .ref q4, .ref q6, .ref q7, .int 0])), (q1, .inl (ca 0, 6, .inl fun _ => 0))] ++ kkX7 ca b3) ++ [(q4, .inl (ca 4, 6, refs (fun i => if i < 6 then some (r5 i) else none))), (r5 0, .inl (ca 0, 6, .inl fun _ => 0)), (r5 1, .inl (ca 0, 6, .inl fun _ => 0)), (r5 2, .inl (ca 0, 6, .inl fun _ => 0)), (r5 3, .inl (ca 0, 6, .inl fun _ => 0)), (r5 4, .inl (ca 0, 6, .inl fun _ => 0)), (r5 5, .inl (ca 0, 6, .inl fun _ => 0)), (q6, .inl (ca 5, 6, refs (va_up ((va_up ((va_up ((va_up ((va_up (fun _ => none) (0 : Int32).toNatClampNeg (some (b9 0)))) (1 : Int32).toNatClampNeg (some (b11 0)))) (2 : Int32).toNatClampNeg (some (b13 0)))) (3 : Int32).toNatClampNeg (some (b15 0)))) (4 : Int32).toNatClampNeg (some (b17 0))))), (q7, .inl (ca 0, 6, .inl fun _ => 0))]) ++ kkX7 ca b9) ++ kkX7 ca b11) ++ kkX7 ca b13) ++ kkX7 ca b15) ++ kkX7 ca b17) ++ kkX7 ca b19) := hD
  refine W.widen (k := 38) (n := 228) (by decide) (by decide) ?_
  refine y_asto C hP hD hS 13 35 5 rfl rfl rfl rfl (by decide) dX2_init_72 (fun H locs hP hD hS => ?_)
  have hP : va_P D vwCl (((((((([(q, .inr (2, [.ref q1, .ref (b3 0), .ref q4, .ref q6, .ref q7, .int 0])), (q1, .inl (ca 0, 6, .inl fun _ => 0))] ++ kkX7 ca b3) ++ [(q4, .inl (ca 4, 6, refs (fun i => if i < 6 then some (r5 i) else none))), (r5 0, .inl (ca 0, 6, .inl fun _ => 0)), (r5 1, .inl (ca 0, 6, .inl fun _ => 0)), (r5 2, .inl (ca 0, 6, .inl fun _ => 0)), (r5 3, .inl (ca 0, 6, .inl fun _ => 0)), (r5 4, .inl (ca 0, 6, .inl fun _ => 0)), (r5 5, .inl (ca 0, 6, .inl fun _ => 0)), (q6, .inl (ca 5, 6, refs (va_up ((va_up ((va_up ((va_up ((va_up ((va_up (fun _ => none) (0 : Int32).toNatClampNeg (some (b9 0)))) (1 : Int32).toNatClampNeg (some (b11 0)))) (2 : Int32).toNatClampNeg (some (b13 0)))) (3 : Int32).toNatClampNeg (some (b15 0)))) (4 : Int32).toNatClampNeg (some (b17 0)))) (5 : Int32).toNatClampNeg (some (b19 0))))), (q7, .inl (ca 0, 6, .inl fun _ => 0))]) ++ kkX7 ca b9) ++ kkX7 ca b11) ++ kkX7 ca b13) ++ kkX7 ca b15) ++ kkX7 ca b17) ++ kkX7 ca b19) H := hP
  have hD : va_D A (((((((([(q, .inr (2, [.ref q1, .ref (b3 0), .ref q4, .ref q6, .ref q7, .int 0])), (q1, .inl (ca 0, 6, .inl fun _ => 0))] ++ kkX7 ca b3) ++ [(q4, .inl (ca 4, 6, refs (fun i => if i < 6 then some (r5 i) else none))), (r5 0, .inl (ca 0, 6, .inl fun _ => 0)), (r5 1, .inl (ca 0, 6, .inl fun _ => 0)), (r5 2, .inl (ca 0, 6, .inl fun _ => 0)), (r5 3, .inl (ca 0, 6, .inl fun _ => 0)), (r5 4, .inl (ca 0, 6, .inl fun _ => 0)), (r5 5, .inl (ca 0, 6, .inl fun _ => 0)), (q6, .inl (ca 5, 6, refs (va_up ((va_up ((va_up ((va_up ((va_up ((va_up (fun _ => none) (0 : Int32).toNatClampNeg (some (b9 0)))) (1 : Int32).toNatClampNeg (some (b11 0)))) (2 : Int32).toNatClampNeg (some (b13 0)))) (3 : Int32).toNatClampNeg (some (b15 0)))) (4 : Int32).toNatClampNeg (some (b17 0)))) (5 : Int32).toNatClampNeg (some (b19 0))))), (q7, .inl (ca 0, 6, .inl fun _ => 0))]) ++ kkX7 ca b9) ++ kkX7 ca b11) ++ kkX7 ca b13) ++ kkX7 ca b15) ++ kkX7 ca b17) ++ kkX7 ca b19) := hD
  refine lv_iinc (v := 6) (lv' := [(1, .int 6), (0, .ref q)]) C.1 C.2.1 dX2_init_73 hl (k := 0) rfl (by decide) (by decide) rfl (fun ls hl => ?_)
  refine lv_goto (tgt := 54) C.1 C.2.1 dX2_init_76 (by decide) ?_
  refine lv_iload_n C.1 C.2.1 dX2_init_54 rfl (lv_at hl 0 rfl) ?_
  refine lv_bipush (v := 6) C.1 C.2.1 dX2_init_55 (by decide) ?_
  refine lv_icmp_ge (tgt := 79) C.1 C.2.1 dX2_init_57 (by decide) (fun _ => ?_) (fun c => absurd (by decide) c)
  obtain ⟨hP, hD⟩ := y_reco (k := 6) (fun j => some ([r5 0, r5 1, r5 2, r5 3, r5 4, r5 5].getD j 0)) hP hD rfl (by intro j hj; rcases (by omega : j = 0 ∨ j = 1 ∨ j = 2 ∨ j = 3 ∨ j = 4 ∨ j = 5) with rfl | rfl | rfl | rfl | rfl | rfl <;> rfl)
  have hP : va_P D vwCl (((((((([(q, .inr (2, [.ref q1, .ref (b3 0), .ref q4, .ref q6, .ref q7, .int 0])), (q1, .inl (ca 0, 6, .inl fun _ => 0))] ++ kkX7 ca b3) ++ [(q4, .inl (ca 4, 6, refs (fun j => some ([r5 0, r5 1, r5 2, r5 3, r5 4, r5 5].getD j 0)))), (r5 0, .inl (ca 0, 6, .inl fun _ => 0)), (r5 1, .inl (ca 0, 6, .inl fun _ => 0)), (r5 2, .inl (ca 0, 6, .inl fun _ => 0)), (r5 3, .inl (ca 0, 6, .inl fun _ => 0)), (r5 4, .inl (ca 0, 6, .inl fun _ => 0)), (r5 5, .inl (ca 0, 6, .inl fun _ => 0)), (q6, .inl (ca 5, 6, refs (va_up ((va_up ((va_up ((va_up ((va_up ((va_up (fun _ => none) (0 : Int32).toNatClampNeg (some (b9 0)))) (1 : Int32).toNatClampNeg (some (b11 0)))) (2 : Int32).toNatClampNeg (some (b13 0)))) (3 : Int32).toNatClampNeg (some (b15 0)))) (4 : Int32).toNatClampNeg (some (b17 0)))) (5 : Int32).toNatClampNeg (some (b19 0))))), (q7, .inl (ca 0, 6, .inl fun _ => 0))]) ++ kkX7 ca b9) ++ kkX7 ca b11) ++ kkX7 ca b13) ++ kkX7 ca b15) ++ kkX7 ca b17) ++ kkX7 ca b19) H := hP
  have hD : va_D A (((((((([(q, .inr (2, [.ref q1, .ref (b3 0), .ref q4, .ref q6, .ref q7, .int 0])), (q1, .inl (ca 0, 6, .inl fun _ => 0))] ++ kkX7 ca b3) ++ [(q4, .inl (ca 4, 6, refs (fun j => some ([r5 0, r5 1, r5 2, r5 3, r5 4, r5 5].getD j 0)))), (r5 0, .inl (ca 0, 6, .inl fun _ => 0)), (r5 1, .inl (ca 0, 6, .inl fun _ => 0)), (r5 2, .inl (ca 0, 6, .inl fun _ => 0)), (r5 3, .inl (ca 0, 6, .inl fun _ => 0)), (r5 4, .inl (ca 0, 6, .inl fun _ => 0)), (r5 5, .inl (ca 0, 6, .inl fun _ => 0)), (q6, .inl (ca 5, 6, refs (va_up ((va_up ((va_up ((va_up ((va_up ((va_up (fun _ => none) (0 : Int32).toNatClampNeg (some (b9 0)))) (1 : Int32).toNatClampNeg (some (b11 0)))) (2 : Int32).toNatClampNeg (some (b13 0)))) (3 : Int32).toNatClampNeg (some (b15 0)))) (4 : Int32).toNatClampNeg (some (b17 0)))) (5 : Int32).toNatClampNeg (some (b19 0))))), (q7, .inl (ca 0, 6, .inl fun _ => 0))]) ++ kkX7 ca b9) ++ kkX7 ca b11) ++ kkX7 ca b13) ++ kkX7 ca b15) ++ kkX7 ca b17) ++ kkX7 ca b19) := hD
  obtain ⟨hP, hD⟩ := y_reco (k := 13) (fun j => some ([b9 0, b11 0, b13 0, b15 0, b17 0, b19 0].getD j 0)) hP hD rfl (by intro j hj; rcases (by omega : j = 0 ∨ j = 1 ∨ j = 2 ∨ j = 3 ∨ j = 4 ∨ j = 5) with rfl | rfl | rfl | rfl | rfl | rfl <;> rfl)
  have hP : va_P D vwCl (((((((([(q, .inr (2, [.ref q1, .ref (b3 0), .ref q4, .ref q6, .ref q7, .int 0])), (q1, .inl (ca 0, 6, .inl fun _ => 0))] ++ kkX7 ca b3) ++ [(q4, .inl (ca 4, 6, refs (fun j => some ([r5 0, r5 1, r5 2, r5 3, r5 4, r5 5].getD j 0)))), (r5 0, .inl (ca 0, 6, .inl fun _ => 0)), (r5 1, .inl (ca 0, 6, .inl fun _ => 0)), (r5 2, .inl (ca 0, 6, .inl fun _ => 0)), (r5 3, .inl (ca 0, 6, .inl fun _ => 0)), (r5 4, .inl (ca 0, 6, .inl fun _ => 0)), (r5 5, .inl (ca 0, 6, .inl fun _ => 0)), (q6, .inl (ca 5, 6, refs (fun j => some ([b9 0, b11 0, b13 0, b15 0, b17 0, b19 0].getD j 0)))), (q7, .inl (ca 0, 6, .inl fun _ => 0))]) ++ kkX7 ca b9) ++ kkX7 ca b11) ++ kkX7 ca b13) ++ kkX7 ca b15) ++ kkX7 ca b17) ++ kkX7 ca b19) H := hP
  have hD : va_D A (((((((([(q, .inr (2, [.ref q1, .ref (b3 0), .ref q4, .ref q6, .ref q7, .int 0])), (q1, .inl (ca 0, 6, .inl fun _ => 0))] ++ kkX7 ca b3) ++ [(q4, .inl (ca 4, 6, refs (fun j => some ([r5 0, r5 1, r5 2, r5 3, r5 4, r5 5].getD j 0)))), (r5 0, .inl (ca 0, 6, .inl fun _ => 0)), (r5 1, .inl (ca 0, 6, .inl fun _ => 0)), (r5 2, .inl (ca 0, 6, .inl fun _ => 0)), (r5 3, .inl (ca 0, 6, .inl fun _ => 0)), (r5 4, .inl (ca 0, 6, .inl fun _ => 0)), (r5 5, .inl (ca 0, 6, .inl fun _ => 0)), (q6, .inl (ca 5, 6, refs (fun j => some ([b9 0, b11 0, b13 0, b15 0, b17 0, b19 0].getD j 0)))), (q7, .inl (ca 0, 6, .inl fun _ => 0))]) ++ kkX7 ca b9) ++ kkX7 ca b11) ++ kkX7 ca b13) ++ kkX7 ca b15) ++ kkX7 ca b17) ++ kkX7 ca b19) := hD
  exact y_end (kX := kkX2 ca) C (fun k => [q, q1, b3 0, b3 1, b3 2, b3 3, q4, r5 0, r5 1, r5 2, r5 3, r5 4, r5 5, q6, q7, b9 0, b9 1, b9 2, b9 3, b11 0, b11 1, b11 2, b11 3, b13 0, b13 1, b13 2, b13 3, b15 0, b15 1, b15 2, b15 3, b17 0, b17 1, b17 2, b17 3, b19 0, b19 1, b19 2, b19 3].getD k 0) rfl hP hD hS rfl rfl dX2_init_79
theorem dX0_init_0 : decode cX0_init 0 = .ok (.aload_n 0, 1) := by decide +kernel
theorem dX0_init_1 : decode cX0_init 1 = .ok (.invokespecial 3, 3) := by decide +kernel
theorem dX0_init_4 : decode cX0_init 4 = .ok (.aload_n 0, 1) := by decide +kernel
theorem dX0_init_5 : decode cX0_init 5 = .ok (.bipush 6, 2) := by decide +kernel
theorem dX0_init_7 : decode cX0_init 7 = .ok (.anewarray 9, 3) := by decide +kernel
theorem dX0_init_10 : decode cX0_init 10 = .ok (.putfield 11, 3) := by decide +kernel
theorem dX0_init_13 : decode cX0_init 13 = .ok (.aload_n 0, 1) := by decide +kernel
theorem dX0_init_14 : decode cX0_init 14 = .ok (.iconst 2, 1) := by decide +kernel
theorem dX0_init_15 : decode cX0_init 15 = .ok (.newarray .int, 2) := by decide +kernel
theorem dX0_init_17 : decode cX0_init 17 = .ok (.putfield 17, 3) := by decide +kernel
theorem dX0_init_20 : decode cX0_init 20 = .ok (.aload_n 0, 1) := by decide +kernel
theorem dX0_init_21 : decode cX0_init 21 = .ok (.iconst 4, 1) := by decide +kernel
theorem dX0_init_22 : decode cX0_init 22 = .ok (.newarray .int, 2) := by decide +kernel
theorem dX0_init_24 : decode cX0_init 24 = .ok (.putfield 21, 3) := by decide +kernel
theorem dX0_init_27 : decode cX0_init 27 = .ok (.aload_n 0, 1) := by decide +kernel
theorem dX0_init_28 : decode cX0_init 28 = .ok (.bipush 8, 2) := by decide +kernel
theorem dX0_init_30 : decode cX0_init 30 = .ok (.bipush 6, 2) := by decide +kernel
theorem dX0_init_32 : decode cX0_init 32 = .ok (.multianewarray 24 2, 4) := by decide +kernel
theorem dX0_init_36 : decode cX0_init 36 = .ok (.putfield 26, 3) := by decide +kernel
theorem dX0_init_39 : decode cX0_init 39 = .ok (.aload_n 0, 1) := by decide +kernel
theorem dX0_init_40 : decode cX0_init 40 = .ok (.bipush 8, 2) := by decide +kernel
theorem dX0_init_42 : decode cX0_init 42 = .ok (.newarray .int, 2) := by decide +kernel
theorem dX0_init_44 : decode cX0_init 44 = .ok (.putfield 29, 3) := by decide +kernel
theorem dX0_init_47 : decode cX0_init 47 = .ok (.iconst 0, 1) := by decide +kernel
theorem dX0_init_48 : decode cX0_init 48 = .ok (.istore_n 1, 1) := by decide +kernel
theorem dX0_init_49 : decode cX0_init 49 = .ok (.iload_n 1, 1) := by decide +kernel
theorem dX0_init_50 : decode cX0_init 50 = .ok (.bipush 6, 2) := by decide +kernel
theorem dX0_init_52 : decode cX0_init 52 = .ok (.if_icmp .ge 22, 3) := by decide +kernel
theorem dX0_init_55 : decode cX0_init 55 = .ok (.aload_n 0, 1) := by decide +kernel
theorem dX0_init_56 : decode cX0_init 56 = .ok (.getfield 11, 3) := by decide +kernel
theorem dX0_init_59 : decode cX0_init 59 = .ok (.iload_n 1, 1) := by decide +kernel
theorem dX0_init_60 : decode cX0_init 60 = .ok (.new 9, 3) := by decide +kernel
theorem dX0_init_63 : decode cX0_init 63 = .ok (.dup, 1) := by decide +kernel
theorem dX0_init_64 : decode cX0_init 64 = .ok (.invokespecial 32, 3) := by decide +kernel
theorem dX0_init_67 : decode cX0_init 67 = .ok (.aastore, 1) := by decide +kernel
theorem dX0_init_68 : decode cX0_init 68 = .ok (.iinc 1 1, 3) := by decide +kernel
theorem dX0_init_71 : decode cX0_init 71 = .ok (.goto (-22), 3) := by decide +kernel
theorem dX0_init_74 : decode cX0_init 74 = .ok (.return_, 1) := by decide +kernel
theorem q_32 : Cond.methodLink RX0 3 objectInit ∈ wT := wi_t 32 (by decide +kernel) (by decide +kernel)
theorem q_33 : Cond.classLink RX0 9 "HeavyFiles$Suit" ∈ wT := wi_t 33 (by decide +kernel) (by decide +kernel)
theorem q_35 : Cond.classLink RX0 24 "[[I" ∈ wT := wi_t 35 (by decide +kernel) (by decide +kernel)
theorem q_37 : Cond.instantiable RX9 3 ∈ wT := wi_t 37 (by decide +kernel) (by decide +kernel)
theorem q_40 : Cond.code yX9_init cX9_init 1 none ∈ wT := wi_t 40 (by decide +kernel) (by decide +kernel)
theorem q_39 : Cond.instanceMethod yX9_init ∈ wT := wi_t 39 (by decide +kernel) (by decide +kernel)
theorem kiX9_init : KI yX9_init RX9 cX9_init 1 0 := ⟨rfl, rfl, q_39, q_3, q_40, by decide +kernel, by decide +kernel, by decide +kernel⟩
def kkX0 (ca a : Nat → Nat) : va_W := (((((([(a 0, .inr (0, [.ref (a 1), .ref (a 2), .ref (a 3), .ref (a 4), .ref (a 13), .int 0, .int 0, .int 0, .int 0])), (a 1, .inl (ca 3, 6, refs (fun j => some ([a 14, a 15, a 16, a 17, a 18, a 19].getD j 0)))), (a 2, .inl (ca 0, 2, .inl fun _ => 0)), (a 3, .inl (ca 0, 4, .inl fun _ => 0)), (a 4, .inl (ca 4, 8, refs (fun j => some ([a 5, a 6, a 7, a 8, a 9, a 10, a 11, a 12].getD j 0)))), (a 5, .inl (ca 0, 6, .inl fun _ => 0)), (a 6, .inl (ca 0, 6, .inl fun _ => 0)), (a 7, .inl (ca 0, 6, .inl fun _ => 0)), (a 8, .inl (ca 0, 6, .inl fun _ => 0)), (a 9, .inl (ca 0, 6, .inl fun _ => 0)), (a 10, .inl (ca 0, 6, .inl fun _ => 0)), (a 11, .inl (ca 0, 6, .inl fun _ => 0)), (a 12, .inl (ca 0, 6, .inl fun _ => 0)), (a 13, .inl (ca 0, 8, .inl fun _ => 0))] ++ kkX9 ca (fun j => a (14 + j))) ++ kkX9 ca (fun j => a (15 + j))) ++ kkX9 ca (fun j => a (16 + j))) ++ kkX9 ca (fun j => a (17 + j))) ++ kkX9 ca (fun j => a (18 + j))) ++ kkX9 ca (fun j => a (19 + j)))
set_option maxRecDepth 100000 in
set_option maxHeartbeats 8000000 in
theorem tX0_init (l : Launch) (D : va_G) (ca : Nat → Nat) (q sz : Nat) : Met l yX0_init (WS yX0_init cX0_init 2 none) ({ frames := 2, cells := 19, slots := 94, locals := 68 } : Room) (PI D ca q 0 [.null, .null, .null, .null, .null, .int 0, .int 0, .int 0, .int 0] [] sz) (QN D ca (kkX0 ca) q 0 [.null, .null, .null, .null, .null, .int 0, .int 0, .int 0, .int 0] sz) 19 94 (AI q 0 [.null, .null, .null, .null, .null, .int 0, .int 0, .int 0, .int 0] sz) := by
  refine y_start (by decide) rfl rfl (Nat.le_of_ble_eq_true rfl) (fun p e s m args below meth c ls A hA C hN hin hP hD hS hl => ?_)
  have hl : lv_has ls 2 [(0, .ref q)] := hl
  refine lv_aload_n C.1 C.2.1 dX0_init_0 rfl (lv_at hl 0 rfl) ?_
  refine y_obj C q_32 q_23 q_24 hl.1 (by decide) (by decide) dX0_init_1 ?_
  refine lv_aload_n C.1 C.2.1 dX0_init_4 rfl (lv_at hl 0 rfl) ?_
  refine lv_bipush (v := 6) C.1 C.2.1 dX0_init_5 (by decide) ?_
  refine y_newq C hP hD hS hA 3 rfl hN.2.2.2.1 6 (by decide) (by decide) (by decide) (Nat.le_of_ble_eq_true rfl) (Nat.le_of_ble_eq_true rfl) q_33 dX0_init_7 (fun q1 H hP hD hS => ?_)
  have hP : va_P D vwCl [(q, .inr (0, [.null, .null, .null, .null, .null, .int 0, .int 0, .int 0, .int 0])), (q1, .inl (ca 3, 6, refs fun _ => none))] H := hP
  have hD : va_D A [(q, .inr (0, [.null, .null, .null, .null, .null, .int 0, .int 0, .int 0, .int 0])), (q1, .inl (ca 3, 6, refs fun _ => none))] := hD
  refine W.widen (k := 1) (n := 6) (by decide) (by decide) ?_
  refine y_putF C hP hD hS hin rfl (k := 0) (t1 := (.array (.object "HeavyFiles$Suit"))) kX0 (by decide) rfl rfl q_57 (by decide +kernel) rfl rfl (Nat.le_of_ble_eq_true rfl) dX0_init_10 (fun H locs hP hD hS => ?_)
  have hP : va_P D vwCl [(q, .inr (0, [.ref q1, .null, .null, .null, .null, .int 0, .int 0, .int 0, .int 0])), (q1, .inl (ca 3, 6, refs fun _ => none))] H := hP
  have hD : va_D A [(q, .inr (0, [.ref q1, .null, .null, .null, .null, .int 0, .int 0, .int 0, .int 0])), (q1, .inl (ca 3, 6, refs fun _ => none))] := hD
  refine lv_aload_n C.1 C.2.1 dX0_init_13 rfl (lv_at hl 0 rfl) ?_
  refine lv_iconst (v := 2) C.1 C.2.1 dX0_init_14 (by decide) ?_
  refine y_newa C hP hD hS hA 2 (by decide) (by decide) (by decide) (Nat.le_of_ble_eq_true rfl) (Nat.le_of_ble_eq_true rfl) q_56 dX0_init_15 (fun q2 H hP hD hS => ?_)
  have hP : va_P D vwCl [(q, .inr (0, [.ref q1, .null, .null, .null, .null, .int 0, .int 0, .int 0, .int 0])), (q1, .inl (ca 3, 6, refs fun _ => none)), (q2, .inl (ca 0, 2, .inl fun _ => 0))] H := hP
  have hD : va_D A [(q, .inr (0, [.ref q1, .null, .null, .null, .null, .int 0, .int 0, .int 0, .int 0])), (q1, .inl (ca 3, 6, refs fun _ => none)), (q2, .inl (ca 0, 2, .inl fun _ => 0))] := hD
  refine W.widen (k := 2) (n := 8) (by decide) (by decide) ?_
  refine y_putF C hP hD hS hin rfl (k := 1) (t1 := (.array .int)) kX0 (by decide) rfl rfl q_58 (by decide +kernel) rfl rfl (Nat.le_of_ble_eq_true rfl) dX0_init_17 (fun H locs hP hD hS => ?_)
  have hP : va_P D vwCl [(q, .inr (0, [.ref q1, .ref q2, .null, .null, .null, .int 0, .int 0, .int 0, .int 0])), (q1, .inl (ca 3, 6, refs fun _ => none)), (q2, .inl (ca 0, 2, .inl fun _ => 0))] H := hP
  have hD : va_D A [(q, .inr (0, [.ref q1, .ref q2, .null, .null, .null, .int 0, .int 0, .int 0, .int 0])), (q1, .inl (ca 3, 6, refs fun _ => none)), (q2, .inl (ca 0, 2, .inl fun _ => 0))] := hD
  refine lv_aload_n C.1 C.2.1 dX0_init_20 rfl (lv_at hl 0 rfl) ?_
  refine lv_iconst (v := 4) C.1 C.2.1 dX0_init_21 (by decide) ?_
  refine y_newa C hP hD hS hA 4 (by decide) (by decide) (by decide) (Nat.le_of_ble_eq_true rfl) (Nat.le_of_ble_eq_true rfl) q_56 dX0_init_22 (fun q3 H hP hD hS => ?_)
  have hP : va_P D vwCl [(q, .inr (0, [.ref q1, .ref q2, .null, .null, .null, .int 0, .int 0, .int 0, .int 0])), (q1, .inl (ca 3, 6, refs fun _ => none)), (q2, .inl (ca 0, 2, .inl fun _ => 0)), (q3, .inl (ca 0, 4, .inl fun _ => 0))] H := hP
  have hD : va_D A [(q, .inr (0, [.ref q1, .ref q2, .null, .null, .null, .int 0, .int 0, .int 0, .int 0])), (q1, .inl (ca 3, 6, refs fun _ => none)), (q2, .inl (ca 0, 2, .inl fun _ => 0)), (q3, .inl (ca 0, 4, .inl fun _ => 0))] := hD
  refine W.widen (k := 3) (n := 12) (by decide) (by decide) ?_
  refine y_putF C hP hD hS hin rfl (k := 2) (t1 := (.array .int)) kX0 (by decide) rfl rfl q_63 (by decide +kernel) rfl rfl (Nat.le_of_ble_eq_true rfl) dX0_init_24 (fun H locs hP hD hS => ?_)
  have hP : va_P D vwCl [(q, .inr (0, [.ref q1, .ref q2, .ref q3, .null, .null, .int 0, .int 0, .int 0, .int 0])), (q1, .inl (ca 3, 6, refs fun _ => none)), (q2, .inl (ca 0, 2, .inl fun _ => 0)), (q3, .inl (ca 0, 4, .inl fun _ => 0))] H := hP
  have hD : va_D A [(q, .inr (0, [.ref q1, .ref q2, .ref q3, .null, .null, .int 0, .int 0, .int 0, .int 0])), (q1, .inl (ca 3, 6, refs fun _ => none)), (q2, .inl (ca 0, 2, .inl fun _ => 0)), (q3, .inl (ca 0, 4, .inl fun _ => 0))] := hD
  refine lv_aload_n C.1 C.2.1 dX0_init_27 rfl (lv_at hl 0 rfl) ?_
  refine lv_bipush (v := 8) C.1 C.2.1 dX0_init_28 (by decide) ?_
  refine lv_bipush (v := 6) C.1 C.2.1 dX0_init_30 (by decide) ?_
  refine y_mna C hP hD hS hA hN.2.2.2.2.2 8 6 (by decide) (by decide) (by decide) (by decide) (by decide) (by decide) (Nat.le_of_ble_eq_true rfl) (Nat.le_of_ble_eq_true rfl) q_35 q_56 dX0_init_32 (fun q4 r5 H hP hD hS => ?_)
  have hP : va_P D vwCl [(q, .inr (0, [.ref q1, .ref q2, .ref q3, .null, .null, .int 0, .int 0, .int 0, .int 0])), (q1, .inl (ca 3, 6, refs fun _ => none)), (q2, .inl (ca 0, 2, .inl fun _ => 0)), (q3, .inl (ca 0, 4, .inl fun _ => 0)), (q4, .inl (ca 4, 8, refs (fun i => if i < 8 then some (r5 i) else none))), (r5 0, .inl (ca 0, 6, .inl fun _ => 0)), (r5 1, .inl (ca 0, 6, .inl fun _ => 0)), (r5 2, .inl (ca 0, 6, .inl fun _ => 0)), (r5 3, .inl (ca 0, 6, .inl fun _ => 0)), (r5 4, .inl (ca 0, 6, .inl fun _ => 0)), (r5 5, .inl (ca 0, 6, .inl fun _ => 0)), (r5 6, .inl (ca 0, 6, .inl fun _ => 0)), (r5 7, .inl (ca 0, 6, .inl fun _ => 0))] H := hP
  have hD : va_D A [(q, .inr (0, [.ref q1, .ref q2, .ref q3, .null, .null, .int 0, .int 0, .int 0, .int 0])), (q1, .inl (ca 3, 6, refs fun _ => none)), (q2, .inl (ca 0, 2, .inl fun _ => 0)), (q3, .inl (ca 0, 4, .inl fun _ => 0)), (q4, .inl (ca 4, 8, refs (fun i => if i < 8 then some (r5 i) else none))), (r5 0, .inl (ca 0, 6, .inl fun _ => 0)), (r5 1, .inl (ca 0, 6, .inl fun _ => 0)), (r5 2, .inl (ca 0, 6, .inl fun _ => 0)), (r5 3, .inl (ca 0, 6, .inl fun _ => 0)), (r5 4, .inl (ca 0, 6, .inl fun _ => 0)), (r5 5, .inl (ca 0, 6, .inl fun _ => 0)), (r5 6, .inl (ca 0, 6, .inl fun _ => 0)), (r5 7, .inl (ca 0, 6, .inl fun _ => 0))] := hD
  refine W.widen (k := 12) (n := 68) (by decide) (by decide) ?_
  refine y_putF C hP hD hS hin rfl (k := 3) (t1 := (.array (.array .int))) kX0 (by decide) rfl rfl q_65 (by decide +kernel) rfl rfl (Nat.le_of_ble_eq_true rfl) dX0_init_36 (fun H locs hP hD hS => ?_)
  have hP : va_P D vwCl [(q, .inr (0, [.ref q1, .ref q2, .ref q3, .ref q4, .null, .int 0, .int 0, .int 0, .int 0])), (q1, .inl (ca 3, 6, refs fun _ => none)), (q2, .inl (ca 0, 2, .inl fun _ => 0)), (q3, .inl (ca 0, 4, .inl fun _ => 0)), (q4, .inl (ca 4, 8, refs (fun i => if i < 8 then some (r5 i) else none))), (r5 0, .inl (ca 0, 6, .inl fun _ => 0)), (r5 1, .inl (ca 0, 6, .inl fun _ => 0)), (r5 2, .inl (ca 0, 6, .inl fun _ => 0)), (r5 3, .inl (ca 0, 6, .inl fun _ => 0)), (r5 4, .inl (ca 0, 6, .inl fun _ => 0)), (r5 5, .inl (ca 0, 6, .inl fun _ => 0)), (r5 6, .inl (ca 0, 6, .inl fun _ => 0)), (r5 7, .inl (ca 0, 6, .inl fun _ => 0))] H := hP
  have hD : va_D A [(q, .inr (0, [.ref q1, .ref q2, .ref q3, .ref q4, .null, .int 0, .int 0, .int 0, .int 0])), (q1, .inl (ca 3, 6, refs fun _ => none)), (q2, .inl (ca 0, 2, .inl fun _ => 0)), (q3, .inl (ca 0, 4, .inl fun _ => 0)), (q4, .inl (ca 4, 8, refs (fun i => if i < 8 then some (r5 i) else none))), (r5 0, .inl (ca 0, 6, .inl fun _ => 0)), (r5 1, .inl (ca 0, 6, .inl fun _ => 0)), (r5 2, .inl (ca 0, 6, .inl fun _ => 0)), (r5 3, .inl (ca 0, 6, .inl fun _ => 0)), (r5 4, .inl (ca 0, 6, .inl fun _ => 0)), (r5 5, .inl (ca 0, 6, .inl fun _ => 0)), (r5 6, .inl (ca 0, 6, .inl fun _ => 0)), (r5 7, .inl (ca 0, 6, .inl fun _ => 0))] := hD
  refine lv_aload_n C.1 C.2.1 dX0_init_39 rfl (lv_at hl 0 rfl) ?_
  refine lv_bipush (v := 8) C.1 C.2.1 dX0_init_40 (by decide) ?_
  refine y_newa C hP hD hS hA 8 (by decide) (by decide) (by decide) (Nat.le_of_ble_eq_true rfl) (Nat.le_of_ble_eq_true rfl) q_56 dX0_init_42 (fun q6 H hP hD hS => ?_)
  have hP : va_P D vwCl [(q, .inr (0, [.ref q1, .ref q2, .ref q3, .ref q4, .null, .int 0, .int 0, .int 0, .int 0])), (q1, .inl (ca 3, 6, refs fun _ => none)), (q2, .inl (ca 0, 2, .inl fun _ => 0)), (q3, .inl (ca 0, 4, .inl fun _ => 0)), (q4, .inl (ca 4, 8, refs (fun i => if i < 8 then some (r5 i) else none))), (r5 0, .inl (ca 0, 6, .inl fun _ => 0)), (r5 1, .inl (ca 0, 6, .inl fun _ => 0)), (r5 2, .inl (ca 0, 6, .inl fun _ => 0)), (r5 3, .inl (ca 0, 6, .inl fun _ => 0)), (r5 4, .inl (ca 0, 6, .inl fun _ => 0)), (r5 5, .inl (ca 0, 6, .inl fun _ => 0)), (r5 6, .inl (ca 0, 6, .inl fun _ => 0)), (r5 7, .inl (ca 0, 6, .inl fun _ => 0)), (q6, .inl (ca 0, 8, .inl fun _ => 0))] H := hP
  have hD : va_D A [(q, .inr (0, [.ref q1, .ref q2, .ref q3, .ref q4, .null, .int 0, .int 0, .int 0, .int 0])), (q1, .inl (ca 3, 6, refs fun _ => none)), (q2, .inl (ca 0, 2, .inl fun _ => 0)), (q3, .inl (ca 0, 4, .inl fun _ => 0)), (q4, .inl (ca 4, 8, refs (fun i => if i < 8 then some (r5 i) else none))), (r5 0, .inl (ca 0, 6, .inl fun _ => 0)), (r5 1, .inl (ca 0, 6, .inl fun _ => 0)), (r5 2, .inl (ca 0, 6, .inl fun _ => 0)), (r5 3, .inl (ca 0, 6, .inl fun _ => 0)), (r5 4, .inl (ca 0, 6, .inl fun _ => 0)), (r5 5, .inl (ca 0, 6, .inl fun _ => 0)), (r5 6, .inl (ca 0, 6, .inl fun _ => 0)), (r5 7, .inl (ca 0, 6, .inl fun _ => 0)), (q6, .inl (ca 0, 8, .inl fun _ => 0))] := hD
  refine W.widen (k := 13) (n := 76) (by decide) (by decide) ?_
  refine y_putF C hP hD hS hin rfl (k := 4) (t1 := (.array .int)) kX0 (by decide) rfl rfl q_66 (by decide +kernel) rfl rfl (Nat.le_of_ble_eq_true rfl) dX0_init_44 (fun H locs hP hD hS => ?_)
  have hP : va_P D vwCl [(q, .inr (0, [.ref q1, .ref q2, .ref q3, .ref q4, .ref q6, .int 0, .int 0, .int 0, .int 0])), (q1, .inl (ca 3, 6, refs fun _ => none)), (q2, .inl (ca 0, 2, .inl fun _ => 0)), (q3, .inl (ca 0, 4, .inl fun _ => 0)), (q4, .inl (ca 4, 8, refs (fun i => if i < 8 then some (r5 i) else none))), (r5 0, .inl (ca 0, 6, .inl fun _ => 0)), (r5 1, .inl (ca 0, 6, .inl fun _ => 0)), (r5 2, .inl (ca 0, 6, .inl fun _ => 0)), (r5 3, .inl (ca 0, 6, .inl fun _ => 0)), (r5 4, .inl (ca 0, 6, .inl fun _ => 0)), (r5 5, .inl (ca 0, 6, .inl fun _ => 0)), (r5 6, .inl (ca 0, 6, .inl fun _ => 0)), (r5 7, .inl (ca 0, 6, .inl fun _ => 0)), (q6, .inl (ca 0, 8, .inl fun _ => 0))] H := hP
  have hD : va_D A [(q, .inr (0, [.ref q1, .ref q2, .ref q3, .ref q4, .ref q6, .int 0, .int 0, .int 0, .int 0])), (q1, .inl (ca 3, 6, refs fun _ => none)), (q2, .inl (ca 0, 2, .inl fun _ => 0)), (q3, .inl (ca 0, 4, .inl fun _ => 0)), (q4, .inl (ca 4, 8, refs (fun i => if i < 8 then some (r5 i) else none))), (r5 0, .inl (ca 0, 6, .inl fun _ => 0)), (r5 1, .inl (ca 0, 6, .inl fun _ => 0)), (r5 2, .inl (ca 0, 6, .inl fun _ => 0)), (r5 3, .inl (ca 0, 6, .inl fun _ => 0)), (r5 4, .inl (ca 0, 6, .inl fun _ => 0)), (r5 5, .inl (ca 0, 6, .inl fun _ => 0)), (r5 6, .inl (ca 0, 6, .inl fun _ => 0)), (r5 7, .inl (ca 0, 6, .inl fun _ => 0)), (q6, .inl (ca 0, 8, .inl fun _ => 0))] := hD
  refine lv_iconst (v := 0) C.1 C.2.1 dX0_init_47 (by decide) ?_
  refine lv_istore_n (lv' := [(1, .int 0), (0, .ref q)]) C.1 C.2.1 dX0_init_48 rfl hl (by decide) rfl (fun ls hl => ?_)
  refine lv_iload_n C.1 C.2.1 dX0_init_49 rfl (lv_at hl 0 rfl) ?_
  refine lv_bipush (v := 6) C.1 C.2.1 dX0_init_50 (by decide) ?_
  refine lv_icmp_ge (tgt := 74) C.1 C.2.1 dX0_init_52 (by decide) (fun c => absurd c (by decide)) (fun _ => ?_)
  refine lv_aload_n C.1 C.2.1 dX0_init_55 rfl (lv_at hl 1 rfl) ?_
  refine y_get C hP rfl (k := 0) kX0 (by decide) rfl q_57 rfl dX0_init_56 ?_
  refine lv_iload_n C.1 C.2.1 dX0_init_59 rfl (lv_at hl 0 rfl) ?_
  refine y_newo C hP hD hS hA [.int 0, .int 0, .int 0] kX9 (fun j hj => by (rcases (by omega : j = 0 ∨ j = 1 ∨ j = 2) with rfl | rfl | rfl <;> rfl)) q_33 q_37 q_3 (Nat.le_of_ble_eq_true rfl) (Nat.le_of_ble_eq_true rfl) dX0_init_60 (fun q7 H hP hD hS => ?_)
  have hP : va_P D vwCl ([(q, .inr (0, [.ref q1, .ref q2, .ref q3, .ref q4, .ref q6, .int 0, .int 0, .int 0, .int 0])), (q1, .inl (ca 3, 6, refs fun _ => none)), (q2, .inl (ca 0, 2, .inl fun _ => 0)), (q3, .inl (ca 0, 4, .inl fun _ => 0)), (q4, .inl (ca 4, 8, refs (fun i => if i < 8 then some (r5 i) else none))), (r5 0, .inl (ca 0, 6, .inl fun _ => 0)), (r5 1, .inl (ca 0, 6, .inl fun _ => 0)), (r5 2, .inl (ca 0, 6, .inl fun _ => 0)), (r5 3, .inl (ca 0, 6, .inl fun _ => 0)), (r5 4, .inl (ca 0, 6, .inl fun _ => 0)), (r5 5, .inl (ca 0, 6, .inl fun _ => 0)), (r5 6, .inl (ca 0, 6, .inl fun _ => 0)), (r5 7, .inl (ca 0, 6, .inl fun _ => 0)), (q6, .inl (ca 0, 8, .inl fun _ => 0))] ++ [(q7, .inr (9, [.int 0, .int 0, .int 0]))]) H := hP
  have hD : va_D A ([(q, .inr (0, [.ref q1, .ref q2, .ref q3, .ref q4, .ref q6, .int 0, .int 0, .int 0, .int 0])), (q1, .inl (ca 3, 6, refs fun _ => none)), (q2, .inl (ca 0, 2, .inl fun _ => 0)), (q3, .inl (ca 0, 4, .inl fun _ => 0)), (q4, .inl (ca 4, 8, refs (fun i => if i < 8 then some (r5 i) else none))), (r5 0, .inl (ca 0, 6, .inl fun _ => 0)), (r5 1, .inl (ca 0, 6, .inl fun _ => 0)), (r5 2, .inl (ca 0, 6, .inl fun _ => 0)), (r5 3, .inl (ca 0, 6, .inl fun _ => 0)), (r5 4, .inl (ca 0, 6, .inl fun _ => 0)), (r5 5, .inl (ca 0, 6, .inl fun _ => 0)), (r5 6, .inl (ca 0, 6, .inl fun _ => 0)), (r5 7, .inl (ca 0, 6, .inl fun _ => 0)), (q6, .inl (ca 0, 8, .inl fun _ => 0))] ++ [(q7, .inr (9, [.int 0, .int 0, .int 0]))]) := hD
  refine W.widen (k := 14) (n := 79) (by decide) (by decide) ?_
  refine lv_dup C.1 C.2.1 dX0_init_63 rfl ?_
  refine y_call (kX := kkX9 ca) hP hD hS hA (y_runIN (host := "HeavyFiles") C hN hP [] [.ref q7, .int 0, .ref q1] RX9 kiX9_init (by decide +kernel) (tX9_init l D ca q7 H.size) rfl rfl ⟨by decide, by decide⟩ rfl hl.1 rfl (Nat.le_of_ble_eq_true rfl) dX0_init_64 ⟨Nat.le_of_ble_eq_true rfl, Nat.le_of_ble_eq_true rfl⟩) (fun b8 H locs eb8 hP hD hS => ?_)
  rw [← eb8]
  have hP : va_P D vwCl ([(q, .inr (0, [.ref q1, .ref q2, .ref q3, .ref q4, .ref q6, .int 0, .int 0, .int 0, .int 0])), (q1, .inl (ca 3, 6, refs fun _ => none)), (q2, .inl (ca 0, 2, .inl fun _ => 0)), (q3, .inl (ca 0, 4, .inl fun _ => 0)), (q4, .inl (ca 4, 8, refs (fun i => if i < 8 then some (r5 i) else none))), (r5 0, .inl (ca 0, 6, .inl fun _ => 0)), (r5 1, .inl (ca 0, 6, .inl fun _ => 0)), (r5 2, .inl (ca 0, 6, .inl fun _ => 0)), (r5 3, .inl (ca 0, 6, .inl fun _ => 0)), (r5 4, .inl (ca 0, 6, .inl fun _ => 0)), (r5 5, .inl (ca 0, 6, .inl fun _ => 0)), (r5 6, .inl (ca 0, 6, .inl fun _ => 0)), (r5 7, .inl (ca 0, 6, .inl fun _ => 0)), (q6, .inl (ca 0, 8, .inl fun _ => 0))] ++ kkX9 ca b8) H := hP
  have hD : va_D A ([(q, .inr (0, [.ref q1, .ref q2, .ref q3, .ref q4, .ref q6, .int 0, .int 0, .int 0, .int 0])), (q1, .inl (ca 3, 6, refs fun _ => none)), (q2, .inl (ca 0, 2, .inl fun _ => 0)), (q3, .inl (ca 0, 4, .inl fun _ => 0)), (q4, .inl (ca 4, 8, refs (fun i => if i < 8 then some (r5 i) else none))), (r5 0, .inl (ca 0, 6, .inl fun _ => 0)), (r5 1, .inl (ca 0, 6, .inl fun _ => 0)), (r5 2, .inl (ca 0, 6, .inl fun _ => 0)), (r5 3, .inl (ca 0, 6, .inl fun _ => 0)), (r5 4, .inl (ca 0, 6, .inl fun _ => 0)), (r5 5, .inl (ca 0, 6, .inl fun _ => 0)), (r5 6, .inl (ca 0, 6, .inl fun _ => 0)), (r5 7, .inl (ca 0, 6, .inl fun _ => 0)), (q6, .inl (ca 0, 8, .inl fun _ => 0))] ++ kkX9 ca b8) := hD
  refine W.widen (k := 14) (n := 79) (by decide) (by decide) ?_
  refine y_asto C hP hD hS 1 14 3 rfl rfl rfl rfl (by decide) dX0_init_67 (fun H locs hP hD hS => ?_)
  have hP : va_P D vwCl ([(q, .inr (0, [.ref q1, .ref q2, .ref q3, .ref q4, .ref q6, .int 0, .int 0, .int 0, .int 0])), (q1, .inl (ca 3, 6, refs (va_up (fun _ => none) (0 : Int32).toNatClampNeg (some (b8 0))))), (q2, .inl (ca 0, 2, .inl fun _ => 0)), (q3, .inl (ca 0, 4, .inl fun _ => 0)), (q4, .inl (ca 4, 8, refs (fun i => if i < 8 then some (r5 i) else none))), (r5 0, .inl (ca 0, 6, .inl fun _ => 0)), (r5 1, .inl (ca 0, 6, .inl fun _ => 0)), (r5 2, .inl (ca 0, 6, .inl fun _ => 0)), (r5 3, .inl (ca 0, 6, .inl fun _ => 0)), (r5 4, .inl (ca 0, 6, .inl fun _ => 0)), (r5 5, .inl (ca 0, 6, .inl fun _ => 0)), (r5 6, .inl (ca 0, 6, .inl fun _ => 0)), (r5 7, .inl (ca 0, 6, .inl fun _ => 0)), (q6, .inl (ca 0, 8, .inl fun _ => 0))] ++ kkX9 ca b8) H := hP
  have hD : va_D A ([(q, .inr (0, [.ref q1, .ref q2, .ref q3, .ref q4, .ref q6, .int 0, .int 0, .int 0, .int 0])), (q1, .inl (ca 3, 6, refs (va_up (fun _ => none) (0 : Int32).toNatClampNeg (some (b8 0))))), (q2, .inl (ca 0, 2, .inl fun _ => 0)), (q3, .inl (ca 0, 4, .inl fun _ => 0)), (q4, .inl (ca 4, 8, refs (fun i => if i < 8 then some (r5 i) else none))), (r5 0, .inl (ca 0, 6, .inl fun _ => 0)), (r5 1, .inl (ca 0, 6, .inl fun _ => 0)), (r5 2, .inl (ca 0, 6, .inl fun _ => 0)), (r5 3, .inl (ca 0, 6, .inl fun _ => 0)), (r5 4, .inl (ca 0, 6, .inl fun _ => 0)), (r5 5, .inl (ca 0, 6, .inl fun _ => 0)), (r5 6, .inl (ca 0, 6, .inl fun _ => 0)), (r5 7, .inl (ca 0, 6, .inl fun _ => 0)), (q6, .inl (ca 0, 8, .inl fun _ => 0))] ++ kkX9 ca b8) := hD
  refine lv_iinc (v := 1) (lv' := [(1, .int 1), (0, .ref q)]) C.1 C.2.1 dX0_init_68 hl (k := 0) rfl (by decide) (by decide) rfl (fun ls hl => ?_)
  refine lv_goto (tgt := 49) C.1 C.2.1 dX0_init_71 (by decide) ?_
  refine lv_iload_n C.1 C.2.1 dX0_init_49 rfl (lv_at hl 0 rfl) ?_
  refine lv_bipush (v := 6) C.1 C.2.1 dX0_init_50 (by decide) ?_
  refine lv_icmp_ge (tgt := 74) C.1 C.2.1 dX0_init_52 (by decide) (fun c => absurd c (by decide)) (fun _ => ?_)
  refine lv_aload_n C.1 C.2.1 dX0_init_55 rfl (lv_at hl 1 rfl) ?_
  refine y_get C hP rfl (k := 0) kX0 (by decide) rfl q_57 rfl dX0_init_56 ?_
  refine lv_iload_n C.1 C.2.1 dX0_init_59 rfl (lv_at hl 0 rfl) ?_
  refine y_newo C hP hD hS hA [.int 0, .int 0, .int 0] kX9 (fun j hj => by (rcases (by omega : j = 0 ∨ j = 1 ∨ j = 2) with rfl | rfl | rfl <;> rfl)) q_33 q_37 q_3 (Nat.le_of_ble_eq_true rfl) (Nat.le_of_ble_eq_true rfl) dX0_init_60 (fun q9 H hP hD hS => ?_)
  have hP : va_P D vwCl (([(q, .inr (0, [.ref q1, .ref q2, .ref q3, .ref q4, .ref q6, .int 0, .int 0, .int 0, .int 0])), (q1, .inl (ca 3, 6, refs (va_up (fun _ => none) (0 : Int32).toNatClampNeg (some (b8 0))))), (q2, .inl (ca 0, 2, .inl fun _ => 0)), (q3, .inl (ca 0, 4, .inl fun _ => 0)), (q4, .inl (ca 4, 8, refs (fun i => if i < 8 then some (r5 i) else none))), (r5 0, .inl (ca 0, 6, .inl fun _ => 0)), (r5 1, .inl (ca 0, 6, .inl fun _ => 0)), (r5 2, .inl (ca 0, 6, .inl fun _ => 0)), (r5 3, .inl (ca 0, 6, .inl fun _ => 0)), (r5 4, .inl (ca 0, 6, .inl fun _ => 0)), (r5 5, .inl (ca 0, 6, .inl fun _ => 0)), (r5 6, .inl (ca 0, 6, .inl fun _ => 0)), (r5 7, .inl (ca 0, 6, .inl fun _ => 0)), (q6, .inl (ca 0, 8, .inl fun _ => 0))] ++ kkX9 ca b8) ++ [(q9, .inr (9, [.int 0, .int 0, .int 0]))]) H := hP
  have hD : va_D A (([(q, .inr (0, [.ref q1, .ref q2, .ref q3, .ref q4, .ref q6, .int 0, .int 0, .int 0, .int 0])), (q1, .inl (ca 3, 6, refs (va_up (fun _ => none) (0 : Int32).toNatClampNeg (some (b8 0))))), (q2, .inl (ca 0, 2, .inl fun _ => 0)), (q3, .inl (ca 0, 4, .inl fun _ => 0)), (q4, .inl (ca 4, 8, refs (fun i => if i < 8 then some (r5 i) else none))), (r5 0, .inl (ca 0, 6, .inl fun _ => 0)), (r5 1, .inl (ca 0, 6, .inl fun _ => 0)), (r5 2, .inl (ca 0, 6, .inl fun _ => 0)), (r5 3, .inl (ca 0, 6, .inl fun _ => 0)), (r5 4, .inl (ca 0, 6, .inl fun _ => 0)), (r5 5, .inl (ca 0, 6, .inl fun _ => 0)), (r5 6, .inl (ca 0, 6, .inl fun _ => 0)), (r5 7, .inl (ca 0, 6, .inl fun _ => 0)), (q6, .inl (ca 0, 8, .inl fun _ => 0))] ++ kkX9 ca b8) ++ [(q9, .inr (9, [.int 0, .int 0, .int 0]))]) := hD
  refine W.widen (k := 15) (n := 82) (by decide) (by decide) ?_
  refine lv_dup C.1 C.2.1 dX0_init_63 rfl ?_
  refine y_call (kX := kkX9 ca) hP hD hS hA (y_runIN (host := "HeavyFiles") C hN hP [] [.ref q9, .int 1, .ref q1] RX9 kiX9_init (by decide +kernel) (tX9_init l D ca q9 H.size) rfl rfl ⟨by decide, by decide⟩ rfl hl.1 rfl (Nat.le_of_ble_eq_true rfl) dX0_init_64 ⟨Nat.le_of_ble_eq_true rfl, Nat.le_of_ble_eq_true rfl⟩) (fun b10 H locs eb10 hP hD hS => ?_)
  rw [← eb10]
  have hP : va_P D vwCl (([(q, .inr (0, [.ref q1, .ref q2, .ref q3, .ref q4, .ref q6, .int 0, .int 0, .int 0, .int 0])), (q1, .inl (ca 3, 6, refs (va_up (fun _ => none) (0 : Int32).toNatClampNeg (some (b8 0))))), (q2, .inl (ca 0, 2, .inl fun _ => 0)), (q3, .inl (ca 0, 4, .inl fun _ => 0)), (q4, .inl (ca 4, 8, refs (fun i => if i < 8 then some (r5 i) else none))), (r5 0, .inl (ca 0, 6, .inl fun _ => 0)), (r5 1, .inl (ca 0, 6, .inl fun _ => 0)), (r5 2, .inl (ca 0, 6, .inl fun _ => 0)), (r5 3, .inl (ca 0, 6, .inl fun _ => 0)), (r5 4, .inl (ca 0, 6, .inl fun _ => 0)), (r5 5, .inl (ca 0, 6, .inl fun _ => 0)), (r5 6, .inl (ca 0, 6, .inl fun _ => 0)), (r5 7, .inl (ca 0, 6, .inl fun _ => 0)), (q6, .inl (ca 0, 8, .inl fun _ => 0))] ++ kkX9 ca b8) ++ kkX9 ca b10) H := hP
  have hD : va_D A (([(q, .inr (0, [.ref q1, .ref q2, .ref q3, .ref q4, .ref q6, .int 0, .int 0, .int 0, .int 0])), (q1, .inl (ca 3, 6, refs (va_up (fun _ => none) (0 : Int32).toNatClampNeg (some (b8 0))))), (q2, .inl (ca 0, 2, .inl fun _ => 0)), (q3, .inl (ca 0, 4, .inl fun _ => 0)), (q4, .inl (ca 4, 8, refs (fun i => if i < 8 then some (r5 i) else none))), (r5 0, .inl (ca 0, 6, .inl fun _ => 0)), (r5 1, .inl (ca 0, 6, .inl fun _ => 0)), (r5 2, .inl (ca 0, 6, .inl fun _ => 0)), (r5 3, .inl (ca 0, 6, .inl fun _ => 0)), (r5 4, .inl (ca 0, 6, .inl fun _ => 0)), (r5 5, .inl (ca 0, 6, .inl fun _ => 0)), (r5 6, .inl (ca 0, 6, .inl fun _ => 0)), (r5 7, .inl (ca 0, 6, .inl fun _ => 0)), (q6, .inl (ca 0, 8, .inl fun _ => 0))] ++ kkX9 ca b8) ++ kkX9 ca b10) := hD
  refine W.widen (k := 15) (n := 82) (by decide) (by decide) ?_
  refine y_asto C hP hD hS 1 15 3 rfl rfl rfl rfl (by decide) dX0_init_67 (fun H locs hP hD hS => ?_)
  have hP : va_P D vwCl (([(q, .inr (0, [.ref q1, .ref q2, .ref q3, .ref q4, .ref q6, .int 0, .int 0, .int 0, .int 0])), (q1, .inl (ca 3, 6, refs (va_up ((va_up (fun _ => none) (0 : Int32).toNatClampNeg (some (b8 0)))) (1 : Int32).toNatClampNeg (some (b10 0))))), (q2, .inl (ca 0, 2, .inl fun _ => 0)), (q3, .inl (ca 0, 4, .inl fun _ => 0)), (q4, .inl (ca 4, 8, refs (fun i => if i < 8 then some (r5 i) else none))), (r5 0, .inl (ca 0, 6, .inl fun _ => 0)), (r5 1, .inl (ca 0, 6, .inl fun _ => 0)), (r5 2, .inl (ca 0, 6, .inl fun _ => 0)), (r5 3, .inl (ca 0, 6, .inl fun _ => 0)), (r5 4, .inl (ca 0, 6, .inl fun _ => 0)), (r5 5, .inl (ca 0, 6, .inl fun _ => 0)), (r5 6, .inl (ca 0, 6, .inl fun _ => 0)), (r5 7, .inl (ca 0, 6, .inl fun _ => 0)), (q6, .inl (ca 0, 8, .inl fun _ => 0))] ++ kkX9 ca b8) ++ kkX9 ca b10) H := hP
  have hD : va_D A (([(q, .inr (0, [.ref q1, .ref q2, .ref q3, .ref q4, .ref q6, .int 0, .int 0, .int 0, .int 0])), (q1, .inl (ca 3, 6, refs (va_up ((va_up (fun _ => none) (0 : Int32).toNatClampNeg (some (b8 0)))) (1 : Int32).toNatClampNeg (some (b10 0))))), (q2, .inl (ca 0, 2, .inl fun _ => 0)), (q3, .inl (ca 0, 4, .inl fun _ => 0)), (q4, .inl (ca 4, 8, refs (fun i => if i < 8 then some (r5 i) else none))), (r5 0, .inl (ca 0, 6, .inl fun _ => 0)), (r5 1, .inl (ca 0, 6, .inl fun _ => 0)), (r5 2, .inl (ca 0, 6, .inl fun _ => 0)), (r5 3, .inl (ca 0, 6, .inl fun _ => 0)), (r5 4, .inl (ca 0, 6, .inl fun _ => 0)), (r5 5, .inl (ca 0, 6, .inl fun _ => 0)), (r5 6, .inl (ca 0, 6, .inl fun _ => 0)), (r5 7, .inl (ca 0, 6, .inl fun _ => 0)), (q6, .inl (ca 0, 8, .inl fun _ => 0))] ++ kkX9 ca b8) ++ kkX9 ca b10) := hD
  refine lv_iinc (v := 2) (lv' := [(1, .int 2), (0, .ref q)]) C.1 C.2.1 dX0_init_68 hl (k := 0) rfl (by decide) (by decide) rfl (fun ls hl => ?_)
  refine lv_goto (tgt := 49) C.1 C.2.1 dX0_init_71 (by decide) ?_
  refine lv_iload_n C.1 C.2.1 dX0_init_49 rfl (lv_at hl 0 rfl) ?_
  refine lv_bipush (v := 6) C.1 C.2.1 dX0_init_50 (by decide) ?_
  refine lv_icmp_ge (tgt := 74) C.1 C.2.1 dX0_init_52 (by decide) (fun c => absurd c (by decide)) (fun _ => ?_)
  refine lv_aload_n C.1 C.2.1 dX0_init_55 rfl (lv_at hl 1 rfl) ?_
  refine y_get C hP rfl (k := 0) kX0 (by decide) rfl q_57 rfl dX0_init_56 ?_
  refine lv_iload_n C.1 C.2.1 dX0_init_59 rfl (lv_at hl 0 rfl) ?_
  refine y_newo C hP hD hS hA [.int 0, .int 0, .int 0] kX9 (fun j hj => by (rcases (by omega : j = 0 ∨ j = 1 ∨ j = 2) with rfl | rfl | rfl <;> rfl)) q_33 q_37 q_3 (Nat.le_of_ble_eq_true rfl) (Nat.le_of_ble_eq_true rfl) dX0_init_60 (fun q11 H hP hD hS => ?_)
  have hP : va_P D vwCl ((([(q, .inr (0, [.ref q1, .ref q2, .ref q3, .ref q4, .ref q6, .int 0, .int 0, .int 0, .int 0])), (q1, .inl (ca 3, 6, refs (va_up ((va_up (fun _ => none) (0 : Int32).toNatClampNeg (some (b8 0)))) (1 : Int32).toNatClampNeg (some (b10 0))))), (q2, .inl (ca 0, 2, .inl fun _ => 0)), (q3, .inl (ca 0, 4, .inl fun _ => 0)), (q4, .inl (ca 4, 8, refs (fun i => if i < 8 then some (r5 i) else none))), (r5 0, .inl (ca 0, 6, .inl fun _ => 0)), (r5 1, .inl (ca 0, 6, .inl fun _ => 0)), (r5 2, .inl (ca 0, 6, .inl fun _ => 0)), (r5 3, .inl (ca 0, 6, .inl fun _ => 0)), (r5 4, .inl (ca 0, 6, .inl fun _ => 0)), (r5 5, .inl (ca 0, 6, .inl fun _ => 0)), (r5 6, .inl (ca 0, 6, .inl fun _ => 0)), (r5 7, .inl (ca 0, 6, .inl fun _ => 0)), (q6, .inl (ca 0, 8, .inl fun _ => 0))] ++ kkX9 ca b8) ++ kkX9 ca b10) ++ [(q11, .inr (9, [.int 0, .int 0, .int 0]))]) H := hP
  have hD : va_D A ((([(q, .inr (0, [.ref q1, .ref q2, .ref q3, .ref q4, .ref q6, .int 0, .int 0, .int 0, .int 0])), (q1, .inl (ca 3, 6, refs (va_up ((va_up (fun _ => none) (0 : Int32).toNatClampNeg (some (b8 0)))) (1 : Int32).toNatClampNeg (some (b10 0))))), (q2, .inl (ca 0, 2, .inl fun _ => 0)), (q3, .inl (ca 0, 4, .inl fun _ => 0)), (q4, .inl (ca 4, 8, refs (fun i => if i < 8 then some (r5 i) else none))), (r5 0, .inl (ca 0, 6, .inl fun _ => 0)), (r5 1, .inl (ca 0, 6, .inl fun _ => 0)), (r5 2, .inl (ca 0, 6, .inl fun _ => 0)), (r5 3, .inl (ca 0, 6, .inl fun _ => 0)), (r5 4, .inl (ca 0, 6, .inl fun _ => 0)), (r5 5, .inl (ca 0, 6, .inl fun _ => 0)), (r5 6, .inl (ca 0, 6, .inl fun _ => 0)), (r5 7, .inl (ca 0, 6, .inl fun _ => 0)), (q6, .inl (ca 0, 8, .inl fun _ => 0))] ++ kkX9 ca b8) ++ kkX9 ca b10) ++ [(q11, .inr (9, [.int 0, .int 0, .int 0]))]) := hD
  refine W.widen (k := 16) (n := 85) (by decide) (by decide) ?_
  refine lv_dup C.1 C.2.1 dX0_init_63 rfl ?_
  refine y_call (kX := kkX9 ca) hP hD hS hA (y_runIN (host := "HeavyFiles") C hN hP [] [.ref q11, .int 2, .ref q1] RX9 kiX9_init (by decide +kernel) (tX9_init l D ca q11 H.size) rfl rfl ⟨by decide, by decide⟩ rfl hl.1 rfl (Nat.le_of_ble_eq_true rfl) dX0_init_64 ⟨Nat.le_of_ble_eq_true rfl, Nat.le_of_ble_eq_true rfl⟩) (fun b12 H locs eb12 hP hD hS => ?_)
  rw [← eb12]
  have hP : va_P D vwCl ((([(q, .inr (0, [.ref q1, .ref q2, .ref q3, .ref q4, .ref q6, .int 0, .int 0, .int 0, .int 0])), (q1, .inl (ca 3, 6, refs (va_up ((va_up (fun _ => none) (0 : Int32).toNatClampNeg (some (b8 0)))) (1 : Int32).toNatClampNeg (some (b10 0))))), (q2, .inl (ca 0, 2, .inl fun _ => 0)), (q3, .inl (ca 0, 4, .inl fun _ => 0)), (q4, .inl (ca 4, 8, refs (fun i => if i < 8 then some (r5 i) else none))), (r5 0, .inl (ca 0, 6, .inl fun _ => 0)), (r5 1, .inl (ca 0, 6, .inl fun _ => 0)), (r5 2, .inl (ca 0, 6, .inl fun _ => 0)), (r5 3, .inl (ca 0, 6, .inl fun _ => 0)), (r5 4, .inl (ca 0, 6, .inl fun _ => 0)), (r5 5, .inl (ca 0, 6, .inl fun _ => 0)), (r5 6, .inl (ca 0, 6, .inl fun _ => 0)), (r5 7, .inl (ca 0, 6, .inl fun _ => 0)), (q6, .inl (ca 0, 8, .inl fun _ => 0))] ++ kkX9 ca b8) ++ kkX9 ca b10) ++ kkX9 ca b12) H := hP
  have hD : va_D A ((([(q, .inr (0, [.ref q1, .ref q2, .ref q3, .ref q4, .ref q6, .int 0, .int 0, .int 0, .int 0])), (q1, .inl (ca 3, 6, refs (va_up ((va_up (fun _ => none) (0 : Int32).toNatClampNeg (some (b8 0)))) (1 : Int32).toNatClampNeg (some (b10 0))))), (q2, .inl (ca 0, 2, .inl fun _ => 0)), (q3, .inl (ca 0, 4, .inl fun _ => 0)), (q4, .inl (ca 4, 8, refs (fun i => if i < 8 then some (r5 i) else none))), (r5 0, .inl (ca 0, 6, .inl fun _ => 0)), (r5 1, .inl (ca 0, 6, .inl fun _ => 0)), (r5 2, .inl (ca 0, 6, .inl fun _ => 0)), (r5 3, .inl (ca 0, 6, .inl fun _ => 0)), (r5 4, .inl (ca 0, 6, .inl fun _ => 0)), (r5 5, .inl (ca 0, 6, .inl fun _ => 0)), (r5 6, .inl (ca 0, 6, .inl fun _ => 0)), (r5 7, .inl (ca 0, 6, .inl fun _ => 0)), (q6, .inl (ca 0, 8, .inl fun _ => 0))] ++ kkX9 ca b8) ++ kkX9 ca b10) ++ kkX9 ca b12) := hD
  refine W.widen (k := 16) (n := 85) (by decide) (by decide) ?_
  refine y_asto C hP hD hS 1 16 3 rfl rfl rfl rfl (by decide) dX0_init_67 (fun H locs hP hD hS => ?_)
  have hP : va_P D vwCl ((([(q, .inr (0, [.ref q1, .ref q2, .ref q3, .ref q4, .ref q6, .int 0, .int 0, .int 0, .int 0])), (q1, .inl (ca 3, 6, refs (va_up ((va_up ((va_up (fun _ => none) (0 : Int32).toNatClampNeg (some (b8 0)))) (1 : Int32).toNatClampNeg (some (b10 0)))) (2 : Int32).toNatClampNeg (some (b12 0))))), (q2, .inl (ca 0, 2, .inl fun _ => 0)), (q3, .inl (ca 0, 4, .inl fun _ => 0)), (q4, .inl (ca 4, 8, refs (fun i => if i < 8 then some (r5 i) else none))), (r5 0, .inl (ca 0, 6, .inl fun _ => 0)), (r5 1, .inl (ca 0, 6, .inl fun _ => 0)), (r5 2, .inl (ca 0, 6, .inl fun _ => 0)), (r5 3, .inl (ca 0, 6, .inl fun _ => 0)), (r5 4, .inl (ca 0, 6, .inl fun _ => 0)), (r5 5, .inl (ca 0, 6, .inl fun _ => 0)), (r5 6, .inl (ca 0, 6, .inl fun _ => 0)), (r5 7, .inl (ca 0, 6, .inl fun _ => 0)), (q6, .inl (ca 0, 8, .inl fun _ => 0))] ++ kkX9 ca b8) ++ kkX9 ca b10) ++ kkX9 ca b12) H := hP
  have hD : va_D A ((([(q, .inr (0, [.ref q1, .ref q2, .ref q3, .ref q4, .ref q6, .int 0, .int 0, .int 0, .int 0])), (q1, .inl (ca 3, 6, refs (va_up ((va_up ((va_up (fun _ => none) (0 : Int32).toNatClampNeg (some (b8 0)))) (1 : Int32).toNatClampNeg (some (b10 0)))) (2 : Int32).toNatClampNeg (some (b12 0))))), (q2, .inl (ca 0, 2, .inl fun _ => 0)), (q3, .inl (ca 0, 4, .inl fun _ => 0)), (q4, .inl (ca 4, 8, refs (fun i => if i < 8 then some (r5 i) else none))), (r5 0, .inl (ca 0, 6, .inl fun _ => 0)), (r5 1, .inl (ca 0, 6, .inl fun _ => 0)), (r5 2, .inl (ca 0, 6, .inl fun _ => 0)), (r5 3, .inl (ca 0, 6, .inl fun _ => 0)), (r5 4, .inl (ca 0, 6, .inl fun _ => 0)), (r5 5, .inl (ca 0, 6, .inl fun _ => 0)), (r5 6, .inl (ca 0, 6, .inl fun _ => 0)), (r5 7, .inl (ca 0, 6, .inl fun _ => 0)), (q6, .inl (ca 0, 8, .inl fun _ => 0))] ++ kkX9 ca b8) ++ kkX9 ca b10) ++ kkX9 ca b12) := hD
  refine lv_iinc (v := 3) (lv' := [(1, .int 3), (0, .ref q)]) C.1 C.2.1 dX0_init_68 hl (k := 0) rfl (by decide) (by decide) rfl (fun ls hl => ?_)
  refine lv_goto (tgt := 49) C.1 C.2.1 dX0_init_71 (by decide) ?_
  refine lv_iload_n C.1 C.2.1 dX0_init_49 rfl (lv_at hl 0 rfl) ?_
  refine lv_bipush (v := 6) C.1 C.2.1 dX0_init_50 (by decide) ?_
  refine lv_icmp_ge (tgt := 74) C.1 C.2.1 dX0_init_52 (by decide) (fun c => absurd c (by decide)) (fun _ => ?_)
  refine lv_aload_n C.1 C.2.1 dX0_init_55 rfl (lv_at hl 1 rfl) ?_
  refine y_get C hP rfl (k := 0) kX0 (by decide) rfl q_57 rfl dX0_init_56 ?_
  refine lv_iload_n C.1 C.2.1 dX0_init_59 rfl (lv_at hl 0 rfl) ?_
  refine y_newo C hP hD hS hA [.int 0, .int 0, .int 0] kX9 (fun j hj => by (rcases (by omega : j = 0 ∨ j = 1 ∨ j = 2) with rfl | rfl | rfl <;> rfl)) q_33 q_37 q_3 (Nat.le_of_ble_eq_true rfl) (Nat.le_of_ble_eq_true rfl) dX0_init_60 (fun q13 H hP hD hS => ?_)
  have hP : va_P D vwCl (((([(q, .inr (0, [.ref q1, .ref q2, .ref q3, .ref q4, .ref q6, .int 0, .int 0, .int 0, .int 0])), (q1, .inl (ca 3, 6, refs (va_up ((va_up ((va_up (fun _ => none) (0 : Int32).toNatClampNeg (some (b8 0)))) (1 : Int32).toNatClampNeg (some (b10 0)))) (2 : Int32).toNatClampNeg (some (b12 0))))), (q2, .inl (ca 0, 2, .inl fun _ => 0)), (q3, .inl (ca 0, 4, .inl fun _ => 0)), (q4, .inl (ca 4, 8, refs (fun i => if i < 8 then some (r5 i) else none))), (r5 0, .inl (ca 0, 6, .inl fun _ => 0)), (r5 1, .inl (ca 0, 6, .inl fun _ => 0)), (r5 2, .inl (ca 0, 6, .inl fun _ => 0)), (r5 3, .inl (ca 0, 6, .inl fun _ => 0)), (r5 4, .inl (ca 0, 6, .inl fun _ => 0)), (r5 5, .inl (ca 0, 6, .inl fun _ => 0)), (r5 6, .inl (ca 0, 6, .inl fun _ => 0)), (r5 7, .inl (ca 0, 6, .inl fun _ => 0)), (q6, .inl (ca 0, 8, .inl fun _ => 0))] ++ kkX9 ca b8) ++ kkX9 ca b10) ++ kkX9 ca b12) ++ [(q13, .inr (9, [.int 0, .int 0, .int 0]))]) H := hP
  have hD : va_D A (((([(q, .inr (0, [.ref q1, .ref q2, .ref q3, .ref q4, .ref q6, .int 0, .int 0, .int 0, .int 0])), (q1, .inl (ca 3, 6, refs (va_up ((va_up ((va_up (fun _ => none) (0 : Int32).toNatClampNeg (some (b8 0)))) (1 : Int32).toNatClampNeg (some (b10 0)))) (2 : Int32).toNatClampNeg (some (b12 0))))), (q2, .inl (ca 0, 2, .inl fun _ => 0)), (q3, .inl (ca 0, 4, .inl fun _ => 0)), (q4, .inl (ca 4, 8, refs (fun i => if i < 8 then some (r5 i) else none))), (r5 0, .inl (ca 0, 6, .inl fun _ => 0)), (r5 1, .inl (ca 0, 6, .inl fun _ => 0)), (r5 2, .inl (ca 0, 6, .inl fun _ => 0)), (r5 3, .inl (ca 0, 6, .inl fun _ => 0)), (r5 4, .inl (ca 0, 6, .inl fun _ => 0)), (r5 5, .inl (ca 0, 6, .inl fun _ => 0)), (r5 6, .inl (ca 0, 6, .inl fun _ => 0)), (r5 7, .inl (ca 0, 6, .inl fun _ => 0)), (q6, .inl (ca 0, 8, .inl fun _ => 0))] ++ kkX9 ca b8) ++ kkX9 ca b10) ++ kkX9 ca b12) ++ [(q13, .inr (9, [.int 0, .int 0, .int 0]))]) := hD
  refine W.widen (k := 17) (n := 88) (by decide) (by decide) ?_
  refine lv_dup C.1 C.2.1 dX0_init_63 rfl ?_
  refine y_call (kX := kkX9 ca) hP hD hS hA (y_runIN (host := "HeavyFiles") C hN hP [] [.ref q13, .int 3, .ref q1] RX9 kiX9_init (by decide +kernel) (tX9_init l D ca q13 H.size) rfl rfl ⟨by decide, by decide⟩ rfl hl.1 rfl (Nat.le_of_ble_eq_true rfl) dX0_init_64 ⟨Nat.le_of_ble_eq_true rfl, Nat.le_of_ble_eq_true rfl⟩) (fun b14 H locs eb14 hP hD hS => ?_)
  rw [← eb14]
  have hP : va_P D vwCl (((([(q, .inr (0, [.ref q1, .ref q2, .ref q3, .ref q4, .ref q6, .int 0, .int 0, .int 0, .int 0])), (q1, .inl (ca 3, 6, refs (va_up ((va_up ((va_up (fun _ => none) (0 : Int32).toNatClampNeg (some (b8 0)))) (1 : Int32).toNatClampNeg (some (b10 0)))) (2 : Int32).toNatClampNeg (some (b12 0))))), (q2, .inl (ca 0, 2, .inl fun _ => 0)), (q3, .inl (ca 0, 4, .inl fun _ => 0)), (q4, .inl (ca 4, 8, refs (fun i => if i < 8 then some (r5 i) else none))), (r5 0, .inl (ca 0, 6, .inl fun _ => 0)), (r5 1, .inl (ca 0, 6, .inl fun _ => 0)), (r5 2, .inl (ca 0, 6, .inl fun _ => 0)), (r5 3, .inl (ca 0, 6, .inl fun _ => 0)), (r5 4, .inl (ca 0, 6, .inl fun _ => 0)), (r5 5, .inl (ca 0, 6, .inl fun _ => 0)), (r5 6, .inl (ca 0, 6, .inl fun _ => 0)), (r5 7, .inl (ca 0, 6, .inl fun _ => 0)), (q6, .inl (ca 0, 8, .inl fun _ => 0))] ++ kkX9 ca b8) ++ kkX9 ca b10) ++ kkX9 ca b12) ++ kkX9 ca b14) H := hP
  have hD : va_D A (((([(q, .inr (0, [.ref q1, .ref q2, .ref q3, .ref q4, .ref q6, .int 0, .int 0, .int 0, .int 0])), (q1, .inl (ca 3, 6, refs (va_up ((va_up ((va_up (fun _ => none) (0 : Int32).toNatClampNeg (some (b8 0)))) (1 : Int32).toNatClampNeg (some (b10 0)))) (2 : Int32).toNatClampNeg (some (b12 0))))), (q2, .inl (ca 0, 2, .inl fun _ => 0)), (q3, .inl (ca 0, 4, .inl fun _ => 0)), (q4, .inl (ca 4, 8, refs (fun i => if i < 8 then some (r5 i) else none))), (r5 0, .inl (ca 0, 6, .inl fun _ => 0)), (r5 1, .inl (ca 0, 6, .inl fun _ => 0)), (r5 2, .inl (ca 0, 6, .inl fun _ => 0)), (r5 3, .inl (ca 0, 6, .inl fun _ => 0)), (r5 4, .inl (ca 0, 6, .inl fun _ => 0)), (r5 5, .inl (ca 0, 6, .inl fun _ => 0)), (r5 6, .inl (ca 0, 6, .inl fun _ => 0)), (r5 7, .inl (ca 0, 6, .inl fun _ => 0)), (q6, .inl (ca 0, 8, .inl fun _ => 0))] ++ kkX9 ca b8) ++ kkX9 ca b10) ++ kkX9 ca b12) ++ kkX9 ca b14) := hD
  refine W.widen (k := 17) (n := 88) (by decide) (by decide) ?_
  refine y_asto C hP hD hS 1 17 3 rfl rfl rfl rfl (by decide) dX0_init_67 (fun H locs hP hD hS => ?_)
  have hP : va_P D vwCl (((([(q, .inr (0, [.ref q1, .ref q2, .ref q3, .ref q4, .ref q6, .int 0, .int 0, .int 0, .int 0])), (q1, .inl (ca 3, 6, refs (va_up ((va_up ((va_up ((va_up (fun _ => none) (0 : Int32).toNatClampNeg (some (b8 0)))) (1 : Int32).toNatClampNeg (some (b10 0)))) (2 : Int32).toNatClampNeg (some (b12 0)))) (3 : Int32).toNatClampNeg (some (b14 0))))), (q2, .inl (ca 0, 2, .inl fun _ => 0)), (q3, .inl (ca 0, 4, .inl fun _ => 0)), (q4, .inl (ca 4, 8, refs (fun i => if i < 8 then some (r5 i) else none))), (r5 0, .inl (ca 0, 6, .inl fun _ => 0)), (r5 1, .inl (ca 0, 6, .inl fun _ => 0)), (r5 2, .inl (ca 0, 6, .inl fun _ => 0)), (r5 3, .inl (ca 0, 6, .inl fun _ => 0)), (r5 4, .inl (ca 0, 6, .inl fun _ => 0)), (r5 5, .inl (ca 0, 6, .inl fun _ => 0)), (r5 6, .inl (ca 0, 6, .inl fun _ => 0)), (r5 7, .inl (ca 0, 6, .inl fun _ => 0)), (q6, .inl (ca 0, 8, .inl fun _ => 0))] ++ kkX9 ca b8) ++ kkX9 ca b10) ++ kkX9 ca b12) ++ kkX9 ca b14) H := hP
  have hD : va_D A (((([(q, .inr (0, [.ref q1, .ref q2, .ref q3, .ref q4, .ref q6, .int 0, .int 0, .int 0, .int 0])), (q1, .inl (ca 3, 6, refs (va_up ((va_up ((va_up ((va_up (fun _ => none) (0 : Int32).toNatClampNeg (some (b8 0)))) (1 : Int32).toNatClampNeg (some (b10 0)))) (2 : Int32).toNatClampNeg (some (b12 0)))) (3 : Int32).toNatClampNeg (some (b14 0))))), (q2, .inl (ca 0, 2, .inl fun _ => 0)), (q3, .inl (ca 0, 4, .inl fun _ => 0)), (q4, .inl (ca 4, 8, refs (fun i => if i < 8 then some (r5 i) else none))), (r5 0, .inl (ca 0, 6, .inl fun _ => 0)), (r5 1, .inl (ca 0, 6, .inl fun _ => 0)), (r5 2, .inl (ca 0, 6, .inl fun _ => 0)), (r5 3, .inl (ca 0, 6, .inl fun _ => 0)), (r5 4, .inl (ca 0, 6, .inl fun _ => 0)), (r5 5, .inl (ca 0, 6, .inl fun _ => 0)), (r5 6, .inl (ca 0, 6, .inl fun _ => 0)), (r5 7, .inl (ca 0, 6, .inl fun _ => 0)), (q6, .inl (ca 0, 8, .inl fun _ => 0))] ++ kkX9 ca b8) ++ kkX9 ca b10) ++ kkX9 ca b12) ++ kkX9 ca b14) := hD
  refine lv_iinc (v := 4) (lv' := [(1, .int 4), (0, .ref q)]) C.1 C.2.1 dX0_init_68 hl (k := 0) rfl (by decide) (by decide) rfl (fun ls hl => ?_)
  refine lv_goto (tgt := 49) C.1 C.2.1 dX0_init_71 (by decide) ?_
  refine lv_iload_n C.1 C.2.1 dX0_init_49 rfl (lv_at hl 0 rfl) ?_
  refine lv_bipush (v := 6) C.1 C.2.1 dX0_init_50 (by decide) ?_
  refine lv_icmp_ge (tgt := 74) C.1 C.2.1 dX0_init_52 (by decide) (fun c => absurd c (by decide)) (fun _ => ?_)
  refine lv_aload_n C.1 C.2.1 dX0_init_55 rfl (lv_at hl 1 rfl) ?_
  refine y_get C hP rfl (k := 0) kX0 (by decide) rfl q_57 rfl dX0_init_56 ?_
  refine lv_iload_n C.1 C.2.1 dX0_init_59 rfl (lv_at hl 0 rfl) ?_
  refine y_newo C hP hD hS hA [.int 0, .int 0, .int 0] kX9 (fun j hj => by (rcases (by omega : j = 0 ∨ j = 1 ∨ j = 2) with rfl | rfl | rfl <;> rfl)) q_33 q_37 q_3 (Nat.le_of_ble_eq_true rfl) (Nat.le_of_ble_eq_true rfl) dX0_init_60 (fun q15 H hP hD hS => ?_)
  have hP : va_P D vwCl ((((([(q, .inr (0, [.ref q1, .ref q2, .ref q3, .ref q4, .ref q6, .int 0, .int 0, .int 0, .int 0])), (q1, .inl (ca 3, 6, refs (va_up ((va_up ((va_up ((va_up (fun _ => none) (0 : Int32).toNatClampNeg (some (b8 0)))) (1 : Int32).toNatClampNeg (some (b10 0)))) (2 : Int32).toNatClampNeg (some (b12 0)))) (3 : Int32).toNatClampNeg (some (b14 0))))), (q2, .inl (ca 0, 2, .inl fun _ => 0)), (q3, .inl (ca 0, 4, .inl fun _ => 0)), (q4, .inl (ca 4, 8, refs (fun i => if i < 8 then some (r5 i) else none))), (r5 0, .inl (ca 0, 6, .inl fun _ => 0)), (r5 1, .inl (ca 0, 6, .inl fun _ => 0)), (r5 2, .inl (ca 0, 6, .inl fun _ => 0)), (r5 3, .inl (ca 0, 6, .inl fun _ => 0)), (r5 4, .inl (ca 0, 6, .inl fun _ => 0)), (r5 5, .inl (ca 0, 6, .inl fun _ => 0)), (r5 6, .inl (ca 0, 6, .inl fun _ => 0)), (r5 7, .inl (ca 0, 6, .inl fun _ => 0)), (q6, .inl (ca 0, 8, .inl fun _ => 0))] ++ kkX9 ca b8) ++ kkX9 ca b10) ++ kkX9 ca b12) ++ kkX9 ca b14) ++ [(q15, .inr (9, [.int 0, .int 0, .int 0]))]) H := hP
  have hD : va_D A ((((([(q, .inr (0, [.ref q1, .ref q2, .ref q3, .ref q4, .ref q6, .int 0, .int 0, .int 0, .int 0])), (q1, .inl (ca 3, 6, refs (va_up ((va_up ((va_up ((va_up (fun _ => none) (0 : Int32).toNatClampNeg (some (b8 0)))) (1 : Int32).toNatClampNeg (some (b10 0)))) (2 : Int32).toNatClampNeg (some (b12 0)))) (3 : Int32).toNatClampNeg (some (b14 0))))), (q2, .inl (ca 0, 2, .inl fun _ => 0)), (q3, .inl (ca 0, 4, .inl fun _ => 0)), (q4, .inl (ca 4, 8, refs (fun i => if i < 8 then some (r5 i) else none))), (r5 0, .inl (ca 0, 6, .inl fun _ => 0)), (r5 1, .inl (ca 0, 6, .inl fun _ => 0)), (r5 2, .inl (ca 0, 6, .inl fun _ => 0)), (r5 3, .inl (ca 0, 6, .inl fun _ => 0)), (r5 4, .inl (ca 0, 6, .inl fun _ => 0)), (r5 5, .inl (ca 0, 6, .inl fun _ => 0)), (r5 6, .inl (ca 0, 6, .inl fun _ => 0)), (r5 7, .inl (ca 0, 6, .inl fun _ => 0)), (q6, .inl (ca 0, 8, .inl fun _ => 0))] ++ kkX9 ca b8) ++ kkX9 ca b10) ++ kkX9 ca b12) ++ kkX9 ca b14) ++ [(q15, .inr (9, [.int 0, .int 0, .int 0]))]) := hD
  refine W.widen (k := 18) (n := 91) (by decide) (by decide) ?_
  refine lv_dup C.1 C.2.1 dX0_init_63 rfl ?_
  refine y_call (kX := kkX9 ca) hP hD hS hA (y_runIN (host := "HeavyFiles") C hN hP [] [.ref q15, .int 4, .ref q1] RX9 kiX9_init (by decide +kernel) (tX9_init l D ca q15 H.size) rfl rfl ⟨by decide, by decide⟩ rfl hl.1 rfl (Nat.le_of_ble_eq_true rfl) dX0_init_64 ⟨Nat.le_of_ble_eq_true rfl, Nat.le_of_ble_eq_true rfl⟩) (fun b16 H locs eb16 hP hD hS => ?_)
  rw [← eb16]
  have hP : va_P D vwCl ((((([(q, .inr (0, [.ref q1, .ref q2, .ref q3, .ref q4, .ref q6, .int 0, .int 0, .int 0, .int 0])), (q1, .inl (ca 3, 6, refs (va_up ((va_up ((va_up ((va_up (fun _ => none) (0 : Int32).toNatClampNeg (some (b8 0)))) (1 : Int32).toNatClampNeg (some (b10 0)))) (2 : Int32).toNatClampNeg (some (b12 0)))) (3 : Int32).toNatClampNeg (some (b14 0))))), (q2, .inl (ca 0, 2, .inl fun _ => 0)), (q3, .inl (ca 0, 4, .inl fun _ => 0)), (q4, .inl (ca 4, 8, refs (fun i => if i < 8 then some (r5 i) else none))), (r5 0, .inl (ca 0, 6, .inl fun _ => 0)), (r5 1, .inl (ca 0, 6, .inl fun _ => 0)), (r5 2, .inl (ca 0, 6, .inl fun _ => 0)), (r5 3, .inl (ca 0, 6, .inl fun _ => 0)), (r5 4, .inl (ca 0, 6, .inl fun _ => 0)), (r5 5, .inl (ca 0, 6, .inl fun _ => 0)), (r5 6, .inl (ca 0, 6, .inl fun _ => 0)), (r5 7, .inl (ca 0, 6, .inl fun _ => 0)), (q6, .inl (ca 0, 8, .inl fun _ => 0))] ++ kkX9 ca b8) ++ kkX9 ca b10) ++ kkX9 ca b12) ++ kkX9 ca b14) ++ kkX9 ca b16) H := hP
  have hD : va_D A ((((([(q, .inr (0, [.ref q1, .ref q2, .ref q3, .ref q4, .ref q6, .int 0, .int 0, .int 0, .int 0])), (q1, .inl (ca 3, 6, refs (va_up ((va_up ((va_up ((va_up (fun _ => none) (0 : Int32).toNatClampNeg (some (b8 0)))) (1 : Int32).toNatClampNeg (some (b10 0)))) (2 : Int32).toNatClampNeg (some (b12 0)))) (3 : Int32).toNatClampNeg (some (b14 0))))), (q2, .inl (ca 0, 2, .inl fun _ => 0)), (q3, .inl (ca 0, 4, .inl fun _ => 0)), (q4, .inl (ca 4, 8, refs (fun i => if i < 8 then some (r5 i) else none))), (r5 0, .inl (ca 0, 6, .inl fun _ => 0)), (r5 1, .inl (ca 0, 6, .inl fun _ => 0)), (r5 2, .inl (ca 0, 6, .inl fun _ => 0)), (r5 3, .inl (ca 0, 6, .inl fun _ => 0)), (r5 4, .inl (ca 0, 6, .inl fun _ => 0)), (r5 5, .inl (ca 0, 6, .inl fun _ => 0)), (r5 6, .inl (ca 0, 6, .inl fun _ => 0)), (r5 7, .inl (ca 0, 6, .inl fun _ => 0)), (q6, .inl (ca 0, 8, .inl fun _ => 0))] ++ kkX9 ca b8) ++ kkX9 ca b10) ++ kkX9 ca b12) ++ kkX9 ca b14) ++ kkX9 ca b16) := hD
  refine W.widen (k := 18) (n := 91) (by decide) (by decide) ?_
  refine y_asto C hP hD hS 1 18 3 rfl rfl rfl rfl (by decide) dX0_init_67 (fun H locs hP hD hS => ?_)
  have hP : va_P D vwCl ((((([(q, .inr (0, [.ref q1, .ref q2, .ref q3, .ref q4, .ref q6, .int 0, .int 0, .int 0, .int 0])), (q1, .inl (ca 3, 6, refs (va_up ((va_up ((va_up ((va_up ((va_up (fun _ => none) (0 : Int32).toNatClampNeg (some (b8 0)))) (1 : Int32).toNatClampNeg (some (b10 0)))) (2 : Int32).toNatClampNeg (some (b12 0)))) (3 : Int32).toNatClampNeg (some (b14 0)))) (4 : Int32).toNatClampNeg (some (b16 0))))), (q2, .inl (ca 0, 2, .inl fun _ => 0)), (q3, .inl (ca 0, 4, .inl fun _ => 0)), (q4, .inl (ca 4, 8, refs (fun i => if i < 8 then some (r5 i) else none))), (r5 0, .inl (ca 0, 6, .inl fun _ => 0)), (r5 1, .inl (ca 0, 6, .inl fun _ => 0)), (r5 2, .inl (ca 0, 6, .inl fun _ => 0)), (r5 3, .inl (ca 0, 6, .inl fun _ => 0)), (r5 4, .inl (ca 0, 6, .inl fun _ => 0)), (r5 5, .inl (ca 0, 6, .inl fun _ => 0)), (r5 6, .inl (ca 0, 6, .inl fun _ => 0)), (r5 7, .inl (ca 0, 6, .inl fun _ => 0)), (q6, .inl (ca 0, 8, .inl fun _ => 0))] ++ kkX9 ca b8) ++ kkX9 ca b10) ++ kkX9 ca b12) ++ kkX9 ca b14) ++ kkX9 ca b16) H := hP
  have hD : va_D A ((((([(q, .inr (0, [.ref q1, .ref q2, .ref q3, .ref q4, .ref q6, .int 0, .int 0, .int 0, .int 0])), (q1, .inl (ca 3, 6, refs (va_up ((va_up ((va_up ((va_up ((va_up (fun _ => none) (0 : Int32).toNatClampNeg (some (b8 0)))) (1 : Int32).toNatClampNeg (some (b10 0)))) (2 : Int32).toNatClampNeg (some (b12 0)))) (3 : Int32).toNatClampNeg (some (b14 0)))) (4 : Int32).toNatClampNeg (some (b16 0))))), (q2, .inl (ca 0, 2, .inl fun _ => 0)), (q3, .inl (ca 0, 4, .inl fun _ => 0)), (q4, .inl (ca 4, 8, refs (fun i => if i < 8 then some (r5 i) else none))), (r5 0, .inl (ca 0, 6, .inl fun _ => 0)), (r5 1, .inl (ca 0, 6, .inl fun _ => 0)), (r5 2, .inl (ca 0, 6, .inl fun _ => 0)), (r5 3, .inl (ca 0, 6, .inl fun _ => 0)), (r5 4, .inl (ca 0, 6, .inl fun _ => 0)), (r5 5, .inl (ca 0, 6, .inl fun _ => 0)), (r5 6, .inl (ca 0, 6, .inl fun _ => 0)), (r5 7, .inl (ca 0, 6, .inl fun _ => 0)), (q6, .inl (ca 0, 8, .inl fun _ => 0))] ++ kkX9 ca b8) ++ kkX9 ca b10) ++ kkX9 ca b12) ++ kkX9 ca b14) ++ kkX9 ca b16) := hD
  refine lv_iinc (v := 5) (lv' := [(1, .int 5), (0, .ref q)]) C.1 C.2.1 dX0_init_68 hl (k := 0) rfl (by decide) (by decide) rfl (fun ls hl => ?_)
  refine lv_goto (tgt := 49) C.1 C.2.1 dX0_init_71 (by decide) ?_
  refine lv_iload_n C.1 C.2.1 dX0_init_49 rfl (lv_at hl 0 rfl) ?_
  refine lv_bipush (v := 6) C.1 C.2.1 dX0_init_50 (by decide) ?_
  refine lv_icmp_ge (tgt := 74) C.1 C.2.1 dX0_init_52 (by decide) (fun c => absurd c (by decide)) (fun _ => ?_)
  refine lv_aload_n C.1 C.2.1 dX0_init_55 rfl (lv_at hl 1 rfl) ?_
  refine y_get C hP rfl (k := 0) kX0 (by decide) rfl q_57 rfl dX0_init_56 ?_
  refine lv_iload_n C.1 C.2.1 dX0_init_59 rfl (lv_at hl 0 rfl) ?_
  refine y_newo C hP hD hS hA [.int 0, .int 0, .int 0] kX9 (fun j hj => by (rcases (by omega : j = 0 ∨ j = 1 ∨ j = 2) with rfl | rfl | rfl <;> rfl)) q_33 q_37 q_3 (Nat.le_of_ble_eq_true rfl) (Nat.le_of_ble_eq_true rfl) dX0_init_60 (fun q17 H hP hD hS => ?_)
  have hP : va_P D vwCl (((((([(q, .inr (0, [.ref q1, .ref q2, .ref q3, .ref q4, .ref q6, .int 0, .int 0, .int 0, .int 0])), (q1, .inl (ca 3, 6, refs (va_up ((va_up ((va_up ((va_up ((va_up (fun _ => none) (0 : Int32).toNatClampNeg (some (b8 0)))) (1 : Int32).toNatClampNeg (some (b10 0)))) (2 : Int32).toNatClampNeg (some (b12 0)))) (3 : Int32).toNatClampNeg (some (b14 0)))) (4 : Int32).toNatClampNeg (some (b16 0))))), (q2, .inl (ca 0, 2, .inl fun _ => 0)), (q3, .inl (ca 0, 4, .inl fun _ => 0)), (q4, .inl (ca 4, 8, refs (fun i => if i < 8 then some (r5 i) else none))), (r5 0, .inl (ca 0, 6, .inl fun _ => 0)), (r5 1, .inl (ca 0, 6, .inl fun _ => 0)), (r5 2, .inl (ca 0, 6, .inl fun _ => 0)), (r5 3, .inl (ca 0, 6, .inl fun _ => 0)), (r5 4, .inl (ca 0, 6, .inl fun _ => 0)), (r5 5, .inl (ca 0, 6, .inl fun _ => 0)), (r5 6, .inl (ca 0, 6, .inl fun _ => 0)), (r5 7, .inl (ca 0, 6, .inl fun _ => 0)), (q6, .inl (ca 0, 8, .inl fun _ => 0))] ++ kkX9 ca b8) ++ kkX9 ca b10) ++ kkX9 ca b12) ++ kkX9 ca b14) ++ kkX9 ca b16) ++ [(q17, .inr (9, [.int 0, .int 0, .int 0]))]) H := hP
  have hD : va_D A (((((([(q, .inr (0, [.ref q1, .ref q2, .ref q3, .ref q4, .ref q6, .int 0, .int 0, .int 0, .int 0])), (q1, .inl (ca 3, 6, refs (va_up ((va_up ((va_up ((va_up ((va_up (fun _ => none) (0 : Int32).toNatClampNeg (some (b8 0)))) (1 : Int32).toNatClampNeg (some (b10 0)))) (2 : Int32).toNatClampNeg (some (b12 0)))) (3 : Int32).toNatClampNeg (some (b14 0)))) (4 : Int32).toNatClampNeg (some (b16 0))))), (q2, .inl (ca 0, 2, .inl fun _ => 0)), (q3, .inl (ca 0, 4, .inl fun _ => 0)), (q4, .inl (ca 4, 8, refs (fun i => if i < 8 then some (r5 i) else none))), (r5 0, .inl (ca 0, 6, .inl fun _ => 0)), (r5 1, .inl (ca 0, 6, .inl fun _ => 0)), (r5 2, .inl (ca 0, 6, .inl fun _ => 0)), (r5 3, .inl (ca 0, 6, .inl fun _ => 0)), (r5 4, .inl (ca 0, 6, .inl fun _ => 0)), (r5 5, .inl (ca 0, 6, .inl fun _ => 0)), (r5 6, .inl (ca 0, 6, .inl fun _ => 0)), (r5 7, .inl (ca 0, 6, .inl fun _ => 0)), (q6, .inl (ca 0, 8, .inl fun _ => 0))] ++ kkX9 ca b8) ++ kkX9 ca b10) ++ kkX9 ca b12) ++ kkX9 ca b14) ++ kkX9 ca b16) ++ [(q17, .inr (9, [.int 0, .int 0, .int 0]))]) := hD
  refine W.widen (k := 19) (n := 94) (by decide) (by decide) ?_
  refine lv_dup C.1 C.2.1 dX0_init_63 rfl ?_
  refine y_call (kX := kkX9 ca) hP hD hS hA (y_runIN (host := "HeavyFiles") C hN hP [] [.ref q17, .int 5, .ref q1] RX9 kiX9_init (by decide +kernel) (tX9_init l D ca q17 H.size) rfl rfl ⟨by decide, by decide⟩ rfl hl.1 rfl (Nat.le_of_ble_eq_true rfl) dX0_init_64 ⟨Nat.le_of_ble_eq_true rfl, Nat.le_of_ble_eq_true rfl⟩) (fun b18 H locs eb18 hP hD hS => ?_)
  rw [← eb18]
  have hP : va_P D vwCl (((((([(q, .inr (0, [.ref q1, .ref q2, .ref q3, .ref q4, .ref q6, .int 0, .int 0, .int 0, .int 0])), (q1, .inl (ca 3, 6, refs (va_up ((va_up ((va_up ((va_up ((va_up (fun _ => none) (0 : Int32).toNatClampNeg (some (b8 0)))) (1 : Int32).toNatClampNeg (some (b10 0)))) (2 : Int32).toNatClampNeg (some (b12 0)))) (3 : Int32).toNatClampNeg (some (b14 0)))) (4 : Int32).toNatClampNeg (some (b16 0))))), (q2, .inl (ca 0, 2, .inl fun _ => 0)), (q3, .inl (ca 0, 4, .inl fun _ => 0)), (q4, .inl (ca 4, 8, refs (fun i => if i < 8 then some (r5 i) else none))), (r5 0, .inl (ca 0, 6, .inl fun _ => 0)), (r5 1, .inl (ca 0, 6, .inl fun _ => 0)), (r5 2, .inl (ca 0, 6, .inl fun _ => 0)), (r5 3, .inl (ca 0, 6, .inl fun _ => 0)), (r5 4, .inl (ca 0, 6, .inl fun _ => 0)), (r5 5, .inl (ca 0, 6, .inl fun _ => 0)), (r5 6, .inl (ca 0, 6, .inl fun _ => 0)), (r5 7, .inl (ca 0, 6, .inl fun _ => 0)), (q6, .inl (ca 0, 8, .inl fun _ => 0))] ++ kkX9 ca b8) ++ kkX9 ca b10) ++ kkX9 ca b12) ++ kkX9 ca b14) ++ kkX9 ca b16) ++ kkX9 ca b18) H := hP
  have hD : va_D A (((((([(q, .inr (0, [.ref q1, .ref q2, .ref q3, .ref q4, .ref q6, .int 0, .int 0, .int 0, .int 0])), (q1, .inl (ca 3, 6, refs (va_up ((va_up ((va_up ((va_up ((va_up (fun _ => none) (0 : Int32).toNatClampNeg (some (b8 0)))) (1 : Int32).toNatClampNeg (some (b10 0)))) (2 : Int32).toNatClampNeg (some (b12 0)))) (3 : Int32).toNatClampNeg (some (b14 0)))) (4 : Int32).toNatClampNeg (some (b16 0))))), (q2, .inl (ca 0, 2, .inl fun _ => 0)), (q3, .inl (ca 0, 4, .inl fun _ => 0)), (q4, .inl (ca 4, 8, refs (fun i => if i < 8 then some (r5 i) else none))), (r5 0, .inl (ca 0, 6, .inl fun _ => 0)), (r5 1, .inl (ca 0, 6, .inl fun _ => 0)), (r5 2, .inl (ca 0, 6, .inl fun _ => 0)), (r5 3, .inl (ca 0, 6, .inl fun _ => 0)), (r5 4, .inl (ca 0, 6, .inl fun _ => 0)), (r5 5, .inl (ca 0, 6, .inl fun _ => 0)), (r5 6, .inl (ca 0, 6, .inl fun _ => 0)), (r5 7, .inl (ca 0, 6, .inl fun _ => 0)), (q6, .inl (ca 0, 8, .inl fun _ => 0))] ++ kkX9 ca b8) ++ kkX9 ca b10) ++ kkX9 ca b12) ++ kkX9 ca b14) ++ kkX9 ca b16) ++ kkX9 ca b18) := hD
  refine W.widen (k := 19) (n := 94) (by decide) (by decide) ?_
  refine y_asto C hP hD hS 1 19 3 rfl rfl rfl rfl (by decide) dX0_init_67 (fun H locs hP hD hS => ?_)
  have hP : va_P D vwCl (((((([(q, .inr (0, [.ref q1, .ref q2, .ref q3, .ref q4, .ref q6, .int 0, .int 0, .int 0, .int 0])), (q1, .inl (ca 3, 6, refs (va_up ((va_up ((va_up ((va_up ((va_up ((va_up (fun _ => none) (0 : Int32).toNatClampNeg (some (b8 0)))) (1 : Int32).toNatClampNeg (some (b10 0)))) (2 : Int32).toNatClampNeg (some (b12 0)))) (3 : Int32).toNatClampNeg (some (b14 0)))) (4 : Int32).toNatClampNeg (some (b16 0)))) (5 : Int32).toNatClampNeg (some (b18 0))))), (q2, .inl (ca 0, 2, .inl fun _ => 0)), (q3, .inl (ca 0, 4, .inl fun _ => 0)), (q4, .inl (ca 4, 8, refs (fun i => if i < 8 then some (r5 i) else none))), (r5 0, .inl (ca 0, 6, .inl fun _ => 0)), (r5 1, .inl (ca 0, 6, .inl fun _ => 0)), (r5 2, .inl (ca 0, 6, .inl fun _ => 0)), (r5 3, .inl (ca 0, 6, .inl fun _ => 0)), (r5 4, .inl (ca 0, 6, .inl fun _ => 0)), (r5 5, .inl (ca 0, 6, .inl fun _ => 0)), (r5 6, .inl (ca 0, 6, .inl fun _ => 0)), (r5 7, .inl (ca 0, 6, .inl fun _ => 0)), (q6, .inl (ca 0, 8, .inl fun _ => 0))] ++ kkX9 ca b8) ++ kkX9 ca b10) ++ kkX9 ca b12) ++ kkX9 ca b14) ++ kkX9 ca b16) ++ kkX9 ca b18) H := hP
  have hD : va_D A (((((([(q, .inr (0, [.ref q1, .ref q2, .ref q3, .ref q4, .ref q6, .int 0, .int 0, .int 0, .int 0])), (q1, .inl (ca 3, 6, refs (va_up ((va_up ((va_up ((va_up ((va_up ((va_up (fun _ => none) (0 : Int32).toNatClampNeg (some (b8 0)))) (1 : Int32).toNatClampNeg (some (b10 0)))) (2 : Int32).toNatClampNeg (some (b12 0)))) (3 : Int32).toNatClampNeg (some (b14 0)))) (4 : Int32).toNatClampNeg (some (b16 0)))) (5 : Int32).toNatClampNeg (some (b18 0))))), (q2, .inl (ca 0, 2, .inl fun _ => 0)), (q3, .inl (ca 0, 4, .inl fun _ => 0)), (q4, .inl (ca 4, 8, refs (fun i => if i < 8 then some (r5 i) else none))), (r5 0, .inl (ca 0, 6, .inl fun _ => 0)), (r5 1, .inl (ca 0, 6, .inl fun _ => 0)), (r5 2, .inl (ca 0, 6, .inl fun _ => 0)), (r5 3, .inl (ca 0, 6, .inl fun _ => 0)), (r5 4, .inl (ca 0, 6, .inl fun _ => 0)), (r5 5, .inl (ca 0, 6, .inl fun _ => 0)), (r5 6, .inl (ca 0, 6, .inl fun _ => 0)), (r5 7, .inl (ca 0, 6, .inl fun _ => 0)), (q6, .inl (ca 0, 8, .inl fun _ => 0))] ++ kkX9 ca b8) ++ kkX9 ca b10) ++ kkX9 ca b12) ++ kkX9 ca b14) ++ kkX9 ca b16) ++ kkX9 ca b18) := hD
  refine lv_iinc (v := 6) (lv' := [(1, .int 6), (0, .ref q)]) C.1 C.2.1 dX0_init_68 hl (k := 0) rfl (by decide) (by decide) rfl (fun ls hl => ?_)
  refine lv_goto (tgt := 49) C.1 C.2.1 dX0_init_71 (by decide) ?_
  refine lv_iload_n C.1 C.2.1 dX0_init_49 rfl (lv_at hl 0 rfl) ?_
  refine lv_bipush (v := 6) C.1 C.2.1 dX0_init_50 (by decide) ?_
  refine lv_icmp_ge (tgt := 74) C.1 C.2.1 dX0_init_52 (by decide) (fun _ => ?_) (fun c => absurd (by decide) c)
  obtain ⟨hP, hD⟩ := y_reco (k := 1) (fun j => some ([b8 0, b10 0, b12 0, b14 0, b16 0, b18 0].getD j 0)) hP hD rfl (by intro j hj; rcases (by omega : j = 0 ∨ j = 1 ∨ j = 2 ∨ j = 3 ∨ j = 4 ∨ j = 5) with rfl | rfl | rfl | rfl | rfl | rfl <;> rfl)
  have hP : va_P D vwCl (((((([(q, .inr (0, [.ref q1, .ref q2, .ref q3, .ref q4, .ref q6, .int 0, .int 0, .int 0, .int 0])), (q1, .inl (ca 3, 6, refs (fun j => some ([b8 0, b10 0, b12 0, b14 0, b16 0, b18 0].getD j 0)))), (q2, .inl (ca 0, 2, .inl fun _ => 0)), (q3, .inl (ca 0, 4, .inl fun _ => 0)), (q4, .inl (ca 4, 8, refs (fun i => if i < 8 then some (r5 i) else none))), (r5 0, .inl (ca 0, 6, .inl fun _ => 0)), (r5 1, .inl (ca 0, 6, .inl fun _ => 0)), (r5 2, .inl (ca 0, 6, .inl fun _ => 0)), (r5 3, .inl (ca 0, 6, .inl fun _ => 0)), (r5 4, .inl (ca 0, 6, .inl fun _ => 0)), (r5 5, .inl (ca 0, 6, .inl fun _ => 0)), (r5 6, .inl (ca 0, 6, .inl fun _ => 0)), (r5 7, .inl (ca 0, 6, .inl fun _ => 0)), (q6, .inl (ca 0, 8, .inl fun _ => 0))] ++ kkX9 ca b8) ++ kkX9 ca b10) ++ kkX9 ca b12) ++ kkX9 ca b14) ++ kkX9 ca b16) ++ kkX9 ca b18) H := hP
  have hD : va_D A (((((([(q, .inr (0, [.ref q1, .ref q2, .ref q3, .ref q4, .ref q6, .int 0, .int 0, .int 0, .int 0])), (q1, .inl (ca 3, 6, refs (fun j => some ([b8 0, b10 0, b12 0, b14 0, b16 0, b18 0].getD j 0)))), (q2, .inl (ca 0, 2, .inl fun _ => 0)), (q3, .inl (ca 0, 4, .inl fun _ => 0)), (q4, .inl (ca 4, 8, refs (fun i => if i < 8 then some (r5 i) else none))), (r5 0, .inl (ca 0, 6, .inl fun _ => 0)), (r5 1, .inl (ca 0, 6, .inl fun _ => 0)), (r5 2, .inl (ca 0, 6, .inl fun _ => 0)), (r5 3, .inl (ca 0, 6, .inl fun _ => 0)), (r5 4, .inl (ca 0, 6, .inl fun _ => 0)), (r5 5, .inl (ca 0, 6, .inl fun _ => 0)), (r5 6, .inl (ca 0, 6, .inl fun _ => 0)), (r5 7, .inl (ca 0, 6, .inl fun _ => 0)), (q6, .inl (ca 0, 8, .inl fun _ => 0))] ++ kkX9 ca b8) ++ kkX9 ca b10) ++ kkX9 ca b12) ++ kkX9 ca b14) ++ kkX9 ca b16) ++ kkX9 ca b18) := hD
  obtain ⟨hP, hD⟩ := y_reco (k := 4) (fun j => some ([r5 0, r5 1, r5 2, r5 3, r5 4, r5 5, r5 6, r5 7].getD j 0)) hP hD rfl (by intro j hj; rcases (by omega : j = 0 ∨ j = 1 ∨ j = 2 ∨ j = 3 ∨ j = 4 ∨ j = 5 ∨ j = 6 ∨ j = 7) with rfl | rfl | rfl | rfl | rfl | rfl | rfl | rfl <;> rfl)
  have hP : va_P D vwCl (((((([(q, .inr (0, [.ref q1, .ref q2, .ref q3, .ref q4, .ref q6, .int 0, .int 0, .int 0, .int 0])), (q1, .inl (ca 3, 6, refs (fun j => some ([b8 0, b10 0, b12 0, b14 0, b16 0, b18 0].getD j 0)))), (q2, .inl (ca 0, 2, .inl fun _ => 0)), (q3, .inl (ca 0, 4, .inl fun _ => 0)), (q4, .inl (ca 4, 8, refs (fun j => some ([r5 0, r5 1, r5 2, r5 3, r5 4, r5 5, r5 6, r5 7].getD j 0)))), (r5 0, .inl (ca 0, 6, .inl fun _ => 0)), (r5 1, .inl (ca 0, 6, .inl fun _ => 0)), (r5 2, .inl (ca 0, 6, .inl fun _ => 0)), (r5 3, .inl (ca 0, 6, .inl fun _ => 0)), (r5 4, .inl (ca 0, 6, .inl fun _ => 0)), (r5 5, .inl (ca 0, 6, .inl fun _ => 0)), (r5 6, .inl (ca 0, 6, .inl fun _ => 0)), (r5 7, .inl (ca 0, 6, .inl fun _ => 0)), (q6, .inl (ca 0, 8, .inl fun _ => 0))] ++ kkX9 ca b8) ++ kkX9 ca b10) ++ kkX9 ca b12) ++ kkX9 ca b14) ++ kkX9 ca b16) ++ kkX9 ca b18) H := hP
  have hD : va_D A (((((([(q, .inr (0, [.ref q1, .ref q2, .ref q3, .ref q4, .ref q6, .int 0, .int 0, .int 0, .int 0])), (q1, .inl (ca 3, 6, refs (fun j => some ([b8 0, b10 0, b12 0, b14 0, b16 0, b18 0].getD j 0)))), (q2, .inl (ca 0, 2, .inl fun _ => 0)), (q3, .inl (ca 0, 4, .inl fun _ => 0)), (q4, .inl (ca 4, 8, refs (fun j => some ([r5 0, r5 1, r5 2, r5 3, r5 4, r5 5, r5 6, r5 7].getD j 0)))), (r5 0, .inl (ca 0, 6, .inl fun _ => 0)), (r5 1, .inl (ca 0, 6, .inl fun _ => 0)), (r5 2, .inl (ca 0, 6, .inl fun _ => 0)), (r5 3, .inl (ca 0, 6, .inl fun _ => 0)), (r5 4, .inl (ca 0, 6, .inl fun _ => 0)), (r5 5, .inl (ca 0, 6, .inl fun _ => 0)), (r5 6, .inl (ca 0, 6, .inl fun _ => 0)), (r5 7, .inl (ca 0, 6, .inl fun _ => 0)), (q6, .inl (ca 0, 8, .inl fun _ => 0))] ++ kkX9 ca b8) ++ kkX9 ca b10) ++ kkX9 ca b12) ++ kkX9 ca b14) ++ kkX9 ca b16) ++ kkX9 ca b18) := hD
  exact y_end (kX := kkX0 ca) C (fun k => [q, q1, q2, q3, q4, r5 0, r5 1, r5 2, r5 3, r5 4, r5 5, r5 6, r5 7, q6, b8 0, b10 0, b12 0, b14 0, b16 0, b18 0].getD k 0) rfl hP hD hS rfl rfl dX0_init_74
