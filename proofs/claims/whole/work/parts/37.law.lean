theorem q_19 : Cond.instantiable RX11 17 ∈ wT := wi_t 19 (by decide +kernel) (by decide +kernel)
theorem q_1011 : Cond.instantiable RX12 42 ∈ wT := wi_t 1011 (by decide +kernel) (by decide +kernel)
theorem q_18 : Cond.classLink RL 7 RX11 ∈ wT := wi_t 18 (by decide +kernel) (by decide +kernel)
theorem q_22 : Cond.code yX11_init cX11_init 2 none ∈ wT := wi_t 22 (by decide +kernel) (by decide +kernel)
theorem q_21 : Cond.instanceMethod yX11_init ∈ wT := wi_t 21 (by decide +kernel) (by decide +kernel)
theorem q_20 : Cond.methodLink RL 9 yX11_init ∈ wT := wi_t 20 (by decide +kernel) (by decide +kernel)
theorem q_1010 : Cond.classLink RL 10 RX12 ∈ wT := wi_t 1010 (by decide +kernel) (by decide +kernel)
theorem q_1014 : Cond.code yX12_init cX12_init 2 none ∈ wT := wi_t 1014 (by decide +kernel) (by decide +kernel)
theorem q_1013 : Cond.instanceMethod yX12_init ∈ wT := wi_t 1013 (by decide +kernel) (by decide +kernel)
theorem q_1012 : Cond.methodLink RL 12 yX12_init ∈ wT := wi_t 1012 (by decide +kernel) (by decide +kernel)
theorem kiX11_init : KI yX11_init RX11 cX11_init 2 0 := ⟨rfl, rfl, q_21, q_1, q_22, by decide +kernel, by decide +kernel, by decide +kernel⟩
theorem kiX12_init : KI yX12_init RX12 cX12_init 2 0 := ⟨rfl, rfl, q_1013, q_13, q_1014, by decide +kernel, by decide +kernel, by decide +kernel⟩
theorem arrC_obj {EC : String} {s : State} (h : va_AO EC s) : ∃ a : ClassId, ArrOfT s a (.object EC) ∧ va_RA s a (.object EC) := by
  obtain ⟨comp, a, k, h1, -, h3, h4, h5⟩ := Cond.arrayOver_spec h
  exact ⟨a, fun N z => ⟨(fun k h => by cases h), k, h3, comp, h4⟩, k, comp, h3, h4, h1, h5⟩
theorem arrC_arr {s : State} (h : AOI s) : ∃ a : ClassId, ArrOfT s a (.array .int) ∧ va_RA s a (.array .int) := by
  obtain ⟨comp, a, k, h1, h3, h4, h5⟩ := Cond.arrayOver_specA h
  exact ⟨a, fun N z => ⟨(fun k h => by cases h), k, h3, comp, h4⟩, h5⟩
theorem arrC_int {b : Nat} {s : State} (h : (Cond.arrayClass .int).before #[Value.ref b] s = true) : ∃ a : ClassId, ArrOfT s a .int ∧ va_RA s a .int := by
  obtain ⟨a, k, comp, h1, h2, h3⟩ := Cond.arrayClass_spec h
  exact ⟨a, fun N z => ⟨(fun k h => by cases h), k, h2, comp, h3⟩, h1⟩

/-! THE CLAIM OUT OF ONE WALK OF THE LAW'S BODY. Your part is whole_start (and what it stands on); all else here is the same for every law, but numbers. -/
def R_law : String := "HeavyFilesLaw"
def lw_P (b : Addr) (xs : List Int32) (args : Array Value) (s : State) : Prop := args = #[.ref b] ∧ s.IntsAt b xs ∧ xs.length ≤ 3072 ∧ (Jvm.Cond.and given_1 narrow_1).before args s = true
def lw_Q (_ : Array Value) (s : State) (o : Outcome) (t : State) : Prop := o = .returned (some (.int 1)) ∧ Framed s o t [] 600000 7302250
def lw_Z (below : List Frame) (a : Array Value) (s : State) : State → Prop := fun t => ∃ o, t.status = .running ∧ Ended t below o ∧ lw_Q a s o t
/-- the law's own end, with 1 on the stack, nothing written that was there before, its room as the claim has it -/
theorem lw_ret {p : Program} {l : Launch} {e : Env} {s : State} {m : MethodId} {below : List Frame} {meth : Method} {c : Code} {b : Nat} (hx : p.tables.exec = Jvm.exec) (hb : c.code = code) (hr : meth.sig.returnType = ret) (hlocks : meth.locks = false) {pc : Nat} {H : Heap} {ls : Array Slot} (hdg : decode code pc = .ok (.ireturn, 1)) : W p l e room_1 s m #[Value.ref b] below meth c H [] 600000 7302250 (lw_Z below #[Value.ref b] s) (F0 m pc ls [.int 1]) := by
  intro T hT X
  obtain ⟨fs, hret, hrun, hended, hW, hframe⟩ := X.leave (v := some (.int 1)) (hlocks := hlocks) (fun h => by rw [hr] at h; cases h)
  have hmeth' : T.vm.method? m = some meth := X.method'
  refine ⟨T.setFrames fs, ?_, .returned (some (.int 1)), hrun, hended, rfl, ⟨_, rfl⟩, hW, hframe⟩
  jvm_step X.here [X.here.top, hx, hb, hdg, hmeth', hr, ret, narrow_b1]
  (try refine ⟨rfl, ?_⟩); (try refine ⟨rfl, ?_⟩)
  first | (intro acts; rw [hret _ acts rfl rfl rfl]) | rw [hret _ _ rfl rfl rfl]
  exact Steps.refl _
/-- what holds at the law's entry: the machine, the code, the tables' words (any of lw_tbl by 'hts w (by decide +kernel)'), the script of L ints xs at the cell b, what the Statement gives of the start (any of its parts by flat_of_before) -/
def lw_At (p : Program) (s : State) (m : MethodId) (meth : Method) (c : Code) (b L : Nat) (xs : Nat → Int32) : Prop :=
  p.tables.exec = Jvm.exec ∧ c.code = code ∧ meth.sig.returnType = ret ∧ c.maxLocals = 4 ∧ s.vm.findClass R_law = some m.cls ∧ (∀ w ∈ lw_tbl, w.before #[Value.ref b] s = true) ∧ va_X b L xs s s.heap ∧ b < s.heap.size ∧ meth.locks = false ∧ (Jvm.Cond.and given_1 narrow_1).before #[Value.ref b] s = true
theorem bm {x : Int} (h1 : -2147483648 ≤ x) (h2 : x < 2147483648) : x.bmod (2 ^ 32) = x := Int.bmod_eq_of_le_mul_two (by show -((4294967296 : Nat) : Int) ≤ _; omega) (by show _ < ((4294967296 : Nat) : Int); omega)
theorem nI_s6 {L i : Nat} (hL : L ≤ 3072) (hi : i ≤ L + 6) : nI L - 6 < nI i ↔ L < i + 6 := by
  have h6 : ((nI L - 6 : Int32)).toInt = (L : Int) - 6 := by
    rw [Int32.toInt_sub, nI_toInt (by omega), show (6 : Int32).toInt = 6 from rfl, bm (by omega) (by omega)]
  rw [Int32.lt_iff_toInt_lt, h6, nI_toInt (by omega)]
  omega
set_option maxRecDepth 100000 in
set_option maxHeartbeats 8000000 in
theorem law_loop {p : Program} {e : Env} {s : State} {m : MethodId} {below : List Frame} {meth : Method} {c : Code} {l : Launch} {b L : Nat} {xs : Nat → Int32} {D : va_G} {ca ad : Nat → Nat} {N : Nat} {Rel : Mm → Prop} (hOK : OKall N Rel) (hL : L ≤ 3072) (C : Cx p s m meth c #[Value.ref b] code 4 ret RL D ca ad) (hX : va_X b L xs s s.heap) (hbl : b < s.heap.size) (hge : ∀ k, k < NT → s.heap.size ≤ ad k) : ∀ (n i : Nat), i ≤ L → L + 1 ≤ i + n → ∀ (mm : Mm) (H : Heap) (locs : List Loc) (ls : Array Slot), Rel mm → Wd D ca ad s.heap mm H locs → lv_has ls 4 [(3, .int (nI i)), (2, .ref (ad 175)), (1, .ref (ad 0)), (0, .ref b)] → W p l e room_1 s m #[Value.ref b] below meth c H locs 197 6445 (lw_Z below #[Value.ref b] s) (F0 m 18 ls []) := by
  have hbA : ¬ AA ad b := by
    rintro ⟨k, hk, e⟩
    have := hge k hk
    omega
  have hcs : 197 + 0 ≤ room_1.cells ∧ 6445 + 0 ≤ room_1.slots := ⟨Nat.le_of_ble_eq_true rfl, Nat.le_of_ble_eq_true rfl⟩
  intro n
  induction n with
  | zero => intro i h1 h2; omega
  | succ n ih =>
    intro i hi hn mm H locs ls hR hW hl
    refine lv_iload_n C.1 C.2.1 dL_law_18 rfl (lv_at hl 0 rfl) ?_
    refine lv_aload_n C.1 C.2.1 dL_law_19 rfl (lv_at hl 3 rfl) ?_
    refine va_slen C.1 C.2.1 hX hbl hbA hW.2 dL_law_20 ?_
    refine lv_bipush (v := 6) C.1 C.2.1 dL_law_21 (by decide) ?_
    refine lv_isub C.1 C.2.1 dL_law_23 ?_
    refine lv_icmp_gt (tgt := 1579) C.1 C.2.1 dL_law_24 (by decide) (fun _ => ?_) (fun c1 => ?_)
    · refine lv_iconst (v := 1) C.1 C.2.1 dL_law_1579 (by decide) ?_
      refine va_forget (fun q hq => ?_) ?_
      · obtain ⟨k, hk, e9⟩ := hW.2.2.2 q hq
        rw [e9]
        exact hge k hk
      · refine W.widen (k := 600000) (n := 7302250) (Nat.le_of_ble_eq_true rfl) (Nat.le_of_ble_eq_true rfl) ?_
        exact lw_ret C.1 C.2.1 C.2.2.2.2.2.2.2.1 C.2.2.2.2.2.2.2.2.1 dL_law_1580
    · have h6 : i + 6 ≤ L := by
        by_cases h : L < i + 6
        · exact absurd ((nI_s6 hL (by omega)).mpr h) c1
        · omega
      have hi0 : vp_in (nI i + 0) L := by rw [Int32.add_zero]; exact vp_in_nI (by omega) (by omega)
      have hi1 : vp_in (nI i + 1) L := by rw [show nI i + 1 = nI (i + 1) from nI_add i 1]; exact vp_in_nI (by omega) (by omega)
      have hi2 : vp_in (nI i + 2) L := by rw [show nI i + 2 = nI (i + 2) from nI_add i 2]; exact vp_in_nI (by omega) (by omega)
      have hi3 : vp_in (nI i + 3) L := by rw [show nI i + 3 = nI (i + 3) from nI_add i 3]; exact vp_in_nI (by omega) (by omega)
      have hi4 : vp_in (nI i + 4) L := by rw [show nI i + 4 = nI (i + 4) from nI_add i 4]; exact vp_in_nI (by omega) (by omega)
      have hi5 : vp_in (nI i + 5) L := by rw [show nI i + 5 = nI (i + 5) from nI_add i 5]; exact vp_in_nI (by omega) (by omega)
      have hi9 : vp_in (nI i) L := vp_in_nI (by omega) (by omega)
      have kk : ∀ (mm : Mm) (H : Heap) (locs : List Loc) (ls : Array Slot), Rel mm → Wd D ca ad s.heap mm H locs → lv_has ls 4 [(3, .int (nI i)), (2, .ref (ad 175)), (1, .ref (ad 0)), (0, .ref b)] → W p l e room_1 s m #[Value.ref b] below meth c H locs 197 6445 (lw_Z below #[Value.ref b] s) (F0 m 1573 ls []) := by
        intro mm H locs ls hR hW hl
        refine lv_iinc (v := nI (i + 6)) (lv' := [(3, .int (nI (i + 6))), (2, .ref (ad 175)), (1, .ref (ad 0)), (0, .ref b)]) C.1 C.2.1 dL_law_1573 hl (k := 0) rfl (nI_add i 6) (by decide) rfl (fun ls hl => ?_)
        refine lv_goto (tgt := 18) C.1 C.2.1 dL_law_1576 (by decide) ?_
        exact ih (i + 6) h6 (by omega) mm H locs ls hR hW hl
      refine lv_aload_n C.1 C.2.1 dL_law_27 rfl (lv_at hl 3 rfl) ?_
      refine lv_iload_n C.1 C.2.1 dL_law_28 rfl (lv_at hl 0 rfl) ?_
      refine va_sld C.1 C.2.1 hX hbl hbA hW.2 hi9 dL_law_29 ?_
      refine lv_bipush (v := 63) C.1 C.2.1 dL_law_30 (by decide) ?_
      refine lv_iand C.1 C.2.1 dL_law_32 ?_
      refine lv_topi (fun z hz => ?_)
      by_cases g0 : z = 0
      · refine z_tin C (tgt := 232) dL_law_33 g0 (by decide) (by decide) (off := 199) rfl (by decide) ?_
        exact lc_0 C hX hbl hbA hcs hi1 hi2 (hOK.1) hR hW hl kk
      by_cases g1 : z = 1
      · refine z_tin C (tgt := 265) dL_law_33 g1 (by decide) (by decide) (off := 232) rfl (by decide) ?_
        exact lc_1 C hX hbl hbA hcs hi1 hi2 hi3 (hOK.2.1) hR hW hl kk
      by_cases g2 : z = 2
      · refine z_tin C (tgt := 308) dL_law_33 g2 (by decide) (by decide) (off := 275) rfl (by decide) ?_
        exact lc_2 C hX hbl hbA hcs hi1 hi2 (hOK.2.2.1) hR hW hl kk
      by_cases g3 : z = 3
      · refine z_tin C (tgt := 341) dL_law_33 g3 (by decide) (by decide) (off := 308) rfl (by decide) ?_
        exact lc_3 C hX hbl hbA hcs hi1 (hOK.2.2.2.1) hR hW hl kk
      by_cases g4 : z = 4
      · refine z_tin C (tgt := 364) dL_law_33 g4 (by decide) (by decide) (off := 331) rfl (by decide) ?_
        exact lc_4 C hX hbl hbA hcs hi1 hi2 hi3 hi4 hi5 (hOK.2.2.2.2.1) hR hW hl kk
      by_cases g5 : z = 5
      · refine z_tin C (tgt := 427) dL_law_33 g5 (by decide) (by decide) (off := 394) rfl (by decide) ?_
        exact lc_5 C hX hbl hbA hcs hi1 (hOK.2.2.2.2.2.1) hR hW hl kk
      by_cases g6 : z = 6
      · refine z_tin C (tgt := 450) dL_law_33 g6 (by decide) (by decide) (off := 417) rfl (by decide) ?_
        exact lc_6 C hX hbl hbA hcs hi1 hi2 (hOK.2.2.2.2.2.2.1) hR hW hl kk
      by_cases g7 : z = 7
      · refine z_tin C (tgt := 483) dL_law_33 g7 (by decide) (by decide) (off := 450) rfl (by decide) ?_
        exact lc_7 C hX hbl hbA hcs hi1 hi2 hi3 (hOK.2.2.2.2.2.2.2.1) hR hW hl kk
      by_cases g8 : z = 8
      · refine z_tin C (tgt := 526) dL_law_33 g8 (by decide) (by decide) (off := 493) rfl (by decide) ?_
        exact lc_8 C hX hbl hbA hcs hi1 (hOK.2.2.2.2.2.2.2.2.1) hR hW hl kk
      by_cases g9 : z = 9
      · refine z_tin C (tgt := 549) dL_law_33 g9 (by decide) (by decide) (off := 516) rfl (by decide) ?_
        exact lc_9 C hX hbl hbA hcs hi1 (hOK.2.2.2.2.2.2.2.2.2.1) hR hW hl kk
      by_cases g10 : z = 10
      · refine z_tin C (tgt := 572) dL_law_33 g10 (by decide) (by decide) (off := 539) rfl (by decide) ?_
        exact lc_10 C hX hbl hbA hcs hi1 hi2 (hOK.2.2.2.2.2.2.2.2.2.2.1) hR hW hl kk
      by_cases g11 : z = 11
      · refine z_tin C (tgt := 605) dL_law_33 g11 (by decide) (by decide) (off := 572) rfl (by decide) ?_
        exact lc_11 C hX hbl hbA hcs hi1 hi2 (hOK.2.2.2.2.2.2.2.2.2.2.2.1) hR hW hl kk
      by_cases g12 : z = 12
      · refine z_tin C (tgt := 638) dL_law_33 g12 (by decide) (by decide) (off := 605) rfl (by decide) ?_
        exact lc_12 C hX hbl hbA hcs hi1 hi2 (hOK.2.2.2.2.2.2.2.2.2.2.2.2.1) hR hW hl kk
      by_cases g13 : z = 13
      · refine z_tin C (tgt := 671) dL_law_33 g13 (by decide) (by decide) (off := 638) rfl (by decide) ?_
        exact lc_13 C hX hbl hbA hcs hi1 (hOK.2.2.2.2.2.2.2.2.2.2.2.2.2.1) hR hW hl kk
      by_cases g14 : z = 14
      · refine z_tin C (tgt := 694) dL_law_33 g14 (by decide) (by decide) (off := 661) rfl (by decide) ?_
        exact lc_14 C hX hbl hbA hcs hi1 hi2 (hOK.2.2.2.2.2.2.2.2.2.2.2.2.2.2.1) hR hW hl kk
      by_cases g15 : z = 15
      · refine z_tin C (tgt := 727) dL_law_33 g15 (by decide) (by decide) (off := 694) rfl (by decide) ?_
        exact lc_15 C hX hbl hbA hcs hi1 hi2 hi3 (hOK.2.2.2.2.2.2.2.2.2.2.2.2.2.2.2.1) hR hW hl kk
      by_cases g16 : z = 16
      · refine z_tin C (tgt := 770) dL_law_33 g16 (by decide) (by decide) (off := 737) rfl (by decide) ?_
        exact lc_16 C hX hbl hbA hcs hi1 hi2 (hOK.2.2.2.2.2.2.2.2.2.2.2.2.2.2.2.2.1) hR hW hl kk
      by_cases g17 : z = 17
      · refine z_tin C (tgt := 803) dL_law_33 g17 (by decide) (by decide) (off := 770) rfl (by decide) ?_
        exact lc_17 C hX hbl hbA hcs hi1 hi2 (hOK.2.2.2.2.2.2.2.2.2.2.2.2.2.2.2.2.2.1) hR hW hl kk
      by_cases g18 : z = 18
      · refine z_tin C (tgt := 836) dL_law_33 g18 (by decide) (by decide) (off := 803) rfl (by decide) ?_
        exact lc_18 C hX hbl hbA hcs hi1 hi2 (hOK.2.2.2.2.2.2.2.2.2.2.2.2.2.2.2.2.2.2.1) hR hW hl kk
      by_cases g19 : z = 19
      · refine z_tin C (tgt := 869) dL_law_33 g19 (by decide) (by decide) (off := 836) rfl (by decide) ?_
        exact lc_19 C hX hbl hbA hcs hi1 (hOK.2.2.2.2.2.2.2.2.2.2.2.2.2.2.2.2.2.2.2.1) hR hW hl kk
      by_cases g20 : z = 20
      · refine z_tin C (tgt := 892) dL_law_33 g20 (by decide) (by decide) (off := 859) rfl (by decide) ?_
        exact lc_20 C hX hbl hbA hcs hi1 (hOK.2.2.2.2.2.2.2.2.2.2.2.2.2.2.2.2.2.2.2.2.1) hR hW hl kk
      by_cases g21 : z = 21
      · refine z_tin C (tgt := 915) dL_law_33 g21 (by decide) (by decide) (off := 882) rfl (by decide) ?_
        exact lc_21 C hX hbl hbA hcs hi1 hi2 hi3 hi4 (hOK.2.2.2.2.2.2.2.2.2.2.2.2.2.2.2.2.2.2.2.2.2.1) hR hW hl kk
      by_cases g22 : z = 22
      · refine z_tin C (tgt := 968) dL_law_33 g22 (by decide) (by decide) (off := 935) rfl (by decide) ?_
        exact lc_22 C hX hbl hbA hcs hi1 hi2 (hOK.2.2.2.2.2.2.2.2.2.2.2.2.2.2.2.2.2.2.2.2.2.2.1) hR hW hl kk
      by_cases g23 : z = 23
      · refine z_tin C (tgt := 1001) dL_law_33 g23 (by decide) (by decide) (off := 968) rfl (by decide) ?_
        exact lc_23 C hX hbl hbA hcs  (hOK.2.2.2.2.2.2.2.2.2.2.2.2.2.2.2.2.2.2.2.2.2.2.2.1) hR hW hl kk
      by_cases g24 : z = 24
      · refine z_tin C (tgt := 1014) dL_law_33 g24 (by decide) (by decide) (off := 981) rfl (by decide) ?_
        exact lc_24 C hX hbl hbA hcs hi1 hi2 hi3 (hOK.2.2.2.2.2.2.2.2.2.2.2.2.2.2.2.2.2.2.2.2.2.2.2.2.1) hR hW hl kk
      by_cases g25 : z = 25
      · refine z_tin C (tgt := 1057) dL_law_33 g25 (by decide) (by decide) (off := 1024) rfl (by decide) ?_
        exact lc_25 C hX hbl hbA hcs hi1 hi2 hi3 hi4 (hOK.2.2.2.2.2.2.2.2.2.2.2.2.2.2.2.2.2.2.2.2.2.2.2.2.2.1) hR hW hl kk
      by_cases g26 : z = 26
      · refine z_tin C (tgt := 1110) dL_law_33 g26 (by decide) (by decide) (off := 1077) rfl (by decide) ?_
        exact lc_26 C hX hbl hbA hcs hi1 hi2 (hOK.2.2.2.2.2.2.2.2.2.2.2.2.2.2.2.2.2.2.2.2.2.2.2.2.2.2.1) hR hW hl kk
      by_cases g27 : z = 27
      · refine z_tin C (tgt := 1143) dL_law_33 g27 (by decide) (by decide) (off := 1110) rfl (by decide) ?_
        exact lc_27 C hX hbl hbA hcs hi1 hi2 (hOK.2.2.2.2.2.2.2.2.2.2.2.2.2.2.2.2.2.2.2.2.2.2.2.2.2.2.2.1) hR hW hl kk
      by_cases g28 : z = 28
      · refine z_tin C (tgt := 1176) dL_law_33 g28 (by decide) (by decide) (off := 1143) rfl (by decide) ?_
        exact lc_28 C hX hbl hbA hcs hi1 hi2 (hOK.2.2.2.2.2.2.2.2.2.2.2.2.2.2.2.2.2.2.2.2.2.2.2.2.2.2.2.2.1) hR hW hl kk
      by_cases g29 : z = 29
      · refine z_tin C (tgt := 1209) dL_law_33 g29 (by decide) (by decide) (off := 1176) rfl (by decide) ?_
        exact lc_29 C hX hbl hbA hcs hi1 hi2 (hOK.2.2.2.2.2.2.2.2.2.2.2.2.2.2.2.2.2.2.2.2.2.2.2.2.2.2.2.2.2.1) hR hW hl kk
      by_cases g30 : z = 30
      · refine z_tin C (tgt := 1242) dL_law_33 g30 (by decide) (by decide) (off := 1209) rfl (by decide) ?_
        exact lc_30 C hX hbl hbA hcs hi1 (hOK.2.2.2.2.2.2.2.2.2.2.2.2.2.2.2.2.2.2.2.2.2.2.2.2.2.2.2.2.2.2.1) hR hW hl kk
      by_cases g31 : z = 31
      · refine z_tin C (tgt := 1265) dL_law_33 g31 (by decide) (by decide) (off := 1232) rfl (by decide) ?_
        exact lc_31 C hX hbl hbA hcs hi1 hi2 (hOK.2.2.2.2.2.2.2.2.2.2.2.2.2.2.2.2.2.2.2.2.2.2.2.2.2.2.2.2.2.2.2.1) hR hW hl kk
      by_cases g32 : z = 32
      · refine z_tin C (tgt := 1298) dL_law_33 g32 (by decide) (by decide) (off := 1265) rfl (by decide) ?_
        exact lc_32 C hX hbl hbA hcs hi1 hi2 (hOK.2.2.2.2.2.2.2.2.2.2.2.2.2.2.2.2.2.2.2.2.2.2.2.2.2.2.2.2.2.2.2.2.1) hR hW hl kk
      by_cases g33 : z = 33
      · refine z_tin C (tgt := 1331) dL_law_33 g33 (by decide) (by decide) (off := 1298) rfl (by decide) ?_
        exact lc_33 C hX hbl hbA hcs hi1 (hOK.2.2.2.2.2.2.2.2.2.2.2.2.2.2.2.2.2.2.2.2.2.2.2.2.2.2.2.2.2.2.2.2.2.1) hR hW hl kk
      by_cases g34 : z = 34
      · refine z_tin C (tgt := 1354) dL_law_33 g34 (by decide) (by decide) (off := 1321) rfl (by decide) ?_
        exact lc_34 C hX hbl hbA hcs  (hOK.2.2.2.2.2.2.2.2.2.2.2.2.2.2.2.2.2.2.2.2.2.2.2.2.2.2.2.2.2.2.2.2.2.2.1) hR hW hl kk
      by_cases g35 : z = 35
      · refine z_tin C (tgt := 1367) dL_law_33 g35 (by decide) (by decide) (off := 1334) rfl (by decide) ?_
        exact lc_35 C hX hbl hbA hcs hi1 (hOK.2.2.2.2.2.2.2.2.2.2.2.2.2.2.2.2.2.2.2.2.2.2.2.2.2.2.2.2.2.2.2.2.2.2.2.1) hR hW hl kk
      by_cases g36 : z = 36
      · refine z_tin C (tgt := 1390) dL_law_33 g36 (by decide) (by decide) (off := 1357) rfl (by decide) ?_
        exact lc_36 C hX hbl hbA hcs hi1 (hOK.2.2.2.2.2.2.2.2.2.2.2.2.2.2.2.2.2.2.2.2.2.2.2.2.2.2.2.2.2.2.2.2.2.2.2.2.1) hR hW hl kk
      by_cases g37 : z = 37
      · refine z_tin C (tgt := 1413) dL_law_33 g37 (by decide) (by decide) (off := 1380) rfl (by decide) ?_
        exact lc_37 C hX hbl hbA hcs hi1 (hOK.2.2.2.2.2.2.2.2.2.2.2.2.2.2.2.2.2.2.2.2.2.2.2.2.2.2.2.2.2.2.2.2.2.2.2.2.2.1) hR hW hl kk
      by_cases g38 : z = 38
      · refine z_tin C (tgt := 1436) dL_law_33 g38 (by decide) (by decide) (off := 1403) rfl (by decide) ?_
        exact lc_38 C hX hbl hbA hcs hi1 (hOK.2.2.2.2.2.2.2.2.2.2.2.2.2.2.2.2.2.2.2.2.2.2.2.2.2.2.2.2.2.2.2.2.2.2.2.2.2.2.1) hR hW hl kk
      by_cases g39 : z = 39
      · refine z_tin C (tgt := 1459) dL_law_33 g39 (by decide) (by decide) (off := 1426) rfl (by decide) ?_
        exact lc_39 C hX hbl hbA hcs  (hOK.2.2.2.2.2.2.2.2.2.2.2.2.2.2.2.2.2.2.2.2.2.2.2.2.2.2.2.2.2.2.2.2.2.2.2.2.2.2.2.1) hR hW hl kk
      by_cases g40 : z = 40
      · refine z_tin C (tgt := 1472) dL_law_33 g40 (by decide) (by decide) (off := 1439) rfl (by decide) ?_
        exact lc_40 C hX hbl hbA hcs  (hOK.2.2.2.2.2.2.2.2.2.2.2.2.2.2.2.2.2.2.2.2.2.2.2.2.2.2.2.2.2.2.2.2.2.2.2.2.2.2.2.2.1) hR hW hl kk
      by_cases g41 : z = 41
      · refine z_tin C (tgt := 1486) dL_law_33 g41 (by decide) (by decide) (off := 1453) rfl (by decide) ?_
        exact lc_41 C hX hbl hbA hcs  (hOK.2.2.2.2.2.2.2.2.2.2.2.2.2.2.2.2.2.2.2.2.2.2.2.2.2.2.2.2.2.2.2.2.2.2.2.2.2.2.2.2.2.1) hR hW hl kk
      by_cases g42 : z = 42
      · refine z_tin C (tgt := 1500) dL_law_33 g42 (by decide) (by decide) (off := 1467) rfl (by decide) ?_
        exact lc_42 C hX hbl hbA hcs hi1 (hOK.2.2.2.2.2.2.2.2.2.2.2.2.2.2.2.2.2.2.2.2.2.2.2.2.2.2.2.2.2.2.2.2.2.2.2.2.2.2.2.2.2.2.1) hR hW hl kk
      by_cases g43 : z = 43
      · refine z_tin C (tgt := 1523) dL_law_33 g43 (by decide) (by decide) (off := 1490) rfl (by decide) ?_
        exact lc_43 C hX hbl hbA hcs  (hOK.2.2.2.2.2.2.2.2.2.2.2.2.2.2.2.2.2.2.2.2.2.2.2.2.2.2.2.2.2.2.2.2.2.2.2.2.2.2.2.2.2.2.2.1) hR hW hl kk
      by_cases g44 : z = 44
      · refine z_tin C (tgt := 1536) dL_law_33 g44 (by decide) (by decide) (off := 1503) rfl (by decide) ?_
        exact lc_44 C hX hbl hbA hcs hi1 (hOK.2.2.2.2.2.2.2.2.2.2.2.2.2.2.2.2.2.2.2.2.2.2.2.2.2.2.2.2.2.2.2.2.2.2.2.2.2.2.2.2.2.2.2.2.1) hR hW hl kk
      by_cases g45 : z = 45
      · refine z_tin C (tgt := 1559) dL_law_33 g45 (by decide) (by decide) (off := 1526) rfl (by decide) ?_
        exact lc_45 C hX hbl hbA hcs  (hOK.2.2.2.2.2.2.2.2.2.2.2.2.2.2.2.2.2.2.2.2.2.2.2.2.2.2.2.2.2.2.2.2.2.2.2.2.2.2.2.2.2.2.2.2.2) hR hW hl kk
      have hd : z.toInt < 0 ∨ 45 < z.toInt := by
        have := lv_neT g0 (a := 0) (by decide)
        have := lv_neT g1 (a := 1) (by decide)
        have := lv_neT g2 (a := 2) (by decide)
        have := lv_neT g3 (a := 3) (by decide)
        have := lv_neT g4 (a := 4) (by decide)
        have := lv_neT g5 (a := 5) (by decide)
        have := lv_neT g6 (a := 6) (by decide)
        have := lv_neT g7 (a := 7) (by decide)
        have := lv_neT g8 (a := 8) (by decide)
        have := lv_neT g9 (a := 9) (by decide)
        have := lv_neT g10 (a := 10) (by decide)
        have := lv_neT g11 (a := 11) (by decide)
        have := lv_neT g12 (a := 12) (by decide)
        have := lv_neT g13 (a := 13) (by decide)
        have := lv_neT g14 (a := 14) (by decide)
        have := lv_neT g15 (a := 15) (by decide)
        have := lv_neT g16 (a := 16) (by decide)
        have := lv_neT g17 (a := 17) (by decide)
        have := lv_neT g18 (a := 18) (by decide)
        have := lv_neT g19 (a := 19) (by decide)
        have := lv_neT g20 (a := 20) (by decide)
        have := lv_neT g21 (a := 21) (by decide)
        have := lv_neT g22 (a := 22) (by decide)
        have := lv_neT g23 (a := 23) (by decide)
        have := lv_neT g24 (a := 24) (by decide)
        have := lv_neT g25 (a := 25) (by decide)
        have := lv_neT g26 (a := 26) (by decide)
        have := lv_neT g27 (a := 27) (by decide)
        have := lv_neT g28 (a := 28) (by decide)
        have := lv_neT g29 (a := 29) (by decide)
        have := lv_neT g30 (a := 30) (by decide)
        have := lv_neT g31 (a := 31) (by decide)
        have := lv_neT g32 (a := 32) (by decide)
        have := lv_neT g33 (a := 33) (by decide)
        have := lv_neT g34 (a := 34) (by decide)
        have := lv_neT g35 (a := 35) (by decide)
        have := lv_neT g36 (a := 36) (by decide)
        have := lv_neT g37 (a := 37) (by decide)
        have := lv_neT g38 (a := 38) (by decide)
        have := lv_neT g39 (a := 39) (by decide)
        have := lv_neT g40 (a := 40) (by decide)
        have := lv_neT g41 (a := 41) (by decide)
        have := lv_neT g42 (a := 42) (by decide)
        have := lv_neT g43 (a := 43) (by decide)
        have := lv_neT g44 (a := 44) (by decide)
        have := lv_neT g45 (a := 45) (by decide)
        omega
      exact lv_tableOut C.1 C.2.1 dL_law_33 hd (tgt := 1573) (by decide) (kk mm H locs ls hR hW hl)
