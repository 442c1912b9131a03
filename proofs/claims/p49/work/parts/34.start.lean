theorem s6_95 : sX6 95 := ⟨by decide, rfl, (⟨by decide, rfl⟩ : sI 96)⟩
theorem s6_97 : sX6 97 := ⟨by decide, rfl, (⟨by decide, rfl⟩ : sI 98)⟩
theorem s6_99 : sX6 99 := ⟨by decide, rfl, (⟨by decide, rfl⟩ : sI 100)⟩
theorem s6_101 : sX6 101 := ⟨by decide, rfl, (⟨by decide, rfl⟩ : sI 102)⟩
theorem s6_103 : sX6 103 := ⟨by decide, rfl, (⟨by decide, rfl⟩ : sI 104)⟩
theorem s6_105 : sX6 105 := ⟨by decide, rfl, (⟨by decide, rfl⟩ : sI 106)⟩
theorem s6_107 : sX6 107 := ⟨by decide, rfl, (⟨by decide, rfl⟩ : sI 108)⟩
theorem s6_109 : sX6 109 := ⟨by decide, rfl, (⟨by decide, rfl⟩ : sI 110)⟩
theorem s6_111 : sX6 111 := ⟨by decide, rfl, (⟨by decide, rfl⟩ : sI 112)⟩
theorem s6_113 : sX6 113 := ⟨by decide, rfl, (⟨by decide, rfl⟩ : sI 114)⟩
theorem s9_17 : sX9 17 := ⟨by decide, rfl, trivial⟩
theorem s9_18 : sX9 18 := ⟨by decide, rfl, trivial⟩
theorem s9_19 : sX9 19 := ⟨by decide, rfl, trivial⟩
theorem s9_20 : sX9 20 := ⟨by decide, rfl, trivial⟩
theorem s9_21 : sX9 21 := ⟨by decide, rfl, trivial⟩
theorem s9_22 : sX9 22 := ⟨by decide, rfl, trivial⟩
theorem s0_3 : sX0 3 := ⟨by decide, rfl, (⟨⟨by decide, rfl⟩, fun j hj => by rcases (by have h9 : ln 4 = 6 := rfl; omega : j = 0 ∨ j = 1 ∨ j = 2 ∨ j = 3 ∨ j = 4 ∨ j = 5) with rfl | rfl | rfl | rfl | rfl | rfl; exact (s9_17 : sX9 17); exact (s9_18 : sX9 18); exact (s9_19 : sX9 19); exact (s9_20 : sX9 20); exact (s9_21 : sX9 21); exact (s9_22 : sX9 22)⟩ : sB sX9 2 4), (⟨by decide, rfl⟩ : sI 5), (⟨by decide, rfl⟩ : sI 6), (⟨⟨by decide, rfl⟩, fun j hj => by rcases (by have h9 : ln 7 = 8 := rfl; omega : j = 0 ∨ j = 1 ∨ j = 2 ∨ j = 3 ∨ j = 4 ∨ j = 5 ∨ j = 6 ∨ j = 7) with rfl | rfl | rfl | rfl | rfl | rfl | rfl | rfl; exact (⟨by decide, rfl⟩ : sI 8); exact (⟨by decide, rfl⟩ : sI 9); exact (⟨by decide, rfl⟩ : sI 10); exact (⟨by decide, rfl⟩ : sI 11); exact (⟨by decide, rfl⟩ : sI 12); exact (⟨by decide, rfl⟩ : sI 13); exact (⟨by decide, rfl⟩ : sI 14); exact (⟨by decide, rfl⟩ : sI 15)⟩ : sB sI 3 7), (⟨by decide, rfl⟩ : sI 16)⟩
theorem s9_129 : sX9 129 := ⟨by decide, rfl, trivial⟩
theorem s9_130 : sX9 130 := ⟨by decide, rfl, trivial⟩
theorem s9_131 : sX9 131 := ⟨by decide, rfl, trivial⟩
theorem s9_132 : sX9 132 := ⟨by decide, rfl, trivial⟩
theorem s9_133 : sX9 133 := ⟨by decide, rfl, trivial⟩
theorem s9_134 : sX9 134 := ⟨by decide, rfl, trivial⟩
theorem s0_115 : sX0 115 := ⟨by decide, rfl, (⟨⟨by decide, rfl⟩, fun j hj => by rcases (by have h9 : ln 116 = 6 := rfl; omega : j = 0 ∨ j = 1 ∨ j = 2 ∨ j = 3 ∨ j = 4 ∨ j = 5) with rfl | rfl | rfl | rfl | rfl | rfl; exact (s9_129 : sX9 129); exact (s9_130 : sX9 130); exact (s9_131 : sX9 131); exact (s9_132 : sX9 132); exact (s9_133 : sX9 133); exact (s9_134 : sX9 134)⟩ : sB sX9 2 116), (⟨by decide, rfl⟩ : sI 117), (⟨by decide, rfl⟩ : sI 118), (⟨⟨by decide, rfl⟩, fun j hj => by rcases (by have h9 : ln 119 = 8 := rfl; omega : j = 0 ∨ j = 1 ∨ j = 2 ∨ j = 3 ∨ j = 4 ∨ j = 5 ∨ j = 6 ∨ j = 7) with rfl | rfl | rfl | rfl | rfl | rfl | rfl | rfl; exact (⟨by decide, rfl⟩ : sI 120); exact (⟨by decide, rfl⟩ : sI 121); exact (⟨by decide, rfl⟩ : sI 122); exact (⟨by decide, rfl⟩ : sI 123); exact (⟨by decide, rfl⟩ : sI 124); exact (⟨by decide, rfl⟩ : sI 125); exact (⟨by decide, rfl⟩ : sI 126); exact (⟨by decide, rfl⟩ : sI 127)⟩ : sB sI 3 119), (⟨by decide, rfl⟩ : sI 128)⟩
theorem s9_149 : sX9 149 := ⟨by decide, rfl, trivial⟩
theorem s9_150 : sX9 150 := ⟨by decide, rfl, trivial⟩
theorem s9_151 : sX9 151 := ⟨by decide, rfl, trivial⟩
theorem s9_152 : sX9 152 := ⟨by decide, rfl, trivial⟩
theorem s9_153 : sX9 153 := ⟨by decide, rfl, trivial⟩
theorem s9_154 : sX9 154 := ⟨by decide, rfl, trivial⟩
theorem s0_135 : sX0 135 := ⟨by decide, rfl, (⟨⟨by decide, rfl⟩, fun j hj => by rcases (by have h9 : ln 136 = 6 := rfl; omega : j = 0 ∨ j = 1 ∨ j = 2 ∨ j = 3 ∨ j = 4 ∨ j = 5) with rfl | rfl | rfl | rfl | rfl | rfl; exact (s9_149 : sX9 149); exact (s9_150 : sX9 150); exact (s9_151 : sX9 151); exact (s9_152 : sX9 152); exact (s9_153 : sX9 153); exact (s9_154 : sX9 154)⟩ : sB sX9 2 136), (⟨by decide, rfl⟩ : sI 137), (⟨by decide, rfl⟩ : sI 138), (⟨⟨by decide, rfl⟩, fun j hj => by rcases (by have h9 : ln 139 = 8 := rfl; omega : j = 0 ∨ j = 1 ∨ j = 2 ∨ j = 3 ∨ j = 4 ∨ j = 5 ∨ j = 6 ∨ j = 7) with rfl | rfl | rfl | rfl | rfl | rfl | rfl | rfl; exact (⟨by decide, rfl⟩ : sI 140); exact (⟨by decide, rfl⟩ : sI 141); exact (⟨by decide, rfl⟩ : sI 142); exact (⟨by decide, rfl⟩ : sI 143); exact (⟨by decide, rfl⟩ : sI 144); exact (⟨by decide, rfl⟩ : sI 145); exact (⟨by decide, rfl⟩ : sI 146); exact (⟨by decide, rfl⟩ : sI 147)⟩ : sB sI 3 139), (⟨by decide, rfl⟩ : sI 148)⟩
theorem s9_169 : sX9 169 := ⟨by decide, rfl, trivial⟩
theorem s9_170 : sX9 170 := ⟨by decide, rfl, trivial⟩
theorem s9_171 : sX9 171 := ⟨by decide, rfl, trivial⟩
theorem s9_172 : sX9 172 := ⟨by decide, rfl, trivial⟩
theorem s9_173 : sX9 173 := ⟨by decide, rfl, trivial⟩
theorem s9_174 : sX9 174 := ⟨by decide, rfl, trivial⟩
theorem s0_155 : sX0 155 := ⟨by decide, rfl, (⟨⟨by decide, rfl⟩, fun j hj => by rcases (by have h9 : ln 156 = 6 := rfl; omega : j = 0 ∨ j = 1 ∨ j = 2 ∨ j = 3 ∨ j = 4 ∨ j = 5) with rfl | rfl | rfl | rfl | rfl | rfl; exact (s9_169 : sX9 169); exact (s9_170 : sX9 170); exact (s9_171 : sX9 171); exact (s9_172 : sX9 172); exact (s9_173 : sX9 173); exact (s9_174 : sX9 174)⟩ : sB sX9 2 156), (⟨by decide, rfl⟩ : sI 157), (⟨by decide, rfl⟩ : sI 158), (⟨⟨by decide, rfl⟩, fun j hj => by rcases (by have h9 : ln 159 = 8 := rfl; omega : j = 0 ∨ j = 1 ∨ j = 2 ∨ j = 3 ∨ j = 4 ∨ j = 5 ∨ j = 6 ∨ j = 7) with rfl | rfl | rfl | rfl | rfl | rfl | rfl | rfl; exact (⟨by decide, rfl⟩ : sI 160); exact (⟨by decide, rfl⟩ : sI 161); exact (⟨by decide, rfl⟩ : sI 162); exact (⟨by decide, rfl⟩ : sI 163); exact (⟨by decide, rfl⟩ : sI 164); exact (⟨by decide, rfl⟩ : sI 165); exact (⟨by decide, rfl⟩ : sI 166); exact (⟨by decide, rfl⟩ : sI 167)⟩ : sB sI 3 159), (⟨by decide, rfl⟩ : sI 168)⟩
theorem s5_24 : sX5 24 := ⟨by decide, rfl, (⟨by decide, rfl⟩ : sI 25), (⟨by decide, rfl⟩ : sI 26), (⟨by decide, rfl⟩ : sI 27), (⟨by decide, rfl⟩ : sI 28)⟩
theorem s7_29 : sX7 29 := ⟨by decide, rfl, (⟨by decide, rfl⟩ : sI 30), (⟨by decide, rfl⟩ : sI 31), (⟨by decide, rfl⟩ : sI 32)⟩
theorem s3_33 : sX3 33 := ⟨by decide, rfl, (⟨by decide, rfl⟩ : sI 34)⟩
theorem s8_35 : sX8 35 := ⟨by decide, rfl, (⟨by decide, rfl⟩ : sI 36), (⟨by decide, rfl⟩ : sI 37), (⟨by decide, rfl⟩ : sI 38), (⟨by decide, rfl⟩ : sI 39)⟩
theorem s1_40 : sX1 40 := ⟨by decide, rfl, (⟨by decide, rfl⟩ : sI 41)⟩
theorem s7_43 : sX7 43 := ⟨by decide, rfl, (⟨by decide, rfl⟩ : sI 44), (⟨by decide, rfl⟩ : sI 45), (⟨by decide, rfl⟩ : sI 46)⟩
theorem s7_47 : sX7 47 := ⟨by decide, rfl, (⟨by decide, rfl⟩ : sI 48), (⟨by decide, rfl⟩ : sI 49), (⟨by decide, rfl⟩ : sI 50)⟩
theorem s4_42 : sX4 42 := ⟨by decide, rfl, (s7_43 : sX7 43), (s7_47 : sX7 47), (⟨by decide, rfl⟩ : sI 51)⟩
theorem s10_52 : sX10 52 := ⟨by decide, rfl, (⟨by decide, rfl⟩ : sI 53), (⟨by decide, rfl⟩ : sI 54)⟩
theorem s7_57 : sX7 57 := ⟨by decide, rfl, (⟨by decide, rfl⟩ : sI 58), (⟨by decide, rfl⟩ : sI 59), (⟨by decide, rfl⟩ : sI 60)⟩
theorem s7_70 : sX7 70 := ⟨by decide, rfl, (⟨by decide, rfl⟩ : sI 71), (⟨by decide, rfl⟩ : sI 72), (⟨by decide, rfl⟩ : sI 73)⟩
theorem s7_74 : sX7 74 := ⟨by decide, rfl, (⟨by decide, rfl⟩ : sI 75), (⟨by decide, rfl⟩ : sI 76), (⟨by decide, rfl⟩ : sI 77)⟩
theorem s7_78 : sX7 78 := ⟨by decide, rfl, (⟨by decide, rfl⟩ : sI 79), (⟨by decide, rfl⟩ : sI 80), (⟨by decide, rfl⟩ : sI 81)⟩
theorem s7_82 : sX7 82 := ⟨by decide, rfl, (⟨by decide, rfl⟩ : sI 83), (⟨by decide, rfl⟩ : sI 84), (⟨by decide, rfl⟩ : sI 85)⟩
theorem s7_86 : sX7 86 := ⟨by decide, rfl, (⟨by decide, rfl⟩ : sI 87), (⟨by decide, rfl⟩ : sI 88), (⟨by decide, rfl⟩ : sI 89)⟩
theorem s7_90 : sX7 90 := ⟨by decide, rfl, (⟨by decide, rfl⟩ : sI 91), (⟨by decide, rfl⟩ : sI 92), (⟨by decide, rfl⟩ : sI 93)⟩
theorem s2_55 : sX2 55 := ⟨by decide, rfl, (⟨by decide, rfl⟩ : sI 56), (s7_57 : sX7 57), (⟨⟨by decide, rfl⟩, fun j hj => by rcases (by have h9 : ln 61 = 6 := rfl; omega : j = 0 ∨ j = 1 ∨ j = 2 ∨ j = 3 ∨ j = 4 ∨ j = 5) with rfl | rfl | rfl | rfl | rfl | rfl; exact (⟨by decide, rfl⟩ : sI 62); exact (⟨by decide, rfl⟩ : sI 63); exact (⟨by decide, rfl⟩ : sI 64); exact (⟨by decide, rfl⟩ : sI 65); exact (⟨by decide, rfl⟩ : sI 66); exact (⟨by decide, rfl⟩ : sI 67)⟩ : sB sI 3 61), (⟨⟨by decide, rfl⟩, fun j hj => by rcases (by have h9 : ln 68 = 6 := rfl; omega : j = 0 ∨ j = 1 ∨ j = 2 ∨ j = 3 ∨ j = 4 ∨ j = 5) with rfl | rfl | rfl | rfl | rfl | rfl; exact (s7_70 : sX7 70); exact (s7_74 : sX7 74); exact (s7_78 : sX7 78); exact (s7_82 : sX7 82); exact (s7_86 : sX7 86); exact (s7_90 : sX7 90)⟩ : sB sX7 4 68), (⟨by decide, rfl⟩ : sI 69)⟩
theorem s11_0 : sX11 0 := ⟨by decide, rfl, (⟨⟨by decide, rfl⟩, fun j hj => by rcases (by have h9 : ln 1 = 6 := rfl; omega : j = 0 ∨ j = 1 ∨ j = 2 ∨ j = 3 ∨ j = 4 ∨ j = 5) with rfl | rfl | rfl | rfl | rfl | rfl; exact (s6_95 : sX6 95); exact (s6_97 : sX6 97); exact (s6_99 : sX6 99); exact (s6_101 : sX6 101); exact (s6_103 : sX6 103); exact (s6_105 : sX6 105)⟩ : sB sX6 0 1), (⟨⟨by decide, rfl⟩, fun j hj => by rcases (by have h9 : ln 2 = 4 := rfl; omega : j = 0 ∨ j = 1 ∨ j = 2 ∨ j = 3) with rfl | rfl | rfl | rfl; exact (s6_107 : sX6 107); exact (s6_109 : sX6 109); exact (s6_111 : sX6 111); exact (s6_113 : sX6 113)⟩ : sB sX6 0 2), (s0_3 : sX0 3), (⟨⟨by decide, rfl⟩, fun j hj => by rcases (by have h9 : ln 23 = 3 := rfl; omega : j = 0 ∨ j = 1 ∨ j = 2) with rfl | rfl | rfl; exact (s0_115 : sX0 115); exact (s0_135 : sX0 135); exact (s0_155 : sX0 155)⟩ : sB sX0 1 23), (s5_24 : sX5 24), (s7_29 : sX7 29), (s3_33 : sX3 33), (s8_35 : sX8 35), (s1_40 : sX1 40), (s4_42 : sX4 42), (s10_52 : sX10 52), (s2_55 : sX2 55), (⟨by decide, rfl⟩ : sI 94)⟩
theorem arrC_obj {EC : String} {s : State} (h : va_AO EC s) : ∃ a : ClassId, ArrOfT s a (.object EC) ∧ va_RA s a (.object EC) := by
  obtain ⟨comp, a, k, h1, -, h3, h4, h5⟩ := Cond.arrayOver_spec h
  exact ⟨a, fun N z => ⟨(fun k h => by cases h), k, h3, comp, h4⟩, k, comp, h3, h4, h1, h5⟩
theorem arrC_arr {s : State} (h : AOI s) : ∃ a : ClassId, ArrOfT s a (.array .int) ∧ va_RA s a (.array .int) := by
  obtain ⟨comp, a, k, h1, h3, h4, h5⟩ := Cond.arrayOver_specA h
  exact ⟨a, fun N z => ⟨(fun k h => by cases h), k, h3, comp, h4⟩, h5⟩
theorem arrC_int {b : Nat} {s : State} (h : (Cond.arrayClass .int).before #[Value.ref b] s = true) : ∃ a : ClassId, ArrOfT s a .int ∧ va_RA s a .int := by
  obtain ⟨a, k, comp, h1, h2, h3⟩ := Cond.arrayClass_spec h
  exact ⟨a, fun N z => ⟨(fun k h => by cases h), k, h2, comp, h3⟩, h1⟩

theorem q_18 : Cond.instantiable RX11 17 ∈ wT := wi_t 18 (by decide +kernel) (by decide +kernel)
theorem q_17 : Cond.classLink RL 10 RX11 ∈ wT := wi_t 17 (by decide +kernel) (by decide +kernel)
theorem q_21 : Cond.code yX11_init cX11_init 2 none ∈ wT := wi_t 21 (by decide +kernel) (by decide +kernel)
theorem q_20 : Cond.instanceMethod yX11_init ∈ wT := wi_t 20 (by decide +kernel) (by decide +kernel)
theorem q_19 : Cond.methodLink RL 49 yX11_init ∈ wT := wi_t 19 (by decide +kernel) (by decide +kernel)
theorem q_844 : Cond.code yL_court cL_court 11 (some .boolean) ∈ wT := wi_t 844 (by decide +kernel) (by decide +kernel)
theorem q_843 : Cond.static yL_court ∈ wT := wi_t 843 (by decide +kernel) (by decide +kernel)
theorem q_842 : Cond.methodLink RL 50 yL_court ∈ wT := wi_t 842 (by decide +kernel) (by decide +kernel)
theorem kvL_court : KS yL_court cL_court 11 (some .boolean) 6 := ⟨q_843, q_0, q_844, by decide +kernel, by decide +kernel, by decide +kernel⟩
theorem kiX11_init : KI yX11_init RX11 cX11_init 2 0 := ⟨rfl, rfl, q_20, q_1, q_21, by decide +kernel, by decide +kernel, by decide +kernel⟩
def fL_law (N L : Nat) (xs : Nat → Int32) : Option (Int32 × Mm) :=
  bd2 (fL_cell N L xs 0 mm0) fun x1 m1 => bd2 (fL_low N x1 4 m1) fun x2 m2 => bd2 (fL_court_6 N L xs 0 1 (1 + x2) 8 175 176 (zr (zr m2 175) 176)) fun x3 m3 => if x3 = 0 then some (0, m3) else bd2 (fL_cell N L xs 6 m3) fun x4 m4 => bd2 (fL_low N x4 5 m4) fun x5 m5 => bd2 (fX11_damp N 0 x5 m5) fun x6 m6 => if x6 = 0 then fL_law_69 N L xs 0 (1 + x2) 175 177 178 (zr (zr m6 177) 178) else some (0, m6)
set_option maxRecDepth 100000 in
set_option maxHeartbeats 8000000 in
theorem law_8 {p : Program} (l : Launch) {e : Env} {s : State} {m : MethodId} {below : List Frame} {meth : Method} {c : Code} {D : va_G} {ca ad : Nat → Nat} {b L : Nat} {xs : Nat → Int32} {H : Heap} {locs : List Loc} {ls : Array Slot} {N : Nat} {res : Int32 × Mm} (hM : ad 1000 = 175) (hge : ∀ k, k < ad 1000 → s.heap.size ≤ ad k) (CS : CxS p s m meth c #[Value.ref b] code 29 ret RL D ca ad b L xs) (hW : Wd D ca ad s.heap mm0 H locs) (hl : lv_has ls 29 [(1, .ref (ad 0)), (0, .ref b)]) (hf : fL_law N L xs = some res) (hres : res.1 = 1) : W p l e room_1 s m #[Value.ref b] below meth c H locs 175 3601 (lw_Z below #[Value.ref b] s) (F0 m 8 ls []) := by
  unfold fL_law at hf
  obtain ⟨x1, m1, r1, hf⟩ := bd2_s hf
  obtain ⟨x2, m2, r2, hf⟩ := bd2_s hf
  obtain ⟨x3, m3, r3, hf⟩ := bd2_s hf
  refine lv_iconst (v := 1) CS.1.1 CS.1.2.1 dL_law_8 (by decide) ?_
  refine lv_aload_n CS.1.1 CS.1.2.1 dL_law_9 rfl (lv_at hl 1 rfl) ?_
  refine lv_iconst (v := 0) CS.1.1 CS.1.2.1 dL_law_10 (by decide) ?_
  refine z_ci hW (z_runX CS hW [.ref b, .int 0] [.int 1] kvL_cell q_835 (tL_cell l CS.1.2.2.2.2.2.2.1 r1) rfl rfl ⟨by decide, by decide⟩ rfl hl.1 rfl (Nat.le_of_ble_eq_true rfl) dL_law_11 ⟨Nat.le_of_ble_eq_true rfl, Nat.le_of_ble_eq_true rfl⟩) (fun H locs hW => ?_)
  refine lv_iconst (v := 4) CS.1.1 CS.1.2.1 dL_law_14 (by decide) ?_
  refine z_ci hW (z_runS CS.1 hW [.int x1, .int 4] [.int 1] kvL_low q_831 (tL_low l CS.1.2.2.2.2.2.2.1 r2) rfl rfl ⟨by decide, by decide⟩ rfl hl.1 rfl (Nat.le_of_ble_eq_true rfl) dL_law_15 ⟨Nat.le_of_ble_eq_true rfl, Nat.le_of_ble_eq_true rfl⟩) (fun H locs hW => ?_)
  refine lv_iadd CS.1.1 CS.1.2.1 dL_law_18 ?_
  refine lv_istore_n (lv' := [(2, .int (1 + x2)), (1, .ref (ad 0)), (0, .ref b)]) CS.1.1 CS.1.2.1 dL_law_19 rfl hl (by decide) rfl (fun ls hl => ?_)
  have h1000 : ad 1000 < 1000 := by omega
  refine lv_bipush (v := 20) CS.1.1 CS.1.2.1 dL_law_20 (by decide) ?_
  refine z_newa CS.1 hW (by omega) (N' := 20) (by rw [hM]; rfl) (by decide) (by decide) (by decide) (Nat.le_of_ble_eq_true rfl) (Nat.le_of_ble_eq_true rfl) q_56 dL_law_22 (fun H1 hi1 hW1 => ?_)
  have hz : s.heap.size ≤ H.size := hW.2.1
  obtain ⟨a1, ea1⟩ : ∃ a, a = ext ad H.size := ⟨_, rfl⟩
  have hM1 : a1 1000 = 176 := by rw [ea1, ext_M h1000]; omega
  have e0 : a1 0 = ad 0 := by rw [ea1]; exact ext_o (by omega) h1000
  have e175 : a1 175 = H.size := by rw [ea1, ← hM]; exact ext_z
  have hge1 : ∀ k, k < a1 1000 → s.heap.size ≤ a1 k := by
    intro k hk
    rw [hM1] at hk
    by_cases h : k = 175
    · rw [h, e175]; exact hz
    · rw [ea1, ext_o (by omega) h1000]; exact hge k (by omega)
  have CS1 := CxS.ext h1000 hz CS hi1
  rw [← ea1] at CS1 hW1
  rw [← e175]
  rw [← e0] at hl
  rw [hM] at hW1
  refine lv_astore_n (lv' := [(3, .ref (a1 175)), (2, .int (1 + x2)), (1, .ref (a1 0)), (0, .ref b)]) CS.1.1 CS.1.2.1 dL_law_24 rfl hl (by decide) rfl (fun ls hl => ?_)
  clear hW
  have CS := CS1
  have hW := hW1
  have h1000 : a1 1000 < 1000 := by omega
  refine lv_aload_n CS.1.1 CS.1.2.1 dL_law_25 rfl (lv_at hl 2 rfl) ?_
  refine lv_aload_n CS.1.1 CS.1.2.1 dL_law_26 rfl (lv_at hl 3 rfl) ?_
  refine lv_iconst (v := 1) CS.1.1 CS.1.2.1 dL_law_27 (by decide) ?_
  refine lv_iload_n CS.1.1 CS.1.2.1 dL_law_28 rfl (lv_at hl 1 rfl) ?_
  refine lv_bipush (v := 8) CS.1.1 CS.1.2.1 dL_law_29 (by decide) ?_
  refine lv_aload_n CS.1.1 CS.1.2.1 dL_law_31 rfl (lv_at hl 0 rfl) ?_
  have h175 : sJ a1 175 := ⟨by omega, rfl⟩
  have hz1 : s.heap.size ≤ H1.size := hW.2.1
  refine z_cx h1000 hW (z_runP CS.1 [.ref (a1 0), .ref b, .int 1, .int (1 + x2), .int 8, .ref (a1 175)] [] kvL_court q_842 WBZ_blind (fun U hU hW' => ⟨rfl, z_scr CS hW U hU hW', by rw [hU]⟩) (tL_court l CS.1.2.2.2.2.2.2.1 hM1 s11_0 h175 r3) rfl rfl ⟨by decide, by decide⟩ rfl hl.1 rfl (Nat.le_of_ble_eq_true rfl) dL_law_32 ⟨Nat.le_of_ble_eq_true rfl, Nat.le_of_ble_eq_true rfl⟩) (fun H2 locs2 hW2 => ?_)
  obtain ⟨a2, ea2⟩ : ∃ a, a = ext a1 H1.size := ⟨_, rfl⟩
  have hM2 : a2 1000 = 177 := by rw [ea2, ext_M h1000]; omega
  have f0 : a2 0 = a1 0 := by rw [ea2]; exact ext_o (by omega) h1000
  have f175 : a2 175 = a1 175 := by rw [ea2]; exact ext_o (by omega) h1000
  have hge2 : ∀ k, k < a2 1000 → s.heap.size ≤ a2 k := by
    intro k hk
    rw [hM2] at hk
    by_cases h : k = 176
    · rw [h, ea2, ← hM1, ext_z]; exact hz1
    · rw [ea2, ext_o (by omega) h1000]; exact hge1 k (by omega)
  have hlt : ∀ k, k < a1 1000 → a1 k < H1.size := fun k hk => (hW.1 k _ (wsM_at hk)).lt
  have CS2 := CxS.ext h1000 hz1 CS (Inj_ext h1000 CS.1.2.2.2.2.2.2.1 hlt)
  rw [← ea2] at CS2 hW2
  rw [← f0, ← f175] at hl
  clear hW
  have CS := CS2
  have hW := hW2
  have h1000 : a2 1000 < 1000 := by omega
  refine lv_if_eq (tgt := 55) CS.1.1 CS.1.2.1 dL_law_35 (by decide) (fun c1 => ?_) (fun c1 => ?_)
  · have hf := if_t c1 hf
    exact (lw_no hf hres).elim
  have hf := if_f c1 hf
  obtain ⟨x4, m4, r4, hf⟩ := bd2_s hf
  obtain ⟨x5, m5, r5, hf⟩ := bd2_s hf
  obtain ⟨x6, m6, r6, hf⟩ := bd2_s hf
  refine lv_aload_n CS.1.1 CS.1.2.1 dL_law_38 rfl (lv_at hl 2 rfl) ?_
  refine lv_aload_n CS.1.1 CS.1.2.1 dL_law_39 rfl (lv_at hl 3 rfl) ?_
  refine lv_bipush (v := 6) CS.1.1 CS.1.2.1 dL_law_40 (by decide) ?_
  refine z_ci hW (z_runX CS hW [.ref b, .int 6] [.ref (a2 0)] kvL_cell q_835 (tL_cell l CS.1.2.2.2.2.2.2.1 r4) rfl rfl ⟨by decide, by decide⟩ rfl hl.1 rfl (Nat.le_of_ble_eq_true rfl) dL_law_42 ⟨Nat.le_of_ble_eq_true rfl, Nat.le_of_ble_eq_true rfl⟩) (fun H locs hW => ?_)
  refine lv_iconst (v := 5) CS.1.1 CS.1.2.1 dL_law_45 (by decide) ?_
  refine z_ci hW (z_runS CS.1 hW [.int x4, .int 5] [.ref (a2 0)] kvL_low q_831 (tL_low l CS.1.2.2.2.2.2.2.1 r5) rfl rfl ⟨by decide, by decide⟩ rfl hl.1 rfl (Nat.le_of_ble_eq_true rfl) dL_law_46 ⟨Nat.le_of_ble_eq_true rfl, Nat.le_of_ble_eq_true rfl⟩) (fun H locs hW => ?_)
  refine z_ci hW (z_runV CS.1 hW [.int x5] [] (s11_0).1 (s11_0).2.1 kX11.1 kvX11_damp q_384 (tX11_damp l CS.1.2.2.2.2.2.2.1 s11_0 r6) rfl rfl ⟨by decide, by decide⟩ rfl hl.1 rfl (Nat.le_of_ble_eq_true rfl) dL_law_49 ⟨Nat.le_of_ble_eq_true rfl, Nat.le_of_ble_eq_true rfl⟩) (fun H locs hW => ?_)
  refine lv_if_eq (tgt := 57) CS.1.1 CS.1.2.1 dL_law_52 (by decide) (fun c2 => ?_) (fun c2 => ?_)
  rotate_left
  · have hf := if_f c2 hf
    exact (lw_no hf hres).elim
  have hf := if_t c2 hf
  refine lv_bipush (v := 6) CS.1.1 CS.1.2.1 dL_law_57 (by decide) ?_
  refine z_newa CS.1 hW (by omega) (N' := 6) (by rw [hM2]; rfl) (by decide) (by decide) (by decide) (Nat.le_of_ble_eq_true rfl) (Nat.le_of_ble_eq_true rfl) q_56 dL_law_59 (fun H3 hi' hW' => ?_)
  have hz : s.heap.size ≤ H.size := hW.2.1
  obtain ⟨a3, ea3⟩ : ∃ a, a = ext a2 H.size := ⟨_, rfl⟩
  have hM3 : a3 1000 = 178 := by rw [ea3, ext_M h1000]; omega
  have ga3_0 : a3 0 = a2 0 := by rw [ea3]; exact ext_o (by omega) h1000
  have ga3_175 : a3 175 = a2 175 := by rw [ea3]; exact ext_o (by omega) h1000
  have gza3 : a3 177 = H.size := by rw [ea3, ← hM2]; exact ext_z
  have hge3 : ∀ k, k < a3 1000 → s.heap.size ≤ a3 k := by
    intro k hk
    rw [hM3] at hk
    by_cases h : k = 177
    · rw [h, gza3]; exact hz
    · rw [ea3, ext_o (by omega) h1000]; exact hge2 k (by omega)
  have CS3 := CxS.ext h1000 hz CS hi'
  rw [← ea3] at CS3 hW'
  rw [← gza3]
  rw [← ga3_0, ← ga3_175] at hl
  rw [hM2] at hW'
  refine lv_astore (lv' := [(4, .ref (a3 177)), (3, .ref (a3 175)), (2, .int (1 + x2)), (1, .ref (a3 0)), (0, .ref b)]) CS.1.1 CS.1.2.1 dL_law_61 hl (by decide) rfl (fun ls hl => ?_)
  clear hW
  have CS := CS3
  have hW := hW'
  clear hW'
  have h1000 : a3 1000 < 1000 := by omega
  refine lv_bipush (v := 6) CS.1.1 CS.1.2.1 dL_law_63 (by decide) ?_
  refine z_newa CS.1 hW (by omega) (N' := 6) (by rw [hM3]; rfl) (by decide) (by decide) (by decide) (Nat.le_of_ble_eq_true rfl) (Nat.le_of_ble_eq_true rfl) q_56 dL_law_65 (fun H4 hi' hW' => ?_)
  have hz : s.heap.size ≤ H3.size := hW.2.1
  obtain ⟨a4, ea4⟩ : ∃ a, a = ext a3 H3.size := ⟨_, rfl⟩
  have hM4 : a4 1000 = 179 := by rw [ea4, ext_M h1000]; omega
  have ga4_0 : a4 0 = a3 0 := by rw [ea4]; exact ext_o (by omega) h1000
  have ga4_175 : a4 175 = a3 175 := by rw [ea4]; exact ext_o (by omega) h1000
  have ga4_177 : a4 177 = a3 177 := by rw [ea4]; exact ext_o (by omega) h1000
  have gza4 : a4 178 = H3.size := by rw [ea4, ← hM3]; exact ext_z
  have hge4 : ∀ k, k < a4 1000 → s.heap.size ≤ a4 k := by
    intro k hk
    rw [hM4] at hk
    by_cases h : k = 178
    · rw [h, gza4]; exact hz
    · rw [ea4, ext_o (by omega) h1000]; exact hge3 k (by omega)
  have CS4 := CxS.ext h1000 hz CS hi'
  rw [← ea4] at CS4 hW'
  rw [← gza4]
  rw [← ga4_0, ← ga4_175, ← ga4_177] at hl
  rw [hM3] at hW'
  refine lv_astore (lv' := [(5, .ref (a4 178)), (4, .ref (a4 177)), (3, .ref (a4 175)), (2, .int (1 + x2)), (1, .ref (a4 0)), (0, .ref b)]) CS.1.1 CS.1.2.1 dL_law_67 hl (by decide) rfl (fun ls hl => ?_)
  clear hW
  have CS := CS4
  have hW := hW'
  clear hW'
  have h1000 : a4 1000 < 1000 := by omega
  exact wL_law_69 hge4 CS hres s11_0 ⟨by omega, rfl⟩ ⟨by omega, rfl⟩ ⟨by omega, rfl⟩ hW (lv_sub hl [4, 3, 2, 1, 0, 5] rfl) hf
set_option maxRecDepth 100000 in
set_option maxHeartbeats 8000000 in
theorem whole_of {p : Program} {e : Env} {s : State} {m : MethodId} {below : List Frame} {meth : Method} {c : Code} (l : Launch) {b L : Nat} {xs : Nat → Int32} (C0 : lw_At p s m meth c b L xs) {N : Nat} {res : Int32 × Mm} (hf : fL_law N L xs = some res) (hres : res.1 = 1) : W p l e room_1 s m #[Value.ref b] below meth c s.heap [] 0 0 (lw_Z below #[Value.ref b] s) (entryFrame m ([Value.ref b] : List Value).toArray 29) := by
  obtain ⟨hx, hb, hr, hml, hown, hts, hX, hbl, hlocks, hgv⟩ := id C0
  have htw : ∀ w ∈ wT, w.before #[Value.ref b] s = true := fun w hw => hts w (List.mem_filter.mp hw).1
  have hA : ∀ q : Nat, s.heap.size ≤ q → (fun q : Nat => s.heap.size ≤ q) q := fun _ h => h
  obtain ⟨c0, i0, hKn0⟩ := u_known (C := RX0) (T := TX0) (N := 9) (n := 9) htw inX0 (htw _ q_28)
  obtain ⟨c1, i1, hKn1⟩ := u_known (C := RX1) (T := TX1) (N := 3) (n := 3) htw inX1 (htw _ q_210)
  obtain ⟨c2, i2, hKn2⟩ := u_known (C := RX2) (T := TX2) (N := 6) (n := 6) htw inX2 (htw _ q_263)
  obtain ⟨c3, i3, hKn3⟩ := u_known (C := RX3) (T := TX3) (N := 3) (n := 3) htw inX3 (htw _ q_158)
  obtain ⟨c4, i4, hKn4⟩ := u_known (C := RX4) (T := TX4) (N := 3) (n := 3) htw inX4 (htw _ q_226)
  obtain ⟨c5, i5, hKn5⟩ := u_known (C := RX5) (T := TX5) (N := 6) (n := 6) htw inX5 (htw _ q_103)
  obtain ⟨c6, i6, hKn6⟩ := u_known (C := RX6) (T := TX6) (N := 2) (n := 2) htw inX6 (htw _ q_292)
  obtain ⟨c7, i7, hKn7⟩ := u_known (C := RX7) (T := TX7) (N := 5) (n := 5) htw inX7 (htw _ q_133)
  obtain ⟨c8, i8, hKn8⟩ := u_known (C := RX8) (T := TX8) (N := 8) (n := 8) htw inX8 (htw _ q_176)
  obtain ⟨c9, i9, hKn9⟩ := u_known (C := RX9) (T := TX9) (N := 3) (n := 3) htw inX9 (htw _ q_37)
  obtain ⟨c10, i10, hKn10⟩ := u_known (C := RX10) (T := TX10) (N := 4) (n := 4) htw inX10 (htw _ q_244)
  obtain ⟨c11, i11, hKn11⟩ := u_known (C := RX11) (T := TX11) (N := 17) (n := 17) htw inX11 (htw _ q_18)
  obtain ⟨dC, dI, hKc⟩ : ∃ (dC : Nat → ClassId) (dI : Nat → Nat → Nat), ∀ (k : Nat) (q : vw_C), vwCl[k]? = some q → u_Kn s q.1 q.2.1 q.2.2 (dC k) (dI k) := by
    refine ⟨fun k => [c0, c1, c2, c3, c4, c5, c6, c7, c8, c9, c10, c11].getD k 0, fun k => [i0, i1, i2, i3, i4, i5, i6, i7, i8, i9, i10, i11].getD k (fun _ => 0), ?_⟩
    intro k q hq
    have hk : k < 12 := (List.getElem?_eq_some_iff.mp hq).1
    rcases (by omega : k = 0 ∨ k = 1 ∨ k = 2 ∨ k = 3 ∨ k = 4 ∨ k = 5 ∨ k = 6 ∨ k = 7 ∨ k = 8 ∨ k = 9 ∨ k = 10 ∨ k = 11) with rfl | rfl | rfl | rfl | rfl | rfl | rfl | rfl | rfl | rfl | rfl | rfl
    · cases hq; exact hKn0
    · cases hq; exact hKn1
    · cases hq; exact hKn2
    · cases hq; exact hKn3
    · cases hq; exact hKn4
    · cases hq; exact hKn5
    · cases hq; exact hKn6
    · cases hq; exact hKn7
    · cases hq; exact hKn8
    · cases hq; exact hKn9
    · cases hq; exact hKn10
    · cases hq; exact hKn11
  have hAOI : AOI s := hts (.arrayOver (.array .int)) (List.mem_append_right _ (List.mem_of_getElem? (i := 36) (by decide +kernel)))
  have hORow : va_AO "HeavyFiles$Row" s := va_AO.of (hts (.arrayOver (.object "HeavyFiles$Row")) (List.mem_append_right _ (List.mem_of_getElem? (i := 26) (by decide +kernel))))
  have hOCourt : va_AO "HeavyFiles$Court" s := va_AO.of (hts (.arrayOver (.object "HeavyFiles$Court")) (List.mem_append_right _ (List.mem_of_getElem? (i := 101) (by decide +kernel))))
  have hOSuit : va_AO "HeavyFiles$Suit" s := va_AO.of (hts (.arrayOver (.object "HeavyFiles$Suit")) (List.mem_append_right _ (List.mem_of_getElem? (i := 34) (by decide +kernel))))
  have hOScale : va_AO "HeavyFiles$Scale" s := va_AO.of (hts (.arrayOver (.object "HeavyFiles$Scale")) (List.mem_append_right _ (List.mem_of_getElem? (i := 271) (by decide +kernel))))
  have hNW : NW s := by
    intro q hq
    have hq2 : Cond.methodLinkNest q.1 q.2.1 q.2.2.1 q.2.2.2 ∈ lw_tbl := by
      have : nestW.all (fun q => decide (Cond.methodLinkNest q.1 q.2.1 q.2.2.1 q.2.2.2 ∈ lw_tbl)) = true := by decide +kernel
      exact of_decide_eq_true (List.all_eq_true.mp this q hq)
    exact va_Nw.of rfl (hts _ hq2)
  have hN : NC s := ⟨hNW, hORow, hOCourt, hOSuit, hOScale, hAOI⟩
  obtain ⟨ca, hca⟩ : ∃ ca : Nat → Nat, va_K (dC, dI) vwCl (tyT ca) s := by
    obtain ⟨a0, hr0, ha0⟩ := arrC_int (hts (.arrayClass .int) (List.mem_append_right _ (List.mem_of_getElem? (i := 56) (by decide +kernel))))
    obtain ⟨a1, hr1, ha1⟩ := arrC_obj hORow
    obtain ⟨a2, hr2, ha2⟩ := arrC_obj hOCourt
    obtain ⟨a3, hr3, ha3⟩ := arrC_obj hOSuit
    obtain ⟨a5, hr5, ha5⟩ := arrC_obj hOScale
    obtain ⟨a4, hr4, ha4⟩ := arrC_arr hAOI
    refine ⟨fun k => [a0, a1, a2, a3, a4, a5].getD k 0, hKc, ?_⟩
    intro k q hq
    have hk : k < 6 := (List.getElem?_eq_some_iff.mp hq).1
    rcases (by omega : k = 0 ∨ k = 1 ∨ k = 2 ∨ k = 3 ∨ k = 4 ∨ k = 5) with rfl | rfl | rfl | rfl | rfl | rfl
    · cases hq; exact ⟨hr0, ha0⟩
    · cases hq; exact ⟨hr1, ha1⟩
    · cases hq; exact ⟨hr2, ha2⟩
    · cases hq; exact ⟨hr3, ha3⟩
    · cases hq; exact ⟨hr4, ha4⟩
    · cases hq; exact ⟨hr5, ha5⟩
  have C : Cx p s m meth c #[Value.ref b] code 29 ret RL (dC, dI) ca (fun k => k) := ⟨hx, hb, hml, hown, htw, hca, id_inj, hr, hlocks, hNW⟩
  have hS : va_S (fun q : Nat => s.heap.size ≤ q) s.heap s.heap [] := va_S.rf
  have hP : va_P (dC, dI) vwCl [] s.heap := fun k q h => by simp at h
  have hD : va_D (fun q : Nat => s.heap.size ≤ q) [] := ⟨fun i j p q h => by simp at h, fun k q h => by simp at h⟩
  have hl := lv_entry ([.ref b]) (n := 29) (Nat.le_of_ble_eq_true rfl)
  rw [lg_entry_eq]
  generalize (lg_sl ([.ref b]) ++ List.replicate (29 - (lg_sl ([.ref b])).length) Slot.unset).toArray = ls at hl ⊢
  have hl : lv_has ls 29 [(0, .ref b)] := hl
  refine y_newo C hP hD hS hA [.null, .null, .null, .null, .null, .null, .null, .null, .null, .null, .null, .null, .null, .int 0, .int 0, .long 0, .long 0] kX11 (fun j hj => by (rcases (by omega : j = 0 ∨ j = 1 ∨ j = 2 ∨ j = 3 ∨ j = 4 ∨ j = 5 ∨ j = 6 ∨ j = 7 ∨ j = 8 ∨ j = 9 ∨ j = 10 ∨ j = 11 ∨ j = 12 ∨ j = 13 ∨ j = 14 ∨ j = 15 ∨ j = 16) with rfl | rfl | rfl | rfl | rfl | rfl | rfl | rfl | rfl | rfl | rfl | rfl | rfl | rfl | rfl | rfl | rfl <;> rfl)) q_17 q_18 q_1 (Nat.le_of_ble_eq_true rfl) (Nat.le_of_ble_eq_true rfl) dL_law_0 (fun q H hP hD hS => ?_)
  refine W.widen (k := 1) (n := 17) (by decide) (by decide) ?_
  refine lv_dup C.1 C.2.1 dL_law_3 rfl ?_
  refine y_call (kX := kkX11 ca) hP hD hS hA (y_runI C hN hP [] [.ref q] RX11 kiX11_init q_19 (tX11_init l (dC, dI) ca q H.size) rfl rfl ⟨by decide, by decide⟩ rfl hl.1 rfl (Nat.le_of_ble_eq_true rfl) dL_law_4 ⟨Nat.le_of_ble_eq_true rfl, Nat.le_of_ble_eq_true rfl⟩) (fun b1 H locs eb1 hP hD hS => ?_)
  rw [← eb1]
  refine W.widen (k := 175) (n := 3601) (by decide) (by decide) ?_
  refine lv_astore_n (lv' := [(1, .ref (b1 0)), (0, .ref b)]) C.1 C.2.1 dL_law_7 rfl hl (by decide) rfl (fun ls hl => ?_)
  obtain ⟨ad, hM, hInj, hge, had0, hPw⟩ := join_world hP hD
  have C2 : Cx p s m meth c #[Value.ref b] code 29 ret RL (dC, dI) ca ad := ⟨hx, hb, hml, hown, htw, hca, hInj, hr, hlocks, hNW⟩
  have hge : ∀ k, k < ad 1000 → s.heap.size ≤ ad k := fun k hk => hge k (by rw [hM] at hk; exact hk)
  have hbA : ¬ AA ad b := by
    rintro ⟨k, hk, e⟩
    have := hge k hk
    omega
  have CS : CxS p s m meth c #[Value.ref b] code 29 ret RL (dC, dI) ca ad b L xs := ⟨C2, hX, hbl, hbA⟩
  refine va_forget (fun q hq => hS.2.2 q hq) ?_
  have hW : Wd (dC, dI) ca ad s.heap mm0 H [] := ⟨hPw, hS.1, fun q h1 h2 => hS.2.1 q h1 (fun h => by have h9 : s.heap.size ≤ q := h; omega), fun q hq => by cases hq⟩
  rw [← had0] at hl
  exact law_8 l hM hge CS hW hl hf hres
