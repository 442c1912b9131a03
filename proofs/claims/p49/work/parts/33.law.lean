/-! THE CLAIM OUT OF ONE WALK OF THE LAW'S BODY. Your part is whole_start (and what it stands on); all else here is the same for every law, but numbers. -/
def R_law : String := "HeavyFilesLaw"
def lw_P (b : Addr) (xs : List Int32) (args : Array Value) (s : State) : Prop := args = #[.ref b] ∧ s.IntsAt b xs ∧ xs.length ≤ 260 ∧ (Jvm.Cond.and given_1 narrow_1).before args s = true
def lw_Q (_ : Array Value) (s : State) (o : Outcome) (t : State) : Prop := o = .returned (some (.int 1)) ∧ Framed s o t [] 600000 7302250
def lw_Z (below : List Frame) (a : Array Value) (s : State) : State → Prop := fun t => ∃ o, t.status = .running ∧ Ended t below o ∧ lw_Q a s o t
/-- the law's own end, with 1 on the stack, nothing written that was there before, its room as the claim has it -/
theorem lw_ret {p : Program} {l : Launch} {e : Env} {s : State} {m : MethodId} {below : List Frame} {meth : Method} {c : Code} {b : Nat} (hx : p.tables.exec = Jvm.exec) (hb : c.code = code) (hr : meth.sig.returnType = ret) (hlocks : meth.locks = false) {pc : Nat} {H : Heap} {ls : Array Slot} (hdg : decode code pc = .ok (.ireturn, 1)) : W p l e room_1 s m #[Value.ref b] below meth c H [] 600000 7302250 (lw_Z below #[Value.ref b] s) (F0 m pc ls [.int 1]) := by
  intro T hT X
  obtain ⟨fs, hret, hrun, hended, hW, hframe⟩ := X.leave (v := some (.int 1)) (hlocks := hlocks) (fun h => by rw [hr] at h; cases h)
  have hmeth' : T.vm.method? m = some meth := X.method'
  refine ⟨T.setFrames fs, ?_, .returned (some (.int 1)), hrun, hended, rfl, ⟨_, rfl⟩, hW, hframe⟩
  jvm_step X.here [X.here.top, hx, hb, hdg, hmeth', hr, ret, narrow_b1]
  (try refine ⟨rfl, ?_⟩); (try refine ⟨rfl, ?_⟩)
  first | (intro acts; rw [hret _ acts rfl rfl rfl]) | rw [hret _ _ rfl rfl rfl]
  exact Steps.refl _
/-- what holds at the law's entry: the machine, the code, the tables' words (any of lw_tbl by 'hts w (by decide +kernel)'), the script of L ints xs at the cell b, what the Statement gives of the start (any of its parts by flat_of_before) -/
def lw_At (p : Program) (s : State) (m : MethodId) (meth : Method) (c : Code) (b L : Nat) (xs : Nat → Int32) : Prop :=
  p.tables.exec = Jvm.exec ∧ c.code = code ∧ meth.sig.returnType = ret ∧ c.maxLocals = 29 ∧ s.vm.findClass R_law = some m.cls ∧ (∀ w ∈ lw_tbl, w.before #[Value.ref b] s = true) ∧ va_X b L xs s s.heap ∧ b < s.heap.size ∧ meth.locks = false ∧ (Jvm.Cond.and given_1 narrow_1).before #[Value.ref b] s = true
theorem lw_no {mm : Mm} {res : Int32 × Mm} (h : some ((0 : Int32), mm) = some res) (hr : res.1 = 1) : False := by
  cases h
  exact absurd (show (0 : Int32) = 1 from hr) (by decide)
theorem lw_one {v : Int32} {mm : Mm} {res : Int32 × Mm} (h : some (v, mm) = some res) (hr : res.1 = 1) : v = 1 := by
  cases h
  exact hr
theorem lw_end {p : Program} {l : Launch} {e : Env} {s : State} {m : MethodId} {below : List Frame} {meth : Method} {c : Code} {D : va_G} {ca ad : Nat → Nat} {b L : Nat} {xs : Nat → Int32} {mm : Mm} {H : Heap} {locs : List Loc} {ls : Array Slot} {pc : Nat} {v : Int32} (CS : CxS p s m meth c #[Value.ref b] code 29 ret RL D ca ad b L xs) (hW : Wd D ca ad s.heap mm H locs) (hge : ∀ k, k < ad 1000 → s.heap.size ≤ ad k) (hv : v = 1) (hdg : decode code pc = .ok (.ireturn, 1)) : W p l e room_1 s m #[Value.ref b] below meth c H locs 179 3665 (lw_Z below #[Value.ref b] s) (F0 m pc ls [.int v]) := by
  have C := CS.1
  subst hv
  refine va_forget (fun q hq => ?_) ?_
  · obtain ⟨k, hk, e9⟩ := hW.2.2.2 q hq
    rw [e9]
    exact hge k hk
  · refine W.widen (k := 600000) (n := 7302250) (Nat.le_of_ble_eq_true rfl) (Nat.le_of_ble_eq_true rfl) ?_
    exact lw_ret C.1 C.2.1 C.2.2.2.2.2.2.2.1 C.2.2.2.2.2.2.2.2.1 hdg
theorem dL_law_0 : decode cL_law 0 = .ok (.new 10, 3) := by decide +kernel
theorem dL_law_3 : decode cL_law 3 = .ok (.dup, 1) := by decide +kernel
theorem dL_law_4 : decode cL_law 4 = .ok (.invokespecial 49, 3) := by decide +kernel
theorem dL_law_7 : decode cL_law 7 = .ok (.astore_n 1, 1) := by decide +kernel
theorem dL_law_8 : decode cL_law 8 = .ok (.iconst 1, 1) := by decide +kernel
theorem dL_law_9 : decode cL_law 9 = .ok (.aload_n 0, 1) := by decide +kernel
theorem dL_law_10 : decode cL_law 10 = .ok (.iconst 0, 1) := by decide +kernel
theorem dL_law_11 : decode cL_law 11 = .ok (.invokestatic 15, 3) := by decide +kernel
theorem dL_law_14 : decode cL_law 14 = .ok (.iconst 4, 1) := by decide +kernel
theorem dL_law_15 : decode cL_law 15 = .ok (.invokestatic 21, 3) := by decide +kernel
theorem dL_law_18 : decode cL_law 18 = .ok (.iadd, 1) := by decide +kernel
theorem dL_law_19 : decode cL_law 19 = .ok (.istore_n 2, 1) := by decide +kernel
theorem dL_law_20 : decode cL_law 20 = .ok (.bipush 20, 2) := by decide +kernel
theorem dL_law_22 : decode cL_law 22 = .ok (.newarray .int, 2) := by decide +kernel
theorem dL_law_24 : decode cL_law 24 = .ok (.astore_n 3, 1) := by decide +kernel
theorem dL_law_25 : decode cL_law 25 = .ok (.aload_n 1, 1) := by decide +kernel
theorem dL_law_26 : decode cL_law 26 = .ok (.aload_n 0, 1) := by decide +kernel
theorem dL_law_27 : decode cL_law 27 = .ok (.iconst 1, 1) := by decide +kernel
theorem dL_law_28 : decode cL_law 28 = .ok (.iload_n 2, 1) := by decide +kernel
theorem dL_law_29 : decode cL_law 29 = .ok (.bipush 8, 2) := by decide +kernel
theorem dL_law_31 : decode cL_law 31 = .ok (.aload_n 3, 1) := by decide +kernel
theorem dL_law_32 : decode cL_law 32 = .ok (.invokestatic 50, 3) := by decide +kernel
theorem dL_law_35 : decode cL_law 35 = .ok (.ifCond .eq 20, 3) := by decide +kernel
theorem dL_law_38 : decode cL_law 38 = .ok (.aload_n 1, 1) := by decide +kernel
theorem dL_law_39 : decode cL_law 39 = .ok (.aload_n 0, 1) := by decide +kernel
theorem dL_law_40 : decode cL_law 40 = .ok (.bipush 6, 2) := by decide +kernel
theorem dL_law_42 : decode cL_law 42 = .ok (.invokestatic 15, 3) := by decide +kernel
theorem dL_law_45 : decode cL_law 45 = .ok (.iconst 5, 1) := by decide +kernel
theorem dL_law_46 : decode cL_law 46 = .ok (.invokestatic 21, 3) := by decide +kernel
theorem dL_law_49 : decode cL_law 49 = .ok (.invokevirtual 53, 3) := by decide +kernel
theorem dL_law_52 : decode cL_law 52 = .ok (.ifCond .eq 5, 3) := by decide +kernel
theorem dL_law_55 : decode cL_law 55 = .ok (.iconst 0, 1) := by decide +kernel
theorem dL_law_56 : decode cL_law 56 = .ok (.ireturn, 1) := by decide +kernel
theorem dL_law_57 : decode cL_law 57 = .ok (.bipush 6, 2) := by decide +kernel
theorem dL_law_59 : decode cL_law 59 = .ok (.newarray .int, 2) := by decide +kernel
theorem dL_law_61 : decode cL_law 61 = .ok (.astore 4, 2) := by decide +kernel
theorem dL_law_63 : decode cL_law 63 = .ok (.bipush 6, 2) := by decide +kernel
theorem dL_law_65 : decode cL_law 65 = .ok (.newarray .int, 2) := by decide +kernel
theorem dL_law_67 : decode cL_law 67 = .ok (.astore 5, 2) := by decide +kernel
theorem dL_law_69 : decode cL_law 69 = .ok (.aload_n 1, 1) := by decide +kernel
theorem dL_law_70 : decode cL_law 70 = .ok (.iconst 1, 1) := by decide +kernel
theorem dL_law_71 : decode cL_law 71 = .ok (.invokevirtual 56, 3) := by decide +kernel
theorem dL_law_74 : decode cL_law 74 = .ok (.istore 6, 2) := by decide +kernel
theorem dL_law_76 : decode cL_law 76 = .ok (.aload_n 1, 1) := by decide +kernel
theorem dL_law_77 : decode cL_law 77 = .ok (.iconst 1, 1) := by decide +kernel
theorem dL_law_78 : decode cL_law 78 = .ok (.iload_n 2, 1) := by decide +kernel
theorem dL_law_79 : decode cL_law 79 = .ok (.aload_n 3, 1) := by decide +kernel
theorem dL_law_80 : decode cL_law 80 = .ok (.bipush 19, 2) := by decide +kernel
theorem dL_law_82 : decode cL_law 82 = .ok (.iaload, 1) := by decide +kernel
theorem dL_law_83 : decode cL_law 83 = .ok (.aload_n 0, 1) := by decide +kernel
theorem dL_law_84 : decode cL_law 84 = .ok (.bipush 7, 2) := by decide +kernel
theorem dL_law_86 : decode cL_law 86 = .ok (.invokestatic 15, 3) := by decide +kernel
theorem dL_law_89 : decode cL_law 89 = .ok (.aload 5, 2) := by decide +kernel
theorem dL_law_91 : decode cL_law 91 = .ok (.invokestatic 59, 3) := by decide +kernel
theorem dL_law_94 : decode cL_law 94 = .ok (.ifCond .eq 11, 3) := by decide +kernel
theorem dL_law_97 : decode cL_law 97 = .ok (.aload_n 1, 1) := by decide +kernel
theorem dL_law_98 : decode cL_law 98 = .ok (.iconst 0, 1) := by decide +kernel
theorem dL_law_99 : decode cL_law 99 = .ok (.invokevirtual 63, 3) := by decide +kernel
theorem dL_law_102 : decode cL_law 102 = .ok (.ifCond .eq 5, 3) := by decide +kernel
theorem dL_law_105 : decode cL_law 105 = .ok (.iconst 0, 1) := by decide +kernel
theorem dL_law_106 : decode cL_law 106 = .ok (.ireturn, 1) := by decide +kernel
theorem dL_law_107 : decode cL_law 107 = .ok (.aload_n 1, 1) := by decide +kernel
theorem dL_law_108 : decode cL_law 108 = .ok (.iconst 1, 1) := by decide +kernel
theorem dL_law_109 : decode cL_law 109 = .ok (.iconst 2, 1) := by decide +kernel
theorem dL_law_110 : decode cL_law 110 = .ok (.invokevirtual 66, 3) := by decide +kernel
theorem dL_law_113 : decode cL_law 113 = .ok (.istore 7, 2) := by decide +kernel
theorem dL_law_115 : decode cL_law 115 = .ok (.aload_n 1, 1) := by decide +kernel
theorem dL_law_116 : decode cL_law 116 = .ok (.invokevirtual 9, 3) := by decide +kernel
theorem dL_law_119 : decode cL_law 119 = .ok (.istore 8, 2) := by decide +kernel
theorem dL_law_121 : decode cL_law 121 = .ok (.iconst 0, 1) := by decide +kernel
theorem dL_law_122 : decode cL_law 122 = .ok (.istore 9, 2) := by decide +kernel
theorem dL_law_124 : decode cL_law 124 = .ok (.iconst 0, 1) := by decide +kernel
theorem dL_law_125 : decode cL_law 125 = .ok (.istore 10, 2) := by decide +kernel
theorem dL_law_127 : decode cL_law 127 = .ok (.iload 10, 2) := by decide +kernel
theorem dL_law_129 : decode cL_law 129 = .ok (.iload_n 2, 1) := by decide +kernel
theorem dL_law_130 : decode cL_law 130 = .ok (.if_icmp .ge 25, 3) := by decide +kernel
theorem dL_law_133 : decode cL_law 133 = .ok (.iload 9, 2) := by decide +kernel
theorem dL_law_135 : decode cL_law 135 = .ok (.aload_n 1, 1) := by decide +kernel
theorem dL_law_136 : decode cL_law 136 = .ok (.aload_n 1, 1) := by decide +kernel
theorem dL_law_137 : decode cL_law 137 = .ok (.iconst 2, 1) := by decide +kernel
theorem dL_law_138 : decode cL_law 138 = .ok (.iload 10, 2) := by decide +kernel
theorem dL_law_140 : decode cL_law 140 = .ok (.invokevirtual 69, 3) := by decide +kernel
theorem dL_law_143 : decode cL_law 143 = .ok (.invokestatic 72, 3) := by decide +kernel
theorem dL_law_146 : decode cL_law 146 = .ok (.iadd, 1) := by decide +kernel
theorem dL_law_147 : decode cL_law 147 = .ok (.istore 9, 2) := by decide +kernel
theorem dL_law_149 : decode cL_law 149 = .ok (.iinc 10 1, 3) := by decide +kernel
theorem dL_law_152 : decode cL_law 152 = .ok (.goto (-25), 3) := by decide +kernel
theorem dL_law_155 : decode cL_law 155 = .ok (.iload 9, 2) := by decide +kernel
theorem dL_law_157 : decode cL_law 157 = .ok (.iload 8, 2) := by decide +kernel
theorem dL_law_159 : decode cL_law 159 = .ok (.if_icmp .ne 58, 3) := by decide +kernel
theorem dL_law_162 : decode cL_law 162 = .ok (.iload 9, 2) := by decide +kernel
theorem dL_law_164 : decode cL_law 164 = .ok (.aload_n 3, 1) := by decide +kernel
theorem dL_law_165 : decode cL_law 165 = .ok (.bipush 18, 2) := by decide +kernel
theorem dL_law_167 : decode cL_law 167 = .ok (.iaload, 1) := by decide +kernel
theorem dL_law_168 : decode cL_law 168 = .ok (.if_icmp .gt 49, 3) := by decide +kernel
theorem dL_law_171 : decode cL_law 171 = .ok (.aload_n 1, 1) := by decide +kernel
theorem dL_law_172 : decode cL_law 172 = .ok (.iconst 2, 1) := by decide +kernel
theorem dL_law_173 : decode cL_law 173 = .ok (.iconst 1, 1) := by decide +kernel
theorem dL_law_174 : decode cL_law 174 = .ok (.invokevirtual 76, 3) := by decide +kernel
theorem dL_law_177 : decode cL_law 177 = .ok (.iload 7, 2) := by decide +kernel
theorem dL_law_179 : decode cL_law 179 = .ok (.if_icmp .ne 38, 3) := by decide +kernel
theorem dL_law_182 : decode cL_law 182 = .ok (.aload_n 1, 1) := by decide +kernel
theorem dL_law_183 : decode cL_law 183 = .ok (.invokevirtual 9, 3) := by decide +kernel
theorem dL_law_186 : decode cL_law 186 = .ok (.iconst 2, 1) := by decide +kernel
theorem dL_law_187 : decode cL_law 187 = .ok (.iload 6, 2) := by decide +kernel
theorem dL_law_189 : decode cL_law 189 = .ok (.imul, 1) := by decide +kernel
theorem dL_law_190 : decode cL_law 190 = .ok (.iload 7, 2) := by decide +kernel
theorem dL_law_192 : decode cL_law 192 = .ok (.isub, 1) := by decide +kernel
theorem dL_law_193 : decode cL_law 193 = .ok (.if_icmp .ne 24, 3) := by decide +kernel
theorem dL_law_196 : decode cL_law 196 = .ok (.aload_n 1, 1) := by decide +kernel
theorem dL_law_197 : decode cL_law 197 = .ok (.iconst 1, 1) := by decide +kernel
theorem dL_law_198 : decode cL_law 198 = .ok (.iload 7, 2) := by decide +kernel
theorem dL_law_200 : decode cL_law 200 = .ok (.invokevirtual 79, 3) := by decide +kernel
theorem dL_law_203 : decode cL_law 203 = .ok (.iload 8, 2) := by decide +kernel
theorem dL_law_205 : decode cL_law 205 = .ok (.if_icmp .ne 12, 3) := by decide +kernel
theorem dL_law_208 : decode cL_law 208 = .ok (.aload_n 1, 1) := by decide +kernel
theorem dL_law_209 : decode cL_law 209 = .ok (.invokevirtual 9, 3) := by decide +kernel
theorem dL_law_212 : decode cL_law 212 = .ok (.iload 7, 2) := by decide +kernel
theorem dL_law_214 : decode cL_law 214 = .ok (.if_icmp .eq 5, 3) := by decide +kernel
theorem dL_law_217 : decode cL_law 217 = .ok (.iconst 0, 1) := by decide +kernel
theorem dL_law_218 : decode cL_law 218 = .ok (.ireturn, 1) := by decide +kernel
theorem dL_law_219 : decode cL_law 219 = .ok (.aload_n 1, 1) := by decide +kernel
theorem dL_law_220 : decode cL_law 220 = .ok (.iconst 3, 1) := by decide +kernel
theorem dL_law_221 : decode cL_law 221 = .ok (.invokevirtual 82, 3) := by decide +kernel
theorem dL_law_224 : decode cL_law 224 = .ok (.istore 10, 2) := by decide +kernel
theorem dL_law_226 : decode cL_law 226 = .ok (.iload 10, 2) := by decide +kernel
theorem dL_law_228 : decode cL_law 228 = .ok (.ifCond .lt 20, 3) := by decide +kernel
theorem dL_law_231 : decode cL_law 231 = .ok (.iload 10, 2) := by decide +kernel
theorem dL_law_233 : decode cL_law 233 = .ok (.iload 7, 2) := by decide +kernel
theorem dL_law_235 : decode cL_law 235 = .ok (.if_icmp .gt 13, 3) := by decide +kernel
theorem dL_law_238 : decode cL_law 238 = .ok (.aload_n 1, 1) := by decide +kernel
theorem dL_law_239 : decode cL_law 239 = .ok (.iconst 3, 1) := by decide +kernel
theorem dL_law_240 : decode cL_law 240 = .ok (.invokevirtual 85, 3) := by decide +kernel
theorem dL_law_243 : decode cL_law 243 = .ok (.iload 10, 2) := by decide +kernel
theorem dL_law_245 : decode cL_law 245 = .ok (.if_icmp .eq 5, 3) := by decide +kernel
theorem dL_law_248 : decode cL_law 248 = .ok (.iconst 0, 1) := by decide +kernel
theorem dL_law_249 : decode cL_law 249 = .ok (.ireturn, 1) := by decide +kernel
theorem dL_law_250 : decode cL_law 250 = .ok (.iconst 0, 1) := by decide +kernel
theorem dL_law_251 : decode cL_law 251 = .ok (.istore 11, 2) := by decide +kernel
theorem dL_law_253 : decode cL_law 253 = .ok (.iload 11, 2) := by decide +kernel
theorem dL_law_255 : decode cL_law 255 = .ok (.iconst 4, 1) := by decide +kernel
theorem dL_law_256 : decode cL_law 256 = .ok (.if_icmp .ge 297, 3) := by decide +kernel
theorem dL_law_259 : decode cL_law 259 = .ok (.aload_n 1, 1) := by decide +kernel
theorem dL_law_260 : decode cL_law 260 = .ok (.iconst 0, 1) := by decide +kernel
theorem dL_law_261 : decode cL_law 261 = .ok (.iload_n 2, 1) := by decide +kernel
theorem dL_law_262 : decode cL_law 262 = .ok (.aload_n 3, 1) := by decide +kernel
theorem dL_law_263 : decode cL_law 263 = .ok (.bipush 18, 2) := by decide +kernel
theorem dL_law_265 : decode cL_law 265 = .ok (.iaload, 1) := by decide +kernel
theorem dL_law_266 : decode cL_law 266 = .ok (.aload_n 0, 1) := by decide +kernel
theorem dL_law_267 : decode cL_law 267 = .ok (.bipush 8, 2) := by decide +kernel
theorem dL_law_269 : decode cL_law 269 = .ok (.iload 11, 2) := by decide +kernel
theorem dL_law_271 : decode cL_law 271 = .ok (.iadd, 1) := by decide +kernel
theorem dL_law_272 : decode cL_law 272 = .ok (.invokestatic 15, 3) := by decide +kernel
theorem dL_law_275 : decode cL_law 275 = .ok (.aload 4, 2) := by decide +kernel
theorem dL_law_277 : decode cL_law 277 = .ok (.invokestatic 59, 3) := by decide +kernel
theorem dL_law_280 : decode cL_law 280 = .ok (.ifCond .ne 5, 3) := by decide +kernel
theorem dL_law_283 : decode cL_law 283 = .ok (.iconst 0, 1) := by decide +kernel
theorem dL_law_284 : decode cL_law 284 = .ok (.ireturn, 1) := by decide +kernel
theorem dL_law_285 : decode cL_law 285 = .ok (.aload_n 1, 1) := by decide +kernel
theorem dL_law_286 : decode cL_law 286 = .ok (.iconst 0, 1) := by decide +kernel
theorem dL_law_287 : decode cL_law 287 = .ok (.iconst 1, 1) := by decide +kernel
theorem dL_law_288 : decode cL_law 288 = .ok (.invokevirtual 76, 3) := by decide +kernel
theorem dL_law_291 : decode cL_law 291 = .ok (.istore 12, 2) := by decide +kernel
theorem dL_law_293 : decode cL_law 293 = .ok (.iload 12, 2) := by decide +kernel
theorem dL_law_295 : decode cL_law 295 = .ok (.ifCond .lt 24, 3) := by decide +kernel
theorem dL_law_298 : decode cL_law 298 = .ok (.aload_n 1, 1) := by decide +kernel
theorem dL_law_299 : decode cL_law 299 = .ok (.invokevirtual 9, 3) := by decide +kernel
theorem dL_law_302 : decode cL_law 302 = .ok (.iload 12, 2) := by decide +kernel
theorem dL_law_304 : decode cL_law 304 = .ok (.iadd, 1) := by decide +kernel
theorem dL_law_305 : decode cL_law 305 = .ok (.iconst 2, 1) := by decide +kernel
theorem dL_law_306 : decode cL_law 306 = .ok (.iload 6, 2) := by decide +kernel
theorem dL_law_308 : decode cL_law 308 = .ok (.imul, 1) := by decide +kernel
theorem dL_law_309 : decode cL_law 309 = .ok (.if_icmp .ne 10, 3) := by decide +kernel
theorem dL_law_312 : decode cL_law 312 = .ok (.iload 12, 2) := by decide +kernel
theorem dL_law_314 : decode cL_law 314 = .ok (.iload 7, 2) := by decide +kernel
theorem dL_law_316 : decode cL_law 316 = .ok (.if_icmp .le 5, 3) := by decide +kernel
theorem dL_law_319 : decode cL_law 319 = .ok (.iconst 0, 1) := by decide +kernel
theorem dL_law_320 : decode cL_law 320 = .ok (.ireturn, 1) := by decide +kernel
theorem dL_law_321 : decode cL_law 321 = .ok (.aload_n 1, 1) := by decide +kernel
theorem dL_law_322 : decode cL_law 322 = .ok (.iconst 0, 1) := by decide +kernel
theorem dL_law_323 : decode cL_law 323 = .ok (.invokevirtual 85, 3) := by decide +kernel
theorem dL_law_326 : decode cL_law 326 = .ok (.istore 13, 2) := by decide +kernel
theorem dL_law_328 : decode cL_law 328 = .ok (.iload 13, 2) := by decide +kernel
theorem dL_law_330 : decode cL_law 330 = .ok (.ifCond .lt 60, 3) := by decide +kernel
theorem dL_law_333 : decode cL_law 333 = .ok (.iload 13, 2) := by decide +kernel
theorem dL_law_335 : decode cL_law 335 = .ok (.iload 12, 2) := by decide +kernel
theorem dL_law_337 : decode cL_law 337 = .ok (.if_icmp .gt 53, 3) := by decide +kernel
theorem dL_law_340 : decode cL_law 340 = .ok (.iload 13, 2) := by decide +kernel
theorem dL_law_342 : decode cL_law 342 = .ok (.iload 10, 2) := by decide +kernel
theorem dL_law_344 : decode cL_law 344 = .ok (.if_icmp .gt 46, 3) := by decide +kernel
theorem dL_law_347 : decode cL_law 347 = .ok (.aload_n 1, 1) := by decide +kernel
theorem dL_law_348 : decode cL_law 348 = .ok (.iconst 0, 1) := by decide +kernel
theorem dL_law_349 : decode cL_law 349 = .ok (.iconst 0, 1) := by decide +kernel
theorem dL_law_350 : decode cL_law 350 = .ok (.iload 11, 2) := by decide +kernel
theorem dL_law_352 : decode cL_law 352 = .ok (.iconst 4, 1) := by decide +kernel
theorem dL_law_353 : decode cL_law 353 = .ok (.invokevirtual 88, 3) := by decide +kernel
theorem dL_law_356 : decode cL_law 356 = .ok (.iconst 1, 1) := by decide +kernel
theorem dL_law_357 : decode cL_law 357 = .ok (.if_icmp .ne 33, 3) := by decide +kernel
theorem dL_law_360 : decode cL_law 360 = .ok (.aload_n 1, 1) := by decide +kernel
theorem dL_law_361 : decode cL_law 361 = .ok (.invokevirtual 92, 3) := by decide +kernel
theorem dL_law_364 : decode cL_law 364 = .ok (.iload 13, 2) := by decide +kernel
theorem dL_law_366 : decode cL_law 366 = .ok (.i2l, 1) := by decide +kernel
theorem dL_law_367 : decode cL_law 367 = .ok (.lcmp, 1) := by decide +kernel
theorem dL_law_368 : decode cL_law 368 = .ok (.ifCond .ne 22, 3) := by decide +kernel
theorem dL_law_371 : decode cL_law 371 = .ok (.aload_n 1, 1) := by decide +kernel
theorem dL_law_372 : decode cL_law 372 = .ok (.invokevirtual 96, 3) := by decide +kernel
theorem dL_law_375 : decode cL_law 375 = .ok (.lconst 1, 1) := by decide +kernel
theorem dL_law_376 : decode cL_law 376 = .ok (.lcmp, 1) := by decide +kernel
theorem dL_law_377 : decode cL_law 377 = .ok (.ifCond .ne 13, 3) := by decide +kernel
theorem dL_law_380 : decode cL_law 380 = .ok (.aload_n 1, 1) := by decide +kernel
theorem dL_law_381 : decode cL_law 381 = .ok (.iconst 1, 1) := by decide +kernel
theorem dL_law_382 : decode cL_law 382 = .ok (.iload 12, 2) := by decide +kernel
theorem dL_law_384 : decode cL_law 384 = .ok (.invokevirtual 79, 3) := by decide +kernel
theorem dL_law_387 : decode cL_law 387 = .ok (.ifCond .ge 5, 3) := by decide +kernel
theorem dL_law_390 : decode cL_law 390 = .ok (.iconst 0, 1) := by decide +kernel
theorem dL_law_391 : decode cL_law 391 = .ok (.ireturn, 1) := by decide +kernel
theorem dL_law_392 : decode cL_law 392 = .ok (.aload_n 0, 1) := by decide +kernel
theorem dL_law_393 : decode cL_law 393 = .ok (.bipush 12, 2) := by decide +kernel
theorem dL_law_395 : decode cL_law 395 = .ok (.iload 11, 2) := by decide +kernel
theorem dL_law_397 : decode cL_law 397 = .ok (.iadd, 1) := by decide +kernel
theorem dL_law_398 : decode cL_law 398 = .ok (.invokestatic 15, 3) := by decide +kernel
theorem dL_law_401 : decode cL_law 401 = .ok (.bipush 13, 2) := by decide +kernel
theorem dL_law_403 : decode cL_law 403 = .ok (.invokestatic 21, 3) := by decide +kernel
theorem dL_law_406 : decode cL_law 406 = .ok (.istore 14, 2) := by decide +kernel
theorem dL_law_408 : decode cL_law 408 = .ok (.aload_n 1, 1) := by decide +kernel
theorem dL_law_409 : decode cL_law 409 = .ok (.iconst 3, 1) := by decide +kernel
theorem dL_law_410 : decode cL_law 410 = .ok (.invokevirtual 85, 3) := by decide +kernel
theorem dL_law_413 : decode cL_law 413 = .ok (.istore 15, 2) := by decide +kernel
theorem dL_law_415 : decode cL_law 415 = .ok (.aload_n 1, 1) := by decide +kernel
theorem dL_law_416 : decode cL_law 416 = .ok (.iconst 0, 1) := by decide +kernel
theorem dL_law_417 : decode cL_law 417 = .ok (.iconst 3, 1) := by decide +kernel
theorem dL_law_418 : decode cL_law 418 = .ok (.iload 14, 2) := by decide +kernel
theorem dL_law_420 : decode cL_law 420 = .ok (.bipush 12, 2) := by decide +kernel
theorem dL_law_422 : decode cL_law 422 = .ok (.invokevirtual 88, 3) := by decide +kernel
theorem dL_law_425 : decode cL_law 425 = .ok (.iconst 1, 1) := by decide +kernel
theorem dL_law_426 : decode cL_law 426 = .ok (.if_icmp .ne 35, 3) := by decide +kernel
theorem dL_law_429 : decode cL_law 429 = .ok (.aload_n 1, 1) := by decide +kernel
theorem dL_law_430 : decode cL_law 430 = .ok (.invokevirtual 92, 3) := by decide +kernel
theorem dL_law_433 : decode cL_law 433 = .ok (.ldc2_w 99, 3) := by decide +kernel
theorem dL_law_436 : decode cL_law 436 = .ok (.lmul, 1) := by decide +kernel
theorem dL_law_437 : decode cL_law 437 = .ok (.aload_n 1, 1) := by decide +kernel
theorem dL_law_438 : decode cL_law 438 = .ok (.invokevirtual 96, 3) := by decide +kernel
theorem dL_law_441 : decode cL_law 441 = .ok (.iload 14, 2) := by decide +kernel
theorem dL_law_443 : decode cL_law 443 = .ok (.iload 13, 2) := by decide +kernel
theorem dL_law_445 : decode cL_law 445 = .ok (.imul, 1) := by decide +kernel
theorem dL_law_446 : decode cL_law 446 = .ok (.bipush 12, 2) := by decide +kernel
theorem dL_law_448 : decode cL_law 448 = .ok (.iload 14, 2) := by decide +kernel
theorem dL_law_450 : decode cL_law 450 = .ok (.isub, 1) := by decide +kernel
theorem dL_law_451 : decode cL_law 451 = .ok (.iload 15, 2) := by decide +kernel
theorem dL_law_453 : decode cL_law 453 = .ok (.imul, 1) := by decide +kernel
theorem dL_law_454 : decode cL_law 454 = .ok (.iadd, 1) := by decide +kernel
theorem dL_law_455 : decode cL_law 455 = .ok (.i2l, 1) := by decide +kernel
theorem dL_law_456 : decode cL_law 456 = .ok (.lmul, 1) := by decide +kernel
theorem dL_law_457 : decode cL_law 457 = .ok (.lcmp, 1) := by decide +kernel
theorem dL_law_458 : decode cL_law 458 = .ok (.ifCond .ge 5, 3) := by decide +kernel
theorem dL_law_461 : decode cL_law 461 = .ok (.iconst 0, 1) := by decide +kernel
theorem dL_law_462 : decode cL_law 462 = .ok (.ireturn, 1) := by decide +kernel
theorem dL_law_463 : decode cL_law 463 = .ok (.aload_n 1, 1) := by decide +kernel
theorem dL_law_464 : decode cL_law 464 = .ok (.invokevirtual 92, 3) := by decide +kernel
theorem dL_law_467 : decode cL_law 467 = .ok (.lstore 16, 2) := by decide +kernel
theorem dL_law_469 : decode cL_law 469 = .ok (.aload_n 1, 1) := by decide +kernel
theorem dL_law_470 : decode cL_law 470 = .ok (.invokevirtual 96, 3) := by decide +kernel
theorem dL_law_473 : decode cL_law 473 = .ok (.lstore 18, 2) := by decide +kernel
theorem dL_law_475 : decode cL_law 475 = .ok (.aload_n 1, 1) := by decide +kernel
theorem dL_law_476 : decode cL_law 476 = .ok (.iconst 0, 1) := by decide +kernel
theorem dL_law_477 : decode cL_law 477 = .ok (.iconst 3, 1) := by decide +kernel
theorem dL_law_478 : decode cL_law 478 = .ok (.invokevirtual 101, 3) := by decide +kernel
theorem dL_law_481 : decode cL_law 481 = .ok (.istore 20, 2) := by decide +kernel
theorem dL_law_483 : decode cL_law 483 = .ok (.iload 20, 2) := by decide +kernel
theorem dL_law_485 : decode cL_law 485 = .ok (.ifCond .lt 60, 3) := by decide +kernel
theorem dL_law_488 : decode cL_law 488 = .ok (.iload 20, 2) := by decide +kernel
theorem dL_law_490 : decode cL_law 490 = .ok (.bipush 12, 2) := by decide +kernel
theorem dL_law_492 : decode cL_law 492 = .ok (.if_icmp .gt 53, 3) := by decide +kernel
theorem dL_law_495 : decode cL_law 495 = .ok (.aload_n 1, 1) := by decide +kernel
theorem dL_law_496 : decode cL_law 496 = .ok (.invokevirtual 92, 3) := by decide +kernel
theorem dL_law_499 : decode cL_law 499 = .ok (.lload 18, 2) := by decide +kernel
theorem dL_law_501 : decode cL_law 501 = .ok (.lmul, 1) := by decide +kernel
theorem dL_law_502 : decode cL_law 502 = .ok (.lload 16, 2) := by decide +kernel
theorem dL_law_504 : decode cL_law 504 = .ok (.aload_n 1, 1) := by decide +kernel
theorem dL_law_505 : decode cL_law 505 = .ok (.invokevirtual 96, 3) := by decide +kernel
theorem dL_law_508 : decode cL_law 508 = .ok (.lmul, 1) := by decide +kernel
theorem dL_law_509 : decode cL_law 509 = .ok (.lcmp, 1) := by decide +kernel
theorem dL_law_510 : decode cL_law 510 = .ok (.ifCond .lt 35, 3) := by decide +kernel
theorem dL_law_513 : decode cL_law 513 = .ok (.aload_n 1, 1) := by decide +kernel
theorem dL_law_514 : decode cL_law 514 = .ok (.invokevirtual 92, 3) := by decide +kernel
theorem dL_law_517 : decode cL_law 517 = .ok (.iload 13, 2) := by decide +kernel
theorem dL_law_519 : decode cL_law 519 = .ok (.i2l, 1) := by decide +kernel
theorem dL_law_520 : decode cL_law 520 = .ok (.aload_n 1, 1) := by decide +kernel
theorem dL_law_521 : decode cL_law 521 = .ok (.invokevirtual 96, 3) := by decide +kernel
theorem dL_law_524 : decode cL_law 524 = .ok (.lmul, 1) := by decide +kernel
theorem dL_law_525 : decode cL_law 525 = .ok (.lcmp, 1) := by decide +kernel
theorem dL_law_526 : decode cL_law 526 = .ok (.ifCond .lt 19, 3) := by decide +kernel
theorem dL_law_529 : decode cL_law 529 = .ok (.aload_n 1, 1) := by decide +kernel
theorem dL_law_530 : decode cL_law 530 = .ok (.invokevirtual 92, 3) := by decide +kernel
theorem dL_law_533 : decode cL_law 533 = .ok (.iload 15, 2) := by decide +kernel
theorem dL_law_535 : decode cL_law 535 = .ok (.i2l, 1) := by decide +kernel
theorem dL_law_536 : decode cL_law 536 = .ok (.aload_n 1, 1) := by decide +kernel
theorem dL_law_537 : decode cL_law 537 = .ok (.invokevirtual 96, 3) := by decide +kernel
theorem dL_law_540 : decode cL_law 540 = .ok (.lmul, 1) := by decide +kernel
theorem dL_law_541 : decode cL_law 541 = .ok (.lcmp, 1) := by decide +kernel
theorem dL_law_542 : decode cL_law 542 = .ok (.ifCond .ge 5, 3) := by decide +kernel
theorem dL_law_545 : decode cL_law 545 = .ok (.iconst 0, 1) := by decide +kernel
theorem dL_law_546 : decode cL_law 546 = .ok (.ireturn, 1) := by decide +kernel
theorem dL_law_547 : decode cL_law 547 = .ok (.iinc 11 1, 3) := by decide +kernel
theorem dL_law_550 : decode cL_law 550 = .ok (.goto (-297), 3) := by decide +kernel
theorem dL_law_553 : decode cL_law 553 = .ok (.aload_n 0, 1) := by decide +kernel
theorem dL_law_554 : decode cL_law 554 = .ok (.bipush 16, 2) := by decide +kernel
theorem dL_law_556 : decode cL_law 556 = .ok (.invokestatic 15, 3) := by decide +kernel
theorem dL_law_559 : decode cL_law 559 = .ok (.bipush 40, 2) := by decide +kernel
theorem dL_law_561 : decode cL_law 561 = .ok (.invokestatic 21, 3) := by decide +kernel
theorem dL_law_564 : decode cL_law 564 = .ok (.istore 11, 2) := by decide +kernel
theorem dL_law_566 : decode cL_law 566 = .ok (.aload_n 1, 1) := by decide +kernel
theorem dL_law_567 : decode cL_law 567 = .ok (.iconst 1, 1) := by decide +kernel
theorem dL_law_568 : decode cL_law 568 = .ok (.iload 11, 2) := by decide +kernel
theorem dL_law_570 : decode cL_law 570 = .ok (.invokevirtual 104, 3) := by decide +kernel
theorem dL_law_573 : decode cL_law 573 = .ok (.istore 12, 2) := by decide +kernel
theorem dL_law_575 : decode cL_law 575 = .ok (.iload 12, 2) := by decide +kernel
theorem dL_law_577 : decode cL_law 577 = .ok (.aload_n 1, 1) := by decide +kernel
theorem dL_law_578 : decode cL_law 578 = .ok (.iconst 1, 1) := by decide +kernel
theorem dL_law_579 : decode cL_law 579 = .ok (.iload 11, 2) := by decide +kernel
theorem dL_law_581 : decode cL_law 581 = .ok (.iconst 1, 1) := by decide +kernel
theorem dL_law_582 : decode cL_law 582 = .ok (.iadd, 1) := by decide +kernel
theorem dL_law_583 : decode cL_law 583 = .ok (.invokevirtual 104, 3) := by decide +kernel
theorem dL_law_586 : decode cL_law 586 = .ok (.if_icmp .lt 28, 3) := by decide +kernel
theorem dL_law_589 : decode cL_law 589 = .ok (.iload 12, 2) := by decide +kernel
theorem dL_law_591 : decode cL_law 591 = .ok (.ifCond .le 7, 3) := by decide +kernel
theorem dL_law_594 : decode cL_law 594 = .ok (.iconst 1, 1) := by decide +kernel
theorem dL_law_595 : decode cL_law 595 = .ok (.goto 4, 3) := by decide +kernel
theorem dL_law_598 : decode cL_law 598 = .ok (.iconst 0, 1) := by decide +kernel
theorem dL_law_599 : decode cL_law 599 = .ok (.iload 7, 2) := by decide +kernel
theorem dL_law_601 : decode cL_law 601 = .ok (.iload 11, 2) := by decide +kernel
theorem dL_law_603 : decode cL_law 603 = .ok (.if_icmp .lt 7, 3) := by decide +kernel
theorem dL_law_606 : decode cL_law 606 = .ok (.iconst 1, 1) := by decide +kernel
theorem dL_law_607 : decode cL_law 607 = .ok (.goto 4, 3) := by decide +kernel
theorem dL_law_610 : decode cL_law 610 = .ok (.iconst 0, 1) := by decide +kernel
theorem dL_law_611 : decode cL_law 611 = .ok (.if_icmp .eq 5, 3) := by decide +kernel
theorem dL_law_614 : decode cL_law 614 = .ok (.iconst 0, 1) := by decide +kernel
theorem dL_law_615 : decode cL_law 615 = .ok (.ireturn, 1) := by decide +kernel
theorem dL_law_616 : decode cL_law 616 = .ok (.iconst 1, 1) := by decide +kernel
theorem dL_law_617 : decode cL_law 617 = .ok (.istore 13, 2) := by decide +kernel
theorem dL_law_619 : decode cL_law 619 = .ok (.iconst 0, 1) := by decide +kernel
theorem dL_law_620 : decode cL_law 620 = .ok (.istore 14, 2) := by decide +kernel
theorem dL_law_622 : decode cL_law 622 = .ok (.iload 14, 2) := by decide +kernel
theorem dL_law_624 : decode cL_law 624 = .ok (.iload_n 2, 1) := by decide +kernel
theorem dL_law_625 : decode cL_law 625 = .ok (.if_icmp .ge 41, 3) := by decide +kernel
theorem dL_law_628 : decode cL_law 628 = .ok (.iload 13, 2) := by decide +kernel
theorem dL_law_630 : decode cL_law 630 = .ok (.ifCond .eq 27, 3) := by decide +kernel
theorem dL_law_633 : decode cL_law 633 = .ok (.aload_n 3, 1) := by decide +kernel
theorem dL_law_634 : decode cL_law 634 = .ok (.iconst 3, 1) := by decide +kernel
theorem dL_law_635 : decode cL_law 635 = .ok (.iload 14, 2) := by decide +kernel
theorem dL_law_637 : decode cL_law 637 = .ok (.imul, 1) := by decide +kernel
theorem dL_law_638 : decode cL_law 638 = .ok (.iaload, 1) := by decide +kernel
theorem dL_law_639 : decode cL_law 639 = .ok (.iconst 2, 1) := by decide +kernel
theorem dL_law_640 : decode cL_law 640 = .ok (.if_icmp .eq 17, 3) := by decide +kernel
theorem dL_law_643 : decode cL_law 643 = .ok (.aload_n 3, 1) := by decide +kernel
theorem dL_law_644 : decode cL_law 644 = .ok (.iconst 3, 1) := by decide +kernel
theorem dL_law_645 : decode cL_law 645 = .ok (.iload 14, 2) := by decide +kernel
theorem dL_law_647 : decode cL_law 647 = .ok (.imul, 1) := by decide +kernel
theorem dL_law_648 : decode cL_law 648 = .ok (.iaload, 1) := by decide +kernel
theorem dL_law_649 : decode cL_law 649 = .ok (.iconst 4, 1) := by decide +kernel
theorem dL_law_650 : decode cL_law 650 = .ok (.if_icmp .eq 7, 3) := by decide +kernel
theorem dL_law_653 : decode cL_law 653 = .ok (.iconst 1, 1) := by decide +kernel
theorem dL_law_654 : decode cL_law 654 = .ok (.goto 4, 3) := by decide +kernel
theorem dL_law_657 : decode cL_law 657 = .ok (.iconst 0, 1) := by decide +kernel
theorem dL_law_658 : decode cL_law 658 = .ok (.istore 13, 2) := by decide +kernel
theorem dL_law_660 : decode cL_law 660 = .ok (.iinc 14 1, 3) := by decide +kernel
theorem dL_law_663 : decode cL_law 663 = .ok (.goto (-41), 3) := by decide +kernel
theorem dL_law_666 : decode cL_law 666 = .ok (.aload_n 0, 1) := by decide +kernel
theorem dL_law_667 : decode cL_law 667 = .ok (.bipush 17, 2) := by decide +kernel
theorem dL_law_669 : decode cL_law 669 = .ok (.invokestatic 15, 3) := by decide +kernel
theorem dL_law_672 : decode cL_law 672 = .ok (.bipush 8, 2) := by decide +kernel
theorem dL_law_674 : decode cL_law 674 = .ok (.invokestatic 21, 3) := by decide +kernel
theorem dL_law_677 : decode cL_law 677 = .ok (.istore 14, 2) := by decide +kernel
theorem dL_law_679 : decode cL_law 679 = .ok (.aload_n 0, 1) := by decide +kernel
theorem dL_law_680 : decode cL_law 680 = .ok (.bipush 17, 2) := by decide +kernel
theorem dL_law_682 : decode cL_law 682 = .ok (.invokestatic 15, 3) := by decide +kernel
theorem dL_law_685 : decode cL_law 685 = .ok (.iconst 4, 1) := by decide +kernel
theorem dL_law_686 : decode cL_law 686 = .ok (.ishr, 1) := by decide +kernel
theorem dL_law_687 : decode cL_law 687 = .ok (.bipush 8, 2) := by decide +kernel
theorem dL_law_689 : decode cL_law 689 = .ok (.invokestatic 21, 3) := by decide +kernel
theorem dL_law_692 : decode cL_law 692 = .ok (.istore 15, 2) := by decide +kernel
theorem dL_law_694 : decode cL_law 694 = .ok (.aload_n 1, 1) := by decide +kernel
theorem dL_law_695 : decode cL_law 695 = .ok (.aload_n 1, 1) := by decide +kernel
theorem dL_law_696 : decode cL_law 696 = .ok (.iconst 0, 1) := by decide +kernel
theorem dL_law_697 : decode cL_law 697 = .ok (.iload 14, 2) := by decide +kernel
theorem dL_law_699 : decode cL_law 699 = .ok (.iload 15, 2) := by decide +kernel
theorem dL_law_701 : decode cL_law 701 = .ok (.invokevirtual 107, 3) := by decide +kernel
theorem dL_law_704 : decode cL_law 704 = .ok (.invokestatic 72, 3) := by decide +kernel
theorem dL_law_707 : decode cL_law 707 = .ok (.istore 16, 2) := by decide +kernel
theorem dL_law_709 : decode cL_law 709 = .ok (.aload_n 1, 1) := by decide +kernel
theorem dL_law_710 : decode cL_law 710 = .ok (.aload_n 1, 1) := by decide +kernel
theorem dL_law_711 : decode cL_law 711 = .ok (.iconst 0, 1) := by decide +kernel
theorem dL_law_712 : decode cL_law 712 = .ok (.iload 14, 2) := by decide +kernel
theorem dL_law_714 : decode cL_law 714 = .ok (.iconst 1, 1) := by decide +kernel
theorem dL_law_715 : decode cL_law 715 = .ok (.iadd, 1) := by decide +kernel
theorem dL_law_716 : decode cL_law 716 = .ok (.iload 15, 2) := by decide +kernel
theorem dL_law_718 : decode cL_law 718 = .ok (.invokevirtual 107, 3) := by decide +kernel
theorem dL_law_721 : decode cL_law 721 = .ok (.invokestatic 72, 3) := by decide +kernel
theorem dL_law_724 : decode cL_law 724 = .ok (.istore 17, 2) := by decide +kernel
theorem dL_law_726 : decode cL_law 726 = .ok (.iload 16, 2) := by decide +kernel
theorem dL_law_728 : decode cL_law 728 = .ok (.bipush (-2), 2) := by decide +kernel
theorem dL_law_730 : decode cL_law 730 = .ok (.iload 6, 2) := by decide +kernel
theorem dL_law_732 : decode cL_law 732 = .ok (.imul, 1) := by decide +kernel
theorem dL_law_733 : decode cL_law 733 = .ok (.if_icmp .lt 19, 3) := by decide +kernel
theorem dL_law_736 : decode cL_law 736 = .ok (.iload 16, 2) := by decide +kernel
theorem dL_law_738 : decode cL_law 738 = .ok (.iconst 2, 1) := by decide +kernel
theorem dL_law_739 : decode cL_law 739 = .ok (.iload 6, 2) := by decide +kernel
theorem dL_law_741 : decode cL_law 741 = .ok (.imul, 1) := by decide +kernel
theorem dL_law_742 : decode cL_law 742 = .ok (.if_icmp .gt 10, 3) := by decide +kernel
theorem dL_law_745 : decode cL_law 745 = .ok (.iload 17, 2) := by decide +kernel
theorem dL_law_747 : decode cL_law 747 = .ok (.iload 16, 2) := by decide +kernel
theorem dL_law_749 : decode cL_law 749 = .ok (.if_icmp .ge 5, 3) := by decide +kernel
theorem dL_law_752 : decode cL_law 752 = .ok (.iconst 0, 1) := by decide +kernel
theorem dL_law_753 : decode cL_law 753 = .ok (.ireturn, 1) := by decide +kernel
theorem dL_law_754 : decode cL_law 754 = .ok (.iload 13, 2) := by decide +kernel
theorem dL_law_756 : decode cL_law 756 = .ok (.ifCond .eq 25, 3) := by decide +kernel
theorem dL_law_759 : decode cL_law 759 = .ok (.aload_n 1, 1) := by decide +kernel
theorem dL_law_760 : decode cL_law 760 = .ok (.aload_n 1, 1) := by decide +kernel
theorem dL_law_761 : decode cL_law 761 = .ok (.iconst 0, 1) := by decide +kernel
theorem dL_law_762 : decode cL_law 762 = .ok (.iload 14, 2) := by decide +kernel
theorem dL_law_764 : decode cL_law 764 = .ok (.iload 15, 2) := by decide +kernel
theorem dL_law_766 : decode cL_law 766 = .ok (.iconst 1, 1) := by decide +kernel
theorem dL_law_767 : decode cL_law 767 = .ok (.iadd, 1) := by decide +kernel
theorem dL_law_768 : decode cL_law 768 = .ok (.invokevirtual 107, 3) := by decide +kernel
theorem dL_law_771 : decode cL_law 771 = .ok (.invokestatic 72, 3) := by decide +kernel
theorem dL_law_774 : decode cL_law 774 = .ok (.iload 16, 2) := by decide +kernel
theorem dL_law_776 : decode cL_law 776 = .ok (.if_icmp .le 5, 3) := by decide +kernel
theorem dL_law_779 : decode cL_law 779 = .ok (.iconst 0, 1) := by decide +kernel
theorem dL_law_780 : decode cL_law 780 = .ok (.ireturn, 1) := by decide +kernel
theorem dL_law_781 : decode cL_law 781 = .ok (.iconst 0, 1) := by decide +kernel
theorem dL_law_782 : decode cL_law 782 = .ok (.istore 18, 2) := by decide +kernel
theorem dL_law_784 : decode cL_law 784 = .ok (.iload 18, 2) := by decide +kernel
theorem dL_law_786 : decode cL_law 786 = .ok (.iconst 4, 1) := by decide +kernel
theorem dL_law_787 : decode cL_law 787 = .ok (.if_icmp .ge 34, 3) := by decide +kernel
theorem dL_law_790 : decode cL_law 790 = .ok (.aload_n 1, 1) := by decide +kernel
theorem dL_law_791 : decode cL_law 791 = .ok (.iload 18, 2) := by decide +kernel
theorem dL_law_793 : decode cL_law 793 = .ok (.aload_n 0, 1) := by decide +kernel
theorem dL_law_794 : decode cL_law 794 = .ok (.bipush 18, 2) := by decide +kernel
theorem dL_law_796 : decode cL_law 796 = .ok (.iload 18, 2) := by decide +kernel
theorem dL_law_798 : decode cL_law 798 = .ok (.iadd, 1) := by decide +kernel
theorem dL_law_799 : decode cL_law 799 = .ok (.invokestatic 15, 3) := by decide +kernel
theorem dL_law_802 : decode cL_law 802 = .ok (.bipush 6, 2) := by decide +kernel
theorem dL_law_804 : decode cL_law 804 = .ok (.invokestatic 21, 3) := by decide +kernel
theorem dL_law_807 : decode cL_law 807 = .ok (.invokevirtual 110, 3) := by decide +kernel
theorem dL_law_810 : decode cL_law 810 = .ok (.ifCond .eq 5, 3) := by decide +kernel
theorem dL_law_813 : decode cL_law 813 = .ok (.iconst 0, 1) := by decide +kernel
theorem dL_law_814 : decode cL_law 814 = .ok (.ireturn, 1) := by decide +kernel
theorem dL_law_815 : decode cL_law 815 = .ok (.iinc 18 1, 3) := by decide +kernel
theorem dL_law_818 : decode cL_law 818 = .ok (.goto (-34), 3) := by decide +kernel
theorem dL_law_821 : decode cL_law 821 = .ok (.aload_n 1, 1) := by decide +kernel
theorem dL_law_822 : decode cL_law 822 = .ok (.bipush 15, 2) := by decide +kernel
theorem dL_law_824 : decode cL_law 824 = .ok (.iconst 1, 1) := by decide +kernel
theorem dL_law_825 : decode cL_law 825 = .ok (.invokevirtual 113, 3) := by decide +kernel
theorem dL_law_828 : decode cL_law 828 = .ok (.istore 18, 2) := by decide +kernel
theorem dL_law_830 : decode cL_law 830 = .ok (.aload_n 1, 1) := by decide +kernel
theorem dL_law_831 : decode cL_law 831 = .ok (.aload_n 0, 1) := by decide +kernel
theorem dL_law_832 : decode cL_law 832 = .ok (.bipush 22, 2) := by decide +kernel
theorem dL_law_834 : decode cL_law 834 = .ok (.invokestatic 15, 3) := by decide +kernel
theorem dL_law_837 : decode cL_law 837 = .ok (.bipush 16, 2) := by decide +kernel
theorem dL_law_839 : decode cL_law 839 = .ok (.invokestatic 21, 3) := by decide +kernel
theorem dL_law_842 : decode cL_law 842 = .ok (.iconst 1, 1) := by decide +kernel
theorem dL_law_843 : decode cL_law 843 = .ok (.invokevirtual 113, 3) := by decide +kernel
theorem dL_law_846 : decode cL_law 846 = .ok (.istore 19, 2) := by decide +kernel
theorem dL_law_848 : decode cL_law 848 = .ok (.iload 19, 2) := by decide +kernel
theorem dL_law_850 : decode cL_law 850 = .ok (.ifCond .lt 28, 3) := by decide +kernel
theorem dL_law_853 : decode cL_law 853 = .ok (.iload 18, 2) := by decide +kernel
theorem dL_law_855 : decode cL_law 855 = .ok (.iload 19, 2) := by decide +kernel
theorem dL_law_857 : decode cL_law 857 = .ok (.if_icmp .lt 21, 3) := by decide +kernel
theorem dL_law_860 : decode cL_law 860 = .ok (.iload 18, 2) := by decide +kernel
theorem dL_law_862 : decode cL_law 862 = .ok (.iconst 2, 1) := by decide +kernel
theorem dL_law_863 : decode cL_law 863 = .ok (.iload 6, 2) := by decide +kernel
theorem dL_law_865 : decode cL_law 865 = .ok (.imul, 1) := by decide +kernel
theorem dL_law_866 : decode cL_law 866 = .ok (.if_icmp .gt 12, 3) := by decide +kernel
theorem dL_law_869 : decode cL_law 869 = .ok (.aload_n 1, 1) := by decide +kernel
theorem dL_law_870 : decode cL_law 870 = .ok (.iconst 0, 1) := by decide +kernel
theorem dL_law_871 : decode cL_law 871 = .ok (.iconst 1, 1) := by decide +kernel
theorem dL_law_872 : decode cL_law 872 = .ok (.invokevirtual 113, 3) := by decide +kernel
theorem dL_law_875 : decode cL_law 875 = .ok (.ifCond .eq 5, 3) := by decide +kernel
theorem dL_law_878 : decode cL_law 878 = .ok (.iconst 0, 1) := by decide +kernel
theorem dL_law_879 : decode cL_law 879 = .ok (.ireturn, 1) := by decide +kernel
theorem dL_law_880 : decode cL_law 880 = .ok (.lconst 0, 1) := by decide +kernel
theorem dL_law_881 : decode cL_law 881 = .ok (.lstore 20, 2) := by decide +kernel
theorem dL_law_883 : decode cL_law 883 = .ok (.iconst 0, 1) := by decide +kernel
theorem dL_law_884 : decode cL_law 884 = .ok (.istore 22, 2) := by decide +kernel
theorem dL_law_886 : decode cL_law 886 = .ok (.iload 22, 2) := by decide +kernel
theorem dL_law_888 : decode cL_law 888 = .ok (.iconst 4, 1) := by decide +kernel
theorem dL_law_889 : decode cL_law 889 = .ok (.if_icmp .ge 53, 3) := by decide +kernel
theorem dL_law_892 : decode cL_law 892 = .ok (.aload_n 1, 1) := by decide +kernel
theorem dL_law_893 : decode cL_law 893 = .ok (.iload 22, 2) := by decide +kernel
theorem dL_law_895 : decode cL_law 895 = .ok (.iconst 1, 1) := by decide +kernel
theorem dL_law_896 : decode cL_law 896 = .ok (.invokevirtual 116, 3) := by decide +kernel
theorem dL_law_899 : decode cL_law 899 = .ok (.iconst 1, 1) := by decide +kernel
theorem dL_law_900 : decode cL_law 900 = .ok (.if_icmp .ne 16, 3) := by decide +kernel
theorem dL_law_903 : decode cL_law 903 = .ok (.ldc2_w 119, 3) := by decide +kernel
theorem dL_law_906 : decode cL_law 906 = .ok (.aload_n 1, 1) := by decide +kernel
theorem dL_law_907 : decode cL_law 907 = .ok (.invokevirtual 96, 3) := by decide +kernel
theorem dL_law_910 : decode cL_law 910 = .ok (.lrem, 1) := by decide +kernel
theorem dL_law_911 : decode cL_law 911 = .ok (.lconst 0, 1) := by decide +kernel
theorem dL_law_912 : decode cL_law 912 = .ok (.lcmp, 1) := by decide +kernel
theorem dL_law_913 : decode cL_law 913 = .ok (.ifCond .eq 5, 3) := by decide +kernel
theorem dL_law_916 : decode cL_law 916 = .ok (.iconst 0, 1) := by decide +kernel
theorem dL_law_917 : decode cL_law 917 = .ok (.ireturn, 1) := by decide +kernel
theorem dL_law_918 : decode cL_law 918 = .ok (.lload 20, 2) := by decide +kernel
theorem dL_law_920 : decode cL_law 920 = .ok (.aload_n 1, 1) := by decide +kernel
theorem dL_law_921 : decode cL_law 921 = .ok (.invokevirtual 92, 3) := by decide +kernel
theorem dL_law_924 : decode cL_law 924 = .ok (.ldc2_w 119, 3) := by decide +kernel
theorem dL_law_927 : decode cL_law 927 = .ok (.aload_n 1, 1) := by decide +kernel
theorem dL_law_928 : decode cL_law 928 = .ok (.invokevirtual 96, 3) := by decide +kernel
theorem dL_law_931 : decode cL_law 931 = .ok (.ldiv, 1) := by decide +kernel
theorem dL_law_932 : decode cL_law 932 = .ok (.lmul, 1) := by decide +kernel
theorem dL_law_933 : decode cL_law 933 = .ok (.ladd, 1) := by decide +kernel
theorem dL_law_934 : decode cL_law 934 = .ok (.lstore 20, 2) := by decide +kernel
theorem dL_law_936 : decode cL_law 936 = .ok (.iinc 22 1, 3) := by decide +kernel
theorem dL_law_939 : decode cL_law 939 = .ok (.goto (-53), 3) := by decide +kernel
theorem dL_law_942 : decode cL_law 942 = .ok (.lload 20, 2) := by decide +kernel
theorem dL_law_944 : decode cL_law 944 = .ok (.ldc2_w 119, 3) := by decide +kernel
theorem dL_law_947 : decode cL_law 947 = .ok (.iload 18, 2) := by decide +kernel
theorem dL_law_949 : decode cL_law 949 = .ok (.i2l, 1) := by decide +kernel
theorem dL_law_950 : decode cL_law 950 = .ok (.lmul, 1) := by decide +kernel
theorem dL_law_951 : decode cL_law 951 = .ok (.lcmp, 1) := by decide +kernel
theorem dL_law_952 : decode cL_law 952 = .ok (.ifCond .eq 5, 3) := by decide +kernel
theorem dL_law_955 : decode cL_law 955 = .ok (.iconst 0, 1) := by decide +kernel
theorem dL_law_956 : decode cL_law 956 = .ok (.ireturn, 1) := by decide +kernel
theorem dL_law_957 : decode cL_law 957 = .ok (.aload_n 1, 1) := by decide +kernel
theorem dL_law_958 : decode cL_law 958 = .ok (.iconst 1, 1) := by decide +kernel
theorem dL_law_959 : decode cL_law 959 = .ok (.invokevirtual 121, 3) := by decide +kernel
theorem dL_law_962 : decode cL_law 962 = .ok (.istore 22, 2) := by decide +kernel
theorem dL_law_964 : decode cL_law 964 = .ok (.aload_n 1, 1) := by decide +kernel
theorem dL_law_965 : decode cL_law 965 = .ok (.invokevirtual 9, 3) := by decide +kernel
theorem dL_law_968 : decode cL_law 968 = .ok (.istore 23, 2) := by decide +kernel
theorem dL_law_970 : decode cL_law 970 = .ok (.aload_n 1, 1) := by decide +kernel
theorem dL_law_971 : decode cL_law 971 = .ok (.iload 22, 2) := by decide +kernel
theorem dL_law_973 : decode cL_law 973 = .ok (.invokevirtual 53, 3) := by decide +kernel
theorem dL_law_976 : decode cL_law 976 = .ok (.istore 24, 2) := by decide +kernel
theorem dL_law_978 : decode cL_law 978 = .ok (.iload 22, 2) := by decide +kernel
theorem dL_law_980 : decode cL_law 980 = .ok (.ifCond .lt 50, 3) := by decide +kernel
theorem dL_law_983 : decode cL_law 983 = .ok (.iload 22, 2) := by decide +kernel
theorem dL_law_985 : decode cL_law 985 = .ok (.bipush 9, 2) := by decide +kernel
theorem dL_law_987 : decode cL_law 987 = .ok (.if_icmp .gt 43, 3) := by decide +kernel
theorem dL_law_990 : decode cL_law 990 = .ok (.iload 23, 2) := by decide +kernel
theorem dL_law_992 : decode cL_law 992 = .ok (.iload 7, 2) := by decide +kernel
theorem dL_law_994 : decode cL_law 994 = .ok (.if_icmp .lt 36, 3) := by decide +kernel
theorem dL_law_997 : decode cL_law 997 = .ok (.aload_n 1, 1) := by decide +kernel
theorem dL_law_998 : decode cL_law 998 = .ok (.iconst 1, 1) := by decide +kernel
theorem dL_law_999 : decode cL_law 999 = .ok (.iconst 2, 1) := by decide +kernel
theorem dL_law_1000 : decode cL_law 1000 = .ok (.invokevirtual 66, 3) := by decide +kernel
theorem dL_law_1003 : decode cL_law 1003 = .ok (.iload 23, 2) := by decide +kernel
theorem dL_law_1005 : decode cL_law 1005 = .ok (.if_icmp .ne 25, 3) := by decide +kernel
theorem dL_law_1008 : decode cL_law 1008 = .ok (.aload_n 1, 1) := by decide +kernel
theorem dL_law_1009 : decode cL_law 1009 = .ok (.iload 24, 2) := by decide +kernel
theorem dL_law_1011 : decode cL_law 1011 = .ok (.invokevirtual 53, 3) := by decide +kernel
theorem dL_law_1014 : decode cL_law 1014 = .ok (.iload 22, 2) := by decide +kernel
theorem dL_law_1016 : decode cL_law 1016 = .ok (.if_icmp .ne 14, 3) := by decide +kernel
theorem dL_law_1019 : decode cL_law 1019 = .ok (.aload_n 1, 1) := by decide +kernel
theorem dL_law_1020 : decode cL_law 1020 = .ok (.iconst 1, 1) := by decide +kernel
theorem dL_law_1021 : decode cL_law 1021 = .ok (.iconst 2, 1) := by decide +kernel
theorem dL_law_1022 : decode cL_law 1022 = .ok (.invokevirtual 66, 3) := by decide +kernel
theorem dL_law_1025 : decode cL_law 1025 = .ok (.iload 7, 2) := by decide +kernel
theorem dL_law_1027 : decode cL_law 1027 = .ok (.if_icmp .eq 5, 3) := by decide +kernel
theorem dL_law_1030 : decode cL_law 1030 = .ok (.iconst 0, 1) := by decide +kernel
theorem dL_law_1031 : decode cL_law 1031 = .ok (.ireturn, 1) := by decide +kernel
theorem dL_law_1032 : decode cL_law 1032 = .ok (.aload_n 0, 1) := by decide +kernel
theorem dL_law_1033 : decode cL_law 1033 = .ok (.bipush 23, 2) := by decide +kernel
theorem dL_law_1035 : decode cL_law 1035 = .ok (.invokestatic 15, 3) := by decide +kernel
theorem dL_law_1038 : decode cL_law 1038 = .ok (.bipush 6, 2) := by decide +kernel
theorem dL_law_1040 : decode cL_law 1040 = .ok (.invokestatic 21, 3) := by decide +kernel
theorem dL_law_1043 : decode cL_law 1043 = .ok (.istore 25, 2) := by decide +kernel
theorem dL_law_1045 : decode cL_law 1045 = .ok (.iconst 0, 1) := by decide +kernel
theorem dL_law_1046 : decode cL_law 1046 = .ok (.istore 26, 2) := by decide +kernel
theorem dL_law_1048 : decode cL_law 1048 = .ok (.iload 26, 2) := by decide +kernel
theorem dL_law_1050 : decode cL_law 1050 = .ok (.iconst 3, 1) := by decide +kernel
theorem dL_law_1051 : decode cL_law 1051 = .ok (.if_icmp .ge 114, 3) := by decide +kernel
theorem dL_law_1054 : decode cL_law 1054 = .ok (.aload_n 1, 1) := by decide +kernel
theorem dL_law_1055 : decode cL_law 1055 = .ok (.iload 25, 2) := by decide +kernel
theorem dL_law_1057 : decode cL_law 1057 = .ok (.iconst 1, 1) := by decide +kernel
theorem dL_law_1058 : decode cL_law 1058 = .ok (.invokevirtual 124, 3) := by decide +kernel
theorem dL_law_1061 : decode cL_law 1061 = .ok (.ifCond .lt 27, 3) := by decide +kernel
theorem dL_law_1064 : decode cL_law 1064 = .ok (.aload_n 1, 1) := by decide +kernel
theorem dL_law_1065 : decode cL_law 1065 = .ok (.iconst 0, 1) := by decide +kernel
theorem dL_law_1066 : decode cL_law 1066 = .ok (.iload_n 2, 1) := by decide +kernel
theorem dL_law_1067 : decode cL_law 1067 = .ok (.aload_n 3, 1) := by decide +kernel
theorem dL_law_1068 : decode cL_law 1068 = .ok (.bipush 18, 2) := by decide +kernel
theorem dL_law_1070 : decode cL_law 1070 = .ok (.iaload, 1) := by decide +kernel
theorem dL_law_1071 : decode cL_law 1071 = .ok (.aload_n 0, 1) := by decide +kernel
theorem dL_law_1072 : decode cL_law 1072 = .ok (.bipush 24, 2) := by decide +kernel
theorem dL_law_1074 : decode cL_law 1074 = .ok (.iload 26, 2) := by decide +kernel
theorem dL_law_1076 : decode cL_law 1076 = .ok (.iadd, 1) := by decide +kernel
theorem dL_law_1077 : decode cL_law 1077 = .ok (.invokestatic 15, 3) := by decide +kernel
theorem dL_law_1080 : decode cL_law 1080 = .ok (.aload 4, 2) := by decide +kernel
theorem dL_law_1082 : decode cL_law 1082 = .ok (.invokestatic 59, 3) := by decide +kernel
theorem dL_law_1085 : decode cL_law 1085 = .ok (.ifCond .ne 5, 3) := by decide +kernel
theorem dL_law_1088 : decode cL_law 1088 = .ok (.iconst 0, 1) := by decide +kernel
theorem dL_law_1089 : decode cL_law 1089 = .ok (.ireturn, 1) := by decide +kernel
theorem dL_law_1090 : decode cL_law 1090 = .ok (.iconst 0, 1) := by decide +kernel
theorem dL_law_1091 : decode cL_law 1091 = .ok (.istore 27, 2) := by decide +kernel
theorem dL_law_1093 : decode cL_law 1093 = .ok (.iconst 0, 1) := by decide +kernel
theorem dL_law_1094 : decode cL_law 1094 = .ok (.istore 28, 2) := by decide +kernel
theorem dL_law_1096 : decode cL_law 1096 = .ok (.iload 28, 2) := by decide +kernel
theorem dL_law_1098 : decode cL_law 1098 = .ok (.iload_n 2, 1) := by decide +kernel
theorem dL_law_1099 : decode cL_law 1099 = .ok (.if_icmp .ge 33, 3) := by decide +kernel
theorem dL_law_1102 : decode cL_law 1102 = .ok (.iload 27, 2) := by decide +kernel
theorem dL_law_1104 : decode cL_law 1104 = .ok (.aload_n 1, 1) := by decide +kernel
theorem dL_law_1105 : decode cL_law 1105 = .ok (.iconst 0, 1) := by decide +kernel
theorem dL_law_1106 : decode cL_law 1106 = .ok (.iconst 1, 1) := by decide +kernel
theorem dL_law_1107 : decode cL_law 1107 = .ok (.iload 28, 2) := by decide +kernel
theorem dL_law_1109 : decode cL_law 1109 = .ok (.invokevirtual 127, 3) := by decide +kernel
theorem dL_law_1112 : decode cL_law 1112 = .ok (.ifCond .ne 10, 3) := by decide +kernel
theorem dL_law_1115 : decode cL_law 1115 = .ok (.iconst 1, 1) := by decide +kernel
theorem dL_law_1116 : decode cL_law 1116 = .ok (.iload 28, 2) := by decide +kernel
theorem dL_law_1118 : decode cL_law 1118 = .ok (.ishl, 1) := by decide +kernel
theorem dL_law_1119 : decode cL_law 1119 = .ok (.goto 4, 3) := by decide +kernel
theorem dL_law_1122 : decode cL_law 1122 = .ok (.iconst 0, 1) := by decide +kernel
theorem dL_law_1123 : decode cL_law 1123 = .ok (.ior, 1) := by decide +kernel
theorem dL_law_1124 : decode cL_law 1124 = .ok (.istore 27, 2) := by decide +kernel
theorem dL_law_1126 : decode cL_law 1126 = .ok (.iinc 28 1, 3) := by decide +kernel
theorem dL_law_1129 : decode cL_law 1129 = .ok (.goto (-33), 3) := by decide +kernel
theorem dL_law_1132 : decode cL_law 1132 = .ok (.aload_n 1, 1) := by decide +kernel
theorem dL_law_1133 : decode cL_law 1133 = .ok (.iconst 0, 1) := by decide +kernel
theorem dL_law_1134 : decode cL_law 1134 = .ok (.iload 27, 2) := by decide +kernel
theorem dL_law_1136 : decode cL_law 1136 = .ok (.invokevirtual 130, 3) := by decide +kernel
theorem dL_law_1139 : decode cL_law 1139 = .ok (.iload 26, 2) := by decide +kernel
theorem dL_law_1141 : decode cL_law 1141 = .ok (.if_icmp .ne 16, 3) := by decide +kernel
theorem dL_law_1144 : decode cL_law 1144 = .ok (.aload_n 1, 1) := by decide +kernel
theorem dL_law_1145 : decode cL_law 1145 = .ok (.invokevirtual 133, 3) := by decide +kernel
theorem dL_law_1148 : decode cL_law 1148 = .ok (.iload 25, 2) := by decide +kernel
theorem dL_law_1150 : decode cL_law 1150 = .ok (.ishr, 1) := by decide +kernel
theorem dL_law_1151 : decode cL_law 1151 = .ok (.iconst 1, 1) := by decide +kernel
theorem dL_law_1152 : decode cL_law 1152 = .ok (.iand, 1) := by decide +kernel
theorem dL_law_1153 : decode cL_law 1153 = .ok (.iconst 1, 1) := by decide +kernel
theorem dL_law_1154 : decode cL_law 1154 = .ok (.if_icmp .eq 5, 3) := by decide +kernel
theorem dL_law_1157 : decode cL_law 1157 = .ok (.iconst 0, 1) := by decide +kernel
theorem dL_law_1158 : decode cL_law 1158 = .ok (.ireturn, 1) := by decide +kernel
theorem dL_law_1159 : decode cL_law 1159 = .ok (.iinc 26 1, 3) := by decide +kernel
theorem dL_law_1162 : decode cL_law 1162 = .ok (.goto (-114), 3) := by decide +kernel
theorem dL_law_1165 : decode cL_law 1165 = .ok (.aload_n 1, 1) := by decide +kernel
theorem dL_law_1166 : decode cL_law 1166 = .ok (.iconst 2, 1) := by decide +kernel
theorem dL_law_1167 : decode cL_law 1167 = .ok (.invokevirtual 136, 3) := by decide +kernel
theorem dL_law_1170 : decode cL_law 1170 = .ok (.istore 26, 2) := by decide +kernel
theorem dL_law_1172 : decode cL_law 1172 = .ok (.aload_n 1, 1) := by decide +kernel
theorem dL_law_1173 : decode cL_law 1173 = .ok (.invokevirtual 9, 3) := by decide +kernel
theorem dL_law_1176 : decode cL_law 1176 = .ok (.istore 27, 2) := by decide +kernel
theorem dL_law_1178 : decode cL_law 1178 = .ok (.iload 26, 2) := by decide +kernel
theorem dL_law_1180 : decode cL_law 1180 = .ok (.ifCond .lt 31, 3) := by decide +kernel
theorem dL_law_1183 : decode cL_law 1183 = .ok (.iload 27, 2) := by decide +kernel
theorem dL_law_1185 : decode cL_law 1185 = .ok (.iload 25, 2) := by decide +kernel
theorem dL_law_1187 : decode cL_law 1187 = .ok (.if_icmp .gt 24, 3) := by decide +kernel
theorem dL_law_1190 : decode cL_law 1190 = .ok (.aload_n 1, 1) := by decide +kernel
theorem dL_law_1191 : decode cL_law 1191 = .ok (.iload 27, 2) := by decide +kernel
theorem dL_law_1193 : decode cL_law 1193 = .ok (.iconst 1, 1) := by decide +kernel
theorem dL_law_1194 : decode cL_law 1194 = .ok (.invokevirtual 124, 3) := by decide +kernel
theorem dL_law_1197 : decode cL_law 1197 = .ok (.ifCond .lt 14, 3) := by decide +kernel
theorem dL_law_1200 : decode cL_law 1200 = .ok (.aload_n 1, 1) := by decide +kernel
theorem dL_law_1201 : decode cL_law 1201 = .ok (.iconst 2, 1) := by decide +kernel
theorem dL_law_1202 : decode cL_law 1202 = .ok (.iconst 1, 1) := by decide +kernel
theorem dL_law_1203 : decode cL_law 1203 = .ok (.invokevirtual 76, 3) := by decide +kernel
theorem dL_law_1206 : decode cL_law 1206 = .ok (.iload 26, 2) := by decide +kernel
theorem dL_law_1208 : decode cL_law 1208 = .ok (.if_icmp .eq 5, 3) := by decide +kernel
theorem dL_law_1211 : decode cL_law 1211 = .ok (.iconst 0, 1) := by decide +kernel
theorem dL_law_1212 : decode cL_law 1212 = .ok (.ireturn, 1) := by decide +kernel
theorem dL_law_1213 : decode cL_law 1213 = .ok (.aload_n 1, 1) := by decide +kernel
theorem dL_law_1214 : decode cL_law 1214 = .ok (.iconst 2, 1) := by decide +kernel
theorem dL_law_1215 : decode cL_law 1215 = .ok (.invokevirtual 139, 3) := by decide +kernel
theorem dL_law_1218 : decode cL_law 1218 = .ok (.istore 28, 2) := by decide +kernel
theorem dL_law_1220 : decode cL_law 1220 = .ok (.iload 28, 2) := by decide +kernel
theorem dL_law_1222 : decode cL_law 1222 = .ok (.iconst 1, 1) := by decide +kernel
theorem dL_law_1223 : decode cL_law 1223 = .ok (.if_icmp .lt 39, 3) := by decide +kernel
theorem dL_law_1226 : decode cL_law 1226 = .ok (.iload 28, 2) := by decide +kernel
theorem dL_law_1228 : decode cL_law 1228 = .ok (.bipush 6, 2) := by decide +kernel
theorem dL_law_1230 : decode cL_law 1230 = .ok (.if_icmp .gt 32, 3) := by decide +kernel
theorem dL_law_1233 : decode cL_law 1233 = .ok (.aload_n 1, 1) := by decide +kernel
theorem dL_law_1234 : decode cL_law 1234 = .ok (.iconst 0, 1) := by decide +kernel
theorem dL_law_1235 : decode cL_law 1235 = .ok (.invokevirtual 142, 3) := by decide +kernel
theorem dL_law_1238 : decode cL_law 1238 = .ok (.ifCond .ne 24, 3) := by decide +kernel
theorem dL_law_1241 : decode cL_law 1241 = .ok (.aload_n 1, 1) := by decide +kernel
theorem dL_law_1242 : decode cL_law 1242 = .ok (.iconst 4, 1) := by decide +kernel
theorem dL_law_1243 : decode cL_law 1243 = .ok (.invokevirtual 56, 3) := by decide +kernel
theorem dL_law_1246 : decode cL_law 1246 = .ok (.ifCond .ne 16, 3) := by decide +kernel
theorem dL_law_1249 : decode cL_law 1249 = .ok (.aload_n 1, 1) := by decide +kernel
theorem dL_law_1250 : decode cL_law 1250 = .ok (.iconst 0, 1) := by decide +kernel
theorem dL_law_1251 : decode cL_law 1251 = .ok (.iconst 0, 1) := by decide +kernel
theorem dL_law_1252 : decode cL_law 1252 = .ok (.invokevirtual 110, 3) := by decide +kernel
theorem dL_law_1255 : decode cL_law 1255 = .ok (.ifCond .ne 7, 3) := by decide +kernel
theorem dL_law_1258 : decode cL_law 1258 = .ok (.iconst 1, 1) := by decide +kernel
theorem dL_law_1259 : decode cL_law 1259 = .ok (.goto 4, 3) := by decide +kernel
theorem dL_law_1262 : decode cL_law 1262 = .ok (.iconst 0, 1) := by decide +kernel
theorem dL_law_1263 : decode cL_law 1263 = .ok (.ireturn, 1) := by decide +kernel
theorem q_715 : Cond.methodLink RL 130 yX11_note ∈ wT := wi_t 715 (by decide +kernel) (by decide +kernel)
theorem q_718 : Cond.code yX11_note cX11_note 4 (some .int) ∈ wT := wi_t 718 (by decide +kernel) (by decide +kernel)
theorem q_716 : Cond.instanceMethod yX11_note ∈ wT := wi_t 716 (by decide +kernel) (by decide +kernel)
theorem q_717 : Cond.selects RX11 yX11_note yX11_note ∈ wT := wi_t 717 (by decide +kernel) (by decide +kernel)
theorem q_725 : Cond.methodLink RL 133 yX11_rules ∈ wT := wi_t 725 (by decide +kernel) (by decide +kernel)
theorem q_728 : Cond.code yX11_rules cX11_rules 2 (some .int) ∈ wT := wi_t 728 (by decide +kernel) (by decide +kernel)
theorem q_726 : Cond.instanceMethod yX11_rules ∈ wT := wi_t 726 (by decide +kernel) (by decide +kernel)
theorem q_727 : Cond.selects RX11 yX11_rules yX11_rules ∈ wT := wi_t 727 (by decide +kernel) (by decide +kernel)
theorem q_461 : Cond.methodLink RL 127 yX11_who ∈ wT := wi_t 461 (by decide +kernel) (by decide +kernel)
theorem q_464 : Cond.code yX11_who cX11_who 6 (some .int) ∈ wT := wi_t 464 (by decide +kernel) (by decide +kernel)
theorem q_462 : Cond.instanceMethod yX11_who ∈ wT := wi_t 462 (by decide +kernel) (by decide +kernel)
theorem q_463 : Cond.selects RX11 yX11_who yX11_who ∈ wT := wi_t 463 (by decide +kernel) (by decide +kernel)
theorem q_764 : Cond.methodLink RL 136 yX11_reply ∈ wT := wi_t 764 (by decide +kernel) (by decide +kernel)
theorem q_767 : Cond.code yX11_reply cX11_reply 5 (some .int) ∈ wT := wi_t 767 (by decide +kernel) (by decide +kernel)
theorem q_765 : Cond.instanceMethod yX11_reply ∈ wT := wi_t 765 (by decide +kernel) (by decide +kernel)
theorem q_766 : Cond.selects RX11 yX11_reply yX11_reply ∈ wT := wi_t 766 (by decide +kernel) (by decide +kernel)
theorem q_683 : Cond.methodLink RL 124 yX11_rule ∈ wT := wi_t 683 (by decide +kernel) (by decide +kernel)
theorem q_686 : Cond.code yX11_rule cX11_rule 4 (some .int) ∈ wT := wi_t 686 (by decide +kernel) (by decide +kernel)
theorem q_684 : Cond.instanceMethod yX11_rule ∈ wT := wi_t 684 (by decide +kernel) (by decide +kernel)
theorem q_685 : Cond.selects RX11 yX11_rule yX11_rule ∈ wT := wi_t 685 (by decide +kernel) (by decide +kernel)
theorem q_392 : Cond.methodLink RL 76 yX11_judge ∈ wT := wi_t 392 (by decide +kernel) (by decide +kernel)
theorem q_395 : Cond.code yX11_judge cX11_judge 5 (some .int) ∈ wT := wi_t 395 (by decide +kernel) (by decide +kernel)
theorem q_393 : Cond.instanceMethod yX11_judge ∈ wT := wi_t 393 (by decide +kernel) (by decide +kernel)
theorem q_394 : Cond.selects RX11 yX11_judge yX11_judge ∈ wT := wi_t 394 (by decide +kernel) (by decide +kernel)
theorem q_771 : Cond.methodLink RL 139 yX11_tell ∈ wT := wi_t 771 (by decide +kernel) (by decide +kernel)
theorem q_774 : Cond.code yX11_tell cX11_tell 7 (some .int) ∈ wT := wi_t 774 (by decide +kernel) (by decide +kernel)
theorem q_772 : Cond.instanceMethod yX11_tell ∈ wT := wi_t 772 (by decide +kernel) (by decide +kernel)
theorem q_773 : Cond.selects RX11 yX11_tell yX11_tell ∈ wT := wi_t 773 (by decide +kernel) (by decide +kernel)
theorem q_796 : Cond.methodLink RL 142 yX11_on ∈ wT := wi_t 796 (by decide +kernel) (by decide +kernel)
theorem q_799 : Cond.code yX11_on cX11_on 3 (some .int) ∈ wT := wi_t 799 (by decide +kernel) (by decide +kernel)
theorem q_797 : Cond.instanceMethod yX11_on ∈ wT := wi_t 797 (by decide +kernel) (by decide +kernel)
theorem q_798 : Cond.selects RX11 yX11_on yX11_on ∈ wT := wi_t 798 (by decide +kernel) (by decide +kernel)
theorem q_812 : Cond.methodLink RL 56 yX11_count ∈ wT := wi_t 812 (by decide +kernel) (by decide +kernel)
theorem q_815 : Cond.code yX11_count cX11_count 2 (some .int) ∈ wT := wi_t 815 (by decide +kernel) (by decide +kernel)
theorem q_813 : Cond.instanceMethod yX11_count ∈ wT := wi_t 813 (by decide +kernel) (by decide +kernel)
theorem q_814 : Cond.selects RX11 yX11_count yX11_count ∈ wT := wi_t 814 (by decide +kernel) (by decide +kernel)
theorem q_649 : Cond.methodLink RL 110 yX11_lender ∈ wT := wi_t 649 (by decide +kernel) (by decide +kernel)
theorem q_652 : Cond.code yX11_lender cX11_lender 4 (some .int) ∈ wT := wi_t 652 (by decide +kernel) (by decide +kernel)
theorem q_650 : Cond.instanceMethod yX11_lender ∈ wT := wi_t 650 (by decide +kernel) (by decide +kernel)
theorem q_651 : Cond.selects RX11 yX11_lender yX11_lender ∈ wT := wi_t 651 (by decide +kernel) (by decide +kernel)
theorem q_910 : Cond.methodLink RL 59 yL_laying ∈ wT := wi_t 910 (by decide +kernel) (by decide +kernel)
theorem q_912 : Cond.code yL_laying cL_laying 10 (some .boolean) ∈ wT := wi_t 912 (by decide +kernel) (by decide +kernel)
theorem q_911 : Cond.static yL_laying ∈ wT := wi_t 911 (by decide +kernel) (by decide +kernel)
theorem q_922 : Cond.constantLong RL 119 24 ∈ wT := wi_t 922 (by decide +kernel) (by decide +kernel)
theorem q_679 : Cond.methodLink RL 121 yX11_when ∈ wT := wi_t 679 (by decide +kernel) (by decide +kernel)
theorem q_682 : Cond.code yX11_when cX11_when 6 (some .int) ∈ wT := wi_t 682 (by decide +kernel) (by decide +kernel)
theorem q_680 : Cond.instanceMethod yX11_when ∈ wT := wi_t 680 (by decide +kernel) (by decide +kernel)
theorem q_681 : Cond.selects RX11 yX11_when yX11_when ∈ wT := wi_t 681 (by decide +kernel) (by decide +kernel)
theorem q_384 : Cond.methodLink RL 53 yX11_damp ∈ wT := wi_t 384 (by decide +kernel) (by decide +kernel)
theorem q_387 : Cond.code yX11_damp cX11_damp 3 (some .int) ∈ wT := wi_t 387 (by decide +kernel) (by decide +kernel)
theorem q_385 : Cond.instanceMethod yX11_damp ∈ wT := wi_t 385 (by decide +kernel) (by decide +kernel)
theorem q_386 : Cond.selects RX11 yX11_damp yX11_damp ∈ wT := wi_t 386 (by decide +kernel) (by decide +kernel)
theorem q_466 : Cond.methodLink RL 66 yX11_best ∈ wT := wi_t 466 (by decide +kernel) (by decide +kernel)
theorem q_469 : Cond.code yX11_best cX11_best 5 (some .int) ∈ wT := wi_t 469 (by decide +kernel) (by decide +kernel)
theorem q_467 : Cond.instanceMethod yX11_best ∈ wT := wi_t 467 (by decide +kernel) (by decide +kernel)
theorem q_468 : Cond.selects RX11 yX11_best yX11_best ∈ wT := wi_t 468 (by decide +kernel) (by decide +kernel)
theorem q_665 : Cond.methodLink RL 116 yX11_adds ∈ wT := wi_t 665 (by decide +kernel) (by decide +kernel)
theorem q_668 : Cond.code yX11_adds cX11_adds 6 (some .int) ∈ wT := wi_t 668 (by decide +kernel) (by decide +kernel)
theorem q_666 : Cond.instanceMethod yX11_adds ∈ wT := wi_t 666 (by decide +kernel) (by decide +kernel)
theorem q_667 : Cond.selects RX11 yX11_adds yX11_adds ∈ wT := wi_t 667 (by decide +kernel) (by decide +kernel)
theorem q_808 : Cond.methodLink RL 96 yX11_lower ∈ wT := wi_t 808 (by decide +kernel) (by decide +kernel)
theorem q_811 : Cond.code yX11_lower cX11_lower 1 (some .long) ∈ wT := wi_t 811 (by decide +kernel) (by decide +kernel)
theorem q_809 : Cond.instanceMethod yX11_lower ∈ wT := wi_t 809 (by decide +kernel) (by decide +kernel)
theorem q_810 : Cond.selects RX11 yX11_lower yX11_lower ∈ wT := wi_t 810 (by decide +kernel) (by decide +kernel)
theorem q_804 : Cond.methodLink RL 92 yX11_upper ∈ wT := wi_t 804 (by decide +kernel) (by decide +kernel)
theorem q_807 : Cond.code yX11_upper cX11_upper 1 (some .long) ∈ wT := wi_t 807 (by decide +kernel) (by decide +kernel)
theorem q_805 : Cond.instanceMethod yX11_upper ∈ wT := wi_t 805 (by decide +kernel) (by decide +kernel)
theorem q_806 : Cond.selects RX11 yX11_upper yX11_upper ∈ wT := wi_t 806 (by decide +kernel) (by decide +kernel)
theorem q_653 : Cond.methodLink RL 113 yX11_lend ∈ wT := wi_t 653 (by decide +kernel) (by decide +kernel)
theorem q_656 : Cond.code yX11_lend cX11_lend 4 (some .int) ∈ wT := wi_t 656 (by decide +kernel) (by decide +kernel)
theorem q_654 : Cond.instanceMethod yX11_lend ∈ wT := wi_t 654 (by decide +kernel) (by decide +kernel)
theorem q_655 : Cond.selects RX11 yX11_lend yX11_lend ∈ wT := wi_t 655 (by decide +kernel) (by decide +kernel)
theorem q_606 : Cond.methodLink RL 107 yX11_from ∈ wT := wi_t 606 (by decide +kernel) (by decide +kernel)
theorem q_609 : Cond.code yX11_from cX11_from 4 (some .int) ∈ wT := wi_t 609 (by decide +kernel) (by decide +kernel)
theorem q_607 : Cond.instanceMethod yX11_from ∈ wT := wi_t 607 (by decide +kernel) (by decide +kernel)
theorem q_608 : Cond.selects RX11 yX11_from yX11_from ∈ wT := wi_t 608 (by decide +kernel) (by decide +kernel)
theorem q_839 : Cond.methodLink RL 72 yL_told ∈ wT := wi_t 839 (by decide +kernel) (by decide +kernel)
theorem q_841 : Cond.code yL_told cL_told 2 (some .int) ∈ wT := wi_t 841 (by decide +kernel) (by decide +kernel)
theorem q_840 : Cond.static yL_told ∈ wT := wi_t 840 (by decide +kernel) (by decide +kernel)
theorem q_533 : Cond.methodLink RL 104 yX11_ways ∈ wT := wi_t 533 (by decide +kernel) (by decide +kernel)
theorem q_536 : Cond.code yX11_ways cX11_ways 7 (some .int) ∈ wT := wi_t 536 (by decide +kernel) (by decide +kernel)
theorem q_534 : Cond.instanceMethod yX11_ways ∈ wT := wi_t 534 (by decide +kernel) (by decide +kernel)
theorem q_535 : Cond.selects RX11 yX11_ways yX11_ways ∈ wT := wi_t 535 (by decide +kernel) (by decide +kernel)
theorem q_555 : Cond.methodLink RL 85 yX11_sure ∈ wT := wi_t 555 (by decide +kernel) (by decide +kernel)
theorem q_558 : Cond.code yX11_sure cX11_sure 3 (some .int) ∈ wT := wi_t 558 (by decide +kernel) (by decide +kernel)
theorem q_556 : Cond.instanceMethod yX11_sure ∈ wT := wi_t 556 (by decide +kernel) (by decide +kernel)
theorem q_557 : Cond.selects RX11 yX11_sure yX11_sure ∈ wT := wi_t 557 (by decide +kernel) (by decide +kernel)
theorem q_578 : Cond.methodLink RL 88 yX11_mixed ∈ wT := wi_t 578 (by decide +kernel) (by decide +kernel)
theorem q_581 : Cond.code yX11_mixed cX11_mixed 7 (some .int) ∈ wT := wi_t 581 (by decide +kernel) (by decide +kernel)
theorem q_579 : Cond.instanceMethod yX11_mixed ∈ wT := wi_t 579 (by decide +kernel) (by decide +kernel)
theorem q_580 : Cond.selects RX11 yX11_mixed yX11_mixed ∈ wT := wi_t 580 (by decide +kernel) (by decide +kernel)
theorem q_520 : Cond.methodLink RL 79 yX11_fewest ∈ wT := wi_t 520 (by decide +kernel) (by decide +kernel)
theorem q_523 : Cond.code yX11_fewest cX11_fewest 5 (some .int) ∈ wT := wi_t 523 (by decide +kernel) (by decide +kernel)
theorem q_521 : Cond.instanceMethod yX11_fewest ∈ wT := wi_t 521 (by decide +kernel) (by decide +kernel)
theorem q_522 : Cond.selects RX11 yX11_fewest yX11_fewest ∈ wT := wi_t 522 (by decide +kernel) (by decide +kernel)
theorem q_921 : Cond.constantLong RL 99 12 ∈ wT := wi_t 921 (by decide +kernel) (by decide +kernel)
theorem q_596 : Cond.methodLink RL 101 yX11_mix ∈ wT := wi_t 596 (by decide +kernel) (by decide +kernel)
theorem q_599 : Cond.code yX11_mix cX11_mix 6 (some .int) ∈ wT := wi_t 599 (by decide +kernel) (by decide +kernel)
theorem q_597 : Cond.instanceMethod yX11_mix ∈ wT := wi_t 597 (by decide +kernel) (by decide +kernel)
theorem q_598 : Cond.selects RX11 yX11_mix yX11_mix ∈ wT := wi_t 598 (by decide +kernel) (by decide +kernel)
theorem q_570 : Cond.methodLink RL 82 yX11_safe ∈ wT := wi_t 570 (by decide +kernel) (by decide +kernel)
theorem q_573 : Cond.code yX11_safe cX11_safe 7 (some .int) ∈ wT := wi_t 573 (by decide +kernel) (by decide +kernel)
theorem q_571 : Cond.instanceMethod yX11_safe ∈ wT := wi_t 571 (by decide +kernel) (by decide +kernel)
theorem q_572 : Cond.selects RX11 yX11_safe yX11_safe ∈ wT := wi_t 572 (by decide +kernel) (by decide +kernel)
theorem q_360 : Cond.methodLink RL 69 yX11_at ∈ wT := wi_t 360 (by decide +kernel) (by decide +kernel)
theorem q_363 : Cond.code yX11_at cX11_at 4 (some .int) ∈ wT := wi_t 363 (by decide +kernel) (by decide +kernel)
theorem q_361 : Cond.instanceMethod yX11_at ∈ wT := wi_t 361 (by decide +kernel) (by decide +kernel)
theorem q_362 : Cond.selects RX11 yX11_at yX11_at ∈ wT := wi_t 362 (by decide +kernel) (by decide +kernel)
theorem q_780 : Cond.methodLink RL 63 yX11_keep ∈ wT := wi_t 780 (by decide +kernel) (by decide +kernel)
theorem q_783 : Cond.code yX11_keep cX11_keep 3 (some .int) ∈ wT := wi_t 783 (by decide +kernel) (by decide +kernel)
theorem q_781 : Cond.instanceMethod yX11_keep ∈ wT := wi_t 781 (by decide +kernel) (by decide +kernel)
theorem q_782 : Cond.selects RX11 yX11_keep yX11_keep ∈ wT := wi_t 782 (by decide +kernel) (by decide +kernel)
theorem kvX11_note : KV yX11_note RX11 cX11_note 4 (some .int) 2 := ⟨q_716, q_717, q_1, q_718, rfl, by decide +kernel, by decide +kernel, by decide +kernel⟩
theorem kvX11_rules : KV yX11_rules RX11 cX11_rules 2 (some .int) 0 := ⟨q_726, q_727, q_1, q_728, rfl, by decide +kernel, by decide +kernel, by decide +kernel⟩
theorem kvX11_who : KV yX11_who RX11 cX11_who 6 (some .int) 3 := ⟨q_462, q_463, q_1, q_464, rfl, by decide +kernel, by decide +kernel, by decide +kernel⟩
theorem kvX11_reply : KV yX11_reply RX11 cX11_reply 5 (some .int) 1 := ⟨q_765, q_766, q_1, q_767, rfl, by decide +kernel, by decide +kernel, by decide +kernel⟩
theorem kvX11_rule : KV yX11_rule RX11 cX11_rule 4 (some .int) 2 := ⟨q_684, q_685, q_1, q_686, rfl, by decide +kernel, by decide +kernel, by decide +kernel⟩
theorem kvX11_judge : KV yX11_judge RX11 cX11_judge 5 (some .int) 2 := ⟨q_393, q_394, q_1, q_395, rfl, by decide +kernel, by decide +kernel, by decide +kernel⟩
theorem kvX11_tell : KV yX11_tell RX11 cX11_tell 7 (some .int) 1 := ⟨q_772, q_773, q_1, q_774, rfl, by decide +kernel, by decide +kernel, by decide +kernel⟩
theorem kvX11_on : KV yX11_on RX11 cX11_on 3 (some .int) 1 := ⟨q_797, q_798, q_1, q_799, rfl, by decide +kernel, by decide +kernel, by decide +kernel⟩
theorem kvX11_count : KV yX11_count RX11 cX11_count 2 (some .int) 1 := ⟨q_813, q_814, q_1, q_815, rfl, by decide +kernel, by decide +kernel, by decide +kernel⟩
theorem kvX11_lender : KV yX11_lender RX11 cX11_lender 4 (some .int) 2 := ⟨q_650, q_651, q_1, q_652, rfl, by decide +kernel, by decide +kernel, by decide +kernel⟩
theorem kvL_laying : KS yL_laying cL_laying 10 (some .boolean) 6 := ⟨q_911, q_0, q_912, by decide +kernel, by decide +kernel, by decide +kernel⟩
theorem kvX11_when : KV yX11_when RX11 cX11_when 6 (some .int) 1 := ⟨q_680, q_681, q_1, q_682, rfl, by decide +kernel, by decide +kernel, by decide +kernel⟩
theorem kvX11_damp : KV yX11_damp RX11 cX11_damp 3 (some .int) 1 := ⟨q_385, q_386, q_1, q_387, rfl, by decide +kernel, by decide +kernel, by decide +kernel⟩
theorem kvX11_best : KV yX11_best RX11 cX11_best 5 (some .int) 2 := ⟨q_467, q_468, q_1, q_469, rfl, by decide +kernel, by decide +kernel, by decide +kernel⟩
theorem kvX11_adds : KV yX11_adds RX11 cX11_adds 6 (some .int) 2 := ⟨q_666, q_667, q_1, q_668, rfl, by decide +kernel, by decide +kernel, by decide +kernel⟩
theorem kvX11_lower : KV yX11_lower RX11 cX11_lower 1 (some .long) 0 := ⟨q_809, q_810, q_1, q_811, rfl, by decide +kernel, by decide +kernel, by decide +kernel⟩
theorem kvX11_upper : KV yX11_upper RX11 cX11_upper 1 (some .long) 0 := ⟨q_805, q_806, q_1, q_807, rfl, by decide +kernel, by decide +kernel, by decide +kernel⟩
theorem kvX11_lend : KV yX11_lend RX11 cX11_lend 4 (some .int) 2 := ⟨q_654, q_655, q_1, q_656, rfl, by decide +kernel, by decide +kernel, by decide +kernel⟩
theorem kvX11_from : KV yX11_from RX11 cX11_from 4 (some .int) 3 := ⟨q_607, q_608, q_1, q_609, rfl, by decide +kernel, by decide +kernel, by decide +kernel⟩
theorem kvL_told : KS yL_told cL_told 2 (some .int) 2 := ⟨q_840, q_0, q_841, by decide +kernel, by decide +kernel, by decide +kernel⟩
theorem kvX11_ways : KV yX11_ways RX11 cX11_ways 7 (some .int) 2 := ⟨q_534, q_535, q_1, q_536, rfl, by decide +kernel, by decide +kernel, by decide +kernel⟩
theorem kvX11_sure : KV yX11_sure RX11 cX11_sure 3 (some .int) 1 := ⟨q_556, q_557, q_1, q_558, rfl, by decide +kernel, by decide +kernel, by decide +kernel⟩
theorem kvX11_mixed : KV yX11_mixed RX11 cX11_mixed 7 (some .int) 4 := ⟨q_579, q_580, q_1, q_581, rfl, by decide +kernel, by decide +kernel, by decide +kernel⟩
theorem kvX11_fewest : KV yX11_fewest RX11 cX11_fewest 5 (some .int) 2 := ⟨q_521, q_522, q_1, q_523, rfl, by decide +kernel, by decide +kernel, by decide +kernel⟩
theorem kvX11_mix : KV yX11_mix RX11 cX11_mix 6 (some .int) 2 := ⟨q_597, q_598, q_1, q_599, rfl, by decide +kernel, by decide +kernel, by decide +kernel⟩
theorem kvX11_safe : KV yX11_safe RX11 cX11_safe 7 (some .int) 1 := ⟨q_571, q_572, q_1, q_573, rfl, by decide +kernel, by decide +kernel, by decide +kernel⟩
theorem kvX11_at : KV yX11_at RX11 cX11_at 4 (some .int) 2 := ⟨q_361, q_362, q_1, q_363, rfl, by decide +kernel, by decide +kernel, by decide +kernel⟩
theorem kvX11_keep : KV yX11_keep RX11 cX11_keep 3 (some .int) 1 := ⟨q_781, q_782, q_1, q_783, rfl, by decide +kernel, by decide +kernel, by decide +kernel⟩
/-! law -/
def fL_law_1123 (N L : Nat) (xs : Nat → Int32) (k1048 : Nat → Int32 → Nat → Nat → Int32 → Int32 → Mm → Option (Int32 × Mm)) (k1096 : Nat → Int32 → Nat → Nat → Int32 → Int32 → Int32 → Int32 → Mm → Option (Int32 × Mm)) (a1 : Nat) (a2 : Int32) (a3 : Nat) (a4 : Nat) (a25 : Int32) (a26 : Int32) (a28 : Int32) (s0 : Int32) (s1 : Int32) (mm : Mm) : Option (Int32 × Mm) :=
  k1096 a1 a2 a3 a4 a25 a26 (s0 ||| s1) (a28 + 1) mm
def fL_law_1096 (N L : Nat) (xs : Nat → Int32) (k1048 : Nat → Int32 → Nat → Nat → Int32 → Int32 → Mm → Option (Int32 × Mm)) : Nat → Nat → Int32 → Nat → Nat → Int32 → Int32 → Int32 → Int32 → Mm → Option (Int32 × Mm)
  | 0 => fun _ _ _ _ _ _ _ _ _ => none
  | n + 1 => fun a1 a2 a3 a4 a25 a26 a27 a28 mm =>
    let k1096 := fL_law_1096 N L xs k1048 n
    if a2 ≤ a28 then (bd2 (fX11_note N a1 0 a27 mm) fun x2 m3 => if x2 = a26 then (bd2 (fX11_rules N a1 m3) fun x6 m7 => if ((x6 >>> (a25 &&& 31)) &&& 1) = 1 then (k1048 a1 a2 a3 a4 a25 (a26 + 1) m7) else (some (0, m7))) else (some (0, m3))) else (bd2 (fX11_who N a1 0 1 a28 mm) fun x10 m11 => if x10 = 0 then (fL_law_1123 N L xs k1048 k1096 a1 a2 a3 a4 a25 a26 a28 a27 ((1 : Int32) <<< (a28 &&& 31)) m11) else (fL_law_1123 N L xs k1048 k1096 a1 a2 a3 a4 a25 a26 a28 a27 0 m11))
def fL_law_1048 (N L : Nat) (xs : Nat → Int32)  : Nat → Nat → Int32 → Nat → Nat → Int32 → Int32 → Mm → Option (Int32 × Mm)
  | 0 => fun _ _ _ _ _ _ _ => none
  | n + 1 => fun a1 a2 a3 a4 a25 a26 mm =>
    let k1048 := fL_law_1048 N L xs  n
    if (3 : Int32) ≤ a26 then (bd2 (fX11_reply N a1 2 mm) fun x15 m16 => bd2 (fX11_asked N a1 m16) fun x18 m19 => if x15 < 0 then (some (0, m19)) else (if a25 < x18 then (some (0, m19)) else (bd2 (fX11_rule N a1 x18 1 m19) fun x23 m24 => if x23 < 0 then (some (0, m24)) else (bd2 (fX11_judge N a1 2 1 m24) fun x27 m28 => if x27 = x15 then (bd2 (fX11_tell N a1 2 m28) fun x31 m32 => if x31 < 1 then (some (0, m32)) else (if (6 : Int32) < x31 then (some (0, m32)) else (bd2 (fX11_on N a1 0 m32) fun x36 m37 => if x36 = 0 then (bd2 (fX11_count N a1 4 m37) fun x40 m41 => if x40 = 0 then (bd2 (fX11_lender N a1 0 0 m41) fun x44 m45 => if x44 = 0 then (some (1, m45)) else (some (0, m45))) else (some (0, m41))) else (some (0, m37))))) else (some (0, m28)))))) else (bd2 (fX11_rule N a1 a25 1 mm) fun x48 m49 => if x48 < 0 then (some (0, m49)) else (gd (inb 18 (ln a3)) <| bd2 (fL_cell N L xs (24 + a26) m49) fun x53 m54 => bd2 (fL_laying N a1 0 a2 (rd m49 a3 ((18 : Int32).toNatClampNeg)) x53 a4 m54) fun x56 m57 => if x56 = 0 then (some (0, m57)) else (fL_law_1096 N L xs k1048 N a1 a2 a3 a4 a25 a26 0 0 m57)))
def fL_law_886 (N L : Nat) (xs : Nat → Int32)  : Nat → Nat → Int32 → Nat → Nat → Int32 → Int32 → Int64 → Int32 → Mm → Option (Int32 × Mm)
  | 0 => fun _ _ _ _ _ _ _ _ _ => none
  | n + 1 => fun a1 a2 a3 a4 a7 a18 a20 a22 mm =>
    let k886 := fL_law_886 N L xs  n
    if (4 : Int32) ≤ a22 then (if (lg_cmp a20 (24 * a18.toInt64)) = 0 then (bd2 (fX11_when N a1 1 mm) fun x62 m63 => bd2 (fX11_asked N a1 m63) fun x65 m66 => bd2 (fX11_damp N a1 x62 m66) fun x68 m69 => if x62 < 0 then (some (0, m69)) else (if (9 : Int32) < x62 then (some (0, m69)) else (if x65 < a7 then (some (0, m69)) else (bd2 (fX11_best N a1 1 2 m69) fun x74 m75 => if x74 = x65 then (bd2 (fX11_damp N a1 x68 m75) fun x78 m79 => if x78 = x62 then (bd2 (fX11_best N a1 1 2 m79) fun x82 m83 => if x82 = a7 then (bd2 (fL_cell N L xs 23 m83) fun x86 m87 => bd2 (fL_low N x86 6 m87) fun x89 m90 => fL_law_1048 N L xs N a1 a2 a3 a4 x89 0 m90) else (some (0, m83))) else (some (0, m79))) else (some (0, m75)))))) else (some (0, mm))) else (bd2 (fX11_adds N a1 a22 1 mm) fun x92 m93 => if x92 = 1 then (bd2 (fX11_lower N a1 m93) fun x96 m97 => gd (nzL x96) <| if (lg_cmp (24 - 24 / x96 * x96) 0) = 0 then (bd2 (fX11_upper N a1 m97) fun x101 m102 => bd2 (fX11_lower N a1 m102) fun x104 m105 => gd (nzL x104) <| k886 a1 a2 a3 a4 a7 a18 (a20 + (x101 * (24 / x104))) (a22 + 1) m105) else (some (0, m97))) else (some (0, m93)))
def fL_law_784 (N L : Nat) (xs : Nat → Int32)  : Nat → Nat → Int32 → Nat → Nat → Int32 → Int32 → Int32 → Mm → Option (Int32 × Mm)
  | 0 => fun _ _ _ _ _ _ _ _ => none
  | n + 1 => fun a1 a2 a3 a4 a6 a7 a18 mm =>
    let k784 := fL_law_784 N L xs  n
    if (4 : Int32) ≤ a18 then (bd2 (fX11_lend N a1 15 1 mm) fun x109 m110 => bd2 (fL_cell N L xs 22 m110) fun x112 m113 => bd2 (fL_low N x112 16 m113) fun x115 m116 => bd2 (fX11_lend N a1 x115 1 m116) fun x118 m119 => if x118 < 0 then (some (0, m119)) else (if x109 < x118 then (some (0, m119)) else (if (2 * a6) < x109 then (some (0, m119)) else (bd2 (fX11_lend N a1 0 1 m119) fun x124 m125 => if x124 = 0 then (fL_law_886 N L xs N a1 a2 a3 a4 a7 x109 0 0 m125) else (some (0, m125)))))) else (bd2 (fL_cell N L xs (18 + a18) mm) fun x128 m129 => bd2 (fL_low N x128 6 m129) fun x131 m132 => bd2 (fX11_lender N a1 a18 x131 m132) fun x134 m135 => if x134 = 0 then (k784 a1 a2 a3 a4 a6 a7 (a18 + 1) m135) else (some (0, m135)))
def fL_law_781 (N L : Nat) (xs : Nat → Int32)  (a1 : Nat) (a2 : Int32) (a3 : Nat) (a4 : Nat) (a6 : Int32) (a7 : Int32) (mm : Mm) : Option (Int32 × Mm) :=
  fL_law_784 N L xs N a1 a2 a3 a4 a6 a7 0 mm
def fL_law_658 (N L : Nat) (xs : Nat → Int32) (k622 : Nat → Int32 → Nat → Nat → Int32 → Int32 → Int32 → Int32 → Mm → Option (Int32 × Mm)) (a1 : Nat) (a2 : Int32) (a3 : Nat) (a4 : Nat) (a6 : Int32) (a7 : Int32) (a14 : Int32) (s0 : Int32) (mm : Mm) : Option (Int32 × Mm) :=
  k622 a1 a2 a3 a4 a6 a7 s0 (a14 + 1) mm
def fL_law_657 (N L : Nat) (xs : Nat → Int32) (k622 : Nat → Int32 → Nat → Nat → Int32 → Int32 → Int32 → Int32 → Mm → Option (Int32 × Mm)) (a1 : Nat) (a2 : Int32) (a3 : Nat) (a4 : Nat) (a6 : Int32) (a7 : Int32) (a14 : Int32) (mm : Mm) : Option (Int32 × Mm) :=
  fL_law_658 N L xs k622 a1 a2 a3 a4 a6 a7 a14 0 mm
def fL_law_622 (N L : Nat) (xs : Nat → Int32)  : Nat → Nat → Int32 → Nat → Nat → Int32 → Int32 → Int32 → Int32 → Mm → Option (Int32 × Mm)
  | 0 => fun _ _ _ _ _ _ _ _ _ => none
  | n + 1 => fun a1 a2 a3 a4 a6 a7 a13 a14 mm =>
    let k622 := fL_law_622 N L xs  n
    if a2 ≤ a14 then (bd2 (fL_cell N L xs 17 mm) fun x139 m140 => bd2 (fL_low N x139 8 m140) fun x142 m143 => bd2 (fL_cell N L xs 17 m143) fun x145 m146 => bd2 (fL_low N (x145 >>> ((4 : Int32) &&& 31)) 8 m146) fun x148 m149 => bd2 (fX11_from N a1 0 x142 x148 m149) fun x151 m152 => bd2 (fL_told N a1 x151 m152) fun x154 m155 => bd2 (fX11_from N a1 0 (x142 + 1) x148 m155) fun x157 m158 => bd2 (fL_told N a1 x157 m158) fun x160 m161 => if x154 < ((-2) * a6) then (some (0, m161)) else (if (2 * a6) < x154 then (some (0, m161)) else (if x154 ≤ x160 then (if a13 = 0 then (fL_law_781 N L xs a1 a2 a3 a4 a6 a7 m161) else (bd2 (fX11_from N a1 0 x142 (x148 + 1) m161) fun x167 m168 => bd2 (fL_told N a1 x167 m168) fun x170 m171 => if x170 ≤ x154 then (fL_law_781 N L xs a1 a2 a3 a4 a6 a7 m171) else (some (0, m171)))) else (some (0, m161))))) else (if a13 = 0 then (fL_law_657 N L xs k622 a1 a2 a3 a4 a6 a7 a14 mm) else (gd (inb (3 * a14) (ln a3)) <| if (rd mm a3 ((3 * a14).toNatClampNeg)) = 2 then (fL_law_657 N L xs k622 a1 a2 a3 a4 a6 a7 a14 mm) else (gd (inb (3 * a14) (ln a3)) <| if (rd mm a3 ((3 * a14).toNatClampNeg)) = 4 then (fL_law_657 N L xs k622 a1 a2 a3 a4 a6 a7 a14 mm) else (fL_law_658 N L xs k622 a1 a2 a3 a4 a6 a7 a14 1 mm))))
def fL_law_611 (N L : Nat) (xs : Nat → Int32)  (a1 : Nat) (a2 : Int32) (a3 : Nat) (a4 : Nat) (a6 : Int32) (a7 : Int32) (s0 : Int32) (s1 : Int32) (mm : Mm) : Option (Int32 × Mm) :=
  if s0 = s1 then (fL_law_622 N L xs N a1 a2 a3 a4 a6 a7 1 0 mm) else (some (0, mm))
def fL_law_599 (N L : Nat) (xs : Nat → Int32)  (a1 : Nat) (a2 : Int32) (a3 : Nat) (a4 : Nat) (a6 : Int32) (a7 : Int32) (a11 : Int32) (s0 : Int32) (mm : Mm) : Option (Int32 × Mm) :=
  if a7 < a11 then (fL_law_611 N L xs a1 a2 a3 a4 a6 a7 s0 0 mm) else (fL_law_611 N L xs a1 a2 a3 a4 a6 a7 s0 1 mm)
def fL_law_253 (N L : Nat) (xs : Nat → Int32)  : Nat → Nat → Int32 → Nat → Nat → Int32 → Int32 → Int32 → Int32 → Mm → Option (Int32 × Mm)
  | 0 => fun _ _ _ _ _ _ _ _ _ => none
  | n + 1 => fun a1 a2 a3 a4 a6 a7 a10 a11 mm =>
    let k253 := fL_law_253 N L xs  n
    if (4 : Int32) ≤ a11 then (bd2 (fL_cell N L xs 16 mm) fun x182 m183 => bd2 (fL_low N x182 40 m183) fun x185 m186 => bd2 (fX11_ways N a1 1 x185 m186) fun x188 m189 => bd2 (fX11_ways N a1 1 (x185 + 1) m189) fun x191 m192 => if x188 < x191 then (some (0, m192)) else (if x188 ≤ 0 then (fL_law_599 N L xs a1 a2 a3 a4 a6 a7 x185 0 m192) else (fL_law_599 N L xs a1 a2 a3 a4 a6 a7 x185 1 m192))) else (gd (inb 18 (ln a3)) <| bd2 (fL_cell N L xs (8 + a11) mm) fun x197 m198 => bd2 (fL_laying N a1 0 a2 (rd mm a3 ((18 : Int32).toNatClampNeg)) x197 a4 m198) fun x200 m201 => if x200 = 0 then (some (0, m201)) else (bd2 (fX11_judge N a1 0 1 m201) fun x204 m205 => if x204 < 0 then (some (0, m205)) else (bd2 (fX11_asked N a1 m205) fun x208 m209 => if (x208 + x204) = (2 * a6) then (if x204 ≤ a7 then (bd2 (fX11_sure N a1 0 m209) fun x213 m214 => if x213 < 0 then (some (0, m214)) else (if x204 < x213 then (some (0, m214)) else (if a10 < x213 then (some (0, m214)) else (bd2 (fX11_mixed N a1 0 0 a11 4 m214) fun x219 m220 => if x219 = 1 then (bd2 (fX11_upper N a1 m220) fun x223 m224 => if (lg_cmp x223 x213.toInt64) = 0 then (bd2 (fX11_lower N a1 m224) fun x227 m228 => if (lg_cmp x227 1) = 0 then (bd2 (fX11_fewest N a1 1 x204 m228) fun x231 m232 => if (0 : Int32) ≤ x231 then (bd2 (fL_cell N L xs (12 + a11) m232) fun x235 m236 => bd2 (fL_low N x235 13 m236) fun x238 m239 => bd2 (fX11_sure N a1 3 m239) fun x241 m242 => bd2 (fX11_mixed N a1 0 3 x238 12 m242) fun x244 m245 => if x244 = 1 then (bd2 (fX11_upper N a1 m245) fun x248 m249 => bd2 (fX11_lower N a1 m249) fun x251 m252 => if (0 : Int32) ≤ (lg_cmp (x248 * 12) (x251 * (((x238 * x213) + ((12 - x238) * x241)).toInt64))) then (bd2 (fX11_upper N a1 m252) fun x255 m256 => bd2 (fX11_lower N a1 m256) fun x258 m259 => bd2 (fX11_mix N a1 0 3 m259) fun x261 m262 => if x261 < 0 then (some (0, m262)) else (if (12 : Int32) < x261 then (some (0, m262)) else (bd2 (fX11_upper N a1 m262) fun x266 m267 => bd2 (fX11_lower N a1 m267) fun x269 m270 => if (lg_cmp (x266 * x258) (x255 * x269)) < 0 then (some (0, m270)) else (bd2 (fX11_upper N a1 m270) fun x273 m274 => bd2 (fX11_lower N a1 m274) fun x276 m277 => if (lg_cmp x273 (x213.toInt64 * x276)) < 0 then (some (0, m277)) else (bd2 (fX11_upper N a1 m277) fun x280 m281 => bd2 (fX11_lower N a1 m281) fun x283 m284 => if (0 : Int32) ≤ (lg_cmp x280 (x241.toInt64 * x283)) then (k253 a1 a2 a3 a4 a6 a7 a10 (a11 + 1) m284) else (some (0, m284))))))) else (some (0, m252))) else (some (0, m245))) else (some (0, m232))) else (some (0, m228))) else (some (0, m224))) else (some (0, m220)))))) else (some (0, m209))) else (some (0, m209)))))
def fL_law_127 (N L : Nat) (xs : Nat → Int32)  : Nat → Nat → Int32 → Nat → Nat → Int32 → Int32 → Int32 → Int32 → Int32 → Mm → Option (Int32 × Mm)
  | 0 => fun _ _ _ _ _ _ _ _ _ _ => none
  | n + 1 => fun a1 a2 a3 a4 a6 a7 a8 a9 a10 mm =>
    let k127 := fL_law_127 N L xs  n
    if a2 ≤ a10 then (if a9 = a8 then (gd (inb 18 (ln a3)) <| if (rd mm a3 ((18 : Int32).toNatClampNeg)) < a9 then (some (0, mm)) else (bd2 (fX11_judge N a1 2 1 mm) fun x291 m292 => if x291 = a7 then (bd2 (fX11_asked N a1 m292) fun x295 m296 => if x295 = ((2 * a6) - a7) then (bd2 (fX11_fewest N a1 1 a7 m296) fun x299 m300 => if x299 = a8 then (bd2 (fX11_asked N a1 m300) fun x303 m304 => if x303 = a7 then (bd2 (fX11_safe N a1 3 m304) fun x307 m308 => if x307 < 0 then (some (0, m308)) else (if a7 < x307 then (some (0, m308)) else (bd2 (fX11_sure N a1 3 m308) fun x312 m313 => if x312 = x307 then (fL_law_253 N L xs N a1 a2 a3 a4 a6 a7 x307 0 m313) else (some (0, m313))))) else (some (0, m304))) else (some (0, m300))) else (some (0, m296))) else (some (0, m292)))) else (some (0, mm))) else (bd2 (fX11_at N a1 2 a10 mm) fun x316 m317 => bd2 (fL_told N a1 x316 m317) fun x319 m320 => k127 a1 a2 a3 a4 a6 a7 a8 (a9 + x319) (a10 + 1) m320)
def fL_law_69 (N L : Nat) (xs : Nat → Int32)  (a1 : Nat) (a2 : Int32) (a3 : Nat) (a4 : Nat) (a5 : Nat) (mm : Mm) : Option (Int32 × Mm) :=
  bd2 (fX11_count N a1 1 mm) fun x322 m323 => gd (inb 19 (ln a3)) <| bd2 (fL_cell N L xs 7 m323) fun x326 m327 => bd2 (fL_laying N a1 1 a2 (rd m323 a3 ((19 : Int32).toNatClampNeg)) x326 a5 m327) fun x329 m330 => if x329 = 0 then (some (0, m330)) else (bd2 (fX11_keep N a1 0 m330) fun x333 m334 => if x333 = 0 then (bd2 (fX11_best N a1 1 2 m334) fun x337 m338 => bd2 (fX11_asked N a1 m338) fun x340 m341 => fL_law_127 N L xs N a1 a2 a3 a4 x322 x337 x340 0 0 m341) else (some (0, m334)))
section W_ll
variable {p : Program} {l : Launch} {e : Env} {s : State} {m : MethodId} {args : Array Value} {below : List Frame} {meth : Method} {c : Code} {D : va_G} {ca ad : Nat → Nat} {b L : Nat} {xs : Nat → Int32}
set_option maxRecDepth 100000 in
set_option maxHeartbeats 4000000 in
theorem wL_law_1123 (hge : ∀ k, k < ad 1000 → s.heap.size ≤ ad k) (CS : CxS p s m meth c #[Value.ref b] code 29 ret RL D ca ad b L xs) {res : Int32 × Mm} (hres : res.1 = 1) {N : Nat} {k1048 : Nat → Int32 → Nat → Nat → Int32 → Int32 → Mm → Option (Int32 × Mm)} {k1096 : Nat → Int32 → Nat → Nat → Int32 → Int32 → Int32 → Int32 → Mm → Option (Int32 × Mm)} (hk1048 : ∀ (a1 : Nat) (a2 : Int32) (a3 : Nat) (a4 : Nat) (a25 : Int32) (a26 : Int32) (mm : Mm) (H : Heap) (locs : List Loc) (ls : Array Slot), (sX11 a1) → (sJ ad a3) → (sJ ad a4) → Wd D ca ad s.heap mm H locs → lv_has ls 29 [(1, .ref (ad a1)), (2, .int a2), (3, .ref (ad a3)), (4, .ref (ad a4)), (25, .int a25), (26, .int a26), (0, .ref b)] → k1048 a1 a2 a3 a4 a25 a26 mm = some res → W p l e room_1 s m #[Value.ref b] below meth c H locs 179 3665 (lw_Z below #[Value.ref b] s) (F0 m 1048 ls [])) (hk1096 : ∀ (a1 : Nat) (a2 : Int32) (a3 : Nat) (a4 : Nat) (a25 : Int32) (a26 : Int32) (a27 : Int32) (a28 : Int32) (mm : Mm) (H : Heap) (locs : List Loc) (ls : Array Slot), (sX11 a1) → (sJ ad a3) → (sJ ad a4) → Wd D ca ad s.heap mm H locs → lv_has ls 29 [(1, .ref (ad a1)), (2, .int a2), (3, .ref (ad a3)), (4, .ref (ad a4)), (25, .int a25), (26, .int a26), (27, .int a27), (28, .int a28), (0, .ref b)] → k1096 a1 a2 a3 a4 a25 a26 a27 a28 mm = some res → W p l e room_1 s m #[Value.ref b] below meth c H locs 179 3665 (lw_Z below #[Value.ref b] s) (F0 m 1096 ls [])) {a1 : Nat} {a2 : Int32} {a3 : Nat} {a4 : Nat} {a25 : Int32} {a26 : Int32} {a28 : Int32} {s0 : Int32} {s1 : Int32} {mm : Mm} {H : Heap} {locs : List Loc} {ls : Array Slot} (ha1 : sX11 a1) (ha3 : sJ ad a3) (ha4 : sJ ad a4) (hW : Wd D ca ad s.heap mm H locs) (hl : lv_has ls 29 [(1, .ref (ad a1)), (2, .int a2), (3, .ref (ad a3)), (4, .ref (ad a4)), (25, .int a25), (26, .int a26), (28, .int a28), (0, .ref b)]) (hf : fL_law_1123 N L xs k1048 k1096 a1 a2 a3 a4 a25 a26 a28 s0 s1 mm = some res) : W p l e room_1 s m #[Value.ref b] below meth c H locs 179 3665 (lw_Z below #[Value.ref b] s) (F0 m 1123 ls [.int s1, .int s0]) := by
  have C := CS.1
  unfold fL_law_1123 at hf
  refine lv_ior C.1 C.2.1 dL_law_1123 ?_
  refine lv_istore (lv' := [(27, .int (s0 ||| s1)), (1, .ref (ad a1)), (2, .int a2), (3, .ref (ad a3)), (4, .ref (ad a4)), (25, .int a25), (26, .int a26), (28, .int a28), (0, .ref b)]) C.1 C.2.1 dL_law_1124 hl (by decide) rfl (fun ls hl => ?_)
  refine lv_iinc (v := (a28 + 1)) (lv' := [(28, .int (a28 + 1)), (27, .int (s0 ||| s1)), (1, .ref (ad a1)), (2, .int a2), (3, .ref (ad a3)), (4, .ref (ad a4)), (25, .int a25), (26, .int a26), (0, .ref b)]) C.1 C.2.1 dL_law_1126 hl (k := 7) rfl rfl (by decide) rfl (fun ls hl => ?_)
  refine lv_goto (tgt := 1096) C.1 C.2.1 dL_law_1129 (by decide) ?_
  exact hk1096 _ _ _ _ _ _ _ _ _ _ _ _ ha1 ha3 ha4 hW (lv_sub hl [2, 3, 4, 5, 6, 7, 1, 0, 8] rfl) hf
set_option maxRecDepth 100000 in
set_option maxHeartbeats 4000000 in
theorem wL_law_1096 (hge : ∀ k, k < ad 1000 → s.heap.size ≤ ad k) (CS : CxS p s m meth c #[Value.ref b] code 29 ret RL D ca ad b L xs) {res : Int32 × Mm} (hres : res.1 = 1) {N : Nat} {k1048 : Nat → Int32 → Nat → Nat → Int32 → Int32 → Mm → Option (Int32 × Mm)} (hk1048 : ∀ (a1 : Nat) (a2 : Int32) (a3 : Nat) (a4 : Nat) (a25 : Int32) (a26 : Int32) (mm : Mm) (H : Heap) (locs : List Loc) (ls : Array Slot), (sX11 a1) → (sJ ad a3) → (sJ ad a4) → Wd D ca ad s.heap mm H locs → lv_has ls 29 [(1, .ref (ad a1)), (2, .int a2), (3, .ref (ad a3)), (4, .ref (ad a4)), (25, .int a25), (26, .int a26), (0, .ref b)] → k1048 a1 a2 a3 a4 a25 a26 mm = some res → W p l e room_1 s m #[Value.ref b] below meth c H locs 179 3665 (lw_Z below #[Value.ref b] s) (F0 m 1048 ls [])) : ∀ (n : Nat) {a1 : Nat} {a2 : Int32} {a3 : Nat} {a4 : Nat} {a25 : Int32} {a26 : Int32} {a27 : Int32} {a28 : Int32} {mm : Mm} {H : Heap} {locs : List Loc} {ls : Array Slot}, (sX11 a1) → (sJ ad a3) → (sJ ad a4) → Wd D ca ad s.heap mm H locs → lv_has ls 29 [(1, .ref (ad a1)), (2, .int a2), (3, .ref (ad a3)), (4, .ref (ad a4)), (25, .int a25), (26, .int a26), (27, .int a27), (28, .int a28), (0, .ref b)] → fL_law_1096 N L xs k1048 n a1 a2 a3 a4 a25 a26 a27 a28 mm = some res → W p l e room_1 s m #[Value.ref b] below meth c H locs 179 3665 (lw_Z below #[Value.ref b] s) (F0 m 1096 ls []) := by
  have C := CS.1
  intro n
  induction n with
  | zero => intro a1 a2 a3 a4 a25 a26 a27 a28 mm H locs ls ha1 ha3 ha4 hW hl hf; cases hf
  | succ n ih =>
    intro a1 a2 a3 a4 a25 a26 a27 a28 mm H locs ls ha1 ha3 ha4 hW hl hf
    have hk1096 : ∀ (a1 : Nat) (a2 : Int32) (a3 : Nat) (a4 : Nat) (a25 : Int32) (a26 : Int32) (a27 : Int32) (a28 : Int32) (mm : Mm) (H : Heap) (locs : List Loc) (ls : Array Slot), (sX11 a1) → (sJ ad a3) → (sJ ad a4) → Wd D ca ad s.heap mm H locs → lv_has ls 29 [(1, .ref (ad a1)), (2, .int a2), (3, .ref (ad a3)), (4, .ref (ad a4)), (25, .int a25), (26, .int a26), (27, .int a27), (28, .int a28), (0, .ref b)] → (fL_law_1096 N L xs k1048 n) a1 a2 a3 a4 a25 a26 a27 a28 mm = some res → W p l e room_1 s m #[Value.ref b] below meth c H locs 179 3665 (lw_Z below #[Value.ref b] s) (F0 m 1096 ls []) := fun a1 a2 a3 a4 a25 a26 a27 a28 mm H locs ls ha1 ha3 ha4 hW hl hf => ih ha1 ha3 ha4 hW hl hf
    unfold fL_law_1096 at hf
    try dsimp only at hf
    refine lv_iload C.1 C.2.1 dL_law_1096 (lv_at hl 7 rfl) ?_
    refine lv_iload_n C.1 C.2.1 dL_law_1098 rfl (lv_at hl 1 rfl) ?_
    refine lv_icmp_ge (tgt := 1132) C.1 C.2.1 dL_law_1099 (by decide) (fun c1 => ?_) (fun c1 => ?_)
    · have hf := if_t c1 hf
      refine lv_aload_n C.1 C.2.1 dL_law_1132 rfl (lv_at hl 0 rfl) ?_
      refine lv_iconst (v := 0) C.1 C.2.1 dL_law_1133 (by decide) ?_
      refine lv_iload C.1 C.2.1 dL_law_1134 (lv_at hl 6 rfl) ?_
      obtain ⟨x2, m3, r4, hf⟩ := bd2_s hf
      refine z_ci hW (z_runV C hW [.int 0, .int a27] [] (ha1).1 (ha1).2.1 kX11.1 kvX11_note q_715 (tX11_note l C.2.2.2.2.2.2.1 ha1 r4) rfl rfl ⟨by decide, by decide⟩ rfl hl.1 rfl (Nat.le_of_ble_eq_true rfl) dL_law_1136 ⟨Nat.le_of_ble_eq_true rfl, Nat.le_of_ble_eq_true rfl⟩) (fun H locs hW => ?_)
      refine lv_iload C.1 C.2.1 dL_law_1139 (lv_at hl 5 rfl) ?_
      refine lv_icmp_ne (tgt := 1157) C.1 C.2.1 dL_law_1141 (by decide) (fun c5 => ?_) (fun c5 => ?_)
      · have hf := if_f c5 hf
        refine lv_iconst (v := 0) C.1 C.2.1 dL_law_1157 (by decide) ?_
        exact (lw_no hf hres).elim
      · have hf := if_t c5 hf
        refine lv_aload_n C.1 C.2.1 dL_law_1144 rfl (lv_at hl 0 rfl) ?_
        obtain ⟨x6, m7, r8, hf⟩ := bd2_s hf
        refine z_ci hW (z_runV C hW [] [] (ha1).1 (ha1).2.1 kX11.1 kvX11_rules q_725 (tX11_rules l C.2.2.2.2.2.2.1 ha1 r8) rfl rfl ⟨by decide, by decide⟩ rfl hl.1 rfl (Nat.le_of_ble_eq_true rfl) dL_law_1145 ⟨Nat.le_of_ble_eq_true rfl, Nat.le_of_ble_eq_true rfl⟩) (fun H locs hW => ?_)
        refine lv_iload C.1 C.2.1 dL_law_1148 (lv_at hl 4 rfl) ?_
        refine lv_ishr C.1 C.2.1 dL_law_1150 ?_
        refine lv_iconst (v := 1) C.1 C.2.1 dL_law_1151 (by decide) ?_
        refine lv_iand C.1 C.2.1 dL_law_1152 ?_
        refine lv_iconst (v := 1) C.1 C.2.1 dL_law_1153 (by decide) ?_
        refine lv_icmp_eq (tgt := 1159) C.1 C.2.1 dL_law_1154 (by decide) (fun c9 => ?_) (fun c9 => ?_)
        · have hf := if_t c9 hf
          refine lv_iinc (v := (a26 + 1)) (lv' := [(26, .int (a26 + 1)), (1, .ref (ad a1)), (2, .int a2), (3, .ref (ad a3)), (4, .ref (ad a4)), (25, .int a25), (27, .int a27), (28, .int a28), (0, .ref b)]) C.1 C.2.1 dL_law_1159 hl (k := 5) rfl rfl (by decide) rfl (fun ls hl => ?_)
          refine lv_goto (tgt := 1048) C.1 C.2.1 dL_law_1162 (by decide) ?_
          exact hk1048 _ _ _ _ _ _ _ _ _ _ ha1 ha3 ha4 hW (lv_sub hl [1, 2, 3, 4, 5, 0, 8] rfl) hf
        · have hf := if_f c9 hf
          refine lv_iconst (v := 0) C.1 C.2.1 dL_law_1157 (by decide) ?_
          exact (lw_no hf hres).elim
    · have hf := if_f c1 hf
      refine lv_iload C.1 C.2.1 dL_law_1102 (lv_at hl 6 rfl) ?_
      refine lv_aload_n C.1 C.2.1 dL_law_1104 rfl (lv_at hl 0 rfl) ?_
      refine lv_iconst (v := 0) C.1 C.2.1 dL_law_1105 (by decide) ?_
      refine lv_iconst (v := 1) C.1 C.2.1 dL_law_1106 (by decide) ?_
      refine lv_iload C.1 C.2.1 dL_law_1107 (lv_at hl 7 rfl) ?_
      obtain ⟨x10, m11, r12, hf⟩ := bd2_s hf
      refine z_ci hW (z_runV C hW [.int 0, .int 1, .int a28] [.int a27] (ha1).1 (ha1).2.1 kX11.1 kvX11_who q_461 (tX11_who l C.2.2.2.2.2.2.1 ha1 r12) rfl rfl ⟨by decide, by decide⟩ rfl hl.1 rfl (Nat.le_of_ble_eq_true rfl) dL_law_1109 ⟨Nat.le_of_ble_eq_true rfl, Nat.le_of_ble_eq_true rfl⟩) (fun H locs hW => ?_)
      refine lv_if_ne (tgt := 1122) C.1 C.2.1 dL_law_1112 (by decide) (fun c13 => ?_) (fun c13 => ?_)
      · have hf := if_f c13 hf
        refine lv_iconst (v := 0) C.1 C.2.1 dL_law_1122 (by decide) ?_
        exact wL_law_1123 hge CS hres hk1048 hk1096 ha1 ha3 ha4 hW (lv_sub hl [0, 1, 2, 3, 4, 5, 7, 8] rfl) hf
      · have hf := if_t c13 hf
        refine lv_iconst (v := 1) C.1 C.2.1 dL_law_1115 (by decide) ?_
        refine lv_iload C.1 C.2.1 dL_law_1116 (lv_at hl 7 rfl) ?_
        refine lv_ishl C.1 C.2.1 dL_law_1118 ?_
        refine lv_goto (tgt := 1123) C.1 C.2.1 dL_law_1119 (by decide) ?_
        exact wL_law_1123 hge CS hres hk1048 hk1096 ha1 ha3 ha4 hW (lv_sub hl [0, 1, 2, 3, 4, 5, 7, 8] rfl) hf
set_option maxRecDepth 100000 in
set_option maxHeartbeats 4000000 in
theorem wL_law_1048 (hge : ∀ k, k < ad 1000 → s.heap.size ≤ ad k) (CS : CxS p s m meth c #[Value.ref b] code 29 ret RL D ca ad b L xs) {res : Int32 × Mm} (hres : res.1 = 1) {N : Nat}  : ∀ (n : Nat) {a1 : Nat} {a2 : Int32} {a3 : Nat} {a4 : Nat} {a25 : Int32} {a26 : Int32} {mm : Mm} {H : Heap} {locs : List Loc} {ls : Array Slot}, (sX11 a1) → (sJ ad a3) → (sJ ad a4) → Wd D ca ad s.heap mm H locs → lv_has ls 29 [(1, .ref (ad a1)), (2, .int a2), (3, .ref (ad a3)), (4, .ref (ad a4)), (25, .int a25), (26, .int a26), (0, .ref b)] → fL_law_1048 N L xs n a1 a2 a3 a4 a25 a26 mm = some res → W p l e room_1 s m #[Value.ref b] below meth c H locs 179 3665 (lw_Z below #[Value.ref b] s) (F0 m 1048 ls []) := by
  have C := CS.1
  intro n
  induction n with
  | zero => intro a1 a2 a3 a4 a25 a26 mm H locs ls ha1 ha3 ha4 hW hl hf; cases hf
  | succ n ih =>
    intro a1 a2 a3 a4 a25 a26 mm H locs ls ha1 ha3 ha4 hW hl hf
    have hk1048 : ∀ (a1 : Nat) (a2 : Int32) (a3 : Nat) (a4 : Nat) (a25 : Int32) (a26 : Int32) (mm : Mm) (H : Heap) (locs : List Loc) (ls : Array Slot), (sX11 a1) → (sJ ad a3) → (sJ ad a4) → Wd D ca ad s.heap mm H locs → lv_has ls 29 [(1, .ref (ad a1)), (2, .int a2), (3, .ref (ad a3)), (4, .ref (ad a4)), (25, .int a25), (26, .int a26), (0, .ref b)] → (fL_law_1048 N L xs n) a1 a2 a3 a4 a25 a26 mm = some res → W p l e room_1 s m #[Value.ref b] below meth c H locs 179 3665 (lw_Z below #[Value.ref b] s) (F0 m 1048 ls []) := fun a1 a2 a3 a4 a25 a26 mm H locs ls ha1 ha3 ha4 hW hl hf => ih ha1 ha3 ha4 hW hl hf
    unfold fL_law_1048 at hf
    try dsimp only at hf
    refine lv_iload C.1 C.2.1 dL_law_1048 (lv_at hl 5 rfl) ?_
    refine lv_iconst (v := 3) C.1 C.2.1 dL_law_1050 (by decide) ?_
    refine lv_icmp_ge (tgt := 1165) C.1 C.2.1 dL_law_1051 (by decide) (fun c14 => ?_) (fun c14 => ?_)
    · have hf := if_t c14 hf
      refine lv_aload_n C.1 C.2.1 dL_law_1165 rfl (lv_at hl 0 rfl) ?_
      refine lv_iconst (v := 2) C.1 C.2.1 dL_law_1166 (by decide) ?_
      obtain ⟨x15, m16, r17, hf⟩ := bd2_s hf
      refine z_ci hW (z_runV C hW [.int 2] [] (ha1).1 (ha1).2.1 kX11.1 kvX11_reply q_764 (tX11_reply l C.2.2.2.2.2.2.1 ha1 r17) rfl rfl ⟨by decide, by decide⟩ rfl hl.1 rfl (Nat.le_of_ble_eq_true rfl) dL_law_1167 ⟨Nat.le_of_ble_eq_true rfl, Nat.le_of_ble_eq_true rfl⟩) (fun H locs hW => ?_)
      refine lv_istore (lv' := [(26, .int x15), (1, .ref (ad a1)), (2, .int a2), (3, .ref (ad a3)), (4, .ref (ad a4)), (25, .int a25), (0, .ref b)]) C.1 C.2.1 dL_law_1170 hl (by decide) rfl (fun ls hl => ?_)
      refine lv_aload_n C.1 C.2.1 dL_law_1172 rfl (lv_at hl 1 rfl) ?_
      obtain ⟨x18, m19, r20, hf⟩ := bd2_s hf
      refine z_ci hW (z_runV C hW [] [] (ha1).1 (ha1).2.1 kX11.1 kvX11_asked q_800 (tX11_asked l C.2.2.2.2.2.2.1 ha1 r20) rfl rfl ⟨by decide, by decide⟩ rfl hl.1 rfl (Nat.le_of_ble_eq_true rfl) dL_law_1173 ⟨Nat.le_of_ble_eq_true rfl, Nat.le_of_ble_eq_true rfl⟩) (fun H locs hW => ?_)
      refine lv_istore (lv' := [(27, .int x18), (26, .int x15), (1, .ref (ad a1)), (2, .int a2), (3, .ref (ad a3)), (4, .ref (ad a4)), (25, .int a25), (0, .ref b)]) C.1 C.2.1 dL_law_1176 hl (by decide) rfl (fun ls hl => ?_)
      refine lv_iload C.1 C.2.1 dL_law_1178 (lv_at hl 1 rfl) ?_
      refine lv_if_lt (tgt := 1211) C.1 C.2.1 dL_law_1180 (by decide) (fun c21 => ?_) (fun c21 => ?_)
      · have hf := if_t c21 hf
        refine lv_iconst (v := 0) C.1 C.2.1 dL_law_1211 (by decide) ?_
        exact (lw_no hf hres).elim
      · have hf := if_f c21 hf
        refine lv_iload C.1 C.2.1 dL_law_1183 (lv_at hl 0 rfl) ?_
        refine lv_iload C.1 C.2.1 dL_law_1185 (lv_at hl 6 rfl) ?_
        refine lv_icmp_gt (tgt := 1211) C.1 C.2.1 dL_law_1187 (by decide) (fun c22 => ?_) (fun c22 => ?_)
        · have hf := if_t c22 hf
          refine lv_iconst (v := 0) C.1 C.2.1 dL_law_1211 (by decide) ?_
          exact (lw_no hf hres).elim
        · have hf := if_f c22 hf
          refine lv_aload_n C.1 C.2.1 dL_law_1190 rfl (lv_at hl 2 rfl) ?_
          refine lv_iload C.1 C.2.1 dL_law_1191 (lv_at hl 0 rfl) ?_
          refine lv_iconst (v := 1) C.1 C.2.1 dL_law_1193 (by decide) ?_
          obtain ⟨x23, m24, r25, hf⟩ := bd2_s hf
          refine z_ci hW (z_runV C hW [.int x18, .int 1] [] (ha1).1 (ha1).2.1 kX11.1 kvX11_rule q_683 (tX11_rule l C.2.2.2.2.2.2.1 ha1 r25) rfl rfl ⟨by decide, by decide⟩ rfl hl.1 rfl (Nat.le_of_ble_eq_true rfl) dL_law_1194 ⟨Nat.le_of_ble_eq_true rfl, Nat.le_of_ble_eq_true rfl⟩) (fun H locs hW => ?_)
          refine lv_if_lt (tgt := 1211) C.1 C.2.1 dL_law_1197 (by decide) (fun c26 => ?_) (fun c26 => ?_)
          · have hf := if_t c26 hf
            refine lv_iconst (v := 0) C.1 C.2.1 dL_law_1211 (by decide) ?_
            exact (lw_no hf hres).elim
          · have hf := if_f c26 hf
            refine lv_aload_n C.1 C.2.1 dL_law_1200 rfl (lv_at hl 2 rfl) ?_
            refine lv_iconst (v := 2) C.1 C.2.1 dL_law_1201 (by decide) ?_
            refine lv_iconst (v := 1) C.1 C.2.1 dL_law_1202 (by decide) ?_
            obtain ⟨x27, m28, r29, hf⟩ := bd2_s hf
            refine z_ci hW (z_runV C hW [.int 2, .int 1] [] (ha1).1 (ha1).2.1 kX11.1 kvX11_judge q_392 (tX11_judge l C.2.2.2.2.2.2.1 ha1 r29) rfl rfl ⟨by decide, by decide⟩ rfl hl.1 rfl (Nat.le_of_ble_eq_true rfl) dL_law_1203 ⟨Nat.le_of_ble_eq_true rfl, Nat.le_of_ble_eq_true rfl⟩) (fun H locs hW => ?_)
            refine lv_iload C.1 C.2.1 dL_law_1206 (lv_at hl 1 rfl) ?_
            refine lv_icmp_eq (tgt := 1213) C.1 C.2.1 dL_law_1208 (by decide) (fun c30 => ?_) (fun c30 => ?_)
            · have hf := if_t c30 hf
              refine lv_aload_n C.1 C.2.1 dL_law_1213 rfl (lv_at hl 2 rfl) ?_
              refine lv_iconst (v := 2) C.1 C.2.1 dL_law_1214 (by decide) ?_
              obtain ⟨x31, m32, r33, hf⟩ := bd2_s hf
              refine z_ci hW (z_runV C hW [.int 2] [] (ha1).1 (ha1).2.1 kX11.1 kvX11_tell q_771 (tX11_tell l C.2.2.2.2.2.2.1 ha1 r33) rfl rfl ⟨by decide, by decide⟩ rfl hl.1 rfl (Nat.le_of_ble_eq_true rfl) dL_law_1215 ⟨Nat.le_of_ble_eq_true rfl, Nat.le_of_ble_eq_true rfl⟩) (fun H locs hW => ?_)
              refine lv_istore (lv' := [(28, .int x31), (27, .int x18), (26, .int x15), (1, .ref (ad a1)), (2, .int a2), (3, .ref (ad a3)), (4, .ref (ad a4)), (25, .int a25), (0, .ref b)]) C.1 C.2.1 dL_law_1218 hl (by decide) rfl (fun ls hl => ?_)
              refine lv_iload C.1 C.2.1 dL_law_1220 (lv_at hl 0 rfl) ?_
              refine lv_iconst (v := 1) C.1 C.2.1 dL_law_1222 (by decide) ?_
              refine lv_icmp_lt (tgt := 1262) C.1 C.2.1 dL_law_1223 (by decide) (fun c34 => ?_) (fun c34 => ?_)
              · have hf := if_t c34 hf
                refine lv_iconst (v := 0) C.1 C.2.1 dL_law_1262 (by decide) ?_
                exact (lw_no hf hres).elim
              · have hf := if_f c34 hf
                refine lv_iload C.1 C.2.1 dL_law_1226 (lv_at hl 0 rfl) ?_
                refine lv_bipush (v := 6) C.1 C.2.1 dL_law_1228 (by decide) ?_
                refine lv_icmp_gt (tgt := 1262) C.1 C.2.1 dL_law_1230 (by decide) (fun c35 => ?_) (fun c35 => ?_)
                · have hf := if_t c35 hf
                  refine lv_iconst (v := 0) C.1 C.2.1 dL_law_1262 (by decide) ?_
                  exact (lw_no hf hres).elim
                · have hf := if_f c35 hf
                  refine lv_aload_n C.1 C.2.1 dL_law_1233 rfl (lv_at hl 3 rfl) ?_
                  refine lv_iconst (v := 0) C.1 C.2.1 dL_law_1234 (by decide) ?_
                  obtain ⟨x36, m37, r38, hf⟩ := bd2_s hf
                  refine z_ci hW (z_runV C hW [.int 0] [] (ha1).1 (ha1).2.1 kX11.1 kvX11_on q_796 (tX11_on l C.2.2.2.2.2.2.1 ha1 r38) rfl rfl ⟨by decide, by decide⟩ rfl hl.1 rfl (Nat.le_of_ble_eq_true rfl) dL_law_1235 ⟨Nat.le_of_ble_eq_true rfl, Nat.le_of_ble_eq_true rfl⟩) (fun H locs hW => ?_)
                  refine lv_if_ne (tgt := 1262) C.1 C.2.1 dL_law_1238 (by decide) (fun c39 => ?_) (fun c39 => ?_)
                  · have hf := if_f c39 hf
                    refine lv_iconst (v := 0) C.1 C.2.1 dL_law_1262 (by decide) ?_
                    exact (lw_no hf hres).elim
                  · have hf := if_t c39 hf
                    refine lv_aload_n C.1 C.2.1 dL_law_1241 rfl (lv_at hl 3 rfl) ?_
                    refine lv_iconst (v := 4) C.1 C.2.1 dL_law_1242 (by decide) ?_
                    obtain ⟨x40, m41, r42, hf⟩ := bd2_s hf
                    refine z_ci hW (z_runV C hW [.int 4] [] (ha1).1 (ha1).2.1 kX11.1 kvX11_count q_812 (tX11_count l C.2.2.2.2.2.2.1 ha1 r42) rfl rfl ⟨by decide, by decide⟩ rfl hl.1 rfl (Nat.le_of_ble_eq_true rfl) dL_law_1243 ⟨Nat.le_of_ble_eq_true rfl, Nat.le_of_ble_eq_true rfl⟩) (fun H locs hW => ?_)
                    refine lv_if_ne (tgt := 1262) C.1 C.2.1 dL_law_1246 (by decide) (fun c43 => ?_) (fun c43 => ?_)
                    · have hf := if_f c43 hf
                      refine lv_iconst (v := 0) C.1 C.2.1 dL_law_1262 (by decide) ?_
                      exact (lw_no hf hres).elim
                    · have hf := if_t c43 hf
                      refine lv_aload_n C.1 C.2.1 dL_law_1249 rfl (lv_at hl 3 rfl) ?_
                      refine lv_iconst (v := 0) C.1 C.2.1 dL_law_1250 (by decide) ?_
                      refine lv_iconst (v := 0) C.1 C.2.1 dL_law_1251 (by decide) ?_
                      obtain ⟨x44, m45, r46, hf⟩ := bd2_s hf
                      refine z_ci hW (z_runV C hW [.int 0, .int 0] [] (ha1).1 (ha1).2.1 kX11.1 kvX11_lender q_649 (tX11_lender l C.2.2.2.2.2.2.1 ha1 r46) rfl rfl ⟨by decide, by decide⟩ rfl hl.1 rfl (Nat.le_of_ble_eq_true rfl) dL_law_1252 ⟨Nat.le_of_ble_eq_true rfl, Nat.le_of_ble_eq_true rfl⟩) (fun H locs hW => ?_)
                      refine lv_if_ne (tgt := 1262) C.1 C.2.1 dL_law_1255 (by decide) (fun c47 => ?_) (fun c47 => ?_)
                      · have hf := if_f c47 hf
                        refine lv_iconst (v := 0) C.1 C.2.1 dL_law_1262 (by decide) ?_
                        exact (lw_no hf hres).elim
                      · have hf := if_t c47 hf
                        refine lv_iconst (v := 1) C.1 C.2.1 dL_law_1258 (by decide) ?_
                        refine lv_goto (tgt := 1263) C.1 C.2.1 dL_law_1259 (by decide) ?_
                        exact lw_end CS hW hge (lw_one hf hres) dL_law_1263
            · have hf := if_f c30 hf
              refine lv_iconst (v := 0) C.1 C.2.1 dL_law_1211 (by decide) ?_
              exact (lw_no hf hres).elim
    · have hf := if_f c14 hf
      refine lv_aload_n C.1 C.2.1 dL_law_1054 rfl (lv_at hl 0 rfl) ?_
      refine lv_iload C.1 C.2.1 dL_law_1055 (lv_at hl 4 rfl) ?_
      refine lv_iconst (v := 1) C.1 C.2.1 dL_law_1057 (by decide) ?_
      obtain ⟨x48, m49, r50, hf⟩ := bd2_s hf
      refine z_ci hW (z_runV C hW [.int a25, .int 1] [] (ha1).1 (ha1).2.1 kX11.1 kvX11_rule q_683 (tX11_rule l C.2.2.2.2.2.2.1 ha1 r50) rfl rfl ⟨by decide, by decide⟩ rfl hl.1 rfl (Nat.le_of_ble_eq_true rfl) dL_law_1058 ⟨Nat.le_of_ble_eq_true rfl, Nat.le_of_ble_eq_true rfl⟩) (fun H locs hW => ?_)
      refine lv_if_lt (tgt := 1088) C.1 C.2.1 dL_law_1061 (by decide) (fun c51 => ?_) (fun c51 => ?_)
      · have hf := if_t c51 hf
        refine lv_iconst (v := 0) C.1 C.2.1 dL_law_1088 (by decide) ?_
        exact (lw_no hf hres).elim
      · have hf := if_f c51 hf
        refine lv_aload_n C.1 C.2.1 dL_law_1064 rfl (lv_at hl 0 rfl) ?_
        refine lv_iconst (v := 0) C.1 C.2.1 dL_law_1065 (by decide) ?_
        refine lv_iload_n C.1 C.2.1 dL_law_1066 rfl (lv_at hl 1 rfl) ?_
        refine lv_aload_n C.1 C.2.1 dL_law_1067 rfl (lv_at hl 2 rfl) ?_
        refine lv_bipush (v := 18) C.1 C.2.1 dL_law_1068 (by decide) ?_
        obtain ⟨g52, hf⟩ := gd_s hf
        refine z_iald C hW ha3 g52 dL_law_1070 ?_
        refine lv_aload_n C.1 C.2.1 dL_law_1071 rfl (lv_at hl 6 rfl) ?_
        refine lv_bipush (v := 24) C.1 C.2.1 dL_law_1072 (by decide) ?_
        refine lv_iload C.1 C.2.1 dL_law_1074 (lv_at hl 5 rfl) ?_
        refine lv_iadd C.1 C.2.1 dL_law_1076 ?_
        obtain ⟨x53, m54, r55, hf⟩ := bd2_s hf
        refine z_ci hW (z_runX CS hW [.ref b, .int (24 + a26)] [.int (rd m49 a3 ((18 : Int32).toNatClampNeg)), .int a2, .int 0, .ref (ad a1)] kvL_cell q_835 (tL_cell l C.2.2.2.2.2.2.1  r55) rfl rfl ⟨by decide, by decide⟩ rfl hl.1 rfl (Nat.le_of_ble_eq_true rfl) dL_law_1077 ⟨Nat.le_of_ble_eq_true rfl, Nat.le_of_ble_eq_true rfl⟩) (fun H locs hW => ?_)
        refine lv_aload C.1 C.2.1 dL_law_1080 (lv_at hl 3 rfl) ?_
        obtain ⟨x56, m57, r58, hf⟩ := bd2_s hf
        refine z_ci hW (z_runS C hW [.ref (ad a1), .int 0, .int a2, .int (rd m49 a3 ((18 : Int32).toNatClampNeg)), .int x53, .ref (ad a4)] [] kvL_laying q_910 (tL_laying l C.2.2.2.2.2.2.1 ha1 ha4 r58) rfl rfl ⟨by decide, by decide⟩ rfl hl.1 rfl (Nat.le_of_ble_eq_true rfl) dL_law_1082 ⟨Nat.le_of_ble_eq_true rfl, Nat.le_of_ble_eq_true rfl⟩) (fun H locs hW => ?_)
        refine lv_if_ne (tgt := 1090) C.1 C.2.1 dL_law_1085 (by decide) (fun c59 => ?_) (fun c59 => ?_)
        · have hf := if_f c59 hf
          refine lv_iconst (v := 0) C.1 C.2.1 dL_law_1090 (by decide) ?_
          refine lv_istore (lv' := [(27, .int 0), (1, .ref (ad a1)), (2, .int a2), (3, .ref (ad a3)), (4, .ref (ad a4)), (25, .int a25), (26, .int a26), (0, .ref b)]) C.1 C.2.1 dL_law_1091 hl (by decide) rfl (fun ls hl => ?_)
          refine lv_iconst (v := 0) C.1 C.2.1 dL_law_1093 (by decide) ?_
          refine lv_istore (lv' := [(28, .int 0), (27, .int 0), (1, .ref (ad a1)), (2, .int a2), (3, .ref (ad a3)), (4, .ref (ad a4)), (25, .int a25), (26, .int a26), (0, .ref b)]) C.1 C.2.1 dL_law_1094 hl (by decide) rfl (fun ls hl => ?_)
          exact wL_law_1096 hge CS hres hk1048 N ha1 ha3 ha4 hW (lv_sub hl [2, 3, 4, 5, 6, 7, 1, 0, 8] rfl) hf
        · have hf := if_t c59 hf
          refine lv_iconst (v := 0) C.1 C.2.1 dL_law_1088 (by decide) ?_
          exact (lw_no hf hres).elim
set_option maxRecDepth 100000 in
set_option maxHeartbeats 4000000 in
theorem wL_law_886 (hge : ∀ k, k < ad 1000 → s.heap.size ≤ ad k) (CS : CxS p s m meth c #[Value.ref b] code 29 ret RL D ca ad b L xs) {res : Int32 × Mm} (hres : res.1 = 1) {N : Nat}  : ∀ (n : Nat) {a1 : Nat} {a2 : Int32} {a3 : Nat} {a4 : Nat} {a7 : Int32} {a18 : Int32} {a20 : Int64} {a22 : Int32} {mm : Mm} {H : Heap} {locs : List Loc} {ls : Array Slot}, (sX11 a1) → (sJ ad a3) → (sJ ad a4) → Wd D ca ad s.heap mm H locs → lv_has ls 29 [(1, .ref (ad a1)), (2, .int a2), (3, .ref (ad a3)), (4, .ref (ad a4)), (7, .int a7), (18, .int a18), (20, .long a20), (22, .int a22), (0, .ref b)] → fL_law_886 N L xs n a1 a2 a3 a4 a7 a18 a20 a22 mm = some res → W p l e room_1 s m #[Value.ref b] below meth c H locs 179 3665 (lw_Z below #[Value.ref b] s) (F0 m 886 ls []) := by
  have C := CS.1
  intro n
  induction n with
  | zero => intro a1 a2 a3 a4 a7 a18 a20 a22 mm H locs ls ha1 ha3 ha4 hW hl hf; cases hf
  | succ n ih =>
    intro a1 a2 a3 a4 a7 a18 a20 a22 mm H locs ls ha1 ha3 ha4 hW hl hf
    have hk886 : ∀ (a1 : Nat) (a2 : Int32) (a3 : Nat) (a4 : Nat) (a7 : Int32) (a18 : Int32) (a20 : Int64) (a22 : Int32) (mm : Mm) (H : Heap) (locs : List Loc) (ls : Array Slot), (sX11 a1) → (sJ ad a3) → (sJ ad a4) → Wd D ca ad s.heap mm H locs → lv_has ls 29 [(1, .ref (ad a1)), (2, .int a2), (3, .ref (ad a3)), (4, .ref (ad a4)), (7, .int a7), (18, .int a18), (20, .long a20), (22, .int a22), (0, .ref b)] → (fL_law_886 N L xs n) a1 a2 a3 a4 a7 a18 a20 a22 mm = some res → W p l e room_1 s m #[Value.ref b] below meth c H locs 179 3665 (lw_Z below #[Value.ref b] s) (F0 m 886 ls []) := fun a1 a2 a3 a4 a7 a18 a20 a22 mm H locs ls ha1 ha3 ha4 hW hl hf => ih ha1 ha3 ha4 hW hl hf
    unfold fL_law_886 at hf
    try dsimp only at hf
    refine lv_iload C.1 C.2.1 dL_law_886 (lv_at hl 7 rfl) ?_
    refine lv_iconst (v := 4) C.1 C.2.1 dL_law_888 (by decide) ?_
    refine lv_icmp_ge (tgt := 942) C.1 C.2.1 dL_law_889 (by decide) (fun c60 => ?_) (fun c60 => ?_)
    · have hf := if_t c60 hf
      refine lv_lload C.1 C.2.1 dL_law_942 (lv_at hl 6 rfl) ?_
      refine lv_ldc2 C.1 C.2.1 C.2.2.2.1 (C.2.2.2.2.1 _ q_922) dL_law_944 ?_
      refine lv_iload C.1 C.2.1 dL_law_947 (lv_at hl 5 rfl) ?_
      refine lv_i2l C.1 C.2.1 dL_law_949 rfl ?_
      refine lv_lmul C.1 C.2.1 dL_law_950 ?_
      refine W.lcmp C.1 C.2.1 dL_law_951 ?_
      refine lv_if_eq (tgt := 957) C.1 C.2.1 dL_law_952 (by decide) (fun c61 => ?_) (fun c61 => ?_)
      · have hf := if_t c61 hf
        refine lv_aload_n C.1 C.2.1 dL_law_957 rfl (lv_at hl 0 rfl) ?_
        refine lv_iconst (v := 1) C.1 C.2.1 dL_law_958 (by decide) ?_
        obtain ⟨x62, m63, r64, hf⟩ := bd2_s hf
        refine z_ci hW (z_runV C hW [.int 1] [] (ha1).1 (ha1).2.1 kX11.1 kvX11_when q_679 (tX11_when l C.2.2.2.2.2.2.1 ha1 r64) rfl rfl ⟨by decide, by decide⟩ rfl hl.1 rfl (Nat.le_of_ble_eq_true rfl) dL_law_959 ⟨Nat.le_of_ble_eq_true rfl, Nat.le_of_ble_eq_true rfl⟩) (fun H locs hW => ?_)
        refine lv_istore (lv' := [(22, .int x62), (1, .ref (ad a1)), (2, .int a2), (3, .ref (ad a3)), (4, .ref (ad a4)), (7, .int a7), (18, .int a18), (20, .long a20), (0, .ref b)]) C.1 C.2.1 dL_law_962 hl (by decide) rfl (fun ls hl => ?_)
        refine lv_aload_n C.1 C.2.1 dL_law_964 rfl (lv_at hl 1 rfl) ?_
        obtain ⟨x65, m66, r67, hf⟩ := bd2_s hf
        refine z_ci hW (z_runV C hW [] [] (ha1).1 (ha1).2.1 kX11.1 kvX11_asked q_800 (tX11_asked l C.2.2.2.2.2.2.1 ha1 r67) rfl rfl ⟨by decide, by decide⟩ rfl hl.1 rfl (Nat.le_of_ble_eq_true rfl) dL_law_965 ⟨Nat.le_of_ble_eq_true rfl, Nat.le_of_ble_eq_true rfl⟩) (fun H locs hW => ?_)
        refine lv_istore (lv' := [(23, .int x65), (22, .int x62), (1, .ref (ad a1)), (2, .int a2), (3, .ref (ad a3)), (4, .ref (ad a4)), (7, .int a7), (18, .int a18), (20, .long a20), (0, .ref b)]) C.1 C.2.1 dL_law_968 hl (by decide) rfl (fun ls hl => ?_)
        refine lv_aload_n C.1 C.2.1 dL_law_970 rfl (lv_at hl 2 rfl) ?_
        refine lv_iload C.1 C.2.1 dL_law_971 (lv_at hl 1 rfl) ?_
        obtain ⟨x68, m69, r70, hf⟩ := bd2_s hf
        refine z_ci hW (z_runV C hW [.int x62] [] (ha1).1 (ha1).2.1 kX11.1 kvX11_damp q_384 (tX11_damp l C.2.2.2.2.2.2.1 ha1 r70) rfl rfl ⟨by decide, by decide⟩ rfl hl.1 rfl (Nat.le_of_ble_eq_true rfl) dL_law_973 ⟨Nat.le_of_ble_eq_true rfl, Nat.le_of_ble_eq_true rfl⟩) (fun H locs hW => ?_)
        refine lv_istore (lv' := [(24, .int x68), (23, .int x65), (22, .int x62), (1, .ref (ad a1)), (2, .int a2), (3, .ref (ad a3)), (4, .ref (ad a4)), (7, .int a7), (18, .int a18), (20, .long a20), (0, .ref b)]) C.1 C.2.1 dL_law_976 hl (by decide) rfl (fun ls hl => ?_)
        refine lv_iload C.1 C.2.1 dL_law_978 (lv_at hl 2 rfl) ?_
        refine lv_if_lt (tgt := 1030) C.1 C.2.1 dL_law_980 (by decide) (fun c71 => ?_) (fun c71 => ?_)
        · have hf := if_t c71 hf
          refine lv_iconst (v := 0) C.1 C.2.1 dL_law_1030 (by decide) ?_
          exact (lw_no hf hres).elim
        · have hf := if_f c71 hf
          refine lv_iload C.1 C.2.1 dL_law_983 (lv_at hl 2 rfl) ?_
          refine lv_bipush (v := 9) C.1 C.2.1 dL_law_985 (by decide) ?_
          refine lv_icmp_gt (tgt := 1030) C.1 C.2.1 dL_law_987 (by decide) (fun c72 => ?_) (fun c72 => ?_)
          · have hf := if_t c72 hf
            refine lv_iconst (v := 0) C.1 C.2.1 dL_law_1030 (by decide) ?_
            exact (lw_no hf hres).elim
          · have hf := if_f c72 hf
            refine lv_iload C.1 C.2.1 dL_law_990 (lv_at hl 1 rfl) ?_
            refine lv_iload C.1 C.2.1 dL_law_992 (lv_at hl 7 rfl) ?_
            refine lv_icmp_lt (tgt := 1030) C.1 C.2.1 dL_law_994 (by decide) (fun c73 => ?_) (fun c73 => ?_)
            · have hf := if_t c73 hf
              refine lv_iconst (v := 0) C.1 C.2.1 dL_law_1030 (by decide) ?_
              exact (lw_no hf hres).elim
            · have hf := if_f c73 hf
              refine lv_aload_n C.1 C.2.1 dL_law_997 rfl (lv_at hl 3 rfl) ?_
              refine lv_iconst (v := 1) C.1 C.2.1 dL_law_998 (by decide) ?_
              refine lv_iconst (v := 2) C.1 C.2.1 dL_law_999 (by decide) ?_
              obtain ⟨x74, m75, r76, hf⟩ := bd2_s hf
              refine z_ci hW (z_runV C hW [.int 1, .int 2] [] (ha1).1 (ha1).2.1 kX11.1 kvX11_best q_466 (tX11_best l C.2.2.2.2.2.2.1 ha1 r76) rfl rfl ⟨by decide, by decide⟩ rfl hl.1 rfl (Nat.le_of_ble_eq_true rfl) dL_law_1000 ⟨Nat.le_of_ble_eq_true rfl, Nat.le_of_ble_eq_true rfl⟩) (fun H locs hW => ?_)
              refine lv_iload C.1 C.2.1 dL_law_1003 (lv_at hl 1 rfl) ?_
              refine lv_icmp_ne (tgt := 1030) C.1 C.2.1 dL_law_1005 (by decide) (fun c77 => ?_) (fun c77 => ?_)
              · have hf := if_f c77 hf
                refine lv_iconst (v := 0) C.1 C.2.1 dL_law_1030 (by decide) ?_
                exact (lw_no hf hres).elim
              · have hf := if_t c77 hf
                refine lv_aload_n C.1 C.2.1 dL_law_1008 rfl (lv_at hl 3 rfl) ?_
                refine lv_iload C.1 C.2.1 dL_law_1009 (lv_at hl 0 rfl) ?_
                obtain ⟨x78, m79, r80, hf⟩ := bd2_s hf
                refine z_ci hW (z_runV C hW [.int x68] [] (ha1).1 (ha1).2.1 kX11.1 kvX11_damp q_384 (tX11_damp l C.2.2.2.2.2.2.1 ha1 r80) rfl rfl ⟨by decide, by decide⟩ rfl hl.1 rfl (Nat.le_of_ble_eq_true rfl) dL_law_1011 ⟨Nat.le_of_ble_eq_true rfl, Nat.le_of_ble_eq_true rfl⟩) (fun H locs hW => ?_)
                refine lv_iload C.1 C.2.1 dL_law_1014 (lv_at hl 2 rfl) ?_
                refine lv_icmp_ne (tgt := 1030) C.1 C.2.1 dL_law_1016 (by decide) (fun c81 => ?_) (fun c81 => ?_)
                · have hf := if_f c81 hf
                  refine lv_iconst (v := 0) C.1 C.2.1 dL_law_1030 (by decide) ?_
                  exact (lw_no hf hres).elim
                · have hf := if_t c81 hf
                  refine lv_aload_n C.1 C.2.1 dL_law_1019 rfl (lv_at hl 3 rfl) ?_
                  refine lv_iconst (v := 1) C.1 C.2.1 dL_law_1020 (by decide) ?_
                  refine lv_iconst (v := 2) C.1 C.2.1 dL_law_1021 (by decide) ?_
                  obtain ⟨x82, m83, r84, hf⟩ := bd2_s hf
                  refine z_ci hW (z_runV C hW [.int 1, .int 2] [] (ha1).1 (ha1).2.1 kX11.1 kvX11_best q_466 (tX11_best l C.2.2.2.2.2.2.1 ha1 r84) rfl rfl ⟨by decide, by decide⟩ rfl hl.1 rfl (Nat.le_of_ble_eq_true rfl) dL_law_1022 ⟨Nat.le_of_ble_eq_true rfl, Nat.le_of_ble_eq_true rfl⟩) (fun H locs hW => ?_)
                  refine lv_iload C.1 C.2.1 dL_law_1025 (lv_at hl 7 rfl) ?_
                  refine lv_icmp_eq (tgt := 1032) C.1 C.2.1 dL_law_1027 (by decide) (fun c85 => ?_) (fun c85 => ?_)
                  · have hf := if_t c85 hf
                    refine lv_aload_n C.1 C.2.1 dL_law_1032 rfl (lv_at hl 10 rfl) ?_
                    refine lv_bipush (v := 23) C.1 C.2.1 dL_law_1033 (by decide) ?_
                    obtain ⟨x86, m87, r88, hf⟩ := bd2_s hf
                    refine z_ci hW (z_runX CS hW [.ref b, .int 23] [] kvL_cell q_835 (tL_cell l C.2.2.2.2.2.2.1  r88) rfl rfl ⟨by decide, by decide⟩ rfl hl.1 rfl (Nat.le_of_ble_eq_true rfl) dL_law_1035 ⟨Nat.le_of_ble_eq_true rfl, Nat.le_of_ble_eq_true rfl⟩) (fun H locs hW => ?_)
                    refine lv_bipush (v := 6) C.1 C.2.1 dL_law_1038 (by decide) ?_
                    obtain ⟨x89, m90, r91, hf⟩ := bd2_s hf
                    refine z_ci hW (z_runS C hW [.int x86, .int 6] [] kvL_low q_831 (tL_low l C.2.2.2.2.2.2.1  r91) rfl rfl ⟨by decide, by decide⟩ rfl hl.1 rfl (Nat.le_of_ble_eq_true rfl) dL_law_1040 ⟨Nat.le_of_ble_eq_true rfl, Nat.le_of_ble_eq_true rfl⟩) (fun H locs hW => ?_)
                    refine lv_istore (lv' := [(25, .int x89), (24, .int x68), (23, .int x65), (22, .int x62), (1, .ref (ad a1)), (2, .int a2), (3, .ref (ad a3)), (4, .ref (ad a4)), (7, .int a7), (18, .int a18), (20, .long a20), (0, .ref b)]) C.1 C.2.1 dL_law_1043 hl (by decide) rfl (fun ls hl => ?_)
                    refine lv_iconst (v := 0) C.1 C.2.1 dL_law_1045 (by decide) ?_
                    refine lv_istore (lv' := [(26, .int 0), (25, .int x89), (24, .int x68), (23, .int x65), (22, .int x62), (1, .ref (ad a1)), (2, .int a2), (3, .ref (ad a3)), (4, .ref (ad a4)), (7, .int a7), (18, .int a18), (20, .long a20), (0, .ref b)]) C.1 C.2.1 dL_law_1046 hl (by decide) rfl (fun ls hl => ?_)
                    exact wL_law_1048 hge CS hres  N ha1 ha3 ha4 hW (lv_sub hl [5, 6, 7, 8, 1, 0, 12] rfl) hf
                  · have hf := if_f c85 hf
                    refine lv_iconst (v := 0) C.1 C.2.1 dL_law_1030 (by decide) ?_
                    exact (lw_no hf hres).elim
      · have hf := if_f c61 hf
        refine lv_iconst (v := 0) C.1 C.2.1 dL_law_955 (by decide) ?_
        exact (lw_no hf hres).elim
    · have hf := if_f c60 hf
      refine lv_aload_n C.1 C.2.1 dL_law_892 rfl (lv_at hl 0 rfl) ?_
      refine lv_iload C.1 C.2.1 dL_law_893 (lv_at hl 7 rfl) ?_
      refine lv_iconst (v := 1) C.1 C.2.1 dL_law_895 (by decide) ?_
      obtain ⟨x92, m93, r94, hf⟩ := bd2_s hf
      refine z_ci hW (z_runV C hW [.int a22, .int 1] [] (ha1).1 (ha1).2.1 kX11.1 kvX11_adds q_665 (tX11_adds l C.2.2.2.2.2.2.1 ha1 r94) rfl rfl ⟨by decide, by decide⟩ rfl hl.1 rfl (Nat.le_of_ble_eq_true rfl) dL_law_896 ⟨Nat.le_of_ble_eq_true rfl, Nat.le_of_ble_eq_true rfl⟩) (fun H locs hW => ?_)
      refine lv_iconst (v := 1) C.1 C.2.1 dL_law_899 (by decide) ?_
      refine lv_icmp_ne (tgt := 916) C.1 C.2.1 dL_law_900 (by decide) (fun c95 => ?_) (fun c95 => ?_)
      · have hf := if_f c95 hf
        refine lv_iconst (v := 0) C.1 C.2.1 dL_law_916 (by decide) ?_
        exact (lw_no hf hres).elim
      · have hf := if_t c95 hf
        refine lv_ldc2 C.1 C.2.1 C.2.2.2.1 (C.2.2.2.2.1 _ q_922) dL_law_903 ?_
        refine lv_aload_n C.1 C.2.1 dL_law_906 rfl (lv_at hl 0 rfl) ?_
        obtain ⟨x96, m97, r98, hf⟩ := bd2_s hf
        refine z_cl hW (z_runV C hW [] [.long 24] (ha1).1 (ha1).2.1 kX11.1 kvX11_lower q_808 (tX11_lower l C.2.2.2.2.2.2.1 ha1 r98) rfl rfl ⟨by decide, by decide⟩ rfl hl.1 rfl (Nat.le_of_ble_eq_true rfl) dL_law_907 ⟨Nat.le_of_ble_eq_true rfl, Nat.le_of_ble_eq_true rfl⟩) (fun H locs hW => ?_)
        obtain ⟨g99, hf⟩ := gd_s hf
        refine lv_lrem C.1 C.2.1 dL_law_910 (of_decide_eq_true g99) ?_
        refine lv_lconst (v := 0) C.1 C.2.1 dL_law_911 (by decide) ?_
        refine W.lcmp C.1 C.2.1 dL_law_912 ?_
        refine lv_if_eq (tgt := 918) C.1 C.2.1 dL_law_913 (by decide) (fun c100 => ?_) (fun c100 => ?_)
        · have hf := if_t c100 hf
          refine lv_lload C.1 C.2.1 dL_law_918 (lv_at hl 6 rfl) ?_
          refine lv_aload_n C.1 C.2.1 dL_law_920 rfl (lv_at hl 0 rfl) ?_
          obtain ⟨x101, m102, r103, hf⟩ := bd2_s hf
          refine z_cl hW (z_runV C hW [] [.long a20] (ha1).1 (ha1).2.1 kX11.1 kvX11_upper q_804 (tX11_upper l C.2.2.2.2.2.2.1 ha1 r103) rfl rfl ⟨by decide, by decide⟩ rfl hl.1 rfl (Nat.le_of_ble_eq_true rfl) dL_law_921 ⟨Nat.le_of_ble_eq_true rfl, Nat.le_of_ble_eq_true rfl⟩) (fun H locs hW => ?_)
          refine lv_ldc2 C.1 C.2.1 C.2.2.2.1 (C.2.2.2.2.1 _ q_922) dL_law_924 ?_
          refine lv_aload_n C.1 C.2.1 dL_law_927 rfl (lv_at hl 0 rfl) ?_
          obtain ⟨x104, m105, r106, hf⟩ := bd2_s hf
          refine z_cl hW (z_runV C hW [] [.long 24, .long x101, .long a20] (ha1).1 (ha1).2.1 kX11.1 kvX11_lower q_808 (tX11_lower l C.2.2.2.2.2.2.1 ha1 r106) rfl rfl ⟨by decide, by decide⟩ rfl hl.1 rfl (Nat.le_of_ble_eq_true rfl) dL_law_928 ⟨Nat.le_of_ble_eq_true rfl, Nat.le_of_ble_eq_true rfl⟩) (fun H locs hW => ?_)
          obtain ⟨g107, hf⟩ := gd_s hf
          refine lv_ldiv C.1 C.2.1 dL_law_931 (of_decide_eq_true g107) ?_
          refine lv_lmul C.1 C.2.1 dL_law_932 ?_
          refine lv_ladd C.1 C.2.1 dL_law_933 ?_
          refine lv_lstore (lv' := [(20, .long (a20 + (x101 * (24 / x104)))), (1, .ref (ad a1)), (2, .int a2), (3, .ref (ad a3)), (4, .ref (ad a4)), (7, .int a7), (18, .int a18), (22, .int a22), (0, .ref b)]) C.1 C.2.1 dL_law_934 hl (by decide) rfl (fun ls hl => ?_)
          refine lv_iinc (v := (a22 + 1)) (lv' := [(22, .int (a22 + 1)), (20, .long (a20 + (x101 * (24 / x104)))), (1, .ref (ad a1)), (2, .int a2), (3, .ref (ad a3)), (4, .ref (ad a4)), (7, .int a7), (18, .int a18), (0, .ref b)]) C.1 C.2.1 dL_law_936 hl (k := 7) rfl rfl (by decide) rfl (fun ls hl => ?_)
          refine lv_goto (tgt := 886) C.1 C.2.1 dL_law_939 (by decide) ?_
          exact hk886 _ _ _ _ _ _ _ _ _ _ _ _ ha1 ha3 ha4 hW (lv_sub hl [2, 3, 4, 5, 6, 7, 1, 0, 8] rfl) hf
        · have hf := if_f c100 hf
          refine lv_iconst (v := 0) C.1 C.2.1 dL_law_916 (by decide) ?_
          exact (lw_no hf hres).elim
set_option maxRecDepth 100000 in
set_option maxHeartbeats 4000000 in
theorem wL_law_784 (hge : ∀ k, k < ad 1000 → s.heap.size ≤ ad k) (CS : CxS p s m meth c #[Value.ref b] code 29 ret RL D ca ad b L xs) {res : Int32 × Mm} (hres : res.1 = 1) {N : Nat}  : ∀ (n : Nat) {a1 : Nat} {a2 : Int32} {a3 : Nat} {a4 : Nat} {a6 : Int32} {a7 : Int32} {a18 : Int32} {mm : Mm} {H : Heap} {locs : List Loc} {ls : Array Slot}, (sX11 a1) → (sJ ad a3) → (sJ ad a4) → Wd D ca ad s.heap mm H locs → lv_has ls 29 [(1, .ref (ad a1)), (2, .int a2), (3, .ref (ad a3)), (4, .ref (ad a4)), (6, .int a6), (7, .int a7), (18, .int a18), (0, .ref b)] → fL_law_784 N L xs n a1 a2 a3 a4 a6 a7 a18 mm = some res → W p l e room_1 s m #[Value.ref b] below meth c H locs 179 3665 (lw_Z below #[Value.ref b] s) (F0 m 784 ls []) := by
  have C := CS.1
  intro n
  induction n with
  | zero => intro a1 a2 a3 a4 a6 a7 a18 mm H locs ls ha1 ha3 ha4 hW hl hf; cases hf
  | succ n ih =>
    intro a1 a2 a3 a4 a6 a7 a18 mm H locs ls ha1 ha3 ha4 hW hl hf
    have hk784 : ∀ (a1 : Nat) (a2 : Int32) (a3 : Nat) (a4 : Nat) (a6 : Int32) (a7 : Int32) (a18 : Int32) (mm : Mm) (H : Heap) (locs : List Loc) (ls : Array Slot), (sX11 a1) → (sJ ad a3) → (sJ ad a4) → Wd D ca ad s.heap mm H locs → lv_has ls 29 [(1, .ref (ad a1)), (2, .int a2), (3, .ref (ad a3)), (4, .ref (ad a4)), (6, .int a6), (7, .int a7), (18, .int a18), (0, .ref b)] → (fL_law_784 N L xs n) a1 a2 a3 a4 a6 a7 a18 mm = some res → W p l e room_1 s m #[Value.ref b] below meth c H locs 179 3665 (lw_Z below #[Value.ref b] s) (F0 m 784 ls []) := fun a1 a2 a3 a4 a6 a7 a18 mm H locs ls ha1 ha3 ha4 hW hl hf => ih ha1 ha3 ha4 hW hl hf
    unfold fL_law_784 at hf
    try dsimp only at hf
    refine lv_iload C.1 C.2.1 dL_law_784 (lv_at hl 6 rfl) ?_
    refine lv_iconst (v := 4) C.1 C.2.1 dL_law_786 (by decide) ?_
    refine lv_icmp_ge (tgt := 821) C.1 C.2.1 dL_law_787 (by decide) (fun c108 => ?_) (fun c108 => ?_)
    · have hf := if_t c108 hf
      refine lv_aload_n C.1 C.2.1 dL_law_821 rfl (lv_at hl 0 rfl) ?_
      refine lv_bipush (v := 15) C.1 C.2.1 dL_law_822 (by decide) ?_
      refine lv_iconst (v := 1) C.1 C.2.1 dL_law_824 (by decide) ?_
      obtain ⟨x109, m110, r111, hf⟩ := bd2_s hf
      refine z_ci hW (z_runV C hW [.int 15, .int 1] [] (ha1).1 (ha1).2.1 kX11.1 kvX11_lend q_653 (tX11_lend l C.2.2.2.2.2.2.1 ha1 r111) rfl rfl ⟨by decide, by decide⟩ rfl hl.1 rfl (Nat.le_of_ble_eq_true rfl) dL_law_825 ⟨Nat.le_of_ble_eq_true rfl, Nat.le_of_ble_eq_true rfl⟩) (fun H locs hW => ?_)
      refine lv_istore (lv' := [(18, .int x109), (1, .ref (ad a1)), (2, .int a2), (3, .ref (ad a3)), (4, .ref (ad a4)), (6, .int a6), (7, .int a7), (0, .ref b)]) C.1 C.2.1 dL_law_828 hl (by decide) rfl (fun ls hl => ?_)
      refine lv_aload_n C.1 C.2.1 dL_law_830 rfl (lv_at hl 1 rfl) ?_
      refine lv_aload_n C.1 C.2.1 dL_law_831 rfl (lv_at hl 7 rfl) ?_
      refine lv_bipush (v := 22) C.1 C.2.1 dL_law_832 (by decide) ?_
      obtain ⟨x112, m113, r114, hf⟩ := bd2_s hf
      refine z_ci hW (z_runX CS hW [.ref b, .int 22] [.ref (ad a1)] kvL_cell q_835 (tL_cell l C.2.2.2.2.2.2.1  r114) rfl rfl ⟨by decide, by decide⟩ rfl hl.1 rfl (Nat.le_of_ble_eq_true rfl) dL_law_834 ⟨Nat.le_of_ble_eq_true rfl, Nat.le_of_ble_eq_true rfl⟩) (fun H locs hW => ?_)
      refine lv_bipush (v := 16) C.1 C.2.1 dL_law_837 (by decide) ?_
      obtain ⟨x115, m116, r117, hf⟩ := bd2_s hf
      refine z_ci hW (z_runS C hW [.int x112, .int 16] [.ref (ad a1)] kvL_low q_831 (tL_low l C.2.2.2.2.2.2.1  r117) rfl rfl ⟨by decide, by decide⟩ rfl hl.1 rfl (Nat.le_of_ble_eq_true rfl) dL_law_839 ⟨Nat.le_of_ble_eq_true rfl, Nat.le_of_ble_eq_true rfl⟩) (fun H locs hW => ?_)
      refine lv_iconst (v := 1) C.1 C.2.1 dL_law_842 (by decide) ?_
      obtain ⟨x118, m119, r120, hf⟩ := bd2_s hf
      refine z_ci hW (z_runV C hW [.int x115, .int 1] [] (ha1).1 (ha1).2.1 kX11.1 kvX11_lend q_653 (tX11_lend l C.2.2.2.2.2.2.1 ha1 r120) rfl rfl ⟨by decide, by decide⟩ rfl hl.1 rfl (Nat.le_of_ble_eq_true rfl) dL_law_843 ⟨Nat.le_of_ble_eq_true rfl, Nat.le_of_ble_eq_true rfl⟩) (fun H locs hW => ?_)
      refine lv_istore (lv' := [(19, .int x118), (18, .int x109), (1, .ref (ad a1)), (2, .int a2), (3, .ref (ad a3)), (4, .ref (ad a4)), (6, .int a6), (7, .int a7), (0, .ref b)]) C.1 C.2.1 dL_law_846 hl (by decide) rfl (fun ls hl => ?_)
      refine lv_iload C.1 C.2.1 dL_law_848 (lv_at hl 0 rfl) ?_
      refine lv_if_lt (tgt := 878) C.1 C.2.1 dL_law_850 (by decide) (fun c121 => ?_) (fun c121 => ?_)
      · have hf := if_t c121 hf
        refine lv_iconst (v := 0) C.1 C.2.1 dL_law_878 (by decide) ?_
        exact (lw_no hf hres).elim
      · have hf := if_f c121 hf
        refine lv_iload C.1 C.2.1 dL_law_853 (lv_at hl 1 rfl) ?_
        refine lv_iload C.1 C.2.1 dL_law_855 (lv_at hl 0 rfl) ?_
        refine lv_icmp_lt (tgt := 878) C.1 C.2.1 dL_law_857 (by decide) (fun c122 => ?_) (fun c122 => ?_)
        · have hf := if_t c122 hf
          refine lv_iconst (v := 0) C.1 C.2.1 dL_law_878 (by decide) ?_
          exact (lw_no hf hres).elim
        · have hf := if_f c122 hf
          refine lv_iload C.1 C.2.1 dL_law_860 (lv_at hl 1 rfl) ?_
          refine lv_iconst (v := 2) C.1 C.2.1 dL_law_862 (by decide) ?_
          refine lv_iload C.1 C.2.1 dL_law_863 (lv_at hl 6 rfl) ?_
          refine lv_imul C.1 C.2.1 dL_law_865 ?_
          refine lv_icmp_gt (tgt := 878) C.1 C.2.1 dL_law_866 (by decide) (fun c123 => ?_) (fun c123 => ?_)
          · have hf := if_t c123 hf
            refine lv_iconst (v := 0) C.1 C.2.1 dL_law_878 (by decide) ?_
            exact (lw_no hf hres).elim
          · have hf := if_f c123 hf
            refine lv_aload_n C.1 C.2.1 dL_law_869 rfl (lv_at hl 2 rfl) ?_
            refine lv_iconst (v := 0) C.1 C.2.1 dL_law_870 (by decide) ?_
            refine lv_iconst (v := 1) C.1 C.2.1 dL_law_871 (by decide) ?_
            obtain ⟨x124, m125, r126, hf⟩ := bd2_s hf
            refine z_ci hW (z_runV C hW [.int 0, .int 1] [] (ha1).1 (ha1).2.1 kX11.1 kvX11_lend q_653 (tX11_lend l C.2.2.2.2.2.2.1 ha1 r126) rfl rfl ⟨by decide, by decide⟩ rfl hl.1 rfl (Nat.le_of_ble_eq_true rfl) dL_law_872 ⟨Nat.le_of_ble_eq_true rfl, Nat.le_of_ble_eq_true rfl⟩) (fun H locs hW => ?_)
            refine lv_if_eq (tgt := 880) C.1 C.2.1 dL_law_875 (by decide) (fun c127 => ?_) (fun c127 => ?_)
            · have hf := if_t c127 hf
              refine lv_lconst (v := 0) C.1 C.2.1 dL_law_880 (by decide) ?_
              refine lv_lstore (lv' := [(20, .long 0), (19, .int x118), (18, .int x109), (1, .ref (ad a1)), (2, .int a2), (3, .ref (ad a3)), (4, .ref (ad a4)), (6, .int a6), (7, .int a7), (0, .ref b)]) C.1 C.2.1 dL_law_881 hl (by decide) rfl (fun ls hl => ?_)
              refine lv_iconst (v := 0) C.1 C.2.1 dL_law_883 (by decide) ?_
              refine lv_istore (lv' := [(22, .int 0), (20, .long 0), (19, .int x118), (18, .int x109), (1, .ref (ad a1)), (2, .int a2), (3, .ref (ad a3)), (4, .ref (ad a4)), (6, .int a6), (7, .int a7), (0, .ref b)]) C.1 C.2.1 dL_law_884 hl (by decide) rfl (fun ls hl => ?_)
              exact wL_law_886 hge CS hres  N ha1 ha3 ha4 hW (lv_sub hl [4, 5, 6, 7, 9, 3, 1, 0, 10] rfl) hf
            · have hf := if_f c127 hf
              refine lv_iconst (v := 0) C.1 C.2.1 dL_law_878 (by decide) ?_
              exact (lw_no hf hres).elim
    · have hf := if_f c108 hf
      refine lv_aload_n C.1 C.2.1 dL_law_790 rfl (lv_at hl 0 rfl) ?_
      refine lv_iload C.1 C.2.1 dL_law_791 (lv_at hl 6 rfl) ?_
      refine lv_aload_n C.1 C.2.1 dL_law_793 rfl (lv_at hl 7 rfl) ?_
      refine lv_bipush (v := 18) C.1 C.2.1 dL_law_794 (by decide) ?_
      refine lv_iload C.1 C.2.1 dL_law_796 (lv_at hl 6 rfl) ?_
      refine lv_iadd C.1 C.2.1 dL_law_798 ?_
      obtain ⟨x128, m129, r130, hf⟩ := bd2_s hf
      refine z_ci hW (z_runX CS hW [.ref b, .int (18 + a18)] [.int a18, .ref (ad a1)] kvL_cell q_835 (tL_cell l C.2.2.2.2.2.2.1  r130) rfl rfl ⟨by decide, by decide⟩ rfl hl.1 rfl (Nat.le_of_ble_eq_true rfl) dL_law_799 ⟨Nat.le_of_ble_eq_true rfl, Nat.le_of_ble_eq_true rfl⟩) (fun H locs hW => ?_)
      refine lv_bipush (v := 6) C.1 C.2.1 dL_law_802 (by decide) ?_
      obtain ⟨x131, m132, r133, hf⟩ := bd2_s hf
      refine z_ci hW (z_runS C hW [.int x128, .int 6] [.int a18, .ref (ad a1)] kvL_low q_831 (tL_low l C.2.2.2.2.2.2.1  r133) rfl rfl ⟨by decide, by decide⟩ rfl hl.1 rfl (Nat.le_of_ble_eq_true rfl) dL_law_804 ⟨Nat.le_of_ble_eq_true rfl, Nat.le_of_ble_eq_true rfl⟩) (fun H locs hW => ?_)
      obtain ⟨x134, m135, r136, hf⟩ := bd2_s hf
      refine z_ci hW (z_runV C hW [.int a18, .int x131] [] (ha1).1 (ha1).2.1 kX11.1 kvX11_lender q_649 (tX11_lender l C.2.2.2.2.2.2.1 ha1 r136) rfl rfl ⟨by decide, by decide⟩ rfl hl.1 rfl (Nat.le_of_ble_eq_true rfl) dL_law_807 ⟨Nat.le_of_ble_eq_true rfl, Nat.le_of_ble_eq_true rfl⟩) (fun H locs hW => ?_)
      refine lv_if_eq (tgt := 815) C.1 C.2.1 dL_law_810 (by decide) (fun c137 => ?_) (fun c137 => ?_)
      · have hf := if_t c137 hf
        refine lv_iinc (v := (a18 + 1)) (lv' := [(18, .int (a18 + 1)), (1, .ref (ad a1)), (2, .int a2), (3, .ref (ad a3)), (4, .ref (ad a4)), (6, .int a6), (7, .int a7), (0, .ref b)]) C.1 C.2.1 dL_law_815 hl (k := 6) rfl rfl (by decide) rfl (fun ls hl => ?_)
        refine lv_goto (tgt := 784) C.1 C.2.1 dL_law_818 (by decide) ?_
        exact hk784 _ _ _ _ _ _ _ _ _ _ _ ha1 ha3 ha4 hW (lv_sub hl [1, 2, 3, 4, 5, 6, 0, 7] rfl) hf
      · have hf := if_f c137 hf
        refine lv_iconst (v := 0) C.1 C.2.1 dL_law_813 (by decide) ?_
        exact (lw_no hf hres).elim
set_option maxRecDepth 100000 in
set_option maxHeartbeats 4000000 in
theorem wL_law_781 (hge : ∀ k, k < ad 1000 → s.heap.size ≤ ad k) (CS : CxS p s m meth c #[Value.ref b] code 29 ret RL D ca ad b L xs) {res : Int32 × Mm} (hres : res.1 = 1) {N : Nat}  {a1 : Nat} {a2 : Int32} {a3 : Nat} {a4 : Nat} {a6 : Int32} {a7 : Int32} {mm : Mm} {H : Heap} {locs : List Loc} {ls : Array Slot} (ha1 : sX11 a1) (ha3 : sJ ad a3) (ha4 : sJ ad a4) (hW : Wd D ca ad s.heap mm H locs) (hl : lv_has ls 29 [(1, .ref (ad a1)), (2, .int a2), (3, .ref (ad a3)), (4, .ref (ad a4)), (6, .int a6), (7, .int a7), (0, .ref b)]) (hf : fL_law_781 N L xs a1 a2 a3 a4 a6 a7 mm = some res) : W p l e room_1 s m #[Value.ref b] below meth c H locs 179 3665 (lw_Z below #[Value.ref b] s) (F0 m 781 ls []) := by
  have C := CS.1
  unfold fL_law_781 at hf
  refine lv_iconst (v := 0) C.1 C.2.1 dL_law_781 (by decide) ?_
  refine lv_istore (lv' := [(18, .int 0), (1, .ref (ad a1)), (2, .int a2), (3, .ref (ad a3)), (4, .ref (ad a4)), (6, .int a6), (7, .int a7), (0, .ref b)]) C.1 C.2.1 dL_law_782 hl (by decide) rfl (fun ls hl => ?_)
  exact wL_law_784 hge CS hres  N ha1 ha3 ha4 hW (lv_sub hl [1, 2, 3, 4, 5, 6, 0, 7] rfl) hf
set_option maxRecDepth 100000 in
set_option maxHeartbeats 4000000 in
theorem wL_law_658 (hge : ∀ k, k < ad 1000 → s.heap.size ≤ ad k) (CS : CxS p s m meth c #[Value.ref b] code 29 ret RL D ca ad b L xs) {res : Int32 × Mm} (hres : res.1 = 1) {N : Nat} {k622 : Nat → Int32 → Nat → Nat → Int32 → Int32 → Int32 → Int32 → Mm → Option (Int32 × Mm)} (hk622 : ∀ (a1 : Nat) (a2 : Int32) (a3 : Nat) (a4 : Nat) (a6 : Int32) (a7 : Int32) (a13 : Int32) (a14 : Int32) (mm : Mm) (H : Heap) (locs : List Loc) (ls : Array Slot), (sX11 a1) → (sJ ad a3) → (sJ ad a4) → Wd D ca ad s.heap mm H locs → lv_has ls 29 [(1, .ref (ad a1)), (2, .int a2), (3, .ref (ad a3)), (4, .ref (ad a4)), (6, .int a6), (7, .int a7), (13, .int a13), (14, .int a14), (0, .ref b)] → k622 a1 a2 a3 a4 a6 a7 a13 a14 mm = some res → W p l e room_1 s m #[Value.ref b] below meth c H locs 179 3665 (lw_Z below #[Value.ref b] s) (F0 m 622 ls [])) {a1 : Nat} {a2 : Int32} {a3 : Nat} {a4 : Nat} {a6 : Int32} {a7 : Int32} {a14 : Int32} {s0 : Int32} {mm : Mm} {H : Heap} {locs : List Loc} {ls : Array Slot} (ha1 : sX11 a1) (ha3 : sJ ad a3) (ha4 : sJ ad a4) (hW : Wd D ca ad s.heap mm H locs) (hl : lv_has ls 29 [(1, .ref (ad a1)), (2, .int a2), (3, .ref (ad a3)), (4, .ref (ad a4)), (6, .int a6), (7, .int a7), (14, .int a14), (0, .ref b)]) (hf : fL_law_658 N L xs k622 a1 a2 a3 a4 a6 a7 a14 s0 mm = some res) : W p l e room_1 s m #[Value.ref b] below meth c H locs 179 3665 (lw_Z below #[Value.ref b] s) (F0 m 658 ls [.int s0]) := by
  have C := CS.1
  unfold fL_law_658 at hf
  refine lv_istore (lv' := [(13, .int s0), (1, .ref (ad a1)), (2, .int a2), (3, .ref (ad a3)), (4, .ref (ad a4)), (6, .int a6), (7, .int a7), (14, .int a14), (0, .ref b)]) C.1 C.2.1 dL_law_658 hl (by decide) rfl (fun ls hl => ?_)
  refine lv_iinc (v := (a14 + 1)) (lv' := [(14, .int (a14 + 1)), (13, .int s0), (1, .ref (ad a1)), (2, .int a2), (3, .ref (ad a3)), (4, .ref (ad a4)), (6, .int a6), (7, .int a7), (0, .ref b)]) C.1 C.2.1 dL_law_660 hl (k := 7) rfl rfl (by decide) rfl (fun ls hl => ?_)
  refine lv_goto (tgt := 622) C.1 C.2.1 dL_law_663 (by decide) ?_
  exact hk622 _ _ _ _ _ _ _ _ _ _ _ _ ha1 ha3 ha4 hW (lv_sub hl [2, 3, 4, 5, 6, 7, 1, 0, 8] rfl) hf
set_option maxRecDepth 100000 in
set_option maxHeartbeats 4000000 in
theorem wL_law_657 (hge : ∀ k, k < ad 1000 → s.heap.size ≤ ad k) (CS : CxS p s m meth c #[Value.ref b] code 29 ret RL D ca ad b L xs) {res : Int32 × Mm} (hres : res.1 = 1) {N : Nat} {k622 : Nat → Int32 → Nat → Nat → Int32 → Int32 → Int32 → Int32 → Mm → Option (Int32 × Mm)} (hk622 : ∀ (a1 : Nat) (a2 : Int32) (a3 : Nat) (a4 : Nat) (a6 : Int32) (a7 : Int32) (a13 : Int32) (a14 : Int32) (mm : Mm) (H : Heap) (locs : List Loc) (ls : Array Slot), (sX11 a1) → (sJ ad a3) → (sJ ad a4) → Wd D ca ad s.heap mm H locs → lv_has ls 29 [(1, .ref (ad a1)), (2, .int a2), (3, .ref (ad a3)), (4, .ref (ad a4)), (6, .int a6), (7, .int a7), (13, .int a13), (14, .int a14), (0, .ref b)] → k622 a1 a2 a3 a4 a6 a7 a13 a14 mm = some res → W p l e room_1 s m #[Value.ref b] below meth c H locs 179 3665 (lw_Z below #[Value.ref b] s) (F0 m 622 ls [])) {a1 : Nat} {a2 : Int32} {a3 : Nat} {a4 : Nat} {a6 : Int32} {a7 : Int32} {a14 : Int32} {mm : Mm} {H : Heap} {locs : List Loc} {ls : Array Slot} (ha1 : sX11 a1) (ha3 : sJ ad a3) (ha4 : sJ ad a4) (hW : Wd D ca ad s.heap mm H locs) (hl : lv_has ls 29 [(1, .ref (ad a1)), (2, .int a2), (3, .ref (ad a3)), (4, .ref (ad a4)), (6, .int a6), (7, .int a7), (14, .int a14), (0, .ref b)]) (hf : fL_law_657 N L xs k622 a1 a2 a3 a4 a6 a7 a14 mm = some res) : W p l e room_1 s m #[Value.ref b] below meth c H locs 179 3665 (lw_Z below #[Value.ref b] s) (F0 m 657 ls []) := by
  have C := CS.1
  unfold fL_law_657 at hf
  refine lv_iconst (v := 0) C.1 C.2.1 dL_law_657 (by decide) ?_
  exact wL_law_658 hge CS hres hk622 ha1 ha3 ha4 hW (lv_sub hl [0, 1, 2, 3, 4, 5, 6, 7] rfl) hf
set_option maxRecDepth 100000 in
set_option maxHeartbeats 4000000 in
theorem wL_law_622 (hge : ∀ k, k < ad 1000 → s.heap.size ≤ ad k) (CS : CxS p s m meth c #[Value.ref b] code 29 ret RL D ca ad b L xs) {res : Int32 × Mm} (hres : res.1 = 1) {N : Nat}  : ∀ (n : Nat) {a1 : Nat} {a2 : Int32} {a3 : Nat} {a4 : Nat} {a6 : Int32} {a7 : Int32} {a13 : Int32} {a14 : Int32} {mm : Mm} {H : Heap} {locs : List Loc} {ls : Array Slot}, (sX11 a1) → (sJ ad a3) → (sJ ad a4) → Wd D ca ad s.heap mm H locs → lv_has ls 29 [(1, .ref (ad a1)), (2, .int a2), (3, .ref (ad a3)), (4, .ref (ad a4)), (6, .int a6), (7, .int a7), (13, .int a13), (14, .int a14), (0, .ref b)] → fL_law_622 N L xs n a1 a2 a3 a4 a6 a7 a13 a14 mm = some res → W p l e room_1 s m #[Value.ref b] below meth c H locs 179 3665 (lw_Z below #[Value.ref b] s) (F0 m 622 ls []) := by
  have C := CS.1
  intro n
  induction n with
  | zero => intro a1 a2 a3 a4 a6 a7 a13 a14 mm H locs ls ha1 ha3 ha4 hW hl hf; cases hf
  | succ n ih =>
    intro a1 a2 a3 a4 a6 a7 a13 a14 mm H locs ls ha1 ha3 ha4 hW hl hf
    have hk622 : ∀ (a1 : Nat) (a2 : Int32) (a3 : Nat) (a4 : Nat) (a6 : Int32) (a7 : Int32) (a13 : Int32) (a14 : Int32) (mm : Mm) (H : Heap) (locs : List Loc) (ls : Array Slot), (sX11 a1) → (sJ ad a3) → (sJ ad a4) → Wd D ca ad s.heap mm H locs → lv_has ls 29 [(1, .ref (ad a1)), (2, .int a2), (3, .ref (ad a3)), (4, .ref (ad a4)), (6, .int a6), (7, .int a7), (13, .int a13), (14, .int a14), (0, .ref b)] → (fL_law_622 N L xs n) a1 a2 a3 a4 a6 a7 a13 a14 mm = some res → W p l e room_1 s m #[Value.ref b] below meth c H locs 179 3665 (lw_Z below #[Value.ref b] s) (F0 m 622 ls []) := fun a1 a2 a3 a4 a6 a7 a13 a14 mm H locs ls ha1 ha3 ha4 hW hl hf => ih ha1 ha3 ha4 hW hl hf
    unfold fL_law_622 at hf
    try dsimp only at hf
    refine lv_iload C.1 C.2.1 dL_law_622 (lv_at hl 7 rfl) ?_
    refine lv_iload_n C.1 C.2.1 dL_law_624 rfl (lv_at hl 1 rfl) ?_
    refine lv_icmp_ge (tgt := 666) C.1 C.2.1 dL_law_625 (by decide) (fun c138 => ?_) (fun c138 => ?_)
    · have hf := if_t c138 hf
      refine lv_aload_n C.1 C.2.1 dL_law_666 rfl (lv_at hl 8 rfl) ?_
      refine lv_bipush (v := 17) C.1 C.2.1 dL_law_667 (by decide) ?_
      obtain ⟨x139, m140, r141, hf⟩ := bd2_s hf
      refine z_ci hW (z_runX CS hW [.ref b, .int 17] [] kvL_cell q_835 (tL_cell l C.2.2.2.2.2.2.1  r141) rfl rfl ⟨by decide, by decide⟩ rfl hl.1 rfl (Nat.le_of_ble_eq_true rfl) dL_law_669 ⟨Nat.le_of_ble_eq_true rfl, Nat.le_of_ble_eq_true rfl⟩) (fun H locs hW => ?_)
      refine lv_bipush (v := 8) C.1 C.2.1 dL_law_672 (by decide) ?_
      obtain ⟨x142, m143, r144, hf⟩ := bd2_s hf
      refine z_ci hW (z_runS C hW [.int x139, .int 8] [] kvL_low q_831 (tL_low l C.2.2.2.2.2.2.1  r144) rfl rfl ⟨by decide, by decide⟩ rfl hl.1 rfl (Nat.le_of_ble_eq_true rfl) dL_law_674 ⟨Nat.le_of_ble_eq_true rfl, Nat.le_of_ble_eq_true rfl⟩) (fun H locs hW => ?_)
      refine lv_istore (lv' := [(14, .int x142), (1, .ref (ad a1)), (2, .int a2), (3, .ref (ad a3)), (4, .ref (ad a4)), (6, .int a6), (7, .int a7), (13, .int a13), (0, .ref b)]) C.1 C.2.1 dL_law_677 hl (by decide) rfl (fun ls hl => ?_)
      refine lv_aload_n C.1 C.2.1 dL_law_679 rfl (lv_at hl 8 rfl) ?_
      refine lv_bipush (v := 17) C.1 C.2.1 dL_law_680 (by decide) ?_
      obtain ⟨x145, m146, r147, hf⟩ := bd2_s hf
      refine z_ci hW (z_runX CS hW [.ref b, .int 17] [] kvL_cell q_835 (tL_cell l C.2.2.2.2.2.2.1  r147) rfl rfl ⟨by decide, by decide⟩ rfl hl.1 rfl (Nat.le_of_ble_eq_true rfl) dL_law_682 ⟨Nat.le_of_ble_eq_true rfl, Nat.le_of_ble_eq_true rfl⟩) (fun H locs hW => ?_)
      refine lv_iconst (v := 4) C.1 C.2.1 dL_law_685 (by decide) ?_
      refine lv_ishr C.1 C.2.1 dL_law_686 ?_
      refine lv_bipush (v := 8) C.1 C.2.1 dL_law_687 (by decide) ?_
      obtain ⟨x148, m149, r150, hf⟩ := bd2_s hf
      refine z_ci hW (z_runS C hW [.int (x145 >>> ((4 : Int32) &&& 31)), .int 8] [] kvL_low q_831 (tL_low l C.2.2.2.2.2.2.1  r150) rfl rfl ⟨by decide, by decide⟩ rfl hl.1 rfl (Nat.le_of_ble_eq_true rfl) dL_law_689 ⟨Nat.le_of_ble_eq_true rfl, Nat.le_of_ble_eq_true rfl⟩) (fun H locs hW => ?_)
      refine lv_istore (lv' := [(15, .int x148), (14, .int x142), (1, .ref (ad a1)), (2, .int a2), (3, .ref (ad a3)), (4, .ref (ad a4)), (6, .int a6), (7, .int a7), (13, .int a13), (0, .ref b)]) C.1 C.2.1 dL_law_692 hl (by decide) rfl (fun ls hl => ?_)
      refine lv_aload_n C.1 C.2.1 dL_law_694 rfl (lv_at hl 2 rfl) ?_
      refine lv_aload_n C.1 C.2.1 dL_law_695 rfl (lv_at hl 2 rfl) ?_
      refine lv_iconst (v := 0) C.1 C.2.1 dL_law_696 (by decide) ?_
      refine lv_iload C.1 C.2.1 dL_law_697 (lv_at hl 1 rfl) ?_
      refine lv_iload C.1 C.2.1 dL_law_699 (lv_at hl 0 rfl) ?_
      obtain ⟨x151, m152, r153, hf⟩ := bd2_s hf
      refine z_ci hW (z_runV C hW [.int 0, .int x142, .int x148] [.ref (ad a1)] (ha1).1 (ha1).2.1 kX11.1 kvX11_from q_606 (tX11_from l C.2.2.2.2.2.2.1 ha1 r153) rfl rfl ⟨by decide, by decide⟩ rfl hl.1 rfl (Nat.le_of_ble_eq_true rfl) dL_law_701 ⟨Nat.le_of_ble_eq_true rfl, Nat.le_of_ble_eq_true rfl⟩) (fun H locs hW => ?_)
      obtain ⟨x154, m155, r156, hf⟩ := bd2_s hf
      refine z_ci hW (z_runS C hW [.ref (ad a1), .int x151] [] kvL_told q_839 (tL_told l C.2.2.2.2.2.2.1 ha1 r156) rfl rfl ⟨by decide, by decide⟩ rfl hl.1 rfl (Nat.le_of_ble_eq_true rfl) dL_law_704 ⟨Nat.le_of_ble_eq_true rfl, Nat.le_of_ble_eq_true rfl⟩) (fun H locs hW => ?_)
      refine lv_istore (lv' := [(16, .int x154), (15, .int x148), (14, .int x142), (1, .ref (ad a1)), (2, .int a2), (3, .ref (ad a3)), (4, .ref (ad a4)), (6, .int a6), (7, .int a7), (13, .int a13), (0, .ref b)]) C.1 C.2.1 dL_law_707 hl (by decide) rfl (fun ls hl => ?_)
      refine lv_aload_n C.1 C.2.1 dL_law_709 rfl (lv_at hl 3 rfl) ?_
      refine lv_aload_n C.1 C.2.1 dL_law_710 rfl (lv_at hl 3 rfl) ?_
      refine lv_iconst (v := 0) C.1 C.2.1 dL_law_711 (by decide) ?_
      refine lv_iload C.1 C.2.1 dL_law_712 (lv_at hl 2 rfl) ?_
      refine lv_iconst (v := 1) C.1 C.2.1 dL_law_714 (by decide) ?_
      refine lv_iadd C.1 C.2.1 dL_law_715 ?_
      refine lv_iload C.1 C.2.1 dL_law_716 (lv_at hl 1 rfl) ?_
      obtain ⟨x157, m158, r159, hf⟩ := bd2_s hf
      refine z_ci hW (z_runV C hW [.int 0, .int (x142 + 1), .int x148] [.ref (ad a1)] (ha1).1 (ha1).2.1 kX11.1 kvX11_from q_606 (tX11_from l C.2.2.2.2.2.2.1 ha1 r159) rfl rfl ⟨by decide, by decide⟩ rfl hl.1 rfl (Nat.le_of_ble_eq_true rfl) dL_law_718 ⟨Nat.le_of_ble_eq_true rfl, Nat.le_of_ble_eq_true rfl⟩) (fun H locs hW => ?_)
      obtain ⟨x160, m161, r162, hf⟩ := bd2_s hf
      refine z_ci hW (z_runS C hW [.ref (ad a1), .int x157] [] kvL_told q_839 (tL_told l C.2.2.2.2.2.2.1 ha1 r162) rfl rfl ⟨by decide, by decide⟩ rfl hl.1 rfl (Nat.le_of_ble_eq_true rfl) dL_law_721 ⟨Nat.le_of_ble_eq_true rfl, Nat.le_of_ble_eq_true rfl⟩) (fun H locs hW => ?_)
      refine lv_istore (lv' := [(17, .int x160), (16, .int x154), (15, .int x148), (14, .int x142), (1, .ref (ad a1)), (2, .int a2), (3, .ref (ad a3)), (4, .ref (ad a4)), (6, .int a6), (7, .int a7), (13, .int a13), (0, .ref b)]) C.1 C.2.1 dL_law_724 hl (by decide) rfl (fun ls hl => ?_)
      refine lv_iload C.1 C.2.1 dL_law_726 (lv_at hl 1 rfl) ?_
      refine lv_bipush (v := (-2)) C.1 C.2.1 dL_law_728 (by decide) ?_
      refine lv_iload C.1 C.2.1 dL_law_730 (lv_at hl 8 rfl) ?_
      refine lv_imul C.1 C.2.1 dL_law_732 ?_
      refine lv_icmp_lt (tgt := 752) C.1 C.2.1 dL_law_733 (by decide) (fun c163 => ?_) (fun c163 => ?_)
      · have hf := if_t c163 hf
        refine lv_iconst (v := 0) C.1 C.2.1 dL_law_752 (by decide) ?_
        exact (lw_no hf hres).elim
      · have hf := if_f c163 hf
        refine lv_iload C.1 C.2.1 dL_law_736 (lv_at hl 1 rfl) ?_
        refine lv_iconst (v := 2) C.1 C.2.1 dL_law_738 (by decide) ?_
        refine lv_iload C.1 C.2.1 dL_law_739 (lv_at hl 8 rfl) ?_
        refine lv_imul C.1 C.2.1 dL_law_741 ?_
        refine lv_icmp_gt (tgt := 752) C.1 C.2.1 dL_law_742 (by decide) (fun c164 => ?_) (fun c164 => ?_)
        · have hf := if_t c164 hf
          refine lv_iconst (v := 0) C.1 C.2.1 dL_law_752 (by decide) ?_
          exact (lw_no hf hres).elim
        · have hf := if_f c164 hf
          refine lv_iload C.1 C.2.1 dL_law_745 (lv_at hl 0 rfl) ?_
          refine lv_iload C.1 C.2.1 dL_law_747 (lv_at hl 1 rfl) ?_
          refine lv_icmp_ge (tgt := 754) C.1 C.2.1 dL_law_749 (by decide) (fun c165 => ?_) (fun c165 => ?_)
          · have hf := if_t c165 hf
            refine lv_iload C.1 C.2.1 dL_law_754 (lv_at hl 10 rfl) ?_
            refine lv_if_eq (tgt := 781) C.1 C.2.1 dL_law_756 (by decide) (fun c166 => ?_) (fun c166 => ?_)
            · have hf := if_t c166 hf
              exact wL_law_781 hge CS hres  ha1 ha3 ha4 hW (lv_sub hl [4, 5, 6, 7, 8, 9, 11] rfl) hf
            · have hf := if_f c166 hf
              refine lv_aload_n C.1 C.2.1 dL_law_759 rfl (lv_at hl 4 rfl) ?_
              refine lv_aload_n C.1 C.2.1 dL_law_760 rfl (lv_at hl 4 rfl) ?_
              refine lv_iconst (v := 0) C.1 C.2.1 dL_law_761 (by decide) ?_
              refine lv_iload C.1 C.2.1 dL_law_762 (lv_at hl 3 rfl) ?_
              refine lv_iload C.1 C.2.1 dL_law_764 (lv_at hl 2 rfl) ?_
              refine lv_iconst (v := 1) C.1 C.2.1 dL_law_766 (by decide) ?_
              refine lv_iadd C.1 C.2.1 dL_law_767 ?_
              obtain ⟨x167, m168, r169, hf⟩ := bd2_s hf
              refine z_ci hW (z_runV C hW [.int 0, .int x142, .int (x148 + 1)] [.ref (ad a1)] (ha1).1 (ha1).2.1 kX11.1 kvX11_from q_606 (tX11_from l C.2.2.2.2.2.2.1 ha1 r169) rfl rfl ⟨by decide, by decide⟩ rfl hl.1 rfl (Nat.le_of_ble_eq_true rfl) dL_law_768 ⟨Nat.le_of_ble_eq_true rfl, Nat.le_of_ble_eq_true rfl⟩) (fun H locs hW => ?_)
              obtain ⟨x170, m171, r172, hf⟩ := bd2_s hf
              refine z_ci hW (z_runS C hW [.ref (ad a1), .int x167] [] kvL_told q_839 (tL_told l C.2.2.2.2.2.2.1 ha1 r172) rfl rfl ⟨by decide, by decide⟩ rfl hl.1 rfl (Nat.le_of_ble_eq_true rfl) dL_law_771 ⟨Nat.le_of_ble_eq_true rfl, Nat.le_of_ble_eq_true rfl⟩) (fun H locs hW => ?_)
              refine lv_iload C.1 C.2.1 dL_law_774 (lv_at hl 1 rfl) ?_
              refine lv_icmp_le (tgt := 781) C.1 C.2.1 dL_law_776 (by decide) (fun c173 => ?_) (fun c173 => ?_)
              · have hf := if_t c173 hf
                exact wL_law_781 hge CS hres  ha1 ha3 ha4 hW (lv_sub hl [4, 5, 6, 7, 8, 9, 11] rfl) hf
              · have hf := if_f c173 hf
                refine lv_iconst (v := 0) C.1 C.2.1 dL_law_779 (by decide) ?_
                exact (lw_no hf hres).elim
          · have hf := if_f c165 hf
            refine lv_iconst (v := 0) C.1 C.2.1 dL_law_752 (by decide) ?_
            exact (lw_no hf hres).elim
    · have hf := if_f c138 hf
      refine lv_iload C.1 C.2.1 dL_law_628 (lv_at hl 6 rfl) ?_
      refine lv_if_eq (tgt := 657) C.1 C.2.1 dL_law_630 (by decide) (fun c174 => ?_) (fun c174 => ?_)
      · have hf := if_t c174 hf
        exact wL_law_657 hge CS hres hk622 ha1 ha3 ha4 hW (lv_sub hl [0, 1, 2, 3, 4, 5, 7, 8] rfl) hf
      · have hf := if_f c174 hf
        refine lv_aload_n C.1 C.2.1 dL_law_633 rfl (lv_at hl 2 rfl) ?_
        refine lv_iconst (v := 3) C.1 C.2.1 dL_law_634 (by decide) ?_
        refine lv_iload C.1 C.2.1 dL_law_635 (lv_at hl 7 rfl) ?_
        refine lv_imul C.1 C.2.1 dL_law_637 ?_
        obtain ⟨g175, hf⟩ := gd_s hf
        refine z_iald C hW ha3 g175 dL_law_638 ?_
        refine lv_iconst (v := 2) C.1 C.2.1 dL_law_639 (by decide) ?_
        refine lv_icmp_eq (tgt := 657) C.1 C.2.1 dL_law_640 (by decide) (fun c176 => ?_) (fun c176 => ?_)
        · have hf := if_t c176 hf
          exact wL_law_657 hge CS hres hk622 ha1 ha3 ha4 hW (lv_sub hl [0, 1, 2, 3, 4, 5, 7, 8] rfl) hf
        · have hf := if_f c176 hf
          refine lv_aload_n C.1 C.2.1 dL_law_643 rfl (lv_at hl 2 rfl) ?_
          refine lv_iconst (v := 3) C.1 C.2.1 dL_law_644 (by decide) ?_
          refine lv_iload C.1 C.2.1 dL_law_645 (lv_at hl 7 rfl) ?_
          refine lv_imul C.1 C.2.1 dL_law_647 ?_
          obtain ⟨g177, hf⟩ := gd_s hf
          refine z_iald C hW ha3 g177 dL_law_648 ?_
          refine lv_iconst (v := 4) C.1 C.2.1 dL_law_649 (by decide) ?_
          refine lv_icmp_eq (tgt := 657) C.1 C.2.1 dL_law_650 (by decide) (fun c178 => ?_) (fun c178 => ?_)
          · have hf := if_t c178 hf
            exact wL_law_657 hge CS hres hk622 ha1 ha3 ha4 hW (lv_sub hl [0, 1, 2, 3, 4, 5, 7, 8] rfl) hf
          · have hf := if_f c178 hf
            refine lv_iconst (v := 1) C.1 C.2.1 dL_law_653 (by decide) ?_
            refine lv_goto (tgt := 658) C.1 C.2.1 dL_law_654 (by decide) ?_
            exact wL_law_658 hge CS hres hk622 ha1 ha3 ha4 hW (lv_sub hl [0, 1, 2, 3, 4, 5, 7, 8] rfl) hf
set_option maxRecDepth 100000 in
set_option maxHeartbeats 4000000 in
theorem wL_law_611 (hge : ∀ k, k < ad 1000 → s.heap.size ≤ ad k) (CS : CxS p s m meth c #[Value.ref b] code 29 ret RL D ca ad b L xs) {res : Int32 × Mm} (hres : res.1 = 1) {N : Nat}  {a1 : Nat} {a2 : Int32} {a3 : Nat} {a4 : Nat} {a6 : Int32} {a7 : Int32} {s0 : Int32} {s1 : Int32} {mm : Mm} {H : Heap} {locs : List Loc} {ls : Array Slot} (ha1 : sX11 a1) (ha3 : sJ ad a3) (ha4 : sJ ad a4) (hW : Wd D ca ad s.heap mm H locs) (hl : lv_has ls 29 [(1, .ref (ad a1)), (2, .int a2), (3, .ref (ad a3)), (4, .ref (ad a4)), (6, .int a6), (7, .int a7), (0, .ref b)]) (hf : fL_law_611 N L xs a1 a2 a3 a4 a6 a7 s0 s1 mm = some res) : W p l e room_1 s m #[Value.ref b] below meth c H locs 179 3665 (lw_Z below #[Value.ref b] s) (F0 m 611 ls [.int s1, .int s0]) := by
  have C := CS.1
  unfold fL_law_611 at hf
  refine lv_icmp_eq (tgt := 616) C.1 C.2.1 dL_law_611 (by decide) (fun c179 => ?_) (fun c179 => ?_)
  · have hf := if_t c179 hf
    refine lv_iconst (v := 1) C.1 C.2.1 dL_law_616 (by decide) ?_
    refine lv_istore (lv' := [(13, .int 1), (1, .ref (ad a1)), (2, .int a2), (3, .ref (ad a3)), (4, .ref (ad a4)), (6, .int a6), (7, .int a7), (0, .ref b)]) C.1 C.2.1 dL_law_617 hl (by decide) rfl (fun ls hl => ?_)
    refine lv_iconst (v := 0) C.1 C.2.1 dL_law_619 (by decide) ?_
    refine lv_istore (lv' := [(14, .int 0), (13, .int 1), (1, .ref (ad a1)), (2, .int a2), (3, .ref (ad a3)), (4, .ref (ad a4)), (6, .int a6), (7, .int a7), (0, .ref b)]) C.1 C.2.1 dL_law_620 hl (by decide) rfl (fun ls hl => ?_)
    exact wL_law_622 hge CS hres  N ha1 ha3 ha4 hW (lv_sub hl [2, 3, 4, 5, 6, 7, 1, 0, 8] rfl) hf
  · have hf := if_f c179 hf
    refine lv_iconst (v := 0) C.1 C.2.1 dL_law_614 (by decide) ?_
    exact (lw_no hf hres).elim
set_option maxRecDepth 100000 in
set_option maxHeartbeats 4000000 in
theorem wL_law_599 (hge : ∀ k, k < ad 1000 → s.heap.size ≤ ad k) (CS : CxS p s m meth c #[Value.ref b] code 29 ret RL D ca ad b L xs) {res : Int32 × Mm} (hres : res.1 = 1) {N : Nat}  {a1 : Nat} {a2 : Int32} {a3 : Nat} {a4 : Nat} {a6 : Int32} {a7 : Int32} {a11 : Int32} {s0 : Int32} {mm : Mm} {H : Heap} {locs : List Loc} {ls : Array Slot} (ha1 : sX11 a1) (ha3 : sJ ad a3) (ha4 : sJ ad a4) (hW : Wd D ca ad s.heap mm H locs) (hl : lv_has ls 29 [(1, .ref (ad a1)), (2, .int a2), (3, .ref (ad a3)), (4, .ref (ad a4)), (6, .int a6), (7, .int a7), (11, .int a11), (0, .ref b)]) (hf : fL_law_599 N L xs a1 a2 a3 a4 a6 a7 a11 s0 mm = some res) : W p l e room_1 s m #[Value.ref b] below meth c H locs 179 3665 (lw_Z below #[Value.ref b] s) (F0 m 599 ls [.int s0]) := by
  have C := CS.1
  unfold fL_law_599 at hf
  refine lv_iload C.1 C.2.1 dL_law_599 (lv_at hl 5 rfl) ?_
  refine lv_iload C.1 C.2.1 dL_law_601 (lv_at hl 6 rfl) ?_
  refine lv_icmp_lt (tgt := 610) C.1 C.2.1 dL_law_603 (by decide) (fun c180 => ?_) (fun c180 => ?_)
  · have hf := if_t c180 hf
    refine lv_iconst (v := 0) C.1 C.2.1 dL_law_610 (by decide) ?_
    exact wL_law_611 hge CS hres  ha1 ha3 ha4 hW (lv_sub hl [0, 1, 2, 3, 4, 5, 7] rfl) hf
  · have hf := if_f c180 hf
    refine lv_iconst (v := 1) C.1 C.2.1 dL_law_606 (by decide) ?_
    refine lv_goto (tgt := 611) C.1 C.2.1 dL_law_607 (by decide) ?_
    exact wL_law_611 hge CS hres  ha1 ha3 ha4 hW (lv_sub hl [0, 1, 2, 3, 4, 5, 7] rfl) hf
set_option maxRecDepth 100000 in
set_option maxHeartbeats 4000000 in
theorem wL_law_253 (hge : ∀ k, k < ad 1000 → s.heap.size ≤ ad k) (CS : CxS p s m meth c #[Value.ref b] code 29 ret RL D ca ad b L xs) {res : Int32 × Mm} (hres : res.1 = 1) {N : Nat}  : ∀ (n : Nat) {a1 : Nat} {a2 : Int32} {a3 : Nat} {a4 : Nat} {a6 : Int32} {a7 : Int32} {a10 : Int32} {a11 : Int32} {mm : Mm} {H : Heap} {locs : List Loc} {ls : Array Slot}, (sX11 a1) → (sJ ad a3) → (sJ ad a4) → Wd D ca ad s.heap mm H locs → lv_has ls 29 [(1, .ref (ad a1)), (2, .int a2), (3, .ref (ad a3)), (4, .ref (ad a4)), (6, .int a6), (7, .int a7), (10, .int a10), (11, .int a11), (0, .ref b)] → fL_law_253 N L xs n a1 a2 a3 a4 a6 a7 a10 a11 mm = some res → W p l e room_1 s m #[Value.ref b] below meth c H locs 179 3665 (lw_Z below #[Value.ref b] s) (F0 m 253 ls []) := by
  have C := CS.1
  intro n
  induction n with
  | zero => intro a1 a2 a3 a4 a6 a7 a10 a11 mm H locs ls ha1 ha3 ha4 hW hl hf; cases hf
  | succ n ih =>
    intro a1 a2 a3 a4 a6 a7 a10 a11 mm H locs ls ha1 ha3 ha4 hW hl hf
    have hk253 : ∀ (a1 : Nat) (a2 : Int32) (a3 : Nat) (a4 : Nat) (a6 : Int32) (a7 : Int32) (a10 : Int32) (a11 : Int32) (mm : Mm) (H : Heap) (locs : List Loc) (ls : Array Slot), (sX11 a1) → (sJ ad a3) → (sJ ad a4) → Wd D ca ad s.heap mm H locs → lv_has ls 29 [(1, .ref (ad a1)), (2, .int a2), (3, .ref (ad a3)), (4, .ref (ad a4)), (6, .int a6), (7, .int a7), (10, .int a10), (11, .int a11), (0, .ref b)] → (fL_law_253 N L xs n) a1 a2 a3 a4 a6 a7 a10 a11 mm = some res → W p l e room_1 s m #[Value.ref b] below meth c H locs 179 3665 (lw_Z below #[Value.ref b] s) (F0 m 253 ls []) := fun a1 a2 a3 a4 a6 a7 a10 a11 mm H locs ls ha1 ha3 ha4 hW hl hf => ih ha1 ha3 ha4 hW hl hf
    unfold fL_law_253 at hf
    try dsimp only at hf
    refine lv_iload C.1 C.2.1 dL_law_253 (lv_at hl 7 rfl) ?_
    refine lv_iconst (v := 4) C.1 C.2.1 dL_law_255 (by decide) ?_
    refine lv_icmp_ge (tgt := 553) C.1 C.2.1 dL_law_256 (by decide) (fun c181 => ?_) (fun c181 => ?_)
    · have hf := if_t c181 hf
      refine lv_aload_n C.1 C.2.1 dL_law_553 rfl (lv_at hl 8 rfl) ?_
      refine lv_bipush (v := 16) C.1 C.2.1 dL_law_554 (by decide) ?_
      obtain ⟨x182, m183, r184, hf⟩ := bd2_s hf
      refine z_ci hW (z_runX CS hW [.ref b, .int 16] [] kvL_cell q_835 (tL_cell l C.2.2.2.2.2.2.1  r184) rfl rfl ⟨by decide, by decide⟩ rfl hl.1 rfl (Nat.le_of_ble_eq_true rfl) dL_law_556 ⟨Nat.le_of_ble_eq_true rfl, Nat.le_of_ble_eq_true rfl⟩) (fun H locs hW => ?_)
      refine lv_bipush (v := 40) C.1 C.2.1 dL_law_559 (by decide) ?_
      obtain ⟨x185, m186, r187, hf⟩ := bd2_s hf
      refine z_ci hW (z_runS C hW [.int x182, .int 40] [] kvL_low q_831 (tL_low l C.2.2.2.2.2.2.1  r187) rfl rfl ⟨by decide, by decide⟩ rfl hl.1 rfl (Nat.le_of_ble_eq_true rfl) dL_law_561 ⟨Nat.le_of_ble_eq_true rfl, Nat.le_of_ble_eq_true rfl⟩) (fun H locs hW => ?_)
      refine lv_istore (lv' := [(11, .int x185), (1, .ref (ad a1)), (2, .int a2), (3, .ref (ad a3)), (4, .ref (ad a4)), (6, .int a6), (7, .int a7), (10, .int a10), (0, .ref b)]) C.1 C.2.1 dL_law_564 hl (by decide) rfl (fun ls hl => ?_)
      refine lv_aload_n C.1 C.2.1 dL_law_566 rfl (lv_at hl 1 rfl) ?_
      refine lv_iconst (v := 1) C.1 C.2.1 dL_law_567 (by decide) ?_
      refine lv_iload C.1 C.2.1 dL_law_568 (lv_at hl 0 rfl) ?_
      obtain ⟨x188, m189, r190, hf⟩ := bd2_s hf
      refine z_ci hW (z_runV C hW [.int 1, .int x185] [] (ha1).1 (ha1).2.1 kX11.1 kvX11_ways q_533 (tX11_ways l C.2.2.2.2.2.2.1 ha1 r190) rfl rfl ⟨by decide, by decide⟩ rfl hl.1 rfl (Nat.le_of_ble_eq_true rfl) dL_law_570 ⟨Nat.le_of_ble_eq_true rfl, Nat.le_of_ble_eq_true rfl⟩) (fun H locs hW => ?_)
      refine lv_istore (lv' := [(12, .int x188), (11, .int x185), (1, .ref (ad a1)), (2, .int a2), (3, .ref (ad a3)), (4, .ref (ad a4)), (6, .int a6), (7, .int a7), (10, .int a10), (0, .ref b)]) C.1 C.2.1 dL_law_573 hl (by decide) rfl (fun ls hl => ?_)
      refine lv_iload C.1 C.2.1 dL_law_575 (lv_at hl 0 rfl) ?_
      refine lv_aload_n C.1 C.2.1 dL_law_577 rfl (lv_at hl 2 rfl) ?_
      refine lv_iconst (v := 1) C.1 C.2.1 dL_law_578 (by decide) ?_
      refine lv_iload C.1 C.2.1 dL_law_579 (lv_at hl 1 rfl) ?_
      refine lv_iconst (v := 1) C.1 C.2.1 dL_law_581 (by decide) ?_
      refine lv_iadd C.1 C.2.1 dL_law_582 ?_
      obtain ⟨x191, m192, r193, hf⟩ := bd2_s hf
      refine z_ci hW (z_runV C hW [.int 1, .int (x185 + 1)] [.int x188] (ha1).1 (ha1).2.1 kX11.1 kvX11_ways q_533 (tX11_ways l C.2.2.2.2.2.2.1 ha1 r193) rfl rfl ⟨by decide, by decide⟩ rfl hl.1 rfl (Nat.le_of_ble_eq_true rfl) dL_law_583 ⟨Nat.le_of_ble_eq_true rfl, Nat.le_of_ble_eq_true rfl⟩) (fun H locs hW => ?_)
      refine lv_icmp_lt (tgt := 614) C.1 C.2.1 dL_law_586 (by decide) (fun c194 => ?_) (fun c194 => ?_)
      · have hf := if_t c194 hf
        refine lv_iconst (v := 0) C.1 C.2.1 dL_law_614 (by decide) ?_
        exact (lw_no hf hres).elim
      · have hf := if_f c194 hf
        refine lv_iload C.1 C.2.1 dL_law_589 (lv_at hl 0 rfl) ?_
        refine lv_if_le (tgt := 598) C.1 C.2.1 dL_law_591 (by decide) (fun c195 => ?_) (fun c195 => ?_)
        · have hf := if_t c195 hf
          refine lv_iconst (v := 0) C.1 C.2.1 dL_law_598 (by decide) ?_
          exact wL_law_599 hge CS hres  ha1 ha3 ha4 hW (lv_sub hl [2, 3, 4, 5, 6, 7, 1, 9] rfl) hf
        · have hf := if_f c195 hf
          refine lv_iconst (v := 1) C.1 C.2.1 dL_law_594 (by decide) ?_
          refine lv_goto (tgt := 599) C.1 C.2.1 dL_law_595 (by decide) ?_
          exact wL_law_599 hge CS hres  ha1 ha3 ha4 hW (lv_sub hl [2, 3, 4, 5, 6, 7, 1, 9] rfl) hf
    · have hf := if_f c181 hf
      refine lv_aload_n C.1 C.2.1 dL_law_259 rfl (lv_at hl 0 rfl) ?_
      refine lv_iconst (v := 0) C.1 C.2.1 dL_law_260 (by decide) ?_
      refine lv_iload_n C.1 C.2.1 dL_law_261 rfl (lv_at hl 1 rfl) ?_
      refine lv_aload_n C.1 C.2.1 dL_law_262 rfl (lv_at hl 2 rfl) ?_
      refine lv_bipush (v := 18) C.1 C.2.1 dL_law_263 (by decide) ?_
      obtain ⟨g196, hf⟩ := gd_s hf
      refine z_iald C hW ha3 g196 dL_law_265 ?_
      refine lv_aload_n C.1 C.2.1 dL_law_266 rfl (lv_at hl 8 rfl) ?_
      refine lv_bipush (v := 8) C.1 C.2.1 dL_law_267 (by decide) ?_
      refine lv_iload C.1 C.2.1 dL_law_269 (lv_at hl 7 rfl) ?_
      refine lv_iadd C.1 C.2.1 dL_law_271 ?_
      obtain ⟨x197, m198, r199, hf⟩ := bd2_s hf
      refine z_ci hW (z_runX CS hW [.ref b, .int (8 + a11)] [.int (rd mm a3 ((18 : Int32).toNatClampNeg)), .int a2, .int 0, .ref (ad a1)] kvL_cell q_835 (tL_cell l C.2.2.2.2.2.2.1  r199) rfl rfl ⟨by decide, by decide⟩ rfl hl.1 rfl (Nat.le_of_ble_eq_true rfl) dL_law_272 ⟨Nat.le_of_ble_eq_true rfl, Nat.le_of_ble_eq_true rfl⟩) (fun H locs hW => ?_)
      refine lv_aload C.1 C.2.1 dL_law_275 (lv_at hl 3 rfl) ?_
      obtain ⟨x200, m201, r202, hf⟩ := bd2_s hf
      refine z_ci hW (z_runS C hW [.ref (ad a1), .int 0, .int a2, .int (rd mm a3 ((18 : Int32).toNatClampNeg)), .int x197, .ref (ad a4)] [] kvL_laying q_910 (tL_laying l C.2.2.2.2.2.2.1 ha1 ha4 r202) rfl rfl ⟨by decide, by decide⟩ rfl hl.1 rfl (Nat.le_of_ble_eq_true rfl) dL_law_277 ⟨Nat.le_of_ble_eq_true rfl, Nat.le_of_ble_eq_true rfl⟩) (fun H locs hW => ?_)
      refine lv_if_ne (tgt := 285) C.1 C.2.1 dL_law_280 (by decide) (fun c203 => ?_) (fun c203 => ?_)
      · have hf := if_f c203 hf
        refine lv_aload_n C.1 C.2.1 dL_law_285 rfl (lv_at hl 0 rfl) ?_
        refine lv_iconst (v := 0) C.1 C.2.1 dL_law_286 (by decide) ?_
        refine lv_iconst (v := 1) C.1 C.2.1 dL_law_287 (by decide) ?_
        obtain ⟨x204, m205, r206, hf⟩ := bd2_s hf
        refine z_ci hW (z_runV C hW [.int 0, .int 1] [] (ha1).1 (ha1).2.1 kX11.1 kvX11_judge q_392 (tX11_judge l C.2.2.2.2.2.2.1 ha1 r206) rfl rfl ⟨by decide, by decide⟩ rfl hl.1 rfl (Nat.le_of_ble_eq_true rfl) dL_law_288 ⟨Nat.le_of_ble_eq_true rfl, Nat.le_of_ble_eq_true rfl⟩) (fun H locs hW => ?_)
        refine lv_istore (lv' := [(12, .int x204), (1, .ref (ad a1)), (2, .int a2), (3, .ref (ad a3)), (4, .ref (ad a4)), (6, .int a6), (7, .int a7), (10, .int a10), (11, .int a11), (0, .ref b)]) C.1 C.2.1 dL_law_291 hl (by decide) rfl (fun ls hl => ?_)
        refine lv_iload C.1 C.2.1 dL_law_293 (lv_at hl 0 rfl) ?_
        refine lv_if_lt (tgt := 319) C.1 C.2.1 dL_law_295 (by decide) (fun c207 => ?_) (fun c207 => ?_)
        · have hf := if_t c207 hf
          refine lv_iconst (v := 0) C.1 C.2.1 dL_law_319 (by decide) ?_
          exact (lw_no hf hres).elim
        · have hf := if_f c207 hf
          refine lv_aload_n C.1 C.2.1 dL_law_298 rfl (lv_at hl 1 rfl) ?_
          obtain ⟨x208, m209, r210, hf⟩ := bd2_s hf
          refine z_ci hW (z_runV C hW [] [] (ha1).1 (ha1).2.1 kX11.1 kvX11_asked q_800 (tX11_asked l C.2.2.2.2.2.2.1 ha1 r210) rfl rfl ⟨by decide, by decide⟩ rfl hl.1 rfl (Nat.le_of_ble_eq_true rfl) dL_law_299 ⟨Nat.le_of_ble_eq_true rfl, Nat.le_of_ble_eq_true rfl⟩) (fun H locs hW => ?_)
          refine lv_iload C.1 C.2.1 dL_law_302 (lv_at hl 0 rfl) ?_
          refine lv_iadd C.1 C.2.1 dL_law_304 ?_
          refine lv_iconst (v := 2) C.1 C.2.1 dL_law_305 (by decide) ?_
          refine lv_iload C.1 C.2.1 dL_law_306 (lv_at hl 5 rfl) ?_
          refine lv_imul C.1 C.2.1 dL_law_308 ?_
          refine lv_icmp_ne (tgt := 319) C.1 C.2.1 dL_law_309 (by decide) (fun c211 => ?_) (fun c211 => ?_)
          · have hf := if_f c211 hf
            refine lv_iconst (v := 0) C.1 C.2.1 dL_law_319 (by decide) ?_
            exact (lw_no hf hres).elim
          · have hf := if_t c211 hf
            refine lv_iload C.1 C.2.1 dL_law_312 (lv_at hl 0 rfl) ?_
            refine lv_iload C.1 C.2.1 dL_law_314 (lv_at hl 6 rfl) ?_
            refine lv_icmp_le (tgt := 321) C.1 C.2.1 dL_law_316 (by decide) (fun c212 => ?_) (fun c212 => ?_)
            · have hf := if_t c212 hf
              refine lv_aload_n C.1 C.2.1 dL_law_321 rfl (lv_at hl 1 rfl) ?_
              refine lv_iconst (v := 0) C.1 C.2.1 dL_law_322 (by decide) ?_
              obtain ⟨x213, m214, r215, hf⟩ := bd2_s hf
              refine z_ci hW (z_runV C hW [.int 0] [] (ha1).1 (ha1).2.1 kX11.1 kvX11_sure q_555 (tX11_sure l C.2.2.2.2.2.2.1 ha1 r215) rfl rfl ⟨by decide, by decide⟩ rfl hl.1 rfl (Nat.le_of_ble_eq_true rfl) dL_law_323 ⟨Nat.le_of_ble_eq_true rfl, Nat.le_of_ble_eq_true rfl⟩) (fun H locs hW => ?_)
              refine lv_istore (lv' := [(13, .int x213), (12, .int x204), (1, .ref (ad a1)), (2, .int a2), (3, .ref (ad a3)), (4, .ref (ad a4)), (6, .int a6), (7, .int a7), (10, .int a10), (11, .int a11), (0, .ref b)]) C.1 C.2.1 dL_law_326 hl (by decide) rfl (fun ls hl => ?_)
              refine lv_iload C.1 C.2.1 dL_law_328 (lv_at hl 0 rfl) ?_
              refine lv_if_lt (tgt := 390) C.1 C.2.1 dL_law_330 (by decide) (fun c216 => ?_) (fun c216 => ?_)
              · have hf := if_t c216 hf
                refine lv_iconst (v := 0) C.1 C.2.1 dL_law_390 (by decide) ?_
                exact (lw_no hf hres).elim
              · have hf := if_f c216 hf
                refine lv_iload C.1 C.2.1 dL_law_333 (lv_at hl 0 rfl) ?_
                refine lv_iload C.1 C.2.1 dL_law_335 (lv_at hl 1 rfl) ?_
                refine lv_icmp_gt (tgt := 390) C.1 C.2.1 dL_law_337 (by decide) (fun c217 => ?_) (fun c217 => ?_)
                · have hf := if_t c217 hf
                  refine lv_iconst (v := 0) C.1 C.2.1 dL_law_390 (by decide) ?_
                  exact (lw_no hf hres).elim
                · have hf := if_f c217 hf
                  refine lv_iload C.1 C.2.1 dL_law_340 (lv_at hl 0 rfl) ?_
                  refine lv_iload C.1 C.2.1 dL_law_342 (lv_at hl 8 rfl) ?_
                  refine lv_icmp_gt (tgt := 390) C.1 C.2.1 dL_law_344 (by decide) (fun c218 => ?_) (fun c218 => ?_)
                  · have hf := if_t c218 hf
                    refine lv_iconst (v := 0) C.1 C.2.1 dL_law_390 (by decide) ?_
                    exact (lw_no hf hres).elim
                  · have hf := if_f c218 hf
                    refine lv_aload_n C.1 C.2.1 dL_law_347 rfl (lv_at hl 2 rfl) ?_
                    refine lv_iconst (v := 0) C.1 C.2.1 dL_law_348 (by decide) ?_
                    refine lv_iconst (v := 0) C.1 C.2.1 dL_law_349 (by decide) ?_
                    refine lv_iload C.1 C.2.1 dL_law_350 (lv_at hl 9 rfl) ?_
                    refine lv_iconst (v := 4) C.1 C.2.1 dL_law_352 (by decide) ?_
                    obtain ⟨x219, m220, r221, hf⟩ := bd2_s hf
                    refine z_ci hW (z_runV C hW [.int 0, .int 0, .int a11, .int 4] [] (ha1).1 (ha1).2.1 kX11.1 kvX11_mixed q_578 (tX11_mixed l C.2.2.2.2.2.2.1 ha1 r221) rfl rfl ⟨by decide, by decide⟩ rfl hl.1 rfl (Nat.le_of_ble_eq_true rfl) dL_law_353 ⟨Nat.le_of_ble_eq_true rfl, Nat.le_of_ble_eq_true rfl⟩) (fun H locs hW => ?_)
                    refine lv_iconst (v := 1) C.1 C.2.1 dL_law_356 (by decide) ?_
                    refine lv_icmp_ne (tgt := 390) C.1 C.2.1 dL_law_357 (by decide) (fun c222 => ?_) (fun c222 => ?_)
                    · have hf := if_f c222 hf
                      refine lv_iconst (v := 0) C.1 C.2.1 dL_law_390 (by decide) ?_
                      exact (lw_no hf hres).elim
                    · have hf := if_t c222 hf
                      refine lv_aload_n C.1 C.2.1 dL_law_360 rfl (lv_at hl 2 rfl) ?_
                      obtain ⟨x223, m224, r225, hf⟩ := bd2_s hf
                      refine z_cl hW (z_runV C hW [] [] (ha1).1 (ha1).2.1 kX11.1 kvX11_upper q_804 (tX11_upper l C.2.2.2.2.2.2.1 ha1 r225) rfl rfl ⟨by decide, by decide⟩ rfl hl.1 rfl (Nat.le_of_ble_eq_true rfl) dL_law_361 ⟨Nat.le_of_ble_eq_true rfl, Nat.le_of_ble_eq_true rfl⟩) (fun H locs hW => ?_)
                      refine lv_iload C.1 C.2.1 dL_law_364 (lv_at hl 0 rfl) ?_
                      refine lv_i2l C.1 C.2.1 dL_law_366 rfl ?_
                      refine W.lcmp C.1 C.2.1 dL_law_367 ?_
                      refine lv_if_ne (tgt := 390) C.1 C.2.1 dL_law_368 (by decide) (fun c226 => ?_) (fun c226 => ?_)
                      · have hf := if_f c226 hf
                        refine lv_iconst (v := 0) C.1 C.2.1 dL_law_390 (by decide) ?_
                        exact (lw_no hf hres).elim
                      · have hf := if_t c226 hf
                        refine lv_aload_n C.1 C.2.1 dL_law_371 rfl (lv_at hl 2 rfl) ?_
                        obtain ⟨x227, m228, r229, hf⟩ := bd2_s hf
                        refine z_cl hW (z_runV C hW [] [] (ha1).1 (ha1).2.1 kX11.1 kvX11_lower q_808 (tX11_lower l C.2.2.2.2.2.2.1 ha1 r229) rfl rfl ⟨by decide, by decide⟩ rfl hl.1 rfl (Nat.le_of_ble_eq_true rfl) dL_law_372 ⟨Nat.le_of_ble_eq_true rfl, Nat.le_of_ble_eq_true rfl⟩) (fun H locs hW => ?_)
                        refine lv_lconst (v := 1) C.1 C.2.1 dL_law_375 (by decide) ?_
                        refine W.lcmp C.1 C.2.1 dL_law_376 ?_
                        refine lv_if_ne (tgt := 390) C.1 C.2.1 dL_law_377 (by decide) (fun c230 => ?_) (fun c230 => ?_)
                        · have hf := if_f c230 hf
                          refine lv_iconst (v := 0) C.1 C.2.1 dL_law_390 (by decide) ?_
                          exact (lw_no hf hres).elim
                        · have hf := if_t c230 hf
                          refine lv_aload_n C.1 C.2.1 dL_law_380 rfl (lv_at hl 2 rfl) ?_
                          refine lv_iconst (v := 1) C.1 C.2.1 dL_law_381 (by decide) ?_
                          refine lv_iload C.1 C.2.1 dL_law_382 (lv_at hl 1 rfl) ?_
                          obtain ⟨x231, m232, r233, hf⟩ := bd2_s hf
                          refine z_ci hW (z_runV C hW [.int 1, .int x204] [] (ha1).1 (ha1).2.1 kX11.1 kvX11_fewest q_520 (tX11_fewest l C.2.2.2.2.2.2.1 ha1 r233) rfl rfl ⟨by decide, by decide⟩ rfl hl.1 rfl (Nat.le_of_ble_eq_true rfl) dL_law_384 ⟨Nat.le_of_ble_eq_true rfl, Nat.le_of_ble_eq_true rfl⟩) (fun H locs hW => ?_)
                          refine lv_if_ge (tgt := 392) C.1 C.2.1 dL_law_387 (by decide) (fun c234 => ?_) (fun c234 => ?_)
                          · have hf := if_t c234 hf
                            refine lv_aload_n C.1 C.2.1 dL_law_392 rfl (lv_at hl 10 rfl) ?_
                            refine lv_bipush (v := 12) C.1 C.2.1 dL_law_393 (by decide) ?_
                            refine lv_iload C.1 C.2.1 dL_law_395 (lv_at hl 9 rfl) ?_
                            refine lv_iadd C.1 C.2.1 dL_law_397 ?_
                            obtain ⟨x235, m236, r237, hf⟩ := bd2_s hf
                            refine z_ci hW (z_runX CS hW [.ref b, .int (12 + a11)] [] kvL_cell q_835 (tL_cell l C.2.2.2.2.2.2.1  r237) rfl rfl ⟨by decide, by decide⟩ rfl hl.1 rfl (Nat.le_of_ble_eq_true rfl) dL_law_398 ⟨Nat.le_of_ble_eq_true rfl, Nat.le_of_ble_eq_true rfl⟩) (fun H locs hW => ?_)
                            refine lv_bipush (v := 13) C.1 C.2.1 dL_law_401 (by decide) ?_
                            obtain ⟨x238, m239, r240, hf⟩ := bd2_s hf
                            refine z_ci hW (z_runS C hW [.int x235, .int 13] [] kvL_low q_831 (tL_low l C.2.2.2.2.2.2.1  r240) rfl rfl ⟨by decide, by decide⟩ rfl hl.1 rfl (Nat.le_of_ble_eq_true rfl) dL_law_403 ⟨Nat.le_of_ble_eq_true rfl, Nat.le_of_ble_eq_true rfl⟩) (fun H locs hW => ?_)
                            refine lv_istore (lv' := [(14, .int x238), (13, .int x213), (12, .int x204), (1, .ref (ad a1)), (2, .int a2), (3, .ref (ad a3)), (4, .ref (ad a4)), (6, .int a6), (7, .int a7), (10, .int a10), (11, .int a11), (0, .ref b)]) C.1 C.2.1 dL_law_406 hl (by decide) rfl (fun ls hl => ?_)
                            refine lv_aload_n C.1 C.2.1 dL_law_408 rfl (lv_at hl 3 rfl) ?_
                            refine lv_iconst (v := 3) C.1 C.2.1 dL_law_409 (by decide) ?_
                            obtain ⟨x241, m242, r243, hf⟩ := bd2_s hf
                            refine z_ci hW (z_runV C hW [.int 3] [] (ha1).1 (ha1).2.1 kX11.1 kvX11_sure q_555 (tX11_sure l C.2.2.2.2.2.2.1 ha1 r243) rfl rfl ⟨by decide, by decide⟩ rfl hl.1 rfl (Nat.le_of_ble_eq_true rfl) dL_law_410 ⟨Nat.le_of_ble_eq_true rfl, Nat.le_of_ble_eq_true rfl⟩) (fun H locs hW => ?_)
                            refine lv_istore (lv' := [(15, .int x241), (14, .int x238), (13, .int x213), (12, .int x204), (1, .ref (ad a1)), (2, .int a2), (3, .ref (ad a3)), (4, .ref (ad a4)), (6, .int a6), (7, .int a7), (10, .int a10), (11, .int a11), (0, .ref b)]) C.1 C.2.1 dL_law_413 hl (by decide) rfl (fun ls hl => ?_)
                            refine lv_aload_n C.1 C.2.1 dL_law_415 rfl (lv_at hl 4 rfl) ?_
                            refine lv_iconst (v := 0) C.1 C.2.1 dL_law_416 (by decide) ?_
                            refine lv_iconst (v := 3) C.1 C.2.1 dL_law_417 (by decide) ?_
                            refine lv_iload C.1 C.2.1 dL_law_418 (lv_at hl 1 rfl) ?_
                            refine lv_bipush (v := 12) C.1 C.2.1 dL_law_420 (by decide) ?_
                            obtain ⟨x244, m245, r246, hf⟩ := bd2_s hf
                            refine z_ci hW (z_runV C hW [.int 0, .int 3, .int x238, .int 12] [] (ha1).1 (ha1).2.1 kX11.1 kvX11_mixed q_578 (tX11_mixed l C.2.2.2.2.2.2.1 ha1 r246) rfl rfl ⟨by decide, by decide⟩ rfl hl.1 rfl (Nat.le_of_ble_eq_true rfl) dL_law_422 ⟨Nat.le_of_ble_eq_true rfl, Nat.le_of_ble_eq_true rfl⟩) (fun H locs hW => ?_)
                            refine lv_iconst (v := 1) C.1 C.2.1 dL_law_425 (by decide) ?_
                            refine lv_icmp_ne (tgt := 461) C.1 C.2.1 dL_law_426 (by decide) (fun c247 => ?_) (fun c247 => ?_)
                            · have hf := if_f c247 hf
                              refine lv_iconst (v := 0) C.1 C.2.1 dL_law_461 (by decide) ?_
                              exact (lw_no hf hres).elim
                            · have hf := if_t c247 hf
                              refine lv_aload_n C.1 C.2.1 dL_law_429 rfl (lv_at hl 4 rfl) ?_
                              obtain ⟨x248, m249, r250, hf⟩ := bd2_s hf
                              refine z_cl hW (z_runV C hW [] [] (ha1).1 (ha1).2.1 kX11.1 kvX11_upper q_804 (tX11_upper l C.2.2.2.2.2.2.1 ha1 r250) rfl rfl ⟨by decide, by decide⟩ rfl hl.1 rfl (Nat.le_of_ble_eq_true rfl) dL_law_430 ⟨Nat.le_of_ble_eq_true rfl, Nat.le_of_ble_eq_true rfl⟩) (fun H locs hW => ?_)
                              refine lv_ldc2 C.1 C.2.1 C.2.2.2.1 (C.2.2.2.2.1 _ q_921) dL_law_433 ?_
                              refine lv_lmul C.1 C.2.1 dL_law_436 ?_
                              refine lv_aload_n C.1 C.2.1 dL_law_437 rfl (lv_at hl 4 rfl) ?_
                              obtain ⟨x251, m252, r253, hf⟩ := bd2_s hf
                              refine z_cl hW (z_runV C hW [] [.long (x248 * 12)] (ha1).1 (ha1).2.1 kX11.1 kvX11_lower q_808 (tX11_lower l C.2.2.2.2.2.2.1 ha1 r253) rfl rfl ⟨by decide, by decide⟩ rfl hl.1 rfl (Nat.le_of_ble_eq_true rfl) dL_law_438 ⟨Nat.le_of_ble_eq_true rfl, Nat.le_of_ble_eq_true rfl⟩) (fun H locs hW => ?_)
                              refine lv_iload C.1 C.2.1 dL_law_441 (lv_at hl 1 rfl) ?_
                              refine lv_iload C.1 C.2.1 dL_law_443 (lv_at hl 2 rfl) ?_
                              refine lv_imul C.1 C.2.1 dL_law_445 ?_
                              refine lv_bipush (v := 12) C.1 C.2.1 dL_law_446 (by decide) ?_
                              refine lv_iload C.1 C.2.1 dL_law_448 (lv_at hl 1 rfl) ?_
                              refine lv_isub C.1 C.2.1 dL_law_450 ?_
                              refine lv_iload C.1 C.2.1 dL_law_451 (lv_at hl 0 rfl) ?_
                              refine lv_imul C.1 C.2.1 dL_law_453 ?_
                              refine lv_iadd C.1 C.2.1 dL_law_454 ?_
                              refine lv_i2l C.1 C.2.1 dL_law_455 rfl ?_
                              refine lv_lmul C.1 C.2.1 dL_law_456 ?_
                              refine W.lcmp C.1 C.2.1 dL_law_457 ?_
                              refine lv_if_ge (tgt := 463) C.1 C.2.1 dL_law_458 (by decide) (fun c254 => ?_) (fun c254 => ?_)
                              · have hf := if_t c254 hf
                                refine lv_aload_n C.1 C.2.1 dL_law_463 rfl (lv_at hl 4 rfl) ?_
                                obtain ⟨x255, m256, r257, hf⟩ := bd2_s hf
                                refine z_cl hW (z_runV C hW [] [] (ha1).1 (ha1).2.1 kX11.1 kvX11_upper q_804 (tX11_upper l C.2.2.2.2.2.2.1 ha1 r257) rfl rfl ⟨by decide, by decide⟩ rfl hl.1 rfl (Nat.le_of_ble_eq_true rfl) dL_law_464 ⟨Nat.le_of_ble_eq_true rfl, Nat.le_of_ble_eq_true rfl⟩) (fun H locs hW => ?_)
                                refine lv_lstore (lv' := [(16, .long x255), (15, .int x241), (14, .int x238), (13, .int x213), (12, .int x204), (1, .ref (ad a1)), (2, .int a2), (3, .ref (ad a3)), (4, .ref (ad a4)), (6, .int a6), (7, .int a7), (10, .int a10), (11, .int a11), (0, .ref b)]) C.1 C.2.1 dL_law_467 hl (by decide) rfl (fun ls hl => ?_)
                                refine lv_aload_n C.1 C.2.1 dL_law_469 rfl (lv_at hl 5 rfl) ?_
                                obtain ⟨x258, m259, r260, hf⟩ := bd2_s hf
                                refine z_cl hW (z_runV C hW [] [] (ha1).1 (ha1).2.1 kX11.1 kvX11_lower q_808 (tX11_lower l C.2.2.2.2.2.2.1 ha1 r260) rfl rfl ⟨by decide, by decide⟩ rfl hl.1 rfl (Nat.le_of_ble_eq_true rfl) dL_law_470 ⟨Nat.le_of_ble_eq_true rfl, Nat.le_of_ble_eq_true rfl⟩) (fun H locs hW => ?_)
                                refine lv_lstore (lv' := [(18, .long x258), (16, .long x255), (15, .int x241), (14, .int x238), (13, .int x213), (12, .int x204), (1, .ref (ad a1)), (2, .int a2), (3, .ref (ad a3)), (4, .ref (ad a4)), (6, .int a6), (7, .int a7), (10, .int a10), (11, .int a11), (0, .ref b)]) C.1 C.2.1 dL_law_473 hl (by decide) rfl (fun ls hl => ?_)
                                refine lv_aload_n C.1 C.2.1 dL_law_475 rfl (lv_at hl 6 rfl) ?_
                                refine lv_iconst (v := 0) C.1 C.2.1 dL_law_476 (by decide) ?_
                                refine lv_iconst (v := 3) C.1 C.2.1 dL_law_477 (by decide) ?_
                                obtain ⟨x261, m262, r263, hf⟩ := bd2_s hf
                                refine z_ci hW (z_runV C hW [.int 0, .int 3] [] (ha1).1 (ha1).2.1 kX11.1 kvX11_mix q_596 (tX11_mix l C.2.2.2.2.2.2.1 ha1 r263) rfl rfl ⟨by decide, by decide⟩ rfl hl.1 rfl (Nat.le_of_ble_eq_true rfl) dL_law_478 ⟨Nat.le_of_ble_eq_true rfl, Nat.le_of_ble_eq_true rfl⟩) (fun H locs hW => ?_)
                                refine lv_istore (lv' := [(20, .int x261), (18, .long x258), (16, .long x255), (15, .int x241), (14, .int x238), (13, .int x213), (12, .int x204), (1, .ref (ad a1)), (2, .int a2), (3, .ref (ad a3)), (4, .ref (ad a4)), (6, .int a6), (7, .int a7), (10, .int a10), (11, .int a11), (0, .ref b)]) C.1 C.2.1 dL_law_481 hl (by decide) rfl (fun ls hl => ?_)
                                refine lv_iload C.1 C.2.1 dL_law_483 (lv_at hl 0 rfl) ?_
                                refine lv_if_lt (tgt := 545) C.1 C.2.1 dL_law_485 (by decide) (fun c264 => ?_) (fun c264 => ?_)
                                · have hf := if_t c264 hf
                                  refine lv_iconst (v := 0) C.1 C.2.1 dL_law_545 (by decide) ?_
                                  exact (lw_no hf hres).elim
                                · have hf := if_f c264 hf
                                  refine lv_iload C.1 C.2.1 dL_law_488 (lv_at hl 0 rfl) ?_
                                  refine lv_bipush (v := 12) C.1 C.2.1 dL_law_490 (by decide) ?_
                                  refine lv_icmp_gt (tgt := 545) C.1 C.2.1 dL_law_492 (by decide) (fun c265 => ?_) (fun c265 => ?_)
                                  · have hf := if_t c265 hf
                                    refine lv_iconst (v := 0) C.1 C.2.1 dL_law_545 (by decide) ?_
                                    exact (lw_no hf hres).elim
                                  · have hf := if_f c265 hf
                                    refine lv_aload_n C.1 C.2.1 dL_law_495 rfl (lv_at hl 7 rfl) ?_
                                    obtain ⟨x266, m267, r268, hf⟩ := bd2_s hf
                                    refine z_cl hW (z_runV C hW [] [] (ha1).1 (ha1).2.1 kX11.1 kvX11_upper q_804 (tX11_upper l C.2.2.2.2.2.2.1 ha1 r268) rfl rfl ⟨by decide, by decide⟩ rfl hl.1 rfl (Nat.le_of_ble_eq_true rfl) dL_law_496 ⟨Nat.le_of_ble_eq_true rfl, Nat.le_of_ble_eq_true rfl⟩) (fun H locs hW => ?_)
                                    refine lv_lload C.1 C.2.1 dL_law_499 (lv_at hl 1 rfl) ?_
                                    refine lv_lmul C.1 C.2.1 dL_law_501 ?_
                                    refine lv_lload C.1 C.2.1 dL_law_502 (lv_at hl 2 rfl) ?_
                                    refine lv_aload_n C.1 C.2.1 dL_law_504 rfl (lv_at hl 7 rfl) ?_
                                    obtain ⟨x269, m270, r271, hf⟩ := bd2_s hf
                                    refine z_cl hW (z_runV C hW [] [.long x255, .long (x266 * x258)] (ha1).1 (ha1).2.1 kX11.1 kvX11_lower q_808 (tX11_lower l C.2.2.2.2.2.2.1 ha1 r271) rfl rfl ⟨by decide, by decide⟩ rfl hl.1 rfl (Nat.le_of_ble_eq_true rfl) dL_law_505 ⟨Nat.le_of_ble_eq_true rfl, Nat.le_of_ble_eq_true rfl⟩) (fun H locs hW => ?_)
                                    refine lv_lmul C.1 C.2.1 dL_law_508 ?_
                                    refine W.lcmp C.1 C.2.1 dL_law_509 ?_
                                    refine lv_if_lt (tgt := 545) C.1 C.2.1 dL_law_510 (by decide) (fun c272 => ?_) (fun c272 => ?_)
                                    · have hf := if_t c272 hf
                                      refine lv_iconst (v := 0) C.1 C.2.1 dL_law_545 (by decide) ?_
                                      exact (lw_no hf hres).elim
                                    · have hf := if_f c272 hf
                                      refine lv_aload_n C.1 C.2.1 dL_law_513 rfl (lv_at hl 7 rfl) ?_
                                      obtain ⟨x273, m274, r275, hf⟩ := bd2_s hf
                                      refine z_cl hW (z_runV C hW [] [] (ha1).1 (ha1).2.1 kX11.1 kvX11_upper q_804 (tX11_upper l C.2.2.2.2.2.2.1 ha1 r275) rfl rfl ⟨by decide, by decide⟩ rfl hl.1 rfl (Nat.le_of_ble_eq_true rfl) dL_law_514 ⟨Nat.le_of_ble_eq_true rfl, Nat.le_of_ble_eq_true rfl⟩) (fun H locs hW => ?_)
                                      refine lv_iload C.1 C.2.1 dL_law_517 (lv_at hl 5 rfl) ?_
                                      refine lv_i2l C.1 C.2.1 dL_law_519 rfl ?_
                                      refine lv_aload_n C.1 C.2.1 dL_law_520 rfl (lv_at hl 7 rfl) ?_
                                      obtain ⟨x276, m277, r278, hf⟩ := bd2_s hf
                                      refine z_cl hW (z_runV C hW [] [.long x213.toInt64, .long x273] (ha1).1 (ha1).2.1 kX11.1 kvX11_lower q_808 (tX11_lower l C.2.2.2.2.2.2.1 ha1 r278) rfl rfl ⟨by decide, by decide⟩ rfl hl.1 rfl (Nat.le_of_ble_eq_true rfl) dL_law_521 ⟨Nat.le_of_ble_eq_true rfl, Nat.le_of_ble_eq_true rfl⟩) (fun H locs hW => ?_)
                                      refine lv_lmul C.1 C.2.1 dL_law_524 ?_
                                      refine W.lcmp C.1 C.2.1 dL_law_525 ?_
                                      refine lv_if_lt (tgt := 545) C.1 C.2.1 dL_law_526 (by decide) (fun c279 => ?_) (fun c279 => ?_)
                                      · have hf := if_t c279 hf
                                        refine lv_iconst (v := 0) C.1 C.2.1 dL_law_545 (by decide) ?_
                                        exact (lw_no hf hres).elim
                                      · have hf := if_f c279 hf
                                        refine lv_aload_n C.1 C.2.1 dL_law_529 rfl (lv_at hl 7 rfl) ?_
                                        obtain ⟨x280, m281, r282, hf⟩ := bd2_s hf
                                        refine z_cl hW (z_runV C hW [] [] (ha1).1 (ha1).2.1 kX11.1 kvX11_upper q_804 (tX11_upper l C.2.2.2.2.2.2.1 ha1 r282) rfl rfl ⟨by decide, by decide⟩ rfl hl.1 rfl (Nat.le_of_ble_eq_true rfl) dL_law_530 ⟨Nat.le_of_ble_eq_true rfl, Nat.le_of_ble_eq_true rfl⟩) (fun H locs hW => ?_)
                                        refine lv_iload C.1 C.2.1 dL_law_533 (lv_at hl 3 rfl) ?_
                                        refine lv_i2l C.1 C.2.1 dL_law_535 rfl ?_
                                        refine lv_aload_n C.1 C.2.1 dL_law_536 rfl (lv_at hl 7 rfl) ?_
                                        obtain ⟨x283, m284, r285, hf⟩ := bd2_s hf
                                        refine z_cl hW (z_runV C hW [] [.long x241.toInt64, .long x280] (ha1).1 (ha1).2.1 kX11.1 kvX11_lower q_808 (tX11_lower l C.2.2.2.2.2.2.1 ha1 r285) rfl rfl ⟨by decide, by decide⟩ rfl hl.1 rfl (Nat.le_of_ble_eq_true rfl) dL_law_537 ⟨Nat.le_of_ble_eq_true rfl, Nat.le_of_ble_eq_true rfl⟩) (fun H locs hW => ?_)
                                        refine lv_lmul C.1 C.2.1 dL_law_540 ?_
                                        refine W.lcmp C.1 C.2.1 dL_law_541 ?_
                                        refine lv_if_ge (tgt := 547) C.1 C.2.1 dL_law_542 (by decide) (fun c286 => ?_) (fun c286 => ?_)
                                        · have hf := if_t c286 hf
                                          refine lv_iinc (v := (a11 + 1)) (lv' := [(11, .int (a11 + 1)), (20, .int x261), (18, .long x258), (16, .long x255), (15, .int x241), (14, .int x238), (13, .int x213), (12, .int x204), (1, .ref (ad a1)), (2, .int a2), (3, .ref (ad a3)), (4, .ref (ad a4)), (6, .int a6), (7, .int a7), (10, .int a10), (0, .ref b)]) C.1 C.2.1 dL_law_547 hl (k := 14) rfl rfl (by decide) rfl (fun ls hl => ?_)
                                          refine lv_goto (tgt := 253) C.1 C.2.1 dL_law_550 (by decide) ?_
                                          exact hk253 _ _ _ _ _ _ _ _ _ _ _ _ ha1 ha3 ha4 hW (lv_sub hl [8, 9, 10, 11, 12, 13, 14, 0, 15] rfl) hf
                                        · have hf := if_f c286 hf
                                          refine lv_iconst (v := 0) C.1 C.2.1 dL_law_545 (by decide) ?_
                                          exact (lw_no hf hres).elim
                              · have hf := if_f c254 hf
                                refine lv_iconst (v := 0) C.1 C.2.1 dL_law_461 (by decide) ?_
                                exact (lw_no hf hres).elim
                          · have hf := if_f c234 hf
                            refine lv_iconst (v := 0) C.1 C.2.1 dL_law_390 (by decide) ?_
                            exact (lw_no hf hres).elim
            · have hf := if_f c212 hf
              refine lv_iconst (v := 0) C.1 C.2.1 dL_law_319 (by decide) ?_
              exact (lw_no hf hres).elim
      · have hf := if_t c203 hf
        refine lv_iconst (v := 0) C.1 C.2.1 dL_law_283 (by decide) ?_
        exact (lw_no hf hres).elim
set_option maxRecDepth 100000 in
set_option maxHeartbeats 4000000 in
theorem wL_law_127 (hge : ∀ k, k < ad 1000 → s.heap.size ≤ ad k) (CS : CxS p s m meth c #[Value.ref b] code 29 ret RL D ca ad b L xs) {res : Int32 × Mm} (hres : res.1 = 1) {N : Nat}  : ∀ (n : Nat) {a1 : Nat} {a2 : Int32} {a3 : Nat} {a4 : Nat} {a6 : Int32} {a7 : Int32} {a8 : Int32} {a9 : Int32} {a10 : Int32} {mm : Mm} {H : Heap} {locs : List Loc} {ls : Array Slot}, (sX11 a1) → (sJ ad a3) → (sJ ad a4) → Wd D ca ad s.heap mm H locs → lv_has ls 29 [(1, .ref (ad a1)), (2, .int a2), (3, .ref (ad a3)), (4, .ref (ad a4)), (6, .int a6), (7, .int a7), (8, .int a8), (9, .int a9), (10, .int a10), (0, .ref b)] → fL_law_127 N L xs n a1 a2 a3 a4 a6 a7 a8 a9 a10 mm = some res → W p l e room_1 s m #[Value.ref b] below meth c H locs 179 3665 (lw_Z below #[Value.ref b] s) (F0 m 127 ls []) := by
  have C := CS.1
  intro n
  induction n with
  | zero => intro a1 a2 a3 a4 a6 a7 a8 a9 a10 mm H locs ls ha1 ha3 ha4 hW hl hf; cases hf
  | succ n ih =>
    intro a1 a2 a3 a4 a6 a7 a8 a9 a10 mm H locs ls ha1 ha3 ha4 hW hl hf
    have hk127 : ∀ (a1 : Nat) (a2 : Int32) (a3 : Nat) (a4 : Nat) (a6 : Int32) (a7 : Int32) (a8 : Int32) (a9 : Int32) (a10 : Int32) (mm : Mm) (H : Heap) (locs : List Loc) (ls : Array Slot), (sX11 a1) → (sJ ad a3) → (sJ ad a4) → Wd D ca ad s.heap mm H locs → lv_has ls 29 [(1, .ref (ad a1)), (2, .int a2), (3, .ref (ad a3)), (4, .ref (ad a4)), (6, .int a6), (7, .int a7), (8, .int a8), (9, .int a9), (10, .int a10), (0, .ref b)] → (fL_law_127 N L xs n) a1 a2 a3 a4 a6 a7 a8 a9 a10 mm = some res → W p l e room_1 s m #[Value.ref b] below meth c H locs 179 3665 (lw_Z below #[Value.ref b] s) (F0 m 127 ls []) := fun a1 a2 a3 a4 a6 a7 a8 a9 a10 mm H locs ls ha1 ha3 ha4 hW hl hf => ih ha1 ha3 ha4 hW hl hf
    unfold fL_law_127 at hf
    try dsimp only at hf
    refine lv_iload C.1 C.2.1 dL_law_127 (lv_at hl 8 rfl) ?_
    refine lv_iload_n C.1 C.2.1 dL_law_129 rfl (lv_at hl 1 rfl) ?_
    refine lv_icmp_ge (tgt := 155) C.1 C.2.1 dL_law_130 (by decide) (fun c287 => ?_) (fun c287 => ?_)
    · have hf := if_t c287 hf
      refine lv_iload C.1 C.2.1 dL_law_155 (lv_at hl 7 rfl) ?_
      refine lv_iload C.1 C.2.1 dL_law_157 (lv_at hl 6 rfl) ?_
      refine lv_icmp_ne (tgt := 217) C.1 C.2.1 dL_law_159 (by decide) (fun c288 => ?_) (fun c288 => ?_)
      · have hf := if_f c288 hf
        refine lv_iconst (v := 0) C.1 C.2.1 dL_law_217 (by decide) ?_
        exact (lw_no hf hres).elim
      · have hf := if_t c288 hf
        refine lv_iload C.1 C.2.1 dL_law_162 (lv_at hl 7 rfl) ?_
        refine lv_aload_n C.1 C.2.1 dL_law_164 rfl (lv_at hl 2 rfl) ?_
        refine lv_bipush (v := 18) C.1 C.2.1 dL_law_165 (by decide) ?_
        obtain ⟨g289, hf⟩ := gd_s hf
        refine z_iald C hW ha3 g289 dL_law_167 ?_
        refine lv_icmp_gt (tgt := 217) C.1 C.2.1 dL_law_168 (by decide) (fun c290 => ?_) (fun c290 => ?_)
        · have hf := if_t c290 hf
          refine lv_iconst (v := 0) C.1 C.2.1 dL_law_217 (by decide) ?_
          exact (lw_no hf hres).elim
        · have hf := if_f c290 hf
          refine lv_aload_n C.1 C.2.1 dL_law_171 rfl (lv_at hl 0 rfl) ?_
          refine lv_iconst (v := 2) C.1 C.2.1 dL_law_172 (by decide) ?_
          refine lv_iconst (v := 1) C.1 C.2.1 dL_law_173 (by decide) ?_
          obtain ⟨x291, m292, r293, hf⟩ := bd2_s hf
          refine z_ci hW (z_runV C hW [.int 2, .int 1] [] (ha1).1 (ha1).2.1 kX11.1 kvX11_judge q_392 (tX11_judge l C.2.2.2.2.2.2.1 ha1 r293) rfl rfl ⟨by decide, by decide⟩ rfl hl.1 rfl (Nat.le_of_ble_eq_true rfl) dL_law_174 ⟨Nat.le_of_ble_eq_true rfl, Nat.le_of_ble_eq_true rfl⟩) (fun H locs hW => ?_)
          refine lv_iload C.1 C.2.1 dL_law_177 (lv_at hl 5 rfl) ?_
          refine lv_icmp_ne (tgt := 217) C.1 C.2.1 dL_law_179 (by decide) (fun c294 => ?_) (fun c294 => ?_)
          · have hf := if_f c294 hf
            refine lv_iconst (v := 0) C.1 C.2.1 dL_law_217 (by decide) ?_
            exact (lw_no hf hres).elim
          · have hf := if_t c294 hf
            refine lv_aload_n C.1 C.2.1 dL_law_182 rfl (lv_at hl 0 rfl) ?_
            obtain ⟨x295, m296, r297, hf⟩ := bd2_s hf
            refine z_ci hW (z_runV C hW [] [] (ha1).1 (ha1).2.1 kX11.1 kvX11_asked q_800 (tX11_asked l C.2.2.2.2.2.2.1 ha1 r297) rfl rfl ⟨by decide, by decide⟩ rfl hl.1 rfl (Nat.le_of_ble_eq_true rfl) dL_law_183 ⟨Nat.le_of_ble_eq_true rfl, Nat.le_of_ble_eq_true rfl⟩) (fun H locs hW => ?_)
            refine lv_iconst (v := 2) C.1 C.2.1 dL_law_186 (by decide) ?_
            refine lv_iload C.1 C.2.1 dL_law_187 (lv_at hl 4 rfl) ?_
            refine lv_imul C.1 C.2.1 dL_law_189 ?_
            refine lv_iload C.1 C.2.1 dL_law_190 (lv_at hl 5 rfl) ?_
            refine lv_isub C.1 C.2.1 dL_law_192 ?_
            refine lv_icmp_ne (tgt := 217) C.1 C.2.1 dL_law_193 (by decide) (fun c298 => ?_) (fun c298 => ?_)
            · have hf := if_f c298 hf
              refine lv_iconst (v := 0) C.1 C.2.1 dL_law_217 (by decide) ?_
              exact (lw_no hf hres).elim
            · have hf := if_t c298 hf
              refine lv_aload_n C.1 C.2.1 dL_law_196 rfl (lv_at hl 0 rfl) ?_
              refine lv_iconst (v := 1) C.1 C.2.1 dL_law_197 (by decide) ?_
              refine lv_iload C.1 C.2.1 dL_law_198 (lv_at hl 5 rfl) ?_
              obtain ⟨x299, m300, r301, hf⟩ := bd2_s hf
              refine z_ci hW (z_runV C hW [.int 1, .int a7] [] (ha1).1 (ha1).2.1 kX11.1 kvX11_fewest q_520 (tX11_fewest l C.2.2.2.2.2.2.1 ha1 r301) rfl rfl ⟨by decide, by decide⟩ rfl hl.1 rfl (Nat.le_of_ble_eq_true rfl) dL_law_200 ⟨Nat.le_of_ble_eq_true rfl, Nat.le_of_ble_eq_true rfl⟩) (fun H locs hW => ?_)
              refine lv_iload C.1 C.2.1 dL_law_203 (lv_at hl 6 rfl) ?_
              refine lv_icmp_ne (tgt := 217) C.1 C.2.1 dL_law_205 (by decide) (fun c302 => ?_) (fun c302 => ?_)
              · have hf := if_f c302 hf
                refine lv_iconst (v := 0) C.1 C.2.1 dL_law_217 (by decide) ?_
                exact (lw_no hf hres).elim
              · have hf := if_t c302 hf
                refine lv_aload_n C.1 C.2.1 dL_law_208 rfl (lv_at hl 0 rfl) ?_
                obtain ⟨x303, m304, r305, hf⟩ := bd2_s hf
                refine z_ci hW (z_runV C hW [] [] (ha1).1 (ha1).2.1 kX11.1 kvX11_asked q_800 (tX11_asked l C.2.2.2.2.2.2.1 ha1 r305) rfl rfl ⟨by decide, by decide⟩ rfl hl.1 rfl (Nat.le_of_ble_eq_true rfl) dL_law_209 ⟨Nat.le_of_ble_eq_true rfl, Nat.le_of_ble_eq_true rfl⟩) (fun H locs hW => ?_)
                refine lv_iload C.1 C.2.1 dL_law_212 (lv_at hl 5 rfl) ?_
                refine lv_icmp_eq (tgt := 219) C.1 C.2.1 dL_law_214 (by decide) (fun c306 => ?_) (fun c306 => ?_)
                · have hf := if_t c306 hf
                  refine lv_aload_n C.1 C.2.1 dL_law_219 rfl (lv_at hl 0 rfl) ?_
                  refine lv_iconst (v := 3) C.1 C.2.1 dL_law_220 (by decide) ?_
                  obtain ⟨x307, m308, r309, hf⟩ := bd2_s hf
                  refine z_ci hW (z_runV C hW [.int 3] [] (ha1).1 (ha1).2.1 kX11.1 kvX11_safe q_570 (tX11_safe l C.2.2.2.2.2.2.1 ha1 r309) rfl rfl ⟨by decide, by decide⟩ rfl hl.1 rfl (Nat.le_of_ble_eq_true rfl) dL_law_221 ⟨Nat.le_of_ble_eq_true rfl, Nat.le_of_ble_eq_true rfl⟩) (fun H locs hW => ?_)
                  refine lv_istore (lv' := [(10, .int x307), (1, .ref (ad a1)), (2, .int a2), (3, .ref (ad a3)), (4, .ref (ad a4)), (6, .int a6), (7, .int a7), (8, .int a8), (9, .int a9), (0, .ref b)]) C.1 C.2.1 dL_law_224 hl (by decide) rfl (fun ls hl => ?_)
                  refine lv_iload C.1 C.2.1 dL_law_226 (lv_at hl 0 rfl) ?_
                  refine lv_if_lt (tgt := 248) C.1 C.2.1 dL_law_228 (by decide) (fun c310 => ?_) (fun c310 => ?_)
                  · have hf := if_t c310 hf
                    refine lv_iconst (v := 0) C.1 C.2.1 dL_law_248 (by decide) ?_
                    exact (lw_no hf hres).elim
                  · have hf := if_f c310 hf
                    refine lv_iload C.1 C.2.1 dL_law_231 (lv_at hl 0 rfl) ?_
                    refine lv_iload C.1 C.2.1 dL_law_233 (lv_at hl 6 rfl) ?_
                    refine lv_icmp_gt (tgt := 248) C.1 C.2.1 dL_law_235 (by decide) (fun c311 => ?_) (fun c311 => ?_)
                    · have hf := if_t c311 hf
                      refine lv_iconst (v := 0) C.1 C.2.1 dL_law_248 (by decide) ?_
                      exact (lw_no hf hres).elim
                    · have hf := if_f c311 hf
                      refine lv_aload_n C.1 C.2.1 dL_law_238 rfl (lv_at hl 1 rfl) ?_
                      refine lv_iconst (v := 3) C.1 C.2.1 dL_law_239 (by decide) ?_
                      obtain ⟨x312, m313, r314, hf⟩ := bd2_s hf
                      refine z_ci hW (z_runV C hW [.int 3] [] (ha1).1 (ha1).2.1 kX11.1 kvX11_sure q_555 (tX11_sure l C.2.2.2.2.2.2.1 ha1 r314) rfl rfl ⟨by decide, by decide⟩ rfl hl.1 rfl (Nat.le_of_ble_eq_true rfl) dL_law_240 ⟨Nat.le_of_ble_eq_true rfl, Nat.le_of_ble_eq_true rfl⟩) (fun H locs hW => ?_)
                      refine lv_iload C.1 C.2.1 dL_law_243 (lv_at hl 0 rfl) ?_
                      refine lv_icmp_eq (tgt := 250) C.1 C.2.1 dL_law_245 (by decide) (fun c315 => ?_) (fun c315 => ?_)
                      · have hf := if_t c315 hf
                        refine lv_iconst (v := 0) C.1 C.2.1 dL_law_250 (by decide) ?_
                        refine lv_istore (lv' := [(11, .int 0), (10, .int x307), (1, .ref (ad a1)), (2, .int a2), (3, .ref (ad a3)), (4, .ref (ad a4)), (6, .int a6), (7, .int a7), (8, .int a8), (9, .int a9), (0, .ref b)]) C.1 C.2.1 dL_law_251 hl (by decide) rfl (fun ls hl => ?_)
                        exact wL_law_253 hge CS hres  N ha1 ha3 ha4 hW (lv_sub hl [2, 3, 4, 5, 6, 7, 1, 0, 10] rfl) hf
                      · have hf := if_f c315 hf
                        refine lv_iconst (v := 0) C.1 C.2.1 dL_law_248 (by decide) ?_
                        exact (lw_no hf hres).elim
                · have hf := if_f c306 hf
                  refine lv_iconst (v := 0) C.1 C.2.1 dL_law_217 (by decide) ?_
                  exact (lw_no hf hres).elim
    · have hf := if_f c287 hf
      refine lv_iload C.1 C.2.1 dL_law_133 (lv_at hl 7 rfl) ?_
      refine lv_aload_n C.1 C.2.1 dL_law_135 rfl (lv_at hl 0 rfl) ?_
      refine lv_aload_n C.1 C.2.1 dL_law_136 rfl (lv_at hl 0 rfl) ?_
      refine lv_iconst (v := 2) C.1 C.2.1 dL_law_137 (by decide) ?_
      refine lv_iload C.1 C.2.1 dL_law_138 (lv_at hl 8 rfl) ?_
      obtain ⟨x316, m317, r318, hf⟩ := bd2_s hf
      refine z_ci hW (z_runV C hW [.int 2, .int a10] [.ref (ad a1), .int a9] (ha1).1 (ha1).2.1 kX11.1 kvX11_at q_360 (tX11_at l C.2.2.2.2.2.2.1 ha1 r318) rfl rfl ⟨by decide, by decide⟩ rfl hl.1 rfl (Nat.le_of_ble_eq_true rfl) dL_law_140 ⟨Nat.le_of_ble_eq_true rfl, Nat.le_of_ble_eq_true rfl⟩) (fun H locs hW => ?_)
      obtain ⟨x319, m320, r321, hf⟩ := bd2_s hf
      refine z_ci hW (z_runS C hW [.ref (ad a1), .int x316] [.int a9] kvL_told q_839 (tL_told l C.2.2.2.2.2.2.1 ha1 r321) rfl rfl ⟨by decide, by decide⟩ rfl hl.1 rfl (Nat.le_of_ble_eq_true rfl) dL_law_143 ⟨Nat.le_of_ble_eq_true rfl, Nat.le_of_ble_eq_true rfl⟩) (fun H locs hW => ?_)
      refine lv_iadd C.1 C.2.1 dL_law_146 ?_
      refine lv_istore (lv' := [(9, .int (a9 + x319)), (1, .ref (ad a1)), (2, .int a2), (3, .ref (ad a3)), (4, .ref (ad a4)), (6, .int a6), (7, .int a7), (8, .int a8), (10, .int a10), (0, .ref b)]) C.1 C.2.1 dL_law_147 hl (by decide) rfl (fun ls hl => ?_)
      refine lv_iinc (v := (a10 + 1)) (lv' := [(10, .int (a10 + 1)), (9, .int (a9 + x319)), (1, .ref (ad a1)), (2, .int a2), (3, .ref (ad a3)), (4, .ref (ad a4)), (6, .int a6), (7, .int a7), (8, .int a8), (0, .ref b)]) C.1 C.2.1 dL_law_149 hl (k := 8) rfl rfl (by decide) rfl (fun ls hl => ?_)
      refine lv_goto (tgt := 127) C.1 C.2.1 dL_law_152 (by decide) ?_
      exact hk127 _ _ _ _ _ _ _ _ _ _ _ _ _ ha1 ha3 ha4 hW (lv_sub hl [2, 3, 4, 5, 6, 7, 8, 1, 0, 9] rfl) hf
set_option maxRecDepth 100000 in
set_option maxHeartbeats 4000000 in
theorem wL_law_69 (hge : ∀ k, k < ad 1000 → s.heap.size ≤ ad k) (CS : CxS p s m meth c #[Value.ref b] code 29 ret RL D ca ad b L xs) {res : Int32 × Mm} (hres : res.1 = 1) {N : Nat}  {a1 : Nat} {a2 : Int32} {a3 : Nat} {a4 : Nat} {a5 : Nat} {mm : Mm} {H : Heap} {locs : List Loc} {ls : Array Slot} (ha1 : sX11 a1) (ha3 : sJ ad a3) (ha4 : sJ ad a4) (ha5 : sJ ad a5) (hW : Wd D ca ad s.heap mm H locs) (hl : lv_has ls 29 [(1, .ref (ad a1)), (2, .int a2), (3, .ref (ad a3)), (4, .ref (ad a4)), (5, .ref (ad a5)), (0, .ref b)]) (hf : fL_law_69 N L xs a1 a2 a3 a4 a5 mm = some res) : W p l e room_1 s m #[Value.ref b] below meth c H locs 179 3665 (lw_Z below #[Value.ref b] s) (F0 m 69 ls []) := by
  have C := CS.1
  unfold fL_law_69 at hf
  refine lv_aload_n C.1 C.2.1 dL_law_69 rfl (lv_at hl 0 rfl) ?_
  refine lv_iconst (v := 1) C.1 C.2.1 dL_law_70 (by decide) ?_
  obtain ⟨x322, m323, r324, hf⟩ := bd2_s hf
  refine z_ci hW (z_runV C hW [.int 1] [] (ha1).1 (ha1).2.1 kX11.1 kvX11_count q_812 (tX11_count l C.2.2.2.2.2.2.1 ha1 r324) rfl rfl ⟨by decide, by decide⟩ rfl hl.1 rfl (Nat.le_of_ble_eq_true rfl) dL_law_71 ⟨Nat.le_of_ble_eq_true rfl, Nat.le_of_ble_eq_true rfl⟩) (fun H locs hW => ?_)
  refine lv_istore (lv' := [(6, .int x322), (1, .ref (ad a1)), (2, .int a2), (3, .ref (ad a3)), (4, .ref (ad a4)), (5, .ref (ad a5)), (0, .ref b)]) C.1 C.2.1 dL_law_74 hl (by decide) rfl (fun ls hl => ?_)
  refine lv_aload_n C.1 C.2.1 dL_law_76 rfl (lv_at hl 1 rfl) ?_
  refine lv_iconst (v := 1) C.1 C.2.1 dL_law_77 (by decide) ?_
  refine lv_iload_n C.1 C.2.1 dL_law_78 rfl (lv_at hl 2 rfl) ?_
  refine lv_aload_n C.1 C.2.1 dL_law_79 rfl (lv_at hl 3 rfl) ?_
  refine lv_bipush (v := 19) C.1 C.2.1 dL_law_80 (by decide) ?_
  obtain ⟨g325, hf⟩ := gd_s hf
  refine z_iald C hW ha3 g325 dL_law_82 ?_
  refine lv_aload_n C.1 C.2.1 dL_law_83 rfl (lv_at hl 6 rfl) ?_
  refine lv_bipush (v := 7) C.1 C.2.1 dL_law_84 (by decide) ?_
  obtain ⟨x326, m327, r328, hf⟩ := bd2_s hf
  refine z_ci hW (z_runX CS hW [.ref b, .int 7] [.int (rd m323 a3 ((19 : Int32).toNatClampNeg)), .int a2, .int 1, .ref (ad a1)] kvL_cell q_835 (tL_cell l C.2.2.2.2.2.2.1  r328) rfl rfl ⟨by decide, by decide⟩ rfl hl.1 rfl (Nat.le_of_ble_eq_true rfl) dL_law_86 ⟨Nat.le_of_ble_eq_true rfl, Nat.le_of_ble_eq_true rfl⟩) (fun H locs hW => ?_)
  refine lv_aload C.1 C.2.1 dL_law_89 (lv_at hl 5 rfl) ?_
  obtain ⟨x329, m330, r331, hf⟩ := bd2_s hf
  refine z_ci hW (z_runS C hW [.ref (ad a1), .int 1, .int a2, .int (rd m323 a3 ((19 : Int32).toNatClampNeg)), .int x326, .ref (ad a5)] [] kvL_laying q_910 (tL_laying l C.2.2.2.2.2.2.1 ha1 ha5 r331) rfl rfl ⟨by decide, by decide⟩ rfl hl.1 rfl (Nat.le_of_ble_eq_true rfl) dL_law_91 ⟨Nat.le_of_ble_eq_true rfl, Nat.le_of_ble_eq_true rfl⟩) (fun H locs hW => ?_)
  refine lv_if_eq (tgt := 105) C.1 C.2.1 dL_law_94 (by decide) (fun c332 => ?_) (fun c332 => ?_)
  · have hf := if_t c332 hf
    refine lv_iconst (v := 0) C.1 C.2.1 dL_law_105 (by decide) ?_
    exact (lw_no hf hres).elim
  · have hf := if_f c332 hf
    refine lv_aload_n C.1 C.2.1 dL_law_97 rfl (lv_at hl 1 rfl) ?_
    refine lv_iconst (v := 0) C.1 C.2.1 dL_law_98 (by decide) ?_
    obtain ⟨x333, m334, r335, hf⟩ := bd2_s hf
    refine z_ci hW (z_runV C hW [.int 0] [] (ha1).1 (ha1).2.1 kX11.1 kvX11_keep q_780 (tX11_keep l C.2.2.2.2.2.2.1 ha1 r335) rfl rfl ⟨by decide, by decide⟩ rfl hl.1 rfl (Nat.le_of_ble_eq_true rfl) dL_law_99 ⟨Nat.le_of_ble_eq_true rfl, Nat.le_of_ble_eq_true rfl⟩) (fun H locs hW => ?_)
    refine lv_if_eq (tgt := 107) C.1 C.2.1 dL_law_102 (by decide) (fun c336 => ?_) (fun c336 => ?_)
    · have hf := if_t c336 hf
      refine lv_aload_n C.1 C.2.1 dL_law_107 rfl (lv_at hl 1 rfl) ?_
      refine lv_iconst (v := 1) C.1 C.2.1 dL_law_108 (by decide) ?_
      refine lv_iconst (v := 2) C.1 C.2.1 dL_law_109 (by decide) ?_
      obtain ⟨x337, m338, r339, hf⟩ := bd2_s hf
      refine z_ci hW (z_runV C hW [.int 1, .int 2] [] (ha1).1 (ha1).2.1 kX11.1 kvX11_best q_466 (tX11_best l C.2.2.2.2.2.2.1 ha1 r339) rfl rfl ⟨by decide, by decide⟩ rfl hl.1 rfl (Nat.le_of_ble_eq_true rfl) dL_law_110 ⟨Nat.le_of_ble_eq_true rfl, Nat.le_of_ble_eq_true rfl⟩) (fun H locs hW => ?_)
      refine lv_istore (lv' := [(7, .int x337), (6, .int x322), (1, .ref (ad a1)), (2, .int a2), (3, .ref (ad a3)), (4, .ref (ad a4)), (5, .ref (ad a5)), (0, .ref b)]) C.1 C.2.1 dL_law_113 hl (by decide) rfl (fun ls hl => ?_)
      refine lv_aload_n C.1 C.2.1 dL_law_115 rfl (lv_at hl 2 rfl) ?_
      obtain ⟨x340, m341, r342, hf⟩ := bd2_s hf
      refine z_ci hW (z_runV C hW [] [] (ha1).1 (ha1).2.1 kX11.1 kvX11_asked q_800 (tX11_asked l C.2.2.2.2.2.2.1 ha1 r342) rfl rfl ⟨by decide, by decide⟩ rfl hl.1 rfl (Nat.le_of_ble_eq_true rfl) dL_law_116 ⟨Nat.le_of_ble_eq_true rfl, Nat.le_of_ble_eq_true rfl⟩) (fun H locs hW => ?_)
      refine lv_istore (lv' := [(8, .int x340), (7, .int x337), (6, .int x322), (1, .ref (ad a1)), (2, .int a2), (3, .ref (ad a3)), (4, .ref (ad a4)), (5, .ref (ad a5)), (0, .ref b)]) C.1 C.2.1 dL_law_119 hl (by decide) rfl (fun ls hl => ?_)
      refine lv_iconst (v := 0) C.1 C.2.1 dL_law_121 (by decide) ?_
      refine lv_istore (lv' := [(9, .int 0), (8, .int x340), (7, .int x337), (6, .int x322), (1, .ref (ad a1)), (2, .int a2), (3, .ref (ad a3)), (4, .ref (ad a4)), (5, .ref (ad a5)), (0, .ref b)]) C.1 C.2.1 dL_law_122 hl (by decide) rfl (fun ls hl => ?_)
      refine lv_iconst (v := 0) C.1 C.2.1 dL_law_124 (by decide) ?_
      refine lv_istore (lv' := [(10, .int 0), (9, .int 0), (8, .int x340), (7, .int x337), (6, .int x322), (1, .ref (ad a1)), (2, .int a2), (3, .ref (ad a3)), (4, .ref (ad a4)), (5, .ref (ad a5)), (0, .ref b)]) C.1 C.2.1 dL_law_125 hl (by decide) rfl (fun ls hl => ?_)
      exact wL_law_127 hge CS hres  N ha1 ha3 ha4 hW (lv_sub hl [5, 6, 7, 8, 4, 3, 2, 1, 0, 10] rfl) hf
    · have hf := if_f c336 hf
      refine lv_iconst (v := 0) C.1 C.2.1 dL_law_105 (by decide) ?_
      exact (lw_no hf hres).elim
end W_ll
