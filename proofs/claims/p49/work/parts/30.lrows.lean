/-! rows of the law's own methods: its arrays (objects behind the class'), the script, any count of cells -/
/-- an array of ints of the law -/
def sJ (ad : Nat → Nat) (k : Nat) : Prop := k < ad 1000 ∧ sk k = .inl (0, ln k, fun _ => 0)
/-- the start of a method that reads the script -/
def WBS (D : va_G) (ca ad : Nat → Nat) (mm : Mm) (b L : Nat) (xs : Nat → Int32) (U : State) : Prop := WB D ca ad mm U ∧ va_X b L xs U U.heap ∧ b < U.heap.size ∧ ¬ AA ad b
def CxS (p : Program) (s : State) (m : MethodId) (meth : Method) (c : Code) (args : Array Value) (cc : ByteArray) (nL : Nat) (ret : Option FieldType) (own : String) (D : va_G) (ca ad : Nat → Nat) (b L : Nat) (xs : Nat → Int32) : Prop := Cx p s m meth c args cc nL ret own D ca ad ∧ va_X b L xs s s.heap ∧ b < s.heap.size ∧ ¬ AA ad b
section ZC
variable {p : Program} {l : Launch} {e : Env} {R : Room} {s : State} {m : MethodId} {args : Array Value} {below : List Frame} {meth : Method} {c : Code} {H : Heap} {locs : List Loc} {Q : State → Prop} {cc : ByteArray} {pc : Nat} {ls : Array Slot} {rest st : List Value} {nL : Nat} {ret : Option FieldType} {own : String} {D : va_G} {ca ad : Nat → Nat} {H0 : Heap} {mm m2 : Mm} {cells slots : Nat} {b L : Nat} {xs : Nat → Int32}
variable {y : MethodName} {cb : ByteArray} {maxL np idx : Nat} {rt : Option FieldType} {rm : Room} {Qc : Array Value → State → Outcome → State → Prop} {As : List Value}
theorem z_iald (C : Cx p s m meth c args cc nL ret own D ca ad) (hW : Wd D ca ad H0 mm H locs) {k : Nat} (hk : sJ ad k) {i : Int32} (hin : inb i (ln k) = true) (hdg : decode cc pc = .ok (.iaload, 1))
    (kk : W p l e R s m args below meth c H locs cells slots Q (F0 m (pc + 1) ls (.int (rd mm k i.toNatClampNeg) :: rest))) : W p l e R s m args below meth c H locs cells slots Q (F0 m pc ls (.int i :: .ref (ad k) :: rest)) :=
  va_iald (f := rd mm k) C.1 C.2.1 C.2.2.2.2.2.1 hW.1 k 0 (by rw [wsM_at hk.1, ce_int hk.2]; rfl) rfl (inb_in hin) hdg kk
theorem z_iast (C : Cx p s m meth c args cc nL ret own D ca ad) (hW : Wd D ca ad H0 mm H locs) {k : Nat} (hk : sJ ad k) {i v : Int32} (hin : inb i (ln k) = true) (hdg : decode cc pc = .ok (.iastore, 1))
    (kk : ∀ (H : Heap) (locs : List Loc), Wd D ca ad H0 (wr mm k i.toNatClampNeg v) H locs → W p l e R s m args below meth c H locs cells slots Q (F0 m (pc + 1) ls rest)) : W p l e R s m args below meth c H locs cells slots Q (F0 m pc ls (.int v :: .int i :: .ref (ad k) :: rest)) := by
  refine va_iast C.1 C.2.1 C.2.2.2.2.2.1 hW.1 (wsM_D C.2.2.2.2.2.2.1) hW.2 k 0 (by rw [wsM_at hk.1, ce_int hk.2]) rfl (inb_in hin) hdg (fun H1 locs1 hP hD hS => ?_)
  rw [wsM_set (mm' := wr mm k i.toNatClampNeg v) hk.1 (fun i hi => wr_o hi) (by rw [ce_int hk.2, wr_s])] at hP
  exact kk H1 locs1 ⟨hP, hS⟩
theorem z_runV {CN : String} {TC : u_T} {k ci N : Nat} {fs : List (Nat ⊕ Nat)} (C : Cx p s m meth c args cc nL ret own D ca ad) (hW : Wd D ca ad H0 mm H locs) (As : List Value) (rest : List Value) (hk : k < NT) (hs : sk k = .inr (ci, fs)) (hcl : vwCl[ci]? = some (CN, TC, N)) (K : KV y CN cb maxL rt np) (hl : Cond.methodLink own idx y ∈ wT)
    (hM : Met l y (WS y cb maxL rt) rm (va_Pc (.ref (ad k) :: As) (WB D ca ad mm)) Qc 0 0 (AA ad)) (hrc : rm.cells = 0) (hrs : rm.slots = 0) (hR : rm.frames + 1 ≤ R.frames ∧ 8 + (maxL + 11) + rm.locals ≤ R.locals) (hn : As.length = np) (hsz : ls.size = nL) (hst : st = As.reverse ++ .ref (ad k) :: rest) (hw : (rest.map fun v => v.category).sum ≤ 8) (hdg : decode cc pc = .ok (.invokevirtual idx, 3)) (hf : cells + 0 ≤ R.cells ∧ slots + 0 ≤ R.slots) :
    va_Run p l e R s m args below meth c H locs cells slots 0 0 (F0 m pc ls st) rest (Qc (Value.ref (ad k) :: As).toArray) (AA ad) := by
  have hG : GoodIn wT (wsV own idx CN y (WS y cb maxL rt)) := by
    intro w hw
    unfold wsV at hw
    rcases List.mem_append.mp hw with h | h
    · have : w ∈ wT := by
        simp only [List.mem_cons, List.not_mem_nil, or_false] at h
        rcases h with rfl | rfl | rfl | rfl
        · exact hl
        · exact K.1
        · exact K.2.1
        · exact K.2.2.1
      exact wT_good w this
    · exact WS_in K.2.2.2.1 (fun _ h => h) w h
  exact va_runV (As := As) (rest := rest) ⟨C.1, C.2.1, C.2.2.1, C.2.2.2.1, C.2.2.2.2.1⟩ hM (cwV np C.2.2.2.2.1 hG rfl hrc hrs K.2.2.2.2 hR) ⟨WB_blind, va_recv C.2.2.2.2.2.1 hW.1 hcl (by rw [wsM_at (C.2.2.2.2.2.2.1.lt hk), ce_obj hs]), fun U hU hW' => ⟨rfl, by rw [hU]; exact hW.1, va_K.moved hW'.alike C.2.2.2.2.2.1, NW.warm hW' C.2.2.2.2.2.2.2.2.2⟩⟩ rfl hn hsz hst (lv_room (rest := st) hw) hdg hf
theorem z_runP {mc ms : Nat} {free : Addr → Prop} {Pc : Array Value → State → Prop} (C : Cx p s m meth c args cc nL ret own D ca ad) (As : List Value) (rest : List Value) (K : KS y cb maxL rt np) (hl : Cond.methodLink own idx y ∈ wT) (hbl : FrameBlind Pc) (hpc : ∀ U : State, U.heap = H → s.WarmedH U.vm → Pc As.toArray U)
    (hM : Met l y (WS y cb maxL rt) rm Pc Qc mc ms free) (hrc : rm.cells = mc) (hrs : rm.slots = ms) (hR : rm.frames + 1 ≤ R.frames ∧ 8 + (maxL + 11) + rm.locals ≤ R.locals) (hn : As.length = np) (hsz : ls.size = nL) (hst : st = As.reverse ++ rest) (hw : (rest.map fun v => v.category).sum ≤ 8) (hdg : decode cc pc = .ok (.invokestatic idx, 3)) (hf : cells + mc ≤ R.cells ∧ slots + ms ≤ R.slots) :
    va_Run p l e R s m args below meth c H locs cells slots mc ms (F0 m pc ls st) rest (Qc As.toArray) free := by
  have hG : GoodIn wT (va_wsS own idx y (WS y cb maxL rt)) := by
    intro w hw
    unfold va_wsS at hw
    rcases List.mem_append.mp hw with h | h
    · have : w ∈ wT := by
        simp only [List.mem_cons, List.not_mem_nil, or_false] at h
        rcases h with rfl | rfl | rfl
        · exact hl
        · exact K.1
        · exact K.2.1
      exact wT_good w this
    · exact WS_in K.2.2.1 (fun _ h => h) w h
  exact va_runS (As := As) (rest := rest) ⟨C.1, C.2.1, C.2.2.1, C.2.2.2.1, C.2.2.2.2.1⟩ hM (va_cwS np C.2.2.2.2.1 hG rfl hrc hrs K.2.2.2 hR) ⟨hbl, hpc⟩ rfl hn hsz hst (lv_room (rest := st) hw) hdg hf
theorem z_runS (C : Cx p s m meth c args cc nL ret own D ca ad) (hW : Wd D ca ad H0 mm H locs) (As : List Value) (rest : List Value) (K : KS y cb maxL rt np) (hl : Cond.methodLink own idx y ∈ wT)
    (hM : Met l y (WS y cb maxL rt) rm (va_Pc As (WB D ca ad mm)) Qc 0 0 (AA ad)) (hrc : rm.cells = 0) (hrs : rm.slots = 0) (hR : rm.frames + 1 ≤ R.frames ∧ 8 + (maxL + 11) + rm.locals ≤ R.locals) (hn : As.length = np) (hsz : ls.size = nL) (hst : st = As.reverse ++ rest) (hw : (rest.map fun v => v.category).sum ≤ 8) (hdg : decode cc pc = .ok (.invokestatic idx, 3)) (hf : cells + 0 ≤ R.cells ∧ slots + 0 ≤ R.slots) :
    va_Run p l e R s m args below meth c H locs cells slots 0 0 (F0 m pc ls st) rest (Qc As.toArray) (AA ad) :=
  z_runP C As rest K hl WB_blind (fun U hU hW' => ⟨rfl, by rw [hU]; exact hW.1, va_K.moved hW'.alike C.2.2.2.2.2.1, NW.warm hW' C.2.2.2.2.2.2.2.2.2⟩) hM hrc hrs hR hn hsz hst hw hdg hf
theorem WBS_blind {As : List Value} {mm : Mm} : FrameBlind (va_Pc As (WBS D ca ad mm b L xs)) := fun a U g mk h => ⟨h.1, (WB_blind a U g mk ⟨h.1, h.2.1⟩).2, va_X.moved (u := U) (U := U.calling g mk a) (Vm.Alike.refl U.vm) h.2.2.1, h.2.2.2⟩
theorem va_S.le {A : Nat → Prop} {H0 H : Heap} {locs : List Loc} (h : va_S A H0 H locs) : H0.size ≤ H.size := h.1
/-- the script is there yet -/
theorem z_scr (CS : CxS p s m meth c args cc nL ret own D ca ad b L xs) (hW : Wd D ca ad s.heap mm H locs) : ∀ U : State, U.heap = H → s.WarmedH U.vm → WBS D ca ad mm b L xs U := fun U hU hW' => by
  have C := CS.1
  refine ⟨⟨by rw [hU]; exact hW.1, va_K.moved hW'.alike C.2.2.2.2.2.1, NW.warm hW' C.2.2.2.2.2.2.2.2.2⟩, va_X.moved hW'.alike ?_, ?_, CS.2.2.2⟩
  · rw [hU]
    exact CS.2.1.kept (hW.2.2.1 b CS.2.2.1 CS.2.2.2)
  · rw [hU]
    exact Nat.lt_of_lt_of_le CS.2.2.1 hW.2.1
theorem z_runX (CS : CxS p s m meth c args cc nL ret own D ca ad b L xs) (hW : Wd D ca ad s.heap mm H locs) (As : List Value) (rest : List Value) (K : KS y cb maxL rt np) (hl : Cond.methodLink own idx y ∈ wT)
    (hM : Met l y (WS y cb maxL rt) rm (va_Pc As (WBS D ca ad mm b L xs)) Qc 0 0 (AA ad)) (hrc : rm.cells = 0) (hrs : rm.slots = 0) (hR : rm.frames + 1 ≤ R.frames ∧ 8 + (maxL + 11) + rm.locals ≤ R.locals) (hn : As.length = np) (hsz : ls.size = nL) (hst : st = As.reverse ++ rest) (hw : (rest.map fun v => v.category).sum ≤ 8) (hdg : decode cc pc = .ok (.invokestatic idx, 3)) (hf : cells + 0 ≤ R.cells ∧ slots + 0 ≤ R.slots) :
    va_Run p l e R s m args below meth c H locs cells slots 0 0 (F0 m pc ls st) rest (Qc As.toArray) (AA ad) :=
  z_runP CS.1 As rest K hl WBS_blind (fun U hU hW' => ⟨rfl, z_scr CS hW U hU hW'⟩) hM hrc hrs hR hn hsz hst hw hdg hf
theorem z_ci {a : Array Value} {v : Int32} (hW : Wd D ca ad H0 mm H locs) (hr : va_Run p l e R s m args below meth c H locs cells slots 0 0 (F0 m pc ls st) rest (QI D ca ad (v, m2) a) (AA ad))
    (kk : ∀ (H : Heap) (locs : List Loc), Wd D ca ad H0 m2 H locs → W p l e R s m args below meth c H locs cells slots Q (F0 m (pc + 3) ls (.int v :: rest))) : W p l e R s m args below meth c H locs cells slots Q (F0 m pc ls st) :=
  va_calli hr hW.2 (fun _ _ h => h) (fun _ h => h) (fun r u t H1 locs1 ht _ hp hB _ _ hS => by subst ht; cases hp; exact kk _ _ ⟨hB.1, hS⟩)
theorem z_cl {a : Array Value} {v : Int64} (hW : Wd D ca ad H0 mm H locs) (hr : va_Run p l e R s m args below meth c H locs cells slots 0 0 (F0 m pc ls st) rest (QL D ca ad (v, m2) a) (AA ad))
    (kk : ∀ (H : Heap) (locs : List Loc), Wd D ca ad H0 m2 H locs → W p l e R s m args below meth c H locs cells slots Q (F0 m (pc + 3) ls (.long v :: rest))) : W p l e R s m args below meth c H locs cells slots Q (F0 m pc ls st) :=
  va_calll hr hW.2 (fun _ _ h => h) (fun _ h => h) (fun r u t H1 locs1 ht _ hp hB _ _ hS => by subst ht; cases hp; exact kk _ _ ⟨hB.1, hS⟩)
theorem z_iret (C : Cx p s m meth c args cc nL (some .int) own D ca ad) (hW : Wd D ca ad s.heap mm H locs) {v : Int32} (hdg : decode cc pc = .ok (.ireturn, 1)) : W p l e R s m args below meth c H locs cells slots (MQ below (QI D ca ad (v, mm)) args s cells slots (AA ad)) (F0 m pc ls [.int v]) :=
  W.iret C.1 C.2.1 C.2.2.2.2.2.2.2.1 (fun t ht hw => ⟨⟨v, (), rfl, rfl, (x_end hW C t ht hw).1⟩, (x_end hW C t ht hw).2⟩) hW.2.2.2 hdg C.2.2.2.2.2.2.2.2.1
theorem z_zret (C : Cx p s m meth c args cc nL (some .boolean) own D ca ad) (hW : Wd D ca ad s.heap mm H locs) {v : Int32} (hv : v &&& 1 = v) (hdg : decode cc pc = .ok (.ireturn, 1)) : W p l e R s m args below meth c H locs cells slots (MQ below (QI D ca ad (v, mm)) args s cells slots (AA ad)) (F0 m pc ls [.int v]) :=
  W.zret C.1 C.2.1 C.2.2.2.2.2.2.2.1 (by show Value.int (v &&& 1) = .int v; rw [hv]) (fun t ht hw => ⟨⟨v, (), rfl, rfl, (x_end hW C t ht hw).1⟩, (x_end hW C t ht hw).2⟩) hW.2.2.2 hdg C.2.2.2.2.2.2.2.2.1
theorem z_sld (CS : CxS p s m meth c args cc nL ret own D ca ad b L xs) (hW : Wd D ca ad s.heap mm H locs) {i : Int32} (hin : inb i L = true) (hdg : decode cc pc = .ok (.iaload, 1))
    (kk : W p l e R s m args below meth c H locs cells slots Q (F0 m (pc + 1) ls (.int (xs i.toNatClampNeg) :: rest))) : W p l e R s m args below meth c H locs cells slots Q (F0 m pc ls (.int i :: .ref b :: rest)) :=
  va_sld CS.1.1 CS.1.2.1 CS.2.1 CS.2.2.1 CS.2.2.2 hW.2 (inb_in hin) hdg kk
theorem z_slen (CS : CxS p s m meth c args cc nL ret own D ca ad b L xs) (hW : Wd D ca ad s.heap mm H locs) (hdg : decode cc pc = .ok (.arraylength, 1))
    (kk : W p l e R s m args below meth c H locs cells slots Q (F0 m (pc + 1) ls (.int (Int32.ofNat L) :: rest))) : W p l e R s m args below meth c H locs cells slots Q (F0 m pc ls (.ref b :: rest)) :=
  va_slen CS.1.1 CS.1.2.1 CS.2.1 CS.2.2.1 CS.2.2.2 hW.2 hdg kk
theorem z_startX (hi : Inj ad) (hy : plainName y.cls = true) (hown : y.cls = own) (hlen : (lg_sl As).length ≤ maxL)
    (h : ∀ (p : Program) (e : Env) (s : State) (m : MethodId) (args : Array Value) (below : List Frame) (meth : Method) (c : Code) (ls : Array Slot), CxS p s m meth c args cb maxL rt own D ca ad b L xs → Wd D ca ad s.heap mm s.heap [] → lv_has ls maxL (lv_args 0 As) → W p l e rm s m args below meth c s.heap [] 0 0 (MQ below Qc args s 0 0 (AA ad)) (F0 m 0 ls [])) : Met l y (WS y cb maxL rt) rm (va_Pc As (WBS D ca ad mm b L xs)) Qc 0 0 (AA ad) := by
  refine Met.ofW (cc := cb) (maxL := maxL) (ret := rt) hy rfl ?_
  intro p e s m args below meth c s₁ B hml hv
  obtain ⟨rfl, ⟨hP, hK, hN⟩, hX, hb, hbA⟩ := hv
  have hts := atoms_spec (ws := WS y cb maxL rt) B.pre
  have hf : s.vm.findClass y.cls = some m.cls := findClass_of_methodNamed B.named
  rw [hown] at hf
  have hl := lv_entry As (n := maxL) hlen
  rw [lg_entry_eq]
  generalize (lg_sl As ++ List.replicate (maxL - (lg_sl As).length) Slot.unset).toArray = ls at hl ⊢
  exact h p e s m _ below meth c ls ⟨⟨B.exec, B.bytes, hml, hf, fun w hw => hts w (List.mem_cons_of_mem _ hw), hK, hi, B.returns, B.notSynchronized, hN⟩, hX, hb, hbA⟩ ⟨hP, va_S.rf⟩ hl
-- one array more
/-- the next object stands at z -/
def ext (ad : Nat → Nat) (z : Nat) : Nat → Nat := fun k => if k = ad 1000 then z else if k = 1000 then ad 1000 + 1 else ad k
theorem ext_M (h : ad 1000 < 1000) {z : Nat} : ext ad z 1000 = ad 1000 + 1 := by
  unfold ext
  rw [if_neg (by omega), if_pos rfl]
theorem ext_o {z k : Nat} (h : k < ad 1000) (h2 : ad 1000 < 1000) : ext ad z k = ad k := by
  unfold ext
  rw [if_neg (by omega), if_neg (by omega)]
theorem ext_z {z : Nat} : ext ad z (ad 1000) = z := by
  unfold ext
  rw [if_pos rfl]
/-- what objects refer to are objects of the class -/
def rfB : Bool := (List.range 179).all (fun k => match sk k with
  | .inl (0, _, _) => true
  | .inl (_, n, f) => (List.range n).all (fun j => decide (f j < NT))
  | .inr (_, fs) => fs.all (fun x => match x with
    | .inl _ => true
    | .inr q => decide (q < NT)))
theorem rfB_ok : rfB = true := by decide +kernel
theorem fvV_ext {ad' : Nat → Nat} {a : Nat → Int32} {bb : Nat → Int64} : ∀ (fs : List (Nat ⊕ Nat)), (∀ x ∈ fs, ∀ q, x = .inr q → ad' q = ad q) → fs.mapIdx (fvV ad' a bb) = fs.mapIdx (fvV ad a bb) := by
  intro fs h
  apply List.ext_getElem?
  intro i
  rw [List.getElem?_mapIdx, List.getElem?_mapIdx]
  cases hx : fs[i]? with
  | none => rfl
  | some x =>
    simp only [Option.map_some]
    congr 1
    unfold fvV
    split
    · rfl
    · rfl
    · rename_i q
      rw [h _ (List.mem_of_getElem? hx) q rfl]
theorem ce_ext {ad' : Nat → Nat} (h : ∀ q, q < NT → ad' q = ad q) {k : Nat} (hk : k < 179) {a : Nat} (hat : va_at D vwCl (a, ce ca ad mm k) H) : va_at D vwCl (a, ce ca ad' mm k) H := by
  have hr := List.all_eq_true.mp rfB_ok k (List.mem_range.mpr hk)
  unfold ce at hat ⊢
  generalize sk k = S at hat hr ⊢
  rcases S with ⟨t, n, f⟩ | ⟨ci, fs⟩
  · cases t with
    | zero => exact hat
    | succ t =>
      refine refs_at (fun j => some (ad' (f j))) hat (fun j hj => ?_)
      have h2 := List.all_eq_true.mp hr j (List.mem_range.mpr hj)
      show some (ad (f j)) = some (ad' (f j))
      rw [h _ (of_decide_eq_true h2)]
  · have e : fs.mapIdx (fvV ad' (mm.1 k) (mm.2 k)) = fs.mapIdx (fvV ad (mm.1 k) (mm.2 k)) := fvV_ext fs (fun x hx q e => by
      have h2 := List.all_eq_true.mp hr x hx
      rw [e] at h2
      exact h _ (of_decide_eq_true h2))
    show va_at D vwCl (a, .inr (ci, fs.mapIdx (fvV ad' (mm.1 k) (mm.2 k)))) H
    rw [e]
    exact hat
/-- an array anew -/
def zr (mm : Mm) (k : Nat) : Mm := (fun a => if a = k then fun _ => 0 else mm.1 a, mm.2)
theorem AA_ext (h : ad 1000 < 1000) {z q : Nat} (ha : AA ad q) : AA (ext ad z) q := by
  obtain ⟨k, hk, rfl⟩ := ha
  exact ⟨k, by rw [ext_M h]; omega, (ext_o hk h).symm⟩
theorem Inj_ext (h : ad 1000 < 1000) (hi : Inj ad) {z : Nat} (hz : ∀ k, k < ad 1000 → ad k < z) : Inj (ext ad z) := by
  have h9 := hi.1
  refine ⟨by rw [ext_M h]; omega, fun i j h1 h2 e => ?_⟩
  rw [ext_M h] at h1 h2
  by_cases hi1 : i < ad 1000
  · by_cases hj1 : j < ad 1000
    · rw [ext_o hi1 h, ext_o hj1 h] at e
      exact hi.2 i j hi1 hj1 e
    · obtain rfl : j = ad 1000 := by omega
      rw [ext_o hi1 h, ext_z] at e
      have := hz i hi1
      omega
  · obtain rfl : i = ad 1000 := by omega
    by_cases hj1 : j < ad 1000
    · rw [ext_o hj1 h, ext_z] at e
      have := hz j hj1
      omega
    · omega
theorem Cx.ext {ad' : Nat → Nat} (C : Cx p s m meth c args cc nL ret own D ca ad) (hi : Inj ad') : Cx p s m meth c args cc nL ret own D ca ad' := ⟨C.1, C.2.1, C.2.2.1, C.2.2.2.1, C.2.2.2.2.1, C.2.2.2.2.2.1, hi, C.2.2.2.2.2.2.2⟩
theorem CxS.ext (h : ad 1000 < 1000) {z : Nat} (hz : s.heap.size ≤ z) (CS : CxS p s m meth c args cc nL ret own D ca ad b L xs) (hi : Inj (ext ad z)) : CxS p s m meth c args cc nL ret own D ca (ext ad z) b L xs := by
  refine ⟨CS.1.ext hi, CS.2.1, CS.2.2.1, ?_⟩
  rintro ⟨k, hk, e⟩
  rw [ext_M h] at hk
  by_cases h1 : k < ad 1000
  · rw [ext_o h1 h] at e
    exact CS.2.2.2 ⟨k, h1, e⟩
  · obtain rfl : k = ad 1000 := by omega
    rw [ext_z] at e
    have := CS.2.2.1
    omega
theorem sJ_ext (h : ad 1000 < 1000) {z k : Nat} (hk : sJ ad k) : sJ (ext ad z) k := ⟨by rw [ext_M h]; have := hk.1; omega, hk.2⟩
theorem z_newa (C : Cx p s m meth c args cc nL ret own D ca ad) (hW : Wd D ca ad H0 mm H locs) (hM : ad 1000 < 179) {N' : Nat} (hs : sk (ad 1000) = .inl (0, N', fun _ => 0)) {n : Int32} (hn : ¬ n < 0) (hN : n.toNatClampNeg = N') (hb : N' * 4 ≤ 536870912) (hc : cells + 1 ≤ R.cells) (hsl : slots + N' ≤ R.slots) (harr : Cond.arrayClass .int ∈ wT) (hdg : decode cc pc = .ok (.newarray .int, 2))
    (kk : ∀ (H1 : Heap), Inj (ext ad H.size) → Wd D ca (ext ad H.size) H0 (zr mm (ad 1000)) H1 locs → W p l e R s m args below meth c H1 locs (cells + 1) (slots + N') Q (F0 m (pc + 2) ls (.ref H.size :: rest))) : W p l e R s m args below meth c H locs cells slots Q (F0 m pc ls (.int n :: rest)) := by
  have h1000 : ad 1000 < 1000 := by omega
  refine va_newaK (atype := .int) C.1 C.2.1 (C.2.2.2.2.1 _ harr) rfl hdg rfl hn hN hb hc hsl rfl (fun H1 cA e1 z1 o1 hAr hNm => ?_)
  obtain rfl : cA = ca 0 := by
    have h1 := RA_fc (C.2.2.2.2.2.1.2 0 (ca 0, .int) rfl).2
    exact Option.some.inj (hNm.symm.trans h1)
  have hlt : ∀ k, k < ad 1000 → ad k < H.size := fun k hk => (hW.1 k _ (wsM_at hk)).lt
  refine kk H1 (Inj_ext h1000 C.2.2.2.2.2.2.1 hlt) ⟨fun k q hq => ?_, Nat.le_trans hW.2.1 (by omega), fun x h1 h2 => (o1 x (Nat.lt_of_lt_of_le h1 hW.2.1)).trans (hW.2.2.1 x h1 (fun h3 => h2 (AA_ext h1000 h3))), fun x hx => AA_ext h1000 (hW.2.2.2 x hx)⟩
  obtain ⟨hk, rfl⟩ := wsM_lt hq
  rw [ext_M h1000] at hk
  by_cases h : k < ad 1000
  · have h1 := hW.1.kept (fun k x hx => o1 x.1 ((hW.1 k x hx).lt)) k _ (wsM_at h)
    rw [ext_o h h1000]
    have h2 := ce_ext (ad' := ext ad H.size) (fun q hq => ext_o (Nat.lt_of_lt_of_le hq C.2.2.2.2.2.2.1.1) h1000) (by omega) h1
    have e : ce ca (ext ad H.size) (zr mm (ad 1000)) k = ce ca (ext ad H.size) mm k := by
      unfold ce zr
      simp only [if_neg (show ¬ k = ad 1000 by omega)]
    rw [e]
    exact h2
  · obtain rfl : k = ad 1000 := by omega
    rw [ext_z, ce_int hs]
    have e : (zr mm (ad 1000)).1 (ad 1000) = fun _ => 0 := by
      unfold zr
      simp
    rw [e]
    exact e1
/-- a call of a method that makes one array -/
theorem z_cx {a : Array Value} {v : Int32} {ms : Nat} (h1000 : ad 1000 < 1000) (hW : Wd D ca ad H0 mm H locs) (hr : va_Run p l e R s m args below meth c H locs cells slots 1 ms (F0 m pc ls st) rest (QI D ca (ext ad H.size) (v, m2) a) (AA (ext ad H.size)))
    (kk : ∀ (H1 : Heap) (locs : List Loc), Wd D ca (ext ad H.size) H0 m2 H1 locs → W p l e R s m args below meth c H1 locs (cells + 1) (slots + ms) Q (F0 m (pc + 3) ls (.int v :: rest))) : W p l e R s m args below meth c H locs cells slots Q (F0 m pc ls st) :=
  va_calli hr ⟨hW.2.1, fun x h1 h2 => hW.2.2.1 x h1 (fun h3 => h2 (AA_ext h1000 h3)), fun x hx => AA_ext h1000 (hW.2.2.2 x hx)⟩ (fun _ _ h => h) (fun _ h => h) (fun r u t H1 locs1 ht _ hp hB _ _ hS => by subst ht; cases hp; exact kk _ _ ⟨hB.1, hS⟩)
end ZC
