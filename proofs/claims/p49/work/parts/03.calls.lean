/-! calls, starts, branches on null, in the world's words -/
theorem inb_lt {i : Int32} {n : Nat} (h : inb i n = true) : i.toNatClampNeg < n := Nat.not_le.mp fun q => inb_in h (Or.inr q)
def zb (v : Int32) : Bool := decide (v &&& 1 = v)
def nz (v : Int32) : Bool := decide (¬ v = 0)
def nzL (v : Int64) : Bool := decide (¬ v = 0)
def cs {α : Type} (x : Option Nat) (a : α) (b : Nat → α) : α := match x with
  | none => a
  | some q => b q
theorem cs_n {α : Type} {a : α} {b : Nat → α} {r : α} (h : cs none a b = r) : a = r := h
theorem cs_q {α : Type} {q : Nat} {a : α} {b : Nat → α} {r : α} (h : cs (some q) a b = r) : b q = r := h
def bd2 {α β : Type} (x : Option (α × Mm)) (f : α → Mm → Option β) : Option β := match x with
  | none => none
  | some r => f r.1 r.2
theorem bd2_s {α β : Type} {x : Option (α × Mm)} {f : α → Mm → Option β} {r : β} (h : bd2 x f = some r) : ∃ y m1, x = some (y, m1) ∧ f y m1 = some r := by
  cases x with
  | none => cases h
  | some z => exact ⟨z.1, z.2, rfl, h⟩
/-- what a method is to its callers -/
def KV (y : MethodName) (C : String) (b : ByteArray) (n : Nat) (ret : Option FieldType) (np : Nat) : Prop := Cond.instanceMethod y ∈ wT ∧ Cond.selects C y y ∈ wT ∧ Cond.initialized C ∈ wT ∧ Cond.code y b n ret ∈ wT ∧ y.cls = C ∧ y.cls ≠ "java/lang/invoke/MethodHandle" ∧ y.cls ≠ "java/lang/invoke/VarHandle" ∧ (parseMethodDescriptor y.desc).map (fun d => d.parameters.length) = some np
def KS (y : MethodName) (b : ByteArray) (n : Nat) (ret : Option FieldType) (np : Nat) : Prop := Cond.static y ∈ wT ∧ Cond.initialized y.cls ∈ wT ∧ Cond.code y b n ret ∈ wT ∧ y.cls ≠ "java/lang/invoke/MethodHandle" ∧ y.cls ≠ "java/lang/invoke/VarHandle" ∧ (parseMethodDescriptor y.desc).map (fun d => d.parameters.length) = some np
section XC
variable {p : Program} {l : Launch} {e : Env} {R : Room} {s : State} {m : MethodId} {args : Array Value} {below : List Frame} {meth : Method} {c : Code} {H : Heap} {locs : List Loc} {Q : State → Prop} {cc : ByteArray} {pc : Nat} {ls : Array Slot} {rest st : List Value} {nL : Nat} {ret : Option FieldType} {own : String} {D : va_G} {ca ad : Nat → Nat} {H0 : Heap} {mm m2 : Mm}
variable {y : MethodName} {b : ByteArray} {maxL np idx : Nat} {rt : Option FieldType} {rm : Room} {Qc : Array Value → State → Outcome → State → Prop} {As : List Value}
theorem WB_blind {As : List Value} {mm : Mm} : FrameBlind (va_Pc As (WB D ca ad mm)) := fun a U g mk h => ⟨h.1, h.2.1, va_K.moved (u := U) (U := U.calling g mk a) (Vm.Alike.refl U.vm) h.2.2.1, NW.same (u := U) (U := U.calling g mk a) rfl h.2.2.2⟩
theorem x_runV {CN : String} {TC : u_T} {k ci N : Nat} {fs : List (Nat ⊕ Nat)} (C : Cx p s m meth c args cc nL ret own D ca ad) (hW : Wd D ca ad H0 mm H locs) (As : List Value) (rest : List Value) (hk : k < NT) (hs : sk k = .inr (ci, fs)) (hcl : vwCl[ci]? = some (CN, TC, N)) (K : KV y CN b maxL rt np) (hl : Cond.methodLink own idx y ∈ wT)
    (hM : Met l y (WS y b maxL rt) rm (va_Pc (.ref (ad k) :: As) (WB D ca ad mm)) Qc 0 0 (AA ad)) (hrc : rm.cells = 0) (hrs : rm.slots = 0) (hR : rm.frames + 1 ≤ R.frames ∧ 8 + (maxL + 11) + rm.locals ≤ R.locals) (hn : As.length = np) (hsz : ls.size = nL) (hst : st = As.reverse ++ .ref (ad k) :: rest) (hw : (rest.map fun v => v.category).sum ≤ 8) (hdg : decode cc pc = .ok (.invokevirtual idx, 3)) :
    va_Run p l e R s m args below meth c H locs 0 0 0 0 (F0 m pc ls st) rest (Qc (Value.ref (ad k) :: As).toArray) (AA ad) := by
  have hG : GoodIn wT (wsV own idx CN y (WS y b maxL rt)) := by
    intro w hw
    unfold wsV at hw
    rcases List.mem_append.mp hw with h | h
    · have : w ∈ wT := by
        simp only [List.mem_cons, List.not_mem_nil, or_false] at h
        rcases h with rfl | rfl | rfl | rfl
        · exact hl
        · exact K.1
        · exact K.2.1
        · exact K.2.2.1
      exact wT_good w this
    · exact WS_in K.2.2.2.1 (fun _ h => h) w h
  exact va_runV (As := As) (rest := rest) ⟨C.1, C.2.1, C.2.2.1, C.2.2.2.1, C.2.2.2.2.1⟩ hM (cwV np C.2.2.2.2.1 hG rfl hrc hrs K.2.2.2.2 hR) ⟨WB_blind, va_recv C.2.2.2.2.2.1 hW.1 hcl (by rw [wsM_at (C.2.2.2.2.2.2.1.lt hk), ce_obj hs]), fun U hU hW' => ⟨rfl, by rw [hU]; exact hW.1, va_K.moved hW'.alike C.2.2.2.2.2.1, NW.warm hW' C.2.2.2.2.2.2.2.2.2⟩⟩ rfl hn hsz hst (lv_room (rest := st) hw) hdg ⟨Nat.zero_le _, Nat.zero_le _⟩
theorem x_runS (C : Cx p s m meth c args cc nL ret own D ca ad) (hW : Wd D ca ad H0 mm H locs) (As : List Value) (rest : List Value) (K : KS y b maxL rt np) (hl : Cond.methodLink own idx y ∈ wT)
    (hM : Met l y (WS y b maxL rt) rm (va_Pc As (WB D ca ad mm)) Qc 0 0 (AA ad)) (hrc : rm.cells = 0) (hrs : rm.slots = 0) (hR : rm.frames + 1 ≤ R.frames ∧ 8 + (maxL + 11) + rm.locals ≤ R.locals) (hn : As.length = np) (hsz : ls.size = nL) (hst : st = As.reverse ++ rest) (hw : (rest.map fun v => v.category).sum ≤ 8) (hdg : decode cc pc = .ok (.invokestatic idx, 3)) :
    va_Run p l e R s m args below meth c H locs 0 0 0 0 (F0 m pc ls st) rest (Qc As.toArray) (AA ad) := by
  have hG : GoodIn wT (va_wsS own idx y (WS y b maxL rt)) := by
    intro w hw
    unfold va_wsS at hw
    rcases List.mem_append.mp hw with h | h
    · have : w ∈ wT := by
        simp only [List.mem_cons, List.not_mem_nil, or_false] at h
        rcases h with rfl | rfl | rfl
        · exact hl
        · exact K.1
        · exact K.2.1
      exact wT_good w this
    · exact WS_in K.2.2.1 (fun _ h => h) w h
  exact va_runS (As := As) (rest := rest) ⟨C.1, C.2.1, C.2.2.1, C.2.2.2.1, C.2.2.2.2.1⟩ hM (va_cwS np C.2.2.2.2.1 hG rfl hrc hrs K.2.2.2 hR) ⟨WB_blind, fun U hU hW' => ⟨rfl, by rw [hU]; exact hW.1, va_K.moved hW'.alike C.2.2.2.2.2.1, NW.warm hW' C.2.2.2.2.2.2.2.2.2⟩⟩ rfl hn hsz hst (lv_room (rest := st) hw) hdg ⟨Nat.zero_le _, Nat.zero_le _⟩
theorem x_runSN {host : String} (C : Cx p s m meth c args cc nL ret own D ca ad) (hW : Wd D ca ad H0 mm H locs) (As : List Value) (rest : List Value) (K : KS y b maxL rt np) (hl : (own, idx, y, host) ∈ nestW)
    (hM : Met l y (WS y b maxL rt) rm (va_Pc As (WB D ca ad mm)) Qc 0 0 (AA ad)) (hrc : rm.cells = 0) (hrs : rm.slots = 0) (hR : rm.frames + 1 ≤ R.frames ∧ 8 + (maxL + 11) + rm.locals ≤ R.locals) (hn : As.length = np) (hsz : ls.size = nL) (hst : st = As.reverse ++ rest) (hw : (rest.map fun v => v.category).sum ≤ 8) (hdg : decode cc pc = .ok (.invokestatic idx, 3)) :
    va_Run p l e R s m args below meth c H locs 0 0 0 0 (F0 m pc ls st) rest (Qc As.toArray) (AA ad) :=
  va_runSN (As := As) (rest := rest) ⟨C.1, C.2.1, C.2.2.1, C.2.2.2.1, C.2.2.2.2.1⟩ hM ⟨va_cnB np C.2.2.2.2.1 (WS_in K.2.2.1 (fun _ h => h)) rfl hrc hrs (C.2.2.2.2.2.2.2.2.2 _ hl) (C.2.2.2.2.1 _ K.2.1) K.2.2.2 hR, C.2.2.2.2.1 _ K.1, trivial⟩ ⟨WB_blind, fun U hU hW' => ⟨rfl, by rw [hU]; exact hW.1, va_K.moved hW'.alike C.2.2.2.2.2.1, NW.warm hW' C.2.2.2.2.2.2.2.2.2⟩⟩ rfl hn hsz hst (lv_room (rest := st) hw) hdg ⟨Nat.zero_le _, Nat.zero_le _⟩
theorem x_AA {k : Nat} (hW : Wd D ca ad H0 mm H locs) : ∀ q, q < H.size → AA ad q → AA ad q := fun _ _ h => h
theorem x_ci {a : Array Value} {v : Int32} (hW : Wd D ca ad H0 mm H locs) (hr : va_Run p l e R s m args below meth c H locs 0 0 0 0 (F0 m pc ls st) rest (QI D ca ad (v, m2) a) (AA ad))
    (kk : ∀ (H : Heap) (locs : List Loc), Wd D ca ad H0 m2 H locs → W p l e R s m args below meth c H locs 0 0 Q (F0 m (pc + 3) ls (.int v :: rest))) : W p l e R s m args below meth c H locs 0 0 Q (F0 m pc ls st) :=
  va_calli hr hW.2 (fun _ _ h => h) (fun _ h => h) (fun r u t H1 locs1 ht _ hp hB _ _ hS => by subst ht; cases hp; exact kk _ _ ⟨hB.1, hS⟩)
theorem x_cl {a : Array Value} {v : Int64} (hW : Wd D ca ad H0 mm H locs) (hr : va_Run p l e R s m args below meth c H locs 0 0 0 0 (F0 m pc ls st) rest (QL D ca ad (v, m2) a) (AA ad))
    (kk : ∀ (H : Heap) (locs : List Loc), Wd D ca ad H0 m2 H locs → W p l e R s m args below meth c H locs 0 0 Q (F0 m (pc + 3) ls (.long v :: rest))) : W p l e R s m args below meth c H locs 0 0 Q (F0 m pc ls st) :=
  va_calll hr hW.2 (fun _ _ h => h) (fun _ h => h) (fun r u t H1 locs1 ht _ hp hB _ _ hS => by subst ht; cases hp; exact kk _ _ ⟨hB.1, hS⟩)
theorem x_cv {a : Array Value} {v : Unit} (hW : Wd D ca ad H0 mm H locs) (hr : va_Run p l e R s m args below meth c H locs 0 0 0 0 (F0 m pc ls st) rest (QV D ca ad (v, m2) a) (AA ad))
    (kk : ∀ (H : Heap) (locs : List Loc), Wd D ca ad H0 m2 H locs → W p l e R s m args below meth c H locs 0 0 Q (F0 m (pc + 3) ls rest)) : W p l e R s m args below meth c H locs 0 0 Q (F0 m pc ls st) :=
  va_callv hr hW.2 (fun _ _ h => h) (fun _ h => h) (fun u t H1 locs1 ht _ hp hB _ _ hS => by subst ht; exact kk _ _ ⟨hB.1, hS⟩)
theorem x_cr {a : Array Value} {v : Option Nat} (hW : Wd D ca ad H0 mm H locs) (hr : va_Run p l e R s m args below meth c H locs 0 0 0 0 (F0 m pc ls st) rest (QR D ca ad (v, m2) a) (AA ad))
    (kk : ∀ (H : Heap) (locs : List Loc), Wd D ca ad H0 m2 H locs → W p l e R s m args below meth c H locs 0 0 Q (F0 m (pc + 3) ls (va_re ad v :: rest))) : W p l e R s m args below meth c H locs 0 0 Q (F0 m pc ls st) :=
  va_calle hr hW.2 (fun _ _ h => h) (fun _ h => h) (fun r u t H1 locs1 ht _ hp hB _ _ hS => by subst ht; cases hp; exact kk _ _ ⟨hB.1, hS⟩)
theorem x_start (hi : Inj ad) (hy : plainName y.cls = true) (hown : y.cls = own) (hlen : (lg_sl As).length ≤ maxL)
    (h : ∀ (p : Program) (e : Env) (s : State) (m : MethodId) (args : Array Value) (below : List Frame) (meth : Method) (c : Code) (ls : Array Slot), Cx p s m meth c args b maxL rt own D ca ad → Wd D ca ad s.heap mm s.heap [] → lv_has ls maxL (lv_args 0 As) → W p l e rm s m args below meth c s.heap [] 0 0 (MQ below Qc args s 0 0 (AA ad)) (F0 m 0 ls [])) : Met l y (WS y b maxL rt) rm (va_Pc As (WB D ca ad mm)) Qc 0 0 (AA ad) := by
  refine Met.ofW (cc := b) (maxL := maxL) (ret := rt) hy rfl ?_
  intro p e s m args below meth c s₁ B hml hv
  obtain ⟨rfl, hP, hK, hN⟩ := hv
  have hts := atoms_spec (ws := WS y b maxL rt) B.pre
  have hf : s.vm.findClass y.cls = some m.cls := findClass_of_methodNamed B.named
  rw [hown] at hf
  have hl := lv_entry As (n := maxL) hlen
  rw [lg_entry_eq]
  generalize (lg_sl As ++ List.replicate (maxL - (lg_sl As).length) Slot.unset).toArray = ls at hl ⊢
  exact h p e s m _ below meth c ls ⟨B.exec, B.bytes, hml, hf, fun w hw => hts w (List.mem_cons_of_mem _ hw), hK, hi, B.returns, B.notSynchronized, hN⟩ ⟨hP, va_S.rf⟩ hl
theorem x_ifnull (C : Cx p s m meth c args cc nL ret own D ca ad) {x : Option Nat} {off : Int} {tgt : Nat} (hdg : decode cc pc = .ok (.ifnull off, 3)) (ht : (pc : Int) + off = (tgt : Int))
    (kn : x = none → W p l e R s m args below meth c H locs 0 0 Q (F0 m tgt ls rest)) (kq : ∀ q, x = some q → W p l e R s m args below meth c H locs 0 0 Q (F0 m (pc + 3) ls rest)) : W p l e R s m args below meth c H locs 0 0 Q (F0 m pc ls (va_re ad x :: rest)) := by
  cases x with
  | none => exact lv_ifnullN C.1 C.2.1 hdg ht (kn rfl)
  | some q => exact lv_ifnull C.1 C.2.1 hdg (kq q rfl)
theorem x_ifnonnull (C : Cx p s m meth c args cc nL ret own D ca ad) {x : Option Nat} {off : Int} {tgt : Nat} (hdg : decode cc pc = .ok (.ifnonnull off, 3)) (ht : (pc : Int) + off = (tgt : Int))
    (kn : x = none → W p l e R s m args below meth c H locs 0 0 Q (F0 m (pc + 3) ls rest)) (kq : ∀ q, x = some q → W p l e R s m args below meth c H locs 0 0 Q (F0 m tgt ls rest)) : W p l e R s m args below meth c H locs 0 0 Q (F0 m pc ls (va_re ad x :: rest)) := by
  cases x with
  | none => exact lv_ifnonnullN C.1 C.2.1 hdg (kn rfl)
  | some q => exact lv_ifnonnull C.1 C.2.1 hdg ht (kq q rfl)
theorem x_tdef (C : Cx p s m meth c args cc nL ret own D ca ad) {dflt lo hi : Int} {offs : Array Int} {len : Nat} {x : Int32} {tgt : Nat} (hdg : decode cc pc = .ok (.tableswitch dflt lo hi offs, len)) (h : x.toInt < lo ∨ hi < x.toInt ∨ (¬ x.toInt < lo ∧ ¬ hi < x.toInt ∧ offs[(x.toInt - lo).toNat]? = some dflt)) (ht : (pc : Int) + dflt = (tgt : Int))
    (k : W p l e R s m args below meth c H locs 0 0 Q (F0 m tgt ls rest)) : W p l e R s m args below meth c H locs 0 0 Q (F0 m pc ls (.int x :: rest)) := by
  rcases h with h | h | ⟨h1, h2, h3⟩
  · exact lv_tableOut C.1 C.2.1 hdg (Or.inl h) ht k
  · exact lv_tableOut C.1 C.2.1 hdg (Or.inr h) ht k
  · exact lv_tableIn C.1 C.2.1 hdg h1 h2 h3 ht k
theorem x_tin (C : Cx p s m meth c args cc nL ret own D ca ad) {dflt lo hi off : Int} {offs : Array Int} {len : Nat} {x k : Int32} {tgt : Nat} (hdg : decode cc pc = .ok (.tableswitch dflt lo hi offs, len)) (hx : x = k) (h1 : ¬ k.toInt < lo) (h2 : ¬ hi < k.toInt) (ho : offs[(k.toInt - lo).toNat]? = some off) (ht : (pc : Int) + off = (tgt : Int))
    (kk : W p l e R s m args below meth c H locs 0 0 Q (F0 m tgt ls rest)) : W p l e R s m args below meth c H locs 0 0 Q (F0 m pc ls (.int x :: rest)) := by
  subst hx
  exact lv_tableIn C.1 C.2.1 hdg h1 h2 ho ht kk
end XC
def sB (P : Nat → Prop) (t k : Nat) : Prop := sA t k ∧ ∀ j, j < ln k → P (el k j)
