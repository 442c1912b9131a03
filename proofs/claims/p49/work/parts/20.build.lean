/-! the constructors' rows: a world that grows -/
theorem mna_outer (c : ClassId) (N h0 : Nat) : ∀ i : Nat, Jvm.Free.Multi.outerC c N h0 i = arrV c N (fun j => va_rf (if j < i then some (h0 + 1 + j) else none))
  | 0 => by
    show ({ cls := c, slots := Array.replicate N .null, vm := .none } : Cell) = _
    rw [arrV_new]
    refine congrArg (arrV c N) (funext fun j => ?_)
    simp [va_rf]
  | i + 1 => by
    show (Jvm.Free.Multi.outerC c N h0 i).setSlot i (.ref (h0 + 1 + i)) = _
    rw [mna_outer c N h0 i, arrV_store]
    refine congrArg (arrV c N) (funext fun j => ?_)
    by_cases e : j = i
    · subst e
      simp [updV, va_rf]
    · by_cases h : j < i
      · simp [updV, e, h, Nat.lt_succ_of_lt h]
      · simp [updV, e, h, show ¬ j < i + 1 by omega]
def AOI (U : State) : Prop := (Cond.arrayOver (.array .int)).before #[] U = true
def NC (U : State) : Prop := NW U ∧ va_AO "HeavyFiles$Row" U ∧ va_AO "HeavyFiles$Court" U ∧ va_AO "HeavyFiles$Suit" U ∧ va_AO "HeavyFiles$Scale" U ∧ AOI U
theorem AOI.moved {u U : State} (hvm : u.vm.Alike U.vm) (h : AOI u) : AOI U := over_moved (a := #[]) (a' := #[]) hvm h
theorem NC.warm {s U : State} (hW : s.WarmedH U.vm) (h : NC s) : NC U := ⟨NW.warm hW h.1, va_AO.moved hW.alike h.2.1, va_AO.moved hW.alike h.2.2.1, va_AO.moved hW.alike h.2.2.2.1, va_AO.moved hW.alike h.2.2.2.2.1, AOI.moved hW.alike h.2.2.2.2.2⟩
theorem NC.same {u U : State} (e : u.vm = U.vm) (h : NC u) : NC U := by
  have ha : u.vm.Alike U.vm := by rw [e]; exact Vm.Alike.refl _
  exact ⟨NW.same e h.1, va_AO.moved ha h.2.1, va_AO.moved ha h.2.2.1, va_AO.moved ha h.2.2.2.1, va_AO.moved ha h.2.2.2.2.1, AOI.moved ha h.2.2.2.2.2⟩
theorem RA_fc {U : State} {cA : ClassId} {ty : FieldType} (h : va_RA U cA ty) : U.vm.findClass ("[" ++ ty.toString) = some cA := by
  cases ty with
  | object C => obtain ⟨_, _, _, _, _, h4⟩ := h; exact h4
  | _ => exact h
theorem x_ca {D : va_G} {ca : Nat → Nat} {s : State} {cA : ClassId} {ty : FieldType} (hK : va_K D vwCl (tyT ca ++ [(cA, ty)]) s) (t : Nat) (ht : (tyT ca)[t]? = some (ca t, ty)) : cA = ca t := by
  have hl : t < (tyT ca).length := (List.getElem?_eq_some_iff.mp ht).1
  have h1 := RA_fc (hK.2 t (ca t, ty) (by rw [List.getElem?_append_left hl, ht])).2
  have h2 := RA_fc (hK.2 (tyT ca).length (cA, ty) (by simp)).2
  exact Option.some.inj (h2.symm.trans h1)
abbrev refs (f : Nat → Option Nat) : (Nat → Int32) ⊕ (Nat → Int64) ⊕ (Nat → UInt32) ⊕ (Nat → UInt64) ⊕ (Nat → Option Nat) := .inr (.inr (.inr (.inr f)))
/-- a constructor's start and end: its object alone, and what it has made -/
abbrev PI (D : va_G) (ca : Nat → Nat) (q ci : Nat) (nul : List Value) (As : List Value) (sz : Nat) : Array Value → State → Prop := va_Pc (.ref q :: As) (fun U => U.heap.size = sz ∧ va_P D vwCl [(q, .inr (ci, nul))] U.heap ∧ va_K D vwCl (tyT ca) U ∧ va_D (fun _ => True) [(q, .inr (ci, nul))] ∧ NC U)
abbrev AI (q ci : Nat) (nul : List Value) (sz : Nat) : Nat → Prop := va_A [(q, .inr (ci, nul))] sz
abbrev QN (D : va_G) (ca : Nat → Nat) (kX : (Nat → Nat) → va_W) (q ci : Nat) (nul : List Value) (sz : Nat) : Array Value → State → Outcome → State → Prop := va_Qv (fun a : Nat → Nat => a 0 = q) (fun a t => va_P D vwCl (kX a) t.heap ∧ va_K D vwCl (tyT ca) t ∧ va_D (AI q ci nul sz) (kX a)) (AI q ci nul sz)
section XN
variable {p : Program} {l : Launch} {e : Env} {R : Room} {s : State} {m : MethodId} {args : Array Value} {below : List Frame} {meth : Method} {c : Code} {H : Heap} {locs : List Loc} {Q : State → Prop} {cc : ByteArray} {pc : Nat} {ls : Array Slot} {rest st : List Value} {nL : Nat} {ret : Option FieldType} {own : String} {D : va_G} {ca ad : Nat → Nat} {H0 : Heap} {ws : va_W} {A : Nat → Prop} {cells slots : Nat}
theorem y_newa (C : Cx p s m meth c args cc nL ret own D ca ad) (hP : va_P D vwCl ws H) (hD : va_D A ws) (hS : va_S A H0 H locs) (hA : ∀ q, H0.size ≤ q → A q) {n : Int32} (N' : Nat) (hn : ¬ n < 0) (hN : n.toNatClampNeg = N') (hb : N' * 4 ≤ 536870912) (hc : cells + 1 ≤ R.cells) (hsl : slots + N' ≤ R.slots) (harr : Cond.arrayClass .int ∈ wT) (hdg : decode cc pc = .ok (.newarray .int, 2))
    (kk : ∀ (q : Nat) (H : Heap), va_P D vwCl (ws ++ [(q, .inl (ca 0, N', .inl fun _ => 0))]) H → va_D A (ws ++ [(q, .inl (ca 0, N', .inl fun _ => 0))]) → va_S A H0 H locs → W p l e R s m args below meth c H locs (cells + 1) (slots + N') Q (F0 m (pc + 2) ls (.ref q :: rest))) : W p l e R s m args below meth c H locs cells slots Q (F0 m pc ls (.int n :: rest)) := by
  refine va_newa (atype := .int) (a0 := (N', .inl fun _ => 0)) (ty := .int) C.1 C.2.1 (C.2.2.2.2.1 _ harr) rfl C.2.2.2.2.2.1 hP hD hS hA (fun _ => rfl) hn hN hb hc hsl hdg (fun q cA H1 hK hP hD hS => ?_)
  obtain rfl := x_ca hK 0 rfl
  exact kk q H1 hP hD hS
theorem y_newq (C : Cx p s m meth c args cc nL ret own D ca ad) (hP : va_P D vwCl ws H) (hD : va_D A ws) (hS : va_S A H0 H locs) (hA : ∀ q, H0.size ≤ q → A q) (t : Nat) {EC : String} (ht : (tyT ca)[t]? = some (ca t, .object EC)) (hO : va_AO EC s) {idx : Nat} {n : Int32} (N' : Nat) (hn : ¬ n < 0) (hN : n.toNatClampNeg = N') (hb : N' * 4 ≤ 536870912) (hc : cells + 1 ≤ R.cells) (hsl : slots + N' ≤ R.slots) (hl : Cond.classLink own idx EC ∈ wT) (hdg : decode cc pc = .ok (.anewarray idx, 3))
    (kk : ∀ (q : Nat) (H : Heap), va_P D vwCl (ws ++ [(q, .inl (ca t, N', refs fun _ => none))]) H → va_D A (ws ++ [(q, .inl (ca t, N', refs fun _ => none))]) → va_S A H0 H locs → W p l e R s m args below meth c H locs (cells + 1) (slots + N') Q (F0 m (pc + 3) ls (.ref q :: rest))) : W p l e R s m args below meth c H locs cells slots Q (F0 m pc ls (.int n :: rest)) := by
  refine va_newq C.1 C.2.1 C.2.2.2.1 (C.2.2.2.2.1 _ hl) hO C.2.2.2.2.2.1 hP hD hS hA hn hN hb hc hsl hdg (fun q cA H1 hK hP hD hS => ?_)
  obtain rfl := x_ca hK t ht
  exact kk q H1 hP hD hS
theorem y_newo (C : Cx p s m meth c args cc nL ret own D ca ad) (hP : va_P D vwCl ws H) (hD : va_D A ws) (hS : va_S A H0 H locs) (hA : ∀ q, H0.size ≤ q → A q) {ci N idx : Nat} {CN : String} {TC : u_T} {ty : Nat → FieldType} (fs : List Value) (K : KC ci CN TC N ty) (hfs : ∀ j, j < N → defaultValue (ty j) = vp_V fs j) (hl : Cond.classLink own idx CN ∈ wT) (hi : Cond.instantiable CN N ∈ wT) (hini : Cond.initialized CN ∈ wT) (hc : cells + 1 ≤ R.cells) (hsl : slots + N ≤ R.slots) (hdg : decode cc pc = .ok (.new idx, 3))
    (kk : ∀ (q : Nat) (H : Heap), va_P D vwCl (ws ++ [(q, .inr (ci, fs))]) H → va_D A (ws ++ [(q, .inr (ci, fs))]) → va_S A H0 H locs → W p l e R s m args below meth c H locs (cells + 1) (slots + N) Q (F0 m (pc + 3) ls (.ref q :: rest))) : W p l e R s m args below meth c H locs cells slots Q (F0 m pc ls rest) :=
  va_new C.1 C.2.1 C.2.2.2.2.1 K.2.1 ty K.2.2.1 C.2.2.2.1 (C.2.2.2.2.1 _ hl) (C.2.2.2.2.1 _ hi) (C.2.2.2.2.1 _ hini) C.2.2.2.2.2.1 hP hD hS hA K.1 hfs hc hsl hdg kk
theorem y_putF (C : Cx p s m meth c args cc nL ret own D ca ad) (hP : va_P D vwCl ws H) (hD : va_D A ws) (hS : va_S A H0 H locs) (hin : meth.name = "<init>") {a k ci N idx : Nat} {TC : u_T} {ty : Nat → FieldType} {fs : List Value} {v : Value} {t1 : FieldType} (he : ws[0]? = some (a, .inr (ci, fs))) (K : KC ci own TC N ty) (hk : k < N) (hT : (TC k).1 = own) (hf : (TC k).2.2.2 = true) (hl : Cond.fieldLink own idx own (TC k).2.1 (TC k).2.2.1 ∈ wT) (ht : parseFieldDescriptor (TC k).2.2.1 = some t1) (hn : narrow t1 v = v) (hfit : fits t1 v = true) (hlt : k < fs.length) (hdg : decode cc pc = .ok (.putfield idx, 3))
    (kk : ∀ (H : Heap) (locs : List Loc), va_P D vwCl (ws.set 0 (a, .inr (ci, fs.set k v))) H → va_D A (ws.set 0 (a, .inr (ci, fs.set k v))) → va_S A H0 H locs → W p l e R s m args below meth c H locs cells slots Q (F0 m (pc + 3) ls rest)) : W p l e R s m args below meth c H locs cells slots Q (F0 m pc ls (v :: .ref a :: rest)) :=
  va_putF C.1 C.2.1 C.2.2.2.2.1 K.2.1 ty K.2.2.1 K.2.2.2 C.2.2.2.1 C.2.2.2.2.2.1 hP hD hS 0 he K.1 k hk (C.2.2.2.2.1 _ hl) (fun y hy => by rw [hT] at hy; exact hy) hf hin hT ht hn hfit hlt hdg kk
theorem y_put (C : Cx p s m meth c args cc nL ret own D ca ad) (hP : va_P D vwCl ws H) (hD : va_D A ws) (hS : va_S A H0 H locs) {a k ci N idx : Nat} {TC : u_T} {ty : Nat → FieldType} {fs : List Value} {v : Value} {t1 : FieldType} (he : ws[0]? = some (a, .inr (ci, fs))) (K : KC ci own TC N ty) (hk : k < N) (hT : (TC k).1 = own) (hf : (TC k).2.2.2 = false) (hl : Cond.fieldLink own idx own (TC k).2.1 (TC k).2.2.1 ∈ wT) (ht : parseFieldDescriptor (TC k).2.2.1 = some t1) (hn : narrow t1 v = v) (hfit : fits t1 v = true) (hlt : k < fs.length) (hdg : decode cc pc = .ok (.putfield idx, 3))
    (kk : ∀ (H : Heap) (locs : List Loc), va_P D vwCl (ws.set 0 (a, .inr (ci, fs.set k v))) H → va_D A (ws.set 0 (a, .inr (ci, fs.set k v))) → va_S A H0 H locs → W p l e R s m args below meth c H locs cells slots Q (F0 m (pc + 3) ls rest)) : W p l e R s m args below meth c H locs cells slots Q (F0 m pc ls (v :: .ref a :: rest)) :=
  va_put C.1 C.2.1 C.2.2.2.2.1 K.2.1 ty K.2.2.1 K.2.2.2 C.2.2.2.1 C.2.2.2.2.2.1 hP hD hS 0 he K.1 k hk (C.2.2.2.2.1 _ hl) (fun y hy => by rw [hT] at hy; exact hy) hf ht hn hfit hlt hdg kk
theorem y_get (C : Cx p s m meth c args cc nL ret own D ca ad) (hP : va_P D vwCl ws H) {a k ci N idx : Nat} {TC : u_T} {ty : Nat → FieldType} {fs : List Value} {v : Value} (he : ws[0]? = some (a, .inr (ci, fs))) (K : KC ci own TC N ty) (hk : k < N) (hT : (TC k).1 = own) (hl : Cond.fieldLink own idx own (TC k).2.1 (TC k).2.2.1 ∈ wT) (hv : fs[k]? = some v) (hdg : decode cc pc = .ok (.getfield idx, 3))
    (kk : W p l e R s m args below meth c H locs cells slots Q (F0 m (pc + 3) ls (v :: rest))) : W p l e R s m args below meth c H locs cells slots Q (F0 m pc ls (.ref a :: rest)) :=
  va_get C.1 C.2.1 C.2.2.2.2.1 K.2.1 C.2.2.2.1 C.2.2.2.2.2.1 hP 0 he K.1 k hk (C.2.2.2.2.1 _ hl) (fun y hy => by rw [hT] at hy; exact hy) hv hdg kk
theorem y_mna (C : Cx p s m meth c args cc nL ret own D ca ad) (hP : va_P D vwCl ws H) (hD : va_D A ws) (hS : va_S A H0 H locs) (hA : ∀ q, H0.size ≤ q → A q) (hO : AOI s) {idx : Nat} {n k : Int32} (N' K' : Nat) (hn : ¬ n < 0) (hk : ¬ k < 0) (hN : n.toNatClampNeg = N') (hM : k.toNatClampNeg = K') (hb1 : N' * 4 ≤ 536870912) (hb2 : K' * 4 ≤ 536870912) (hc : cells + (1 + N') ≤ R.cells) (hsl : slots + (N' + N' * K') ≤ R.slots) (hl : Cond.classLink own idx "[[I" ∈ wT) (harr : Cond.arrayClass .int ∈ wT) (hdg : decode cc pc = .ok (.multianewarray idx 2, 4))
    (kk : ∀ (q : Nat) (r : Nat → Nat) (H : Heap), va_P D vwCl ((ws ++ [(q, .inl (ca 4, N', refs (fun i => if i < N' then some (r i) else none)))]) ++ (List.range N').map (fun i => (r i, .inl (ca 0, K', .inl fun _ => 0)))) H → va_D A ((ws ++ [(q, .inl (ca 4, N', refs (fun i => if i < N' then some (r i) else none)))]) ++ (List.range N').map (fun i => (r i, .inl (ca 0, K', .inl fun _ => 0)))) → va_S A H0 H locs →
      W p l e R s m args below meth c H locs (cells + 1 + N') (slots + N' + N' * K') Q (F0 m (pc + 4) ls (.ref q :: rest))) : W p l e R s m args below meth c H locs cells slots Q (F0 m pc ls (.int k :: .int n :: rest)) := by
  subst hN
  subst hM
  intro T hT Xs
  have hcy : s.vm.findClass (FieldType.array .int).toString = some (ca 0) := RA_fc (C.2.2.2.2.2.1.2 0 (ca 0, .int) rfl).2
  obtain ⟨vm₁, cA, comp, -, fA, fC, hOf, -, X', step⟩ := Xs.multianewarray2F C.1 C.2.2.2.1 (ty := .int) (C.2.2.2.2.1 _ hl) hO (C.2.2.2.2.1 _ harr) (g := F0 m pc ls (.int k :: .int n :: rest)) rfl (by rw [C.2.1]; exact hdg) rfl hn hk hb1 hb2 (by omega) rfl rfl hc hsl
  have ec : some (ca 0) = some comp := hcy.symm.trans fC
  cases ec
  generalize hF : Jvm.Free.Multi.fill (T.setVm vm₁) cA (ca 0) n.toNatClampNeg k.toNatClampNeg (defaultValue .int) n.toNatClampNeg = F at X' step
  have hTh : (T.setVm vm₁).heap = H := hT
  obtain ⟨f1, f2, -, -⟩ := Jvm.Free.Multi.fill_facts (T.setVm vm₁) cA (ca 0) n.toNatClampNeg k.toNatClampNeg (defaultValue .int) n.toNatClampNeg
  rw [hF, hTh] at f1 f2
  have hold : ∀ x : Nat, x < H.size → F.heap[x]? = H[x]? := fun x hx => by
    have h1 := Jvm.Free.Multi.fill_old (T.setVm vm₁) cA (ca 0) n.toNatClampNeg k.toNatClampNeg (defaultValue .int) (a := x) (by rw [hTh]; exact hx) n.toNatClampNeg
    rw [hF, hTh] at h1
    exact h1
  have hrow : ∀ j : Nat, j < n.toNatClampNeg → F.heap[H.size + 1 + j]? = some (vp_cell (ca 0) (k.toNatClampNeg, .inl fun _ => 0)) := fun j hj => by
    have h1 := Jvm.Free.Multi.fill_inner (T.setVm vm₁) cA (ca 0) n.toNatClampNeg k.toNatClampNeg (defaultValue .int) n.toNatClampNeg j hj
    rw [hF, hTh] at h1
    rw [h1]
    exact congrArg some (arrV_new (ca 0) k.toNatClampNeg (.int 0))
  rw [mna_outer cA n.toNatClampNeg H.size n.toNatClampNeg] at f2
  have hK2 : cA = ca 4 := Option.some.inj (fA.symm.trans (RA_fc (C.2.2.2.2.2.1.2 4 (ca 4, .array .int) rfl).2))
  subst hK2
  have hP0 : va_P D vwCl ws F.heap := hP.kept (fun k9 x hx => hold x.1 ((hP k9 x hx).lt))
  have hP1 : va_P D vwCl (ws ++ [(H.size, .inl (ca 4, n.toNatClampNeg, refs (fun i => if i < n.toNatClampNeg then some (H.size + 1 + i) else none)))]) F.heap := hP0.app (fun k9 x hx => by
    have h0 : k9 < 1 := (List.getElem?_eq_some_iff.mp hx).1
    rw [show k9 = 0 by omega] at hx
    cases hx
    exact f2)
  have hP2 : va_P D vwCl ((ws ++ [(H.size, .inl (ca 4, n.toNatClampNeg, refs (fun i => if i < n.toNatClampNeg then some (H.size + 1 + i) else none)))]) ++ (List.range n.toNatClampNeg).map (fun i => (H.size + 1 + i, .inl (ca 0, k.toNatClampNeg, .inl fun _ => 0)))) F.heap := hP1.app (fun k9 x hx => by
    obtain ⟨i, hi, rfl⟩ := List.mem_map.mp (List.mem_of_getElem? hx)
    exact hrow i (List.mem_range.mp hi))
  have hD1 := hD.push (e := .inl (ca 4, n.toNatClampNeg, refs (fun i => if i < n.toNatClampNeg then some (H.size + 1 + i) else none))) hP rfl (hA _ hS.1)
  have hle : ∀ (k9 : Nat) (x : Nat × va_E), (ws ++ [(H.size, .inl (ca 4, n.toNatClampNeg, refs (fun i => if i < n.toNatClampNeg then some (H.size + 1 + i) else none)))])[k9]? = some x → x.1 ≤ H.size := fun k9 x hx => by
    rcases List.mem_append.mp (List.mem_of_getElem? hx) with h | h
    · obtain ⟨k8, hk8⟩ := List.getElem?_of_mem h
      exact Nat.le_of_lt ((hP k8 x hk8).lt)
    · rw [List.mem_singleton.mp h]
      exact Nat.le_refl _
  have hr : ∀ (k9 : Nat) (x : Nat × va_E), ((List.range n.toNatClampNeg).map (fun i => ((H.size + 1 + i, .inl (ca 0, k.toNatClampNeg, .inl fun _ => 0)) : Nat × va_E)))[k9]? = some x → x.1 = H.size + 1 + k9 := fun k9 x hx => by
    rw [List.getElem?_map] at hx
    by_cases h9 : k9 < n.toNatClampNeg
    · rw [List.getElem?_range h9] at hx
      cases hx
      rfl
    · have hn0 : (List.range n.toNatClampNeg)[k9]? = none := List.getElem?_eq_none (by rw [List.length_range]; omega)
      rw [hn0] at hx
      cases hx
  have hD2 : va_D A ((ws ++ [(H.size, .inl (ca 4, n.toNatClampNeg, refs (fun i => if i < n.toNatClampNeg then some (H.size + 1 + i) else none)))]) ++ (List.range n.toNatClampNeg).map (fun i => (H.size + 1 + i, .inl (ca 0, k.toNatClampNeg, .inl fun _ => 0)))) := by
    refine va_D.app hD1 ⟨fun i j x y hi hj hxy => ?_, fun k9 x hx => ?_⟩ (fun i j x y hi hj hxy => ?_)
    · have h1 := hr _ _ hi
      have h2 := hr _ _ hj
      omega
    · have h1 := hr _ _ hx
      exact hA _ (by have := hS.1; omega)
    · have h1 := hle _ _ hi
      have h2 := hr _ _ hj
      omega
  obtain ⟨t, a1, b1⟩ := kk H.size (fun i => H.size + 1 + i) F.heap hP2 hD2 ⟨by rw [f1]; have := hS.1; omega, fun x h1 h2 => (hold x (Nat.lt_of_lt_of_le h1 hS.1)).trans (hS.2.1 x h1 h2), hS.2.2⟩ F rfl X'
  refine ⟨t, step t ?_, b1⟩
  have e : T.heap.size = H.size := by rw [hT]
  rw [e]
  exact a1
theorem va_D.set9 {ws : va_W} {k a : Nat} {e e' : va_E} (hD : va_D A ws) (h : ws[k]? = some (a, e)) : va_D A (ws.set k (a, e')) := hD.set h
theorem refs_eq {cA : ClassId} {n : Nat} {f g : Nat → Option Nat} (h : ∀ j, j < n → f j = g j) : vp_cell cA (n, refs f) = vp_cell cA (n, refs g) := by
  show arrV cA n (fun j => va_rf (f j)) = arrV cA n (fun j => va_rf (g j))
  unfold arrV
  congr 1
  apply Array.ext
  · simp
  · intro i h1 h2
    simp only [Array.size_ofFn] at h1
    simp [h i h1]
/-- a row of references told otherwise -/
theorem y_reco {ws : va_W} {k a n : Nat} {cA : ClassId} {f : Nat → Option Nat} (g : Nat → Option Nat) (hP : va_P D vwCl ws H) (hD : va_D A ws) (he : ws[k]? = some (a, .inl (cA, n, refs f))) (h : ∀ j, j < n → f j = g j) : va_P D vwCl (ws.set k (a, .inl (cA, n, refs g))) H ∧ va_D A (ws.set k (a, .inl (cA, n, refs g))) := by
  refine ⟨fun i x hx => ?_, hD.set he⟩
  rw [List.getElem?_set] at hx
  by_cases hi : k = i
  · subst hi
    rw [if_pos rfl] at hx
    split at hx
    · cases hx
      show H[a]? = some (vp_cell cA (n, refs g))
      rw [← refs_eq h]
      exact hP k _ he
    · cases hx
  · rw [if_neg hi] at hx
    exact hP i x hx
theorem y_asto (C : Cx p s m meth c args cc nL ret own D ca ad) (hP : va_P D vwCl ws H) (hD : va_D A ws) (hS : va_S A H0 H locs) (k0 qk t : Nat) {a n v ci : Nat} {r : vw_C} {vs : List Value} {f : Nat → Option Nat} (ha : ws[k0]? = some (a, .inl (ca t, n, refs f))) (ht : (tyT ca)[t]? = some (ca t, .object r.1)) (hv : ws[qk]? = some (v, .inr (ci, vs))) (hc : vwCl[ci]? = some r) {i : Int32} (hin : inb i n = true) (hdg : decode cc pc = .ok (.aastore, 1))
    (kk : ∀ (H : Heap) (locs : List Loc), va_P D vwCl (ws.set k0 (a, .inl (ca t, n, refs (va_up f i.toNatClampNeg (some v))))) H → va_D A (ws.set k0 (a, .inl (ca t, n, refs (va_up f i.toNatClampNeg (some v))))) → va_S A H0 H locs → W p l e R s m args below meth c H locs cells slots Q (F0 m (pc + 1) ls rest)) : W p l e R s m args below meth c H locs cells slots Q (F0 m pc ls (.ref v :: .int i :: .ref a :: rest)) :=
  va_astq C.1 C.2.1 C.2.2.2.2.2.1 hP hD hS k0 t qk ci ha ht hv hc (inb_in hin) hdg kk
theorem y_iast (C : Cx p s m meth c args cc nL ret own D ca ad) (hP : va_P D vwCl ws H) (hD : va_D A ws) (hS : va_S A H0 H locs) (k0 : Nat) {a n : Nat} {f : Nat → Int32} (ha : ws[k0]? = some (a, .inl (ca 0, n, .inl f))) {i v : Int32} (hin : inb i n = true) (hdg : decode cc pc = .ok (.iastore, 1))
    (kk : ∀ (H : Heap) (locs : List Loc), va_P D vwCl (ws.set k0 (a, .inl (ca 0, n, .inl (upd f i.toNatClampNeg v)))) H → va_D A (ws.set k0 (a, .inl (ca 0, n, .inl (upd f i.toNatClampNeg v)))) → va_S A H0 H locs → W p l e R s m args below meth c H locs cells slots Q (F0 m (pc + 1) ls rest)) : W p l e R s m args below meth c H locs cells slots Q (F0 m pc ls (.int v :: .int i :: .ref a :: rest)) :=
  va_iast C.1 C.2.1 C.2.2.2.2.2.1 hP hD hS k0 0 ha rfl (inb_in hin) hdg kk
variable {y : MethodName} {b : ByteArray} {maxL np idx mc ms : Nat} {rt : Option FieldType} {rm : Room} {Qc : Array Value → State → Outcome → State → Prop} {As : List Value} {free : Addr → Prop}
theorem PI_blind {q ci sz : Nat} {nul As : List Value} : FrameBlind (PI D ca q ci nul As sz) := fun a U g mk h => ⟨h.1, h.2.1, h.2.2.1, va_K.moved (u := U) (U := U.calling g mk a) (Vm.Alike.refl U.vm) h.2.2.2.1, h.2.2.2.2.1, NC.same (u := U) (U := U.calling g mk a) rfl h.2.2.2.2.2⟩
def KI (y : MethodName) (CN : String) (b : ByteArray) (n np : Nat) : Prop := y.cls = CN ∧ y.name = "<init>" ∧ Cond.instanceMethod y ∈ wT ∧ Cond.initialized CN ∈ wT ∧ Cond.code y b n none ∈ wT ∧ y.cls ≠ "java/lang/invoke/MethodHandle" ∧ y.cls ≠ "java/lang/invoke/VarHandle" ∧ (parseMethodDescriptor y.desc).map (fun d => d.parameters.length) = some np
theorem last_P {q ci : Nat} {nul : List Value} (h : va_P D vwCl (ws ++ [(q, .inr (ci, nul))]) H) : va_P D vwCl [(q, .inr (ci, nul))] H := fun k x hx => by
  have h0 : k < 1 := (List.getElem?_eq_some_iff.mp hx).1
  rw [show k = 0 by omega] at hx
  exact h ws.length x (by rw [List.getElem?_append_right (Nat.le_refl _), Nat.sub_self]; exact hx)
theorem one_D {q : Nat} {x : va_E} : va_D (fun _ => True) [(q, x)] := ⟨fun i j p r hp hr _ => by
  have h0 : i < 1 := (List.getElem?_eq_some_iff.mp hp).1
  have h1 : j < 1 := (List.getElem?_eq_some_iff.mp hr).1
  omega, fun _ _ _ => trivial⟩
theorem y_runI {q ci : Nat} {nul : List Value} (C : Cx p s m meth c args cc nL ret own D ca ad) (hN : NC s) (hP : va_P D vwCl (ws ++ [(q, .inr (ci, nul))]) H) (As rest : List Value) (CN : String) (K : KI y CN b maxL np) (hl : Cond.methodLink own idx y ∈ wT)
    (hM : Met l y (WS y b maxL none) rm (PI D ca q ci nul As H.size) Qc mc ms free) (hrc : rm.cells = mc) (hrs : rm.slots = ms) (hR : rm.frames + 1 ≤ R.frames ∧ 8 + (maxL + 11) + rm.locals ≤ R.locals) (hn : As.length = np) (hsz : ls.size = nL) (hst : st = As.reverse ++ .ref q :: rest) (hw : (rest.map fun v => v.category).sum ≤ 8) (hdg : decode cc pc = .ok (.invokespecial idx, 3)) (hf : cells + mc ≤ R.cells ∧ slots + ms ≤ R.slots) :
    va_Run p l e R s m args below meth c H locs cells slots mc ms (F0 m pc ls st) rest (Qc (Value.ref q :: As).toArray) free :=
  va_runI (As := As) (rest := rest) ⟨C.1, C.2.1, C.2.2.1, C.2.2.2.1, C.2.2.2.2.1⟩ hM (cwI np C.2.2.2.2.1 (WS_in K.2.2.2.2.1 (fun _ h => h)) rfl hrc hrs (C.2.2.2.2.1 _ (by rw [K.1]; exact K.2.2.2.1)) (C.2.2.2.2.1 _ hl) (C.2.2.2.2.1 _ K.2.2.1) K.2.1 K.2.2.2.2.2 hR) ⟨PI_blind, fun U hU hW' => ⟨rfl, by rw [hU], by rw [hU]; exact last_P hP, va_K.moved hW'.alike C.2.2.2.2.2.1, one_D, NC.warm hW' hN⟩⟩ rfl hn hsz hst (lv_room (rest := st) hw) hdg hf
theorem y_runIN {q ci : Nat} {nul : List Value} {host : String} (C : Cx p s m meth c args cc nL ret own D ca ad) (hN : NC s) (hP : va_P D vwCl (ws ++ [(q, .inr (ci, nul))]) H) (As rest : List Value) (CN : String) (K : KI y CN b maxL np) (hl : (own, idx, y, host) ∈ nestW)
    (hM : Met l y (WS y b maxL none) rm (PI D ca q ci nul As H.size) Qc mc ms free) (hrc : rm.cells = mc) (hrs : rm.slots = ms) (hR : rm.frames + 1 ≤ R.frames ∧ 8 + (maxL + 11) + rm.locals ≤ R.locals) (hn : As.length = np) (hsz : ls.size = nL) (hst : st = As.reverse ++ .ref q :: rest) (hw : (rest.map fun v => v.category).sum ≤ 8) (hdg : decode cc pc = .ok (.invokespecial idx, 3)) (hf : cells + mc ≤ R.cells ∧ slots + ms ≤ R.slots) :
    va_Run p l e R s m args below meth c H locs cells slots mc ms (F0 m pc ls st) rest (Qc (Value.ref q :: As).toArray) free :=
  va_runIN (As := As) (rest := rest) ⟨C.1, C.2.1, C.2.2.1, C.2.2.2.1, C.2.2.2.2.1⟩ hM ⟨va_cnB np C.2.2.2.2.1 (WS_in K.2.2.2.2.1 (fun _ h => h)) rfl hrc hrs (hN.1 _ hl) (C.2.2.2.2.1 _ (by rw [K.1]; exact K.2.2.2.1)) K.2.2.2.2.2 hR, K.2.1, C.2.2.2.2.1 _ K.2.2.1⟩ ⟨PI_blind, fun U hU hW' => ⟨rfl, by rw [hU], by rw [hU]; exact last_P hP, va_K.moved hW'.alike C.2.2.2.2.2.1, one_D, NC.warm hW' hN⟩⟩ rfl hn hsz hst (lv_room (rest := st) hw) hdg hf
theorem AI_in {q ci sz x : Nat} {nul : List Value} (h : AI q ci nul sz x) : x = q ∨ sz ≤ x := by
  rcases h with ⟨k, e, h⟩ | h
  · have h0 : k < 1 := (List.getElem?_eq_some_iff.mp h).1
    rw [show k = 0 by omega] at h
    cases h
    exact Or.inl rfl
  · exact Or.inr h
theorem y_call {q ci : Nat} {nul : List Value} {kX : (Nat → Nat) → va_W} {a9 : Array Value} (hP : va_P D vwCl (ws ++ [(q, .inr (ci, nul))]) H) (hD : va_D A (ws ++ [(q, .inr (ci, nul))])) (hS : va_S A H0 H locs) (hA : ∀ q, H0.size ≤ q → A q)
    (hr : va_Run p l e R s m args below meth c H locs cells slots mc ms (F0 m pc ls st) rest (QN D ca kX q ci nul H.size a9) (AI q ci nul H.size))
    (kk : ∀ (a : Nat → Nat) (H : Heap) (locs : List Loc), a 0 = q → va_P D vwCl (ws ++ kX a) H → va_D A (ws ++ kX a) → va_S A H0 H locs → W p l e R s m args below meth c H locs (cells + mc) (slots + ms) Q (F0 m (pc + 3) ls rest)) : W p l e R s m args below meth c H locs cells slots Q (F0 m pc ls st) := by
  have hq : A q := hD.2 ws.length (q, .inr (ci, nul)) (by rw [List.getElem?_append_right (Nat.le_refl _), Nat.sub_self]; rfl)
  have hF : ∀ x, AI q ci nul H.size x → A x := fun x hx => by
    rcases AI_in hx with h | h
    · rw [h]; exact hq
    · exact hA x (Nat.le_trans hS.1 h)
  refine va_callv hr hS (fun x _ h => hF x h) hF (fun a t H1 locs1 ht _ ha hB hz hk hS1 => ?_)
  subst ht
  have hPw : va_P D vwCl ws H := fun k x hx => hP k x (by rw [List.getElem?_append_left (List.getElem?_eq_some_iff.mp hx).1]; exact hx)
  have hap : ∀ (k : Nat) (x : Nat × va_E), ws[k]? = some x → x.1 < H.size ∧ ¬ AI q ci nul H.size x.1 := fun k x hx => by
    have h1 := (hPw k x hx).lt
    refine ⟨h1, fun h => ?_⟩
    rcases AI_in h with h | h
    · have hlk := (List.getElem?_eq_some_iff.mp hx).1
      have := hD.1 k ws.length x (q, .inr (ci, nul)) (by rw [List.getElem?_append_left hlk]; exact hx) (by rw [List.getElem?_append_right (Nat.le_refl _), Nat.sub_self]; rfl) h
      omega
    · omega
  refine kk a _ _ ha ((hPw.kept (fun k x hx => hk x.1 (hap k x hx).1 (hap k x hx).2)).app hB.1) (va_D.app ⟨fun i j x y hi hj e => hD.1 i j x y (by rw [List.getElem?_append_left (List.getElem?_eq_some_iff.mp hi).1]; exact hi) (by rw [List.getElem?_append_left (List.getElem?_eq_some_iff.mp hj).1]; exact hj) e, fun k x hx => hD.2 k x (by rw [List.getElem?_append_left (List.getElem?_eq_some_iff.mp hx).1]; exact hx)⟩ (hB.2.2.weaken (fun _ x _ h => hF x.1 h)) (fun i j x y hi hj e => ?_)) hS1
  have h1 := hap i x hi
  have h2 := hB.2.2.2 j y hj
  rw [← e] at h2
  exact h1.2 h2
theorem id_inj : Inj (fun k => k) := ⟨Nat.le_of_ble_eq_true rfl, fun _ _ _ _ h => h⟩
theorem y_start {q ci : Nat} {nul : List Value} {kX : (Nat → Nat) → va_W} {sz : Nat} (hy : plainName y.cls = true) (hown : y.cls = own) (hnm : y.name = "<init>") (hlen : (lg_sl (.ref q :: As)).length ≤ maxL)
    (h : ∀ (p : Program) (e : Env) (s : State) (m : MethodId) (args : Array Value) (below : List Frame) (meth : Method) (c : Code) (ls : Array Slot) (A : Nat → Prop), (∀ x, s.heap.size ≤ x → A x) → Cx p s m meth c args b maxL none own D ca (fun k => k) → NC s → meth.name = "<init>" → va_P D vwCl [(q, .inr (ci, nul))] s.heap → va_D A [(q, .inr (ci, nul))] → va_S A s.heap s.heap [] → lv_has ls maxL (lv_args 0 (.ref q :: As)) → W p l e rm s m args below meth c s.heap [] 0 0 (MQ below (va_Qv (fun a : Nat → Nat => a 0 = q) (fun a t => va_P D vwCl (kX a) t.heap ∧ va_K D vwCl (tyT ca) t ∧ va_D A (kX a)) A) args s mc ms A) (F0 m 0 ls [])) : Met l y (WS y b maxL none) rm (PI D ca q ci nul As sz) (QN D ca kX q ci nul sz) mc ms (AI q ci nul sz) := by
  refine Met.ofW (cc := b) (maxL := maxL) (ret := none) hy rfl ?_
  intro p e s m args below meth c s₁ B hml hv
  obtain ⟨rfl, hsz, hP, hK, hD, hN⟩ := hv
  subst hsz
  have hts := atoms_spec (ws := WS y b maxL none) B.pre
  have hf : s.vm.findClass y.cls = some m.cls := findClass_of_methodNamed B.named
  have hin : meth.name = y.name := (name_of_methodNamed B.named B.method).1
  rw [hown] at hf
  have hl := lv_entry (.ref q :: As) (n := maxL) hlen
  rw [lg_entry_eq]
  generalize (lg_sl (.ref q :: As) ++ List.replicate (maxL - (lg_sl (.ref q :: As)).length) Slot.unset).toArray = ls at hl ⊢
  exact h p e s m _ below meth c ls (AI q ci nul s.heap.size) (fun x hx => Or.inr hx) ⟨B.exec, B.bytes, hml, hf, fun w hw => hts w (List.mem_cons_of_mem _ hw), hK, id_inj, B.returns, B.notSynchronized, hN.1⟩ hN (hin.trans hnm) hP hD.self va_S.rf hl
theorem y_end {q : Nat} {kX : (Nat → Nat) → va_W} (C : Cx p s m meth c args cc nL none own D ca ad) (a : Nat → Nat) (ha : a 0 = q) (hP : va_P D vwCl (kX a) H) (hD : va_D A (kX a)) (hS : va_S A s.heap H locs) (hc : cells = mc) (hs : slots = ms) (hdg : decode cc pc = .ok (.return_, 1)) : W p l e R s m args below meth c H locs cells slots (MQ below (va_Qv (fun a : Nat → Nat => a 0 = q) (fun a t => va_P D vwCl (kX a) t.heap ∧ va_K D vwCl (tyT ca) t ∧ va_D A (kX a)) A) args s mc ms A) (F0 m pc ls []) := by
  subst hc
  subst hs
  exact W.vret C.1 C.2.1 C.2.2.2.2.2.2.2.1 (fun t ht hW => ⟨⟨a, rfl, ha, by rw [ht]; exact hP, va_K.moved hW.alike C.2.2.2.2.2.1, hD⟩, hS.F ht⟩) hS.2.2 hdg C.2.2.2.2.2.2.2.2.1
theorem y_obj (C : Cx p s m meth c args cc nL ret own D ca ad) {a idx : Nat} (hl : Cond.methodLink own idx objectInit ∈ wT) (hin : Cond.instanceMethod objectInit ∈ wT) (hco : Cond.code objectInit ⟨#[0xb1]⟩ 1 none ∈ wT) (hsz : ls.size = nL) (hfr : 1 ≤ R.frames) (hlo : 12 ≤ R.locals) (hdg : decode cc pc = .ok (.invokespecial idx, 3))
    (kk : W p l e R s m args below meth c H locs cells slots Q (F0 m (pc + 3) ls [])) : W p l e R s m args below meth c H locs cells slots Q (F0 m pc ls [.ref a]) :=
  W.objInit C.1 C.2.1 C.2.2.2.1 (C.2.2.2.2.1 _ hl) (C.2.2.2.2.1 _ hin) (C.2.2.2.2.1 _ hco) rfl (by rw [C.2.2.1]; exact hsz) rfl hdg hfr (by show 2 * 0 + 0 + 12 ≤ _; omega) kk
end XN
