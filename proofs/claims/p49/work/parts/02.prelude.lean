/-! the world: one memory of ints and longs over a fixed layout of objects; every row of the machine in these words -/
def wT : List Cond := lw_tbl.filter goodWord
theorem wT_good : GoodIn wT wT := fun w h => ⟨h, good_of_word (by have := (List.mem_filter.mp h).2; simpa using this)⟩
abbrev WS (y : MethodName) (b : ByteArray) (n : Nat) (r : Option FieldType) : List Cond := Cond.code y b n r :: wT
theorem wi_t {w : Cond} (k : Nat) (h : tables_1[k]? = some w) (g : goodWord w = true) : w ∈ wT := List.mem_filter.mpr ⟨List.mem_append_right _ (List.mem_of_getElem? h), by simpa using g⟩
theorem wi_s {q : MethodName × Nat} (k : Nat) (h : lw_privs[k]? = some q) (g : goodWord (Cond.selects q.1.cls q.1 q.1) = true) : Cond.selects q.1.cls q.1 q.1 ∈ wT := List.mem_filter.mpr ⟨List.mem_append_left _ (List.mem_map.mpr ⟨q, List.mem_of_getElem? h, rfl⟩), by simpa using g⟩
theorem WS_in {Ts : List Cond} {y : MethodName} {b : ByteArray} {n : Nat} {r : Option FieldType} (h : Cond.code y b n r ∈ wT) (hT : ∀ w ∈ wT, w ∈ Ts) : GoodIn Ts (WS y b n r) := fun w hw => by
  rcases List.mem_cons.mp hw with rfl | hw
  · exact ⟨hT _ h, Or.inl rfl⟩
  · exact ⟨hT _ hw, (wT_good w hw).2⟩
-- memory
abbrev Mm : Type := (Nat → Nat → Int32) × (Nat → Nat → Int64)
def rd (mm : Mm) (k j : Nat) : Int32 := mm.1 k j
def rdL (mm : Mm) (k j : Nat) : Int64 := mm.2 k j
def wr (mm : Mm) (k j : Nat) (v : Int32) : Mm := (fun a => if a = k then upd (mm.1 a) j v else mm.1 a, mm.2)
def wrL (mm : Mm) (k j : Nat) (v : Int64) : Mm := (mm.1, fun a => if a = k then vp_updL (mm.2 a) j v else mm.2 a)
def cpy (mm : Mm) (src dst : Nat) (sp dp n : Int32) : Mm := (fun a => if a = dst then va_cpy (mm.1 src) (mm.1 dst) sp.toNatClampNeg dp.toNatClampNeg n.toNatClampNeg else mm.1 a, mm.2)
def inb (i : Int32) (n : Nat) : Bool := decide (¬ (i < 0 ∨ n ≤ i.toNatClampNeg))
theorem inb_in {i : Int32} {n : Nat} (h : inb i n = true) : vp_in i n := (of_decide_eq_true h : ¬ (i < 0 ∨ n ≤ i.toNatClampNeg))
def cpok (n0 n1 : Nat) (sp dp n : Int32) : Bool := decide (¬ sp < 0 ∧ ¬ dp < 0 ∧ ¬ n < 0 ∧ sp.toNatClampNeg + n.toNatClampNeg ≤ n0 ∧ dp.toNatClampNeg + n.toNatClampNeg ≤ n1)
-- the pure programs' words
def gd {α : Type} (b : Bool) (x : Option α) : Option α := if b = true then x else none
def nm {α β : Type} (x : α) (f : α → β) : β := f x
theorem gd_s {α : Type} {b : Bool} {x : Option α} {r : α} (h : gd b x = some r) : b = true ∧ x = some r := by
  unfold gd at h
  split at h
  · exact ⟨by assumption, h⟩
  · cases h
theorem nm_s {α β : Type} {x y : α} {f : α → β} {r : β} (h : nm x f = r) (e : y = x) : f y = r := by subst e; exact h
theorem if_t {α : Type} {c : Prop} [Decidable c] {x y z : α} (h : c) (e : (if c then x else y) = z) : x = z := by rwa [if_pos h] at e
theorem if_f {α : Type} {c : Prop} [Decidable c] {x y z : α} (h : ¬ c) (e : (if c then x else y) = z) : y = z := by rwa [if_neg h] at e
theorem bd_s {α β : Type} {x : Option α} {f : α → Option β} {r : β} (h : x.bind f = some r) : ∃ y, x = some y ∧ f y = some r := Option.bind_eq_some_iff.mp h
-- the layout
abbrev Sk : Type := (Nat × Nat × (Nat → Nat)) ⊕ (Nat × List (Nat ⊕ Nat))
def skL : List Sk := [
  .inr (11, [.inr 1, .inr 2, .inr 3, .inr 23, .inr 24, .inr 29, .inr 33, .inr 35, .inr 40, .inr 42, .inr 52, .inr 55, .inr 94, .inl 0, .inl 0, .inl 1, .inl 1]),
  .inl (1, 6, fun j => 95 + 2 * j),
  .inl (1, 4, fun j => 107 + 2 * j),
  .inr (0, [.inr 4, .inr 5, .inr 6, .inr 7, .inr 16, .inl 0, .inl 0, .inl 0, .inl 0]),
  .inl (3, 6, fun j => 17 + j),
  .inl (0, 2, fun _ => 0),
  .inl (0, 4, fun _ => 0),
  .inl (4, 8, fun j => 8 + j),
  .inl (0, 6, fun _ => 0),
  .inl (0, 6, fun _ => 0),
  .inl (0, 6, fun _ => 0),
  .inl (0, 6, fun _ => 0),
  .inl (0, 6, fun _ => 0),
  .inl (0, 6, fun _ => 0),
  .inl (0, 6, fun _ => 0),
  .inl (0, 6, fun _ => 0),
  .inl (0, 8, fun _ => 0),
  .inr (9, [.inl 0, .inl 0, .inl 0]),
  .inr (9, [.inl 0, .inl 0, .inl 0]),
  .inr (9, [.inl 0, .inl 0, .inl 0]),
  .inr (9, [.inl 0, .inl 0, .inl 0]),
  .inr (9, [.inl 0, .inl 0, .inl 0]),
  .inr (9, [.inl 0, .inl 0, .inl 0]),
  .inl (2, 3, fun j => 115 + 20 * j),
  .inr (5, [.inr 25, .inr 26, .inr 27, .inr 28, .inl 0, .inl 0]),
  .inl (0, 2, fun _ => 0),
  .inl (0, 6, fun _ => 0),
  .inl (0, 6, fun _ => 0),
  .inl (0, 6, fun _ => 0),
  .inr (7, [.inr 30, .inr 31, .inr 32, .inl 0, .inl 0]),
  .inl (0, 6, fun _ => 0),
  .inl (0, 6, fun _ => 0),
  .inl (0, 7, fun _ => 0),
  .inr (3, [.inr 34, .inl 0, .inl 0]),
  .inl (0, 6, fun _ => 0),
  .inr (8, [.inr 36, .inl 0, .inl 0, .inr 37, .inr 38, .inr 39, .inl 0, .inl 0]),
  .inl (0, 6, fun _ => 0),
  .inl (0, 241, fun _ => 0),
  .inl (0, 6, fun _ => 0),
  .inl (0, 6, fun _ => 0),
  .inr (1, [.inr 41, .inl 0, .inl 0]),
  .inl (0, 6, fun _ => 0),
  .inr (4, [.inr 43, .inr 47, .inr 51]),
  .inr (7, [.inr 44, .inr 45, .inr 46, .inl 0, .inl 0]),
  .inl (0, 6, fun _ => 0),
  .inl (0, 6, fun _ => 0),
  .inl (0, 7, fun _ => 0),
  .inr (7, [.inr 48, .inr 49, .inr 50, .inl 0, .inl 0]),
  .inl (0, 6, fun _ => 0),
  .inl (0, 6, fun _ => 0),
  .inl (0, 7, fun _ => 0),
  .inl (0, 109, fun _ => 0),
  .inr (10, [.inr 53, .inr 54, .inl 0, .inl 0]),
  .inl (0, 1792, fun _ => 0),
  .inl (0, 48, fun _ => 0),
  .inr (2, [.inr 56, .inr 57, .inr 61, .inr 68, .inr 69, .inl 0]),
  .inl (0, 6, fun _ => 0),
  .inr (7, [.inr 58, .inr 59, .inr 60, .inl 0, .inl 0]),
  .inl (0, 6, fun _ => 0),
  .inl (0, 6, fun _ => 0),
  .inl (0, 7, fun _ => 0),
  .inl (4, 6, fun j => 62 + j),
  .inl (0, 6, fun _ => 0),
  .inl (0, 6, fun _ => 0),
  .inl (0, 6, fun _ => 0),
  .inl (0, 6, fun _ => 0),
  .inl (0, 6, fun _ => 0),
  .inl (0, 6, fun _ => 0),
  .inl (5, 6, fun j => 70 + 4 * j),
  .inl (0, 6, fun _ => 0),
  .inr (7, [.inr 71, .inr 72, .inr 73, .inl 0, .inl 0]),
  .inl (0, 6, fun _ => 0),
  .inl (0, 6, fun _ => 0),
  .inl (0, 7, fun _ => 0),
  .inr (7, [.inr 75, .inr 76, .inr 77, .inl 0, .inl 0]),
  .inl (0, 6, fun _ => 0),
  .inl (0, 6, fun _ => 0),
  .inl (0, 7, fun _ => 0),
  .inr (7, [.inr 79, .inr 80, .inr 81, .inl 0, .inl 0]),
  .inl (0, 6, fun _ => 0),
  .inl (0, 6, fun _ => 0),
  .inl (0, 7, fun _ => 0),
  .inr (7, [.inr 83, .inr 84, .inr 85, .inl 0, .inl 0]),
  .inl (0, 6, fun _ => 0),
  .inl (0, 6, fun _ => 0),
  .inl (0, 7, fun _ => 0),
  .inr (7, [.inr 87, .inr 88, .inr 89, .inl 0, .inl 0]),
  .inl (0, 6, fun _ => 0),
  .inl (0, 6, fun _ => 0),
  .inl (0, 7, fun _ => 0),
  .inr (7, [.inr 91, .inr 92, .inr 93, .inl 0, .inl 0]),
  .inl (0, 6, fun _ => 0),
  .inl (0, 6, fun _ => 0),
  .inl (0, 7, fun _ => 0),
  .inl (0, 6, fun _ => 0),
  .inr (6, [.inr 96, .inl 0]),
  .inl (0, 40, fun _ => 0),
  .inr (6, [.inr 98, .inl 0]),
  .inl (0, 40, fun _ => 0),
  .inr (6, [.inr 100, .inl 0]),
  .inl (0, 40, fun _ => 0),
  .inr (6, [.inr 102, .inl 0]),
  .inl (0, 40, fun _ => 0),
  .inr (6, [.inr 104, .inl 0]),
  .inl (0, 40, fun _ => 0),
  .inr (6, [.inr 106, .inl 0]),
  .inl (0, 40, fun _ => 0),
  .inr (6, [.inr 108, .inl 0]),
  .inl (0, 80, fun _ => 0),
  .inr (6, [.inr 110, .inl 0]),
  .inl (0, 80, fun _ => 0),
  .inr (6, [.inr 112, .inl 0]),
  .inl (0, 80, fun _ => 0),
  .inr (6, [.inr 114, .inl 0]),
  .inl (0, 80, fun _ => 0),
  .inr (0, [.inr 116, .inr 117, .inr 118, .inr 119, .inr 128, .inl 0, .inl 0, .inl 0, .inl 0]),
  .inl (3, 6, fun j => 129 + j),
  .inl (0, 2, fun _ => 0),
  .inl (0, 4, fun _ => 0),
  .inl (4, 8, fun j => 120 + j),
  .inl (0, 6, fun _ => 0),
  .inl (0, 6, fun _ => 0),
  .inl (0, 6, fun _ => 0),
  .inl (0, 6, fun _ => 0),
  .inl (0, 6, fun _ => 0),
  .inl (0, 6, fun _ => 0),
  .inl (0, 6, fun _ => 0),
  .inl (0, 6, fun _ => 0),
  .inl (0, 8, fun _ => 0),
  .inr (9, [.inl 0, .inl 0, .inl 0]),
  .inr (9, [.inl 0, .inl 0, .inl 0]),
  .inr (9, [.inl 0, .inl 0, .inl 0]),
  .inr (9, [.inl 0, .inl 0, .inl 0]),
  .inr (9, [.inl 0, .inl 0, .inl 0]),
  .inr (9, [.inl 0, .inl 0, .inl 0]),
  .inr (0, [.inr 136, .inr 137, .inr 138, .inr 139, .inr 148, .inl 0, .inl 0, .inl 0, .inl 0]),
  .inl (3, 6, fun j => 149 + j),
  .inl (0, 2, fun _ => 0),
  .inl (0, 4, fun _ => 0),
  .inl (4, 8, fun j => 140 + j),
  .inl (0, 6, fun _ => 0),
  .inl (0, 6, fun _ => 0),
  .inl (0, 6, fun _ => 0),
  .inl (0, 6, fun _ => 0),
  .inl (0, 6, fun _ => 0),
  .inl (0, 6, fun _ => 0),
  .inl (0, 6, fun _ => 0),
  .inl (0, 6, fun _ => 0),
  .inl (0, 8, fun _ => 0),
  .inr (9, [.inl 0, .inl 0, .inl 0]),
  .inr (9, [.inl 0, .inl 0, .inl 0]),
  .inr (9, [.inl 0, .inl 0, .inl 0]),
  .inr (9, [.inl 0, .inl 0, .inl 0]),
  .inr (9, [.inl 0, .inl 0, .inl 0]),
  .inr (9, [.inl 0, .inl 0, .inl 0]),
  .inr (0, [.inr 156, .inr 157, .inr 158, .inr 159, .inr 168, .inl 0, .inl 0, .inl 0, .inl 0]),
  .inl (3, 6, fun j => 169 + j),
  .inl (0, 2, fun _ => 0),
  .inl (0, 4, fun _ => 0),
  .inl (4, 8, fun j => 160 + j),
  .inl (0, 6, fun _ => 0),
  .inl (0, 6, fun _ => 0),
  .inl (0, 6, fun _ => 0),
  .inl (0, 6, fun _ => 0),
  .inl (0, 6, fun _ => 0),
  .inl (0, 6, fun _ => 0),
  .inl (0, 6, fun _ => 0),
  .inl (0, 6, fun _ => 0),
  .inl (0, 8, fun _ => 0),
  .inr (9, [.inl 0, .inl 0, .inl 0]),
  .inr (9, [.inl 0, .inl 0, .inl 0]),
  .inr (9, [.inl 0, .inl 0, .inl 0]),
  .inr (9, [.inl 0, .inl 0, .inl 0]),
  .inr (9, [.inl 0, .inl 0, .inl 0]),
  .inr (9, [.inl 0, .inl 0, .inl 0]),
  .inl (0, 20, fun _ => 0),
  .inl (0, 32, fun _ => 0),
  .inl (0, 6, fun _ => 0),
  .inl (0, 6, fun _ => 0)]
def NT : Nat := 175
def sk (k : Nat) : Sk := skL.getD k (.inl (0, 0, fun _ => 0))
def ln (k : Nat) : Nat := match sk k with
  | .inl a => a.2.1
  | .inr _ => 0
def el (k j : Nat) : Nat := match sk k with
  | .inl a => a.2.2 j
  | .inr _ => 0
def fr (k j : Nat) : Nat := match sk k with
  | .inl _ => 0
  | .inr o => match o.2[j]? with
    | some (.inr q) => q
    | _ => 0
def fvV (ad : Nat → Nat) (a : Nat → Int32) (b : Nat → Int64) (j : Nat) (x : Nat ⊕ Nat) : Value := match x with
  | .inl 0 => .int (a j)
  | .inl _ => .long (b j)
  | .inr q => .ref (ad q)
def ceR (ca ad : Nat → Nat) (S : Sk) (a : Nat → Int32) (b : Nat → Int64) : va_E := match S with
  | .inl (0, n, _) => .inl (ca 0, n, .inl a)
  | .inl (t + 1, n, f) => .inl (ca (t + 1), n, .inr (.inr (.inr (.inr (fun j => some (ad (f j)))))))
  | .inr (ci, fs) => .inr (ci, fs.mapIdx (fvV ad a b))
def ce (ca ad : Nat → Nat) (mm : Mm) (k : Nat) : va_E := ceR ca ad (sk k) (mm.1 k) (mm.2 k)
def wsM (ca ad : Nat → Nat) (mm : Mm) : va_W := (List.range (ad 1000)).map (fun k => (ad k, ce ca ad mm k))
def AA (ad : Nat → Nat) : Nat → Prop := fun q => ∃ k, k < ad 1000 ∧ q = ad k
def tyT (ca : Nat → Nat) : List (ClassId × FieldType) := [(ca 0, .int), (ca 1, .object "HeavyFiles$Row"), (ca 2, .object "HeavyFiles$Court"), (ca 3, .object "HeavyFiles$Suit"), (ca 4, .array .int), (ca 5, .object "HeavyFiles$Scale")]
/-- ad 1000: how many objects are there, the law's own arrays behind the class' -/
def Inj (ad : Nat → Nat) : Prop := NT ≤ ad 1000 ∧ ∀ i j, i < ad 1000 → j < ad 1000 → ad i = ad j → i = j
theorem Inj.lt {ad : Nat → Nat} (h : Inj ad) {k : Nat} (hk : k < NT) : k < ad 1000 := Nat.lt_of_lt_of_le hk h.1
theorem wsM_at {ca ad : Nat → Nat} {mm : Mm} {k : Nat} (h : k < ad 1000) : (wsM ca ad mm)[k]? = some (ad k, ce ca ad mm k) := by
  simp [wsM, List.getElem?_map, List.getElem?_range h]
theorem wsM_out {ca ad : Nat → Nat} {mm : Mm} {k : Nat} (h : ¬ k < ad 1000) : (wsM ca ad mm)[k]? = none := by
  simp [wsM]; omega
theorem wsM_len {ca ad : Nat → Nat} {mm : Mm} : (wsM ca ad mm).length = ad 1000 := by simp [wsM]
theorem wsM_lt {ca ad : Nat → Nat} {mm : Mm} {k : Nat} {q : Nat × va_E} (h : (wsM ca ad mm)[k]? = some q) : k < ad 1000 ∧ q = (ad k, ce ca ad mm k) := by
  by_cases hk : k < ad 1000
  · rw [wsM_at hk] at h; exact ⟨hk, (Option.some.inj h).symm⟩
  · rw [wsM_out hk] at h; cases h
theorem wsM_D {ca ad : Nat → Nat} {mm : Mm} (hi : Inj ad) : va_D (AA ad) (wsM ca ad mm) := by
  refine ⟨fun i j p q hp hq e => ?_, fun k q hq => ?_⟩
  · obtain ⟨h1, rfl⟩ := wsM_lt hp
    obtain ⟨h2, rfl⟩ := wsM_lt hq
    exact hi.2 i j h1 h2 e
  · obtain ⟨h1, rfl⟩ := wsM_lt hq
    exact ⟨k, h1, rfl⟩
theorem wsM_set {ca ad : Nat → Nat} {mm mm' : Mm} {k : Nat} {e : va_E} (hk : k < ad 1000) (h1 : ∀ i, i ≠ k → mm'.1 i = mm.1 i ∧ mm'.2 i = mm.2 i) (h2 : ce ca ad mm' k = e) : (wsM ca ad mm).set k (ad k, e) = wsM ca ad mm' := by
  apply List.ext_getElem?
  intro i
  rw [List.getElem?_set]
  by_cases hi : k = i
  · subst hi
    simp only [if_true, wsM_len, hk]
    rw [wsM_at hk, h2]
  · rw [if_neg hi]
    by_cases hn : i < ad 1000
    · rw [wsM_at hn, wsM_at hn]
      unfold ce
      rw [(h1 i (Ne.symm hi)).1, (h1 i (Ne.symm hi)).2]
    · rw [wsM_out hn, wsM_out hn]
theorem wr_o {mm : Mm} {k j i : Nat} {v : Int32} (h : i ≠ k) : (wr mm k j v).1 i = mm.1 i ∧ (wr mm k j v).2 i = mm.2 i := ⟨by simp [wr, h], rfl⟩
theorem wr_s {mm : Mm} {k j : Nat} {v : Int32} : (wr mm k j v).1 k = upd (mm.1 k) j v := by simp [wr]
theorem wrL_o {mm : Mm} {k j i : Nat} {v : Int64} (h : i ≠ k) : (wrL mm k j v).1 i = mm.1 i ∧ (wrL mm k j v).2 i = mm.2 i := ⟨rfl, by simp [wrL, h]⟩
theorem wrL_s {mm : Mm} {k j : Nat} {v : Int64} : (wrL mm k j v).2 k = vp_updL (mm.2 k) j v := by simp [wrL]
theorem ce_int {ca ad : Nat → Nat} {mm : Mm} {k n : Nat} (h : sk k = .inl (0, n, fun _ => 0)) : ce ca ad mm k = .inl (ca 0, n, .inl (mm.1 k)) := by unfold ce; rw [h]; rfl
theorem ce_ref {ca ad : Nat → Nat} {mm : Mm} {k t n : Nat} {f : Nat → Nat} (h : sk k = .inl (t + 1, n, f)) : ce ca ad mm k = .inl (ca (t + 1), n, .inr (.inr (.inr (.inr (fun j => some (ad (f j))))))) := by unfold ce; rw [h]; rfl
theorem ce_obj {ca ad : Nat → Nat} {mm : Mm} {k ci : Nat} {fs : List (Nat ⊕ Nat)} (h : sk k = .inr (ci, fs)) : ce ca ad mm k = .inr (ci, fs.mapIdx (fvV ad (mm.1 k) (mm.2 k))) := by unfold ce; rw [h]; rfl
theorem fvV_set {ad : Nat → Nat} {a : Nat → Int32} {b : Nat → Int64} {fs : List (Nat ⊕ Nat)} {j : Nat} {v : Int32} (h : fs[j]? = some (.inl 0)) : (fs.mapIdx (fvV ad a b)).set j (.int v) = fs.mapIdx (fvV ad (upd a j v) b) := by
  apply List.ext_getElem?
  intro i
  rw [List.getElem?_set, List.getElem?_mapIdx, List.getElem?_mapIdx]
  by_cases hi : j = i
  · subst hi
    have hl := (List.getElem?_eq_some_iff.mp h).1
    rw [h]
    simp [hl, fvV, upd]
  · rw [if_neg hi]
    cases hx : fs[i]? with
    | none => rfl
    | some x =>
      simp only [Option.map_some]
      congr 1
      unfold fvV
      split <;> simp [upd, Ne.symm hi]
theorem fvV_setL {ad : Nat → Nat} {a : Nat → Int32} {b : Nat → Int64} {fs : List (Nat ⊕ Nat)} {j : Nat} {v : Int64} (h : fs[j]? = some (.inl 1)) : (fs.mapIdx (fvV ad a b)).set j (.long v) = fs.mapIdx (fvV ad a (vp_updL b j v)) := by
  apply List.ext_getElem?
  intro i
  rw [List.getElem?_set, List.getElem?_mapIdx, List.getElem?_mapIdx]
  by_cases hi : j = i
  · subst hi
    have hl := (List.getElem?_eq_some_iff.mp h).1
    rw [h]
    simp [hl, fvV, vp_updL]
  · rw [if_neg hi]
    cases hx : fs[i]? with
    | none => rfl
    | some x =>
      simp only [Option.map_some]
      congr 1
      unfold fvV
      split <;> simp [vp_updL, Ne.symm hi]
def nestW : List (String × Nat × MethodName × String) := [(RX0, 32, yX9_init, "HeavyFiles"), (RX11, 31, yX5_init, "HeavyFiles"), (RX11, 38, yX7_init, "HeavyFiles"), (RX11, 45, yX3_init, "HeavyFiles"), (RX11, 52, yX8_init, "HeavyFiles"), (RX11, 59, yX1_init, "HeavyFiles"), (RX11, 66, yX4_init, "HeavyFiles"), (RX4, 11, yX7_init, "HeavyFiles"), (RX11, 73, yX10_init, "HeavyFiles"), (RX2, 17, yX7_init, "HeavyFiles")]
def NW (U : State) : Prop := ∀ q ∈ nestW, va_Nw (.methodLinkNest q.1 q.2.1 q.2.2.1 q.2.2.2) U
theorem NW.warm {s U : State} (hW : s.WarmedH U.vm) (h : NW s) : NW U := fun q hq => va_Nw.warmM hW (h q hq)
theorem NW.same {u U : State} (e : u.vm = U.vm) (h : NW u) : NW U := fun q hq => va_Nw.same rfl e (h q hq)
/-- what stands through a method's walk -/
def Cx (p : Program) (s : State) (m : MethodId) (meth : Method) (c : Code) (args : Array Value) (cc : ByteArray) (nL : Nat) (ret : Option FieldType) (own : String) (D : va_G) (ca ad : Nat → Nat) : Prop :=
  p.tables.exec = Jvm.exec ∧ c.code = cc ∧ c.maxLocals = nL ∧ s.vm.findClass own = some m.cls ∧ (∀ w ∈ wT, w.before args s = true) ∧ va_K D vwCl (tyT ca) s ∧ Inj ad ∧ meth.sig.returnType = ret ∧ meth.locks = false ∧ NW s
/-- the world in a heap -/
def Wd (D : va_G) (ca ad : Nat → Nat) (H0 : Heap) (mm : Mm) (H : Heap) (locs : List Loc) : Prop := va_P D vwCl (wsM ca ad mm) H ∧ va_S (AA ad) H0 H locs
/-- a class of vwCl: its tables -/
def KC (ci : Nat) (CN : String) (TC : u_T) (N : Nat) (ty : Nat → FieldType) : Prop := vwCl[ci]? = some (CN, TC, N) ∧ (∀ w ∈ u_ws CN TC N, w ∈ wT) ∧ (∀ k, k < N → parseFieldDescriptor (TC k).2.2.1 = some (ty k)) ∧ (∀ a, a < N → ∀ b, b < N → a ≠ b → (TC a).2.1 ≠ (TC b).2.1)
/-- the world at a method's start and end -/
def WB (D : va_G) (ca ad : Nat → Nat) (mm : Mm) (U : State) : Prop := va_P D vwCl (wsM ca ad mm) U.heap ∧ va_K D vwCl (tyT ca) U ∧ NW U
abbrev QI (D : va_G) (ca ad : Nat → Nat) (r : Int32 × Mm) : Array Value → State → Outcome → State → Prop := va_Qi (fun v (_ : Unit) => v = r.1) (fun _ t => WB D ca ad r.2 t) (AA ad)
abbrev QL (D : va_G) (ca ad : Nat → Nat) (r : Int64 × Mm) : Array Value → State → Outcome → State → Prop := va_Ql (fun v (_ : Unit) => v = r.1) (fun _ t => WB D ca ad r.2 t) (AA ad)
abbrev QV (D : va_G) (ca ad : Nat → Nat) (r : Unit × Mm) : Array Value → State → Outcome → State → Prop := va_Qv (fun (_ : Unit) => True) (fun _ t => WB D ca ad r.2 t) (AA ad)
abbrev QR (D : va_G) (ca ad : Nat → Nat) (r : Option Nat × Mm) : Array Value → State → Outcome → State → Prop := va_Qe ad (fun v (_ : Unit) => v = r.1) (fun _ t => WB D ca ad r.2 t) (AA ad)
section XW
variable {p : Program} {l : Launch} {e : Env} {R : Room} {s : State} {m : MethodId} {args : Array Value} {below : List Frame} {meth : Method} {c : Code} {H : Heap} {locs : List Loc} {Q : State → Prop} {cc : ByteArray} {pc : Nat} {ls : Array Slot} {rest : List Value} {nL : Nat} {ret : Option FieldType} {own : String} {D : va_G} {ca ad : Nat → Nat} {H0 : Heap} {mm : Mm}
theorem Cx.rd (C : Cx p s m meth c args cc nL ret own D ca ad) : p.tables.exec = Jvm.exec ∧ c.code = cc := ⟨C.1, C.2.1⟩
theorem x_get (C : Cx p s m meth c args cc nL ret own D ca ad) (hW : Wd D ca ad H0 mm H locs) {k j ci N idx : Nat} {CN : String} {TC : u_T} {ty : Nat → FieldType} {fs : List (Nat ⊕ Nat)} {x : Nat ⊕ Nat} (hk : k < NT) (hs : sk k = .inr (ci, fs)) (hx : fs[j]? = some x) (K : KC ci CN TC N ty) (hj : j < N) (hT : (TC j).1 = CN) (hl : Cond.fieldLink own idx CN (TC j).2.1 (TC j).2.2.1 ∈ wT) (hdg : decode cc pc = .ok (.getfield idx, 3))
    (kk : W p l e R s m args below meth c H locs 0 0 Q (F0 m (pc + 3) ls (fvV ad (mm.1 k) (mm.2 k) j x :: rest))) : W p l e R s m args below meth c H locs 0 0 Q (F0 m pc ls (.ref (ad k) :: rest)) :=
  va_get C.1 C.2.1 C.2.2.2.2.1 K.2.1 C.2.2.2.1 C.2.2.2.2.2.1 hW.1 k (by rw [wsM_at (C.2.2.2.2.2.2.1.lt hk), ce_obj hs]) K.1 j hj (C.2.2.2.2.1 _ hl) (fun y hy => by rw [hT] at hy; exact hy) (by rw [List.getElem?_mapIdx, hx]; rfl) hdg kk
theorem x_geti (C : Cx p s m meth c args cc nL ret own D ca ad) (hW : Wd D ca ad H0 mm H locs) {k j ci N idx : Nat} {CN : String} {TC : u_T} {ty : Nat → FieldType} {fs : List (Nat ⊕ Nat)} (hk : k < NT) (hs : sk k = .inr (ci, fs)) (hx : fs[j]? = some (.inl 0)) (K : KC ci CN TC N ty) (hj : j < N) (hT : (TC j).1 = CN) (hl : Cond.fieldLink own idx CN (TC j).2.1 (TC j).2.2.1 ∈ wT) (hdg : decode cc pc = .ok (.getfield idx, 3))
    (kk : W p l e R s m args below meth c H locs 0 0 Q (F0 m (pc + 3) ls (.int (rd mm k j) :: rest))) : W p l e R s m args below meth c H locs 0 0 Q (F0 m pc ls (.ref (ad k) :: rest)) := x_get C hW hk hs hx K hj hT hl hdg kk
theorem x_getl (C : Cx p s m meth c args cc nL ret own D ca ad) (hW : Wd D ca ad H0 mm H locs) {k j ci N idx : Nat} {CN : String} {TC : u_T} {ty : Nat → FieldType} {fs : List (Nat ⊕ Nat)} (hk : k < NT) (hs : sk k = .inr (ci, fs)) (hx : fs[j]? = some (.inl 1)) (K : KC ci CN TC N ty) (hj : j < N) (hT : (TC j).1 = CN) (hl : Cond.fieldLink own idx CN (TC j).2.1 (TC j).2.2.1 ∈ wT) (hdg : decode cc pc = .ok (.getfield idx, 3))
    (kk : W p l e R s m args below meth c H locs 0 0 Q (F0 m (pc + 3) ls (.long (rdL mm k j) :: rest))) : W p l e R s m args below meth c H locs 0 0 Q (F0 m pc ls (.ref (ad k) :: rest)) := x_get C hW hk hs hx K hj hT hl hdg kk
theorem x_getr (C : Cx p s m meth c args cc nL ret own D ca ad) (hW : Wd D ca ad H0 mm H locs) {k j ci N idx q : Nat} {CN : String} {TC : u_T} {ty : Nat → FieldType} {fs : List (Nat ⊕ Nat)} (hk : k < NT) (hs : sk k = .inr (ci, fs)) (hx : fs[j]? = some (.inr q)) (K : KC ci CN TC N ty) (hj : j < N) (hT : (TC j).1 = CN) (hl : Cond.fieldLink own idx CN (TC j).2.1 (TC j).2.2.1 ∈ wT) (hdg : decode cc pc = .ok (.getfield idx, 3))
    (kk : W p l e R s m args below meth c H locs 0 0 Q (F0 m (pc + 3) ls (.ref (ad q) :: rest))) : W p l e R s m args below meth c H locs 0 0 Q (F0 m pc ls (.ref (ad k) :: rest)) := x_get C hW hk hs hx K hj hT hl hdg kk
theorem x_put (C : Cx p s m meth c args cc nL ret own D ca ad) (hW : Wd D ca ad H0 mm H locs) {k j ci N idx : Nat} {CN : String} {TC : u_T} {ty : Nat → FieldType} {fs : List (Nat ⊕ Nat)} {v : Int32} {t1 : FieldType} (hk : k < NT) (hs : sk k = .inr (ci, fs)) (hx : fs[j]? = some (.inl 0)) (K : KC ci CN TC N ty) (hj : j < N) (hT : (TC j).1 = CN) (hf : (TC j).2.2.2 = false) (hl : Cond.fieldLink own idx CN (TC j).2.1 (TC j).2.2.1 ∈ wT) (ht : parseFieldDescriptor (TC j).2.2.1 = some t1) (hn : narrow t1 (.int v) = .int v) (hfit : fits t1 (.int v) = true) (hdg : decode cc pc = .ok (.putfield idx, 3))
    (kk : ∀ (H : Heap) (locs : List Loc), Wd D ca ad H0 (wr mm k j v) H locs → W p l e R s m args below meth c H locs 0 0 Q (F0 m (pc + 3) ls rest)) : W p l e R s m args below meth c H locs 0 0 Q (F0 m pc ls (.int v :: .ref (ad k) :: rest)) := by
  refine va_put C.1 C.2.1 C.2.2.2.2.1 K.2.1 ty K.2.2.1 K.2.2.2 C.2.2.2.1 C.2.2.2.2.2.1 hW.1 (wsM_D C.2.2.2.2.2.2.1) hW.2 k (by rw [wsM_at (C.2.2.2.2.2.2.1.lt hk), ce_obj hs]) K.1 j hj (C.2.2.2.2.1 _ hl) (fun y hy => by rw [hT] at hy; exact hy) hf ht hn hfit (by rw [List.length_mapIdx]; exact (List.getElem?_eq_some_iff.mp hx).1) hdg (fun H1 locs1 hP hD hS => ?_)
  rw [wsM_set (mm' := wr mm k j v) (C.2.2.2.2.2.2.1.lt hk) (fun i hi => wr_o hi) (by rw [ce_obj hs, fvV_set hx, wr_s]; rfl)] at hP
  exact kk H1 locs1 ⟨hP, hS⟩
theorem x_putL (C : Cx p s m meth c args cc nL ret own D ca ad) (hW : Wd D ca ad H0 mm H locs) {k j ci N idx : Nat} {CN : String} {TC : u_T} {ty : Nat → FieldType} {fs : List (Nat ⊕ Nat)} {v : Int64} (hk : k < NT) (hs : sk k = .inr (ci, fs)) (hx : fs[j]? = some (.inl 1)) (K : KC ci CN TC N ty) (hj : j < N) (hT : (TC j).1 = CN) (hf : (TC j).2.2.2 = false) (hl : Cond.fieldLink own idx CN (TC j).2.1 (TC j).2.2.1 ∈ wT) (ht : parseFieldDescriptor (TC j).2.2.1 = some .long) (hdg : decode cc pc = .ok (.putfield idx, 3))
    (kk : ∀ (H : Heap) (locs : List Loc), Wd D ca ad H0 (wrL mm k j v) H locs → W p l e R s m args below meth c H locs 0 0 Q (F0 m (pc + 3) ls rest)) : W p l e R s m args below meth c H locs 0 0 Q (F0 m pc ls (.long v :: .ref (ad k) :: rest)) := by
  refine va_put C.1 C.2.1 C.2.2.2.2.1 K.2.1 ty K.2.2.1 K.2.2.2 C.2.2.2.1 C.2.2.2.2.2.1 hW.1 (wsM_D C.2.2.2.2.2.2.1) hW.2 k (by rw [wsM_at (C.2.2.2.2.2.2.1.lt hk), ce_obj hs]) K.1 j hj (C.2.2.2.2.1 _ hl) (fun y hy => by rw [hT] at hy; exact hy) hf ht rfl rfl (by rw [List.length_mapIdx]; exact (List.getElem?_eq_some_iff.mp hx).1) hdg (fun H1 locs1 hP hD hS => ?_)
  rw [wsM_set (mm' := wrL mm k j v) (C.2.2.2.2.2.2.1.lt hk) (fun i hi => wrL_o hi) (by rw [ce_obj hs, fvV_setL hx, wrL_s]; rfl)] at hP
  exact kk H1 locs1 ⟨hP, hS⟩
/-- an array of ints -/
def sI (k : Nat) : Prop := k < NT ∧ sk k = .inl (0, ln k, fun _ => 0)
/-- an array of references, kind t + 1 -/
def sA (t k : Nat) : Prop := k < NT ∧ sk k = .inl (t + 1, ln k, el k)
theorem x_iald (C : Cx p s m meth c args cc nL ret own D ca ad) (hW : Wd D ca ad H0 mm H locs) {k : Nat} (hk : sI k) {i : Int32} (hin : inb i (ln k) = true) (hdg : decode cc pc = .ok (.iaload, 1))
    (kk : W p l e R s m args below meth c H locs 0 0 Q (F0 m (pc + 1) ls (.int (rd mm k i.toNatClampNeg) :: rest))) : W p l e R s m args below meth c H locs 0 0 Q (F0 m pc ls (.int i :: .ref (ad k) :: rest)) :=
  va_iald (f := rd mm k) C.1 C.2.1 C.2.2.2.2.2.1 hW.1 k 0 (by rw [wsM_at (C.2.2.2.2.2.2.1.lt hk.1), ce_int hk.2]; rfl) rfl (inb_in hin) hdg kk
theorem x_iast (C : Cx p s m meth c args cc nL ret own D ca ad) (hW : Wd D ca ad H0 mm H locs) {k : Nat} (hk : sI k) {i v : Int32} (hin : inb i (ln k) = true) (hdg : decode cc pc = .ok (.iastore, 1))
    (kk : ∀ (H : Heap) (locs : List Loc), Wd D ca ad H0 (wr mm k i.toNatClampNeg v) H locs → W p l e R s m args below meth c H locs 0 0 Q (F0 m (pc + 1) ls rest)) : W p l e R s m args below meth c H locs 0 0 Q (F0 m pc ls (.int v :: .int i :: .ref (ad k) :: rest)) := by
  refine va_iast C.1 C.2.1 C.2.2.2.2.2.1 hW.1 (wsM_D C.2.2.2.2.2.2.1) hW.2 k 0 (by rw [wsM_at (C.2.2.2.2.2.2.1.lt hk.1), ce_int hk.2]) rfl (inb_in hin) hdg (fun H1 locs1 hP hD hS => ?_)
  rw [wsM_set (mm' := wr mm k i.toNatClampNeg v) (C.2.2.2.2.2.2.1.lt hk.1) (fun i hi => wr_o hi) (by rw [ce_int hk.2, wr_s])] at hP
  exact kk H1 locs1 ⟨hP, hS⟩
theorem x_alen (C : Cx p s m meth c args cc nL ret own D ca ad) (hW : Wd D ca ad H0 mm H locs) {k : Nat} (hk : sI k) (hdg : decode cc pc = .ok (.arraylength, 1))
    (kk : W p l e R s m args below meth c H locs 0 0 Q (F0 m (pc + 1) ls (.int (Int32.ofNat (ln k)) :: rest))) : W p l e R s m args below meth c H locs 0 0 Q (F0 m pc ls (.ref (ad k) :: rest)) :=
  va_alen C.1 C.2.1 C.2.2.2.2.2.1 hW.1 k 0 (by rw [wsM_at (C.2.2.2.2.2.2.1.lt hk.1), ce_int hk.2]) rfl rfl hdg kk
theorem x_alenq (C : Cx p s m meth c args cc nL ret own D ca ad) (hW : Wd D ca ad H0 mm H locs) {t k : Nat} (hk : sA t k) {ty : FieldType} (ht : ∀ f : Nat → Nat, (tyT f)[t + 1]? = some (f (t + 1), ty)) (hdg : decode cc pc = .ok (.arraylength, 1))
    (kk : W p l e R s m args below meth c H locs 0 0 Q (F0 m (pc + 1) ls (.int (Int32.ofNat (ln k)) :: rest))) : W p l e R s m args below meth c H locs 0 0 Q (F0 m pc ls (.ref (ad k) :: rest)) :=
  va_alen C.1 C.2.1 C.2.2.2.2.2.1 hW.1 k (t + 1) (by rw [wsM_at (C.2.2.2.2.2.2.1.lt hk.1), ce_ref hk.2]) (ht ca) rfl hdg kk
theorem x_aald (C : Cx p s m meth c args cc nL ret own D ca ad) (hW : Wd D ca ad H0 mm H locs) {t k : Nat} (hk : sA t k) {ty : FieldType} (ht : ∀ f : Nat → Nat, (tyT f)[t + 1]? = some (f (t + 1), ty)) (hty : ty.isReference = true) {i : Int32} (hin : inb i (ln k) = true) (hdg : decode cc pc = .ok (.aaload, 1))
    (kk : W p l e R s m args below meth c H locs 0 0 Q (F0 m (pc + 1) ls (.ref (ad (el k i.toNatClampNeg)) :: rest))) : W p l e R s m args below meth c H locs 0 0 Q (F0 m pc ls (.int i :: .ref (ad k) :: rest)) := by
  have hlt : i.toNatClampNeg < ln k := Nat.not_le.mp fun q => inb_in hin (Or.inr q)
  have hc := hW.1 k _ (wsM_at (C.2.2.2.2.2.2.1.lt hk.1))
  rw [ce_ref hk.2] at hc
  refine W.aald (v := .ref (ad (el k i.toNatClampNeg))) (ty := ty) C.1 C.2.1 hc ((C.2.2.2.2.2.1.2 _ _ (ht ca)).1 (ln k) (fun j => va_rf (some (ad (el k j))))) hty (fun q => by cases q) (by show ¬ (i < 0 ∨ (arrV _ _ _).slots.size ≤ _); rw [arrV_size]; exact inb_in hin) (by show (arrV _ _ _).slots[_]? = _; rw [arrV_read _ _ hlt]; rfl) rfl rfl hdg kk
theorem x_aload_n {pn : Fin 4} (C : Cx p s m meth c args cc nL ret own D ca ad) {r : Option Nat} {i : Nat} (hdg : decode cc pc = .ok (.aload_n pn, 1)) (hi : (pn : Nat) = i) (hl : ls[i]? = some (.val (va_re ad r)))
    (kk : W p l e R s m args below meth c H locs 0 0 Q (F0 m (pc + 1) ls (va_re ad r :: rest))) : W p l e R s m args below meth c H locs 0 0 Q (F0 m pc ls rest) := by
  cases r with
  | none => exact lv_aload_nN C.1 C.2.1 hdg hi hl kk
  | some q => exact lv_aload_n C.1 C.2.1 hdg hi hl kk
theorem x_aload (C : Cx p s m meth c args cc nL ret own D ca ad) {r : Option Nat} {i : Nat} (hdg : decode cc pc = .ok (.aload i, 2)) (hl : ls[i]? = some (.val (va_re ad r)))
    (kk : W p l e R s m args below meth c H locs 0 0 Q (F0 m (pc + 2) ls (va_re ad r :: rest))) : W p l e R s m args below meth c H locs 0 0 Q (F0 m pc ls rest) := by
  cases r with
  | none => exact lv_aloadN C.1 C.2.1 hdg hl kk
  | some q => exact lv_aload C.1 C.2.1 hdg hl kk
theorem x_astore_n {pn : Fin 4} (C : Cx p s m meth c args cc nL ret own D ca ad) {r : Option Nat} {i : Nat} {lv lv' : List (Nat × Value)} (hdg : decode cc pc = .ok (.astore_n pn, 1)) (hi : (pn : Nat) = i) (h : lv_has ls nL lv) (hn : i < nL) (hl : (i, va_re ad r) :: lv.filter (fun q => !(q.1 == i) && !(q.1 + 1 == i && q.2.category == 2)) = lv')
    (kk : ∀ ls, lv_has ls nL lv' → W p l e R s m args below meth c H locs 0 0 Q (F0 m (pc + 1) ls rest)) : W p l e R s m args below meth c H locs 0 0 Q (F0 m pc ls (va_re ad r :: rest)) := by
  cases r with
  | none => exact lv_astore_nN C.1 C.2.1 hdg hi h hn hl kk
  | some q => exact lv_astore_n C.1 C.2.1 hdg hi h hn hl kk
theorem x_astore (C : Cx p s m meth c args cc nL ret own D ca ad) {r : Option Nat} {i : Nat} {lv lv' : List (Nat × Value)} (hdg : decode cc pc = .ok (.astore i, 2)) (h : lv_has ls nL lv) (hn : i < nL) (hl : (i, va_re ad r) :: lv.filter (fun q => !(q.1 == i) && !(q.1 + 1 == i && q.2.category == 2)) = lv')
    (kk : ∀ ls, lv_has ls nL lv' → W p l e R s m args below meth c H locs 0 0 Q (F0 m (pc + 2) ls rest)) : W p l e R s m args below meth c H locs 0 0 Q (F0 m pc ls (va_re ad r :: rest)) := by
  cases r with
  | none => exact lv_astoreN C.1 C.2.1 hdg h hn hl kk
  | some q => exact lv_astore C.1 C.2.1 hdg h hn hl kk
/-- arraycopy among the world's arrays of ints -/
theorem x_copy (C : Cx p s m meth c args cc nL ret own D ca ad) (hW : Wd D ca ad H0 mm H locs) {k1 k2 idx : Nat} (h1 : sI k1) (h2 : sI k2) {sp dp n : Int32} (hok : cpok (ln k1) (ln k2) sp dp n = true) (hsz : ls.size = nL) (hl : Cond.methodLink own idx arraycopyName ∈ wT) (hnat : Cond.native arraycopyName ∈ wT) (hst : Cond.static arraycopyName ∈ wT) (hini : Cond.initialized "java/lang/System" ∈ wT) (hfr : 1 ≤ R.frames) (hlo : (rest.map fun v => v.category).sum + (nativeFrameWords "java/lang/System" "arraycopy" 5 + 11) ≤ R.locals) (hdg : decode cc pc = .ok (.invokestatic idx, 3))
    (kk : ∀ (H : Heap) (locs : List Loc), Wd D ca ad H0 (cpy mm k1 k2 sp dp n) H locs → W p l e R s m args below meth c H locs 0 0 Q (F0 m (pc + 3) ls rest)) : W p l e R s m args below meth c H locs 0 0 Q (F0 m pc ls (.int n :: .int dp :: .ref (ad k2) :: .int sp :: .ref (ad k1) :: rest)) := by
  obtain ⟨g1, g2, g3, g4, g5⟩ := of_decide_eq_true hok
  refine va_copyi (ty := .int) C.1 C.2.1 (by rw [C.2.2.1, hsz]) C.2.2.2.1 (C.2.2.2.2.1 _ hl) (C.2.2.2.2.1 _ hnat) (C.2.2.2.2.1 _ hst) (C.2.2.2.2.1 _ hini) C.2.2.2.2.2.1 hW.1 (wsM_D C.2.2.2.2.2.2.1) hW.2 k1 k2 0 0 (by rw [wsM_at (C.2.2.2.2.2.2.1.lt h1.1), ce_int h1.2]) (by rw [wsM_at (C.2.2.2.2.2.2.1.lt h2.1), ce_int h2.2]) rfl rfl rfl g1 g2 g3 g4 g5 (fun _ _ => rfl) hfr hlo hdg (fun H1 locs1 hP hD hS => ?_)
  rw [wsM_set (mm := mm) (mm' := cpy mm k1 k2 sp dp n) (C.2.2.2.2.2.2.1.lt h2.1) (fun i hi => ⟨by simp [cpy, hi], rfl⟩) (by rw [ce_int h2.2]; simp [cpy])] at hP
  exact kk H1 locs1 ⟨hP, hS⟩
-- ends
theorem x_end (hW : Wd D ca ad s.heap mm H locs) (C : Cx p s m meth c args cc nL ret own D ca ad) (t : State) (ht : t.heap = H) (hw : s.WarmedH t.vm) : WB D ca ad mm t ∧ va_F (AA ad) s t := ⟨⟨by rw [ht]; exact hW.1, va_K.moved hw.alike C.2.2.2.2.2.1, NW.warm hw C.2.2.2.2.2.2.2.2.2⟩, hW.2.F ht⟩
theorem x_iret (C : Cx p s m meth c args cc nL (some .int) own D ca ad) (hW : Wd D ca ad s.heap mm H locs) {v : Int32} (hdg : decode cc pc = .ok (.ireturn, 1)) : W p l e R s m args below meth c H locs 0 0 (MQ below (QI D ca ad (v, mm)) args s 0 0 (AA ad)) (F0 m pc ls [.int v]) :=
  W.iret C.1 C.2.1 C.2.2.2.2.2.2.2.1 (fun t ht hw => ⟨⟨v, (), rfl, rfl, (x_end hW C t ht hw).1⟩, (x_end hW C t ht hw).2⟩) hW.2.2.2 hdg C.2.2.2.2.2.2.2.2.1
theorem x_zret (C : Cx p s m meth c args cc nL (some .boolean) own D ca ad) (hW : Wd D ca ad s.heap mm H locs) {v : Int32} (hv : v &&& 1 = v) (hdg : decode cc pc = .ok (.ireturn, 1)) : W p l e R s m args below meth c H locs 0 0 (MQ below (QI D ca ad (v, mm)) args s 0 0 (AA ad)) (F0 m pc ls [.int v]) :=
  W.zret C.1 C.2.1 C.2.2.2.2.2.2.2.1 (by show Value.int (v &&& 1) = .int v; rw [hv]) (fun t ht hw => ⟨⟨v, (), rfl, rfl, (x_end hW C t ht hw).1⟩, (x_end hW C t ht hw).2⟩) hW.2.2.2 hdg C.2.2.2.2.2.2.2.2.1
theorem x_lret (C : Cx p s m meth c args cc nL (some .long) own D ca ad) (hW : Wd D ca ad s.heap mm H locs) {v : Int64} (hdg : decode cc pc = .ok (.lreturn, 1)) : W p l e R s m args below meth c H locs 0 0 (MQ below (QL D ca ad (v, mm)) args s 0 0 (AA ad)) (F0 m pc ls [.long v]) :=
  W.lret C.1 C.2.1 C.2.2.2.2.2.2.2.1 (fun t ht hw => ⟨⟨v, (), rfl, rfl, (x_end hW C t ht hw).1⟩, (x_end hW C t ht hw).2⟩) hW.2.2.2 hdg C.2.2.2.2.2.2.2.2.1
theorem x_vret (C : Cx p s m meth c args cc nL none own D ca ad) (hW : Wd D ca ad s.heap mm H locs) {u : Unit} (hdg : decode cc pc = .ok (.return_, 1)) : W p l e R s m args below meth c H locs 0 0 (MQ below (QV D ca ad (u, mm)) args s 0 0 (AA ad)) (F0 m pc ls []) :=
  W.vret C.1 C.2.1 C.2.2.2.2.2.2.2.1 (fun t ht hw => ⟨⟨(), rfl, trivial, (x_end hW C t ht hw).1⟩, (x_end hW C t ht hw).2⟩) hW.2.2.2 hdg C.2.2.2.2.2.2.2.2.1
theorem x_aret {rt : FieldType} (C : Cx p s m meth c args cc nL (some rt) own D ca ad) (hrt : (∃ n, rt = .object n) ∨ ∃ t, rt = .array t) (hW : Wd D ca ad s.heap mm H locs) {v : Option Nat} (hdg : decode cc pc = .ok (.areturn, 1)) : W p l e R s m args below meth c H locs 0 0 (MQ below (QR D ca ad (v, mm)) args s 0 0 (AA ad)) (F0 m pc ls [va_re ad v]) :=
  W.aret C.1 C.2.1 C.2.2.2.2.2.2.2.1 hrt (va_re_or ad v) (fun t ht hw => ⟨⟨v, (), rfl, rfl, (x_end hW C t ht hw).1⟩, (x_end hW C t ht hw).2⟩) hW.2.2.2 hdg C.2.2.2.2.2.2.2.2.1
end XW
