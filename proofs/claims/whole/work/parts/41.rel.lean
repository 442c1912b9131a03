/-! the relation of both halves of the memory -/
/-- cells that Rel reads; all others are scratch -/
def Es (k j : Nat) : Bool := decide (k ≤ 22) || decide (94 ≤ k ∧ k ≤ 174) || decide (k = 53) || decide (k = 52 ∧ j = 2) || decide ((k = 32 ∨ k = 46 ∨ k = 50 ∨ k = 60 ∨ k = 73 ∨ k = 77 ∨ k = 81 ∨ k = 85 ∨ k = 89 ∨ k = 93) ∧ j = 0) || decide (k = 175 ∧ (j = 0 ∨ j = 2 ∨ j = 3 ∨ j = 4 ∨ j = 10 ∨ j = 13 ∨ j = 37)) || decide (k = 176 ∨ k = 177 ∨ k = 178 ∨ k = 180 ∨ k = 181 ∨ k = 183 ∨ k = 192 ∨ k = 193 ∨ k = 196) || decide (k = 182 ∧ j < 18)
def Keep (mm m2 : Mm) : Prop := ∀ k j, Es k j = true → rd m2 k j = rd mm k j ∧ rdL m2 k j = rdL mm k j
theorem Keep.rf {mm : Mm} : Keep mm mm := fun _ _ _ => ⟨rfl, rfl⟩
theorem Keep.tr {m1 m2 m3 : Mm} (h : Keep m1 m2) (h2 : Keep m2 m3) : Keep m1 m3 := fun k j e => ⟨(h2 k j e).1.trans (h k j e).1, (h2 k j e).2.trans (h k j e).2⟩
theorem keep_wr {m1 m2 : Mm} (h : Keep m1 m2) {k j : Nat} {v : Int32} (hk : Es k j = false) : Keep m1 (wr m2 k j v) := fun i q e => by
  have hn : ¬ (i = k ∧ q = j) := fun z => by rw [z.1, z.2, hk] at e; cases e
  exact ⟨by rw [rd_wr, if_neg hn]; exact (h i q e).1, by rw [rdL_wr]; exact (h i q e).2⟩
theorem keep_wrL {m1 m2 : Mm} (h : Keep m1 m2) {k j : Nat} {v : Int64} (hk : Es k j = false) : Keep m1 (wrL m2 k j v) := fun i q e => by
  have hn : ¬ (i = k ∧ q = j) := fun z => by rw [z.1, z.2, hk] at e; cases e
  exact ⟨by rw [rd_wrL]; exact (h i q e).1, by rw [rdL_wrL, if_neg hn]; exact (h i q e).2⟩
theorem keep_cpy {m1 m2 : Mm} (h : Keep m1 m2) {a b : Nat} {x y n : Int32} (hk : ∀ j, Es b j = false) : Keep m1 (cpy m2 a b x y n) := fun i q e => by
  have hn : i ≠ b := fun z => by rw [z, hk q] at e; cases e
  exact ⟨by rw [rd_cpy, if_neg (fun z => hn z.1)]; exact (h i q e).1, by rw [rdL_cpy]; exact (h i q e).2⟩
/-- a row of the class and one of the model -/
def RRow (cap : Nat) (cs ms : Int32) (f g : Nat → Int32) (P : Int32 → Prop) : Prop := (cs = -1 ∧ ms = -9) ∨ ∃ n : Nat, n ≤ cap ∧ cs = nI n ∧ ms = nI n ∧ ∀ i, i < n → f i = g i ∧ P (f i)
def RR (mm : Mm) : Prop := ∀ r, r < 6 → RRow 40 (rd mm (95 + 2 * r) 1) (rd mm 177 r) (fun i => rd mm (96 + 2 * r) i) (fun i => rd mm 178 (40 * r + i)) (fun _ => True)
def RT (mm : Mm) : Prop := ∀ t, t < 4 → RRow 80 (rd mm (107 + 2 * t) 1) (rd mm 180 t) (fun i => rd mm (108 + 2 * t) i) (fun i => rd mm 181 (80 * t + i)) (fun v => -128 ≤ v.toInt ∧ v.toInt ≤ 127)
/-- a suit of a court -/
def SOK (i : Nat) (kd w fg : Int32) : Prop := ∃ kn wn : Nat, kn ≤ 5 ∧ 1 ≤ wn ∧ wn ≤ 9 ∧ kd = nI kn ∧ w = nI wn ∧ ((kn ≤ 2 ∧ fg = -9) ∨ ∃ fn : Nat, fg = nI fn ∧ (((kn = 3 ∨ kn = 4) ∧ 1 ≤ fn ∧ fn ≤ 9) ∨ (kn = 5 ∧ fn < i)))
/-- a court of the class (from c on; its suits from c + 14 on) and numbers of the model told by place -/
def RCt (mm : Mm) (c n : Nat) (st dm le nc nt : Nat → Nat → Int32) : Prop := True
/-- suits -/
def RS (mm : Mm) (n : Nat) : Prop := n ≤ 6 ∧ rd mm 3 5 = nI n ∧ rd mm 175 10 = nI n ∧ ∀ i, i < n → rd mm 182 (3 * i) = rd mm (17 + i) 0 ∧ rd mm 182 (3 * i + 1) = rd mm (17 + i) 1 ∧ rd mm 182 (3 * i + 2) = rd mm (17 + i) 2 ∧ SOK i (rd mm (17 + i) 0) (rd mm (17 + i) 1) (rd mm (17 + i) 2)
/-- a number of at most b -/
def LE (x : Int32) (b : Nat) : Prop := ∃ n : Nat, n ≤ b ∧ x = nI n
/-- the rest of a court: the class' from c on, the model's stocks by s, damp d, lenders l, how many notes e, notes n -/
def RC (mm : Mm) (c n : Nat) (s : Nat → Int32) (d : Int32) (l : Nat → Int32) (e : Int32) (nt : Nat → Int32) : Prop :=
  (∀ i, i < 2 → rd mm (c + 2) i = s i ∧ LE (s i) 40) ∧ rd mm c 6 = d ∧ LE d 9 ∧ (∀ i, i < 4 → rd mm (c + 3) i = l i ∧ LE (l i) 20) ∧
  rd mm c 7 = e ∧ ∃ en : Nat, en ≤ 8 ∧ e = nI en ∧ ∀ k, k < en → (∀ i, i < n → rd mm (c + 5 + k) i = nt (7 * k + i) ∧ LE (nt (7 * k + i)) 40) ∧ rd mm (c + 13) k = nt (7 * k + 6) ∧ ∃ w : Nat, w < 2 ^ n ∧ nt (7 * k + 6) = nI w
/-- a kept court -/
def RKt (mm : Mm) (n k : Nat) : Prop := (rd mm (115 + 20 * k) 8 = 0 ∧ rd mm 196 (72 * k) = -9) ∨
  (rd mm (115 + 20 * k) 8 = 1 ∧ 1 ≤ n ∧ rd mm (115 + 20 * k) 5 = nI n ∧ (∀ i, i < n → ∀ j, j < 3 → rd mm (115 + 20 * k + 14 + i) j = rd mm (17 + i) j) ∧
   RC mm (115 + 20 * k) n (fun i => rd mm 196 (72 * k + 1 + i)) (rd mm 196 (72 * k + 3)) (fun i => rd mm 196 (72 * k + 4 + i)) (rd mm 196 (72 * k)) (fun i => rd mm 196 (72 * k + 8 + i)))
def mxO (f : Nat → Int) : Nat → Int
  | 0 => f 0
  | n + 1 => max (mxO f n) (f (n + 1))
def mnO (f : Nat → Int) : Nat → Int
  | 0 => f 0
  | n + 1 => min (mnO f n) (f (n + 1))
def uK (mm : Mm) (i : Nat) : Nat := (rd mm (17 + i) 0).toInt.toNat
def uW (mm : Mm) (i : Nat) : Nat := (rd mm (17 + i) 1).toInt.toNat
def uF (mm : Mm) (i : Nat) : Nat := (rd mm (17 + i) 2).toInt.toNat
/-- what x sheets weigh in a suit: of kind k, k or j being f, the damp d, b more if the suit that it hangs on was won -/
def wgt (k f d b x : Nat) : Nat := if k = 3 then (if x < 1 then 0 else x + f * d) else if k = 4 then (if x < f then 0 else x + f * d) else if k = 5 then x + b else x
/-- who wins: 0, 1, 2 nobody -/
def wnr (k a b : Nat) : Nat := if a = b then (if k = 1 ∨ k = 5 then 0 else 2) else if (b < a) = (k ≠ 2) then 0 else 1
/-- SCORE of a side -/
def pts (w side who : Nat) : Nat := if who = side then 2 * w else if who = 2 then w else 0
/-- what suit i gives side 0 more than side 1, in turn -/
def gvs (mm : Mm) (d i x y : Nat) : Int := let z := wnr (uK mm i) (wgt (uK mm i) (uF mm i) d 0 x) (wgt (uK mm i) (uF mm i) d 0 y)
  (pts (uW mm i) 0 z : Int) - (pts (uW mm i) 1 z : Int)
def tvR (mm : Mm) (d n : Nat) : Nat → Nat → Nat → Int
  | 0 => fun _ _ => 0
  | r + 1 => fun a b => mxO (fun x => mnO (fun y => gvs mm d (n - (r + 1)) x y + tvR mm d n r (a - x) (b - y)) b) a
def TT (mm : Mm) : Prop := ∃ n d : Nat, rd mm 3 5 = nI n ∧ rd mm 3 6 = nI d ∧ n ≤ 6 ∧ d ≤ 9 ∧ ∀ i a b, i ≤ n → a < 16 → b < 16 → rd mm 53 ((i * 16 + a) * 16 + b) = Int32.ofInt (tvR mm d n (n - i) a b)
def Rel (mm : Mm) : Prop := RR mm ∧ RT mm ∧ (∃ n : Nat, RS mm n ∧ RC mm 3 n (fun i => rd mm 183 i) (rd mm 175 13) (fun i => rd mm 192 i) (rd mm 175 37) (fun i => rd mm 193 i) ∧ ∀ k, k < 3 → RKt mm n k) ∧
  (rd mm 175 0 = rd mm 0 13 ∧ (∀ f, f < 6 → rd mm 176 f = rd mm 94 f) ∧ rd mm 175 2 = rd mm 0 14 ∧ rdL mm 175 3 = rdL mm 0 15 ∧ rdL mm 175 4 = rdL mm 0 16) ∧
  (rd mm 32 0 = 0 ∧ rd mm 46 0 = 0 ∧ rd mm 50 0 = 0 ∧ rd mm 60 0 = 0 ∧ ∀ w, w < 6 → rd mm (73 + 4 * w) 0 = 0) ∧ (rd mm 52 2 = 0 ∨ (rd mm 52 2 = 1 ∧ TT mm))
