/-! the relation of both halves of the memory -/
/-- cells that Rel reads; all others are scratch -/
def Es (k j : Nat) : Bool := decide (k ≤ 22) || decide (94 ≤ k ∧ k ≤ 174) || decide (k = 53) || decide (k = 52 ∧ j = 2) || decide ((k = 32 ∨ k = 46 ∨ k = 50 ∨ k = 60 ∨ k = 73 ∨ k = 77 ∨ k = 81 ∨ k = 85 ∨ k = 89 ∨ k = 93) ∧ j = 0) || decide (k = 175 ∧ (j = 0 ∨ j = 2 ∨ j = 3 ∨ j = 4 ∨ j = 10 ∨ j = 13 ∨ j = 37)) || decide (k = 176 ∨ k = 177 ∨ k = 178 ∨ k = 180 ∨ k = 181 ∨ k = 183 ∨ k = 192 ∨ k = 193 ∨ k = 196) || decide (k = 182 ∧ j < 18)
def Keep (mm m2 : Mm) : Prop := ∀ k j, Es k j = true → rd m2 k j = rd mm k j ∧ rdL m2 k j = rdL mm k j
theorem Keep.rf {mm : Mm} : Keep mm mm := fun _ _ _ => ⟨rfl, rfl⟩
theorem Keep.tr {m1 m2 m3 : Mm} (h : Keep m1 m2) (h2 : Keep m2 m3) : Keep m1 m3 := fun k j e => ⟨(h2 k j e).1.trans (h k j e).1, (h2 k j e).2.trans (h k j e).2⟩
theorem keep_wr {m1 m2 : Mm} (h : Keep m1 m2) {k j : Nat} {v : Int32} (hk : Es k j = false) : Keep m1 (wr m2 k j v) := fun i q e => by
  have hn : ¬ (i = k ∧ q = j) := fun z => by rw [z.1, z.2, hk] at e; cases e
  exact ⟨by rw [rd_wr, if_neg hn]; exact (h i q e).1, by rw [rdL_wr]; exact (h i q e).2⟩
theorem keep_wrL {m1 m2 : Mm} (h : Keep m1 m2) {k j : Nat} {v : Int64} (hk : Es k j = false) : Keep m1 (wrL m2 k j v) := fun i q e => by
  have hn : ¬ (i = k ∧ q = j) := fun z => by rw [z.1, z.2, hk] at e; cases e
  exact ⟨by rw [rd_wrL]; exact (h i q e).1, by rw [rdL_wrL, if_neg hn]; exact (h i q e).2⟩
theorem keep_cpy {m1 m2 : Mm} (h : Keep m1 m2) {a b : Nat} {x y n : Int32} (hk : ∀ j, Es b j = false) : Keep m1 (cpy m2 a b x y n) := fun i q e => by
  have hn : i ≠ b := fun z => by rw [z, hk q] at e; cases e
  exact ⟨by rw [rd_cpy, if_neg (fun z => hn z.1)]; exact (h i q e).1, by rw [rdL_cpy]; exact (h i q e).2⟩
/-- a row of the class and one of the model -/
def RRow (cap : Nat) (cs ms : Int32) (f g : Nat → Int32) (P : Int32 → Prop) : Prop := (cs = -1 ∧ ms = -9) ∨ ∃ n : Nat, n ≤ cap ∧ cs = nI n ∧ ms = nI n ∧ ∀ i, i < n → f i = g i ∧ P (f i)
def RR (mm : Mm) : Prop := ∀ r, r < 6 → RRow 40 (rd mm (95 + 2 * r) 1) (rd mm 177 r) (fun i => rd mm (96 + 2 * r) i) (fun i => rd mm 178 (40 * r + i)) (fun _ => True)
def RT (mm : Mm) : Prop := ∀ t, t < 4 → RRow 80 (rd mm (107 + 2 * t) 1) (rd mm 180 t) (fun i => rd mm (108 + 2 * t) i) (fun i => rd mm 181 (80 * t + i)) (fun v => -128 ≤ v.toInt ∧ v.toInt ≤ 127)
/-- a suit of a court -/
def SOK (i : Nat) (kd w fg : Int32) : Prop := ∃ kn wn : Nat, kn ≤ 5 ∧ 1 ≤ wn ∧ wn ≤ 9 ∧ kd = nI kn ∧ w = nI wn ∧ ((kn ≤ 2 ∧ fg = -9) ∨ ∃ fn : Nat, fg = nI fn ∧ (((kn = 3 ∨ kn = 4) ∧ 1 ≤ fn ∧ fn ≤ 9) ∨ (kn = 5 ∧ fn < i)))
/-- suits -/
def RS (mm : Mm) (n : Nat) : Prop := n ≤ 6 ∧ rd mm 3 5 = nI n ∧ rd mm 175 10 = nI n ∧ ∀ i, i < n → rd mm 182 (3 * i) = rd mm (17 + i) 0 ∧ rd mm 182 (3 * i + 1) = rd mm (17 + i) 1 ∧ rd mm 182 (3 * i + 2) = rd mm (17 + i) 2 ∧ SOK i (rd mm (17 + i) 0) (rd mm (17 + i) 1) (rd mm (17 + i) 2)
/-- a number of at most b -/
def LE (x : Int32) (b : Nat) : Prop := ∃ n : Nat, n ≤ b ∧ x = nI n
/-- the rest of a court: the class' from c on, the model's stocks by s, damp d, lenders l, how many notes e, notes n -/
def RC (mm : Mm) (c n : Nat) (s : Nat → Int32) (d : Int32) (l : Nat → Int32) (e : Int32) (nt : Nat → Int32) : Prop :=
  (∀ i, i < 2 → rd mm (c + 2) i = s i ∧ LE (s i) 40) ∧ rd mm c 6 = d ∧ LE d 9 ∧ (∀ i, i < 4 → rd mm (c + 3) i = l i ∧ LE (l i) 20) ∧
  rd mm c 7 = e ∧ ∃ en : Nat, en ≤ 8 ∧ e = nI en ∧ ∀ k, k < en → (∀ i, i < n → rd mm (c + 5 + k) i = nt (7 * k + i) ∧ LE (nt (7 * k + i)) 40) ∧ rd mm (c + 13) k = nt (7 * k + 6) ∧ ∃ w : Nat, w < 2 ^ n ∧ nt (7 * k + 6) = nI w
/-- a kept court -/
def RKt (mm : Mm) (n k : Nat) : Prop := (rd mm (115 + 20 * k) 8 = 0 ∧ rd mm 196 (72 * k) = -9) ∨
  (rd mm (115 + 20 * k) 8 = 1 ∧ 1 ≤ n ∧ rd mm (115 + 20 * k) 5 = nI n ∧ (∀ i, i < n → ∀ j, j < 3 → rd mm (115 + 20 * k + 14 + i) j = rd mm (17 + i) j) ∧
   RC mm (115 + 20 * k) n (fun i => rd mm 196 (72 * k + 1 + i)) (rd mm 196 (72 * k + 3)) (fun i => rd mm 196 (72 * k + 4 + i)) (rd mm 196 (72 * k)) (fun i => rd mm 196 (72 * k + 8 + i)))
def mxO (f : Nat → Int) : Nat → Int
  | 0 => f 0
  | n + 1 => max (mxO f n) (f (n + 1))
def mnO (f : Nat → Int) : Nat → Int
  | 0 => f 0
  | n + 1 => min (mnO f n) (f (n + 1))
def uK (mm : Mm) (i : Nat) : Nat := (rd mm (17 + i) 0).toInt.toNat
def uW (mm : Mm) (i : Nat) : Nat := (rd mm (17 + i) 1).toInt.toNat
def uF (mm : Mm) (i : Nat) : Nat := (rd mm (17 + i) 2).toInt.toNat
/-- what x sheets weigh in a suit: of kind k, k or j being f, the damp d, b more if the suit that it hangs on was won -/
def wgt (k f d b x : Nat) : Nat := if k = 3 then (if x < 1 then 0 else x + f * d) else if k = 4 then (if x < f then 0 else x + f * d) else if k = 5 then x + b else x
/-- who wins: 0, 1, 2 nobody -/
def wnr (k a b : Nat) : Nat := if a = b then (if k = 1 ∨ k = 5 then 0 else 2) else if (b < a) = (k ≠ 2) then 0 else 1
/-- SCORE of a side -/
def pts (w side who : Nat) : Nat := if who = side then 2 * w else if who = 2 then w else 0
/-- what suit i gives side 0 more than side 1, in turn -/
def gvs (mm : Mm) (d i x y : Nat) : Int := let z := wnr (uK mm i) (wgt (uK mm i) (uF mm i) d 0 x) (wgt (uK mm i) (uF mm i) d 0 y)
  (pts (uW mm i) 0 z : Int) - (pts (uW mm i) 1 z : Int)
def tvR (mm : Mm) (d n : Nat) : Nat → Nat → Nat → Int
  | 0 => fun _ _ => 0
  | r + 1 => fun a b => mxO (fun x => mnO (fun y => gvs mm d (n - (r + 1)) x y + tvR mm d n r (a - x) (b - y)) b) a
def TT (mm : Mm) : Prop := ∃ n d : Nat, rd mm 3 5 = nI n ∧ rd mm 3 6 = nI d ∧ n ≤ 6 ∧ d ≤ 9 ∧ ∀ i a b, i ≤ n → a < 16 → b < 16 → rd mm 53 ((i * 16 + a) * 16 + b) = Int32.ofInt (tvR mm d n (n - i) a b)
def RCm (mm : Mm) (n : Nat) : Prop := RC mm 3 n (fun i => rd mm 183 i) (rd mm 175 13) (fun i => rd mm 192 i) (rd mm 175 37) (fun i => rd mm 193 i)
def RF (mm : Mm) : Prop := rd mm 175 0 = rd mm 0 13 ∧ (∀ f, f < 6 → rd mm 176 f = rd mm 94 f) ∧ rd mm 175 2 = rd mm 0 14 ∧ rdL mm 175 3 = rdL mm 0 15 ∧ rdL mm 175 4 = rdL mm 0 16
def RA (mm : Mm) : Prop := rd mm 32 0 = 0 ∧ rd mm 46 0 = 0 ∧ rd mm 50 0 = 0 ∧ rd mm 60 0 = 0 ∧ ∀ w, w < 6 → rd mm (73 + 4 * w) 0 = 0
def RTT (mm : Mm) : Prop := rd mm 52 2 = 0 ∨ (rd mm 52 2 = 1 ∧ TT mm)
def Rel (mm : Mm) : Prop := RR mm ∧ RT mm ∧ (∃ n : Nat, RS mm n ∧ RCm mm n ∧ ∀ k, k < 3 → RKt mm n k) ∧ RF mm ∧ RA mm ∧ RTT mm
-- each of its parts reads some cells alone
theorem RRow_c {cap : Nat} {a b a' b' : Int32} {f g f' g' : Nat → Int32} {P : Int32 → Prop} (h : RRow cap a b f g P) (e1 : a' = a) (e2 : b' = b) (e3 : ∀ i, f' i = f i) (e4 : ∀ i, g' i = g i) : RRow cap a' b' f' g' P := by
  have h3 : f' = f := funext e3
  have h4 : g' = g := funext e4
  rw [e1, e2, h3, h4]; exact h
theorem RR_c {mm m2 : Mm} (h : RR mm) (e : ∀ k j, (95 ≤ k ∧ k ≤ 106) ∨ k = 177 ∨ k = 178 → rd m2 k j = rd mm k j) : RR m2 := fun r hr =>
  RRow_c (h r hr) (e _ _ (by omega)) (e _ _ (by omega)) (fun i => e _ _ (by omega)) (fun i => e _ _ (by omega))
theorem RT_c {mm m2 : Mm} (h : RT mm) (e : ∀ k j, (107 ≤ k ∧ k ≤ 114) ∨ k = 180 ∨ k = 181 → rd m2 k j = rd mm k j) : RT m2 := fun r hr =>
  RRow_c (h r hr) (e _ _ (by omega)) (e _ _ (by omega)) (fun i => e _ _ (by omega)) (fun i => e _ _ (by omega))
theorem RS_c {mm m2 : Mm} {n : Nat} (h : RS mm n) (e : ∀ k j, (17 ≤ k ∧ k ≤ 22) ∨ (k = 3 ∧ j = 5) ∨ (k = 182 ∧ j < 18) ∨ (k = 175 ∧ j = 10) → rd m2 k j = rd mm k j) : RS m2 n := by
  obtain ⟨h1, h2, h3, h4⟩ := h
  refine ⟨h1, by rw [e _ _ (by omega)]; exact h2, by rw [e _ _ (by omega)]; exact h3, fun i hi => ?_⟩
  rw [e 182 (3 * i) (by omega), e 182 (3 * i + 1) (by omega), e 182 (3 * i + 2) (by omega), e (17 + i) 0 (by omega), e (17 + i) 1 (by omega), e (17 + i) 2 (by omega)]
  exact h4 i hi
theorem RC_c {mm m2 : Mm} {c n : Nat} {s s' : Nat → Int32} {d d' : Int32} {l l' : Nat → Int32} {e e' : Int32} {nt nt' : Nat → Int32} (h : RC mm c n s d l e nt) (h1 : ∀ k j, c ≤ k ∧ k ≤ c + 13 → (k = c → j = 6 ∨ j = 7) → rd m2 k j = rd mm k j) (e1 : ∀ i, i < 2 → s' i = s i) (e2 : d' = d) (e3 : ∀ i, i < 4 → l' i = l i) (e4 : e' = e) (e5 : ∀ i, i < 56 → nt' i = nt i) (hn : n ≤ 6) : RC m2 c n s' d' l' e' nt' := by
  obtain ⟨a1, a2, a3, a4, a5, en, a6, a7, a8⟩ := h
  subst e2
  subst e4
  refine ⟨fun i hi => ?_, by rw [h1 _ _ (by omega) (by omega)]; exact a2, a3, fun i hi => ?_, by rw [h1 _ _ (by omega) (by omega)]; exact a5, en, a6, a7, fun k hk => ?_⟩
  · rw [h1 _ _ (by omega) (by omega), e1 i hi]; exact a1 i hi
  · rw [h1 _ _ (by omega) (by omega), e3 i hi]; exact a4 i hi
  · obtain ⟨b1, b2, b3⟩ := a8 k hk
    refine ⟨fun i hi => ?_, ?_, ?_⟩
    · rw [h1 _ _ (by omega) (by omega), e5 _ (by omega)]; exact b1 i hi
    · rw [h1 _ _ (by omega) (by omega), e5 _ (by omega)]; exact b2
    · rw [e5 _ (by omega)]; exact b3
theorem RCm_c {mm m2 : Mm} {n : Nat} (h : RCm mm n) (hn : n ≤ 6) (e : ∀ k j, (4 ≤ k ∧ k ≤ 16) ∨ (k = 3 ∧ (j = 6 ∨ j = 7)) ∨ k = 183 ∨ k = 192 ∨ k = 193 ∨ (k = 175 ∧ (j = 13 ∨ j = 37)) → rd m2 k j = rd mm k j) : RCm m2 n :=
  RC_c h (fun k j h1 h2 => e _ _ (by omega)) (fun i _ => e _ _ (by omega)) (e _ _ (by omega)) (fun i _ => e _ _ (by omega)) (e _ _ (by omega)) (fun i _ => e _ _ (by omega)) hn
theorem RKt_c {mm m2 : Mm} {n k : Nat} (h : RKt mm n k) (hn : n ≤ 6) (hk : k < 3) (e : ∀ k j, (17 ≤ k ∧ k ≤ 22) ∨ (115 ≤ k ∧ k ≤ 174) ∨ k = 196 → rd m2 k j = rd mm k j) : RKt m2 n k := by
  unfold RKt
  rcases h with ⟨h1, h2⟩ | ⟨h1, h2, h3, h4, h5⟩
  · exact Or.inl ⟨by rw [e _ _ (by omega)]; exact h1, by rw [e _ _ (by omega)]; exact h2⟩
  · refine Or.inr ⟨by rw [e _ _ (by omega)]; exact h1, h2, by rw [e _ _ (by omega)]; exact h3, fun i hi j hj => ?_, ?_⟩
    · rw [e _ _ (by omega), e _ _ (by omega)]; exact h4 i hi j hj
    · exact RC_c h5 (fun k j h1 h2 => e _ _ (by omega)) (fun i _ => e _ _ (by omega)) (e _ _ (by omega)) (fun i _ => e _ _ (by omega)) (e _ _ (by omega)) (fun i _ => e _ _ (by omega)) hn
theorem RF_c {mm m2 : Mm} (h : RF mm) (e : ∀ k j, (k = 0 ∧ (j = 13 ∨ j = 14)) ∨ (k = 175 ∧ (j = 0 ∨ j = 2)) ∨ k = 94 ∨ k = 176 → rd m2 k j = rd mm k j) (e2 : ∀ k j, (k = 0 ∧ (j = 15 ∨ j = 16)) ∨ (k = 175 ∧ (j = 3 ∨ j = 4)) → rdL m2 k j = rdL mm k j) : RF m2 := by
  obtain ⟨h1, h2, h3, h4, h5⟩ := h
  refine ⟨?_, fun f hf => ?_, ?_, ?_, ?_⟩
  · rw [e _ _ (by omega), e _ _ (by omega)]; exact h1
  · rw [e _ _ (by omega), e _ _ (by omega)]; exact h2 f hf
  · rw [e _ _ (by omega), e _ _ (by omega)]; exact h3
  · rw [e2 _ _ (by omega), e2 _ _ (by omega)]; exact h4
  · rw [e2 _ _ (by omega), e2 _ _ (by omega)]; exact h5
theorem RA_c {mm m2 : Mm} (h : RA mm) (e : ∀ k, (k = 32 ∨ k = 46 ∨ k = 50 ∨ k = 60 ∨ k = 73 ∨ k = 77 ∨ k = 81 ∨ k = 85 ∨ k = 89 ∨ k = 93) → rd m2 k 0 = rd mm k 0) : RA m2 := by
  obtain ⟨h1, h2, h3, h4, h5⟩ := h
  refine ⟨by rw [e _ (by omega)]; exact h1, by rw [e _ (by omega)]; exact h2, by rw [e _ (by omega)]; exact h3, by rw [e _ (by omega)]; exact h4, fun w hw => ?_⟩
  rw [e _ (by omega)]; exact h5 w hw
theorem mnO_c {f g : Nat → Int} : ∀ n, (∀ i, i ≤ n → f i = g i) → mnO f n = mnO g n
  | 0, h => h 0 (Nat.le_refl _)
  | n + 1, h => by
    show min (mnO f n) (f (n + 1)) = min (mnO g n) (g (n + 1))
    rw [mnO_c n (fun i hi => h i (by omega)), h (n + 1) (Nat.le_refl _)]
theorem mxO_c {f g : Nat → Int} : ∀ n, (∀ i, i ≤ n → f i = g i) → mxO f n = mxO g n
  | 0, h => h 0 (Nat.le_refl _)
  | n + 1, h => by
    show max (mxO f n) (f (n + 1)) = max (mxO g n) (g (n + 1))
    rw [mxO_c n (fun i hi => h i (by omega)), h (n + 1) (Nat.le_refl _)]
theorem tvR_c {mm m2 : Mm} {d n : Nat} (hn : n ≤ 6) (e : ∀ k j, (17 ≤ k ∧ k ≤ 22) → rd m2 k j = rd mm k j) : ∀ r, r ≤ n → ∀ a b, tvR m2 d n r a b = tvR mm d n r a b := by
  intro r
  induction r with
  | zero => intro _ a b; rfl
  | succ r ih =>
    intro hr a b
    show mxO _ a = mxO _ a
    refine mxO_c a (fun x _ => mnO_c b (fun y _ => ?_))
    rw [ih (by omega)]
    have : gvs m2 d (n - (r + 1)) x y = gvs mm d (n - (r + 1)) x y := by
      unfold gvs uK uW uF
      rw [e (17 + (n - (r + 1))) 0 (by omega), e (17 + (n - (r + 1))) 1 (by omega), e (17 + (n - (r + 1))) 2 (by omega)]
    rw [this]
theorem RTT_c {mm m2 : Mm} (h : RTT mm) (e : ∀ k j, (17 ≤ k ∧ k ≤ 22) ∨ (k = 3 ∧ (j = 5 ∨ j = 6)) ∨ k = 53 ∨ (k = 52 ∧ j = 2) → rd m2 k j = rd mm k j) : RTT m2 := by
  unfold RTT
  rw [e 52 2 (by omega)]
  rcases h with h | ⟨h, n, d, h1, h2, h3, h4, h5⟩
  · exact Or.inl h
  · refine Or.inr ⟨h, n, d, by rw [e _ _ (by omega)]; exact h1, by rw [e _ _ (by omega)]; exact h2, h3, h4, fun i a b hi ha hb => ?_⟩
    rw [e _ _ (by omega), h5 i a b hi ha hb, tvR_c h3 (fun k j hk => e k j (by omega)) _ (by omega)]
theorem es_a {k j : Nat} (h : k ≤ 22) : Es k j = true := by
  unfold Es; simp only [Bool.or_eq_true, decide_eq_true_eq]; exact Or.inl (Or.inl (Or.inl (Or.inl (Or.inl (Or.inl (Or.inl h))))))
theorem es_b {k j : Nat} (h : 94 ≤ k ∧ k ≤ 174) : Es k j = true := by
  unfold Es; simp only [Bool.or_eq_true, decide_eq_true_eq]; exact Or.inl (Or.inl (Or.inl (Or.inl (Or.inl (Or.inl (Or.inr h))))))
theorem es_c {k j : Nat} (h : k = 53) : Es k j = true := by
  unfold Es; simp only [Bool.or_eq_true, decide_eq_true_eq]; exact Or.inl (Or.inl (Or.inl (Or.inl (Or.inl (Or.inr h)))))
theorem es_d {k j : Nat} (h : k = 52 ∧ j = 2) : Es k j = true := by
  unfold Es; simp only [Bool.or_eq_true, decide_eq_true_eq]; exact Or.inl (Or.inl (Or.inl (Or.inl (Or.inr h))))
theorem es_e {k j : Nat} (h : (k = 32 ∨ k = 46 ∨ k = 50 ∨ k = 60 ∨ k = 73 ∨ k = 77 ∨ k = 81 ∨ k = 85 ∨ k = 89 ∨ k = 93) ∧ j = 0) : Es k j = true := by
  unfold Es; simp only [Bool.or_eq_true, decide_eq_true_eq]; exact Or.inl (Or.inl (Or.inl (Or.inr h)))
theorem es_f {k j : Nat} (h : k = 175 ∧ (j = 0 ∨ j = 2 ∨ j = 3 ∨ j = 4 ∨ j = 10 ∨ j = 13 ∨ j = 37)) : Es k j = true := by
  unfold Es; simp only [Bool.or_eq_true, decide_eq_true_eq]; exact Or.inl (Or.inl (Or.inr h))
theorem es_g {k j : Nat} (h : k = 176 ∨ k = 177 ∨ k = 178 ∨ k = 180 ∨ k = 181 ∨ k = 183 ∨ k = 192 ∨ k = 193 ∨ k = 196) : Es k j = true := by
  unfold Es; simp only [Bool.or_eq_true, decide_eq_true_eq]; exact Or.inl (Or.inr h)
theorem es_h {k j : Nat} (h : k = 182 ∧ j < 18) : Es k j = true := by
  unfold Es; simp only [Bool.or_eq_true, decide_eq_true_eq]; exact Or.inr h
theorem eRR {k j : Nat} (z : (95 ≤ k ∧ k ≤ 106) ∨ k = 177 ∨ k = 178) : Es k j = true := by
  rcases z with z | z | z
  · exact es_b (by omega)
  · exact es_g (by omega)
  · exact es_g (by omega)
theorem eRT {k j : Nat} (z : (107 ≤ k ∧ k ≤ 114) ∨ k = 180 ∨ k = 181) : Es k j = true := by
  rcases z with z | z | z
  · exact es_b (by omega)
  · exact es_g (by omega)
  · exact es_g (by omega)
theorem eRS {k j : Nat} (z : (17 ≤ k ∧ k ≤ 22) ∨ (k = 3 ∧ j = 5) ∨ (k = 182 ∧ j < 18) ∨ (k = 175 ∧ j = 10)) : Es k j = true := by
  rcases z with z | z | z | z
  · exact es_a (by omega)
  · exact es_a (by omega)
  · exact es_h z
  · exact es_f (by omega)
theorem eRC {k j : Nat} (z : (4 ≤ k ∧ k ≤ 16) ∨ (k = 3 ∧ (j = 6 ∨ j = 7)) ∨ k = 183 ∨ k = 192 ∨ k = 193 ∨ (k = 175 ∧ (j = 13 ∨ j = 37))) : Es k j = true := by
  rcases z with z | z | z | z | z | z
  · exact es_a (by omega)
  · exact es_a (by omega)
  · exact es_g (by omega)
  · exact es_g (by omega)
  · exact es_g (by omega)
  · exact es_f (by omega)
theorem eRK {k j : Nat} (z : (17 ≤ k ∧ k ≤ 22) ∨ (115 ≤ k ∧ k ≤ 174) ∨ k = 196) : Es k j = true := by
  rcases z with z | z | z
  · exact es_a (by omega)
  · exact es_b (by omega)
  · exact es_g (by omega)
theorem eRF {k j : Nat} (z : (k = 0 ∧ (j = 13 ∨ j = 14)) ∨ (k = 175 ∧ (j = 0 ∨ j = 2)) ∨ k = 94 ∨ k = 176) : Es k j = true := by
  rcases z with z | z | z | z
  · exact es_a (by omega)
  · exact es_f (by omega)
  · exact es_b (by omega)
  · exact es_g (by omega)
theorem eRFL {k j : Nat} (z : (k = 0 ∧ (j = 15 ∨ j = 16)) ∨ (k = 175 ∧ (j = 3 ∨ j = 4))) : Es k j = true := by
  rcases z with z | z
  · exact es_a (by omega)
  · exact es_f (by omega)
theorem eRA {k : Nat} (z : k = 32 ∨ k = 46 ∨ k = 50 ∨ k = 60 ∨ k = 73 ∨ k = 77 ∨ k = 81 ∨ k = 85 ∨ k = 89 ∨ k = 93) : Es k 0 = true := es_e ⟨z, rfl⟩
theorem eRTT {k j : Nat} (z : (17 ≤ k ∧ k ≤ 22) ∨ (k = 3 ∧ (j = 5 ∨ j = 6)) ∨ k = 53 ∨ (k = 52 ∧ j = 2)) : Es k j = true := by
  rcases z with z | z | z | z
  · exact es_a (by omega)
  · exact es_a (by omega)
  · exact es_c z
  · exact es_d z
/-- what leaves the essential cells leaves Rel -/
theorem Rel_keep {mm m2 : Mm} (h : Rel mm) (k : Keep mm m2) : Rel m2 := by
  obtain ⟨h1, h2, ⟨n, h3, h4, h5⟩, h6, h7, h8⟩ := h
  have hn := h3.1
  refine ⟨?_, ?_, ⟨n, ?_, ?_, ?_⟩, ?_, ?_, ?_⟩
  · exact RR_c h1 (fun i j z => (k i j (eRR z)).1)
  · exact RT_c h2 (fun i j z => (k i j (eRT z)).1)
  · exact RS_c h3 (fun i j z => (k i j (eRS z)).1)
  · exact RCm_c h4 hn (fun i j z => (k i j (eRC z)).1)
  · exact fun q hq => RKt_c (h5 q hq) hn hq (fun i j z => (k i j (eRK z)).1)
  · exact RF_c h6 (fun i j z => (k i j (eRF z)).1) (fun i j z => (k i j (eRFL z)).2)
  · exact RA_c h7 (fun i z => (k i 0 (eRA z)).1)
  · exact RTT_c h8 (fun i j z => (k i j (eRTT z)).1)
