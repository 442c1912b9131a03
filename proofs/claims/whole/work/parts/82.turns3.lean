/-! pure: turns, from, answer -/
section MTv
variable {N n d : Nat} {K W F : Nat → Nat}
theorem st52_l {i a : Nat} {k38 : Nat → Int32 → Mm → Option (Unit × Mm)} {k44 : Nat → Int32 → Int32 → Mm → Option (Unit × Mm)} (hN : 100000 ≤ N) (hi : i < n) (ha : a < 16) : ∀ c b mm, b + c = 16 → MTt mm n d K W F i → ∀ f, c < f → ∃ m', fX12_setTurns_52 N k38 k44 f 175 (nI i) (nI a) (nI b) mm = k44 175 (nI i) (nI (a + 1)) m' ∧ Fr (fun k j => (k = 175 ∧ (j = 33 ∨ j = 34)) ∨ (k = 191 ∧ 256 * i + 16 * a + b ≤ j ∧ j < 256 * i + 16 * a + 16)) mm m' ∧ ∀ q, b ≤ q → q < 16 → rd m' 191 (256 * i + 16 * a + q) = iI (tvN K W F d n (n - i) a q) := by
  intro c
  induction c with
  | zero =>
    intro b mm hb A f hf
    obtain ⟨f, rfl⟩ : ∃ g, f = g + 1 := ⟨f - 1, by omega⟩
    obtain rfl : b = 16 := by omega
    refine ⟨mm, ?_, Fr.rf, fun q h1 h2 => by omega⟩
    unfold fX12_setTurns_52
    exact st_t (by decide) (by rw [nI_1])
  | succ c ih =>
    intro b mm hb A f hf
    obtain ⟨f, rfl⟩ : ∃ g, f = g + 1 := ⟨f - 1, by omega⟩
    have hn := A.1.2.1
    obtain ⟨m1, B, p, c1, f1, -, g1⟩ := laid_e (N := N) (a := a) (b := b) hN hi ha (by first | omega | (dsimp only; omega)) A
    have hB : B = tvN K W F d n (n - i) a b := by rw [tv_vl hi]; exact g1.v.symm
    subst hB
    have f1' : Fr (fun k j => (k = 175 ∧ (j = 33 ∨ j = 34)) ∨ (k = 191 ∧ 256 * i + 16 * a + b ≤ j ∧ j < 256 * i + 16 * a + 16)) mm (wr m1 191 (256 * i + 16 * a + b) (iI (tvN K W F d n (n - i) a b))) := fr_wr (f1.mono (fun k j h => Or.inl h)) (Or.inr ⟨rfl, by omega, by omega⟩)
    obtain ⟨m', c2, f2, g2⟩ := ih (b + 1) _ (by first | omega | (dsimp only; omega)) (A.c (f1'.mono (fun k j h => by omega))) f (by first | omega | (dsimp only; omega))
    refine ⟨m', ?_, f1'.tr (f2.mono (fun k j h => by omega)), fun q h1 h2 => ?_⟩
    · unfold fX12_setTurns_52
      rw [show (256 : Int32) = nI 256 from rfl, show (16 : Int32) = nI 16 from rfl, nI_mul, nI_mul, nI_add, nI_add]
      simp only [LXm, nI_nat (show 256 * i + 16 * a + b < 2147483648 by omega)]
      refine st_f (nI_nlt (show b ≤ 15 by omega) (by first | omega | (dsimp only; omega))) (st_b c1 (st_k rfl (by first | omega | (dsimp only; omega)) (by first | omega | (dsimp only; omega)) (st_n ?_)))
      rw [nI_1]; exact c2
    · by_cases hq : q = b
      · subst hq; rw [f2.2 _ _ (by first | omega | (dsimp only; omega)), rd_wr_s]
      · exact g2 q (by first | omega | (dsimp only; omega)) h2
theorem st44_l {i : Nat} {k38 : Nat → Int32 → Mm → Option (Unit × Mm)} (hN : 100000 ≤ N) (hi : i < n) : ∀ c a mm, a + c = 16 → MTt mm n d K W F i → ∀ f, c < f → ∃ m', fX12_setTurns_44 N k38 f 175 (nI i) (nI a) mm = k38 175 (nI i - 1) m' ∧ Fr (fun k j => (k = 175 ∧ (j = 33 ∨ j = 34)) ∨ (k = 191 ∧ 256 * i + 16 * a ≤ j ∧ j < 256 * i + 256)) mm m' ∧ ∀ e, a ≤ e → e < 16 → ∀ q, q < 16 → rd m' 191 (256 * i + 16 * e + q) = iI (tvN K W F d n (n - i) e q) := by
  intro c
  induction c with
  | zero =>
    intro a mm hb A f hf
    obtain ⟨f, rfl⟩ : ∃ g, f = g + 1 := ⟨f - 1, by omega⟩
    obtain rfl : a = 16 := by omega
    refine ⟨mm, ?_, Fr.rf, fun q h1 h2 => by omega⟩
    unfold fX12_setTurns_44
    exact st_t (by decide) (by rw [show nI i + (-1) = nI i - 1 from (Int32.sub_eq_add_neg _ _).symm])
  | succ c ih =>
    intro a mm ha A f hf
    obtain ⟨f, rfl⟩ : ∃ g, f = g + 1 := ⟨f - 1, by omega⟩
    obtain ⟨m1, c1, f1, g1⟩ := st52_l (N := N) (a := a) (k38 := k38) (k44 := fX12_setTurns_44 N k38 f) hN hi (by first | omega | (dsimp only; omega)) 16 0 mm (by first | omega | (dsimp only; omega)) A N (by first | omega | (dsimp only; omega))
    obtain ⟨m', c2, f2, g2⟩ := ih (a + 1) m1 (by first | omega | (dsimp only; omega)) (A.c (f1.mono (fun k j h => by omega))) f (by first | omega | (dsimp only; omega))
    refine ⟨m', ?_, (f1.mono (fun k j h => by omega)).tr (f2.mono (fun k j h => by omega)), fun e h1 h2 q hq => ?_⟩
    · unfold fX12_setTurns_44
      exact st_f (nI_nlt (show a ≤ 15 by omega) (by first | omega | (dsimp only; omega))) (c1.trans c2)
    · by_cases he : e = a
      · subst he; rw [f2.2 _ _ (by first | omega | (dsimp only; omega))]; exact g1 q (by first | omega | (dsimp only; omega)) hq
      · exact g2 e (by first | omega | (dsimp only; omega)) h2 q hq
def SMt (k j : Nat) : Prop := k = 191 ∨ (k = 175 ∧ (j = 33 ∨ j = 34))
def LVm (mm : Mm) (n d : Nat) (K W F : Nat → Nat) (i : Nat) : Prop := ∀ q, i ≤ q → q ≤ n → ∀ a b, a < 16 → b < 16 → rd mm 191 (256 * q + 16 * a + b) = iI (tvN K W F d n (n - q) a b)
theorem st38_l (hN : 100000 ≤ N) (hd9 : d ≤ 9) : ∀ c mm, c ≤ n → MS mm n K W F → rd mm 175 13 = nI d → LVm mm n d K W F c → ∀ f, c < f → ∃ m', fX12_setTurns_38 N f 175 (nI c - 1) mm = some ((), m') ∧ Fr SMt mm m' ∧ LVm m' n d K W F 0 := by
  intro c
  induction c with
  | zero =>
    intro mm hc C hd L f hf
    obtain ⟨f, rfl⟩ : ∃ g, f = g + 1 := ⟨f - 1, by omega⟩
    refine ⟨mm, ?_, Fr.rf, L⟩
    unfold fX12_setTurns_38
    exact st_t (by decide) rfl
  | succ c ih =>
    intro mm hc C hd L f hf
    obtain ⟨f, rfl⟩ : ∃ g, f = g + 1 := ⟨f - 1, by omega⟩
    have hn := C.2.1
    have A : MTt mm n d K W F c := ⟨C, hd, hd9, fun a b ha hb => L (c + 1) (by first | omega | (dsimp only; omega)) (by first | omega | (dsimp only; omega)) a b ha hb⟩
    obtain ⟨m2, c2, f2, g2⟩ := st44_l (N := N) (k38 := fX12_setTurns_38 N f) hN (by first | omega | (dsimp only; omega)) 16 0 mm (by first | omega | (dsimp only; omega)) A N (by first | omega | (dsimp only; omega))
    obtain ⟨m', c3, f3, g3⟩ := ih m2 (by first | omega | (dsimp only; omega)) (MS_c C (fun k j h => f2.2 _ _ (by first | omega | (dsimp only; omega)))) (by rw [f2.2 _ _ (by first | omega | (dsimp only; omega))]; exact hd) (fun q h1 h2 a b ha hb => by
      by_cases hq : q = c
      · subst hq; exact g2 a (by first | omega | (dsimp only; omega)) ha b hb
      · rw [f2.2 _ _ (by first | omega | (dsimp only; omega))]; exact L q (by first | omega | (dsimp only; omega)) h2 a b ha hb) f (by first | omega | (dsimp only; omega))
    refine ⟨m', ?_, (f2.mono (fun k j h => by unfold SMt; omega)).tr f3, g3⟩
    unfold fX12_setTurns_38
    rw [nI_pred]
    exact st_f (nI_pos (by first | omega | (dsimp only; omega))) (c2.trans c3)
theorem st2_l (hN : 100000 ≤ N) (hd9 : d ≤ 9) : ∀ c j mm, j + c = 256 → MS mm n K W F → rd mm 175 13 = nI d → (∀ q, q < j → rd mm 191 (256 * n + q) = 0) → ∀ f, c < f → ∃ m', fX12_setTurns_2 N f 175 (nI j) mm = some ((), m') ∧ Fr SMt mm m' ∧ LVm m' n d K W F 0 := by
  intro c
  induction c with
  | zero =>
    intro j mm hj C hd L f hf
    obtain ⟨f, rfl⟩ : ∃ g, f = g + 1 := ⟨f - 1, by omega⟩
    have hn := C.2.1
    obtain ⟨m', c1, f1, g1⟩ := st38_l (N := N) (n := n) hN hd9 n mm (Nat.le_refl _) C hd (fun q h1 h2 a b ha hb => by
      obtain rfl : q = n := by omega
      rw [Nat.add_assoc, L _ (by first | omega | (dsimp only; omega)), Nat.sub_self]; rfl) N (by first | omega | (dsimp only; omega))
    refine ⟨m', ?_, f1, g1⟩
    unfold fX12_setTurns_2
    refine st_t (nI_le (by first | omega | (dsimp only; omega)) (by first | omega | (dsimp only; omega))) ?_
    rw [C.1]; exact c1
  | succ c ih =>
    intro j mm hj C hd L f hf
    obtain ⟨f, rfl⟩ : ∃ g, f = g + 1 := ⟨f - 1, by omega⟩
    have hn := C.2.1
    obtain ⟨m', c1, f1, g1⟩ := ih (j + 1) (wr mm 191 (256 * n + j) 0) (by first | omega | (dsimp only; omega)) (MS_c C (fun k j h => rd_wr_k (by first | omega | (dsimp only; omega)))) (by rw [rd_wr_k (by first | omega | (dsimp only; omega))]; exact hd) (fun q hq => by
      by_cases hqj : q = j
      · subst hqj; rw [rd_wr_s]
      · rw [rd_wr_j (by first | omega | (dsimp only; omega))]; exact L q (by first | omega | (dsimp only; omega))) f (by first | omega | (dsimp only; omega))
    refine ⟨m', ?_, (fr_wr Fr.rf (Or.inl rfl)).tr f1, g1⟩
    unfold fX12_setTurns_2
    rw [C.1, show (256 : Int32) * nI n + nI j = nI (256 * n + j) by rw [show (256 : Int32) = nI 256 from rfl, nI_mul, nI_add]]
    simp only [LXm, nI_nat (show 256 * n + j < 2147483648 by omega)]
    refine st_f (nI_ge (by first | omega | (dsimp only; omega)) (by first | omega | (dsimp only; omega))) (st_k rfl (by first | omega | (dsimp only; omega)) (by first | omega | (dsimp only; omega)) (st_n ?_))
    rw [nI_1]; exact c1
theorem setT_e {mm : Mm} (hN : 100000 ≤ N) (hd9 : d ≤ 9) (M : MS mm n K W F) (hd : rd mm 175 13 = nI d) : ∃ m', fX12_setTurns N 175 mm = some ((), m') ∧ Fr SMt mm m' ∧ LVm m' n d K W F 0 :=
  st2_l hN hd9 256 0 mm (by first | omega | (dsimp only; omega)) M hd (fun q hq => by omega) N (by first | omega | (dsimp only; omega))
end MTv
/-- the table and asked() change -/
def PTb (k j : Nat) : Prop := k = 53 ∨ (k = 52 ∧ j = 2) ∨ (k = 0 ∧ j = 14) ∨ (k = 175 ∧ j = 2)
theorem Rel_tab {mm m2 : Mm} (h : Rel mm) (e : ∀ k j, Es k j = true → ¬ PTb k j → rd m2 k j = rd mm k j) (e2 : m2.2 = mm.2) (hk : rd m2 175 2 = rd m2 0 14) (T : RTT m2) : Rel m2 := by
  obtain ⟨g1, g2, ⟨n, g3, g4, g5⟩, g6, g7, -⟩ := h
  have hn := g3.1
  refine ⟨?_, ?_, ⟨n, ?_, ?_, ?_⟩, ?_, ?_, T⟩
  · exact RR_c g1 (fun i j z => e i j (eRR z) (by unfold PTb; omega))
  · exact RT_c g2 (fun i j z => e i j (eRT z) (by unfold PTb; omega))
  · exact RS_c g3 (fun i j z => e i j (eRS z) (by unfold PTb; omega))
  · exact RCm_c g4 hn (fun i j z => e i j (eRC z) (by unfold PTb; omega))
  · exact fun q hq => RKt_c (g5 q hq) hn hq (fun i j z => e i j (eRK z) (by unfold PTb; omega))
  · exact RF_asked g6 (fun i j z => e i j (eRF (by first | omega | (dsimp only; omega))) (by unfold PTb; omega)) e2 hk
  · exact RA_c g7 (fun i z => e i 0 (eRA z) (by unfold PTb; omega))
/-- scratch of the words of turns -/
def STb (k j : Nat) : Prop := SDf k j ∨ SMt k j ∨ (k = 0 ∧ j = 14) ∨ (k = 175 ∧ j = 2)
theorem Rel_stb {mm m2 : Mm} (h : Rel mm) (f : Fr STb mm m2) (hk : rd m2 175 2 = rd m2 0 14) (T : RTT m2) : Rel m2 := by
  refine Rel_tab h (fun k j e hp => f.2 k j (fun s => ?_)) f.1 hk T
  unfold PTb at hp
  unfold STb SDf SMt at s
  rcases (by omega : k = 54 ∨ (k = 52 ∧ j = 3) ∨ k = 191 ∨ (k = 175 ∧ j = 33) ∨ (k = 175 ∧ j = 34)) with rfl | ⟨rfl, rfl⟩ | rfl | ⟨rfl, rfl⟩ | ⟨rfl, rfl⟩
  · rcases es_cls e (by first | omega | (dsimp only; omega)) (by first | omega | (dsimp only; omega)) with z | z | z <;> omega
  · exact absurd e (by decide)
  · exact absurd (es_mod e (by first | omega | (dsimp only; omega))) (by first | omega | (dsimp only; omega))
  · exact absurd e (by decide)
  · exact absurd e (by decide)
