/-! pure: turns, from, answer -/
theorem inTurn_t {N a : Nat} {mm : Mm} (h : a < 16) : fX11_isInTurn N (nI a) mm = some (1, mm) := by
  unfold fX11_isInTurn
  exact st_f (nI_pos (by first | omega | (dsimp only; omega))) (st_f (nI_nlt (show a ≤ 15 by omega) (by first | omega | (dsimp only; omega))) rfl)
theorem inTurn_n {N : Nat} {a : Int32} {mm : Mm} (h : Out a 16) : fX11_isInTurn N a mm = some (0, mm) := by
  unfold fX11_isInTurn
  rcases h with h | ⟨j, h1, h2, rfl⟩
  · exact st_t h rfl
  · exact st_f (nI_pos h2) (st_t (nI_lt (show 15 < j by omega) h2) rfl)
theorem areYet_t {N a b : Nat} {mm : Mm} (ha : a < 16) (hb : b < 16) : fX12_areYet N (nI a) (nI b) mm = some (1, mm) := by
  unfold fX12_areYet
  exact st_b (in_n (n := 16) rfl ha (by first | omega | (dsimp only; omega))) (st_f (by decide) (st_b (in_n (n := 16) rfl hb (by first | omega | (dsimp only; omega))) (st_f (by decide) rfl)))
theorem areYet_1 {N : Nat} {a b : Int32} {mm : Mm} (ha : Out a 16) : fX12_areYet N a b mm = some (0, mm) := by
  unfold fX12_areYet
  exact st_b (in_o (n := 16) rfl ha (by first | omega | (dsimp only; omega))) (st_t rfl rfl)
theorem areYet_2 {N a : Nat} {b : Int32} {mm : Mm} (ha : a < 16) (hb : Out b 16) : fX12_areYet N (nI a) b mm = some (0, mm) := by
  unfold fX12_areYet
  exact st_b (in_n (n := 16) rfl ha (by first | omega | (dsimp only; omega))) (st_f (by decide) (st_b (in_o (n := 16) rfl hb (by first | omega | (dsimp only; omega))) (st_t rfl rfl)))
theorem first_l {N n d s t : Nat} {K W F : Nat → Nat} {V : Int} {p : Nat} {mm0 : Mm} (hN : 100000 ≤ N) (hn0 : 0 < n) (hs : s < 16) (ht : t < 16) (A : AFt mm0 n d K W F 0) (hM : IsMax (fun x => mnO (vlN K W F d n 0 s t x) t) s V p) : ∀ c x mm, x + c = p → Fr (fun k j => k = 52 ∧ j = 3) mm0 mm → ∀ f, c < f → ∃ m', fX10_firstLaid_41 N f 52 (nI s) (nI t) 17 (iI V) (nI x) mm = some (nI p, m') ∧ Fr (fun k j => k = 52 ∧ j = 3) mm m' := by
  have hn := A.1.2.1
  have hW := CS_W A.1
  have hmb : ∀ y, -200 ≤ mnO (vlN K W F d n 0 s t y) t ∧ mnO (vlN K W F d n 0 s t y) t ≤ 200 := fun y => mn_b (fun q => vl_b hW hn hn0)
  obtain ⟨h1, h2, h3, h4⟩ := hM
  dsimp only at h2 h3 h4
  have hVb := hmb p
  intro c
  induction c with
  | zero =>
    intro x mm hx hF f hf
    obtain ⟨f, rfl⟩ : ∃ g, f = g + 1 := ⟨f - 1, by omega⟩
    obtain rfl : x = p := by omega
    obtain ⟨m1, B, q, c1, f1, -, g1⟩ := after_e (N := N) (i := 0) (a := s - x) (b := t) (x := x) hN hn0 (by first | omega | (dsimp only; omega)) ht (by first | omega | (dsimp only; omega)) (A.c (m2 := mm) (hF.mono (fun k j h => Or.inl h)))
    have hB : B = V := by rw [← h2]; exact g1.v.symm
    subst hB
    refine ⟨m1, ?_, f1⟩
    unfold fX10_firstLaid_41
    refine st_f (nI_nlt (by first | omega | (dsimp only; omega)) (by first | omega | (dsimp only; omega))) ?_
    rw [nI_sub (by first | omega | (dsimp only; omega))]
    exact st_b c1 (st_t rfl rfl)
  | succ c ih =>
    intro x mm hx hF f hf
    obtain ⟨f, rfl⟩ : ∃ g, f = g + 1 := ⟨f - 1, by omega⟩
    obtain ⟨m1, B, q, c1, f1, -, g1⟩ := after_e (N := N) (i := 0) (a := s - x) (b := t) (x := x) hN hn0 (by first | omega | (dsimp only; omega)) ht (by first | omega | (dsimp only; omega)) (A.c (m2 := mm) (hF.mono (fun k j h => Or.inl h)))
    have hB : mnO (vlN K W F d n 0 s t x) t = B := g1.v
    have hlt := h4 x (by first | omega | (dsimp only; omega))
    have hBb := hmb x
    obtain ⟨m', c2, f2⟩ := ih (x + 1) m1 (by first | omega | (dsimp only; omega)) (hF.tr f1) f (by first | omega | (dsimp only; omega))
    refine ⟨m', ?_, f1.tr f2⟩
    unfold fX10_firstLaid_41
    refine st_f (nI_nlt (by first | omega | (dsimp only; omega)) (by first | omega | (dsimp only; omega))) ?_
    rw [nI_sub (by first | omega | (dsimp only; omega))]
    refine st_b c1 (st_f (fun e => ?_) ?_)
    · have := (iI_eq (by first | omega | (dsimp only; omega)) (by first | omega | (dsimp only; omega)) (by first | omega | (dsimp only; omega)) (by first | omega | (dsimp only; omega))).mp e; omega
    · rw [nI_1]; exact c2
theorem ok_23 {N : Nat} (hN : 100000 ≤ N) : OK_23 N Rel := by
  intro mm h
  obtain ⟨n, g3, -⟩ := h.2.2.1
  obtain ⟨C, M⟩ := RS_CS g3
  have hn := C.2.1
  obtain ⟨n', K', W', F', d, s, t, C', -, hd, hd', hd9, hs, hs', hs40, ht, ht', ht40⟩ := Rel_data h
  have z0 : (0 : Int32).toNatClampNeg = 0 := rfl
  have z1 : (1 : Int32).toNatClampNeg = 1 := rfl
  by_cases hs15 : 15 < s
  · refine ⟨-6, mm, mm, ?_, ?_, h⟩
    · unfold fX11_turns
      simp only [LXa, z0, z1, hs, ht]
      exact st_g (by decide) (st_n (st_g (by decide) (st_n (st_t (nI_lt hs15 (by first | omega | (dsimp only; omega))) rfl))))
    · unfold fX12_turns
      simp only [LXm, z0, z1, hs', ht']
      exact st_g (by decide) (st_t (nI_lt hs15 (by first | omega | (dsimp only; omega))) rfl)
  by_cases ht15 : 15 < t
  · refine ⟨-6, mm, mm, ?_, ?_, h⟩
    · unfold fX11_turns
      simp only [LXa, z0, z1, hs, ht]
      exact st_g (by decide) (st_n (st_g (by decide) (st_n (st_f (nI_nlt (by first | omega | (dsimp only; omega)) (by first | omega | (dsimp only; omega))) (st_f (nI_ge ht15 (by first | omega | (dsimp only; omega))) rfl)))))
    · unfold fX12_turns
      simp only [LXm, z0, z1, hs', ht']
      exact st_g (by decide) (st_f (nI_nlt (by first | omega | (dsimp only; omega)) (by first | omega | (dsimp only; omega))) (st_g (by decide) (st_f (nI_ge ht15 (by first | omega | (dsimp only; omega))) rfl)))
  by_cases hn0 : n = 0
  · subst hn0
    refine ⟨-9, mm, mm, ?_, ?_, h⟩
    · unfold fX11_turns
      simp only [LXa, z0, z1, hs, ht]
      exact st_g (by decide) (st_n (st_g (by decide) (st_n (st_f (nI_nlt (by first | omega | (dsimp only; omega)) (by first | omega | (dsimp only; omega))) (st_t (nI_le (by first | omega | (dsimp only; omega)) (by first | omega | (dsimp only; omega))) (st_t C.1 rfl))))))
    · unfold fX12_turns
      simp only [LXm, z0, z1, hs', ht']
      exact st_g (by decide) (st_f (nI_nlt (by first | omega | (dsimp only; omega)) (by first | omega | (dsimp only; omega))) (st_g (by decide) (st_t (nI_le (by first | omega | (dsimp only; omega)) (by first | omega | (dsimp only; omega))) (st_t M.1 rfl))))
  -- the class
  obtain ⟨m1, c1, f1, i1, L1⟩ := fill_e (N := N) hN hd9 C hd h.2.2.2.2.2
  have T1 : RTT m1 := RTT_f C hd hd9 (fun k j e => f1.2 _ _ (by unfold SDf; omega)) i1 L1
  generalize hK : uK mm = K at C M L1
  generalize hW : uW mm = W at C M L1
  generalize hF : uF mm = F at C M L1
  -- the model's best first
  have key : ∀ mq, Fr STb mm mq → ∃ m' V p, fX12_setTurns N 175 mq = some ((), m') ∧ Fr SMt mq m' ∧ ∃ m3, fX12_laidIn N 175 0 (nI s) (nI t) m' = some (iI V, m3) ∧ Fr (fun k j => k = 175 ∧ (j = 33 ∨ j = 34)) m' m3 ∧ rd m3 175 34 = nI p ∧ IsMax (fun x => mnO (vlN K W F d n 0 s t x) t) s V p := by
    intro mq fq
    have Mq : MS mq n K W F := MS_c M (fun k j e => fq.2 _ _ (by unfold STb SDf SMt; omega))
    have hdq : rd mq 175 13 = nI d := by rw [fq.2 _ _ (by unfold STb SDf SMt; omega)]; exact hd'
    obtain ⟨m', c2, f2, L2⟩ := setT_e (N := N) hN hd9 Mq hdq
    have A : MTt m' n d K W F 0 := ⟨MS_c Mq (fun k j e => f2.2 _ _ (by unfold SMt; omega)), by rw [f2.2 _ _ (by unfold SMt; omega)]; exact hdq, hd9, fun a b ha hb => L2 1 (by first | omega | (dsimp only; omega)) (by first | omega | (dsimp only; omega)) a b ha hb⟩
    obtain ⟨m3, V, p, c3, f3, g3, q3⟩ := laid_e (N := N) (i := 0) hN (by first | omega | (dsimp only; omega)) (show s < 16 by omega) (show t < 16 by omega) A
    exact ⟨m', V, p, c2, f2, m3, c3, f3, g3, q3⟩
  obtain ⟨-, V, p, -, -, -, -, -, -, hMax⟩ := key mm Fr.rf
  have hVt : V = tvN K W F d n n s t := by
    have := hMax.v
    rw [← this]
    exact (tv_vl (K := K) (W := W) (F := F) (d := d) (n := n) (i := 0) (by first | omega | (dsimp only; omega))).symm
  have C1 : CS m1 n K W F := CS_c C (fun k j e => f1.2 _ _ (by unfold SDf; omega))
  have C2 : CS (wr m1 0 14 (iI V)) n K W F := CS_c C1 (fun k j e => rd_wr_k (by first | omega | (dsimp only; omega)))
  obtain ⟨m2, c2, f2, g2⟩ := cprep_e (N := N) (i := 0) (mm := wr m1 0 14 (iI V)) hN hd9 (by first | omega | (dsimp only; omega)) C2
  have A2 : AFt m2 n d K W F 0 := ⟨CS_c C2 (fun k j e => f2.2 _ _ (by first | omega | (dsimp only; omega))), g2, fun a b ha hb => by rw [f2.2 _ _ (by first | omega | (dsimp only; omega)), rd_wr_k (by first | omega | (dsimp only; omega))]; exact L1 1 (by first | omega | (dsimp only; omega)) (by first | omega | (dsimp only; omega)) a b ha hb⟩
  obtain ⟨m3, c3, f3⟩ := first_l (N := N) hN (by first | omega | (dsimp only; omega)) (show s < 16 by omega) (show t < 16 by omega) A2 hMax p 0 m2 (by first | omega | (dsimp only; omega)) Fr.rf N (by have := hMax.1; omega)
  have F3 : Fr STb mm m3 := (fr_wr (f1.mono (T := STb) (fun k j e => Or.inl e)) (Or.inr (Or.inr (Or.inl ⟨rfl, rfl⟩)))).tr ((f2.mono (fun k j e => by unfold STb SDf; omega)).tr (f3.mono (fun k j e => by unfold STb SDf; omega)))
  obtain ⟨m4, V', p', c4, f4, m5, c5, f5, g5, hMax'⟩ := key m3 F3
  obtain ⟨rfl, rfl⟩ := hMax'.u hMax
  have F5 : Fr STb m3 (wr m5 175 2 (iI V')) := fr_wr ((f4.mono (fun k j e => Or.inr (Or.inl e))).tr (f5.mono (fun k j e => Or.inr (Or.inl (Or.inr e))))) (Or.inr (Or.inr (Or.inr ⟨rfl, rfl⟩)))
  have h14 : rd m3 0 14 = iI V' := by rw [f3.2 _ _ (by first | omega | (dsimp only; omega)), f2.2 _ _ (by first | omega | (dsimp only; omega)), rd_wr_s]
  refine ⟨nI p', m3, wr m5 175 2 (iI V'), ?_, ?_, Rel_stb h (F3.tr F5) ?_ ?_⟩
  · unfold fX11_turns
    simp only [LXa, z0, z1, hs, ht]
    refine st_g (by decide) (st_n (st_g (by decide) (st_n (st_f (nI_nlt (by first | omega | (dsimp only; omega)) (by first | omega | (dsimp only; omega))) (st_t (nI_le (by first | omega | (dsimp only; omega)) (by first | omega | (dsimp only; omega))) (st_f (by rw [C.1]; exact nI_ne0 (by first | omega | (dsimp only; omega)) (by first | omega | (dsimp only; omega))) ?_))))))
    have hv : fX10_valueOf N 52 3 0 (nI s) (nI t) mm = some (iI V', m1) := by
      unfold fX10_valueOf
      refine st_b c1 (st_b (value_e (i := 0) (by first | omega | (dsimp only; omega)) (by first | omega | (dsimp only; omega)) (by first | omega | (dsimp only; omega))) ?_)
      rw [L1 0 (by first | omega | (dsimp only; omega)) (by first | omega | (dsimp only; omega)) s t (by first | omega | (dsimp only; omega)) (by first | omega | (dsimp only; omega)), hVt]; rfl
    refine st_b hv (st_n ?_)
    have hfl : fX10_firstLaid N 52 3 (nI s) (nI t) (wr m1 0 14 (iI V')) = some (nI p', m3) := by
      unfold fX10_firstLaid
      refine st_b (suitOf_t (i := 0) C2 (by first | omega | (dsimp only; omega))) (st_c ?_)
      have hfi : fX10_fill N 52 3 (wr m1 0 14 (iI V')) = some ((), wr m1 0 14 (iI V')) := by
        unfold fX10_fill
        exact st_f (by rw [rd_wr_k (by first | omega | (dsimp only; omega)), i1]; decide) rfl
      refine st_b hfi ?_
      rw [rd_wr_k (by first | omega | (dsimp only; omega)), f1.2 3 6 (by unfold SDf; omega), hd]
      refine st_b c2 (st_b (value_e (i := 0) (by first | omega | (dsimp only; omega)) (by first | omega | (dsimp only; omega)) (by first | omega | (dsimp only; omega))) ?_)
      rw [f2.2 53 _ (by first | omega | (dsimp only; omega)), rd_wr_k (by first | omega | (dsimp only; omega)), L1 0 (by first | omega | (dsimp only; omega)) (by first | omega | (dsimp only; omega)) s t (by first | omega | (dsimp only; omega)) (by first | omega | (dsimp only; omega)), Nat.sub_zero, ← hVt]
      exact c3
    exact st_b hfl rfl
  · unfold fX12_turns
    have e0 : rd m3 183 0 = nI s := by rw [F3.2 _ _ (by unfold STb SDf SMt; omega)]; exact hs'
    have e1 : rd m3 183 1 = nI t := by rw [F3.2 _ _ (by unfold STb SDf SMt; omega)]; exact ht'
    have e2 : rd m4 183 0 = nI s := by rw [f4.2 _ _ (by unfold SMt; omega)]; exact e0
    have e3 : rd m4 183 1 = nI t := by rw [f4.2 _ _ (by unfold SMt; omega)]; exact e1
    have e4 : rd m3 175 10 = nI n := by rw [F3.2 _ _ (by unfold STb SDf SMt; omega)]; exact M.1
    simp only [LXm, z0, z1]
    refine st_g (by decide) (st_f (by rw [e0]; exact nI_nlt (by first | omega | (dsimp only; omega)) (by first | omega | (dsimp only; omega))) (st_g (by decide) (st_t (by rw [e1]; exact nI_le (by first | omega | (dsimp only; omega)) (by first | omega | (dsimp only; omega))) (st_f (by rw [e4]; exact nI_ne0 (by first | omega | (dsimp only; omega)) (by first | omega | (dsimp only; omega))) (st_b c4 (st_g (by decide) (st_g (by decide) ?_)))))))
    rw [e2, e3]
    refine st_b c5 ?_
    rw [g5]
    rfl
  · rw [rd_wr_s, rd_wr_k (by first | omega | (dsimp only; omega)), f5.2 _ _ (by first | omega | (dsimp only; omega)), f4.2 _ _ (by unfold SMt; omega), h14]
  · refine RTT_c T1 (fun k j e => ?_)
    rw [rd_wr_k (by first | omega | (dsimp only; omega)), f5.2 _ _ (by first | omega | (dsimp only; omega)), f4.2 _ _ (by unfold SMt; omega), f3.2 _ _ (by first | omega | (dsimp only; omega)), f2.2 _ _ (by first | omega | (dsimp only; omega)), rd_wr_k (by first | omega | (dsimp only; omega))]
theorem ok_24 {N : Nat} (hN : 100000 ≤ N) : OK_24 N Rel := by
  intro a1 a2 a3 mm h
  obtain ⟨n, g3, -⟩ := h.2.2.1
  obtain ⟨C, M⟩ := RS_CS g3
  have hn := C.2.1
  obtain ⟨n', K', W', F', d, s, t, C', -, hd, hd', hd9, -⟩ := Rel_data h
  rcases rng a1 (n + 1) with ⟨i, hi, -, rfl⟩ | hb
  rotate_left
  · refine ⟨-1, mm, mm, ?_, ?_, h⟩
    · unfold fX11_from
      simp only [LXa]
      rcases hb with hb | ⟨j, h1, h2, rfl⟩
      · exact st_t hb rfl
      · exact st_f (nI_pos h2) (st_t (by rw [C.1]; exact nI_lt (by first | omega | (dsimp only; omega)) h2) rfl)
    · unfold fX12_from
      rw [M.1]
      exact st_b (in_o (n := n + 1) (by rw [nI_pred]) hb (by first | omega | (dsimp only; omega))) (st_t rfl rfl)
  have ci : ∀ {r : Option (Int32 × Mm)}, (bd2 (fX11_isInTurn N a2 mm) fun x3 m4 => if x3 = 0 then (some ((-1), m4)) else (bd2 (fX11_isInTurn N a3 m4) fun x7 m8 => if x7 = 0 then (some ((-1), m8)) else (bd2 (fX10_valueOf N 52 3 (nI i) a2 a3 m8) fun x11 m12 => bd2 (fX11_told N 0 x11 m12) fun x14 m15 => some (x14, m15)))) = r → fX11_from N 0 (nI i) a2 a3 mm = r := by
    intro r hr
    unfold fX11_from
    simp only [LXa]
    exact st_f (nI_pos (by first | omega | (dsimp only; omega))) (st_f (by rw [C.1]; exact nI_nlt (by first | omega | (dsimp only; omega)) (by first | omega | (dsimp only; omega))) hr)
  have mi : ∀ mq, rd mq 175 10 = nI n → fX12_in N (nI i) 0 (rd mq 175 10) mq = some (1, mq) := fun mq e => in_n (n := n + 1) (by rw [e, nI_pred]) hi (by first | omega | (dsimp only; omega))
  rcases rng a2 16 with ⟨a, ha, -, rfl⟩ | hb
  rotate_left
  · refine ⟨-1, mm, mm, ci (st_b (inTurn_n hb) (st_t rfl rfl)), ?_, h⟩
    unfold fX12_from
    exact st_b (mi mm M.1) (st_f (by decide) (st_b (areYet_1 hb) (st_t rfl rfl)))
  rcases rng a3 16 with ⟨b, hb, -, rfl⟩ | hb
  rotate_left
  · refine ⟨-1, mm, mm, ci (st_b (inTurn_t ha) (st_f (by decide) (st_b (inTurn_n hb) (st_t rfl rfl)))), ?_, h⟩
    unfold fX12_from
    exact st_b (mi mm M.1) (st_f (by decide) (st_b (areYet_2 ha hb) (st_t rfl rfl)))
  obtain ⟨m1, c1, f1, i1, L1⟩ := fill_e (N := N) hN hd9 C hd h.2.2.2.2.2
  have T1 : RTT m1 := RTT_f C hd hd9 (fun k j e => f1.2 _ _ (by unfold SDf; omega)) i1 L1
  generalize hK : uK mm = K at C M L1
  generalize hW : uW mm = W at C M L1
  generalize hF : uF mm = F at C M L1
  have hv : rd m1 53 ((i * 16 + a) * 16 + b) = iI (tvN K W F d n (n - i) a b) := L1 i (by first | omega | (dsimp only; omega)) (by first | omega | (dsimp only; omega)) a b ha hb
  generalize iI (tvN K W F d n (n - i) a b) = V at hv
  have M1 : MS (wr m1 0 14 (rd m1 53 ((i * 16 + a) * 16 + b))) n K W F := MS_c M (fun k j e => by rw [rd_wr_k (by first | omega | (dsimp only; omega)), f1.2 _ _ (by unfold SDf; omega)])
  obtain ⟨m2, c2, f2, L2⟩ := setT_e (N := N) (d := d) hN hd9 M1 (by rw [rd_wr_k (by first | omega | (dsimp only; omega)), f1.2 _ _ (by unfold SDf; omega)]; exact hd')
  have hv2 : rd m2 191 (256 * i + 16 * a + b) = rd m1 53 ((i * 16 + a) * 16 + b) := by
    rw [L2 i (by first | omega | (dsimp only; omega)) (by first | omega | (dsimp only; omega)) a b ha hb, L1 i (by first | omega | (dsimp only; omega)) (by first | omega | (dsimp only; omega)) a b ha hb]
  refine ⟨1, wr m1 0 14 (rd m1 53 ((i * 16 + a) * 16 + b)), wr m2 175 2 (rd m1 53 ((i * 16 + a) * 16 + b)), ci (st_b (inTurn_t ha) (st_f (by decide) (st_b (inTurn_t hb) (st_f (by decide) ?_)))), ?_, Rel_stb h ?_ ?_ ?_⟩
  · have hvo : fX10_valueOf N 52 3 (nI i) (nI a) (nI b) mm = some (rd m1 53 ((i * 16 + a) * 16 + b), m1) := by
      unfold fX10_valueOf
      exact st_b c1 (st_b (value_e (by first | omega | (dsimp only; omega)) ha hb) rfl)
    refine st_b hvo ?_
    unfold fX11_told
    rfl
  · unfold fX12_from
    refine st_b (mi _ M1.1) (st_f (by decide) (st_b (areYet_t ha hb) (st_f (by decide) (st_b c2 (st_b (turnAt_e (by first | omega | (dsimp only; omega)) ha hb) ?_)))))
    rw [hv2]
    rfl
  · refine (fr_wr (f1.mono (T := STb) (fun k j e => Or.inl e)) (Or.inr (Or.inr (Or.inl ⟨rfl, rfl⟩)))).tr (fr_wr (f2.mono (T := STb) (fun k j e => Or.inr (Or.inl e))) (Or.inr (Or.inr (Or.inr ⟨rfl, rfl⟩))))
  · rw [rd_wr_s, rd_wr_k (by first | omega | (dsimp only; omega)), f2.2 _ _ (by unfold SMt; omega), rd_wr_s]
  · refine RTT_c T1 (fun k j e => ?_)
    rw [rd_wr_k (by first | omega | (dsimp only; omega)), f2.2 _ _ (by unfold SMt; omega), rd_wr_k (by first | omega | (dsimp only; omega))]
theorem ok_25 {N : Nat} (hN : 100000 ≤ N) : OK_25 N Rel := by
  intro a1 a2 a3 a4 mm h
  obtain ⟨n, g3, -⟩ := h.2.2.1
  obtain ⟨C, M⟩ := RS_CS g3
  have hn := C.2.1
  obtain ⟨n', K', W', F', d, s, t, C', -, hd, hd', hd9, -⟩ := Rel_data h
  rcases rng a1 n with ⟨i, hi, -, rfl⟩ | hb
  rotate_left
  · refine ⟨-1, mm, mm, ?_, ?_, h⟩
    · unfold fX11_answer
      exact st_b (suitOf_n C hb) (st_c0 rfl)
    · unfold fX12_answer
      exact st_b (isSuit_n M hb) (st_t rfl rfl)
  rcases rng a2 16 with ⟨a, ha, -, rfl⟩ | hb
  rotate_left
  · refine ⟨-1, mm, mm, ?_, ?_, h⟩
    · unfold fX11_answer
      exact st_b (suitOf_t C hi) (st_c (st_b (inTurn_n hb) (st_t rfl rfl)))
    · unfold fX12_answer
      exact st_b (isSuit_t M hi) (st_f (by decide) (st_b (areYet_1 hb) (st_t rfl rfl)))
  rcases rng a3 16 with ⟨b, hb, -, rfl⟩ | hb
  rotate_left
  · refine ⟨-1, mm, mm, ?_, ?_, h⟩
    · unfold fX11_answer
      exact st_b (suitOf_t C hi) (st_c (st_b (inTurn_t ha) (st_f (by decide) (st_b (inTurn_n hb) (st_t rfl rfl)))))
    · unfold fX12_answer
      exact st_b (isSuit_t M hi) (st_f (by decide) (st_b (areYet_2 ha hb) (st_t rfl rfl)))
  rcases rng a4 (a + 1) with ⟨x, hx, -, rfl⟩ | hb4
  rotate_left
  · refine ⟨-1, mm, mm, ?_, ?_, h⟩
    · unfold fX11_answer
      refine st_b (suitOf_t C hi) (st_c (st_b (inTurn_t ha) (st_f (by decide) (st_b (inTurn_t hb) (st_f (by decide) ?_)))))
      rcases hb4 with hb4 | ⟨j, h1, h2, rfl⟩
      · exact st_t hb4 rfl
      · exact st_f (nI_pos h2) (st_f (nI_ge (by first | omega | (dsimp only; omega)) h2) rfl)
    · unfold fX12_answer
      exact st_b (isSuit_t M hi) (st_f (by decide) (st_b (areYet_t ha hb) (st_f (by decide) (st_b (in_o (n := a + 1) (by rw [nI_pred]) hb4 (by first | omega | (dsimp only; omega))) (st_t rfl rfl)))))
  obtain ⟨m1, c1, f1, i1, L1⟩ := fill_e (N := N) hN hd9 C hd h.2.2.2.2.2
  have T1 : RTT m1 := RTT_f C hd hd9 (fun k j e => f1.2 _ _ (by unfold SDf; omega)) i1 L1
  generalize hK : uK mm = K at C M L1
  generalize hW : uW mm = W at C M L1
  generalize hF : uF mm = F at C M L1
  have C1 : CS m1 n K W F := CS_c C (fun k j e => f1.2 _ _ (by unfold SDf; omega))
  obtain ⟨m2, c2, f2, g2⟩ := cprep_e (N := N) (i := i) (mm := m1) hN hd9 hi C1
  have A2 : AFt m2 n d K W F i := ⟨CS_c C1 (fun k j e => f2.2 _ _ (by first | omega | (dsimp only; omega))), g2, fun a b ha hb => by rw [f2.2 _ _ (by first | omega | (dsimp only; omega))]; exact L1 (i + 1) (by first | omega | (dsimp only; omega)) (by first | omega | (dsimp only; omega)) a b ha hb⟩
  obtain ⟨m3, V, p, c3, f3, g3', q3⟩ := after_e (N := N) (a := a - x) (b := b) (x := x) hN hi (by first | omega | (dsimp only; omega)) hb (by first | omega | (dsimp only; omega)) A2
  have F3 : Fr STb mm m3 := (f1.mono (T := STb) (fun k j e => Or.inl e)).tr ((f2.mono (fun k j e => by unfold STb SDf; omega)).tr (f3.mono (fun k j e => by unfold STb SDf; omega)))
  have M3 : MS m3 n K W F := MS_c M (fun k j e => F3.2 _ _ (by unfold STb SDf SMt; omega))
  obtain ⟨m4, c4, f4, L4⟩ := setT_e (N := N) (d := d) hN hd9 M3 (by rw [F3.2 _ _ (by unfold STb SDf SMt; omega)]; exact hd')
  have A4 : MTt m4 n d K W F i := ⟨MS_c M3 (fun k j e => f4.2 _ _ (by unfold SMt; omega)), by rw [f4.2 _ _ (by unfold SMt; omega), F3.2 _ _ (by unfold STb SDf SMt; omega)]; exact hd', hd9, fun a b ha hb => L4 (i + 1) (by first | omega | (dsimp only; omega)) (by first | omega | (dsimp only; omega)) a b ha hb⟩
  obtain ⟨m5, V', p', c5, f5, g5, q5⟩ := answ_e (N := N) (x := x) hN hi (by first | omega | (dsimp only; omega)) ha hb A4
  obtain ⟨rfl, rfl⟩ := q5.u q3
  have F5 : Fr STb m3 m5 := (f4.mono (T := STb) (fun k j e => Or.inr (Or.inl e))).tr (f5.mono (fun k j e => Or.inr (Or.inl (Or.inr ⟨e.1, Or.inl e.2⟩))))
  refine ⟨nI p', m3, m5, ?_, ?_, Rel_stb h (F3.tr F5) ?_ ?_⟩
  · unfold fX11_answer
    refine st_b (suitOf_t C hi) (st_c (st_b (inTurn_t ha) (st_f (by decide) (st_b (inTurn_t hb) (st_f (by decide) (st_f (nI_pos (by first | omega | (dsimp only; omega))) (st_t (nI_le (by first | omega | (dsimp only; omega)) (by first | omega | (dsimp only; omega))) ?_)))))))
    have hat : fX10_answerTo N 52 3 (nI i) (nI a) (nI b) (nI x) mm = some (nI p', m3) := by
      unfold fX10_answerTo
      refine st_b (suitOf_t C hi) (st_c (st_b c1 ?_))
      rw [f1.2 3 6 (by unfold SDf; omega), hd]
      refine st_b c2 ?_
      rw [nI_sub (by first | omega | (dsimp only; omega))]
      refine st_b c3 ?_
      rw [g3']
    exact st_b hat rfl
  · unfold fX12_answer
    refine st_b (isSuit_t M3 hi) (st_f (by decide) (st_b (areYet_t ha hb) (st_f (by decide) (st_b (in_n (n := a + 1) (by rw [nI_pred]) hx (by first | omega | (dsimp only; omega))) (st_f (by decide) (st_b c4 (st_b c5 ?_)))))))
    rw [g5]
  · have z : ∀ k j, (k = 175 ∧ j = 2) ∨ (k = 0 ∧ j = 14) → rd m5 k j = rd mm k j := fun k j e => by
      rw [f5.2 _ _ (by first | omega | (dsimp only; omega)), f4.2 _ _ (by unfold SMt; omega), f3.2 _ _ (by first | omega | (dsimp only; omega)), f2.2 _ _ (by first | omega | (dsimp only; omega)), f1.2 _ _ (by unfold SDf; omega)]
    rw [z 175 2 (Or.inl ⟨rfl, rfl⟩), z 0 14 (Or.inr ⟨rfl, rfl⟩)]
    exact h.2.2.2.1.2.2.1
  · refine RTT_c T1 (fun k j e => ?_)
    rw [f5.2 _ _ (by first | omega | (dsimp only; omega)), f4.2 _ _ (by unfold SMt; omega), f3.2 _ _ (by first | omega | (dsimp only; omega)), f2.2 _ _ (by first | omega | (dsimp only; omega))]
