set_option maxRecDepth 100000 in
set_option maxHeartbeats 8000000 in
theorem whole_of {p : Program} {e : Env} {s : State} {m : MethodId} {below : List Frame} {meth : Method} {c : Code} (l : Launch) {b L : Nat} {xs : Nat → Int32} (hL : L ≤ 3072) (C0 : lw_At p s m meth c b L xs) {N : Nat} {Rel : Mm → Prop} (hOK : OKall N Rel) (hR0 : Rel mm0) : W p l e room_1 s m #[Value.ref b] below meth c s.heap [] 0 0 (lw_Z below #[Value.ref b] s) (entryFrame m ([Value.ref b] : List Value).toArray 4) := by
  obtain ⟨hx, hb, hr, hml, hown, hts, hX, hbl, hlocks, hgv⟩ := id C0
  have htw : ∀ w ∈ wT, w.before #[Value.ref b] s = true := fun w hw => hts w (List.mem_filter.mp hw).1
  have hA : ∀ q : Nat, s.heap.size ≤ q → (fun q : Nat => s.heap.size ≤ q) q := fun _ h => h
  obtain ⟨c0, i0, hKn0⟩ := u_known (C := RX0) (T := TX0) (N := 9) (n := 9) htw inX0 (htw _ q_29)
  obtain ⟨c1, i1, hKn1⟩ := u_known (C := RX1) (T := TX1) (N := 3) (n := 3) htw inX1 (htw _ q_211)
  obtain ⟨c2, i2, hKn2⟩ := u_known (C := RX2) (T := TX2) (N := 6) (n := 6) htw inX2 (htw _ q_264)
  obtain ⟨c3, i3, hKn3⟩ := u_known (C := RX3) (T := TX3) (N := 3) (n := 3) htw inX3 (htw _ q_159)
  obtain ⟨c4, i4, hKn4⟩ := u_known (C := RX4) (T := TX4) (N := 3) (n := 3) htw inX4 (htw _ q_227)
  obtain ⟨c5, i5, hKn5⟩ := u_known (C := RX5) (T := TX5) (N := 6) (n := 6) htw inX5 (htw _ q_104)
  obtain ⟨c6, i6, hKn6⟩ := u_known (C := RX6) (T := TX6) (N := 2) (n := 2) htw inX6 (htw _ q_293)
  obtain ⟨c7, i7, hKn7⟩ := u_known (C := RX7) (T := TX7) (N := 5) (n := 5) htw inX7 (htw _ q_134)
  obtain ⟨c8, i8, hKn8⟩ := u_known (C := RX8) (T := TX8) (N := 8) (n := 8) htw inX8 (htw _ q_177)
  obtain ⟨c9, i9, hKn9⟩ := u_known (C := RX9) (T := TX9) (N := 3) (n := 3) htw inX9 (htw _ q_38)
  obtain ⟨c10, i10, hKn10⟩ := u_known (C := RX10) (T := TX10) (N := 4) (n := 4) htw inX10 (htw _ q_245)
  obtain ⟨c11, i11, hKn11⟩ := u_known (C := RX11) (T := TX11) (N := 17) (n := 17) htw inX11 (htw _ q_19)
  obtain ⟨c12, i12, hKn12⟩ := u_known (C := RX12) (T := TX12) (N := 42) (n := 42) htw inX12 (htw _ q_1011)
  obtain ⟨dC, dI, hKc⟩ : ∃ (dC : Nat → ClassId) (dI : Nat → Nat → Nat), ∀ (k : Nat) (q : vw_C), vwCl[k]? = some q → u_Kn s q.1 q.2.1 q.2.2 (dC k) (dI k) := by
    refine ⟨fun k => [c0, c1, c2, c3, c4, c5, c6, c7, c8, c9, c10, c11, c12].getD k 0, fun k => [i0, i1, i2, i3, i4, i5, i6, i7, i8, i9, i10, i11, i12].getD k (fun _ => 0), ?_⟩
    intro k q hq
    have hk : k < 13 := (List.getElem?_eq_some_iff.mp hq).1
    rcases (by omega : k = 0 ∨ k = 1 ∨ k = 2 ∨ k = 3 ∨ k = 4 ∨ k = 5 ∨ k = 6 ∨ k = 7 ∨ k = 8 ∨ k = 9 ∨ k = 10 ∨ k = 11 ∨ k = 12) with rfl | rfl | rfl | rfl | rfl | rfl | rfl | rfl | rfl | rfl | rfl | rfl | rfl
    · cases hq; exact hKn0
    · cases hq; exact hKn1
    · cases hq; exact hKn2
    · cases hq; exact hKn3
    · cases hq; exact hKn4
    · cases hq; exact hKn5
    · cases hq; exact hKn6
    · cases hq; exact hKn7
    · cases hq; exact hKn8
    · cases hq; exact hKn9
    · cases hq; exact hKn10
    · cases hq; exact hKn11
    · cases hq; exact hKn12
  have hAOI : AOI s := hts (.arrayOver (.array .int)) (List.mem_append_right _ (List.mem_of_getElem? (i := 37) (by decide +kernel)))
  have hORow : va_AO "HeavyFiles$Row" s := va_AO.of (hts (.arrayOver (.object "HeavyFiles$Row")) (List.mem_append_right _ (List.mem_of_getElem? (i := 27) (by decide +kernel))))
  have hOCourt : va_AO "HeavyFiles$Court" s := va_AO.of (hts (.arrayOver (.object "HeavyFiles$Court")) (List.mem_append_right _ (List.mem_of_getElem? (i := 102) (by decide +kernel))))
  have hOSuit : va_AO "HeavyFiles$Suit" s := va_AO.of (hts (.arrayOver (.object "HeavyFiles$Suit")) (List.mem_append_right _ (List.mem_of_getElem? (i := 35) (by decide +kernel))))
  have hOScale : va_AO "HeavyFiles$Scale" s := va_AO.of (hts (.arrayOver (.object "HeavyFiles$Scale")) (List.mem_append_right _ (List.mem_of_getElem? (i := 272) (by decide +kernel))))
  have hNW : NW s := by
    intro q hq
    have hq2 : Cond.methodLinkNest q.1 q.2.1 q.2.2.1 q.2.2.2 ∈ lw_tbl := by
      have : nestW.all (fun q => decide (Cond.methodLinkNest q.1 q.2.1 q.2.2.1 q.2.2.2 ∈ lw_tbl)) = true := by decide +kernel
      exact of_decide_eq_true (List.all_eq_true.mp this q hq)
    exact va_Nw.of rfl (hts _ hq2)
  have hN : NC s := ⟨hNW, hORow, hOCourt, hOSuit, hOScale, hAOI⟩
  obtain ⟨ca, hca⟩ : ∃ ca : Nat → Nat, va_K (dC, dI) vwCl (tyT ca) s := by
    obtain ⟨a0, hr0, ha0⟩ := arrC_int (hts (.arrayClass .int) (List.mem_append_right _ (List.mem_of_getElem? (i := 57) (by decide +kernel))))
    obtain ⟨a1, hr1, ha1⟩ := arrC_obj hORow
    obtain ⟨a2, hr2, ha2⟩ := arrC_obj hOCourt
    obtain ⟨a3, hr3, ha3⟩ := arrC_obj hOSuit
    obtain ⟨a5, hr5, ha5⟩ := arrC_obj hOScale
    obtain ⟨a4, hr4, ha4⟩ := arrC_arr hAOI
    refine ⟨fun k => [a0, a1, a2, a3, a4, a5].getD k 0, hKc, ?_⟩
    intro k q hq
    have hk : k < 6 := (List.getElem?_eq_some_iff.mp hq).1
    rcases (by omega : k = 0 ∨ k = 1 ∨ k = 2 ∨ k = 3 ∨ k = 4 ∨ k = 5) with rfl | rfl | rfl | rfl | rfl | rfl
    · cases hq; exact ⟨hr0, ha0⟩
    · cases hq; exact ⟨hr1, ha1⟩
    · cases hq; exact ⟨hr2, ha2⟩
    · cases hq; exact ⟨hr3, ha3⟩
    · cases hq; exact ⟨hr4, ha4⟩
    · cases hq; exact ⟨hr5, ha5⟩
  have C : Cx p s m meth c #[Value.ref b] code 4 ret RL (dC, dI) ca (fun k => k) := ⟨hx, hb, hml, hown, htw, hca, id_inj, hr, hlocks, hNW⟩
  have hS : va_S (fun q : Nat => s.heap.size ≤ q) s.heap s.heap [] := va_S.rf
  have hP : va_P (dC, dI) vwCl [] s.heap := fun k q h => by simp at h
  have hD : va_D (fun q : Nat => s.heap.size ≤ q) [] := ⟨fun i j p q h => by simp at h, fun k q h => by simp at h⟩
  have hl := lv_entry ([.ref b]) (n := 4) (Nat.le_of_ble_eq_true rfl)
  rw [lg_entry_eq]
  generalize (lg_sl ([.ref b]) ++ List.replicate (4 - (lg_sl ([.ref b])).length) Slot.unset).toArray = ls at hl ⊢
  have hl : lv_has ls 4 [(0, .ref b)] := hl
  refine y_newo C hP hD hS hA [.null, .null, .null, .null, .null, .null, .null, .null, .null, .null, .null, .null, .null, .int 0, .int 0, .long 0, .long 0] kX11 (fun j hj => by (rcases (by omega : j = 0 ∨ j = 1 ∨ j = 2 ∨ j = 3 ∨ j = 4 ∨ j = 5 ∨ j = 6 ∨ j = 7 ∨ j = 8 ∨ j = 9 ∨ j = 10 ∨ j = 11 ∨ j = 12 ∨ j = 13 ∨ j = 14 ∨ j = 15 ∨ j = 16) with rfl | rfl | rfl | rfl | rfl | rfl | rfl | rfl | rfl | rfl | rfl | rfl | rfl | rfl | rfl | rfl | rfl <;> rfl)) q_18 q_19 q_1 (Nat.le_of_ble_eq_true rfl) (Nat.le_of_ble_eq_true rfl) dL_law_0 (fun q H hP hD hS => ?_)
  refine W.widen (k := 1) (n := 17) (by decide) (by decide) ?_
  refine lv_dup C.1 C.2.1 dL_law_3 rfl ?_
  refine y_call (kX := kkX11 ca) hP hD hS hA (y_runI C hN hP [] [.ref q] RX11 kiX11_init q_20 (tX11_init l (dC, dI) ca q H.size) rfl rfl ⟨by decide, by decide⟩ rfl hl.1 rfl (Nat.le_of_ble_eq_true rfl) dL_law_4 ⟨Nat.le_of_ble_eq_true rfl, Nat.le_of_ble_eq_true rfl⟩) (fun b1 H locs eb1 hP hD hS => ?_)
  rw [← eb1]
  refine W.widen (k := 175) (n := 3601) (by decide) (by decide) ?_
  refine lv_astore_n (lv' := [(1, .ref (b1 0)), (0, .ref b)]) C.1 C.2.1 dL_law_7 rfl hl (by decide) rfl (fun ls hl => ?_)
  refine y_newo C hP hD hS hA [.int 0, .null, .int 0, .long 0, .long 0, .null, .null, .null, .null, .null, .int 0, .null, .null, .int 0, .int 0, .int 0, .int 0, .int 0, .null, .null, .null, .null, .int 0, .int 0, .int 0, .int 0, .null, .null, .int 0, .int 0, .null, .int 0, .null, .int 0, .int 0, .null, .null, .int 0, .null, .null, .null, .long 0] kX12 (fun j hj => by (rcases (by omega : j = 0 ∨ j = 1 ∨ j = 2 ∨ j = 3 ∨ j = 4 ∨ j = 5 ∨ j = 6 ∨ j = 7 ∨ j = 8 ∨ j = 9 ∨ j = 10 ∨ j = 11 ∨ j = 12 ∨ j = 13 ∨ j = 14 ∨ j = 15 ∨ j = 16 ∨ j = 17 ∨ j = 18 ∨ j = 19 ∨ j = 20 ∨ j = 21 ∨ j = 22 ∨ j = 23 ∨ j = 24 ∨ j = 25 ∨ j = 26 ∨ j = 27 ∨ j = 28 ∨ j = 29 ∨ j = 30 ∨ j = 31 ∨ j = 32 ∨ j = 33 ∨ j = 34 ∨ j = 35 ∨ j = 36 ∨ j = 37 ∨ j = 38 ∨ j = 39 ∨ j = 40 ∨ j = 41) with rfl | rfl | rfl | rfl | rfl | rfl | rfl | rfl | rfl | rfl | rfl | rfl | rfl | rfl | rfl | rfl | rfl | rfl | rfl | rfl | rfl | rfl | rfl | rfl | rfl | rfl | rfl | rfl | rfl | rfl | rfl | rfl | rfl | rfl | rfl | rfl | rfl | rfl | rfl | rfl | rfl | rfl <;> rfl)) q_1010 q_1011 q_13 (Nat.le_of_ble_eq_true rfl) (Nat.le_of_ble_eq_true rfl) dL_law_8 (fun q H hP hD hS => ?_)
  refine W.widen (k := 176) (n := 3643) (by decide) (by decide) ?_
  refine lv_dup C.1 C.2.1 dL_law_11 rfl ?_
  refine y_call (kX := kkX12 ca) hP hD hS hA (y_runI C hN hP [] [.ref q] RX12 kiX12_init q_1012 (tX12_init l (dC, dI) ca q H.size) rfl rfl ⟨by decide, by decide⟩ rfl hl.1 rfl (Nat.le_of_ble_eq_true rfl) dL_law_12 ⟨Nat.le_of_ble_eq_true rfl, Nat.le_of_ble_eq_true rfl⟩) (fun b2 H locs eb2 hP hD hS => ?_)
  rw [← eb2]
  refine W.widen (k := 197) (n := 6445) (by decide) (by decide) ?_
  refine lv_astore_n (lv' := [(2, .ref (b2 0)), (1, .ref (b1 0)), (0, .ref b)]) C.1 C.2.1 dL_law_15 rfl hl (by decide) rfl (fun ls hl => ?_)
  refine lv_iconst (v := 0) C.1 C.2.1 dL_law_16 (by decide) ?_
  refine lv_istore_n (lv' := [(3, .int 0), (2, .ref (b2 0)), (1, .ref (b1 0)), (0, .ref b)]) C.1 C.2.1 dL_law_17 rfl hl (by decide) rfl (fun ls hl => ?_)
  obtain ⟨ad, hInj, hge, had0, had1, hPw⟩ := join_world hP hD
  have C2 : Cx p s m meth c #[Value.ref b] code 4 ret RL (dC, dI) ca ad := ⟨hx, hb, hml, hown, htw, hca, hInj, hr, hlocks, hNW⟩
  refine va_forget (fun q hq => hS.2.2 q hq) ?_
  have hW : Wd (dC, dI) ca ad s.heap mm0 H [] := ⟨hPw, hS.1, fun q h1 h2 => hS.2.1 q h1 (fun h => by have h9 : s.heap.size ≤ q := h; omega), fun q hq => by cases hq⟩
  exact law_loop hOK hL C2 hX hbl hge (L + 1) 0 (Nat.zero_le _) (by omega) mm0 H [] ls hR0 hW (by rw [had0, had1]; exact lv_sub hl [0, 1, 2, 3] rfl)
