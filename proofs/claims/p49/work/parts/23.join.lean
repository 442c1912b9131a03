def iniL : List (Nat → Int32) := [fun _ => 0,
  fun _ => 0,
  fun _ => 0,
  fun _ => 0,
  fun _ => 0,
  fun _ => 0,
  fun _ => 0,
  fun _ => 0,
  fun _ => 0,
  fun _ => 0,
  fun _ => 0,
  fun _ => 0,
  fun _ => 0,
  fun _ => 0,
  fun _ => 0,
  fun _ => 0,
  fun _ => 0,
  fun j => if j = 2 then -9 else 0,
  fun j => if j = 2 then -9 else 0,
  fun j => if j = 2 then -9 else 0,
  fun j => if j = 2 then -9 else 0,
  fun j => if j = 2 then -9 else 0,
  fun j => if j = 2 then -9 else 0,
  fun _ => 0,
  fun _ => 0,
  fun _ => 0,
  fun _ => 0,
  fun _ => 0,
  fun _ => 0,
  fun _ => 0,
  fun _ => 0,
  fun _ => 0,
  fun _ => 0,
  fun _ => 0,
  fun _ => 0,
  fun _ => 0,
  fun _ => 0,
  fun _ => 0,
  fun _ => 0,
  fun _ => 0,
  fun _ => 0,
  fun _ => 0,
  fun _ => 0,
  fun _ => 0,
  fun _ => 0,
  fun _ => 0,
  fun _ => 0,
  fun _ => 0,
  fun _ => 0,
  fun _ => 0,
  fun _ => 0,
  fun _ => 0,
  fun _ => 0,
  fun _ => 0,
  fun _ => 0,
  fun _ => 0,
  fun _ => 0,
  fun _ => 0,
  fun _ => 0,
  fun _ => 0,
  fun _ => 0,
  fun _ => 0,
  fun _ => 0,
  fun _ => 0,
  fun _ => 0,
  fun _ => 0,
  fun _ => 0,
  fun _ => 0,
  fun _ => 0,
  fun _ => 0,
  fun _ => 0,
  fun _ => 0,
  fun _ => 0,
  fun _ => 0,
  fun _ => 0,
  fun _ => 0,
  fun _ => 0,
  fun _ => 0,
  fun _ => 0,
  fun _ => 0,
  fun _ => 0,
  fun _ => 0,
  fun _ => 0,
  fun _ => 0,
  fun _ => 0,
  fun _ => 0,
  fun _ => 0,
  fun _ => 0,
  fun _ => 0,
  fun _ => 0,
  fun _ => 0,
  fun _ => 0,
  fun _ => 0,
  fun _ => 0,
  fun _ => 0,
  fun j => if j = 1 then -1 else 0,
  fun _ => 0,
  fun j => if j = 1 then -1 else 0,
  fun _ => 0,
  fun j => if j = 1 then -1 else 0,
  fun _ => 0,
  fun j => if j = 1 then -1 else 0,
  fun _ => 0,
  fun j => if j = 1 then -1 else 0,
  fun _ => 0,
  fun j => if j = 1 then -1 else 0,
  fun _ => 0,
  fun j => if j = 1 then -1 else 0,
  fun _ => 0,
  fun j => if j = 1 then -1 else 0,
  fun _ => 0,
  fun j => if j = 1 then -1 else 0,
  fun _ => 0,
  fun j => if j = 1 then -1 else 0,
  fun _ => 0,
  fun _ => 0,
  fun _ => 0,
  fun _ => 0,
  fun _ => 0,
  fun _ => 0,
  fun _ => 0,
  fun _ => 0,
  fun _ => 0,
  fun _ => 0,
  fun _ => 0,
  fun _ => 0,
  fun _ => 0,
  fun _ => 0,
  fun _ => 0,
  fun j => if j = 2 then -9 else 0,
  fun j => if j = 2 then -9 else 0,
  fun j => if j = 2 then -9 else 0,
  fun j => if j = 2 then -9 else 0,
  fun j => if j = 2 then -9 else 0,
  fun j => if j = 2 then -9 else 0,
  fun _ => 0,
  fun _ => 0,
  fun _ => 0,
  fun _ => 0,
  fun _ => 0,
  fun _ => 0,
  fun _ => 0,
  fun _ => 0,
  fun _ => 0,
  fun _ => 0,
  fun _ => 0,
  fun _ => 0,
  fun _ => 0,
  fun _ => 0,
  fun j => if j = 2 then -9 else 0,
  fun j => if j = 2 then -9 else 0,
  fun j => if j = 2 then -9 else 0,
  fun j => if j = 2 then -9 else 0,
  fun j => if j = 2 then -9 else 0,
  fun j => if j = 2 then -9 else 0,
  fun _ => 0,
  fun _ => 0,
  fun _ => 0,
  fun _ => 0,
  fun _ => 0,
  fun _ => 0,
  fun _ => 0,
  fun _ => 0,
  fun _ => 0,
  fun _ => 0,
  fun _ => 0,
  fun _ => 0,
  fun _ => 0,
  fun _ => 0,
  fun j => if j = 2 then -9 else 0,
  fun j => if j = 2 then -9 else 0,
  fun j => if j = 2 then -9 else 0,
  fun j => if j = 2 then -9 else 0,
  fun j => if j = 2 then -9 else 0,
  fun j => if j = 2 then -9 else 0,
  fun _ => 0,
  fun _ => 0,
  fun _ => 0,
  fun _ => 0]
def mm0 : Mm := (fun k => iniL.getD k (fun _ => 0), fun k j => if k = 0 ∧ j = 16 then 1 else 0)
theorem va_P_l {D : va_G} {w1 w2 : va_W} {H : Heap} (h : va_P D vwCl (w1 ++ w2) H) : va_P D vwCl w1 H := fun k q hq => h k q (by rw [List.getElem?_append_left (List.getElem?_eq_some_iff.mp hq).1]; exact hq)
theorem va_P_r {D : va_G} {w1 w2 : va_W} {H : Heap} (h : va_P D vwCl (w1 ++ w2) H) : va_P D vwCl w2 H := fun k q hq => h (w1.length + k) q (by rw [List.getElem?_append_right (by omega)]; rw [Nat.add_sub_cancel_left]; exact hq)
theorem refs_at {D : va_G} {a n : Nat} {cA : ClassId} {f : Nat → Option Nat} {H : Heap} (g : Nat → Option Nat) (h : va_at D vwCl (a, .inl (cA, n, refs f)) H) (e : ∀ j, j < n → f j = g j) : va_at D vwCl (a, .inl (cA, n, refs g)) H := by
  show H[a]? = some (vp_cell cA (n, refs g))
  rw [← refs_eq e]
  exact h
theorem kkX0_c {ca a a' : Nat → Nat} (h : ∀ j, j < 20 → a j = a' j) : kkX0 ca a = kkX0 ca a' := by
  unfold kkX0
  try simp only [kkX9, kkX7]
  simp only [h 0 (by decide), h 1 (by decide), h 2 (by decide), h 3 (by decide), h 4 (by decide), h 5 (by decide), h 6 (by decide), h 7 (by decide), h 8 (by decide), h 9 (by decide), h 10 (by decide), h 11 (by decide), h 12 (by decide), h 13 (by decide), h 14 (by decide), h 15 (by decide), h 16 (by decide), h 17 (by decide), h 18 (by decide), h 19 (by decide)]
theorem kkX5_c {ca a a' : Nat → Nat} (h : ∀ j, j < 5 → a j = a' j) : kkX5 ca a = kkX5 ca a' := by
  unfold kkX5
  try simp only [kkX9, kkX7]
  simp only [h 0 (by decide), h 1 (by decide), h 2 (by decide), h 3 (by decide), h 4 (by decide)]
theorem kkX7_c {ca a a' : Nat → Nat} (h : ∀ j, j < 4 → a j = a' j) : kkX7 ca a = kkX7 ca a' := by
  unfold kkX7
  try simp only [kkX9, kkX7]
  simp only [h 0 (by decide), h 1 (by decide), h 2 (by decide), h 3 (by decide)]
theorem kkX3_c {ca a a' : Nat → Nat} (h : ∀ j, j < 2 → a j = a' j) : kkX3 ca a = kkX3 ca a' := by
  unfold kkX3
  try simp only [kkX9, kkX7]
  simp only [h 0 (by decide), h 1 (by decide)]
theorem kkX8_c {ca a a' : Nat → Nat} (h : ∀ j, j < 5 → a j = a' j) : kkX8 ca a = kkX8 ca a' := by
  unfold kkX8
  try simp only [kkX9, kkX7]
  simp only [h 0 (by decide), h 1 (by decide), h 2 (by decide), h 3 (by decide), h 4 (by decide)]
theorem kkX1_c {ca a a' : Nat → Nat} (h : ∀ j, j < 2 → a j = a' j) : kkX1 ca a = kkX1 ca a' := by
  unfold kkX1
  try simp only [kkX9, kkX7]
  simp only [h 0 (by decide), h 1 (by decide)]
theorem kkX4_c {ca a a' : Nat → Nat} (h : ∀ j, j < 10 → a j = a' j) : kkX4 ca a = kkX4 ca a' := by
  unfold kkX4
  try simp only [kkX9, kkX7]
  simp only [h 0 (by decide), h 1 (by decide), h 2 (by decide), h 3 (by decide), h 4 (by decide), h 5 (by decide), h 6 (by decide), h 7 (by decide), h 8 (by decide), h 9 (by decide)]
theorem kkX10_c {ca a a' : Nat → Nat} (h : ∀ j, j < 3 → a j = a' j) : kkX10 ca a = kkX10 ca a' := by
  unfold kkX10
  try simp only [kkX9, kkX7]
  simp only [h 0 (by decide), h 1 (by decide), h 2 (by decide)]
theorem kkX2_c {ca a a' : Nat → Nat} (h : ∀ j, j < 39 → a j = a' j) : kkX2 ca a = kkX2 ca a' := by
  unfold kkX2
  try simp only [kkX9, kkX7]
  simp only [h 0 (by decide), h 1 (by decide), h 2 (by decide), h 3 (by decide), h 4 (by decide), h 5 (by decide), h 6 (by decide), h 7 (by decide), h 8 (by decide), h 9 (by decide), h 10 (by decide), h 11 (by decide), h 12 (by decide), h 13 (by decide), h 14 (by decide), h 15 (by decide), h 16 (by decide), h 17 (by decide), h 18 (by decide), h 19 (by decide), h 20 (by decide), h 21 (by decide), h 22 (by decide), h 23 (by decide), h 24 (by decide), h 25 (by decide), h 26 (by decide), h 27 (by decide), h 28 (by decide), h 29 (by decide), h 30 (by decide), h 31 (by decide), h 32 (by decide), h 33 (by decide), h 34 (by decide), h 35 (by decide), h 36 (by decide), h 37 (by decide), h 38 (by decide)]
theorem kkX6_40_c {ca a a' : Nat → Nat} (h : ∀ j, j < 2 → a j = a' j) : kkX6_40 ca a = kkX6_40 ca a' := by
  unfold kkX6_40
  try simp only [kkX9, kkX7]
  simp only [h 0 (by decide), h 1 (by decide)]
theorem kkX6_80_c {ca a a' : Nat → Nat} (h : ∀ j, j < 2 → a j = a' j) : kkX6_80 ca a = kkX6_80 ca a' := by
  unfold kkX6_80
  try simp only [kkX9, kkX7]
  simp only [h 0 (by decide), h 1 (by decide)]
set_option maxRecDepth 20000 in
theorem jw_3 {D : va_G} {ca ad : Nat → Nat} {H : Heap} (hP : va_P D vwCl (kkX0 ca (fun j => ad (3 + j))) H) : ∀ k, 3 ≤ k → k < 23 → va_at D vwCl (ad k, ce ca ad mm0 k) H := by
  intro k h1 h2
  rcases (by omega : k = 3 ∨ k = 4 ∨ k = 5 ∨ k = 6 ∨ k = 7 ∨ k = 8 ∨ k = 9 ∨ k = 10 ∨ k = 11 ∨ k = 12 ∨ k = 13 ∨ k = 14 ∨ k = 15 ∨ k = 16 ∨ k = 17 ∨ k = 18 ∨ k = 19 ∨ k = 20 ∨ k = 21 ∨ k = 22) with rfl | rfl | rfl | rfl | rfl | rfl | rfl | rfl | rfl | rfl | rfl | rfl | rfl | rfl | rfl | rfl | rfl | rfl | rfl | rfl
  · exact hP 0 _ rfl
  · exact refs_at (n := 6) (cA := ca 3) (fun j => some (ad (17 + j))) (hP 1 _ rfl) (by intro j hj; rcases (by omega : j = 0 ∨ j = 1 ∨ j = 2 ∨ j = 3 ∨ j = 4 ∨ j = 5) with rfl | rfl | rfl | rfl | rfl | rfl <;> rfl)
  · exact hP 2 _ rfl
  · exact hP 3 _ rfl
  · exact refs_at (n := 8) (cA := ca 4) (fun j => some (ad (8 + j))) (hP 4 _ rfl) (by intro j hj; rcases (by omega : j = 0 ∨ j = 1 ∨ j = 2 ∨ j = 3 ∨ j = 4 ∨ j = 5 ∨ j = 6 ∨ j = 7) with rfl | rfl | rfl | rfl | rfl | rfl | rfl | rfl <;> rfl)
  · exact hP 5 _ rfl
  · exact hP 6 _ rfl
  · exact hP 7 _ rfl
  · exact hP 8 _ rfl
  · exact hP 9 _ rfl
  · exact hP 10 _ rfl
  · exact hP 11 _ rfl
  · exact hP 12 _ rfl
  · exact hP 13 _ rfl
  · exact hP 14 _ rfl
  · exact hP 15 _ rfl
  · exact hP 16 _ rfl
  · exact hP 17 _ rfl
  · exact hP 18 _ rfl
  · exact hP 19 _ rfl
set_option maxRecDepth 20000 in
theorem jw_24 {D : va_G} {ca ad : Nat → Nat} {H : Heap} (hP : va_P D vwCl (kkX5 ca (fun j => ad (24 + j))) H) : ∀ k, 24 ≤ k → k < 29 → va_at D vwCl (ad k, ce ca ad mm0 k) H := by
  intro k h1 h2
  rcases (by omega : k = 24 ∨ k = 25 ∨ k = 26 ∨ k = 27 ∨ k = 28) with rfl | rfl | rfl | rfl | rfl
  · exact hP 0 _ rfl
  · exact hP 1 _ rfl
  · exact hP 2 _ rfl
  · exact hP 3 _ rfl
  · exact hP 4 _ rfl
set_option maxRecDepth 20000 in
theorem jw_29 {D : va_G} {ca ad : Nat → Nat} {H : Heap} (hP : va_P D vwCl (kkX7 ca (fun j => ad (29 + j))) H) : ∀ k, 29 ≤ k → k < 33 → va_at D vwCl (ad k, ce ca ad mm0 k) H := by
  intro k h1 h2
  rcases (by omega : k = 29 ∨ k = 30 ∨ k = 31 ∨ k = 32) with rfl | rfl | rfl | rfl
  · exact hP 0 _ rfl
  · exact hP 1 _ rfl
  · exact hP 2 _ rfl
  · exact hP 3 _ rfl
set_option maxRecDepth 20000 in
theorem jw_33 {D : va_G} {ca ad : Nat → Nat} {H : Heap} (hP : va_P D vwCl (kkX3 ca (fun j => ad (33 + j))) H) : ∀ k, 33 ≤ k → k < 35 → va_at D vwCl (ad k, ce ca ad mm0 k) H := by
  intro k h1 h2
  rcases (by omega : k = 33 ∨ k = 34) with rfl | rfl
  · exact hP 0 _ rfl
  · exact hP 1 _ rfl
set_option maxRecDepth 20000 in
theorem jw_35 {D : va_G} {ca ad : Nat → Nat} {H : Heap} (hP : va_P D vwCl (kkX8 ca (fun j => ad (35 + j))) H) : ∀ k, 35 ≤ k → k < 40 → va_at D vwCl (ad k, ce ca ad mm0 k) H := by
  intro k h1 h2
  rcases (by omega : k = 35 ∨ k = 36 ∨ k = 37 ∨ k = 38 ∨ k = 39) with rfl | rfl | rfl | rfl | rfl
  · exact hP 0 _ rfl
  · exact hP 1 _ rfl
  · exact hP 2 _ rfl
  · exact hP 3 _ rfl
  · exact hP 4 _ rfl
set_option maxRecDepth 20000 in
theorem jw_40 {D : va_G} {ca ad : Nat → Nat} {H : Heap} (hP : va_P D vwCl (kkX1 ca (fun j => ad (40 + j))) H) : ∀ k, 40 ≤ k → k < 42 → va_at D vwCl (ad k, ce ca ad mm0 k) H := by
  intro k h1 h2
  rcases (by omega : k = 40 ∨ k = 41) with rfl | rfl
  · exact hP 0 _ rfl
  · exact hP 1 _ rfl
set_option maxRecDepth 20000 in
theorem jw_42 {D : va_G} {ca ad : Nat → Nat} {H : Heap} (hP : va_P D vwCl (kkX4 ca (fun j => ad (42 + j))) H) : ∀ k, 42 ≤ k → k < 52 → va_at D vwCl (ad k, ce ca ad mm0 k) H := by
  intro k h1 h2
  rcases (by omega : k = 42 ∨ k = 43 ∨ k = 44 ∨ k = 45 ∨ k = 46 ∨ k = 47 ∨ k = 48 ∨ k = 49 ∨ k = 50 ∨ k = 51) with rfl | rfl | rfl | rfl | rfl | rfl | rfl | rfl | rfl | rfl
  · exact hP 0 _ rfl
  · exact hP 1 _ rfl
  · exact hP 2 _ rfl
  · exact hP 3 _ rfl
  · exact hP 4 _ rfl
  · exact hP 5 _ rfl
  · exact hP 6 _ rfl
  · exact hP 7 _ rfl
  · exact hP 8 _ rfl
  · exact hP 9 _ rfl
set_option maxRecDepth 20000 in
theorem jw_52 {D : va_G} {ca ad : Nat → Nat} {H : Heap} (hP : va_P D vwCl (kkX10 ca (fun j => ad (52 + j))) H) : ∀ k, 52 ≤ k → k < 55 → va_at D vwCl (ad k, ce ca ad mm0 k) H := by
  intro k h1 h2
  rcases (by omega : k = 52 ∨ k = 53 ∨ k = 54) with rfl | rfl | rfl
  · exact hP 0 _ rfl
  · exact hP 1 _ rfl
  · exact hP 2 _ rfl
set_option maxRecDepth 20000 in
theorem jw_55 {D : va_G} {ca ad : Nat → Nat} {H : Heap} (hP : va_P D vwCl (kkX2 ca (fun j => ad (55 + j))) H) : ∀ k, 55 ≤ k → k < 94 → va_at D vwCl (ad k, ce ca ad mm0 k) H := by
  intro k h1 h2
  rcases (by omega : k = 55 ∨ k = 56 ∨ k = 57 ∨ k = 58 ∨ k = 59 ∨ k = 60 ∨ k = 61 ∨ k = 62 ∨ k = 63 ∨ k = 64 ∨ k = 65 ∨ k = 66 ∨ k = 67 ∨ k = 68 ∨ k = 69 ∨ k = 70 ∨ k = 71 ∨ k = 72 ∨ k = 73 ∨ k = 74 ∨ k = 75 ∨ k = 76 ∨ k = 77 ∨ k = 78 ∨ k = 79 ∨ k = 80 ∨ k = 81 ∨ k = 82 ∨ k = 83 ∨ k = 84 ∨ k = 85 ∨ k = 86 ∨ k = 87 ∨ k = 88 ∨ k = 89 ∨ k = 90 ∨ k = 91 ∨ k = 92 ∨ k = 93) with rfl | rfl | rfl | rfl | rfl | rfl | rfl | rfl | rfl | rfl | rfl | rfl | rfl | rfl | rfl | rfl | rfl | rfl | rfl | rfl | rfl | rfl | rfl | rfl | rfl | rfl | rfl | rfl | rfl | rfl | rfl | rfl | rfl | rfl | rfl | rfl | rfl | rfl | rfl
  · exact hP 0 _ rfl
  · exact hP 1 _ rfl
  · exact hP 2 _ rfl
  · exact hP 3 _ rfl
  · exact hP 4 _ rfl
  · exact hP 5 _ rfl
  · exact refs_at (n := 6) (cA := ca 4) (fun j => some (ad (62 + j))) (hP 6 _ rfl) (by intro j hj; rcases (by omega : j = 0 ∨ j = 1 ∨ j = 2 ∨ j = 3 ∨ j = 4 ∨ j = 5) with rfl | rfl | rfl | rfl | rfl | rfl <;> rfl)
  · exact hP 7 _ rfl
  · exact hP 8 _ rfl
  · exact hP 9 _ rfl
  · exact hP 10 _ rfl
  · exact hP 11 _ rfl
  · exact hP 12 _ rfl
  · exact refs_at (n := 6) (cA := ca 5) (fun j => some (ad (70 + 4 * j))) (hP 13 _ rfl) (by intro j hj; rcases (by omega : j = 0 ∨ j = 1 ∨ j = 2 ∨ j = 3 ∨ j = 4 ∨ j = 5) with rfl | rfl | rfl | rfl | rfl | rfl <;> rfl)
  · exact hP 14 _ rfl
  · exact hP 15 _ rfl
  · exact hP 16 _ rfl
  · exact hP 17 _ rfl
  · exact hP 18 _ rfl
  · exact hP 19 _ rfl
  · exact hP 20 _ rfl
  · exact hP 21 _ rfl
  · exact hP 22 _ rfl
  · exact hP 23 _ rfl
  · exact hP 24 _ rfl
  · exact hP 25 _ rfl
  · exact hP 26 _ rfl
  · exact hP 27 _ rfl
  · exact hP 28 _ rfl
  · exact hP 29 _ rfl
  · exact hP 30 _ rfl
  · exact hP 31 _ rfl
  · exact hP 32 _ rfl
  · exact hP 33 _ rfl
  · exact hP 34 _ rfl
  · exact hP 35 _ rfl
  · exact hP 36 _ rfl
  · exact hP 37 _ rfl
  · exact hP 38 _ rfl
set_option maxRecDepth 20000 in
theorem jw_95 {D : va_G} {ca ad : Nat → Nat} {H : Heap} (hP : va_P D vwCl (kkX6_40 ca (fun j => ad (95 + j))) H) : ∀ k, 95 ≤ k → k < 97 → va_at D vwCl (ad k, ce ca ad mm0 k) H := by
  intro k h1 h2
  rcases (by omega : k = 95 ∨ k = 96) with rfl | rfl
  · exact hP 0 _ rfl
  · exact hP 1 _ rfl
set_option maxRecDepth 20000 in
theorem jw_97 {D : va_G} {ca ad : Nat → Nat} {H : Heap} (hP : va_P D vwCl (kkX6_40 ca (fun j => ad (97 + j))) H) : ∀ k, 97 ≤ k → k < 99 → va_at D vwCl (ad k, ce ca ad mm0 k) H := by
  intro k h1 h2
  rcases (by omega : k = 97 ∨ k = 98) with rfl | rfl
  · exact hP 0 _ rfl
  · exact hP 1 _ rfl
set_option maxRecDepth 20000 in
theorem jw_99 {D : va_G} {ca ad : Nat → Nat} {H : Heap} (hP : va_P D vwCl (kkX6_40 ca (fun j => ad (99 + j))) H) : ∀ k, 99 ≤ k → k < 101 → va_at D vwCl (ad k, ce ca ad mm0 k) H := by
  intro k h1 h2
  rcases (by omega : k = 99 ∨ k = 100) with rfl | rfl
  · exact hP 0 _ rfl
  · exact hP 1 _ rfl
set_option maxRecDepth 20000 in
theorem jw_101 {D : va_G} {ca ad : Nat → Nat} {H : Heap} (hP : va_P D vwCl (kkX6_40 ca (fun j => ad (101 + j))) H) : ∀ k, 101 ≤ k → k < 103 → va_at D vwCl (ad k, ce ca ad mm0 k) H := by
  intro k h1 h2
  rcases (by omega : k = 101 ∨ k = 102) with rfl | rfl
  · exact hP 0 _ rfl
  · exact hP 1 _ rfl
set_option maxRecDepth 20000 in
theorem jw_103 {D : va_G} {ca ad : Nat → Nat} {H : Heap} (hP : va_P D vwCl (kkX6_40 ca (fun j => ad (103 + j))) H) : ∀ k, 103 ≤ k → k < 105 → va_at D vwCl (ad k, ce ca ad mm0 k) H := by
  intro k h1 h2
  rcases (by omega : k = 103 ∨ k = 104) with rfl | rfl
  · exact hP 0 _ rfl
  · exact hP 1 _ rfl
set_option maxRecDepth 20000 in
theorem jw_105 {D : va_G} {ca ad : Nat → Nat} {H : Heap} (hP : va_P D vwCl (kkX6_40 ca (fun j => ad (105 + j))) H) : ∀ k, 105 ≤ k → k < 107 → va_at D vwCl (ad k, ce ca ad mm0 k) H := by
  intro k h1 h2
  rcases (by omega : k = 105 ∨ k = 106) with rfl | rfl
  · exact hP 0 _ rfl
  · exact hP 1 _ rfl
set_option maxRecDepth 20000 in
theorem jw_107 {D : va_G} {ca ad : Nat → Nat} {H : Heap} (hP : va_P D vwCl (kkX6_80 ca (fun j => ad (107 + j))) H) : ∀ k, 107 ≤ k → k < 109 → va_at D vwCl (ad k, ce ca ad mm0 k) H := by
  intro k h1 h2
  rcases (by omega : k = 107 ∨ k = 108) with rfl | rfl
  · exact hP 0 _ rfl
  · exact hP 1 _ rfl
set_option maxRecDepth 20000 in
theorem jw_109 {D : va_G} {ca ad : Nat → Nat} {H : Heap} (hP : va_P D vwCl (kkX6_80 ca (fun j => ad (109 + j))) H) : ∀ k, 109 ≤ k → k < 111 → va_at D vwCl (ad k, ce ca ad mm0 k) H := by
  intro k h1 h2
  rcases (by omega : k = 109 ∨ k = 110) with rfl | rfl
  · exact hP 0 _ rfl
  · exact hP 1 _ rfl
set_option maxRecDepth 20000 in
theorem jw_111 {D : va_G} {ca ad : Nat → Nat} {H : Heap} (hP : va_P D vwCl (kkX6_80 ca (fun j => ad (111 + j))) H) : ∀ k, 111 ≤ k → k < 113 → va_at D vwCl (ad k, ce ca ad mm0 k) H := by
  intro k h1 h2
  rcases (by omega : k = 111 ∨ k = 112) with rfl | rfl
  · exact hP 0 _ rfl
  · exact hP 1 _ rfl
set_option maxRecDepth 20000 in
theorem jw_113 {D : va_G} {ca ad : Nat → Nat} {H : Heap} (hP : va_P D vwCl (kkX6_80 ca (fun j => ad (113 + j))) H) : ∀ k, 113 ≤ k → k < 115 → va_at D vwCl (ad k, ce ca ad mm0 k) H := by
  intro k h1 h2
  rcases (by omega : k = 113 ∨ k = 114) with rfl | rfl
  · exact hP 0 _ rfl
  · exact hP 1 _ rfl
set_option maxRecDepth 20000 in
theorem jw_115 {D : va_G} {ca ad : Nat → Nat} {H : Heap} (hP : va_P D vwCl (kkX0 ca (fun j => ad (115 + j))) H) : ∀ k, 115 ≤ k → k < 135 → va_at D vwCl (ad k, ce ca ad mm0 k) H := by
  intro k h1 h2
  rcases (by omega : k = 115 ∨ k = 116 ∨ k = 117 ∨ k = 118 ∨ k = 119 ∨ k = 120 ∨ k = 121 ∨ k = 122 ∨ k = 123 ∨ k = 124 ∨ k = 125 ∨ k = 126 ∨ k = 127 ∨ k = 128 ∨ k = 129 ∨ k = 130 ∨ k = 131 ∨ k = 132 ∨ k = 133 ∨ k = 134) with rfl | rfl | rfl | rfl | rfl | rfl | rfl | rfl | rfl | rfl | rfl | rfl | rfl | rfl | rfl | rfl | rfl | rfl | rfl | rfl
  · exact hP 0 _ rfl
  · exact refs_at (n := 6) (cA := ca 3) (fun j => some (ad (129 + j))) (hP 1 _ rfl) (by intro j hj; rcases (by omega : j = 0 ∨ j = 1 ∨ j = 2 ∨ j = 3 ∨ j = 4 ∨ j = 5) with rfl | rfl | rfl | rfl | rfl | rfl <;> rfl)
  · exact hP 2 _ rfl
  · exact hP 3 _ rfl
  · exact refs_at (n := 8) (cA := ca 4) (fun j => some (ad (120 + j))) (hP 4 _ rfl) (by intro j hj; rcases (by omega : j = 0 ∨ j = 1 ∨ j = 2 ∨ j = 3 ∨ j = 4 ∨ j = 5 ∨ j = 6 ∨ j = 7) with rfl | rfl | rfl | rfl | rfl | rfl | rfl | rfl <;> rfl)
  · exact hP 5 _ rfl
  · exact hP 6 _ rfl
  · exact hP 7 _ rfl
  · exact hP 8 _ rfl
  · exact hP 9 _ rfl
  · exact hP 10 _ rfl
  · exact hP 11 _ rfl
  · exact hP 12 _ rfl
  · exact hP 13 _ rfl
  · exact hP 14 _ rfl
  · exact hP 15 _ rfl
  · exact hP 16 _ rfl
  · exact hP 17 _ rfl
  · exact hP 18 _ rfl
  · exact hP 19 _ rfl
set_option maxRecDepth 20000 in
theorem jw_135 {D : va_G} {ca ad : Nat → Nat} {H : Heap} (hP : va_P D vwCl (kkX0 ca (fun j => ad (135 + j))) H) : ∀ k, 135 ≤ k → k < 155 → va_at D vwCl (ad k, ce ca ad mm0 k) H := by
  intro k h1 h2
  rcases (by omega : k = 135 ∨ k = 136 ∨ k = 137 ∨ k = 138 ∨ k = 139 ∨ k = 140 ∨ k = 141 ∨ k = 142 ∨ k = 143 ∨ k = 144 ∨ k = 145 ∨ k = 146 ∨ k = 147 ∨ k = 148 ∨ k = 149 ∨ k = 150 ∨ k = 151 ∨ k = 152 ∨ k = 153 ∨ k = 154) with rfl | rfl | rfl | rfl | rfl | rfl | rfl | rfl | rfl | rfl | rfl | rfl | rfl | rfl | rfl | rfl | rfl | rfl | rfl | rfl
  · exact hP 0 _ rfl
  · exact refs_at (n := 6) (cA := ca 3) (fun j => some (ad (149 + j))) (hP 1 _ rfl) (by intro j hj; rcases (by omega : j = 0 ∨ j = 1 ∨ j = 2 ∨ j = 3 ∨ j = 4 ∨ j = 5) with rfl | rfl | rfl | rfl | rfl | rfl <;> rfl)
  · exact hP 2 _ rfl
  · exact hP 3 _ rfl
  · exact refs_at (n := 8) (cA := ca 4) (fun j => some (ad (140 + j))) (hP 4 _ rfl) (by intro j hj; rcases (by omega : j = 0 ∨ j = 1 ∨ j = 2 ∨ j = 3 ∨ j = 4 ∨ j = 5 ∨ j = 6 ∨ j = 7) with rfl | rfl | rfl | rfl | rfl | rfl | rfl | rfl <;> rfl)
  · exact hP 5 _ rfl
  · exact hP 6 _ rfl
  · exact hP 7 _ rfl
  · exact hP 8 _ rfl
  · exact hP 9 _ rfl
  · exact hP 10 _ rfl
  · exact hP 11 _ rfl
  · exact hP 12 _ rfl
  · exact hP 13 _ rfl
  · exact hP 14 _ rfl
  · exact hP 15 _ rfl
  · exact hP 16 _ rfl
  · exact hP 17 _ rfl
  · exact hP 18 _ rfl
  · exact hP 19 _ rfl
set_option maxRecDepth 20000 in
theorem jw_155 {D : va_G} {ca ad : Nat → Nat} {H : Heap} (hP : va_P D vwCl (kkX0 ca (fun j => ad (155 + j))) H) : ∀ k, 155 ≤ k → k < 175 → va_at D vwCl (ad k, ce ca ad mm0 k) H := by
  intro k h1 h2
  rcases (by omega : k = 155 ∨ k = 156 ∨ k = 157 ∨ k = 158 ∨ k = 159 ∨ k = 160 ∨ k = 161 ∨ k = 162 ∨ k = 163 ∨ k = 164 ∨ k = 165 ∨ k = 166 ∨ k = 167 ∨ k = 168 ∨ k = 169 ∨ k = 170 ∨ k = 171 ∨ k = 172 ∨ k = 173 ∨ k = 174) with rfl | rfl | rfl | rfl | rfl | rfl | rfl | rfl | rfl | rfl | rfl | rfl | rfl | rfl | rfl | rfl | rfl | rfl | rfl | rfl
  · exact hP 0 _ rfl
  · exact refs_at (n := 6) (cA := ca 3) (fun j => some (ad (169 + j))) (hP 1 _ rfl) (by intro j hj; rcases (by omega : j = 0 ∨ j = 1 ∨ j = 2 ∨ j = 3 ∨ j = 4 ∨ j = 5) with rfl | rfl | rfl | rfl | rfl | rfl <;> rfl)
  · exact hP 2 _ rfl
  · exact hP 3 _ rfl
  · exact refs_at (n := 8) (cA := ca 4) (fun j => some (ad (160 + j))) (hP 4 _ rfl) (by intro j hj; rcases (by omega : j = 0 ∨ j = 1 ∨ j = 2 ∨ j = 3 ∨ j = 4 ∨ j = 5 ∨ j = 6 ∨ j = 7) with rfl | rfl | rfl | rfl | rfl | rfl | rfl | rfl <;> rfl)
  · exact hP 5 _ rfl
  · exact hP 6 _ rfl
  · exact hP 7 _ rfl
  · exact hP 8 _ rfl
  · exact hP 9 _ rfl
  · exact hP 10 _ rfl
  · exact hP 11 _ rfl
  · exact hP 12 _ rfl
  · exact hP 13 _ rfl
  · exact hP 14 _ rfl
  · exact hP 15 _ rfl
  · exact hP 16 _ rfl
  · exact hP 17 _ rfl
  · exact hP 18 _ rfl
  · exact hP 19 _ rfl
set_option maxRecDepth 20000 in
theorem jw_own {D : va_G} {ca ad : Nat → Nat} {H : Heap} (hP : va_P D vwCl (kkX11 ca ad) H) : ∀ k, k = 0 ∨ k = 1 ∨ k = 2 ∨ k = 23 ∨ k = 94 → va_at D vwCl (ad k, ce ca ad mm0 k) H := by
  intro k h1
  rcases h1 with rfl | rfl | rfl | rfl | rfl
  · exact hP 0 _ rfl
  · exact refs_at (n := 6) (cA := ca 1) (fun j => some (ad (95 + 2 * j))) (hP 1 _ rfl) (by intro j hj; rcases (by omega : j = 0 ∨ j = 1 ∨ j = 2 ∨ j = 3 ∨ j = 4 ∨ j = 5) with rfl | rfl | rfl | rfl | rfl | rfl <;> rfl)
  · exact refs_at (n := 4) (cA := ca 1) (fun j => some (ad (107 + 2 * j))) (hP 2 _ rfl) (by intro j hj; rcases (by omega : j = 0 ∨ j = 1 ∨ j = 2 ∨ j = 3) with rfl | rfl | rfl | rfl <;> rfl)
  · exact refs_at (n := 3) (cA := ca 2) (fun j => some (ad (115 + 20 * j))) (hP 3 _ rfl) (by intro j hj; rcases (by omega : j = 0 ∨ j = 1 ∨ j = 2) with rfl | rfl | rfl <;> rfl)
  · exact hP 4 _ rfl
theorem kkX11_c {ca a a' : Nat → Nat} (h : ∀ j, j < 175 → a j = a' j) : kkX11 ca a = kkX11 ca a' := by
  unfold kkX11
  rw [kkX0_c (a := fun j => a (3 + j)) (a' := fun j => a' (3 + j)) (fun j hj => h (3 + j) (by omega)),
    kkX5_c (a := fun j => a (24 + j)) (a' := fun j => a' (24 + j)) (fun j hj => h (24 + j) (by omega)),
    kkX7_c (a := fun j => a (29 + j)) (a' := fun j => a' (29 + j)) (fun j hj => h (29 + j) (by omega)),
    kkX3_c (a := fun j => a (33 + j)) (a' := fun j => a' (33 + j)) (fun j hj => h (33 + j) (by omega)),
    kkX8_c (a := fun j => a (35 + j)) (a' := fun j => a' (35 + j)) (fun j hj => h (35 + j) (by omega)),
    kkX1_c (a := fun j => a (40 + j)) (a' := fun j => a' (40 + j)) (fun j hj => h (40 + j) (by omega)),
    kkX4_c (a := fun j => a (42 + j)) (a' := fun j => a' (42 + j)) (fun j hj => h (42 + j) (by omega)),
    kkX10_c (a := fun j => a (52 + j)) (a' := fun j => a' (52 + j)) (fun j hj => h (52 + j) (by omega)),
    kkX2_c (a := fun j => a (55 + j)) (a' := fun j => a' (55 + j)) (fun j hj => h (55 + j) (by omega)),
    kkX6_40_c (a := fun j => a (95 + j)) (a' := fun j => a' (95 + j)) (fun j hj => h (95 + j) (by omega)),
    kkX6_40_c (a := fun j => a (97 + j)) (a' := fun j => a' (97 + j)) (fun j hj => h (97 + j) (by omega)),
    kkX6_40_c (a := fun j => a (99 + j)) (a' := fun j => a' (99 + j)) (fun j hj => h (99 + j) (by omega)),
    kkX6_40_c (a := fun j => a (101 + j)) (a' := fun j => a' (101 + j)) (fun j hj => h (101 + j) (by omega)),
    kkX6_40_c (a := fun j => a (103 + j)) (a' := fun j => a' (103 + j)) (fun j hj => h (103 + j) (by omega)),
    kkX6_40_c (a := fun j => a (105 + j)) (a' := fun j => a' (105 + j)) (fun j hj => h (105 + j) (by omega)),
    kkX6_80_c (a := fun j => a (107 + j)) (a' := fun j => a' (107 + j)) (fun j hj => h (107 + j) (by omega)),
    kkX6_80_c (a := fun j => a (109 + j)) (a' := fun j => a' (109 + j)) (fun j hj => h (109 + j) (by omega)),
    kkX6_80_c (a := fun j => a (111 + j)) (a' := fun j => a' (111 + j)) (fun j hj => h (111 + j) (by omega)),
    kkX6_80_c (a := fun j => a (113 + j)) (a' := fun j => a' (113 + j)) (fun j hj => h (113 + j) (by omega)),
    kkX0_c (a := fun j => a (115 + j)) (a' := fun j => a' (115 + j)) (fun j hj => h (115 + j) (by omega)),
    kkX0_c (a := fun j => a (135 + j)) (a' := fun j => a' (135 + j)) (fun j hj => h (135 + j) (by omega)),
    kkX0_c (a := fun j => a (155 + j)) (a' := fun j => a' (155 + j)) (fun j hj => h (155 + j) (by omega))]
  simp only [h 0 (by decide), h 1 (by decide), h 2 (by decide), h 3 (by decide), h 23 (by decide), h 24 (by decide), h 29 (by decide), h 33 (by decide), h 35 (by decide), h 40 (by decide), h 42 (by decide), h 52 (by decide), h 55 (by decide), h 94 (by decide), h 95 (by decide), h 97 (by decide), h 99 (by decide), h 101 (by decide), h 103 (by decide), h 105 (by decide), h 107 (by decide), h 109 (by decide), h 111 (by decide), h 113 (by decide), h 115 (by decide), h 135 (by decide), h 155 (by decide)]
theorem jw_all {D : va_G} {ca ad : Nat → Nat} {H : Heap} (hP : va_P D vwCl (kkX11 ca ad) H) : ∀ k, k < 175 → va_at D vwCl (ad k, ce ca ad mm0 k) H := by
  unfold kkX11 at hP
  have hO := hP
  have hG := va_P_r hP
  have g_155 := jw_155 (va_P_r hG)
  have hG := va_P_l hG
  have g_135 := jw_135 (va_P_r hG)
  have hG := va_P_l hG
  have g_115 := jw_115 (va_P_r hG)
  have hG := va_P_l hG
  have g_113 := jw_113 (va_P_r hG)
  have hG := va_P_l hG
  have g_111 := jw_111 (va_P_r hG)
  have hG := va_P_l hG
  have g_109 := jw_109 (va_P_r hG)
  have hG := va_P_l hG
  have g_107 := jw_107 (va_P_r hG)
  have hG := va_P_l hG
  have g_105 := jw_105 (va_P_r hG)
  have hG := va_P_l hG
  have g_103 := jw_103 (va_P_r hG)
  have hG := va_P_l hG
  have g_101 := jw_101 (va_P_r hG)
  have hG := va_P_l hG
  have g_99 := jw_99 (va_P_r hG)
  have hG := va_P_l hG
  have g_97 := jw_97 (va_P_r hG)
  have hG := va_P_l hG
  have g_95 := jw_95 (va_P_r hG)
  have hG := va_P_l hG
  have g_55 := jw_55 (va_P_r hG)
  have hG := va_P_l hG
  have g_52 := jw_52 (va_P_r hG)
  have hG := va_P_l hG
  have g_42 := jw_42 (va_P_r hG)
  have hG := va_P_l hG
  have g_40 := jw_40 (va_P_r hG)
  have hG := va_P_l hG
  have g_35 := jw_35 (va_P_r hG)
  have hG := va_P_l hG
  have g_33 := jw_33 (va_P_r hG)
  have hG := va_P_l hG
  have g_29 := jw_29 (va_P_r hG)
  have hG := va_P_l hG
  have g_24 := jw_24 (va_P_r hG)
  have hG := va_P_l hG
  have g_3 := jw_3 (va_P_r hG)
  have hG := va_P_l hG
  intro k hk
  rcases (by omega : (k = 0 ∨ k = 1 ∨ k = 2 ∨ k = 23 ∨ k = 94) ∨ (3 ≤ k ∧ k < 23) ∨ (24 ≤ k ∧ k < 29) ∨ (29 ≤ k ∧ k < 33) ∨ (33 ≤ k ∧ k < 35) ∨ (35 ≤ k ∧ k < 40) ∨ (40 ≤ k ∧ k < 42) ∨ (42 ≤ k ∧ k < 52) ∨ (52 ≤ k ∧ k < 55) ∨ (55 ≤ k ∧ k < 94) ∨ (95 ≤ k ∧ k < 97) ∨ (97 ≤ k ∧ k < 99) ∨ (99 ≤ k ∧ k < 101) ∨ (101 ≤ k ∧ k < 103) ∨ (103 ≤ k ∧ k < 105) ∨ (105 ≤ k ∧ k < 107) ∨ (107 ≤ k ∧ k < 109) ∨ (109 ≤ k ∧ k < 111) ∨ (111 ≤ k ∧ k < 113) ∨ (113 ≤ k ∧ k < 115) ∨ (115 ≤ k ∧ k < 135) ∨ (135 ≤ k ∧ k < 155) ∨ (155 ≤ k ∧ k < 175)) with h | h | h | h | h | h | h | h | h | h | h | h | h | h | h | h | h | h | h | h | h | h | h
  · exact jw_own (by unfold kkX11; exact hO) k h
  · exact g_3 k h.1 h.2
  · exact g_24 k h.1 h.2
  · exact g_29 k h.1 h.2
  · exact g_33 k h.1 h.2
  · exact g_35 k h.1 h.2
  · exact g_40 k h.1 h.2
  · exact g_42 k h.1 h.2
  · exact g_52 k h.1 h.2
  · exact g_55 k h.1 h.2
  · exact g_95 k h.1 h.2
  · exact g_97 k h.1 h.2
  · exact g_99 k h.1 h.2
  · exact g_101 k h.1 h.2
  · exact g_103 k h.1 h.2
  · exact g_105 k h.1 h.2
  · exact g_107 k h.1 h.2
  · exact g_109 k h.1 h.2
  · exact g_111 k h.1 h.2
  · exact g_113 k h.1 h.2
  · exact g_115 k h.1 h.2
  · exact g_135 k h.1 h.2
  · exact g_155 k h.1 h.2
def LOL : List Nat := [0, 1, 2, 23, 94, 3, 4, 5, 6, 7, 8, 9, 10, 11, 12, 13, 14, 15, 16, 17, 18, 19, 20, 21, 22, 24, 25, 26, 27, 28, 29, 30, 31, 32, 33, 34, 35, 36, 37, 38, 39, 40, 41, 42, 43, 44, 45, 46, 47, 48, 49, 50, 51, 52, 53, 54, 55, 56, 57, 58, 59, 60, 61, 62, 63, 64, 65, 66, 67, 68, 69, 70, 71, 72, 73, 74, 75, 76, 77, 78, 79, 80, 81, 82, 83, 84, 85, 86, 87, 88, 89, 90, 91, 92, 93, 95, 96, 97, 98, 99, 100, 101, 102, 103, 104, 105, 106, 107, 108, 109, 110, 111, 112, 113, 114, 115, 116, 117, 118, 119, 120, 121, 122, 123, 124, 125, 126, 127, 128, 129, 130, 131, 132, 133, 134, 135, 136, 137, 138, 139, 140, 141, 142, 143, 144, 145, 146, 147, 148, 149, 150, 151, 152, 153, 154, 155, 156, 157, 158, 159, 160, 161, 162, 163, 164, 165, 166, 167, 168, 169, 170, 171, 172, 173, 174]
set_option maxRecDepth 100000 in
set_option maxHeartbeats 4000000 in
theorem LOL_map {ca ad : Nat → Nat} : (kkX11 ca ad).map (·.1) = LOL.map ad := by
  unfold kkX11 kkX0 kkX5 kkX7 kkX3 kkX8 kkX1 kkX4 kkX10 kkX2 kkX6_40 kkX6_80 LOL
  simp only [kkX9, kkX7, List.map_append, List.map_cons, List.map_nil, List.nil_append, List.cons_append, Nat.reduceAdd, Nat.add_zero]
theorem LOL_mem : ∀ k, k < 175 → k ∈ LOL := by decide +kernel
theorem join_world {D : va_G} {ca b1 : Nat → Nat} {H : Heap} {A : Nat → Prop} (hP : va_P D vwCl ([] ++ kkX11 ca b1) H) (hD : va_D A ([] ++ kkX11 ca b1)) : ∃ ad : Nat → Nat, ad 1000 = 175 ∧ Inj ad ∧ (∀ k, k < NT → A (ad k)) ∧ ad 0 = b1 0 ∧ va_P D vwCl (wsM ca ad mm0) H := by
  obtain ⟨ad, hd0, hd1⟩ : ∃ ad : Nat → Nat, ad 1000 = 175 ∧ ∀ k, k < 175 → b1 k = ad k := ⟨fun k => if k < 175 then b1 k else 175, rfl, fun k hk => by simp [hk]⟩
  rw [List.nil_append, kkX11_c hd1] at hP hD
  have hlook : ∀ k, k < 175 → ∃ (i : Nat) (p : Nat × va_E), LOL[i]? = some k ∧ (kkX11 ca ad)[i]? = some p ∧ p.1 = ad k := by
    intro k hk
    obtain ⟨i, hi⟩ := List.getElem?_of_mem (LOL_mem k hk)
    have h1 : ((kkX11 ca ad).map (·.1))[i]? = some (ad k) := by rw [LOL_map, List.getElem?_map, hi]; rfl
    rw [List.getElem?_map] at h1
    cases hp : (kkX11 ca ad)[i]? with
    | none => rw [hp] at h1; cases h1
    | some p => rw [hp] at h1; exact ⟨i, p, hi, hp, Option.some.inj h1⟩
  refine ⟨ad, hd0, ⟨by rw [hd0]; exact Nat.le_refl _, fun i j hi hj e => ?_⟩, fun k hk => ?_, (hd1 0 (by decide)).symm, fun k q hq => ?_⟩
  · rw [hd0] at hi hj
    obtain ⟨a, p, a1, a2, a3⟩ := hlook i hi
    obtain ⟨b, r, b1, b2, b3⟩ := hlook j hj
    have := hD.1 a b p r a2 b2 (by rw [a3, b3, e])
    subst this
    rw [a1] at b1
    exact Option.some.inj b1
  · obtain ⟨a, p, a1, a2, a3⟩ := hlook k hk
    rw [← a3]
    exact hD.2 a p a2
  · obtain ⟨hk, rfl⟩ := wsM_lt hq
    rw [hd0] at hk
    exact jw_all hP k hk
