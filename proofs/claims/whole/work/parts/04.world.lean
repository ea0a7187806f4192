/-! ===== the worlds ===== -/
def nt_EX (lay : Nat → Nat) (nr : Nat) (ln : Nat → Nat) (cI cR : ClassId) (k : Nat) (f : Nat → Int32) : va_E := match k with
  | 0 => .inr (7, [.ref (lay 1), .ref (lay 6), .ref (lay 10), .ref (lay 14), .ref (lay 21), .ref (lay 28), .ref (lay 35), .ref (lay 43), .int (f 8)])
  | 1 => .inr (5, [.ref (lay 2), .ref (lay 3), .ref (lay 4), .ref (lay 5), .int (f 4)])
  | 2 => .inl (cI, 8, .inl f)
  | 3 => .inl (cI, 8, .inl f)
  | 4 => .inl (cI, 8, .inl f)
  | 5 => .inl (cI, 8, .inl f)
  | 6 => .inr (6, [.ref (lay 7), .ref (lay 8), .ref (lay 9), .int (f 3)])
  | 7 => .inl (cR, 6, .inr (.inr (.inr (.inr (fun i => if i < nr then some (lay (47 + 2 * i)) else none)))))
  | 8 => .inl (cI, 6, .inl f)
  | 9 => .inl (cI, 31, .inl f)
  | 10 => .inr (1, [.ref (lay 11), .int (f 1), .int (f 2), .int (f 3), .int (f 4), .int (f 5), .ref (lay 12), .int (f 7), .ref (lay 13)])
  | 11 => .inl (cI, 160, .inl f)
  | 12 => .inl (cI, 160, .inl f)
  | 13 => .inl (cI, 3, .inl f)
  | 14 => .inr (0, [.ref (lay 1), .ref (lay 6), .ref (lay 15), .ref (lay 16), .ref (lay 17), .ref (lay 18), .ref (lay 19), .int (f 7), .int (f 8), .int (f 9), .int (f 10), .ref (lay 20), .int (f 12), .int (f 13)])
  | 15 => .inl (cI, 9, .inl f)
  | 16 => .inl (cI, 9, .inl f)
  | 17 => .inl (cI, 9, .inl f)
  | 18 => .inl (cI, 9, .inl f)
  | 19 => .inl (cI, 72, .inl f)
  | 20 => .inl (cI, 9, .inl f)
  | 21 => .inr (0, [.ref (lay 1), .ref (lay 6), .ref (lay 22), .ref (lay 23), .ref (lay 24), .ref (lay 25), .ref (lay 26), .int (f 7), .int (f 8), .int (f 9), .int (f 10), .ref (lay 27), .int (f 12), .int (f 13)])
  | 22 => .inl (cI, 9, .inl f)
  | 23 => .inl (cI, 9, .inl f)
  | 24 => .inl (cI, 9, .inl f)
  | 25 => .inl (cI, 9, .inl f)
  | 26 => .inl (cI, 72, .inl f)
  | 27 => .inl (cI, 9, .inl f)
  | 28 => .inr (0, [.ref (lay 1), .ref (lay 6), .ref (lay 29), .ref (lay 30), .ref (lay 31), .ref (lay 32), .ref (lay 33), .int (f 7), .int (f 8), .int (f 9), .int (f 10), .ref (lay 34), .int (f 12), .int (f 13)])
  | 29 => .inl (cI, 9, .inl f)
  | 30 => .inl (cI, 9, .inl f)
  | 31 => .inl (cI, 9, .inl f)
  | 32 => .inl (cI, 9, .inl f)
  | 33 => .inl (cI, 72, .inl f)
  | 34 => .inl (cI, 9, .inl f)
  | 35 => .inr (3, [.ref (lay 14), .ref (lay 36), .ref (lay 37), .int (f 3), .ref (lay 38), .ref (lay 39), .ref (lay 40), .ref (lay 41), .ref (lay 42)])
  | 36 => .inl (cI, 8, .inl f)
  | 37 => .inl (cI, 8, .inl f)
  | 38 => .inl (cI, 8, .inl f)
  | 39 => .inl (cI, 72, .inl f)
  | 40 => .inl (cI, 4, .inl f)
  | 41 => .inl (cI, 4, .inl f)
  | 42 => .inl (cI, 4, .inl f)
  | 43 => .inr (4, [.ref (lay 44), .ref (lay 45), .ref (lay 46)])
  | 44 => .inl (cI, 4, .inl f)
  | 45 => .inl (cI, 4, .inl f)
  | 46 => .inl (cI, 160, .inl f)
  | k + 47 => if k % 2 = 0 then .inr (2, [.ref (lay (k + 48)), .int (f 1), .int (f 2)]) else .inl (cI, ln (k / 2), .inl f)
/-- w is a world of the class: with nr texts, their code's lengths ln -/
def nt_isR (w : nt_w) (nr : Nat) (ln : Nat → Nat) : Prop := ∃ (cI cR : ClassId), w.2.1 = [(cI, .int), (cR, .object RX2)] ∧ nt_n w = 47 + 2 * nr ∧ (∀ k, k < nt_n w → nt_E w k = nt_EX (nt_a w) nr ln cI cR k) ∧ (w.2.2.2.1 = .null ∨ ∃ a, w.2.2.2.1 = .ref a)
def nt_isX (w : nt_w) : Prop := ∃ (nr : Nat) (ln : Nat → Nat), nt_isR w nr ln
def nt_cI (w : nt_w) : ClassId := match w.2.1 with
  | q :: _ => q.1
  | [] => (0 : Nat)
theorem nt_lX {w : nt_w} (hw : nt_isX w) {k : Nat} (h : k < 47) : k < nt_n w := by
  obtain ⟨nr, ln, cI, cR, h1, h2, h3, h4⟩ := hw
  omega
theorem nt_tX {w : nt_w} (hw : nt_isX w) : w.2.1[0]? = some (nt_cI w, .int) := by
  obtain ⟨nr, ln, cI, cR, h1, h2, h3, h4⟩ := hw
  simp [nt_cI, h1]
theorem nt_zfX {w : nt_w} (hw : nt_isX w) : w.2.2.2.1 = .null ∨ ∃ a, w.2.2.2.1 = .ref a := by
  obtain ⟨nr, ln, cI, cR, h1, h2, h3, h4⟩ := hw
  exact h4
def nt_isP (b : Nat) : Prop := b = 14 ∨ b = 21 ∨ b = 28
theorem nt_p14 : nt_isP 14 := Or.inl rfl
theorem nt_p21 : nt_isP 21 := Or.inr (Or.inl rfl)
theorem nt_p28 : nt_isP 28 := Or.inr (Or.inr rfl)
theorem nt_lP {w : nt_w} (hw : nt_isX w) {b : Nat} (hb : nt_isP b) (j : Nat) (hj : j < 7) : b + j < nt_n w := nt_lX hw (by rcases hb with rfl | rfl | rfl <;> omega)
theorem nt_e0 {w : nt_w} (hw : nt_isX w) : nt_E w 0 = fun f => .inr (7, [.ref (nt_a w 1), .ref (nt_a w 6), .ref (nt_a w 10), .ref (nt_a w 14), .ref (nt_a w 21), .ref (nt_a w 28), .ref (nt_a w 35), .ref (nt_a w 43), .int (f 8)]) := by
  obtain ⟨nr, ln, cI, cR, h1, h2, h3, h4⟩ := hw
  have hc : nt_cI w = cI := by simp [nt_cI, h1]
  rw [h3 0 (by omega)]
  try rw [hc]
  rfl
theorem nt_e1 {w : nt_w} (hw : nt_isX w) : nt_E w 1 = fun f => .inr (5, [.ref (nt_a w 2), .ref (nt_a w 3), .ref (nt_a w 4), .ref (nt_a w 5), .int (f 4)]) := by
  obtain ⟨nr, ln, cI, cR, h1, h2, h3, h4⟩ := hw
  have hc : nt_cI w = cI := by simp [nt_cI, h1]
  rw [h3 1 (by omega)]
  try rw [hc]
  rfl
theorem nt_e2 {w : nt_w} (hw : nt_isX w) : nt_E w 2 = fun f => .inl ((nt_cI w), 8, .inl f) := by
  obtain ⟨nr, ln, cI, cR, h1, h2, h3, h4⟩ := hw
  have hc : nt_cI w = cI := by simp [nt_cI, h1]
  rw [h3 2 (by omega)]
  try rw [hc]
  rfl
theorem nt_e3 {w : nt_w} (hw : nt_isX w) : nt_E w 3 = fun f => .inl ((nt_cI w), 8, .inl f) := by
  obtain ⟨nr, ln, cI, cR, h1, h2, h3, h4⟩ := hw
  have hc : nt_cI w = cI := by simp [nt_cI, h1]
  rw [h3 3 (by omega)]
  try rw [hc]
  rfl
theorem nt_e4 {w : nt_w} (hw : nt_isX w) : nt_E w 4 = fun f => .inl ((nt_cI w), 8, .inl f) := by
  obtain ⟨nr, ln, cI, cR, h1, h2, h3, h4⟩ := hw
  have hc : nt_cI w = cI := by simp [nt_cI, h1]
  rw [h3 4 (by omega)]
  try rw [hc]
  rfl
theorem nt_e5 {w : nt_w} (hw : nt_isX w) : nt_E w 5 = fun f => .inl ((nt_cI w), 8, .inl f) := by
  obtain ⟨nr, ln, cI, cR, h1, h2, h3, h4⟩ := hw
  have hc : nt_cI w = cI := by simp [nt_cI, h1]
  rw [h3 5 (by omega)]
  try rw [hc]
  rfl
theorem nt_e6 {w : nt_w} (hw : nt_isX w) : nt_E w 6 = fun f => .inr (6, [.ref (nt_a w 7), .ref (nt_a w 8), .ref (nt_a w 9), .int (f 3)]) := by
  obtain ⟨nr, ln, cI, cR, h1, h2, h3, h4⟩ := hw
  have hc : nt_cI w = cI := by simp [nt_cI, h1]
  rw [h3 6 (by omega)]
  try rw [hc]
  rfl
theorem nt_e8 {w : nt_w} (hw : nt_isX w) : nt_E w 8 = fun f => .inl ((nt_cI w), 6, .inl f) := by
  obtain ⟨nr, ln, cI, cR, h1, h2, h3, h4⟩ := hw
  have hc : nt_cI w = cI := by simp [nt_cI, h1]
  rw [h3 8 (by omega)]
  try rw [hc]
  rfl
theorem nt_e9 {w : nt_w} (hw : nt_isX w) : nt_E w 9 = fun f => .inl ((nt_cI w), 31, .inl f) := by
  obtain ⟨nr, ln, cI, cR, h1, h2, h3, h4⟩ := hw
  have hc : nt_cI w = cI := by simp [nt_cI, h1]
  rw [h3 9 (by omega)]
  try rw [hc]
  rfl
theorem nt_e10 {w : nt_w} (hw : nt_isX w) : nt_E w 10 = fun f => .inr (1, [.ref (nt_a w 11), .int (f 1), .int (f 2), .int (f 3), .int (f 4), .int (f 5), .ref (nt_a w 12), .int (f 7), .ref (nt_a w 13)]) := by
  obtain ⟨nr, ln, cI, cR, h1, h2, h3, h4⟩ := hw
  have hc : nt_cI w = cI := by simp [nt_cI, h1]
  rw [h3 10 (by omega)]
  try rw [hc]
  rfl
theorem nt_e11 {w : nt_w} (hw : nt_isX w) : nt_E w 11 = fun f => .inl ((nt_cI w), 160, .inl f) := by
  obtain ⟨nr, ln, cI, cR, h1, h2, h3, h4⟩ := hw
  have hc : nt_cI w = cI := by simp [nt_cI, h1]
  rw [h3 11 (by omega)]
  try rw [hc]
  rfl
theorem nt_e12 {w : nt_w} (hw : nt_isX w) : nt_E w 12 = fun f => .inl ((nt_cI w), 160, .inl f) := by
  obtain ⟨nr, ln, cI, cR, h1, h2, h3, h4⟩ := hw
  have hc : nt_cI w = cI := by simp [nt_cI, h1]
  rw [h3 12 (by omega)]
  try rw [hc]
  rfl
theorem nt_e13 {w : nt_w} (hw : nt_isX w) : nt_E w 13 = fun f => .inl ((nt_cI w), 3, .inl f) := by
  obtain ⟨nr, ln, cI, cR, h1, h2, h3, h4⟩ := hw
  have hc : nt_cI w = cI := by simp [nt_cI, h1]
  rw [h3 13 (by omega)]
  try rw [hc]
  rfl
theorem nt_e35 {w : nt_w} (hw : nt_isX w) : nt_E w 35 = fun f => .inr (3, [.ref (nt_a w 14), .ref (nt_a w 36), .ref (nt_a w 37), .int (f 3), .ref (nt_a w 38), .ref (nt_a w 39), .ref (nt_a w 40), .ref (nt_a w 41), .ref (nt_a w 42)]) := by
  obtain ⟨nr, ln, cI, cR, h1, h2, h3, h4⟩ := hw
  have hc : nt_cI w = cI := by simp [nt_cI, h1]
  rw [h3 35 (by omega)]
  try rw [hc]
  rfl
theorem nt_e36 {w : nt_w} (hw : nt_isX w) : nt_E w 36 = fun f => .inl ((nt_cI w), 8, .inl f) := by
  obtain ⟨nr, ln, cI, cR, h1, h2, h3, h4⟩ := hw
  have hc : nt_cI w = cI := by simp [nt_cI, h1]
  rw [h3 36 (by omega)]
  try rw [hc]
  rfl
theorem nt_e37 {w : nt_w} (hw : nt_isX w) : nt_E w 37 = fun f => .inl ((nt_cI w), 8, .inl f) := by
  obtain ⟨nr, ln, cI, cR, h1, h2, h3, h4⟩ := hw
  have hc : nt_cI w = cI := by simp [nt_cI, h1]
  rw [h3 37 (by omega)]
  try rw [hc]
  rfl
theorem nt_e38 {w : nt_w} (hw : nt_isX w) : nt_E w 38 = fun f => .inl ((nt_cI w), 8, .inl f) := by
  obtain ⟨nr, ln, cI, cR, h1, h2, h3, h4⟩ := hw
  have hc : nt_cI w = cI := by simp [nt_cI, h1]
  rw [h3 38 (by omega)]
  try rw [hc]
  rfl
theorem nt_e39 {w : nt_w} (hw : nt_isX w) : nt_E w 39 = fun f => .inl ((nt_cI w), 72, .inl f) := by
  obtain ⟨nr, ln, cI, cR, h1, h2, h3, h4⟩ := hw
  have hc : nt_cI w = cI := by simp [nt_cI, h1]
  rw [h3 39 (by omega)]
  try rw [hc]
  rfl
theorem nt_e40 {w : nt_w} (hw : nt_isX w) : nt_E w 40 = fun f => .inl ((nt_cI w), 4, .inl f) := by
  obtain ⟨nr, ln, cI, cR, h1, h2, h3, h4⟩ := hw
  have hc : nt_cI w = cI := by simp [nt_cI, h1]
  rw [h3 40 (by omega)]
  try rw [hc]
  rfl
theorem nt_e41 {w : nt_w} (hw : nt_isX w) : nt_E w 41 = fun f => .inl ((nt_cI w), 4, .inl f) := by
  obtain ⟨nr, ln, cI, cR, h1, h2, h3, h4⟩ := hw
  have hc : nt_cI w = cI := by simp [nt_cI, h1]
  rw [h3 41 (by omega)]
  try rw [hc]
  rfl
theorem nt_e42 {w : nt_w} (hw : nt_isX w) : nt_E w 42 = fun f => .inl ((nt_cI w), 4, .inl f) := by
  obtain ⟨nr, ln, cI, cR, h1, h2, h3, h4⟩ := hw
  have hc : nt_cI w = cI := by simp [nt_cI, h1]
  rw [h3 42 (by omega)]
  try rw [hc]
  rfl
theorem nt_e43 {w : nt_w} (hw : nt_isX w) : nt_E w 43 = fun f => .inr (4, [.ref (nt_a w 44), .ref (nt_a w 45), .ref (nt_a w 46)]) := by
  obtain ⟨nr, ln, cI, cR, h1, h2, h3, h4⟩ := hw
  have hc : nt_cI w = cI := by simp [nt_cI, h1]
  rw [h3 43 (by omega)]
  try rw [hc]
  rfl
theorem nt_e44 {w : nt_w} (hw : nt_isX w) : nt_E w 44 = fun f => .inl ((nt_cI w), 4, .inl f) := by
  obtain ⟨nr, ln, cI, cR, h1, h2, h3, h4⟩ := hw
  have hc : nt_cI w = cI := by simp [nt_cI, h1]
  rw [h3 44 (by omega)]
  try rw [hc]
  rfl
theorem nt_e45 {w : nt_w} (hw : nt_isX w) : nt_E w 45 = fun f => .inl ((nt_cI w), 4, .inl f) := by
  obtain ⟨nr, ln, cI, cR, h1, h2, h3, h4⟩ := hw
  have hc : nt_cI w = cI := by simp [nt_cI, h1]
  rw [h3 45 (by omega)]
  try rw [hc]
  rfl
theorem nt_e46 {w : nt_w} (hw : nt_isX w) : nt_E w 46 = fun f => .inl ((nt_cI w), 160, .inl f) := by
  obtain ⟨nr, ln, cI, cR, h1, h2, h3, h4⟩ := hw
  have hc : nt_cI w = cI := by simp [nt_cI, h1]
  rw [h3 46 (by omega)]
  try rw [hc]
  rfl
theorem nt_eP {w : nt_w} (hw : nt_isX w) {b : Nat} (hb : nt_isP b) : nt_E w b = fun f => .inr (0, [.ref (nt_a w 1), .ref (nt_a w 6), .ref (nt_a w (b + 1)), .ref (nt_a w (b + 2)), .ref (nt_a w (b + 3)), .ref (nt_a w (b + 4)), .ref (nt_a w (b + 5)), .int (f 7), .int (f 8), .int (f 9), .int (f 10), .ref (nt_a w (b + 6)), .int (f 12), .int (f 13)]) := by
  obtain ⟨nr, ln, cI, cR, h1, h2, h3, h4⟩ := hw
  rw [h3 b (by rcases hb with rfl | rfl | rfl <;> omega)]
  rcases hb with rfl | rfl | rfl <;> rfl
theorem nt_eP1 {w : nt_w} (hw : nt_isX w) {b : Nat} (hb : nt_isP b) : nt_E w (b + 1) = fun f => .inl (nt_cI w, 9, .inl f) := by
  obtain ⟨nr, ln, cI, cR, h1, h2, h3, h4⟩ := hw
  have hc : nt_cI w = cI := by simp [nt_cI, h1]
  rw [h3 (b + 1) (by rcases hb with rfl | rfl | rfl <;> omega), hc]
  rcases hb with rfl | rfl | rfl <;> rfl
theorem nt_eP2 {w : nt_w} (hw : nt_isX w) {b : Nat} (hb : nt_isP b) : nt_E w (b + 2) = fun f => .inl (nt_cI w, 9, .inl f) := by
  obtain ⟨nr, ln, cI, cR, h1, h2, h3, h4⟩ := hw
  have hc : nt_cI w = cI := by simp [nt_cI, h1]
  rw [h3 (b + 2) (by rcases hb with rfl | rfl | rfl <;> omega), hc]
  rcases hb with rfl | rfl | rfl <;> rfl
theorem nt_eP3 {w : nt_w} (hw : nt_isX w) {b : Nat} (hb : nt_isP b) : nt_E w (b + 3) = fun f => .inl (nt_cI w, 9, .inl f) := by
  obtain ⟨nr, ln, cI, cR, h1, h2, h3, h4⟩ := hw
  have hc : nt_cI w = cI := by simp [nt_cI, h1]
  rw [h3 (b + 3) (by rcases hb with rfl | rfl | rfl <;> omega), hc]
  rcases hb with rfl | rfl | rfl <;> rfl
theorem nt_eP4 {w : nt_w} (hw : nt_isX w) {b : Nat} (hb : nt_isP b) : nt_E w (b + 4) = fun f => .inl (nt_cI w, 9, .inl f) := by
  obtain ⟨nr, ln, cI, cR, h1, h2, h3, h4⟩ := hw
  have hc : nt_cI w = cI := by simp [nt_cI, h1]
  rw [h3 (b + 4) (by rcases hb with rfl | rfl | rfl <;> omega), hc]
  rcases hb with rfl | rfl | rfl <;> rfl
theorem nt_eP5 {w : nt_w} (hw : nt_isX w) {b : Nat} (hb : nt_isP b) : nt_E w (b + 5) = fun f => .inl (nt_cI w, 72, .inl f) := by
  obtain ⟨nr, ln, cI, cR, h1, h2, h3, h4⟩ := hw
  have hc : nt_cI w = cI := by simp [nt_cI, h1]
  rw [h3 (b + 5) (by rcases hb with rfl | rfl | rfl <;> omega), hc]
  rcases hb with rfl | rfl | rfl <;> rfl
theorem nt_eP6 {w : nt_w} (hw : nt_isX w) {b : Nat} (hb : nt_isP b) : nt_E w (b + 6) = fun f => .inl (nt_cI w, 9, .inl f) := by
  obtain ⟨nr, ln, cI, cR, h1, h2, h3, h4⟩ := hw
  have hc : nt_cI w = cI := by simp [nt_cI, h1]
  rw [h3 (b + 6) (by rcases hb with rfl | rfl | rfl <;> omega), hc]
  rcases hb with rfl | rfl | rfl <;> rfl
/-- a world in which the tape's and the texts' cells stand, be it half built -/
def nt_isD (w : nt_w) : Prop := w.2.1[0]? = some (nt_cI w, .int) ∧ 14 ≤ nt_n w ∧ (∀ k, 1 ≤ k → k ≤ 13 → k ≠ 7 → nt_E w k = nt_EX (nt_a w) 0 (fun _ => 0) (nt_cI w) (0 : Nat) k) ∧ (w.2.2.2.1 = .null ∨ ∃ a, w.2.2.2.1 = .ref a)
theorem nt_lD {w : nt_w} (hw : nt_isD w) {k : Nat} (h : k < 14) : k < nt_n w := Nat.lt_of_lt_of_le h hw.2.1
theorem nt_tD {w : nt_w} (hw : nt_isD w) : w.2.1[0]? = some (nt_cI w, .int) := hw.1
theorem nt_zfD {w : nt_w} (hw : nt_isD w) : w.2.2.2.1 = .null ∨ ∃ a, w.2.2.2.1 = .ref a := hw.2.2.2
theorem nt_d6 {w : nt_w} (hw : nt_isD w) : nt_E w 6 = fun f => .inr (6, [.ref (nt_a w 7), .ref (nt_a w 8), .ref (nt_a w 9), .int (f 3)]) := hw.2.2.1 6 (by decide) (by decide) (by decide)
theorem nt_d8 {w : nt_w} (hw : nt_isD w) : nt_E w 8 = fun f => .inl ((nt_cI w), 6, .inl f) := hw.2.2.1 8 (by decide) (by decide) (by decide)
theorem nt_d9 {w : nt_w} (hw : nt_isD w) : nt_E w 9 = fun f => .inl ((nt_cI w), 31, .inl f) := hw.2.2.1 9 (by decide) (by decide) (by decide)
theorem nt_d10 {w : nt_w} (hw : nt_isD w) : nt_E w 10 = fun f => .inr (1, [.ref (nt_a w 11), .int (f 1), .int (f 2), .int (f 3), .int (f 4), .int (f 5), .ref (nt_a w 12), .int (f 7), .ref (nt_a w 13)]) := hw.2.2.1 10 (by decide) (by decide) (by decide)
theorem nt_d11 {w : nt_w} (hw : nt_isD w) : nt_E w 11 = fun f => .inl ((nt_cI w), 160, .inl f) := hw.2.2.1 11 (by decide) (by decide) (by decide)
theorem nt_d12 {w : nt_w} (hw : nt_isD w) : nt_E w 12 = fun f => .inl ((nt_cI w), 160, .inl f) := hw.2.2.1 12 (by decide) (by decide) (by decide)
theorem nt_d13 {w : nt_w} (hw : nt_isD w) : nt_E w 13 = fun f => .inl ((nt_cI w), 3, .inl f) := hw.2.2.1 13 (by decide) (by decide) (by decide)
theorem nt_XD {w : nt_w} (hw : nt_isX w) : nt_isD w := by
  refine ⟨nt_tX hw, nt_lX hw (k := 13) (by omega), fun k h1 h2 h7 => ?_, nt_zfX hw⟩
  rcases (show k = 1 ∨ k = 2 ∨ k = 3 ∨ k = 4 ∨ k = 5 ∨ k = 6 ∨ k = 8 ∨ k = 9 ∨ k = 10 ∨ k = 11 ∨ k = 12 ∨ k = 13 by omega) with rfl | rfl | rfl | rfl | rfl | rfl | rfl | rfl | rfl | rfl | rfl | rfl
  · exact nt_e1 hw
  · exact nt_e2 hw
  · exact nt_e3 hw
  · exact nt_e4 hw
  · exact nt_e5 hw
  · exact nt_e6 hw
  · exact nt_e8 hw
  · exact nt_e9 hw
  · exact nt_e10 hw
  · exact nt_e11 hw
  · exact nt_e12 hw
  · exact nt_e13 hw
def nt_tpM (lay : Nat → Nat) (f : Nat → Int32) : List Value := [.int (f 0), .ref (lay 1), .ref (lay 2), .int (f 3), .int (f 4), .ref (lay 3), .int (f 6), .ref (lay 4), .ref (lay 5), .ref (lay 6), .ref (lay 7), .int (f 11), .ref (lay 8), .ref (lay 9), .ref (lay 10), .ref (lay 11), .ref (lay 12), .int (f 17), .int (f 18), .int (f 19), .int (f 20), .int (f 21), .int (f 22), .int (f 23), .int (f 24), .int (f 25), .int (f 26), .int (f 27), .int (f 28), .int (f 29), .long (nt_mk (f 130) (f 230)), .int (f 31), .int (f 32), .int (f 33), .int (f 34), .ref (lay 13), .ref (lay 14), .ref (lay 15), .int (f 38), .ref (lay 16), .ref (lay 17), .ref (lay 18), .ref (lay 19), .ref (lay 20), .int (f 44), .int (f 45), .int (f 46), .ref (lay 21), .ref (lay 22), .ref (lay 23), .ref (lay 24)]
def nt_EM (lay : Nat → Nat) (cI cZ : ClassId) (k : Nat) (f : Nat → Int32) : va_E := match k with
  | 0 => .inr (8, nt_tpM lay f)
  | 1 => .inl (cI, 960, .inl f)
  | 2 => .inl (cI, 6, .inl f)
  | 3 => .inl (cI, 160, .inl f)
  | 4 => .inl (cI, 8, .inl f)
  | 5 => .inl (cI, 8, .inl f)
  | 6 => .inl (cI, 8, .inl f)
  | 7 => .inl (cI, 8, .inl f)
  | 8 => .inl (cI, 9, .inl f)
  | 9 => .inl (cI, 9, .inl f)
  | 10 => .inl (cI, 9, .inl f)
  | 11 => .inl (cI, 9, .inl f)
  | 12 => .inl (cI, 72, .inl f)
  | 13 => .inl (cI, 9, .inl f)
  | 14 => .inl (cI, 9, .inl f)
  | 15 => .inl (cI, 72, .inl f)
  | 16 => .inl (cI, 8, .inl f)
  | 17 => .inl (cI, 576, .inl f)
  | 18 => .inl (cI, 9, .inl f)
  | 19 => .inl (cI, 9, .inl f)
  | 20 => .inl (cI, 72, .inl f)
  | 21 => .inl (cZ, 4, .inl f)
  | 22 => .inl (cI, 4, .inl f)
  | 23 => .inl (cI, 4, .inl f)
  | 24 => .inl (cI, 160, .inl f)
  | _ => .inl (cI, 0, .inl f)
def nt_isM (w : nt_w) : Prop := ∃ (cI cZ : ClassId), w.2.1 = [(cI, .int), (cZ, .boolean)] ∧ nt_n w = 25 ∧ nt_E w = nt_EM (nt_a w) cI cZ
def nt_cZ (w : nt_w) : ClassId := match w.2.1 with
  | _ :: q :: _ => q.1
  | _ => (0 : Nat)
theorem nt_lM {w : nt_w} (hw : nt_isM w) {k : Nat} (h : k < 25) : k < nt_n w := by
  obtain ⟨cI, cZ, h1, h2, h3⟩ := hw
  omega
theorem nt_tM {w : nt_w} (hw : nt_isM w) : w.2.1[0]? = some (nt_cI w, .int) := by
  obtain ⟨cI, cZ, h1, h2, h3⟩ := hw
  simp [nt_cI, h1]
theorem nt_tZ {w : nt_w} (hw : nt_isM w) : w.2.1[1]? = some (nt_cZ w, .boolean) := by
  obtain ⟨cI, cZ, h1, h2, h3⟩ := hw
  simp [nt_cZ, h1]
theorem nt_m0 {w : nt_w} (hw : nt_isM w) : nt_E w 0 = fun f => .inr (8, nt_tpM (nt_a w) f) := by
  obtain ⟨cI, cZ, h1, h2, h3⟩ := hw
  rw [h3]
  rfl
theorem nt_m1 {w : nt_w} (hw : nt_isM w) : nt_E w 1 = fun f => .inl (nt_cI w, 960, .inl f) := by
  obtain ⟨cI, cZ, h1, h2, h3⟩ := hw
  have hc : nt_cI w = cI := by simp [nt_cI, h1]
  rw [h3, hc]
  rfl
theorem nt_m2 {w : nt_w} (hw : nt_isM w) : nt_E w 2 = fun f => .inl (nt_cI w, 6, .inl f) := by
  obtain ⟨cI, cZ, h1, h2, h3⟩ := hw
  have hc : nt_cI w = cI := by simp [nt_cI, h1]
  rw [h3, hc]
  rfl
theorem nt_m3 {w : nt_w} (hw : nt_isM w) : nt_E w 3 = fun f => .inl (nt_cI w, 160, .inl f) := by
  obtain ⟨cI, cZ, h1, h2, h3⟩ := hw
  have hc : nt_cI w = cI := by simp [nt_cI, h1]
  rw [h3, hc]
  rfl
theorem nt_m4 {w : nt_w} (hw : nt_isM w) : nt_E w 4 = fun f => .inl (nt_cI w, 8, .inl f) := by
  obtain ⟨cI, cZ, h1, h2, h3⟩ := hw
  have hc : nt_cI w = cI := by simp [nt_cI, h1]
  rw [h3, hc]
  rfl
theorem nt_m5 {w : nt_w} (hw : nt_isM w) : nt_E w 5 = fun f => .inl (nt_cI w, 8, .inl f) := by
  obtain ⟨cI, cZ, h1, h2, h3⟩ := hw
  have hc : nt_cI w = cI := by simp [nt_cI, h1]
  rw [h3, hc]
  rfl
theorem nt_m6 {w : nt_w} (hw : nt_isM w) : nt_E w 6 = fun f => .inl (nt_cI w, 8, .inl f) := by
  obtain ⟨cI, cZ, h1, h2, h3⟩ := hw
  have hc : nt_cI w = cI := by simp [nt_cI, h1]
  rw [h3, hc]
  rfl
theorem nt_m7 {w : nt_w} (hw : nt_isM w) : nt_E w 7 = fun f => .inl (nt_cI w, 8, .inl f) := by
  obtain ⟨cI, cZ, h1, h2, h3⟩ := hw
  have hc : nt_cI w = cI := by simp [nt_cI, h1]
  rw [h3, hc]
  rfl
theorem nt_m8 {w : nt_w} (hw : nt_isM w) : nt_E w 8 = fun f => .inl (nt_cI w, 9, .inl f) := by
  obtain ⟨cI, cZ, h1, h2, h3⟩ := hw
  have hc : nt_cI w = cI := by simp [nt_cI, h1]
  rw [h3, hc]
  rfl
theorem nt_m9 {w : nt_w} (hw : nt_isM w) : nt_E w 9 = fun f => .inl (nt_cI w, 9, .inl f) := by
  obtain ⟨cI, cZ, h1, h2, h3⟩ := hw
  have hc : nt_cI w = cI := by simp [nt_cI, h1]
  rw [h3, hc]
  rfl
theorem nt_m10 {w : nt_w} (hw : nt_isM w) : nt_E w 10 = fun f => .inl (nt_cI w, 9, .inl f) := by
  obtain ⟨cI, cZ, h1, h2, h3⟩ := hw
  have hc : nt_cI w = cI := by simp [nt_cI, h1]
  rw [h3, hc]
  rfl
theorem nt_m11 {w : nt_w} (hw : nt_isM w) : nt_E w 11 = fun f => .inl (nt_cI w, 9, .inl f) := by
  obtain ⟨cI, cZ, h1, h2, h3⟩ := hw
  have hc : nt_cI w = cI := by simp [nt_cI, h1]
  rw [h3, hc]
  rfl
theorem nt_m12 {w : nt_w} (hw : nt_isM w) : nt_E w 12 = fun f => .inl (nt_cI w, 72, .inl f) := by
  obtain ⟨cI, cZ, h1, h2, h3⟩ := hw
  have hc : nt_cI w = cI := by simp [nt_cI, h1]
  rw [h3, hc]
  rfl
theorem nt_m13 {w : nt_w} (hw : nt_isM w) : nt_E w 13 = fun f => .inl (nt_cI w, 9, .inl f) := by
  obtain ⟨cI, cZ, h1, h2, h3⟩ := hw
  have hc : nt_cI w = cI := by simp [nt_cI, h1]
  rw [h3, hc]
  rfl
theorem nt_m14 {w : nt_w} (hw : nt_isM w) : nt_E w 14 = fun f => .inl (nt_cI w, 9, .inl f) := by
  obtain ⟨cI, cZ, h1, h2, h3⟩ := hw
  have hc : nt_cI w = cI := by simp [nt_cI, h1]
  rw [h3, hc]
  rfl
theorem nt_m15 {w : nt_w} (hw : nt_isM w) : nt_E w 15 = fun f => .inl (nt_cI w, 72, .inl f) := by
  obtain ⟨cI, cZ, h1, h2, h3⟩ := hw
  have hc : nt_cI w = cI := by simp [nt_cI, h1]
  rw [h3, hc]
  rfl
theorem nt_m16 {w : nt_w} (hw : nt_isM w) : nt_E w 16 = fun f => .inl (nt_cI w, 8, .inl f) := by
  obtain ⟨cI, cZ, h1, h2, h3⟩ := hw
  have hc : nt_cI w = cI := by simp [nt_cI, h1]
  rw [h3, hc]
  rfl
theorem nt_m17 {w : nt_w} (hw : nt_isM w) : nt_E w 17 = fun f => .inl (nt_cI w, 576, .inl f) := by
  obtain ⟨cI, cZ, h1, h2, h3⟩ := hw
  have hc : nt_cI w = cI := by simp [nt_cI, h1]
  rw [h3, hc]
  rfl
theorem nt_m18 {w : nt_w} (hw : nt_isM w) : nt_E w 18 = fun f => .inl (nt_cI w, 9, .inl f) := by
  obtain ⟨cI, cZ, h1, h2, h3⟩ := hw
  have hc : nt_cI w = cI := by simp [nt_cI, h1]
  rw [h3, hc]
  rfl
theorem nt_m19 {w : nt_w} (hw : nt_isM w) : nt_E w 19 = fun f => .inl (nt_cI w, 9, .inl f) := by
  obtain ⟨cI, cZ, h1, h2, h3⟩ := hw
  have hc : nt_cI w = cI := by simp [nt_cI, h1]
  rw [h3, hc]
  rfl
theorem nt_m20 {w : nt_w} (hw : nt_isM w) : nt_E w 20 = fun f => .inl (nt_cI w, 72, .inl f) := by
  obtain ⟨cI, cZ, h1, h2, h3⟩ := hw
  have hc : nt_cI w = cI := by simp [nt_cI, h1]
  rw [h3, hc]
  rfl
theorem nt_m21 {w : nt_w} (hw : nt_isM w) : nt_E w 21 = fun f => .inl (nt_cZ w, 4, .inl f) := by
  obtain ⟨cI, cZ, h1, h2, h3⟩ := hw
  have hc : nt_cZ w = cZ := by simp [nt_cZ, h1]
  rw [h3, hc]
  rfl
theorem nt_m22 {w : nt_w} (hw : nt_isM w) : nt_E w 22 = fun f => .inl (nt_cI w, 4, .inl f) := by
  obtain ⟨cI, cZ, h1, h2, h3⟩ := hw
  have hc : nt_cI w = cI := by simp [nt_cI, h1]
  rw [h3, hc]
  rfl
theorem nt_m23 {w : nt_w} (hw : nt_isM w) : nt_E w 23 = fun f => .inl (nt_cI w, 4, .inl f) := by
  obtain ⟨cI, cZ, h1, h2, h3⟩ := hw
  have hc : nt_cI w = cI := by simp [nt_cI, h1]
  rw [h3, hc]
  rfl
theorem nt_m24 {w : nt_w} (hw : nt_isM w) : nt_E w 24 = fun f => .inl (nt_cI w, 160, .inl f) := by
  obtain ⟨cI, cZ, h1, h2, h3⟩ := hw
  have hc : nt_cI w = cI := by simp [nt_cI, h1]
  rw [h3, hc]
  rfl
/-- a long's two halves come to slots 100 + j, 200 + j -/
def nt_stl (g : nt_T) (k j : Nat) (v : Int64) : nt_T := nt_sc g k (upd (upd (g k) (100 + j) (nt_hi v)) (200 + j) (nt_lo v))
theorem nt_mlong {lay : Nat → Nat} (f : Nat → Int32) (v : Int64) : (nt_tpM lay f).set 30 (.long v) = nt_tpM lay (upd (upd f 130 (nt_hi v)) 230 (nt_lo v)) := by
  have e : nt_mk (upd (upd f 130 (nt_hi v)) 230 (nt_lo v) 130) (upd (upd f 130 (nt_hi v)) 230 (nt_lo v) 230) = v := by
    have e1 : upd (upd f 130 (nt_hi v)) 230 (nt_lo v) 130 = nt_hi v := rfl
    have e2 : upd (upd f 130 (nt_hi v)) 230 (nt_lo v) 230 = nt_lo v := rfl
    rw [e1, e2, nt_mk_hl]
  unfold nt_tpM
  rw [e]
  rfl
/-- statics -/
def nt_und (i : Int32) : Int32 := [-1, 0, 0, 1, 2, 1].getD i.toNatClampNeg 0
section NU
variable {p : Program} {l : Launch} {e : Env} {R : Room} {s : State} {m : MethodId} {args : Array Value} {below : List Frame} {meth : Method} {c : Code} {cells slots : Nat} {Q : State → Prop}
variable {cc : ByteArray} {nL : Nat} {own : String} {ret : Option FieldType} {w : nt_w} {A : Nat → Prop} {g : nt_T} {pc : Nat} {lv : List (Nat × Value)} {rest : List Value}
theorem nt_gund (X : nt_X cc nL own ret w A p s m args meth c) {index : Nat} (hw : Cond.fieldLink own index RX5 "UNDER" "[I" ∈ nt_tbl) (d : decode cc pc = .ok (.getstatic index, 3)) (k : nt_G p l e R s m args below meth c w A cells slots Q nL (pc + 3) lv (.ref (w.2.2.1 0) :: rest) g) : nt_G p l e R s m args below meth c w A cells slots Q nL pc lv rest g := fun H locs ls hP hD hS hl => va_gets X.1 X.2.1 X.2.2.2.2.2.2.2.2.2.2.1 hS X.2.2.2.1 (X.2.2.2.2.1 _ hw) (fun _ h => h) d (k H locs ls hP hD hS hl)
theorem nt_uld (X : nt_X cc nL own ret w A p s m args meth c) {i : Int32} (hi : nt_in i 6 = true) (d : decode cc pc = .ok (.iaload, 1)) (k : nt_G p l e R s m args below meth c w A cells slots Q nL (pc + 1) lv (.int (nt_und i) :: rest) g) : nt_G p l e R s m args below meth c w A cells slots Q nL pc lv (.int i :: .ref (w.2.2.1 0) :: rest) g := fun H locs ls hP hD hS hl => va_ti X.1 X.2.1 X.2.2.2.2.2.2.2.2.2.2.2.1 hS (nt_in_vp hi) rfl d (k H locs ls hP hD hS hl)
end NU
def nt_ushr (x y : Int32) : Int32 := (x.toUInt32 >>> (y.toUInt32 &&& Int32.toUInt32 31)).toInt32
def nt_i8 (x : Int32) : Int32 := x.toInt8.toInt32
def nt_i16 (x : Int32) : Int32 := x.toInt16.toInt32
def nt_u16 (x : Int32) : Int32 := (x.toUInt32 % 65536).toInt32
def nt_max (x y : Int32) : Int32 := if x < y then y else x
def nt_min (x y : Int32) : Int32 := if y < x then y else x
theorem nt_cb_m100 : (Int8.ofInt (-100)).toInt32 = (-100 : Int32) := by decide
theorem nt_cb_m99 : (Int8.ofInt (-99)).toInt32 = (-99 : Int32) := by decide
theorem nt_cb_m14 : (Int8.ofInt (-14)).toInt32 = (-14 : Int32) := by decide
theorem nt_cb_m13 : (Int8.ofInt (-13)).toInt32 = (-13 : Int32) := by decide
theorem nt_cb_m12 : (Int8.ofInt (-12)).toInt32 = (-12 : Int32) := by decide
theorem nt_cb_m11 : (Int8.ofInt (-11)).toInt32 = (-11 : Int32) := by decide
theorem nt_cb_m4 : (Int8.ofInt (-4)).toInt32 = (-4 : Int32) := by decide
theorem nt_cb_m3 : (Int8.ofInt (-3)).toInt32 = (-3 : Int32) := by decide
theorem nt_cb_m2 : (Int8.ofInt (-2)).toInt32 = (-2 : Int32) := by decide
theorem nt_cb_6 : (Int8.ofInt (6)).toInt32 = (6 : Int32) := by decide
theorem nt_cb_7 : (Int8.ofInt (7)).toInt32 = (7 : Int32) := by decide
theorem nt_cb_8 : (Int8.ofInt (8)).toInt32 = (8 : Int32) := by decide
theorem nt_cb_9 : (Int8.ofInt (9)).toInt32 = (9 : Int32) := by decide
theorem nt_cb_10 : (Int8.ofInt (10)).toInt32 = (10 : Int32) := by decide
theorem nt_cb_12 : (Int8.ofInt (12)).toInt32 = (12 : Int32) := by decide
theorem nt_cb_13 : (Int8.ofInt (13)).toInt32 = (13 : Int32) := by decide
theorem nt_cb_14 : (Int8.ofInt (14)).toInt32 = (14 : Int32) := by decide
theorem nt_cb_15 : (Int8.ofInt (15)).toInt32 = (15 : Int32) := by decide
theorem nt_cb_16 : (Int8.ofInt (16)).toInt32 = (16 : Int32) := by decide
theorem nt_cb_17 : (Int8.ofInt (17)).toInt32 = (17 : Int32) := by decide
theorem nt_cb_20 : (Int8.ofInt (20)).toInt32 = (20 : Int32) := by decide
theorem nt_cb_21 : (Int8.ofInt (21)).toInt32 = (21 : Int32) := by decide
theorem nt_cb_22 : (Int8.ofInt (22)).toInt32 = (22 : Int32) := by decide
theorem nt_cb_24 : (Int8.ofInt (24)).toInt32 = (24 : Int32) := by decide
theorem nt_cb_30 : (Int8.ofInt (30)).toInt32 = (30 : Int32) := by decide
theorem nt_cb_31 : (Int8.ofInt (31)).toInt32 = (31 : Int32) := by decide
theorem nt_cb_32 : (Int8.ofInt (32)).toInt32 = (32 : Int32) := by decide
theorem nt_cb_40 : (Int8.ofInt (40)).toInt32 = (40 : Int32) := by decide
theorem nt_cb_41 : (Int8.ofInt (41)).toInt32 = (41 : Int32) := by decide
theorem nt_cb_42 : (Int8.ofInt (42)).toInt32 = (42 : Int32) := by decide
theorem nt_cb_43 : (Int8.ofInt (43)).toInt32 = (43 : Int32) := by decide
theorem nt_cb_45 : (Int8.ofInt (45)).toInt32 = (45 : Int32) := by decide
theorem nt_cb_48 : (Int8.ofInt (48)).toInt32 = (48 : Int32) := by decide
theorem nt_cb_49 : (Int8.ofInt (49)).toInt32 = (49 : Int32) := by decide
theorem nt_cb_50 : (Int8.ofInt (50)).toInt32 = (50 : Int32) := by decide
theorem nt_cb_52 : (Int8.ofInt (52)).toInt32 = (52 : Int32) := by decide
theorem nt_cb_56 : (Int8.ofInt (56)).toInt32 = (56 : Int32) := by decide
theorem nt_cb_57 : (Int8.ofInt (57)).toInt32 = (57 : Int32) := by decide
theorem nt_cb_59 : (Int8.ofInt (59)).toInt32 = (59 : Int32) := by decide
theorem nt_cb_60 : (Int8.ofInt (60)).toInt32 = (60 : Int32) := by decide
theorem nt_cb_61 : (Int8.ofInt (61)).toInt32 = (61 : Int32) := by decide
theorem nt_cb_63 : (Int8.ofInt (63)).toInt32 = (63 : Int32) := by decide
theorem nt_cb_64 : (Int8.ofInt (64)).toInt32 = (64 : Int32) := by decide
theorem nt_cb_72 : (Int8.ofInt (72)).toInt32 = (72 : Int32) := by decide
theorem nt_cb_97 : (Int8.ofInt (97)).toInt32 = (97 : Int32) := by decide
theorem nt_cb_99 : (Int8.ofInt (99)).toInt32 = (99 : Int32) := by decide
theorem nt_cb_100 : (Int8.ofInt (100)).toInt32 = (100 : Int32) := by decide
theorem nt_cb_101 : (Int8.ofInt (101)).toInt32 = (101 : Int32) := by decide
theorem nt_cb_103 : (Int8.ofInt (103)).toInt32 = (103 : Int32) := by decide
theorem nt_cb_104 : (Int8.ofInt (104)).toInt32 = (104 : Int32) := by decide
theorem nt_cb_105 : (Int8.ofInt (105)).toInt32 = (105 : Int32) := by decide
theorem nt_cb_107 : (Int8.ofInt (107)).toInt32 = (107 : Int32) := by decide
theorem nt_cb_108 : (Int8.ofInt (108)).toInt32 = (108 : Int32) := by decide
theorem nt_cb_109 : (Int8.ofInt (109)).toInt32 = (109 : Int32) := by decide
theorem nt_cb_110 : (Int8.ofInt (110)).toInt32 = (110 : Int32) := by decide
theorem nt_cb_111 : (Int8.ofInt (111)).toInt32 = (111 : Int32) := by decide
theorem nt_cb_112 : (Int8.ofInt (112)).toInt32 = (112 : Int32) := by decide
theorem nt_cb_114 : (Int8.ofInt (114)).toInt32 = (114 : Int32) := by decide
theorem nt_cb_115 : (Int8.ofInt (115)).toInt32 = (115 : Int32) := by decide
theorem nt_cb_116 : (Int8.ofInt (116)).toInt32 = (116 : Int32) := by decide
theorem nt_cb_119 : (Int8.ofInt (119)).toInt32 = (119 : Int32) := by decide
theorem nt_cb_121 : (Int8.ofInt (121)).toInt32 = (121 : Int32) := by decide
theorem nt_cb_122 : (Int8.ofInt (122)).toInt32 = (122 : Int32) := by decide
theorem nt_ci_m1 : Int32.ofInt (-1) = (-1 : Int32) := by decide
theorem nt_ci_0 : Int32.ofInt (0) = (0 : Int32) := by decide
theorem nt_ci_1 : Int32.ofInt (1) = (1 : Int32) := by decide
theorem nt_ci_2 : Int32.ofInt (2) = (2 : Int32) := by decide
theorem nt_ci_3 : Int32.ofInt (3) = (3 : Int32) := by decide
theorem nt_ci_4 : Int32.ofInt (4) = (4 : Int32) := by decide
theorem nt_ci_5 : Int32.ofInt (5) = (5 : Int32) := by decide
theorem nt_cl_0 : Int64.ofNat ((0 : Fin 2) : Nat) = (0 : Int64) := by decide
theorem nt_cl_1 : Int64.ofNat ((1 : Fin 2) : Nat) = (1 : Int64) := by decide
theorem nt_cs_160 : (Int16.ofInt (160)).toInt32 = (160 : Int32) := by decide
theorem nt_cs_255 : (Int16.ofInt (255)).toInt32 = (255 : Int32) := by decide
theorem nt_cs_256 : (Int16.ofInt (256)).toInt32 = (256 : Int32) := by decide
theorem nt_cs_400 : (Int16.ofInt (400)).toInt32 = (400 : Int32) := by decide
theorem nt_cs_576 : (Int16.ofInt (576)).toInt32 = (576 : Int32) := by decide
theorem nt_cs_960 : (Int16.ofInt (960)).toInt32 = (960 : Int32) := by decide
theorem nt_cs_999 : (Int16.ofInt (999)).toInt32 = (999 : Int32) := by decide
theorem nt_cs_1023 : (Int16.ofInt (1023)).toInt32 = (1023 : Int32) := by decide
theorem nt_cs_4096 : (Int16.ofInt (4096)).toInt32 = (4096 : Int32) := by decide
theorem nt_cs_12345 : (Int16.ofInt (12345)).toInt32 = (12345 : Int32) := by decide
theorem hd_J0_charAt_5068e : yJ0_charAt_5068e.cls ≠ "java/lang/invoke/MethodHandle" ∧ yJ0_charAt_5068e.cls ≠ "java/lang/invoke/VarHandle" ∧ (parseMethodDescriptor yJ0_charAt_5068e.desc).map (fun d => d.parameters.length) = some 1 := by decide +kernel
theorem hd_J0_checkBoundsBeginEnd_23922 : yJ0_checkBoundsBeginEnd_23922.cls ≠ "java/lang/invoke/MethodHandle" ∧ yJ0_checkBoundsBeginEnd_23922.cls ≠ "java/lang/invoke/VarHandle" ∧ (parseMethodDescriptor yJ0_checkBoundsBeginEnd_23922.desc).map (fun d => d.parameters.length) = some 3 := by decide +kernel
theorem hd_J0_checkIndex_df160 : yJ0_checkIndex_df160.cls ≠ "java/lang/invoke/MethodHandle" ∧ yJ0_checkIndex_df160.cls ≠ "java/lang/invoke/VarHandle" ∧ (parseMethodDescriptor yJ0_checkIndex_df160.desc).map (fun d => d.parameters.length) = some 2 := by decide +kernel
theorem hd_J0_coder_7d493 : yJ0_coder_7d493.cls ≠ "java/lang/invoke/MethodHandle" ∧ yJ0_coder_7d493.cls ≠ "java/lang/invoke/VarHandle" ∧ (parseMethodDescriptor yJ0_coder_7d493.desc).map (fun d => d.parameters.length) = some 0 := by decide +kernel
theorem hd_J0_indexOf_0f7a4 : yJ0_indexOf_0f7a4.cls ≠ "java/lang/invoke/MethodHandle" ∧ yJ0_indexOf_0f7a4.cls ≠ "java/lang/invoke/VarHandle" ∧ (parseMethodDescriptor yJ0_indexOf_0f7a4.desc).map (fun d => d.parameters.length) = some 1 := by decide +kernel
theorem hd_J0_indexOf_7cf53 : yJ0_indexOf_7cf53.cls ≠ "java/lang/invoke/MethodHandle" ∧ yJ0_indexOf_7cf53.cls ≠ "java/lang/invoke/VarHandle" ∧ (parseMethodDescriptor yJ0_indexOf_7cf53.desc).map (fun d => d.parameters.length) = some 2 := by decide +kernel
theorem hd_J0_isLatin1_aae02 : yJ0_isLatin1_aae02.cls ≠ "java/lang/invoke/MethodHandle" ∧ yJ0_isLatin1_aae02.cls ≠ "java/lang/invoke/VarHandle" ∧ (parseMethodDescriptor yJ0_isLatin1_aae02.desc).map (fun d => d.parameters.length) = some 0 := by decide +kernel
theorem hd_J0_length_8abf5 : yJ0_length_8abf5.cls ≠ "java/lang/invoke/MethodHandle" ∧ yJ0_length_8abf5.cls ≠ "java/lang/invoke/VarHandle" ∧ (parseMethodDescriptor yJ0_length_8abf5.desc).map (fun d => d.parameters.length) = some 0 := by decide +kernel
theorem hd_J11_highSurrogate_5068e : yJ11_highSurrogate_5068e.cls ≠ "java/lang/invoke/MethodHandle" ∧ yJ11_highSurrogate_5068e.cls ≠ "java/lang/invoke/VarHandle" ∧ (parseMethodDescriptor yJ11_highSurrogate_5068e.desc).map (fun d => d.parameters.length) = some 1 := by decide +kernel
theorem hd_J11_isValidCodePoint_9a6ad : yJ11_isValidCodePoint_9a6ad.cls ≠ "java/lang/invoke/MethodHandle" ∧ yJ11_isValidCodePoint_9a6ad.cls ≠ "java/lang/invoke/VarHandle" ∧ (parseMethodDescriptor yJ11_isValidCodePoint_9a6ad.desc).map (fun d => d.parameters.length) = some 1 := by decide +kernel
theorem hd_J11_lowSurrogate_5068e : yJ11_lowSurrogate_5068e.cls ≠ "java/lang/invoke/MethodHandle" ∧ yJ11_lowSurrogate_5068e.cls ≠ "java/lang/invoke/VarHandle" ∧ (parseMethodDescriptor yJ11_lowSurrogate_5068e.desc).map (fun d => d.parameters.length) = some 1 := by decide +kernel
theorem hd_J1_canEncode_9a6ad : yJ1_canEncode_9a6ad.cls ≠ "java/lang/invoke/MethodHandle" ∧ yJ1_canEncode_9a6ad.cls ≠ "java/lang/invoke/VarHandle" ∧ (parseMethodDescriptor yJ1_canEncode_9a6ad.desc).map (fun d => d.parameters.length) = some 1 := by decide +kernel
theorem hd_J1_charAt_3b067 : yJ1_charAt_3b067.cls ≠ "java/lang/invoke/MethodHandle" ∧ yJ1_charAt_3b067.cls ≠ "java/lang/invoke/VarHandle" ∧ (parseMethodDescriptor yJ1_charAt_3b067.desc).map (fun d => d.parameters.length) = some 2 := by decide +kernel
theorem hd_J1_indexOfChar_4cfef : yJ1_indexOfChar_4cfef.cls ≠ "java/lang/invoke/MethodHandle" ∧ yJ1_indexOfChar_4cfef.cls ≠ "java/lang/invoke/VarHandle" ∧ (parseMethodDescriptor yJ1_indexOfChar_4cfef.desc).map (fun d => d.parameters.length) = some 4 := by decide +kernel
theorem hd_J1_indexOf_4cfef : yJ1_indexOf_4cfef.cls ≠ "java/lang/invoke/MethodHandle" ∧ yJ1_indexOf_4cfef.cls ≠ "java/lang/invoke/VarHandle" ∧ (parseMethodDescriptor yJ1_indexOf_4cfef.desc).map (fun d => d.parameters.length) = some 4 := by decide +kernel
theorem hd_J2_charAt_3b067 : yJ2_charAt_3b067.cls ≠ "java/lang/invoke/MethodHandle" ∧ yJ2_charAt_3b067.cls ≠ "java/lang/invoke/VarHandle" ∧ (parseMethodDescriptor yJ2_charAt_3b067.desc).map (fun d => d.parameters.length) = some 2 := by decide +kernel
theorem hd_J2_checkBoundsBeginEnd_d044e : yJ2_checkBoundsBeginEnd_d044e.cls ≠ "java/lang/invoke/MethodHandle" ∧ yJ2_checkBoundsBeginEnd_d044e.cls ≠ "java/lang/invoke/VarHandle" ∧ (parseMethodDescriptor yJ2_checkBoundsBeginEnd_d044e.desc).map (fun d => d.parameters.length) = some 3 := by decide +kernel
theorem hd_J2_checkIndex_2214a : yJ2_checkIndex_2214a.cls ≠ "java/lang/invoke/MethodHandle" ∧ yJ2_checkIndex_2214a.cls ≠ "java/lang/invoke/VarHandle" ∧ (parseMethodDescriptor yJ2_checkIndex_2214a.desc).map (fun d => d.parameters.length) = some 2 := by decide +kernel
theorem hd_J2_getChar_3b067 : yJ2_getChar_3b067.cls ≠ "java/lang/invoke/MethodHandle" ∧ yJ2_getChar_3b067.cls ≠ "java/lang/invoke/VarHandle" ∧ (parseMethodDescriptor yJ2_getChar_3b067.desc).map (fun d => d.parameters.length) = some 2 := by decide +kernel
theorem hd_J2_indexOfCharUnsafe_4cfef : yJ2_indexOfCharUnsafe_4cfef.cls ≠ "java/lang/invoke/MethodHandle" ∧ yJ2_indexOfCharUnsafe_4cfef.cls ≠ "java/lang/invoke/VarHandle" ∧ (parseMethodDescriptor yJ2_indexOfCharUnsafe_4cfef.desc).map (fun d => d.parameters.length) = some 4 := by decide +kernel
theorem hd_J2_indexOfChar_4cfef : yJ2_indexOfChar_4cfef.cls ≠ "java/lang/invoke/MethodHandle" ∧ yJ2_indexOfChar_4cfef.cls ≠ "java/lang/invoke/VarHandle" ∧ (parseMethodDescriptor yJ2_indexOfChar_4cfef.desc).map (fun d => d.parameters.length) = some 4 := by decide +kernel
theorem hd_J2_indexOfSupplementary_4cfef : yJ2_indexOfSupplementary_4cfef.cls ≠ "java/lang/invoke/MethodHandle" ∧ yJ2_indexOfSupplementary_4cfef.cls ≠ "java/lang/invoke/VarHandle" ∧ (parseMethodDescriptor yJ2_indexOfSupplementary_4cfef.desc).map (fun d => d.parameters.length) = some 4 := by decide +kernel
theorem hd_J2_indexOf_4cfef : yJ2_indexOf_4cfef.cls ≠ "java/lang/invoke/MethodHandle" ∧ yJ2_indexOf_4cfef.cls ≠ "java/lang/invoke/VarHandle" ∧ (parseMethodDescriptor yJ2_indexOf_4cfef.desc).map (fun d => d.parameters.length) = some 4 := by decide +kernel
theorem hd_J2_length_9d52b : yJ2_length_9d52b.cls ≠ "java/lang/invoke/MethodHandle" ∧ yJ2_length_9d52b.cls ≠ "java/lang/invoke/VarHandle" ∧ (parseMethodDescriptor yJ2_length_9d52b.desc).map (fun d => d.parameters.length) = some 1 := by decide +kernel
theorem hd_J3_checkFromToIndex_8c36e : yJ3_checkFromToIndex_8c36e.cls ≠ "java/lang/invoke/MethodHandle" ∧ yJ3_checkFromToIndex_8c36e.cls ≠ "java/lang/invoke/VarHandle" ∧ (parseMethodDescriptor yJ3_checkFromToIndex_8c36e.desc).map (fun d => d.parameters.length) = some 4 := by decide +kernel
theorem hd_J3_checkIndex_8e157 : yJ3_checkIndex_8e157.cls ≠ "java/lang/invoke/MethodHandle" ∧ yJ3_checkIndex_8e157.cls ≠ "java/lang/invoke/VarHandle" ∧ (parseMethodDescriptor yJ3_checkIndex_8e157.desc).map (fun d => d.parameters.length) = some 3 := by decide +kernel
theorem hd_J6_bitCount_0f7a4 : yJ6_bitCount_0f7a4.cls ≠ "java/lang/invoke/MethodHandle" ∧ yJ6_bitCount_0f7a4.cls ≠ "java/lang/invoke/VarHandle" ∧ (parseMethodDescriptor yJ6_bitCount_0f7a4.desc).map (fun d => d.parameters.length) = some 1 := by decide +kernel
theorem hd_X0_bestOf : yX0_bestOf.cls ≠ "java/lang/invoke/MethodHandle" ∧ yX0_bestOf.cls ≠ "java/lang/invoke/VarHandle" ∧ (parseMethodDescriptor yX0_bestOf.desc).map (fun d => d.parameters.length) = some 1 := by decide +kernel
theorem hd_X0_bounded : yX0_bounded.cls ≠ "java/lang/invoke/MethodHandle" ∧ yX0_bounded.cls ≠ "java/lang/invoke/VarHandle" ∧ (parseMethodDescriptor yX0_bounded.desc).map (fun d => d.parameters.length) = some 2 := by decide +kernel
theorem hd_X0_byWhom : yX0_byWhom.cls ≠ "java/lang/invoke/MethodHandle" ∧ yX0_byWhom.cls ≠ "java/lang/invoke/VarHandle" ∧ (parseMethodDescriptor yX0_byWhom.desc).map (fun d => d.parameters.length) = some 2 := by decide +kernel
theorem hd_X0_come : yX0_come.cls ≠ "java/lang/invoke/MethodHandle" ∧ yX0_come.cls ≠ "java/lang/invoke/VarHandle" ∧ (parseMethodDescriptor yX0_come.desc).map (fun d => d.parameters.length) = some 2 := by decide +kernel
theorem hd_X0_firstTeller : yX0_firstTeller.cls ≠ "java/lang/invoke/MethodHandle" ∧ yX0_firstTeller.cls ≠ "java/lang/invoke/VarHandle" ∧ (parseMethodDescriptor yX0_firstTeller.desc).map (fun d => d.parameters.length) = some 2 := by decide +kernel
theorem hd_X0_forget : yX0_forget.cls ≠ "java/lang/invoke/MethodHandle" ∧ yX0_forget.cls ≠ "java/lang/invoke/VarHandle" ∧ (parseMethodDescriptor yX0_forget.desc).map (fun d => d.parameters.length) = some 2 := by decide +kernel
theorem hd_X0_goBackTo : yX0_goBackTo.cls ≠ "java/lang/invoke/MethodHandle" ∧ yX0_goBackTo.cls ≠ "java/lang/invoke/VarHandle" ∧ (parseMethodDescriptor yX0_goBackTo.desc).map (fun d => d.parameters.length) = some 1 := by decide +kernel
theorem hd_X0_has : yX0_has.cls ≠ "java/lang/invoke/MethodHandle" ∧ yX0_has.cls ≠ "java/lang/invoke/VarHandle" ∧ (parseMethodDescriptor yX0_has.desc).map (fun d => d.parameters.length) = some 1 := by decide +kernel
theorem hd_X0_hear : yX0_hear.cls ≠ "java/lang/invoke/MethodHandle" ∧ yX0_hear.cls ≠ "java/lang/invoke/VarHandle" ∧ (parseMethodDescriptor yX0_hear.desc).map (fun d => d.parameters.length) = some 2 := by decide +kernel
theorem hd_X0_init : yX0_init.cls ≠ "java/lang/invoke/MethodHandle" ∧ yX0_init.cls ≠ "java/lang/invoke/VarHandle" ∧ (parseMethodDescriptor yX0_init.desc).map (fun d => d.parameters.length) = some 2 := by decide +kernel
theorem hd_X0_knows : yX0_knows.cls ≠ "java/lang/invoke/MethodHandle" ∧ yX0_knows.cls ≠ "java/lang/invoke/VarHandle" ∧ (parseMethodDescriptor yX0_knows.desc).map (fun d => d.parameters.length) = some 1 := by decide +kernel
theorem hd_X0_lookInto : yX0_lookInto.cls ≠ "java/lang/invoke/MethodHandle" ∧ yX0_lookInto.cls ≠ "java/lang/invoke/VarHandle" ∧ (parseMethodDescriptor yX0_lookInto.desc).map (fun d => d.parameters.length) = some 1 := by decide +kernel
theorem hd_X0_newToOthers : yX0_newToOthers.cls ≠ "java/lang/invoke/MethodHandle" ∧ yX0_newToOthers.cls ≠ "java/lang/invoke/VarHandle" ∧ (parseMethodDescriptor yX0_newToOthers.desc).map (fun d => d.parameters.length) = some 1 := by decide +kernel
theorem hd_X0_sit : yX0_sit.cls ≠ "java/lang/invoke/MethodHandle" ∧ yX0_sit.cls ≠ "java/lang/invoke/VarHandle" ∧ (parseMethodDescriptor yX0_sit.desc).map (fun d => d.parameters.length) = some 3 := by decide +kernel
theorem hd_X0_sleep : yX0_sleep.cls ≠ "java/lang/invoke/MethodHandle" ∧ yX0_sleep.cls ≠ "java/lang/invoke/VarHandle" ∧ (parseMethodDescriptor yX0_sleep.desc).map (fun d => d.parameters.length) = some 0 := by decide +kernel
theorem hd_X0_spend : yX0_spend.cls ≠ "java/lang/invoke/MethodHandle" ∧ yX0_spend.cls ≠ "java/lang/invoke/VarHandle" ∧ (parseMethodDescriptor yX0_spend.desc).map (fun d => d.parameters.length) = some 2 := by decide +kernel
theorem hd_X0_takeAll : yX0_takeAll.cls ≠ "java/lang/invoke/MethodHandle" ∧ yX0_takeAll.cls ≠ "java/lang/invoke/VarHandle" ∧ (parseMethodDescriptor yX0_takeAll.desc).map (fun d => d.parameters.length) = some 1 := by decide +kernel
theorem hd_X0_tellableBy : yX0_tellableBy.cls ≠ "java/lang/invoke/MethodHandle" ∧ yX0_tellableBy.cls ≠ "java/lang/invoke/VarHandle" ∧ (parseMethodDescriptor yX0_tellableBy.desc).map (fun d => d.parameters.length) = some 1 := by decide +kernel
theorem hd_X0_tellableIn : yX0_tellableIn.cls ≠ "java/lang/invoke/MethodHandle" ∧ yX0_tellableIn.cls ≠ "java/lang/invoke/VarHandle" ∧ (parseMethodDescriptor yX0_tellableIn.desc).map (fun d => d.parameters.length) = some 1 := by decide +kernel
theorem hd_X0_tellableOf : yX0_tellableOf.cls ≠ "java/lang/invoke/MethodHandle" ∧ yX0_tellableOf.cls ≠ "java/lang/invoke/VarHandle" ∧ (parseMethodDescriptor yX0_tellableOf.desc).map (fun d => d.parameters.length) = some 2 := by decide +kernel
theorem hd_X0_unheardIn : yX0_unheardIn.cls ≠ "java/lang/invoke/MethodHandle" ∧ yX0_unheardIn.cls ≠ "java/lang/invoke/VarHandle" ∧ (parseMethodDescriptor yX0_unheardIn.desc).map (fun d => d.parameters.length) = some 1 := by decide +kernel
theorem hd_X0_value : yX0_value.cls ≠ "java/lang/invoke/MethodHandle" ∧ yX0_value.cls ≠ "java/lang/invoke/VarHandle" ∧ (parseMethodDescriptor yX0_value.desc).map (fun d => d.parameters.length) = some 4 := by decide +kernel
theorem hd_X0_worthBy : yX0_worthBy.cls ≠ "java/lang/invoke/MethodHandle" ∧ yX0_worthBy.cls ≠ "java/lang/invoke/VarHandle" ∧ (parseMethodDescriptor yX0_worthBy.desc).map (fun d => d.parameters.length) = some 2 := by decide +kernel
theorem hd_X0_worthOf : yX0_worthOf.cls ≠ "java/lang/invoke/MethodHandle" ∧ yX0_worthOf.cls ≠ "java/lang/invoke/VarHandle" ∧ (parseMethodDescriptor yX0_worthOf.desc).map (fun d => d.parameters.length) = some 2 := by decide +kernel
theorem hd_X1_empty : yX1_empty.cls ≠ "java/lang/invoke/MethodHandle" ∧ yX1_empty.cls ≠ "java/lang/invoke/VarHandle" ∧ (parseMethodDescriptor yX1_empty.desc).map (fun d => d.parameters.length) = some 0 := by decide +kernel
theorem hd_X1_init : yX1_init.cls ≠ "java/lang/invoke/MethodHandle" ∧ yX1_init.cls ≠ "java/lang/invoke/VarHandle" ∧ (parseMethodDescriptor yX1_init.desc).map (fun d => d.parameters.length) = some 0 := by decide +kernel
theorem hd_X1_isDigit : yX1_isDigit.cls ≠ "java/lang/invoke/MethodHandle" ∧ yX1_isDigit.cls ≠ "java/lang/invoke/VarHandle" ∧ (parseMethodDescriptor yX1_isDigit.desc).map (fun d => d.parameters.length) = some 1 := by decide +kernel
theorem hd_X1_isLetter : yX1_isLetter.cls ≠ "java/lang/invoke/MethodHandle" ∧ yX1_isLetter.cls ≠ "java/lang/invoke/VarHandle" ∧ (parseMethodDescriptor yX1_isLetter.desc).map (fun d => d.parameters.length) = some 1 := by decide +kernel
theorem hd_X1_levelOf : yX1_levelOf.cls ≠ "java/lang/invoke/MethodHandle" ∧ yX1_levelOf.cls ≠ "java/lang/invoke/VarHandle" ∧ (parseMethodDescriptor yX1_levelOf.desc).map (fun d => d.parameters.length) = some 1 := by decide +kernel
theorem hd_X1_made : yX1_made.cls ≠ "java/lang/invoke/MethodHandle" ∧ yX1_made.cls ≠ "java/lang/invoke/VarHandle" ∧ (parseMethodDescriptor yX1_made.desc).map (fun d => d.parameters.length) = some 0 := by decide +kernel
theorem hd_X1_numeral : yX1_numeral.cls ≠ "java/lang/invoke/MethodHandle" ∧ yX1_numeral.cls ≠ "java/lang/invoke/VarHandle" ∧ (parseMethodDescriptor yX1_numeral.desc).map (fun d => d.parameters.length) = some 0 := by decide +kernel
theorem hd_X1_place : yX1_place.cls ≠ "java/lang/invoke/MethodHandle" ∧ yX1_place.cls ≠ "java/lang/invoke/VarHandle" ∧ (parseMethodDescriptor yX1_place.desc).map (fun d => d.parameters.length) = some 0 := by decide +kernel
theorem hd_X1_put : yX1_put.cls ≠ "java/lang/invoke/MethodHandle" ∧ yX1_put.cls ≠ "java/lang/invoke/VarHandle" ∧ (parseMethodDescriptor yX1_put.desc).map (fun d => d.parameters.length) = some 1 := by decide +kernel
theorem hd_X1_putFirstText : yX1_putFirstText.cls ≠ "java/lang/invoke/MethodHandle" ∧ yX1_putFirstText.cls ≠ "java/lang/invoke/VarHandle" ∧ (parseMethodDescriptor yX1_putFirstText.desc).map (fun d => d.parameters.length) = some 0 := by decide +kernel
theorem hd_X1_reads : yX1_reads.cls ≠ "java/lang/invoke/MethodHandle" ∧ yX1_reads.cls ≠ "java/lang/invoke/VarHandle" ∧ (parseMethodDescriptor yX1_reads.desc).map (fun d => d.parameters.length) = some 0 := by decide +kernel
theorem hd_X1_readsLevel : yX1_readsLevel.cls ≠ "java/lang/invoke/MethodHandle" ∧ yX1_readsLevel.cls ≠ "java/lang/invoke/VarHandle" ∧ (parseMethodDescriptor yX1_readsLevel.desc).map (fun d => d.parameters.length) = some 1 := by decide +kernel
theorem hd_X1_readsOpened : yX1_readsOpened.cls ≠ "java/lang/invoke/MethodHandle" ∧ yX1_readsOpened.cls ≠ "java/lang/invoke/VarHandle" ∧ (parseMethodDescriptor yX1_readsOpened.desc).map (fun d => d.parameters.length) = some 0 := by decide +kernel
theorem hd_X1_readsPlain : yX1_readsPlain.cls ≠ "java/lang/invoke/MethodHandle" ∧ yX1_readsPlain.cls ≠ "java/lang/invoke/VarHandle" ∧ (parseMethodDescriptor yX1_readsPlain.desc).map (fun d => d.parameters.length) = some 0 := by decide +kernel
theorem hd_X1_step : yX1_step.cls ≠ "java/lang/invoke/MethodHandle" ∧ yX1_step.cls ≠ "java/lang/invoke/VarHandle" ∧ (parseMethodDescriptor yX1_step.desc).map (fun d => d.parameters.length) = some 0 := by decide +kernel
theorem hd_X1_takes : yX1_takes.cls ≠ "java/lang/invoke/MethodHandle" ∧ yX1_takes.cls ≠ "java/lang/invoke/VarHandle" ∧ (parseMethodDescriptor yX1_takes.desc).map (fun d => d.parameters.length) = some 1 := by decide +kernel
theorem hd_X1_word : yX1_word.cls ≠ "java/lang/invoke/MethodHandle" ∧ yX1_word.cls ≠ "java/lang/invoke/VarHandle" ∧ (parseMethodDescriptor yX1_word.desc).map (fun d => d.parameters.length) = some 0 := by decide +kernel
theorem hd_X1_write : yX1_write.cls ≠ "java/lang/invoke/MethodHandle" ∧ yX1_write.cls ≠ "java/lang/invoke/VarHandle" ∧ (parseMethodDescriptor yX1_write.desc).map (fun d => d.parameters.length) = some 1 := by decide +kernel
theorem hd_X2_init : yX2_init.cls ≠ "java/lang/invoke/MethodHandle" ∧ yX2_init.cls ≠ "java/lang/invoke/VarHandle" ∧ (parseMethodDescriptor yX2_init.desc).map (fun d => d.parameters.length) = some 4 := by decide +kernel
theorem hd_X2_joined : yX2_joined.cls ≠ "java/lang/invoke/MethodHandle" ∧ yX2_joined.cls ≠ "java/lang/invoke/VarHandle" ∧ (parseMethodDescriptor yX2_joined.desc).map (fun d => d.parameters.length) = some 3 := by decide +kernel
theorem hd_X2_value : yX2_value.cls ≠ "java/lang/invoke/MethodHandle" ∧ yX2_value.cls ≠ "java/lang/invoke/VarHandle" ∧ (parseMethodDescriptor yX2_value.desc).map (fun d => d.parameters.length) = some 3 := by decide +kernel
theorem hd_X3_awakeOf : yX3_awakeOf.cls ≠ "java/lang/invoke/MethodHandle" ∧ yX3_awakeOf.cls ≠ "java/lang/invoke/VarHandle" ∧ (parseMethodDescriptor yX3_awakeOf.desc).map (fun d => d.parameters.length) = some 2 := by decide +kernel
theorem hd_X3_fillHouses : yX3_fillHouses.cls ≠ "java/lang/invoke/MethodHandle" ∧ yX3_fillHouses.cls ≠ "java/lang/invoke/VarHandle" ∧ (parseMethodDescriptor yX3_fillHouses.desc).map (fun d => d.parameters.length) = some 1 := by decide +kernel
theorem hd_X3_housesWithStory : yX3_housesWithStory.cls ≠ "java/lang/invoke/MethodHandle" ∧ yX3_housesWithStory.cls ≠ "java/lang/invoke/VarHandle" ∧ (parseMethodDescriptor yX3_housesWithStory.desc).map (fun d => d.parameters.length) = some 1 := by decide +kernel
theorem hd_X3_init : yX3_init.cls ≠ "java/lang/invoke/MethodHandle" ∧ yX3_init.cls ≠ "java/lang/invoke/VarHandle" ∧ (parseMethodDescriptor yX3_init.desc).map (fun d => d.parameters.length) = some 1 := by decide +kernel
theorem hd_X3_nextWay : yX3_nextWay.cls ≠ "java/lang/invoke/MethodHandle" ∧ yX3_nextWay.cls ≠ "java/lang/invoke/VarHandle" ∧ (parseMethodDescriptor yX3_nextWay.desc).map (fun d => d.parameters.length) = some 1 := by decide +kernel
theorem hd_X3_prepare : yX3_prepare.cls ≠ "java/lang/invoke/MethodHandle" ∧ yX3_prepare.cls ≠ "java/lang/invoke/VarHandle" ∧ (parseMethodDescriptor yX3_prepare.desc).map (fun d => d.parameters.length) = some 0 := by decide +kernel
theorem hd_X3_search : yX3_search.cls ≠ "java/lang/invoke/MethodHandle" ∧ yX3_search.cls ≠ "java/lang/invoke/VarHandle" ∧ (parseMethodDescriptor yX3_search.desc).map (fun d => d.parameters.length) = some 1 := by decide +kernel
theorem hd_X3_waysOver : yX3_waysOver.cls ≠ "java/lang/invoke/MethodHandle" ∧ yX3_waysOver.cls ≠ "java/lang/invoke/VarHandle" ∧ (parseMethodDescriptor yX3_waysOver.desc).map (fun d => d.parameters.length) = some 1 := by decide +kernel
theorem hd_X4_at : yX4_at.cls ≠ "java/lang/invoke/MethodHandle" ∧ yX4_at.cls ≠ "java/lang/invoke/VarHandle" ∧ (parseMethodDescriptor yX4_at.desc).map (fun d => d.parameters.length) = some 2 := by decide +kernel
theorem hd_X4_carry : yX4_carry.cls ≠ "java/lang/invoke/MethodHandle" ∧ yX4_carry.cls ≠ "java/lang/invoke/VarHandle" ∧ (parseMethodDescriptor yX4_carry.desc).map (fun d => d.parameters.length) = some 5 := by decide +kernel
theorem hd_X4_has : yX4_has.cls ≠ "java/lang/invoke/MethodHandle" ∧ yX4_has.cls ≠ "java/lang/invoke/VarHandle" ∧ (parseMethodDescriptor yX4_has.desc).map (fun d => d.parameters.length) = some 1 := by decide +kernel
theorem hd_X4_hasRun : yX4_hasRun.cls ≠ "java/lang/invoke/MethodHandle" ∧ yX4_hasRun.cls ≠ "java/lang/invoke/VarHandle" ∧ (parseMethodDescriptor yX4_hasRun.desc).map (fun d => d.parameters.length) = some 3 := by decide +kernel
theorem hd_X4_init : yX4_init.cls ≠ "java/lang/invoke/MethodHandle" ∧ yX4_init.cls ≠ "java/lang/invoke/VarHandle" ∧ (parseMethodDescriptor yX4_init.desc).map (fun d => d.parameters.length) = some 0 := by decide +kernel
theorem hd_X4_isMissing : yX4_isMissing.cls ≠ "java/lang/invoke/MethodHandle" ∧ yX4_isMissing.cls ≠ "java/lang/invoke/VarHandle" ∧ (parseMethodDescriptor yX4_isMissing.desc).map (fun d => d.parameters.length) = some 1 := by decide +kernel
theorem hd_X4_lay : yX4_lay.cls ≠ "java/lang/invoke/MethodHandle" ∧ yX4_lay.cls ≠ "java/lang/invoke/VarHandle" ∧ (parseMethodDescriptor yX4_lay.desc).map (fun d => d.parameters.length) = some 3 := by decide +kernel
theorem hd_X4_reaches : yX4_reaches.cls ≠ "java/lang/invoke/MethodHandle" ∧ yX4_reaches.cls ≠ "java/lang/invoke/VarHandle" ∧ (parseMethodDescriptor yX4_reaches.desc).map (fun d => d.parameters.length) = some 2 := by decide +kernel
theorem hd_X4_write : yX4_write.cls ≠ "java/lang/invoke/MethodHandle" ∧ yX4_write.cls ≠ "java/lang/invoke/VarHandle" ∧ (parseMethodDescriptor yX4_write.desc).map (fun d => d.parameters.length) = some 3 := by decide +kernel
theorem hd_X5_add : yX5_add.cls ≠ "java/lang/invoke/MethodHandle" ∧ yX5_add.cls ≠ "java/lang/invoke/VarHandle" ∧ (parseMethodDescriptor yX5_add.desc).map (fun d => d.parameters.length) = some 3 := by decide +kernel
theorem hd_X5_all : yX5_all.cls ≠ "java/lang/invoke/MethodHandle" ∧ yX5_all.cls ≠ "java/lang/invoke/VarHandle" ∧ (parseMethodDescriptor yX5_all.desc).map (fun d => d.parameters.length) = some 0 := by decide +kernel
theorem hd_X5_counts : yX5_counts.cls ≠ "java/lang/invoke/MethodHandle" ∧ yX5_counts.cls ≠ "java/lang/invoke/VarHandle" ∧ (parseMethodDescriptor yX5_counts.desc).map (fun d => d.parameters.length) = some 2 := by decide +kernel
theorem hd_X5_has : yX5_has.cls ≠ "java/lang/invoke/MethodHandle" ∧ yX5_has.cls ≠ "java/lang/invoke/VarHandle" ∧ (parseMethodDescriptor yX5_has.desc).map (fun d => d.parameters.length) = some 1 := by decide +kernel
theorem hd_X5_init : yX5_init.cls ≠ "java/lang/invoke/MethodHandle" ∧ yX5_init.cls ≠ "java/lang/invoke/VarHandle" ∧ (parseMethodDescriptor yX5_init.desc).map (fun d => d.parameters.length) = some 0 := by decide +kernel
theorem hd_X5_isUnder : yX5_isUnder.cls ≠ "java/lang/invoke/MethodHandle" ∧ yX5_isUnder.cls ≠ "java/lang/invoke/VarHandle" ∧ (parseMethodDescriptor yX5_isUnder.desc).map (fun d => d.parameters.length) = some 2 := by decide +kernel
theorem hd_X5_join : yX5_join.cls ≠ "java/lang/invoke/MethodHandle" ∧ yX5_join.cls ≠ "java/lang/invoke/VarHandle" ∧ (parseMethodDescriptor yX5_join.desc).map (fun d => d.parameters.length) = some 2 := by decide +kernel
theorem hd_X5_part : yX5_part.cls ≠ "java/lang/invoke/MethodHandle" ∧ yX5_part.cls ≠ "java/lang/invoke/VarHandle" ∧ (parseMethodDescriptor yX5_part.desc).map (fun d => d.parameters.length) = some 1 := by decide +kernel
theorem hd_X5_stays : yX5_stays.cls ≠ "java/lang/invoke/MethodHandle" ∧ yX5_stays.cls ≠ "java/lang/invoke/VarHandle" ∧ (parseMethodDescriptor yX5_stays.desc).map (fun d => d.parameters.length) = some 1 := by decide +kernel
theorem hd_X5_withTwins : yX5_withTwins.cls ≠ "java/lang/invoke/MethodHandle" ∧ yX5_withTwins.cls ≠ "java/lang/invoke/VarHandle" ∧ (parseMethodDescriptor yX5_withTwins.desc).map (fun d => d.parameters.length) = some 1 := by decide +kernel
theorem hd_X7_add : yX7_add.cls ≠ "java/lang/invoke/MethodHandle" ∧ yX7_add.cls ≠ "java/lang/invoke/VarHandle" ∧ (parseMethodDescriptor yX7_add.desc).map (fun d => d.parameters.length) = some 1 := by decide +kernel
theorem hd_X7_at : yX7_at.cls ≠ "java/lang/invoke/MethodHandle" ∧ yX7_at.cls ≠ "java/lang/invoke/VarHandle" ∧ (parseMethodDescriptor yX7_at.desc).map (fun d => d.parameters.length) = some 1 := by decide +kernel
theorem hd_X7_has : yX7_has.cls ≠ "java/lang/invoke/MethodHandle" ∧ yX7_has.cls ≠ "java/lang/invoke/VarHandle" ∧ (parseMethodDescriptor yX7_has.desc).map (fun d => d.parameters.length) = some 1 := by decide +kernel
theorem hd_X7_init : yX7_init.cls ≠ "java/lang/invoke/MethodHandle" ∧ yX7_init.cls ≠ "java/lang/invoke/VarHandle" ∧ (parseMethodDescriptor yX7_init.desc).map (fun d => d.parameters.length) = some 0 := by decide +kernel
theorem hd_X7_isFull : yX7_isFull.cls ≠ "java/lang/invoke/MethodHandle" ∧ yX7_isFull.cls ≠ "java/lang/invoke/VarHandle" ∧ (parseMethodDescriptor yX7_isFull.desc).map (fun d => d.parameters.length) = some 0 := by decide +kernel
theorem hd_X8_back : yX8_back.cls ≠ "java/lang/invoke/MethodHandle" ∧ yX8_back.cls ≠ "java/lang/invoke/VarHandle" ∧ (parseMethodDescriptor yX8_back.desc).map (fun d => d.parameters.length) = some 0 := by decide +kernel
theorem hd_X8_by : yX8_by.cls ≠ "java/lang/invoke/MethodHandle" ∧ yX8_by.cls ≠ "java/lang/invoke/VarHandle" ∧ (parseMethodDescriptor yX8_by.desc).map (fun d => d.parameters.length) = some 2 := by decide +kernel
theorem hd_X8_canTellAll : yX8_canTellAll.cls ≠ "java/lang/invoke/MethodHandle" ∧ yX8_canTellAll.cls ≠ "java/lang/invoke/VarHandle" ∧ (parseMethodDescriptor yX8_canTellAll.desc).map (fun d => d.parameters.length) = some 2 := by decide +kernel
theorem hd_X8_cell : yX8_cell.cls ≠ "java/lang/invoke/MethodHandle" ∧ yX8_cell.cls ≠ "java/lang/invoke/VarHandle" ∧ (parseMethodDescriptor yX8_cell.desc).map (fun d => d.parameters.length) = some 3 := by decide +kernel
theorem hd_X8_copy : yX8_copy.cls ≠ "java/lang/invoke/MethodHandle" ∧ yX8_copy.cls ≠ "java/lang/invoke/VarHandle" ∧ (parseMethodDescriptor yX8_copy.desc).map (fun d => d.parameters.length) = some 5 := by decide +kernel
theorem hd_X8_count : yX8_count.cls ≠ "java/lang/invoke/MethodHandle" ∧ yX8_count.cls ≠ "java/lang/invoke/VarHandle" ∧ (parseMethodDescriptor yX8_count.desc).map (fun d => d.parameters.length) = some 1 := by decide +kernel
theorem hd_X8_drawn : yX8_drawn.cls ≠ "java/lang/invoke/MethodHandle" ∧ yX8_drawn.cls ≠ "java/lang/invoke/VarHandle" ∧ (parseMethodDescriptor yX8_drawn.desc).map (fun d => d.parameters.length) = some 2 := by decide +kernel
theorem hd_X8_feed : yX8_feed.cls ≠ "java/lang/invoke/MethodHandle" ∧ yX8_feed.cls ≠ "java/lang/invoke/VarHandle" ∧ (parseMethodDescriptor yX8_feed.desc).map (fun d => d.parameters.length) = some 1 := by decide +kernel
theorem hd_X8_force : yX8_force.cls ≠ "java/lang/invoke/MethodHandle" ∧ yX8_force.cls ≠ "java/lang/invoke/VarHandle" ∧ (parseMethodDescriptor yX8_force.desc).map (fun d => d.parameters.length) = some 1 := by decide +kernel
theorem hd_X8_goesOn : yX8_goesOn.cls ≠ "java/lang/invoke/MethodHandle" ∧ yX8_goesOn.cls ≠ "java/lang/invoke/VarHandle" ∧ (parseMethodDescriptor yX8_goesOn.desc).map (fun d => d.parameters.length) = some 2 := by decide +kernel
theorem hd_X8_hears : yX8_hears.cls ≠ "java/lang/invoke/MethodHandle" ∧ yX8_hears.cls ≠ "java/lang/invoke/VarHandle" ∧ (parseMethodDescriptor yX8_hears.desc).map (fun d => d.parameters.length) = some 3 := by decide +kernel
theorem hd_X8_image : yX8_image.cls ≠ "java/lang/invoke/MethodHandle" ∧ yX8_image.cls ≠ "java/lang/invoke/VarHandle" ∧ (parseMethodDescriptor yX8_image.desc).map (fun d => d.parameters.length) = some 0 := by decide +kernel
theorem hd_X8_init : yX8_init.cls ≠ "java/lang/invoke/MethodHandle" ∧ yX8_init.cls ≠ "java/lang/invoke/VarHandle" ∧ (parseMethodDescriptor yX8_init.desc).map (fun d => d.parameters.length) = some 0 := by decide +kernel
theorem hd_X8_isBelow : yX8_isBelow.cls ≠ "java/lang/invoke/MethodHandle" ∧ yX8_isBelow.cls ≠ "java/lang/invoke/VarHandle" ∧ (parseMethodDescriptor yX8_isBelow.desc).map (fun d => d.parameters.length) = some 2 := by decide +kernel
theorem hd_X8_isHouse : yX8_isHouse.cls ≠ "java/lang/invoke/MethodHandle" ∧ yX8_isHouse.cls ≠ "java/lang/invoke/VarHandle" ∧ (parseMethodDescriptor yX8_isHouse.desc).map (fun d => d.parameters.length) = some 1 := by decide +kernel
theorem hd_X8_judge : yX8_judge.cls ≠ "java/lang/invoke/MethodHandle" ∧ yX8_judge.cls ≠ "java/lang/invoke/VarHandle" ∧ (parseMethodDescriptor yX8_judge.desc).map (fun d => d.parameters.length) = some 1 := by decide +kernel
theorem hd_X8_keepAway : yX8_keepAway.cls ≠ "java/lang/invoke/MethodHandle" ∧ yX8_keepAway.cls ≠ "java/lang/invoke/VarHandle" ∧ (parseMethodDescriptor yX8_keepAway.desc).map (fun d => d.parameters.length) = some 1 := by decide +kernel
theorem hd_X8_left : yX8_left.cls ≠ "java/lang/invoke/MethodHandle" ∧ yX8_left.cls ≠ "java/lang/invoke/VarHandle" ∧ (parseMethodDescriptor yX8_left.desc).map (fun d => d.parameters.length) = some 0 := by decide +kernel
theorem hd_X8_may : yX8_may.cls ≠ "java/lang/invoke/MethodHandle" ∧ yX8_may.cls ≠ "java/lang/invoke/VarHandle" ∧ (parseMethodDescriptor yX8_may.desc).map (fun d => d.parameters.length) = some 1 := by decide +kernel
theorem hd_X8_most : yX8_most.cls ≠ "java/lang/invoke/MethodHandle" ∧ yX8_most.cls ≠ "java/lang/invoke/VarHandle" ∧ (parseMethodDescriptor yX8_most.desc).map (fun d => d.parameters.length) = some 2 := by decide +kernel
theorem hd_X8_one : yX8_one.cls ≠ "java/lang/invoke/MethodHandle" ∧ yX8_one.cls ≠ "java/lang/invoke/VarHandle" ∧ (parseMethodDescriptor yX8_one.desc).map (fun d => d.parameters.length) = some 2 := by decide +kernel
theorem hd_X8_pass : yX8_pass.cls ≠ "java/lang/invoke/MethodHandle" ∧ yX8_pass.cls ≠ "java/lang/invoke/VarHandle" ∧ (parseMethodDescriptor yX8_pass.desc).map (fun d => d.parameters.length) = some 0 := by decide +kernel
theorem hd_X8_people : yX8_people.cls ≠ "java/lang/invoke/MethodHandle" ∧ yX8_people.cls ≠ "java/lang/invoke/VarHandle" ∧ (parseMethodDescriptor yX8_people.desc).map (fun d => d.parameters.length) = some 4 := by decide +kernel
theorem hd_X8_person : yX8_person.cls ≠ "java/lang/invoke/MethodHandle" ∧ yX8_person.cls ≠ "java/lang/invoke/VarHandle" ∧ (parseMethodDescriptor yX8_person.desc).map (fun d => d.parameters.length) = some 2 := by decide +kernel
theorem hd_X8_put : yX8_put.cls ≠ "java/lang/invoke/MethodHandle" ∧ yX8_put.cls ≠ "java/lang/invoke/VarHandle" ∧ (parseMethodDescriptor yX8_put.desc).map (fun d => d.parameters.length) = some 3 := by decide +kernel
theorem hd_X8_send : yX8_send.cls ≠ "java/lang/invoke/MethodHandle" ∧ yX8_send.cls ≠ "java/lang/invoke/VarHandle" ∧ (parseMethodDescriptor yX8_send.desc).map (fun d => d.parameters.length) = some 2 := by decide +kernel
theorem hd_X8_set : yX8_set.cls ≠ "java/lang/invoke/MethodHandle" ∧ yX8_set.cls ≠ "java/lang/invoke/VarHandle" ∧ (parseMethodDescriptor yX8_set.desc).map (fun d => d.parameters.length) = some 3 := by decide +kernel
theorem hd_X8_sheet : yX8_sheet.cls ≠ "java/lang/invoke/MethodHandle" ∧ yX8_sheet.cls ≠ "java/lang/invoke/VarHandle" ∧ (parseMethodDescriptor yX8_sheet.desc).map (fun d => d.parameters.length) = some 3 := by decide +kernel
theorem hd_X8_spread : yX8_spread.cls ≠ "java/lang/invoke/MethodHandle" ∧ yX8_spread.cls ≠ "java/lang/invoke/VarHandle" ∧ (parseMethodDescriptor yX8_spread.desc).map (fun d => d.parameters.length) = some 2 := by decide +kernel
theorem hd_X8_story : yX8_story.cls ≠ "java/lang/invoke/MethodHandle" ∧ yX8_story.cls ≠ "java/lang/invoke/VarHandle" ∧ (parseMethodDescriptor yX8_story.desc).map (fun d => d.parameters.length) = some 3 := by decide +kernel
theorem hd_X8_stranger : yX8_stranger.cls ≠ "java/lang/invoke/MethodHandle" ∧ yX8_stranger.cls ≠ "java/lang/invoke/VarHandle" ∧ (parseMethodDescriptor yX8_stranger.desc).map (fun d => d.parameters.length) = some 3 := by decide +kernel
theorem hd_X8_taken : yX8_taken.cls ≠ "java/lang/invoke/MethodHandle" ∧ yX8_taken.cls ≠ "java/lang/invoke/VarHandle" ∧ (parseMethodDescriptor yX8_taken.desc).map (fun d => d.parameters.length) = some 2 := by decide +kernel
theorem hd_X8_tell : yX8_tell.cls ≠ "java/lang/invoke/MethodHandle" ∧ yX8_tell.cls ≠ "java/lang/invoke/VarHandle" ∧ (parseMethodDescriptor yX8_tell.desc).map (fun d => d.parameters.length) = some 2 := by decide +kernel
theorem hd_X8_text : yX8_text.cls ≠ "java/lang/invoke/MethodHandle" ∧ yX8_text.cls ≠ "java/lang/invoke/VarHandle" ∧ (parseMethodDescriptor yX8_text.desc).map (fun d => d.parameters.length) = some 0 := by decide +kernel
theorem hd_X8_told : yX8_told.cls ≠ "java/lang/invoke/MethodHandle" ∧ yX8_told.cls ≠ "java/lang/invoke/VarHandle" ∧ (parseMethodDescriptor yX8_told.desc).map (fun d => d.parameters.length) = some 3 := by decide +kernel
theorem hd_X8_twin : yX8_twin.cls ≠ "java/lang/invoke/MethodHandle" ∧ yX8_twin.cls ≠ "java/lang/invoke/VarHandle" ∧ (parseMethodDescriptor yX8_twin.desc).map (fun d => d.parameters.length) = some 2 := by decide +kernel
theorem hd_X8_worth : yX8_worth.cls ≠ "java/lang/invoke/MethodHandle" ∧ yX8_worth.cls ≠ "java/lang/invoke/VarHandle" ∧ (parseMethodDescriptor yX8_worth.desc).map (fun d => d.parameters.length) = some 2 := by decide +kernel
theorem hd_X9_added : yX9_added.cls ≠ "java/lang/invoke/MethodHandle" ∧ yX9_added.cls ≠ "java/lang/invoke/VarHandle" ∧ (parseMethodDescriptor yX9_added.desc).map (fun d => d.parameters.length) = some 0 := by decide +kernel
theorem hd_X9_allMay : yX9_allMay.cls ≠ "java/lang/invoke/MethodHandle" ∧ yX9_allMay.cls ≠ "java/lang/invoke/VarHandle" ∧ (parseMethodDescriptor yX9_allMay.desc).map (fun d => d.parameters.length) = some 1 := by decide +kernel
theorem hd_X9_anyMay : yX9_anyMay.cls ≠ "java/lang/invoke/MethodHandle" ∧ yX9_anyMay.cls ≠ "java/lang/invoke/VarHandle" ∧ (parseMethodDescriptor yX9_anyMay.desc).map (fun d => d.parameters.length) = some 1 := by decide +kernel
theorem hd_X9_atom : yX9_atom.cls ≠ "java/lang/invoke/MethodHandle" ∧ yX9_atom.cls ≠ "java/lang/invoke/VarHandle" ∧ (parseMethodDescriptor yX9_atom.desc).map (fun d => d.parameters.length) = some 0 := by decide +kernel
theorem hd_X9_back : yX9_back.cls ≠ "java/lang/invoke/MethodHandle" ∧ yX9_back.cls ≠ "java/lang/invoke/VarHandle" ∧ (parseMethodDescriptor yX9_back.desc).map (fun d => d.parameters.length) = some 0 := by decide +kernel
theorem hd_X9_best : yX9_best.cls ≠ "java/lang/invoke/MethodHandle" ∧ yX9_best.cls ≠ "java/lang/invoke/VarHandle" ∧ (parseMethodDescriptor yX9_best.desc).map (fun d => d.parameters.length) = some 1 := by decide +kernel
theorem hd_X9_bitsOf : yX9_bitsOf.cls ≠ "java/lang/invoke/MethodHandle" ∧ yX9_bitsOf.cls ≠ "java/lang/invoke/VarHandle" ∧ (parseMethodDescriptor yX9_bitsOf.desc).map (fun d => d.parameters.length) = some 1 := by decide +kernel
theorem hd_X9_both : yX9_both.cls ≠ "java/lang/invoke/MethodHandle" ∧ yX9_both.cls ≠ "java/lang/invoke/VarHandle" ∧ (parseMethodDescriptor yX9_both.desc).map (fun d => d.parameters.length) = some 0 := by decide +kernel
theorem hd_X9_by : yX9_by.cls ≠ "java/lang/invoke/MethodHandle" ∧ yX9_by.cls ≠ "java/lang/invoke/VarHandle" ∧ (parseMethodDescriptor yX9_by.desc).map (fun d => d.parameters.length) = some 2 := by decide +kernel
theorem hd_X9_byteAt : yX9_byteAt.cls ≠ "java/lang/invoke/MethodHandle" ∧ yX9_byteAt.cls ≠ "java/lang/invoke/VarHandle" ∧ (parseMethodDescriptor yX9_byteAt.desc).map (fun d => d.parameters.length) = some 1 := by decide +kernel
theorem hd_X9_canAll : yX9_canAll.cls ≠ "java/lang/invoke/MethodHandle" ∧ yX9_canAll.cls ≠ "java/lang/invoke/VarHandle" ∧ (parseMethodDescriptor yX9_canAll.desc).map (fun d => d.parameters.length) = some 2 := by decide +kernel
theorem hd_X9_cell : yX9_cell.cls ≠ "java/lang/invoke/MethodHandle" ∧ yX9_cell.cls ≠ "java/lang/invoke/VarHandle" ∧ (parseMethodDescriptor yX9_cell.desc).map (fun d => d.parameters.length) = some 3 := by decide +kernel
theorem hd_X9_copy : yX9_copy.cls ≠ "java/lang/invoke/MethodHandle" ∧ yX9_copy.cls ≠ "java/lang/invoke/VarHandle" ∧ (parseMethodDescriptor yX9_copy.desc).map (fun d => d.parameters.length) = some 5 := by decide +kernel
theorem hd_X9_count : yX9_count.cls ≠ "java/lang/invoke/MethodHandle" ∧ yX9_count.cls ≠ "java/lang/invoke/VarHandle" ∧ (parseMethodDescriptor yX9_count.desc).map (fun d => d.parameters.length) = some 1 := by decide +kernel
theorem hd_X9_counts : yX9_counts.cls ≠ "java/lang/invoke/MethodHandle" ∧ yX9_counts.cls ≠ "java/lang/invoke/VarHandle" ∧ (parseMethodDescriptor yX9_counts.desc).map (fun d => d.parameters.length) = some 2 := by decide +kernel
theorem hd_X9_digit : yX9_digit.cls ≠ "java/lang/invoke/MethodHandle" ∧ yX9_digit.cls ≠ "java/lang/invoke/VarHandle" ∧ (parseMethodDescriptor yX9_digit.desc).map (fun d => d.parameters.length) = some 3 := by decide +kernel
theorem hd_X9_drawn : yX9_drawn.cls ≠ "java/lang/invoke/MethodHandle" ∧ yX9_drawn.cls ≠ "java/lang/invoke/VarHandle" ∧ (parseMethodDescriptor yX9_drawn.desc).map (fun d => d.parameters.length) = some 2 := by decide +kernel
theorem hd_X9_either : yX9_either.cls ≠ "java/lang/invoke/MethodHandle" ∧ yX9_either.cls ≠ "java/lang/invoke/VarHandle" ∧ (parseMethodDescriptor yX9_either.desc).map (fun d => d.parameters.length) = some 0 := by decide +kernel
theorem hd_X9_fail : yX9_fail.cls ≠ "java/lang/invoke/MethodHandle" ∧ yX9_fail.cls ≠ "java/lang/invoke/VarHandle" ∧ (parseMethodDescriptor yX9_fail.desc).map (fun d => d.parameters.length) = some 0 := by decide +kernel
theorem hd_X9_feed : yX9_feed.cls ≠ "java/lang/invoke/MethodHandle" ∧ yX9_feed.cls ≠ "java/lang/invoke/VarHandle" ∧ (parseMethodDescriptor yX9_feed.desc).map (fun d => d.parameters.length) = some 1 := by decide +kernel
theorem hd_X9_force : yX9_force.cls ≠ "java/lang/invoke/MethodHandle" ∧ yX9_force.cls ≠ "java/lang/invoke/VarHandle" ∧ (parseMethodDescriptor yX9_force.desc).map (fun d => d.parameters.length) = some 1 := by decide +kernel
theorem hd_X9_goesOn : yX9_goesOn.cls ≠ "java/lang/invoke/MethodHandle" ∧ yX9_goesOn.cls ≠ "java/lang/invoke/VarHandle" ∧ (parseMethodDescriptor yX9_goesOn.desc).map (fun d => d.parameters.length) = some 2 := by decide +kernel
theorem hd_X9_hears : yX9_hears.cls ≠ "java/lang/invoke/MethodHandle" ∧ yX9_hears.cls ≠ "java/lang/invoke/VarHandle" ∧ (parseMethodDescriptor yX9_hears.desc).map (fun d => d.parameters.length) = some 3 := by decide +kernel
theorem hd_X9_housesWith : yX9_housesWith.cls ≠ "java/lang/invoke/MethodHandle" ∧ yX9_housesWith.cls ≠ "java/lang/invoke/VarHandle" ∧ (parseMethodDescriptor yX9_housesWith.desc).map (fun d => d.parameters.length) = some 2 := by decide +kernel
theorem hd_X9_image : yX9_image.cls ≠ "java/lang/invoke/MethodHandle" ∧ yX9_image.cls ≠ "java/lang/invoke/VarHandle" ∧ (parseMethodDescriptor yX9_image.desc).map (fun d => d.parameters.length) = some 0 := by decide +kernel
theorem hd_X9_in : yX9_in.cls ≠ "java/lang/invoke/MethodHandle" ∧ yX9_in.cls ≠ "java/lang/invoke/VarHandle" ∧ (parseMethodDescriptor yX9_in.desc).map (fun d => d.parameters.length) = some 3 := by decide +kernel
theorem hd_X9_init : yX9_init.cls ≠ "java/lang/invoke/MethodHandle" ∧ yX9_init.cls ≠ "java/lang/invoke/VarHandle" ∧ (parseMethodDescriptor yX9_init.desc).map (fun d => d.parameters.length) = some 0 := by decide +kernel
theorem hd_X9_isHouse : yX9_isHouse.cls ≠ "java/lang/invoke/MethodHandle" ∧ yX9_isHouse.cls ≠ "java/lang/invoke/VarHandle" ∧ (parseMethodDescriptor yX9_isHouse.desc).map (fun d => d.parameters.length) = some 1 := by decide +kernel
theorem hd_X9_isLetter : yX9_isLetter.cls ≠ "java/lang/invoke/MethodHandle" ∧ yX9_isLetter.cls ≠ "java/lang/invoke/VarHandle" ∧ (parseMethodDescriptor yX9_isLetter.desc).map (fun d => d.parameters.length) = some 2 := by decide +kernel
theorem hd_X9_isPerson : yX9_isPerson.cls ≠ "java/lang/invoke/MethodHandle" ∧ yX9_isPerson.cls ≠ "java/lang/invoke/VarHandle" ∧ (parseMethodDescriptor yX9_isPerson.desc).map (fun d => d.parameters.length) = some 1 := by decide +kernel
theorem hd_X9_isSheet : yX9_isSheet.cls ≠ "java/lang/invoke/MethodHandle" ∧ yX9_isSheet.cls ≠ "java/lang/invoke/VarHandle" ∧ (parseMethodDescriptor yX9_isSheet.desc).map (fun d => d.parameters.length) = some 1 := by decide +kernel
theorem hd_X9_isSign : yX9_isSign.cls ≠ "java/lang/invoke/MethodHandle" ∧ yX9_isSign.cls ≠ "java/lang/invoke/VarHandle" ∧ (parseMethodDescriptor yX9_isSign.desc).map (fun d => d.parameters.length) = some 1 := by decide +kernel
theorem hd_X9_isStory : yX9_isStory.cls ≠ "java/lang/invoke/MethodHandle" ∧ yX9_isStory.cls ≠ "java/lang/invoke/VarHandle" ∧ (parseMethodDescriptor yX9_isStory.desc).map (fun d => d.parameters.length) = some 1 := by decide +kernel
theorem hd_X9_isTired : yX9_isTired.cls ≠ "java/lang/invoke/MethodHandle" ∧ yX9_isTired.cls ≠ "java/lang/invoke/VarHandle" ∧ (parseMethodDescriptor yX9_isTired.desc).map (fun d => d.parameters.length) = some 3 := by decide +kernel
theorem hd_X9_isWord : yX9_isWord.cls ≠ "java/lang/invoke/MethodHandle" ∧ yX9_isWord.cls ≠ "java/lang/invoke/VarHandle" ∧ (parseMethodDescriptor yX9_isWord.desc).map (fun d => d.parameters.length) = some 8 := by decide +kernel
theorem hd_X9_judge : yX9_judge.cls ≠ "java/lang/invoke/MethodHandle" ∧ yX9_judge.cls ≠ "java/lang/invoke/VarHandle" ∧ (parseMethodDescriptor yX9_judge.desc).map (fun d => d.parameters.length) = some 1 := by decide +kernel
theorem hd_X9_keepAway : yX9_keepAway.cls ≠ "java/lang/invoke/MethodHandle" ∧ yX9_keepAway.cls ≠ "java/lang/invoke/VarHandle" ∧ (parseMethodDescriptor yX9_keepAway.desc).map (fun d => d.parameters.length) = some 1 := by decide +kernel
theorem hd_X9_knowers : yX9_knowers.cls ≠ "java/lang/invoke/MethodHandle" ∧ yX9_knowers.cls ≠ "java/lang/invoke/VarHandle" ∧ (parseMethodDescriptor yX9_knowers.desc).map (fun d => d.parameters.length) = some 1 := by decide +kernel
theorem hd_X9_known : yX9_known.cls ≠ "java/lang/invoke/MethodHandle" ∧ yX9_known.cls ≠ "java/lang/invoke/VarHandle" ∧ (parseMethodDescriptor yX9_known.desc).map (fun d => d.parameters.length) = some 1 := by decide +kernel
theorem hd_X9_laysAside : yX9_laysAside.cls ≠ "java/lang/invoke/MethodHandle" ∧ yX9_laysAside.cls ≠ "java/lang/invoke/VarHandle" ∧ (parseMethodDescriptor yX9_laysAside.desc).map (fun d => d.parameters.length) = some 0 := by decide +kernel
theorem hd_X9_laysBack : yX9_laysBack.cls ≠ "java/lang/invoke/MethodHandle" ∧ yX9_laysBack.cls ≠ "java/lang/invoke/VarHandle" ∧ (parseMethodDescriptor yX9_laysBack.desc).map (fun d => d.parameters.length) = some 0 := by decide +kernel
theorem hd_X9_left : yX9_left.cls ≠ "java/lang/invoke/MethodHandle" ∧ yX9_left.cls ≠ "java/lang/invoke/VarHandle" ∧ (parseMethodDescriptor yX9_left.desc).map (fun d => d.parameters.length) = some 0 := by decide +kernel
theorem hd_X9_may : yX9_may.cls ≠ "java/lang/invoke/MethodHandle" ∧ yX9_may.cls ≠ "java/lang/invoke/VarHandle" ∧ (parseMethodDescriptor yX9_may.desc).map (fun d => d.parameters.length) = some 1 := by decide +kernel
theorem hd_X9_mayTell : yX9_mayTell.cls ≠ "java/lang/invoke/MethodHandle" ∧ yX9_mayTell.cls ≠ "java/lang/invoke/VarHandle" ∧ (parseMethodDescriptor yX9_mayTell.desc).map (fun d => d.parameters.length) = some 3 := by decide +kernel
theorem hd_X9_most : yX9_most.cls ≠ "java/lang/invoke/MethodHandle" ∧ yX9_most.cls ≠ "java/lang/invoke/VarHandle" ∧ (parseMethodDescriptor yX9_most.desc).map (fun d => d.parameters.length) = some 2 := by decide +kernel
theorem hd_X9_name : yX9_name.cls ≠ "java/lang/invoke/MethodHandle" ∧ yX9_name.cls ≠ "java/lang/invoke/VarHandle" ∧ (parseMethodDescriptor yX9_name.desc).map (fun d => d.parameters.length) = some 0 := by decide +kernel
theorem hd_X9_next : yX9_next.cls ≠ "java/lang/invoke/MethodHandle" ∧ yX9_next.cls ≠ "java/lang/invoke/VarHandle" ∧ (parseMethodDescriptor yX9_next.desc).map (fun d => d.parameters.length) = some 0 := by decide +kernel
theorem hd_X9_not : yX9_not.cls ≠ "java/lang/invoke/MethodHandle" ∧ yX9_not.cls ≠ "java/lang/invoke/VarHandle" ∧ (parseMethodDescriptor yX9_not.desc).map (fun d => d.parameters.length) = some 0 := by decide +kernel
theorem hd_X9_one : yX9_one.cls ≠ "java/lang/invoke/MethodHandle" ∧ yX9_one.cls ≠ "java/lang/invoke/VarHandle" ∧ (parseMethodDescriptor yX9_one.desc).map (fun d => d.parameters.length) = some 2 := by decide +kernel
theorem hd_X9_opens : yX9_opens.cls ≠ "java/lang/invoke/MethodHandle" ∧ yX9_opens.cls ≠ "java/lang/invoke/VarHandle" ∧ (parseMethodDescriptor yX9_opens.desc).map (fun d => d.parameters.length) = some 0 := by decide +kernel
theorem hd_X9_over : yX9_over.cls ≠ "java/lang/invoke/MethodHandle" ∧ yX9_over.cls ≠ "java/lang/invoke/VarHandle" ∧ (parseMethodDescriptor yX9_over.desc).map (fun d => d.parameters.length) = some 1 := by decide +kernel
theorem hd_X9_part : yX9_part.cls ≠ "java/lang/invoke/MethodHandle" ∧ yX9_part.cls ≠ "java/lang/invoke/VarHandle" ∧ (parseMethodDescriptor yX9_part.desc).map (fun d => d.parameters.length) = some 1 := by decide +kernel
theorem hd_X9_parts : yX9_parts.cls ≠ "java/lang/invoke/MethodHandle" ∧ yX9_parts.cls ≠ "java/lang/invoke/VarHandle" ∧ (parseMethodDescriptor yX9_parts.desc).map (fun d => d.parameters.length) = some 1 := by decide +kernel
theorem hd_X9_pass : yX9_pass.cls ≠ "java/lang/invoke/MethodHandle" ∧ yX9_pass.cls ≠ "java/lang/invoke/VarHandle" ∧ (parseMethodDescriptor yX9_pass.desc).map (fun d => d.parameters.length) = some 0 := by decide +kernel
theorem hd_X9_people : yX9_people.cls ≠ "java/lang/invoke/MethodHandle" ∧ yX9_people.cls ≠ "java/lang/invoke/VarHandle" ∧ (parseMethodDescriptor yX9_people.desc).map (fun d => d.parameters.length) = some 4 := by decide +kernel
theorem hd_X9_person : yX9_person.cls ≠ "java/lang/invoke/MethodHandle" ∧ yX9_person.cls ≠ "java/lang/invoke/VarHandle" ∧ (parseMethodDescriptor yX9_person.desc).map (fun d => d.parameters.length) = some 2 := by decide +kernel
theorem hd_X9_read : yX9_read.cls ≠ "java/lang/invoke/MethodHandle" ∧ yX9_read.cls ≠ "java/lang/invoke/VarHandle" ∧ (parseMethodDescriptor yX9_read.desc).map (fun d => d.parameters.length) = some 2 := by decide +kernel
theorem hd_X9_says : yX9_says.cls ≠ "java/lang/invoke/MethodHandle" ∧ yX9_says.cls ≠ "java/lang/invoke/VarHandle" ∧ (parseMethodDescriptor yX9_says.desc).map (fun d => d.parameters.length) = some 4 := by decide +kernel
theorem hd_X9_send : yX9_send.cls ≠ "java/lang/invoke/MethodHandle" ∧ yX9_send.cls ≠ "java/lang/invoke/VarHandle" ∧ (parseMethodDescriptor yX9_send.desc).map (fun d => d.parameters.length) = some 2 := by decide +kernel
theorem hd_X9_set : yX9_set.cls ≠ "java/lang/invoke/MethodHandle" ∧ yX9_set.cls ≠ "java/lang/invoke/VarHandle" ∧ (parseMethodDescriptor yX9_set.desc).map (fun d => d.parameters.length) = some 3 := by decide +kernel
theorem hd_X9_sheet : yX9_sheet.cls ≠ "java/lang/invoke/MethodHandle" ∧ yX9_sheet.cls ≠ "java/lang/invoke/VarHandle" ∧ (parseMethodDescriptor yX9_sheet.desc).map (fun d => d.parameters.length) = some 3 := by decide +kernel
theorem hd_X9_sitting : yX9_sitting.cls ≠ "java/lang/invoke/MethodHandle" ∧ yX9_sitting.cls ≠ "java/lang/invoke/VarHandle" ∧ (parseMethodDescriptor yX9_sitting.desc).map (fun d => d.parameters.length) = some 1 := by decide +kernel
theorem hd_X9_spell : yX9_spell.cls ≠ "java/lang/invoke/MethodHandle" ∧ yX9_spell.cls ≠ "java/lang/invoke/VarHandle" ∧ (parseMethodDescriptor yX9_spell.desc).map (fun d => d.parameters.length) = some 9 := by decide +kernel
theorem hd_X9_spread : yX9_spread.cls ≠ "java/lang/invoke/MethodHandle" ∧ yX9_spread.cls ≠ "java/lang/invoke/VarHandle" ∧ (parseMethodDescriptor yX9_spread.desc).map (fun d => d.parameters.length) = some 2 := by decide +kernel
theorem hd_X9_stays : yX9_stays.cls ≠ "java/lang/invoke/MethodHandle" ∧ yX9_stays.cls ≠ "java/lang/invoke/VarHandle" ∧ (parseMethodDescriptor yX9_stays.desc).map (fun d => d.parameters.length) = some 1 := by decide +kernel
theorem hd_X9_story : yX9_story.cls ≠ "java/lang/invoke/MethodHandle" ∧ yX9_story.cls ≠ "java/lang/invoke/VarHandle" ∧ (parseMethodDescriptor yX9_story.desc).map (fun d => d.parameters.length) = some 3 := by decide +kernel
theorem hd_X9_stranger : yX9_stranger.cls ≠ "java/lang/invoke/MethodHandle" ∧ yX9_stranger.cls ≠ "java/lang/invoke/VarHandle" ∧ (parseMethodDescriptor yX9_stranger.desc).map (fun d => d.parameters.length) = some 3 := by decide +kernel
theorem hd_X9_taken : yX9_taken.cls ≠ "java/lang/invoke/MethodHandle" ∧ yX9_taken.cls ≠ "java/lang/invoke/VarHandle" ∧ (parseMethodDescriptor yX9_taken.desc).map (fun d => d.parameters.length) = some 2 := by decide +kernel
theorem hd_X9_tell : yX9_tell.cls ≠ "java/lang/invoke/MethodHandle" ∧ yX9_tell.cls ≠ "java/lang/invoke/VarHandle" ∧ (parseMethodDescriptor yX9_tell.desc).map (fun d => d.parameters.length) = some 2 := by decide +kernel
theorem hd_X9_tellIn : yX9_tellIn.cls ≠ "java/lang/invoke/MethodHandle" ∧ yX9_tellIn.cls ≠ "java/lang/invoke/VarHandle" ∧ (parseMethodDescriptor yX9_tellIn.desc).map (fun d => d.parameters.length) = some 3 := by decide +kernel
theorem hd_X9_teller : yX9_teller.cls ≠ "java/lang/invoke/MethodHandle" ∧ yX9_teller.cls ≠ "java/lang/invoke/VarHandle" ∧ (parseMethodDescriptor yX9_teller.desc).map (fun d => d.parameters.length) = some 2 := by decide +kernel
theorem hd_X9_term : yX9_term.cls ≠ "java/lang/invoke/MethodHandle" ∧ yX9_term.cls ≠ "java/lang/invoke/VarHandle" ∧ (parseMethodDescriptor yX9_term.desc).map (fun d => d.parameters.length) = some 0 := by decide +kernel
theorem hd_X9_text : yX9_text.cls ≠ "java/lang/invoke/MethodHandle" ∧ yX9_text.cls ≠ "java/lang/invoke/VarHandle" ∧ (parseMethodDescriptor yX9_text.desc).map (fun d => d.parameters.length) = some 0 := by decide +kernel
theorem hd_X9_told : yX9_told.cls ≠ "java/lang/invoke/MethodHandle" ∧ yX9_told.cls ≠ "java/lang/invoke/VarHandle" ∧ (parseMethodDescriptor yX9_told.desc).map (fun d => d.parameters.length) = some 3 := by decide +kernel
theorem hd_X9_twin : yX9_twin.cls ≠ "java/lang/invoke/MethodHandle" ∧ yX9_twin.cls ≠ "java/lang/invoke/VarHandle" ∧ (parseMethodDescriptor yX9_twin.desc).map (fun d => d.parameters.length) = some 2 := by decide +kernel
theorem hd_X9_within : yX9_within.cls ≠ "java/lang/invoke/MethodHandle" ∧ yX9_within.cls ≠ "java/lang/invoke/VarHandle" ∧ (parseMethodDescriptor yX9_within.desc).map (fun d => d.parameters.length) = some 3 := by decide +kernel
theorem hd_X9_worth : yX9_worth.cls ≠ "java/lang/invoke/MethodHandle" ∧ yX9_worth.cls ≠ "java/lang/invoke/VarHandle" ∧ (parseMethodDescriptor yX9_worth.desc).map (fun d => d.parameters.length) = some 2 := by decide +kernel
theorem hd_X9_worthBy : yX9_worthBy.cls ≠ "java/lang/invoke/MethodHandle" ∧ yX9_worthBy.cls ≠ "java/lang/invoke/VarHandle" ∧ (parseMethodDescriptor yX9_worthBy.desc).map (fun d => d.parameters.length) = some 3 := by decide +kernel
