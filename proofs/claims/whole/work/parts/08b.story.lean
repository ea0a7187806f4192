/-! ===== what the class's heap g shows of the reference's heap r; stories ===== -/
theorem q_below {x y : Int32} {n : Nat} (hn : n < 2 ^ 31) (hy : y = nI n) (g : nt_T) : fNt_isBelow x y g = some (bI (nt_in x n)) := by
  subst hy
  unfold fNt_isBelow
  by_cases h : nt_in x n = true
  · rw [h]
    obtain ⟨h1, h2⟩ := (q_in_iff hn).mp h
    rw [if_neg h1, if_neg (by rw [Int32.not_le]; exact h2)]
    rfl
  · have hb : nt_in x n = false := by simpa using h
    rw [hb]
    by_cases h1 : x < 0
    · rw [if_pos h1]; rfl
    · rw [if_neg h1, if_pos (by
        rw [← Int32.not_lt]
        exact fun h2 => h ((q_in_iff hn).mpr ⟨h1, h2⟩))]
      rfl
theorem q_moin {x : Int32} {n : Nat} (hn : n < 2 ^ 31) {y : Int64} (hy : y.toInt = (n : Int) - 1) (g : nt_T) : fMo_in (Int32.toInt64 x) (0 : Int64) y g = some (bI (nt_in x n)) := by
  unfold fMo_in
  have h0 : (0 : Int64).toInt = 0 := by decide
  have h00 : (0 : Int32).toInt = 0 := by decide
  by_cases h : nt_in x n = true
  · obtain ⟨k, hk, rfl⟩ := q_in_of hn h
    have hx : (Int32.toInt64 (nI k)).toInt = k := by rw [Int32.toInt_toInt64, nI_toInt (by omega)]
    rw [if_neg (by rw [lg_cmp_lt, Int64.lt_iff_toInt_lt, hx, h0]; omega), if_neg (by rw [lg_cmp_gt, Int64.lt_iff_toInt_lt, hx, hy]; omega), h]
    rfl
  · have hb : nt_in x n = false := by simpa using h
    rw [hb]
    by_cases h1 : x < 0
    · rw [if_pos (by
        rw [lg_cmp_lt, Int64.lt_iff_toInt_lt, Int32.toInt_toInt64, h0]
        rw [Int32.lt_iff_toInt_lt, h00] at h1
        exact h1)]
      rfl
    · obtain ⟨j, hj, rfl⟩ := nI_of h1
      have hx : (Int32.toInt64 (nI j)).toInt = j := by rw [Int32.toInt_toInt64, nI_toInt (by omega)]
      have hnj : n ≤ j := by
        rcases Nat.lt_or_ge j n with q | q
        · exact absurd (q_in q hn) h
        · exact q
      rw [if_neg (by rw [lg_cmp_lt, Int64.lt_iff_toInt_lt, hx, h0]; omega), if_pos (by rw [lg_cmp_gt, Int64.lt_iff_toInt_lt, hx, hy]; omega)]
      rfl
theorem q_pred (n : Nat) (hn : n < 2 ^ 31) : (Int32.toInt64 (nI n - (1 : Int32))).toInt = (n : Int) - 1 := by
  rw [Int32.toInt_toInt64, show (1 : Int32) = nI 1 from rfl]
  cases n with
  | zero => decide
  | succ k =>
    rw [show nI (k + 1) - nI 1 = nI k from by rw [pk_sub (by omega)]; rfl, nI_toInt (by omega)]
    omega
def nt_qS (m : Nat) (g r : nt_T) : Prop := m ≤ 8 ∧ g 1 4 = nI m ∧ r 0 11 = nI m ∧ ∀ s, s < m → g 2 s = r 4 s ∧ g 3 s = r 5 s ∧ g 4 s = r 6 s ∧ g 5 s = r 7 s ∧ (∃ k, k < 6 ∧ r 4 s = nI k) ∧ (∃ k, k < 10 ∧ r 5 s = nI k) ∧ (∃ k, k < 10 ∧ r 6 s = nI k) ∧ (r 7 s = -1 ∨ ∃ t, t < m ∧ r 7 s = nI t)
theorem qS_has {m : Nat} {g r : nt_T} (h : nt_qS m g r) (x : Int32) : fSh_has x g = some (bI (nt_in x m)) := by
  unfold fSh_has
  rw [q_below (n := m) (by have := h.1; omega) h.2.1, q_b1, q_gd (q_nb _)]
theorem qS_is {m : Nat} {g r : nt_T} (h : nt_qS m g r) (x : Int32) : fMo_isStory x r = some (bI (nt_in x m)) := by
  unfold fMo_isStory
  rw [q_moin (n := m) (by have := h.1; omega) (by rw [h.2.2.1]; exact q_pred m (by have := h.1; omega)), q_b1, q_gd (q_nb _)]
theorem qS_all {m : Nat} {g r : nt_T} (h : nt_qS m g r) : fSh_all g = some (((1 : Int32) <<< (nI m &&& 31)) - (1 : Int32)) := by
  unfold fSh_all
  rw [h.2.1]
theorem q_house (x : Int32) (g r : nt_T) : fNt_isHouse x g = some (bI (nt_in x 4)) ∧ fMo_isHouse x r = some (bI (nt_in x 4)) := by
  constructor
  · unfold fNt_isHouse
    rw [q_below (y := (4 : Int32)) (n := 4) (by omega) rfl, q_b1, q_gd (q_nb _)]
  · unfold fMo_isHouse
    rw [q_moin (n := 4) (by omega) (by decide), q_b1, q_gd (q_nb _)]
/-- what a story COUNTS, what it STAYS -/
def CO (k w n a : Nat) : Nat := if k = 0 then w else if k = 1 then w + 2 else if k = 2 then (if a < 14 then 2 * w else w) else if k = 3 then (w + 2) / 2 else if k = 4 then (if a < 14 then 2 * w else w) + n else (if 60 ≤ a then w + 7 else w + 2)
def ST (k n : Nat) : Nat := if k = 0 then 30 else if k = 2 then 15 else if k = 3 then 10 + n else if k = 4 then 30 else 30 + n
theorem CO_lt {k w n a : Nat} (hw : w < 10) (hn : n < 10) : CO k w n a < 40 := by unfold CO; (repeat' split) <;> omega
theorem ST_lt {k n : Nat} (hn : n < 10) : ST k n < 40 := by unfold ST; (repeat' split) <;> omega
theorem q_counts {m : Nat} {g r : nt_T} (h : nt_qS m g r) {s a : Nat} (hs : s < m) (ha : a < 100) : ∃ v, v < 40 ∧ fSh_counts (nI s) (nI a) g = some (nI v) ∧ fMo_counts (nI s) (nI a) r = some (nI v) := by
  obtain ⟨e1, e2, e3, e4, ⟨k, hk, ek⟩, ⟨w, hw, ew⟩, ⟨n, hn, en⟩, -⟩ := h.2.2.2 s hs
  have hm := h.1
  refine ⟨CO k w n a, CO_lt hw hn, ?_, ?_⟩
  · unfold fSh_counts jSh_counts_25
    simp only [q_lt, q_gd (q_in (show s < 8 by omega) (by omega)), nI_clamp (show s < 2 ^ 31 by omega), e1, e2, e3, ek, ew, en]
    have c14 : ((14 : Int32) ≤ nI a) = (14 ≤ a) := propext (nI_leI (a := 14) (b := a) (by omega) (by omega))
    have c60 : (nI a < (60 : Int32)) = (a < 60) := propext (nI_ltI (a := a) (b := 60) (by omega) (by omega))
    simp only [c14, c60]
    have a2 : nI w + (2 : Int32) = nI (w + 2) := nI_add w 2
    have m2 : (2 : Int32) * nI w = nI (2 * w) := pk_mul 2 w
    have d2 : nI (w + 2) / (2 : Int32) = nI ((w + 2) / 2) := pk_div (a := w + 2) (d := 2) (by omega) (by omega) (by omega)
    have a5 : nI (w + 2) + (5 : Int32) = nI (w + 7) := nI_add (w + 2) 5
    have z2 : decide (¬ (2 : Int32) = 0) = true := by decide
    simp only [a2, m2, d2, a5, nI_add, q_gd z2]
    rcases (show k = 0 ∨ k = 1 ∨ k = 2 ∨ k = 3 ∨ k = 4 ∨ k = 5 by omega) with rfl | rfl | rfl | rfl | rfl | rfl
    · simp [CO, nI]
    · simp [CO, nI]
    · by_cases q : 14 ≤ a
      · simp [CO, nI, q, Nat.not_lt.mpr q]
      · simp [CO, nI, q, Nat.not_le.mp q]
    · simp [CO, nI]
    · by_cases q : 14 ≤ a
      · simp [CO, nI, q, Nat.not_lt.mpr q]
      · simp [CO, nI, q, Nat.not_le.mp q]
    · by_cases q : a < 60
      · simp [CO, nI, q, Nat.not_le.mpr q]
      · simp [CO, nI, q, Nat.not_lt.mp q]
  · unfold fMo_counts jMo_counts_32 jMo_counts_47
    simp only [q_lt, q_gd (q_in (show s < 8 by omega) (by omega)), nI_clamp (show s < 2 ^ 31 by omega), ek, ew, en]
    have c14 : ((14 : Int32) ≤ nI a) = (14 ≤ a) := propext (nI_leI (a := 14) (b := a) (by omega) (by omega))
    have c60 : (nI a < (60 : Int32)) = (a < 60) := propext (nI_ltI (a := a) (b := 60) (by omega) (by omega))
    simp only [c14, c60]
    have a2 : nI w + (2 : Int32) = nI (w + 2) := nI_add w 2
    have a7 : nI w + (7 : Int32) = nI (w + 7) := nI_add w 7
    have a0 : nI w + (0 : Int32) = nI w := nI_add w 0
    have m2 : (2 : Int32) * nI w = nI (2 * w) := pk_mul 2 w
    have a20 : nI (2 * w) + (0 : Int32) = nI (2 * w) := nI_add (2 * w) 0
    have d2 : nI (w + 2) / (2 : Int32) = nI ((w + 2) / 2) := pk_div (a := w + 2) (d := 2) (by omega) (by omega) (by omega)
    have z2 : decide (¬ (2 : Int32) = 0) = true := by decide
    simp only [a2, a7, m2, d2, a0, a20, nI_add, q_gd z2]
    rcases (show k = 0 ∨ k = 1 ∨ k = 2 ∨ k = 3 ∨ k = 4 ∨ k = 5 by omega) with rfl | rfl | rfl | rfl | rfl | rfl
    · simp [CO, nI]
    · simp [CO, nI]
    · by_cases q : 14 ≤ a
      · simp [CO, nI, q, Nat.not_lt.mpr q]
      · simp [CO, nI, q, Nat.not_le.mp q]
    · simp [CO, nI]
    · by_cases q : 14 ≤ a
      · simp [CO, nI, q, Nat.not_lt.mpr q]
      · simp [CO, nI, q, Nat.not_le.mp q]
    · by_cases q : a < 60
      · simp [CO, nI, q, Nat.not_le.mpr q]
      · simp [CO, nI, q, Nat.not_lt.mp q]
theorem q_stays {m : Nat} {g r : nt_T} (h : nt_qS m g r) {s : Nat} (hs : s < m) : ∃ v, v < 40 ∧ fSh_stays (nI s) g = some (nI v) ∧ fMo_stays (nI s) r = some (nI v) := by
  obtain ⟨e1, e2, e3, e4, ⟨k, hk, ek⟩, ⟨w, hw, ew⟩, ⟨n, hn, en⟩, -⟩ := h.2.2.2 s hs
  have hm := h.1
  have z2 : decide (¬ (2 : Int32) = 0) = true := by decide
  have a30 : (30 : Int32) + nI n = nI (30 + n) := nI_add 30 n
  have a10 : (10 : Int32) + nI n = nI (10 + n) := nI_add 10 n
  have s20 : nt_max (0 : Int32) (nI (30 + n) - (20 : Int32)) = nI (10 + n) := by
    have e : nI (30 + n) - (20 : Int32) = nI (10 + n) := by
      rw [show (20 : Int32) = nI 20 from rfl, pk_sub (by omega)]
      congr 1
      omega
    rw [e]
    unfold nt_max
    rw [if_pos (by
      rw [show (0 : Int32) = nI 0 from rfl]
      exact (nI_ltI (by omega) (by omega)).mpr (by omega))]
  refine ⟨ST k n, ST_lt hn, ?_, ?_⟩
  · unfold fSh_stays
    simp only [q_lt, q_gd (q_in (show s < 8 by omega) (by omega)), nI_clamp (show s < 2 ^ 31 by omega), e1, e3, ek, en, q_gd z2, a30, s20]
    rcases (show k = 0 ∨ k = 1 ∨ k = 2 ∨ k = 3 ∨ k = 4 ∨ k = 5 by omega) with rfl | rfl | rfl | rfl | rfl | rfl <;> simp [ST, nI] <;> decide
  · unfold fMo_stays
    simp only [q_lt, q_gd (q_in (show s < 8 by omega) (by omega)), nI_clamp (show s < 2 ^ 31 by omega), ek, en, a30, a10]
    rcases (show k = 0 ∨ k = 1 ∨ k = 2 ∨ k = 3 ∨ k = 4 ∨ k = 5 by omega) with rfl | rfl | rfl | rfl | rfl | rfl <;> simp [ST, nI]
/-- what one KNOWS who has heard x: m stories, their twins -/
def knF (tw : Nat → Int32) (x : Int32) : Nat → Int32
  | 0 => x
  | s + 1 => if bt x s = true ∧ tw s ≠ -1 then knF tw x s ||| ((1 : Int32) <<< (tw s &&& 31)) else knF tw x s
theorem knF_congr {tw tw' : Nat → Int32} {x : Int32} {m : Nat} (h : ∀ s, s < m → tw s = tw' s) : knF tw x m = knF tw' x m := by
  induction m with
  | zero => rfl
  | succ m ih => rw [knF, knF, ih (fun s hs => h s (by omega)), h m (by omega)]
theorem q_zk (tw : Nat → Int32) (m : Nat) : knF tw 0 m = 0 := by
  induction m with
  | zero => rfl
  | succ m ih => rw [knF, if_neg (by rw [b_0]; simp), ih]
theorem q_twins {m : Nat} {g r : nt_T} (h : nt_qS m g r) (x : Int32) (g' : nt_T) (h1 : g' 1 = g 1) (h5 : g' 5 = g 5) : fSh_withTwins x g' = some (knF (r 7) x m) := by
  have hm := h.1
  have e : knF (r 7) x m = knF (g 5) x m := knF_congr (fun s hs => (h.2.2.2 s hs).2.2.2.1.symm)
  rw [e]
  unfold fSh_withTwins
  have hb : ∀ k, k ≤ m → x ≠ 0 → ∀ n, k + n = m → bSh_withTwins_4 x g' (knF (g 5) x k) (nI k) = if k < m then some (.inl (knF (g 5) x (k + 1), nI (k + 1))) else some (.inr (knF (g 5) x k)) := by
    intro k hk hx n hn
    unfold bSh_withTwins_4
    rw [h1, h5, h.2.1]
    by_cases hkm : k < m
    · rw [if_neg (nI_ge hkm (by omega)), if_neg hx, if_pos hkm]
      simp only [q_tst1 x (show k < 32 by omega), q_lt, q_gd (q_in (show k < 8 by omega) (by omega)), nI_clamp (show k < 2 ^ 31 by omega), nI_1]
      rw [knF]
      by_cases hbt : bt x k = true
      · by_cases ht : g 5 k = -1
        · rw [if_pos hbt, if_pos ht, if_neg (fun q => q.2 ht)]
        · rw [if_pos hbt, if_neg ht, if_pos ⟨hbt, ht⟩]
      · rw [if_neg hbt, if_neg (fun q => hbt q.1)]
    · rw [if_neg hkm, if_pos (nI_le (by omega) (by omega))]
  by_cases hx : x = 0
  · subst hx
    have e2 : nt_it (fun z => bSh_withTwins_4 0 g' z.1 z.2) nt_fu ((0 : Int32), (0 : Int32)) = some 0 := by
      refine q_run (body := fun z => bSh_withTwins_4 0 g' z.1 z.2) (fun _ => ((0 : Int32), (0 : Int32))) 0 0 (by omega) (fun k hk => absurd hk (by omega)) ?_
      show bSh_withTwins_4 0 g' 0 0 = _
      unfold bSh_withTwins_4
      rw [if_pos (show (0 : Int32) = 0 from rfl), ite_self]
    rw [e2, q_b1, q_zk]
  · have e2 : nt_it (fun z => bSh_withTwins_4 x g' z.1 z.2) nt_fu (x, (0 : Int32)) = some (knF (g 5) x m) := by
      refine q_run (body := fun z => bSh_withTwins_4 x g' z.1 z.2) (fun k => (knF (g 5) x k, nI k)) _ m (by omega) (fun k hk => ?_) ?_
      · exact (hb k (by omega) hx (m - k) (by omega)).trans (if_pos hk)
      · exact (hb m (by omega) hx 0 (by omega)).trans (if_neg (by omega))
    rw [e2, q_b1]
theorem q_known {m : Nat} {g r : nt_T} (h : nt_qS m g r) {p : Nat} (hp : p < 9) (r' : nt_T) (h1 : r' 0 11 = r 0 11) (h7 : r' 7 = r 7) : fMo_known (nI p) r' = some (knF (r 7) (r' 10 p) m) := by
  have hm := h.1
  unfold fMo_known
  simp only [q_lt, q_gd (q_in hp (by omega)), nI_clamp (show p < 2 ^ 31 by omega)]
  have e2 : nt_it (fun z => bMo_known_9 (nI p) r' z.1 z.2) nt_fu (r' 10 p, (0 : Int32)) = some (knF (r 7) (r' 10 p) m) := by
    refine q_run (body := fun z => bMo_known_9 (nI p) r' z.1 z.2) (fun k => (knF (r 7) (r' 10 p) k, nI k)) _ m (by omega) (fun k hk => ?_) ?_
    · show bMo_known_9 (nI p) r' (knF (r 7) (r' 10 p) k) (nI k) = _
      unfold bMo_known_9
      rw [h1, h7, h.2.2.1, if_neg (nI_ge hk (by omega)), q_gd (q_in hp (by omega)), nI_clamp (show p < 2 ^ 31 by omega)]
      simp only [q_tst1 _ (show k < 32 by omega), q_lt, q_gd (q_in (show k < 8 by omega) (by omega)), nI_clamp (show k < 2 ^ 31 by omega), nI_1]
      rw [knF]
      by_cases hbt : bt (r' 10 p) k = true
      · by_cases ht : r 7 k = -1
        · rw [if_pos hbt, if_pos ht, if_neg (fun q => q.2 ht)]
        · rw [if_pos hbt, if_neg ht, if_pos ⟨hbt, ht⟩]
      · rw [if_neg hbt, if_neg (fun q => hbt q.1)]
    · show bMo_known_9 (nI p) r' (knF (r 7) (r' 10 p) m) (nI m) = _
      unfold bMo_known_9
      rw [h1, h.2.2.1, if_pos (nI_le (Nat.le_refl m) (by omega))]
  rw [e2, q_b1]
