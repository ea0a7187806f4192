/-! ===== copies between sheets; people from a sheet ===== -/
theorem q_subT {N b : Nat} (hN : N ≤ 40) (hb : b < 2 ^ 31) : (nI N - nI b).toInt = (N : Int) - b := by
  rw [Int32.toInt_sub, nI_toInt (by omega), nI_toInt hb]
  exact Int.bmod_eq_of_le (by omega) (by omega)
theorem q_sub1 {N a b : Nat} (hN : N ≤ 40) (ha : a < 2 ^ 31) (hb : b < 2 ^ 31) : (nI N - nI b < nI a ↔ N < a + b) ∧ (nI a ≤ nI N - nI b ↔ a + b ≤ N) := by
  rw [Int32.lt_iff_toInt_lt, Int32.le_iff_toInt_le, q_subT hN hb, nI_toInt ha]
  omega
def OKR (N : Nat) (x n : Int32) : Bool := decide (¬ n < 0 ∧ ¬ x < 0 ∧ x.toNatClampNeg + n.toNatClampNeg ≤ N)
theorem q_hasRun {c N : Nat} {g : nt_T} (hc : c < 4) (h : g 45 c = nI N) (hN : N ≤ 40) (x n : Int32) : fSs_hasRun (nI c) x n g = some (bI (OKR N x n)) := by
  unfold fSs_hasRun OKR
  have hin := q_in hc (show 4 < 2 ^ 31 by omega)
  have hcl := nI_clamp (show c < 2 ^ 31 by omega)
  simp only [hin, hcl, q_gt, h]
  by_cases h1 : n < 0
  · rw [if_pos h1, decide_eq_false (fun q => q.1 h1)]; rfl
  · rw [if_neg h1]
    obtain ⟨b, hb, rfl⟩ := nI_of h1
    by_cases h2 : nI N < nI b
    · have := (nI_ltI (by omega) hb).mp h2
      rw [if_pos h2, decide_eq_false (fun q => by have := q.2.2; rw [nI_clamp hb] at this; omega)]; rfl
    · rw [if_neg h2]
      by_cases h3 : x < 0
      · rw [if_pos h3, decide_eq_false (fun q => q.2.1 h3)]; rfl
      · rw [if_neg h3]
        obtain ⟨a, ha, rfl⟩ := nI_of h3
        rw [nI_clamp ha, nI_clamp hb]
        by_cases h4 : N < a + b
        · rw [if_pos ((q_sub1 hN ha hb).1.mpr h4), decide_eq_false (fun q => by omega)]; rfl
        · rw [if_neg (fun q => h4 ((q_sub1 hN ha hb).1.mp q)), decide_eq_true ⟨h1, h3, by omega⟩]; rfl
theorem q_copyM {c1 a c2 d b : Nat} {u : Int32} {r : nt_T} (h1 : c1 < 4) (h2 : c2 < 4) (ha : a + b ≤ 40) (hd : d + b ≤ 40) (hu : (u = 0 ∧ (c1 ≠ c2 ∨ d ≤ a)) ∨ (u = 1 ∧ c1 = c2 ∧ a < d)) : ∃ r', jMo_copy_116 (nI c1) (nI a) (nI c2) (nI d) (nI b) u r = some (nI b, r') ∧ (∀ j, r' 24 j = if 40 * c2 + d ≤ j ∧ j < 40 * c2 + d + b then r 24 (40 * c1 + a + (j - (40 * c2 + d))) else r 24 j) ∧ ∀ k, k ≠ 24 → r' k = r k := by
  unfold jMo_copy_116
  have ix : ∀ c e i : Nat, (((40 : Int32) * nI c) + nI e) + nI i = nI (40 * c + e + i) := fun c e i => by rw [(q_ix40 c e).2, nI_add]
  have H : ∃ y, nt_it (fun z => bMo_copy_121 (nI c1) (nI a) (nI c2) (nI d) (nI b) u z.1 z.2) nt_fu ((0 : Int32), r) = some y ∧ ((∀ j, y 24 j = if 40 * c2 + d ≤ j ∧ j < 40 * c2 + d + b then r 24 (40 * c1 + a + (j - (40 * c2 + d))) else r 24 j) ∧ ∀ k, k ≠ 24 → y k = r k) := by
    rcases hu with ⟨rfl, hu⟩ | ⟨rfl, rfl, hu⟩
    · refine q_loop (fun i st => ∃ r1, st = (nI i, r1) ∧ (∀ j, r1 24 j = if 40 * c2 + d ≤ j ∧ j < 40 * c2 + d + i then r 24 (40 * c1 + a + (j - (40 * c2 + d))) else r 24 j) ∧ ∀ q, q ≠ 24 → r1 q = r q) _ b (by omega) ⟨_, rfl, fun j => by rw [if_neg (by omega)], fun q hq => rfl⟩ ?_ ?_
      · intro i st hi hI
        obtain ⟨r1, rfl, t1, t2⟩ := hI
        left
        show ∃ s', bMo_copy_121 (nI c1) (nI a) (nI c2) (nI d) (nI b) 0 (nI i) r1 = some (.inl s') ∧ _
        unfold bMo_copy_121 jMo_copy_145
        rw [if_neg (nI_ge hi (by omega)), if_pos rfl, ix, ix]
        simp only [q_in (show 40 * c1 + a + i < 160 by omega) (show 160 < 2 ^ 31 by omega), q_in (show 40 * c2 + d + i < 160 by omega) (show 160 < 2 ^ 31 by omega), q_gt, q_lt, nI_1, nI_clamp (show 40 * c1 + a + i < 2 ^ 31 by omega), nI_clamp (show 40 * c2 + d + i < 2 ^ 31 by omega)]
        refine ⟨_, rfl, _, rfl, fun j => ?_, fun q hq => by rw [st_row _ _ _ hq]; exact t2 q hq⟩
        by_cases e : j = 40 * c2 + d + i
        · subst e
          rw [st_eq, if_pos (by omega), t1, if_neg (by omega)]
          congr 1
          omega
        · rw [st_slot _ _ (Or.inr e), t1]
          by_cases q : 40 * c2 + d ≤ j ∧ j < 40 * c2 + d + i
          · rw [if_pos q, if_pos (by omega)]
          · rw [if_neg q, if_neg (by omega)]
      · intro st hI
        obtain ⟨r1, rfl, t1, t2⟩ := hI
        refine ⟨r1, ?_, t1, t2⟩
        show bMo_copy_121 (nI c1) (nI a) (nI c2) (nI d) (nI b) 0 (nI b) r1 = _
        unfold bMo_copy_121
        rw [if_pos (nI_le (Nat.le_refl b) (by omega))]
    · refine q_loop (fun i st => ∃ r1, st = (nI i, r1) ∧ i ≤ b ∧ (∀ j, r1 24 j = if 40 * c1 + d + (b - i) ≤ j ∧ j < 40 * c1 + d + b then r 24 (40 * c1 + a + (j - (40 * c1 + d))) else r 24 j) ∧ ∀ q, q ≠ 24 → r1 q = r q) _ b (by omega) ⟨_, rfl, by omega, fun j => by rw [if_neg (by omega)], fun q hq => rfl⟩ ?_ ?_
      · intro i st hi hI
        obtain ⟨r1, rfl, hib, t1, t2⟩ := hI
        left
        show ∃ s', bMo_copy_121 (nI c1) (nI a) (nI c1) (nI d) (nI b) 1 (nI i) r1 = some (.inl s') ∧ _
        unfold bMo_copy_121 jMo_copy_145
        have e0 : (nI b - (1 : Int32)) - nI i = nI (b - 1 - i) := by
          rw [show (1 : Int32) = nI 1 from rfl, pk_sub (show 1 ≤ b by omega), pk_sub (by omega)]
        rw [if_neg (nI_ge hi (by omega)), if_neg (by decide), e0, ix, ix]
        simp only [q_in (show 40 * c1 + a + (b - 1 - i) < 160 by omega) (show 160 < 2 ^ 31 by omega), q_in (show 40 * c1 + d + (b - 1 - i) < 160 by omega) (show 160 < 2 ^ 31 by omega), q_gt, q_lt, nI_1, nI_clamp (show 40 * c1 + a + (b - 1 - i) < 2 ^ 31 by omega), nI_clamp (show 40 * c1 + d + (b - 1 - i) < 2 ^ 31 by omega)]
        refine ⟨_, rfl, _, rfl, by omega, fun j => ?_, fun q hq => by rw [st_row _ _ _ hq]; exact t2 q hq⟩
        by_cases e : j = 40 * c1 + d + (b - 1 - i)
        · subst e
          rw [st_eq, if_pos (by omega), t1, if_neg (by omega)]
          congr 1
          omega
        · rw [st_slot _ _ (Or.inr e), t1]
          by_cases q : 40 * c1 + d + (b - i) ≤ j ∧ j < 40 * c1 + d + b
          · rw [if_pos q, if_pos (by omega)]
          · rw [if_neg q, if_neg (by omega)]
      · intro st hI
        obtain ⟨r1, rfl, -, t1, t2⟩ := hI
        refine ⟨r1, ?_, fun j => ?_, t2⟩
        · show bMo_copy_121 (nI c1) (nI a) (nI c1) (nI d) (nI b) 1 (nI b) r1 = _
          unfold bMo_copy_121
          rw [if_pos (nI_le (Nat.le_refl b) (by omega))]
        · rw [t1, show b - b = 0 by omega, Nat.add_zero]
  obtain ⟨y, e, t1, t2⟩ := H
  rw [e, q_b1]
  exact ⟨y, rfl, t1, t2⟩
theorem st_copy {nr : Nat} {ln : Nat → Nat} {g r : nt_T} (h : nt_Rel nr ln g r) (x1 x2 x3 x4 x5 : Int32) : ∃ (v : Int32) (ga : nt_T) (gb : nt_T), fNt_copy x1 x2 x3 x4 x5 g = some (v, ga) ∧ fMo_copy x1 x2 x3 x4 x5 r = some (v, gb) ∧ nt_Rel nr ln ga gb := by
  have hH : nt_qH g r := by
    obtain ⟨m, n, hn, hQ, hO⟩ := h
    exact hO.2.2
  unfold fNt_copy fMo_copy jMo_copy_115
  rw [(q_sh x1 g r).1, (q_sh x1 g r).2, q_b1, q_b1]
  cases h1 : nt_in x1 4
  · exact ⟨_, _, _, if_pos rfl, if_pos rfl, h⟩
  rw [if_neg (show ¬ bI true = 0 by decide), if_neg (show ¬ bI true = 0 by decide), (q_sh x3 g r).1, (q_sh x3 g r).2, q_b1, q_b1]
  cases h3 : nt_in x3 4
  · exact ⟨_, _, _, if_pos rfl, if_pos rfl, h⟩
  rw [if_neg (show ¬ bI true = 0 by decide), if_neg (show ¬ bI true = 0 by decide)]
  obtain ⟨c, hc, rfl⟩ := q_in_of (by omega) h1
  obtain ⟨e, he, rfl⟩ := q_in_of (by omega) h3
  rw [q_miss hc, q_miss he, q_b1]
  have hin := q_in hc (show 4 < 2 ^ 31 by omega)
  have hcl := nI_clamp (show c < 2 ^ 31 by omega)
  have hin2 := q_in he (show 4 < 2 ^ 31 by omega)
  have hcl2 := nI_clamp (show e < 2 ^ 31 by omega)
  simp only [hin, hcl, hin2, hcl2, q_gt]
  rcases hH c hc with ⟨f1, f2⟩ | ⟨k, N, f1, f2, f3, f4, f5, f6, f7, f8⟩
  · rw [decide_eq_true f1, if_neg (show ¬ bI true = 0 by decide), if_pos f2]
    exact ⟨_, _, _, rfl, rfl, h⟩
  rw [decide_eq_false (by rw [f3]; exact nI_m1 (by omega)), if_pos (show bI false = 0 from rfl), if_neg (show ¬ r 21 c = 0 by rw [f4]; decide), q_b1]
  rcases hH e he with ⟨u1, u2⟩ | ⟨k', M, u1, u2, u3, u4, u5, u6, u7, u8⟩
  · rw [decide_eq_true u1, if_neg (show ¬ bI true = 0 by decide), if_pos u2]
    exact ⟨_, _, _, rfl, rfl, h⟩
  rw [decide_eq_false (by rw [u3]; exact nI_m1 (by omega)), if_pos (show bI false = 0 from rfl), if_neg (show ¬ r 21 e = 0 by rw [u4]; decide), f3, f5, u3, u5]
  by_cases hk : nI k = nI k'
  rotate_left
  · rw [if_neg hk, if_neg hk]
    exact ⟨_, _, _, rfl, rfl, h⟩
  rw [if_pos hk, if_pos hk, q_hasRun hc f6 f2, q_hasRun he u6 u2, q_b1, q_b1, f7, u7]
  have fin : ∀ x y : Option (Int32 × nt_T), x = some (-12, g) → y = some (-12, r) → ∃ (v : Int32) (ga gb : nt_T), x = some (v, ga) ∧ y = some (v, gb) ∧ nt_Rel nr ln ga gb := fun x y a b => ⟨_, _, _, a, b, h⟩
  have no : ∀ (A B : Bool) (X : Option (Int32 × nt_T)), (A && B) = false → (if bI A = 0 then some ((-12 : Int32), g) else if bI B = 0 then some ((-12 : Int32), g) else X) = some (-12, g) := by
    intro A B X hX
    cases A
    · rw [if_pos (show bI false = 0 from rfl)]
    · cases B
      · rw [if_neg (show ¬ bI true = 0 by decide), if_pos (show bI false = 0 from rfl)]
      · cases hX
  by_cases k1 : x5 < 0
  · refine fin _ _ (no _ _ _ ?_) (if_pos k1)
    unfold OKR
    rw [decide_eq_false (fun q => q.1 k1), Bool.false_and]
  rw [if_neg k1]
  by_cases k2 : x2 < 0
  · refine fin _ _ (no _ _ _ ?_) (if_pos k2)
    unfold OKR
    rw [decide_eq_false (fun q => q.2.1 k2), Bool.false_and]
  rw [if_neg k2]
  by_cases k3 : x4 < 0
  · refine fin _ _ (no _ _ _ ?_) (if_pos k3)
    unfold OKR
    rw [decide_eq_false (fun (q : ¬ x5 < 0 ∧ ¬ x4 < 0 ∧ _) => q.2.1 k3), Bool.and_false]
  rw [if_neg k3]
  obtain ⟨b, hb, rfl⟩ := nI_of k1
  obtain ⟨a, ha, rfl⟩ := nI_of k2
  obtain ⟨d, hd, rfl⟩ := nI_of k3
  have o1 : ∀ N x, x < 2 ^ 31 → OKR N (nI x) (nI b) = decide (x + b ≤ N) := by
    intro N x hx
    unfold OKR
    rw [nI_clamp hx, nI_clamp hb]
    exact decide_eq_decide.mpr ⟨fun q => q.2.2, fun q => ⟨nI_pos hb, nI_pos hx, q⟩⟩
  rw [o1 N a ha, o1 M d hd]
  by_cases k4 : N < a + b
  · refine fin _ _ (no _ _ _ ?_) (if_pos ((q_sub1 f2 ha hb).1.mpr k4))
    rw [decide_eq_false (by omega), Bool.false_and]
  rw [if_neg (fun q => k4 ((q_sub1 f2 ha hb).1.mp q))]
  by_cases k5 : d + b ≤ M
  rotate_left
  · refine fin _ _ (no _ _ _ ?_) (if_neg (fun q => k5 ((q_sub1 u2 hd hb).2.mp q)))
    rw [decide_eq_false k5, Bool.and_false]
  rw [if_pos ((q_sub1 u2 hd hb).2.mpr k5), decide_eq_true (show a + b ≤ N by omega), decide_eq_true k5, if_neg (show ¬ bI true = 0 by decide), if_neg (show ¬ bI true = 0 by decide)]
  have hC : fSs_carry (nI c) (nI a) (nI e) (nI d) (nI b) g = some (nt_sc g 46 (va_cpy (g 46) (g 46) (40 * c + a) (40 * e + d) b)) := by
    unfold fSs_carry
    rw [(q_ix40 c a).1, (q_ix40 e d).1]
    have : nt_cpok (nI (40 * c + a)) (nI (40 * e + d)) (nI b) 160 160 = true := by
      unfold nt_cpok
      rw [decide_eq_true (nI_pos (by omega)), decide_eq_true (nI_pos (by omega)), decide_eq_true (nI_pos hb), nI_clamp (show 40 * c + a < 2 ^ 31 by omega), nI_clamp (show 40 * e + d < 2 ^ 31 by omega), nI_clamp hb, decide_eq_true (show 40 * c + a + b ≤ 160 by omega), decide_eq_true (show 40 * e + d + b ≤ 160 by omega)]
      rfl
    rw [q_gd this, q_lt, nI_clamp (show 40 * c + a < 2 ^ 31 by omega), nI_clamp (show 40 * e + d < 2 ^ 31 by omega), nI_clamp hb]
  have hR : ∃ r', (if nI c = nI e then (if nI d ≤ nI a then jMo_copy_116 (nI c) (nI a) (nI e) (nI d) (nI b) 0 r else jMo_copy_116 (nI c) (nI a) (nI e) (nI d) (nI b) 1 r) else jMo_copy_116 (nI c) (nI a) (nI e) (nI d) (nI b) 0 r) = some (nI b, r') ∧ (∀ j, r' 24 j = if 40 * e + d ≤ j ∧ j < 40 * e + d + b then r 24 (40 * c + a + (j - (40 * e + d))) else r 24 j) ∧ ∀ k, k ≠ 24 → r' k = r k := by
    by_cases q1 : nI c = nI e
    · have q2 := (nI_eq (by omega) (by omega)).mp q1
      rw [if_pos q1]
      by_cases q3 : nI d ≤ nI a
      · rw [if_pos q3]
        exact q_copyM hc he (by omega) (by omega) (Or.inl ⟨rfl, Or.inr ((nI_leI hd ha).mp q3)⟩)
      · rw [if_neg q3]
        exact q_copyM hc he (by omega) (by omega) (Or.inr ⟨rfl, q2, by
          have : ¬ d ≤ a := fun z => q3 ((nI_leI hd ha).mpr z)
          omega⟩)
    · rw [if_neg q1]
      exact q_copyM hc he (by omega) (by omega) (Or.inl ⟨rfl, Or.inl (fun z => q1 (by rw [z]))⟩)
  obtain ⟨r', e2, t1, t2⟩ := hR
  rw [hC, q_b1, e2]
  refine ⟨_, _, _, rfl, rfl, Rel_H h (fun q hq => ?_) (fun q hq => scw_ne _ _ (by omega)) (fun q hq => t2 q (by omega))⟩
  rw [scw_ne _ _ (show (44 : Nat) ≠ 46 by omega), scw_ne _ _ (show (45 : Nat) ≠ 46 by omega), scw_eq, t2 21 (by omega), t2 22 (by omega), t2 23 (by omega)]
  rcases hH q hq with f | ⟨k2, N2, v1, v2, v3, v4, v5, v6, v7, v8⟩
  · exact Or.inl f
  refine Or.inr ⟨k2, N2, v1, v2, v3, v4, v5, v6, v7, fun i hi => ?_⟩
  rw [t1]
  by_cases w : 40 * e + d ≤ 40 * q + i ∧ 40 * q + i < 40 * e + d + b
  · rw [if_pos w, pk_cpy_in w.1 w.2]
    have := f8 (a + (40 * q + i - (40 * e + d))) (by omega)
    rw [← Nat.add_assoc] at this
    exact this
  · rw [if_neg w, pk_cpy_out (by omega)]
    exact v8 i hi
theorem q_reach {c N : Nat} {g : nt_T} (hc : c < 4) (h : g 45 c = nI N) (hN : N ≤ 40) (x : Int32) : fSs_reaches (nI c) x g = some (bI (nt_in x N)) := by
  unfold fSs_reaches
  rw [q_gd (q_in hc (by omega)), nI_clamp (by omega), q_below (n := N) (by omega) h, q_b1, q_gd (q_nb _)]
def nt_sm (nr : Nat) (ln : Nat → Nat) (x y : nt_T ⊕ (Int32 × nt_T)) : Prop := ∃ ga gb v, nt_Rel nr ln ga gb ∧ ((x = .inl ga ∧ y = .inl gb) ∨ (x = .inr (v, ga) ∧ y = .inr (v, gb)))
theorem q_peopleL {nr : Nat} {ln : Nat → Nat} {g r : nt_T} (h : nt_Rel nr ln g r) {c N N8 : Nat} (hc : c < 4) (hN : N ≤ 40) (h8 : N8 ≤ 8) (f6 : g 45 c = nI N) (f7 : r 23 c = nI N) (f8 : ∀ i, i < N → g 46 (40 * c + i) = r 24 (40 * c + i)) (x3 : Int32) : ∃ x y, nt_it (fun z => bNt_people_70 (nI c) x3 (nI N8) z.1 z.2.1 z.2.2) nt_fu ((0 : Int32), (0 : Int32), g) = some x ∧ nt_it (fun z => bMo_people_75 (nI c) x3 (nI N8) z.1 z.2.1 z.2.2) nt_fu ((0 : Int32), (0 : Int32), r) = some y ∧ nt_sm nr ln x y := by
  have hin := q_in hc (show 4 < 2 ^ 31 by omega)
  have hcl := nI_clamp (show c < 2 ^ 31 by omega)
  by_cases h0 : N8 = 0
  · subst h0
    refine ⟨.inr (0, g), .inr (0, r), ?_, ?_, g, r, 0, h, Or.inr ⟨rfl, rfl⟩⟩
    · refine q_run (body := fun z => bNt_people_70 (nI c) x3 (nI 0) z.1 z.2.1 z.2.2) (fun _ => ((0 : Int32), (0 : Int32), g)) _ 0 (by omega) (fun k hk => absurd hk (by omega)) ?_
      show bNt_people_70 (nI c) x3 (nI 0) 0 0 g = _
      unfold bNt_people_70
      rw [if_pos (show nI 0 ≤ (0 : Int32) by decide)]
    · refine q_run (body := fun z => bMo_people_75 (nI c) x3 (nI 0) z.1 z.2.1 z.2.2) (fun _ => ((0 : Int32), (0 : Int32), r)) _ 0 (by omega) (fun k hk => absurd hk (by omega)) ?_
      show bMo_people_75 (nI c) x3 (nI 0) 0 0 r = _
      unfold bMo_people_75
      rw [if_pos (show nI 0 ≤ (0 : Int32) by decide)]
  have z8 : ¬ nI N8 ≤ (0 : Int32) := nI_nle (by omega) (by omega)
  have z0 : x3 + ((2 : Int32) * 0) = x3 := by rw [show (2 : Int32) * 0 = nI 0 from rfl, nI_0, Int32.add_zero]
  by_cases hx : ¬ nt_in x3 N = true
  · have hx : nt_in x3 N = false := by cases q : nt_in x3 N <;> simp_all
    refine ⟨.inl g, .inl r, ?_, ?_, g, r, 0, h, Or.inl ⟨rfl, rfl⟩⟩
    · refine q_run (body := fun z => bNt_people_70 (nI c) x3 (nI N8) z.1 z.2.1 z.2.2) (fun _ => ((0 : Int32), (0 : Int32), g)) _ 0 (by omega) (fun k hk => absurd hk (by omega)) ?_
      show bNt_people_70 (nI c) x3 (nI N8) 0 0 g = _
      unfold bNt_people_70
      rw [if_neg z8, z0, q_lt, q_reach hc f6 hN, q_b1, hx, if_pos (show bI false = 0 from rfl)]
    · refine q_run (body := fun z => bMo_people_75 (nI c) x3 (nI N8) z.1 z.2.1 z.2.2) (fun _ => ((0 : Int32), (0 : Int32), r)) _ 0 (by omega) (fun k hk => absurd hk (by omega)) ?_
      show bMo_people_75 (nI c) x3 (nI N8) 0 0 r = _
      unfold bMo_people_75
      rw [if_neg z8]
      by_cases h1 : x3 < 0
      · rw [if_pos h1]
      · rw [if_neg h1]
        simp only [hin, hcl, q_gt, f7]
        obtain ⟨a, ha, rfl⟩ := nI_of h1
        have hna : N ≤ a := by
          refine Decidable.byContradiction (fun q => ?_)
          rw [q_in (show a < N by omega) (by omega)] at hx
          cases hx
        have e2 : (nI N - ((2 : Int32) * 0)) - (2 : Int32) = nI N - nI 2 := by
          rw [show ((2 : Int32) * 0) = 0 from rfl, Int32.sub_zero]
          rfl
        rw [e2, if_neg (fun q => by
          have := (q_sub1 hN ha (show 2 < 2 ^ 31 by omega)).2.mp q
          omega)]
  · have hx : nt_in x3 N = true := Decidable.byContradiction hx
    obtain ⟨a, ha, rfl⟩ := q_in_of (by omega) hx
    have ev : ∀ i : Nat, nI a + ((2 : Int32) * nI i) = nI (a + 2 * i) := fun i => by rw [show (2 : Int32) = nI 2 from rfl, pk_mul, nI_add]
    have ev2 : ∀ i : Nat, (((40 : Int32) * nI c) + nI a) + ((2 : Int32) * nI i) = nI (40 * c + (a + 2 * i)) := fun i => by rw [(q_ix40 c a).2, show (2 : Int32) = nI 2 from rfl, pk_mul, nI_add, Nat.add_assoc]
    have st : ∀ (i K : Nat) (gi ri : nt_T), i < N8 → gi 45 c = nI N → ri 23 c = nI N → (∀ i, i < N → gi 46 (40 * c + i) = ri 24 (40 * c + i)) → nt_Rel nr ln gi ri → (bNt_people_70 (nI c) (nI a) (nI N8) (nI K) (nI i) gi = some (.inr (.inl gi)) ∧ bMo_people_75 (nI c) (nI a) (nI N8) (nI K) (nI i) ri = some (.inr (.inl ri))) ∨ ∃ K' gj rj, bNt_people_70 (nI c) (nI a) (nI N8) (nI K) (nI i) gi = some (.inl (nI K', nI (i + 1), gj)) ∧ bMo_people_75 (nI c) (nI a) (nI N8) (nI K) (nI i) ri = some (.inl (nI K', nI (i + 1), rj)) ∧ gj 45 c = nI N ∧ rj 23 c = nI N ∧ (∀ i, i < N → gj 46 (40 * c + i) = rj 24 (40 * c + i)) ∧ nt_Rel nr ln gj rj := by
      intro i K gi ri hi g6 g7 g8 hR
      unfold bNt_people_70 bMo_people_75
      rw [if_neg (nI_ge hi (by omega)), if_neg (nI_ge hi (by omega)), ev, ev2, q_lt, q_reach hc g6 hN, q_b1, if_neg (nI_pos (show a < 2 ^ 31 by omega))]
      simp only [hin, hcl, q_gt, g7, q_lt, nI_1]
      by_cases c1 : a + 2 * i + 1 < N
      · right
        rw [q_in (show a + 2 * i < N by omega) (by omega), if_neg (show ¬ bI true = 0 by decide), q_reach hc g6 hN, q_b1, q_in c1 (by omega), if_neg (show ¬ bI true = 0 by decide)]
        have c2 : nI a ≤ (nI N - ((2 : Int32) * nI i)) - (2 : Int32) := by
          rw [show (2 : Int32) = nI 2 from rfl, pk_mul, pk_sub (by omega), pk_sub (by omega)]
          exact nI_le (by omega) (by omega)
        rw [if_pos c2]
        unfold fSs_at
        simp only [(q_ix40 c (a + 2 * i)).1, (q_ix40 c (a + 2 * i + 1)).1, q_in (show 40 * c + (a + 2 * i) < 160 by omega) (show 160 < 2 ^ 31 by omega), q_in (show 40 * c + (a + 2 * i) + 1 < 160 by omega) (show 160 < 2 ^ 31 by omega), q_in (show 40 * c + (a + 2 * i + 1) < 160 by omega) (show 160 < 2 ^ 31 by omega), q_gt, q_b1, nI_clamp (show 40 * c + (a + 2 * i) < 2 ^ 31 by omega), nI_clamp (show 40 * c + (a + 2 * i) + 1 < 2 ^ 31 by omega), nI_clamp (show 40 * c + (a + 2 * i + 1) < 2 ^ 31 by omega)]
        obtain ⟨v, ga, gb, e1, e2, hR2, hg, hr⟩ := q_come hR (gi 46 (40 * c + (a + 2 * i))) (gi 46 (40 * c + (a + 2 * i + 1)))
        rw [← g8 (a + 2 * i) (by omega), show 40 * c + (a + 2 * i) + 1 = 40 * c + (a + 2 * i + 1) by omega, ← g8 (a + 2 * i + 1) (by omega), e1, e2, q_b2, q_b2]
        have fr : ga 45 c = nI N ∧ gb 23 c = nI N ∧ (∀ i, i < N → ga 46 (40 * c + i) = gb 24 (40 * c + i)) := by
          rw [hg 45 (by omega), hg 46 (by omega), hr 23 (by omega), hr 24 (by omega)]
          exact ⟨g6, g7, g8⟩
        by_cases hv : v < 0
        · rw [if_pos hv, if_pos hv]
          exact ⟨K, ga, gb, rfl, by rw [show nI K + (0 : Int32) = nI K from Int32.add_zero _], fr.1, fr.2.1, fr.2.2, hR2⟩
        · rw [if_neg hv, if_neg hv]
          exact ⟨K + 1, ga, gb, rfl, rfl, fr.1, fr.2.1, fr.2.2, hR2⟩
      · left
        have c2 : ¬ nI a ≤ (nI N - ((2 : Int32) * nI i)) - (2 : Int32) := by
          have e3 : (nI N - ((2 : Int32) * nI i)) - (2 : Int32) = nI N - nI (2 * i + 2) := by
            rw [show (2 : Int32) = nI 2 from rfl, pk_mul, ← nI_add, Int32.sub_sub]
          rw [e3]
          intro q
          have := (q_sub1 hN (show a < 2 ^ 31 by omega) (show 2 * i + 2 < 2 ^ 31 by omega)).2.mp q
          omega
        rw [if_neg c2]
        refine ⟨?_, rfl⟩
        cases q : nt_in (nI (a + 2 * i)) N
        · rw [if_pos (show bI false = 0 from rfl)]
        · rw [if_neg (show ¬ bI true = 0 by decide), q_reach hc g6 hN, q_b1]
          have : nt_in (nI (a + 2 * i + 1)) N = false := by
            cases q2 : nt_in (nI (a + 2 * i + 1)) N
            · rfl
            · obtain ⟨w, hw, ew⟩ := q_in_of (by omega) q2
              have := (nI_eq (by omega) (by omega)).mp ew
              omega
          rw [this, if_pos (show bI false = 0 from rfl)]
    refine q_both (fun i s t => ∃ K gi ri, s = (nI K, nI i, gi) ∧ t = (nI K, nI i, ri) ∧ gi 45 c = nI N ∧ ri 23 c = nI N ∧ (∀ i, i < N → gi 46 (40 * c + i) = ri 24 (40 * c + i)) ∧ nt_Rel nr ln gi ri) _ N8 (by omega) ⟨0, g, r, rfl, rfl, f6, f7, f8, h⟩ ?_ ?_
    · intro i s t hi hI
      obtain ⟨K, gi, ri, rfl, rfl, g6, g7, g8, hR⟩ := hI
      rcases st i K gi ri hi g6 g7 g8 hR with ⟨e1, e2⟩ | ⟨K', gj, rj, e1, e2, g6', g7', g8', hR'⟩
      · exact Or.inr ⟨_, _, e1, e2, gi, ri, 0, hR, Or.inl ⟨rfl, rfl⟩⟩
      · exact Or.inl ⟨_, _, e1, e2, K', gj, rj, rfl, rfl, g6', g7', g8', hR'⟩
    · intro s t hI
      obtain ⟨K, gi, ri, rfl, rfl, g6, g7, g8, hR⟩ := hI
      refine ⟨_, _, ?_, ?_, gi, ri, nI K, hR, Or.inr ⟨rfl, rfl⟩⟩
      · show bNt_people_70 (nI c) (nI a) (nI N8) (nI K) (nI N8) gi = _
        unfold bNt_people_70
        rw [if_pos (nI_le (Nat.le_refl N8) (by omega))]
      · show bMo_people_75 (nI c) (nI a) (nI N8) (nI K) (nI N8) ri = _
        unfold bMo_people_75
        rw [if_pos (nI_le (Nat.le_refl N8) (by omega))]
theorem q_le8 (x : Int32) : nt_in x 9 = true ↔ ¬ x < 0 ∧ x ≤ 8 := by
  rw [q_in_iff (by omega), Int32.lt_iff_toInt_lt (x := x) (y := nI 9), Int32.le_iff_toInt_le]
  have h1 : (nI 9).toInt = 9 := by decide
  have h2 : (8 : Int32).toInt = 8 := by decide
  rw [h1, h2]
  constructor
  · intro h; exact ⟨h.1, by omega⟩
  · intro h; exact ⟨h.1, by omega⟩
theorem st_people {nr : Nat} {ln : Nat → Nat} {g r : nt_T} (h : nt_Rel nr ln g r) (x1 x2 x3 x4 : Int32) : ∃ (v : Int32) (ga : nt_T) (gb : nt_T), fNt_people x1 x2 x3 x4 g = some (v, ga) ∧ fMo_people x1 x2 x3 x4 r = some (v, gb) ∧ nt_Rel nr ln ga gb := by
  have hH : nt_qH g r := by
    obtain ⟨m, n, hn, hQ, hO⟩ := h
    exact hO.2.2
  unfold fNt_people fMo_people
  rw [(q_sh x1 g r).1, (q_sh x1 g r).2, q_b1, q_b1]
  cases h1 : nt_in x1 4
  · exact ⟨_, _, _, if_pos rfl, if_pos rfl, h⟩
  rw [if_neg (show ¬ bI true = 0 by decide), if_neg (show ¬ bI true = 0 by decide), q_below (y := (3 : Int32)) (n := 3) (by omega) rfl, q_moin (x := x2) (n := 3) (by omega) (by decide), q_b1, q_b1]
  cases h2 : nt_in x2 3
  · exact ⟨_, _, _, if_pos rfl, if_pos rfl, h⟩
  rw [if_neg (show ¬ bI true = 0 by decide), if_neg (show ¬ bI true = 0 by decide), q_moin (x := x4) (n := 9) (by omega) (by decide), q_b1]
  by_cases h4 : ¬ nt_in x4 9 = true
  · have h5 : nt_in x4 9 = false := by cases q : nt_in x4 9 <;> simp_all
    rw [h5, if_pos (show bI false = 0 from rfl)]
    by_cases a1 : x4 < 0
    · rw [if_pos a1]; exact ⟨_, _, _, rfl, rfl, h⟩
    · rw [if_neg a1, if_neg (fun q => h4 ((q_le8 x4).mpr ⟨a1, q⟩))]
      exact ⟨_, _, _, rfl, rfl, h⟩
  have h4 : nt_in x4 9 = true := Decidable.byContradiction h4
  obtain ⟨a1, a2⟩ := (q_le8 x4).mp h4
  rw [h4, if_neg (show ¬ bI true = 0 by decide), if_neg a1, if_pos a2]
  obtain ⟨c, hc, rfl⟩ := q_in_of (by omega) h1
  obtain ⟨N8, h8, rfl⟩ := q_in_of (by omega) h4
  have hin := q_in hc (show 4 < 2 ^ 31 by omega)
  have hcl := nI_clamp (show c < 2 ^ 31 by omega)
  unfold jMo_people_57
  rw [q_miss hc, q_b1]
  simp only [hin, hcl, q_gt]
  rcases hH c hc with ⟨f1, f2⟩ | ⟨k, N, f1, f2, f3, f4, f5, f6, f7, f8⟩
  · rw [decide_eq_true f1, if_neg (show ¬ bI true = 0 by decide), if_pos f2, if_pos f2]
    exact ⟨_, _, _, rfl, rfl, h⟩
  have hz : ¬ r 21 c = 0 := by rw [f4]; decide
  rw [decide_eq_false (by rw [f3]; exact nI_m1 (by omega)), if_pos (show bI false = 0 from rfl), if_neg hz, if_neg hz, f3, f5]
  by_cases hk : nI k = x2
  · rw [if_pos hk, if_pos hk]
    obtain ⟨x, y, e1, e2, ga, gb, v, hR, e3⟩ := q_peopleL h hc f2 (show N8 ≤ 8 by omega) f6 f7 f8 x3
    rw [e1, e2, q_b1, q_b1]
    rcases e3 with ⟨rfl, rfl⟩ | ⟨rfl, rfl⟩
    · exact ⟨_, _, _, rfl, rfl, hR⟩
    · exact ⟨_, _, _, rfl, rfl, hR⟩
  · rw [if_neg hk, if_neg hk]
    exact ⟨_, _, _, rfl, rfl, h⟩
