/-! ===== a rule's value is the run of its code ===== -/
theorem st_r (g : nt_T) (k j : Nat) (v : Int32) : nt_st g k j v k = upd (g k) j v := by
  unfold nt_st nt_sc
  rw [if_pos rfl]
theorem ms_le (nm : Nat → Int32) (c : Int32) (s : Nat × (Nat → Int32)) (h : s.1 ≤ 31) : (ms nm c s).1 ≤ 31 := by
  unfold ms
  by_cases c1 : c < 6 ∨ ¬ c < 32
  · rw [if_pos c1]
    by_cases c2 : 31 ≤ s.1
    · rw [if_pos c2]; exact h
    · rw [if_neg c2]; show s.1 + 1 ≤ 31; omega
  · rw [if_neg c1]
    by_cases c2 : c = 8 ∨ c = 20
    · rw [if_pos c2]
      by_cases c3 : s.1 < 1
      · rw [if_pos c3]; exact h
      · rw [if_neg c3]; exact h
    · rw [if_neg c2]
      by_cases c3 : s.1 < 2
      · rw [if_pos c3]; exact h
      · rw [if_neg c3]; show s.1 - 1 ≤ 31; omega
theorem q_ms {nr i hi x j c : Nat} {ln : Nat → Nat} {nm : Nat → Int32} {g : nt_T} (hln : ln i ≤ 160) (hj : j < hi) (hhi : hi ≤ ln i) (hx : x ≤ 31) (hc : c < 11000) (hcode : g (48 + 2 * i) j = nI c) (hnm : ∀ k, k < 6 → g 8 k = nm k) : ∃ gq, bRu_value_63 nr ln i (nI hi) (nI x) (nI j) g = some (.inl (nI (ms nm (nI c) (x, g 9)).1, nI (j + 1), gq)) ∧ gq 9 = (ms nm (nI c) (x, g 9)).2 ∧ ∀ k, k ≠ 9 → gq k = g k := by
  have j1 : nI j + (1 : Int32) = nI (j + 1) := nI_add j 1
  have x1 : nI x + (1 : Int32) = nI (x + 1) := nI_add x 1
  have o31 : Int32.ofNat 31 = nI 31 := rfl
  unfold bRu_value_63
  rw [if_neg (show ¬ nI hi ≤ nI j from nI_ge hj (by omega)), q_gd (q_in (show j < ln i by omega) (by omega)), q_lt, nI_clamp (show j < 2 ^ 31 by omega), hcode]
  have push : ∀ s0 : Int32, x < 31 → jRu_value_122 nr ln i (nI hi) (nI x) (nI j) s0 (nI x) g = some (.inl (nI (x + 1), nI (j + 1), nt_st g 9 x s0)) := by
    intro s0 hx1
    unfold jRu_value_122
    rw [q_gd (q_in hx1 (by omega)), q_lt, q_lt, q_lt, nI_clamp (show x < 2 ^ 31 by omega), j1, x1]
  have p93 : c < 6 ∨ ¬ c < 32 → ∃ gq, jRu_value_93 nr ln i (nI hi) (nI x) (nI j) (nI c) g = some (.inl (nI (ms nm (nI c) (x, g 9)).1, nI (j + 1), gq)) ∧ gq 9 = (ms nm (nI c) (x, g 9)).2 ∧ ∀ k, k ≠ 9 → gq k = g k := by
    intro hc6
    have cc : nI c < (6 : Int32) ∨ ¬ nI c < (32 : Int32) := hc6.imp (fun q => nI_lt (b := 6) q (by omega)) (fun q => nI_nlt (a := c) (b := 32) (by omega) (by omega))
    unfold jRu_value_93
    by_cases h31 : 31 ≤ x
    · have e : ms nm (nI c) (x, g 9) = (x, g 9) := by unfold ms; rw [if_pos cc, if_pos h31]
      rw [if_pos (show Int32.ofNat 31 ≤ nI x from nI_le h31 (by omega)), q_lt, j1, e]
      exact ⟨g, rfl, rfl, fun _ _ => rfl⟩
    · rw [if_neg (show ¬ Int32.ofNat 31 ≤ nI x from nI_ge (by omega) (by omega))]
      by_cases h6 : c < 6
      · have n6 : ¬ (6 : Int32) ≤ nI c := nI_ge (b := 6) h6 (by omega)
        have e : ms nm (nI c) (x, g 9) = (x + 1, upd (g 9) x (nm c)) := by unfold ms; rw [if_pos cc, if_neg h31, if_neg n6, nI_clamp (by omega)]
        rw [if_neg n6, q_gd (q_in h6 (by omega)), nI_clamp (show c < 2 ^ 31 by omega), push _ (by omega), e, hnm c h6]
        exact ⟨_, rfl, st_r g 9 x _, fun k hk => st_row g x _ hk⟩
      · have n6 : (6 : Int32) ≤ nI c := nI_le (a := 6) (by omega) (by omega)
        have e : ms nm (nI c) (x, g 9) = (x + 1, upd (g 9) x (nI c - 32)) := by unfold ms; rw [if_pos cc, if_neg h31, if_pos n6]
        rw [if_pos n6, push _ (by omega), e]
        exact ⟨_, rfl, st_r g 9 x _, fun k hk => st_row g x _ hk⟩
  have p143 : (nI c : Int32) = 8 ∨ (nI c : Int32) = 20 → ∃ gq, jRu_value_143 nr ln i (nI hi) (nI x) (nI j) (nI c) g = some (.inl (nI (ms nm (nI c) (x, g 9)).1, nI (j + 1), gq)) ∧ gq 9 = (ms nm (nI c) (x, g 9)).2 ∧ ∀ k, k ≠ 9 → gq k = g k := by
    intro hcc
    have cc : ¬ (nI c < (6 : Int32) ∨ ¬ nI c < (32 : Int32)) := by
      rcases hcc with q | q <;> rw [q] <;> decide
    unfold jRu_value_143
    by_cases h1 : x < 1
    · have e : ms nm (nI c) (x, g 9) = (x, g 9) := by unfold ms; rw [if_neg cc, if_pos hcc, if_pos h1]
      rw [if_pos (show nI x < (1 : Int32) from nI_lt (b := 1) h1 (by omega)), q_lt, j1, e]
      exact ⟨g, rfl, rfl, fun _ _ => rfl⟩
    · have xs : nI x - (1 : Int32) = nI (x - 1) := pk_sub (a := x) (b := 1) (by omega)
      have p185 : ∀ s0 : Int32, jRu_value_185 nr ln i (nI hi) (nI x) (nI j) s0 (nI (x - 1)) g = some (.inl (nI x, nI (j + 1), nt_st g 9 (x - 1) s0)) := by
        intro s0
        unfold jRu_value_185
        rw [q_gd (q_in (show x - 1 < 31 by omega) (by omega)), q_lt, q_lt, nI_clamp (show x - 1 < 2 ^ 31 by omega), j1]
      have e : ms nm (nI c) (x, g 9) = (x, upd (g 9) (x - 1) (if nI c = 20 then -(g 9 (x - 1)) else if g 9 (x - 1) = 0 then 1 else 0)) := by unfold ms; rw [if_neg cc, if_pos hcc, if_neg h1]
      rw [if_neg (show ¬ nI x < (1 : Int32) from nI_nlt (a := x) (b := 1) (by omega) (by omega)), xs, q_gd (q_in (show x - 1 < 31 by omega) (by omega)), q_lt, nI_clamp (show x - 1 < 2 ^ 31 by omega), e]
      by_cases h20 : nI c = (20 : Int32)
      · rw [if_pos h20, if_pos h20, p185]
        exact ⟨_, rfl, st_r g 9 _ _, fun k hk => st_row g _ _ hk⟩
      · rw [if_neg h20, if_neg h20]
        by_cases h0 : g 9 (x - 1) = 0
        · rw [if_pos h0, if_pos h0, p185]
          exact ⟨_, rfl, st_r g 9 _ _, fun k hk => st_row g _ _ hk⟩
        · rw [if_neg h0, if_neg h0, p185]
          exact ⟨_, rfl, st_r g 9 _ _, fun k hk => st_row g _ _ hk⟩
  by_cases h6 : c < 6
  · rw [if_pos (show nI c < (6 : Int32) from nI_lt (b := 6) h6 (by omega))]
    exact p93 (Or.inl h6)
  · rw [if_neg (show ¬ nI c < (6 : Int32) from nI_nlt (a := c) (b := 6) (by omega) (by omega))]
    by_cases h32 : c < 32
    · rw [if_pos (show nI c < (32 : Int32) from nI_lt (b := 32) h32 (by omega))]
      by_cases h8 : nI c = (8 : Int32)
      · rw [if_pos h8]; exact p143 (Or.inl h8)
      · rw [if_neg h8]
        by_cases h20 : nI c = (20 : Int32)
        · rw [if_pos h20]; exact p143 (Or.inr h20)
        · rw [if_neg h20]
          have cc : ¬ (nI c < (6 : Int32) ∨ ¬ nI c < (32 : Int32)) := fun q => q.elim (fun a => nI_nlt (a := c) (b := 6) (by omega) (by omega) a) (fun a => a (nI_lt (b := 32) h32 (by omega)))
          have c8 : ¬ (nI c = (8 : Int32) ∨ nI c = (20 : Int32)) := fun q => q.elim h8 h20
          by_cases h2 : x < 2
          · have e : ms nm (nI c) (x, g 9) = (x, g 9) := by unfold ms; rw [if_neg cc, if_neg c8, if_pos h2]
            rw [if_pos (show nI x < (2 : Int32) from nI_lt (b := 2) h2 (by omega)), q_lt, j1, e]
            exact ⟨g, rfl, rfl, fun _ _ => rfl⟩
          · have e : ms nm (nI c) (x, g 9) = (x - 1, upd (g 9) (x - 2) (jn (nI c) (g 9 (x - 2)) (g 9 (x - 1)))) := by unfold ms; rw [if_neg cc, if_neg c8, if_neg h2]
            have xs : nI x + (-1 : Int32) = nI (x - 1) := by rw [← pk_sub (a := x) (b := 1) (by omega), Int32.sub_eq_add_neg]; rfl
            have xs2 : nI (x - 1) - (1 : Int32) = nI (x - 2) := pk_sub (a := x - 1) (b := 1) (by omega)
            rw [if_neg (show ¬ nI x < (2 : Int32) from nI_nlt (a := x) (b := 2) (by omega) (by omega)), q_lt, xs, xs2, q_gd (q_in (show x - 2 < 31 by omega) (by omega)), q_gd (q_in (show x - 1 < 31 by omega) (by omega)), nI_clamp (show x - 2 < 2 ^ 31 by omega), nI_clamp (show x - 1 < 2 ^ 31 by omega), q_joined, q_b1, q_gd (q_in (show x - 2 < 31 by omega) (by omega)), q_lt, q_lt, j1, e]
            exact ⟨_, rfl, st_r g 9 _ _, fun k hk => st_row g _ _ hk⟩
    · rw [if_neg (show ¬ nI c < (32 : Int32) from nI_nlt (a := c) (b := 32) (by omega) (by omega))]
      exact p93 (Or.inr h32)
theorem q_run54 {nr i b n : Nat} {ln : Nat → Nat} {nm : Nat → Int32} {g : nt_T} {v : Int32} (hln : ln i ≤ 160) (hb : b + n ≤ ln i) (hcode : ∀ j, j < ln i → ∃ c, c < 11000 ∧ g (48 + 2 * i) j = nI c) (hnm : ∀ k, k < 6 → g 8 k = nm k) (hP : PUSH nm (g (48 + 2 * i)) b n 31 v) : ∃ g', jRu_value_54 nr ln i (nI b) (nI (b + n)) g = some (v, g') ∧ ∀ k, k ≠ 9 → g' k = g k := by
  obtain ⟨z, e, z1, z2, z3⟩ := q_loop (body := fun z : Int32 × Int32 × nt_T => bRu_value_63 nr ln i (nI (b + n)) z.1 z.2.1 z.2.2) (s := ((0 : Int32), nI b, g)) (fun k s => s.2.1 = nI (b + k) ∧ s.1 = nI (RUN nm (g (48 + 2 * i)) b k (0, g 9)).1 ∧ s.2.2 9 = (RUN nm (g (48 + 2 * i)) b k (0, g 9)).2 ∧ (RUN nm (g (48 + 2 * i)) b k (0, g 9)).1 ≤ 31 ∧ ∀ k, k ≠ 9 → s.2.2 k = g k) (fun z => z.1 = nI (RUN nm (g (48 + 2 * i)) b n (0, g 9)).1 ∧ z.2 9 = (RUN nm (g (48 + 2 * i)) b n (0, g 9)).2 ∧ ∀ k, k ≠ 9 → z.2 k = g k) n (by omega) ⟨by rw [Nat.add_zero], rfl, rfl, Nat.zero_le _, fun _ _ => rfl⟩ (by
    rintro k ⟨s1, s2, s3⟩ hk ⟨i1, i2, i3, i4, i5⟩
    dsimp only at i1 i2 i3 i4 i5 ⊢
    obtain ⟨c, hc, hcd⟩ := hcode (b + k) (by omega)
    obtain ⟨gq, q1, q2, q3⟩ := q_ms (nr := nr) (i := i) (hi := b + n) (x := (RUN nm (g (48 + 2 * i)) b k (0, g 9)).1) (j := b + k) (c := c) (ln := ln) (nm := nm) (g := s3) hln (by omega) hb i4 hc (by rw [i5 _ (by omega)]; exact hcd) (fun k hk => by rw [i5 _ (by omega)]; exact hnm k hk)
    have er : RUN nm (g (48 + 2 * i)) b (k + 1) (0, g 9) = ms nm (nI c) ((RUN nm (g (48 + 2 * i)) b k (0, g 9)).1, s3 9) := by
      show ms nm (g (48 + 2 * i) (b + k)) (RUN nm (g (48 + 2 * i)) b k (0, g 9)) = _
      rw [hcd, i3]
    refine Or.inl ⟨_, by rw [i1, i2]; exact q1, ?_, ?_, ?_, ?_, ?_⟩
    · rfl
    · rw [er]
    · rw [er]; exact q2
    · rw [er]; exact ms_le nm _ _ i4
    · exact fun k' hk' => (q3 k' hk').trans (i5 k' hk')) (by
    rintro ⟨s1, s2, s3⟩ ⟨i1, i2, i3, i4, i5⟩
    dsimp only at i1 i2 i3 i4 i5 ⊢
    refine ⟨(s1, s3), ?_, i2, i3, i5⟩
    unfold bRu_value_63
    rw [i1, if_pos (nI_le (Nat.le_refl _) (by omega))])
  obtain ⟨p1, p2, p3⟩ := hP 0 (g 9) (by omega)
  unfold jRu_value_54
  rw [e, q_b1]
  obtain ⟨z', gz⟩ := z
  dsimp only at z1 z2 z3 ⊢
  rw [z1, p1, if_neg (show ¬ nI (0 + 1) < (1 : Int32) by decide), q_gd (by decide)]
  refine ⟨gz, ?_, z3⟩
  rw [show Int32.toNatClampNeg 0 = 0 by decide, z2, p2]
theorem q_ruv {nr i n0 n1 n2 kd : Nat} {ln : Nat → Nat} {nm : Nat → Int32} {g : nt_T} {v0 v1 v2 : Int32} (hkd : kd < 3) (hln : ln i = n0 + n1 + n2) (h160 : n0 + n1 + n2 ≤ 160) (h1 : g (47 + 2 * i) 1 = nI n0) (h2 : g (47 + 2 * i) 2 = nI (n0 + n1)) (hcode : ∀ j, j < ln i → ∃ c, c < 11000 ∧ g (48 + 2 * i) j = nI c) (hnm : ∀ k, k < 6 → g 8 k = nm k) (p0 : PUSH nm (g (48 + 2 * i)) 0 n0 31 v0) (p1 : PUSH nm (g (48 + 2 * i)) n0 n1 31 v1) (p2 : PUSH nm (g (48 + 2 * i)) (n0 + n1) n2 31 v2) : ∃ g', fRu_value nr ln i (nI kd) g = some (if nI kd = 0 then v0 else if nI kd = 1 then v1 else v2, g') ∧ ∀ k, k ≠ 9 → g' k = g k := by
  unfold fRu_value jRu_value_24
  rw [h1, h2, hln, show Int32.ofNat (n0 + n1 + n2) = nI (n0 + n1 + n2) from rfl]
  rcases (show kd = 0 ∨ kd = 1 ∨ kd = 2 by omega) with rfl | rfl | rfl
  · obtain ⟨g', e, k⟩ := q_run54 (nr := nr) (i := i) (b := 0) (n := n0) (by omega) (by omega) hcode hnm p0
    rw [Nat.zero_add] at e
    rw [if_pos (show nI 0 = (0 : Int32) from rfl), if_pos (show nI 0 = (0 : Int32) from rfl), if_pos (show nI 0 = (0 : Int32) from rfl)]
    exact ⟨g', e, k⟩
  · obtain ⟨g', e, k⟩ := q_run54 (nr := nr) (i := i) (b := n0) (n := n1) (by omega) (by omega) hcode hnm p1
    rw [if_neg (show ¬ nI 1 = 0 by decide), if_pos (show nI 1 = (1 : Int32) from rfl), if_neg (show ¬ nI 1 = 0 by decide), if_pos (show nI 1 = (1 : Int32) from rfl), if_neg (show ¬ nI 1 = 0 by decide), if_pos (show nI 1 = 1 from rfl)]
    exact ⟨g', e, k⟩
  · obtain ⟨g', e, k⟩ := q_run54 (nr := nr) (i := i) (b := n0 + n1) (n := n2) (by omega) (by omega) hcode hnm p2
    rw [if_neg (show ¬ nI 2 = 0 by decide), if_neg (show ¬ nI 2 = (1 : Int32) by decide), if_neg (show ¬ nI 2 = 0 by decide), if_neg (show ¬ nI 2 = (1 : Int32) by decide), if_neg (show ¬ nI 2 = 0 by decide), if_neg (show ¬ nI 2 = 1 by decide)]
    exact ⟨g', e, k⟩
