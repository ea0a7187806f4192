/-! ===== the three parts of a text ===== -/
theorem it_s {S X : Type} {body : S → Option (S ⊕ X)} {s s' : S} (h : body s = some (.inl s')) (n : Nat) : nt_it body (n + 1) s = nt_it body n s' := by
  rw [nt_it, h]
theorem TOK_21 {k t ta a : Nat} {r : nt_T} (h : TOK k t ta a r) : k = 21 ↔ r 0 28 = 0 := by
  unfold TOK at h
  rcases h with ⟨h1, h2⟩ | ⟨h1, h2⟩ | ⟨v, h1, h2, h3, _⟩ | ⟨s, h1, h2, h3, _⟩ | ⟨h1, h2, _⟩
  · exact ⟨fun _ => h2, fun _ => h1⟩
  · exact ⟨fun e => by omega, fun e => by rw [h2] at e; exact absurd e (by decide)⟩
  · exact ⟨fun e => by omega, fun e => by rw [h3] at e; exact absurd e (by decide)⟩
  · exact ⟨fun e => by omega, fun e => by rw [h3] at e; exact absurd e (by decide)⟩
  · exact ⟨fun e => by omega, fun e => by rw [h1] at e; exact absurd e (by decide)⟩
theorem pG13 {cs i : Nat} {x : Int32} {g g' : nt_T} (h : nt_pG cs (nt_st g 13 i x) g') : ∀ k j, ¬ (k = 10 ∧ (2 ≤ j ∧ j ≤ 5 ∨ j = 7)) → k ≠ 12 → k ≠ 13 → g' k j = g k j := fun k j h1 h2 h3 => by
  rw [h.1 k j h1 h2, st_slot _ _ (by omega)]
theorem pG13c {cs i : Nat} {x : Int32} {g g' : nt_T} (h : nt_pG cs (nt_st g 13 i x) g') : ∀ j, j < cs → g' 12 j = g 12 j := fun j hj => by
  rw [h.2 j hj, st_slot _ _ (by omega)]
/-- the class's three parts -/
theorem reads_loop {N t a ta k : Nat} {nm : Nat → Int32} {g r : nt_T} (h : nt_ps N t a ta k 5 0 nm g r) (kd : Int32) : ∃ b g' v r', (nt_b1 (nt_it (fun z => bRd_reads_23 z.1 z.2.1 z.2.2) nt_fu ((1 : Int32), (0 : Int32), g)) fun z26 => match z26 with
  | (v22, g23) => jRd_reads_82 v22 g23) = some (bI b, g') ∧ (nt_b2 (fMo_part (bI (decide (k = 9))) r) fun r9 g10 => (if (g10 0 32) = 0 then
    (nt_b1 (fMo_isWord (112 : Int32) (97 : Int32) (121 : Int32) (115 : Int32) (0 : Int32) (0 : Int32) (0 : Int32) (0 : Int32) g10) fun r12 => nt_b2 (fMo_part r12 g10) fun r13 g14 => jMo_read_91 kd r9 r13 g14)
  else
    (jMo_read_91 kd r9 (0 : Int32) g10))) = some (v, r') ∧ nt_pM r r' ∧ (∀ k j, ¬ (k = 10 ∧ (2 ≤ j ∧ j ≤ 5 ∨ j = 7)) → k ≠ 12 → k ≠ 13 → g' k j = g k j) ∧ ((b = true ∧ r' 0 32 = 0 ∧ ∃ n0 n1 n2 v0 v1 v2, n0 + n1 + n2 ≤ 160 ∧ g' 10 7 = nI (n0 + n1 + n2) ∧ g' 13 1 = nI n0 ∧ g' 13 2 = nI (n0 + n1) ∧ PUSH nm (g' 12) 0 n0 31 v0 ∧ PUSH nm (g' 12) n0 n1 31 v1 ∧ PUSH nm (g' 12) (n0 + n1) n2 31 v2 ∧ v = (if kd = 0 then v0 else if kd = 1 then v1 else v2) ∧ ∀ j, j < n0 + n1 + n2 → ∃ c, c < 11000 ∧ g' 12 j = nI c) ∨ (b = false ∧ nt_FL g' r')) := by
  obtain ⟨b0, g1, v0, r1, e0, d0, m0, hh0⟩ := q_part3 (i := 0) (by omega) h
  have e0 : bRd_reads_23 (1 : Int32) (0 : Int32) g = some (.inl (bI b0, nI 1, g1)) := e0
  have d0 : fMo_part (bI (decide (k = 9))) r = some (v0, r1) := d0
  rw [d0, q_b2]
  have d145 : ∀ v0 v1 v2 : Int32, ∀ x : nt_T, jMo_read_145 kd v0 v1 v2 x = some (if kd = 0 then v0 else if kd = 1 then v1 else v2, x) := by
    intro v0 v1 v2 x
    unfold jMo_read_145
    by_cases c : kd = 0
    · rw [if_pos c, if_pos c]
    · rw [if_neg c, if_neg c]
      by_cases c1 : kd = 1
      · rw [if_pos c1, if_pos c1]
      · rw [if_neg c1, if_neg c1]
  have it : ∀ (b : Bool) (i : Nat) (g' : nt_T), i ≤ 3 → b = false ∨ i = 3 → ∀ f, nt_it (fun z => bRd_reads_23 z.1 z.2.1 z.2.2) (f + 1) (bI b, nI i, g') = some (bI b, g') := by
    intro b i g' hi hb f
    rw [nt_it]
    simp only [reads_stop (bI b) g' (Or.inr trivial) i (hb.imp (fun q => by rw [q]; rfl) id)]
  have f82 : ∀ x : nt_T, jRd_reads_82 (bI false) x = some (bI false, x) := fun x => by unfold jRd_reads_82; rw [if_pos (show bI false = 0 from rfl)]; rfl
  have s0 : nt_it (fun z => bRd_reads_23 z.1 z.2.1 z.2.2) nt_fu ((1 : Int32), (0 : Int32), g) = nt_it (fun z => bRd_reads_23 z.1 z.2.1 z.2.2) 4999 (bI b0, nI 1, g1) := it_s (body := fun z : Int32 × Int32 × nt_T => bRd_reads_23 z.1 z.2.1 z.2.2) e0 4999
  rw [s0]
  rcases hh0 with ⟨rfl, a1, ta1, k1, n0, p1, q1, u1⟩ | ⟨rfl, f1, q1⟩
  · have z1 : r1 0 32 = 0 := p1.2.1
    obtain ⟨b1, g2, v1, r2, e1, d1, m1, hh1⟩ := q_part3 (i := 1) (by omega) p1
    have d1 : fMo_part (bI (decide (k1 = 10))) r1 = some (v1, r2) := d1
    have s1 : nt_it (fun z => bRd_reads_23 z.1 z.2.1 z.2.2) 4999 (bI true, nI 1, g1) = nt_it (fun z => bRd_reads_23 z.1 z.2.1 z.2.2) 4998 (bI b1, nI 2, g2) := it_s (body := fun z : Int32 × Int32 × nt_T => bRd_reads_23 z.1 z.2.1 z.2.2) e1 4998
    rw [if_pos z1, q_wn 10 (by omega) p1.1 z1 112 97 121 115 0 0 0 0 (by decide), q_b1, d1, q_b2, s1]
    unfold jMo_read_91
    rcases hh1 with ⟨rfl, a2, ta2, k2, n1, p2, q2, u2⟩ | ⟨rfl, f2, q2⟩
    · have z2 : r2 0 32 = 0 := p2.2.1
      obtain ⟨b2, g3, v2, r3, e2, d2, m2, hh2⟩ := q_part3 (i := 2) (by omega) p2
      have d2 : fMo_part (bI (decide (k2 = 11))) r2 = some (v2, r3) := d2
      have s2 : nt_it (fun z => bRd_reads_23 z.1 z.2.1 z.2.2) 4998 (bI true, nI 2, g2) = nt_it (fun z => bRd_reads_23 z.1 z.2.1 z.2.2) 4997 (bI b2, nI 3, g3) := it_s (body := fun z : Int32 × Int32 × nt_T => bRd_reads_23 z.1 z.2.1 z.2.2) e2 4997
      rw [if_pos z2, q_wn 11 (by omega) p2.1 z2 116 105 114 101 115 0 0 0 (by decide), q_b1, d2, q_b2, s2]
      unfold jMo_read_125
      have gg : ∀ k j, ¬ (k = 10 ∧ (2 ≤ j ∧ j ≤ 5 ∨ j = 7)) → k ≠ 12 → k ≠ 13 → g2 k j = g k j := fun k j x1 x2 x3 => (pG13 q2 k j x1 x2 x3).trans (pG13 q1 k j x1 x2 x3)
      rcases hh2 with ⟨rfl, a3, ta3, k3, n2, p3, q3, u3⟩ | ⟨rfl, f3, q3⟩
      · have z3 : r3 0 32 = 0 := p3.2.1
        have hk3 : g3 10 3 = nI k3 := p3.1.2.2.2.2.2.1
        have hkl3 : k3 < 11000 := p3.1.2.2.2.2.2.2.2.2.2.2
        have g30 : ∀ k j, ¬ (k = 10 ∧ (2 ≤ j ∧ j ≤ 5 ∨ j = 7)) → k ≠ 12 → k ≠ 13 → g3 k j = g k j := fun k j x1 x2 x3 => (pG13 q3 k j x1 x2 x3).trans (gg k j x1 x2 x3)
        rw [if_pos z3, it true 3 g3 (by omega) (Or.inr rfl) 4996, q_b1]
        by_cases c : k3 = 21
        · have c0 : r3 0 28 = 0 := (TOK_21 p3.1.2.2.2.2.2.2.1).mp c
          have h82 : jRd_reads_82 (bI true) g3 = some (bI true, g3) := by
            unfold jRd_reads_82
            rw [if_neg (show ¬ bI true = 0 by decide), hk3, c, if_pos (show nI 21 = (21 : Int32) from rfl)]
            rfl
          rw [if_pos c0, d145]
          refine ⟨true, g3, _, r3, h82, rfl, pM_tr m0 (pM_tr m1 m2), g30, Or.inl ⟨rfl, z3, n0, n1, n2, v0, v1, v2, ?_, ?_, ?_, ?_, ?_, ?_, ?_, rfl, ?_⟩⟩
          · have x1 := p3.2.2.2.2.2.2.1
            have x2 := p3.1.2.2.2.2.2.2.2.1
            have x3 := p3.1.2.2.2.2.2.2.2.2.1
            have x4 := p3.1.1.1
            omega
          · rw [p3.2.2.2.2.2.1, Nat.zero_add]
          · rw [q3.1 13 1 (by omega) (by omega), st_slot _ _ (by omega), q2.1 13 1 (by omega) (by omega), st_eq, Nat.zero_add]
          · rw [q3.1 13 2 (by omega) (by omega), st_eq, Nat.zero_add]
          · refine PUSH_congr u1 fun j j1 j2 => ?_
            rw [pG13c q3 j (by omega), pG13c q2 j (by omega)]
          · rw [Nat.zero_add] at u2 q3
            refine PUSH_congr u2 fun j j1 j2 => ?_
            rw [pG13c q3 j (by omega)]
          · rw [Nat.zero_add] at u3
            exact u3
          · have x := p3.2.2.2.2.2.2.2.2
            rw [Nat.zero_add] at x
            exact x
        · have c0 : ¬ r3 0 28 = 0 := fun q => c ((TOK_21 p3.1.2.2.2.2.2.2.1).mpr q)
          have h82 : jRd_reads_82 (bI true) g3 = some (bI false, g3) := by
            unfold jRd_reads_82
            rw [if_neg (show ¬ bI true = 0 by decide), hk3, if_neg (show ¬ nI k3 = (21 : Int32) from fun q => c ((nI_eq (a := k3) (b := 21) (by omega) (by omega)).mp q))]
            rfl
          obtain ⟨r4, e5, w1, w2, w3⟩ := q_fail p3
          rw [if_neg c0, e5, q_b1, d145]
          exact ⟨false, g3, _, r4, h82, rfl, pM_tr m0 (pM_tr m1 (pM_tr m2 w2)), g30, Or.inr ⟨rfl, w1⟩⟩
      · have z3 : ¬ r3 0 32 = 0 := by rw [f3.1]; decide
        rw [if_neg z3, it false 3 g3 (by omega) (Or.inl rfl) 4996, q_b1, d145]
        exact ⟨false, g3, _, r3, f82 g3, rfl, pM_tr m0 (pM_tr m1 m2), fun k j x1 x2 x3 => (pG13 q3 k j x1 x2 x3).trans (gg k j x1 x2 x3), Or.inr ⟨rfl, f3⟩⟩
    · have z2 : ¬ r2 0 32 = 0 := by rw [f2.1]; decide
      unfold jMo_read_125
      rw [if_neg z2, if_neg z2, it false 2 g2 (by omega) (Or.inl rfl) 4997, q_b1, d145]
      exact ⟨false, g2, _, r2, f82 g2, rfl, pM_tr m0 m1, fun k j x1 x2 x3 => (pG13 q2 k j x1 x2 x3).trans (pG13 q1 k j x1 x2 x3), Or.inr ⟨rfl, f2⟩⟩
  · have z1 : ¬ r1 0 32 = 0 := by rw [f1.1]; decide
    unfold jMo_read_91 jMo_read_125
    rw [if_neg z1, if_neg z1, if_neg z1, it false 1 g1 (by omega) (Or.inl rfl) 4998, q_b1, d145]
    exact ⟨false, g1, _, r1, f82 g1, rfl, m0, pG13 q1, Or.inr ⟨rfl, f1⟩⟩
