/-! ===== one step of both readers ===== -/
def nt_rs (N t a ta k : Nat) (g r : nt_T) : Prop := nt_in0 N t g r ∧ g 10 2 = nI a ∧ (¬ r 0 28 = 4 → r 0 27 = nI a) ∧ g 10 4 = nI ta ∧ r 0 29 = nI ta ∧ g 10 3 = nI k ∧ TOK k t ta a r ∧ ta ≤ a ∧ a ≤ N ∧ (k = 21 ∨ ta < a) ∧ k < 11000
theorem SI_lt {c : Nat} (h : SI c < 8) : c = SG (SI c) ∧ 40 ≤ c ∧ ¬ (97 ≤ c ∧ c ≤ 122) := by
  unfold SI at h ⊢
  unfold SG
  (repeat' split at h) <;> simp_all
theorem sg_if (c : Nat) (X Y : Option nt_T) : (if c = 40 then X else (if c = 41 then X else (if c = 59 then X else (if c = 43 then X else (if c = 45 then X else (if c = 42 then X else (if c = 60 then X else (if c = 61 then X else Y)))))))) = if SI c < 8 then X else Y := by
  unfold SI
  by_cases h40 : c = 40
  · rw [if_pos h40, if_pos h40, if_pos (by omega)]
  rw [if_neg h40, if_neg h40]
  by_cases h41 : c = 41
  · rw [if_pos h41, if_pos h41, if_pos (by omega)]
  rw [if_neg h41, if_neg h41]
  by_cases h59 : c = 59
  · rw [if_pos h59, if_pos h59, if_pos (by omega)]
  rw [if_neg h59, if_neg h59]
  by_cases h43 : c = 43
  · rw [if_pos h43, if_pos h43, if_pos (by omega)]
  rw [if_neg h43, if_neg h43]
  by_cases h45 : c = 45
  · rw [if_pos h45, if_pos h45, if_pos (by omega)]
  rw [if_neg h45, if_neg h45]
  by_cases h42 : c = 42
  · rw [if_pos h42, if_pos h42, if_pos (by omega)]
  rw [if_neg h42, if_neg h42]
  by_cases h60 : c = 60
  · rw [if_pos h60, if_pos h60, if_pos (by omega)]
  rw [if_neg h60, if_neg h60]
  by_cases h61 : c = 61
  · rw [if_pos h61, if_pos h61, if_pos (by omega)]
  rw [if_neg h61, if_neg h61]
  rw [if_neg (by omega)]
theorem q_step {N t a : Nat} {g r : nt_T} (h : nt_in0 N t g r) (hg : g 10 2 = nI a) (hr : r 0 27 = nI a) (ha : a ≤ N) : ∃ g' r' a' ta' k', fRd_step g = some g' ∧ fMo_next r = some r' ∧ nt_kG g g' ∧ nt_kM r r' ∧ a ≤ ta' ∧ nt_rs N t a' ta' k' g' r' := by
  have hN := h.1
  obtain ⟨g1, r1, b, e1, e2, f1, f2, f3, f4, f5, f6⟩ := q_skip h hg hr ha
  unfold fRd_step fMo_next jRd_step_52
  rw [e1, e2, q_b1, q_b1, q_lt, q_lt, q_lt, f5, f6]
  have k1 : nt_kG g (nt_st g1 10 4 (nI b)) := kG_tr f1 (kG_st _ (by omega))
  have k2 : nt_kM r (nt_st r1 0 29 (nI b)) := kM_tr f2 (kM_st _ (by omega))
  have h2 := in0_E k1 k2 h
  have g2 : (nt_st g1 10 4 (nI b)) 10 2 = nI b := by rw [st_slot _ _ (by omega)]; exact f5
  have r2 : (nt_st r1 0 29 (nI b)) 0 27 = nI b := by rw [st_slot _ _ (by omega)]; exact f6
  rw [g2, h2.2.2.1, r2, q_byteAt h2 (by omega), q_b1, q_lt]
  have k3 : nt_kM r (nt_st (nt_st r1 0 29 (nI b)) 0 28 4) := kM_tr k2 (kM_st _ (by omega))
  have h3 := in0_E k1 k3 h
  have r3 : (nt_st (nt_st r1 0 29 (nI b)) 0 28 4) 0 27 = nI b := by rw [st_slot _ _ (by omega)]; exact r2
  have r3b : (nt_st (nt_st r1 0 29 (nI b)) 0 28 4) 0 29 = nI b := by rw [st_slot _ _ (by omega), st_eq]
  by_cases c1 : b < N
  · rw [if_pos (nI_lt c1 (by omega)), if_pos c1]
    obtain ⟨et, c, hc, ec⟩ := h2.2.2.2.2.2 b c1
    have hin := q_in (show b < 160 by omega) (show 160 < 2 ^ 31 by omega)
    have hcl := nI_clamp (show b < 2 ^ 31 by omega)
    simp only [hin, hcl, q_gt, et, ec]
    rw [if_pos (show 0 ≤ nI c from nI_pos' (by omega))]
    obtain ⟨l1, l2, l3, l4⟩ := q_byte4 hc (nt_st g1 10 4 (nI b)) (nt_st (nt_st r1 0 29 (nI b)) 0 28 4)
    rw [l1, l3, q_b1, q_b1]
    have eb : (nt_st (nt_st r1 0 29 (nI b)) 0 28 4) 1 (160 * t + b) = nI c := by rw [st_slot _ _ (by omega)]; exact ec
    by_cases c2 : 97 ≤ c ∧ c ≤ 122
    · rw [decide_eq_true c2, if_neg (show ¬ bI true = 0 by decide), if_neg (show ¬ bI true = 0 by decide), q_lt]
      have k4 : nt_kM r (nt_st (nt_st (nt_st r1 0 29 (nI b)) 0 28 4) 0 28 1) := kM_tr k3 (kM_st _ (by omega))
      have h4 := in0_E k1 k4 h
      obtain ⟨g5, r5, b', e5, e6, m1, m2, m3, m4, m5, m6, m7, m8⟩ := q_letters h4 g2 (by rw [st_slot _ _ (by omega)]; exact r3) f4
      have m8 := m8 c1 ⟨c, c2.1, by omega, by rw [st_slot _ _ (by omega)]; exact eb⟩
      unfold fRd_word
      rw [e5, e6, q_b1, q_b1]
      have k5 : nt_kG g g5 := kG_tr k1 (fun k j q => m1 k j (by omega))
      have k6 : nt_kM r r5 := kM_tr k4 (fun k j q => m2 k j (by omega))
      have h5 := in0_E k5 k6 h
      have g54 : g5 10 4 = nI b := by rw [m1 10 4 (by omega), st_eq]
      obtain ⟨k, e7, hk, hkw⟩ := q_find h5 g54 m5 m3 m4
      rw [e7, q_b2, q_lt]
      refine ⟨_, _, b', b, k, rfl, rfl, kG_tr k5 (kG_st _ (by omega)), k6, f3, in0_E (kG_tr k5 (kG_st _ (by omega))) k6 h, by rw [st_slot _ _ (by omega)]; exact m5, fun _ => m6, by rw [st_slot _ _ (by omega)]; exact g54, by rw [m2 0 29 (by omega), st_slot _ _ (by omega)]; exact r3b, st_eq _ _ _ _, ?_, m3, m4, Or.inr m8, by omega⟩
      refine Or.inr (Or.inr (Or.inr (Or.inr ⟨by rw [m2 0 28 (by omega), st_eq], hk, hkw, fun o h1 h2 => ?_⟩)))
      obtain ⟨d, d1, d2, d3⟩ := m7 o h1 h2
      exact ⟨d, d1, d2, by rw [m2 1 _ (by omega)]; exact d3⟩
    · rw [decide_eq_false c2, if_pos (show bI false = 0 from rfl), if_pos (show bI false = 0 from rfl), l2, l4, q_b1, q_b1]
      by_cases c3 : 48 ≤ c ∧ c ≤ 57
      · rw [decide_eq_true c3, if_neg (show ¬ bI true = 0 by decide), if_neg (show ¬ bI true = 0 by decide), q_lt, q_lt]
        have k4 : nt_kM r (nt_stl (nt_st (nt_st (nt_st r1 0 29 (nI b)) 0 28 4) 0 28 2) 0 30 0) := kM_tr (kM_tr k3 (kM_st _ (by omega))) (kM_stl _ _)
        have h4 := in0_E k1 k4 h
        have r4 : (nt_stl (nt_st (nt_st (nt_st r1 0 29 (nI b)) 0 28 4) 0 28 2) 0 30 0) 0 27 = nI b := by rw [stl_app, if_neg (by omega), if_neg (by omega), st_slot _ _ (by omega)]; exact r3
        obtain ⟨v, g5, r5, b', e5, e6, m1, m2, m3, m4, m5, m6, m7, m8, m9⟩ := q_digits h4 g2 r4 (st_eq _ _ _ _) f4 (stl_mk _ _)
        have m9 := m9 c1 ⟨c, c3.1, c3.2, by rw [stl_app, if_neg (by omega), if_neg (by omega), st_slot _ _ (by omega)]; exact eb⟩
        unfold fRd_numeral
        rw [e5, e6, q_b1, q_b1]
        have k5 : nt_kG g g5 := kG_tr k1 (fun k j q => m1 k j (by omega))
        have k6 : nt_kM r r5 := kM_tr k4 (fun k j q => m2 k j (by omega))
        have g54 : g5 10 4 = nI b := by rw [m1 10 4 (by omega), st_eq]
        have r529 : r5 0 29 = nI b := by rw [m2 0 29 (by omega), stl_app, if_neg (by omega), if_neg (by omega), st_slot _ _ (by omega)]; exact r3b
        unfold jRd_numeral_76 jMo_next_246
        dsimp only
        rw [m5, g54, pk_sub m3]
        by_cases c4 : b' - b ≤ 4
        · have c5 : nI (b' - b) ≤ (4 : Int32) := nI_le (b := 4) c4 (by omega)
          rw [if_pos c5, if_pos c5, q_lt, q_b2, q_lt]
          refine ⟨_, _, b', b, 32 + v, rfl, rfl, kG_tr k5 (kG_st _ (by omega)), kM_tr k6 (kM_st _ (by omega)), f3, in0_E (kG_tr k5 (kG_st _ (by omega))) (kM_tr k6 (kM_st _ (by omega))) h, by rw [st_slot _ _ (by omega)]; exact m5, fun _ => by rw [st_slot _ _ (by omega)]; exact m6, by rw [st_slot _ _ (by omega)]; exact g54, by rw [st_slot _ _ (by omega)]; exact r529, by rw [st_eq, show (32 : Int32) = nI 32 from rfl, nI_add], ?_, m3, m4, Or.inr m9, by omega⟩
          refine Or.inr (Or.inr (Or.inl ⟨v, m7, rfl, st_eq _ _ _ _, ?_⟩))
          unfold nt_wo
          rw [st_slot _ _ (by omega), st_slot _ _ (by omega)]
          exact m8
        · have c5 : ¬ nI (b' - b) ≤ (4 : Int32) := fun q => c4 ((nI_leI (a := b' - b) (b := 4) (by omega) (by omega)).mp q)
          rw [if_neg c5, if_neg c5, q_lt, q_b2, q_lt]
          exact ⟨_, _, b', b, 22, rfl, rfl, kG_tr k5 (kG_st _ (by omega)), kM_tr k6 (kM_st _ (by omega)), f3, in0_E (kG_tr k5 (kG_st _ (by omega))) (kM_tr k6 (kM_st _ (by omega))) h, by rw [st_slot _ _ (by omega)]; exact m5, fun _ => by rw [st_slot _ _ (by omega)]; exact m6, by rw [st_slot _ _ (by omega)]; exact g54, by rw [st_slot _ _ (by omega)]; exact r529, st_eq _ _ _ _, Or.inr (Or.inl ⟨rfl, st_eq _ _ _ _⟩), m3, m4, Or.inr m9, by omega⟩
      · rw [decide_eq_false c3, if_pos (show bI false = 0 from rfl), if_pos (show bI false = 0 from rfl), q_sign hc, q_b2]
        have heq : ∀ s : Nat, s < 256 → ((nI c = nI s) = (c = s)) := fun s hs => propext (nI_eq (by omega) (by omega))
        unfold jRd_step_162 jMo_next_300
        rw [q_lt, q_lt, q_lt, q_lt, q_lt]
        by_cases c4 : SI c < 8
        · obtain ⟨d1, -, -⟩ := SI_lt c4
          have hz : (0 : Int32) ≤ nI (SI c) := nI_pos' (by omega)
          rw [if_pos c4, if_pos hz]
          have hM : ∀ X Y : Option nt_T, (if nI c = (40 : Int32) then X else (if nI c = (41 : Int32) then X else (if nI c = (59 : Int32) then X else (if nI c = (43 : Int32) then X else (if nI c = (45 : Int32) then X else (if nI c = (42 : Int32) then X else (if nI c = (60 : Int32) then X else (if nI c = (61 : Int32) then X else Y)))))))) = X := by
            intro X Y
            simp only [show (40 : Int32) = nI 40 from rfl, show (41 : Int32) = nI 41 from rfl, show (59 : Int32) = nI 59 from rfl, show (43 : Int32) = nI 43 from rfl, show (45 : Int32) = nI 45 from rfl, show (42 : Int32) = nI 42 from rfl, show (60 : Int32) = nI 60 from rfl, show (61 : Int32) = nI 61 from rfl, heq 40 (by omega), heq 41 (by omega), heq 59 (by omega), heq 43 (by omega), heq 45 (by omega), heq 42 (by omega), heq 60 (by omega), heq 61 (by omega)]
            rw [sg_if, if_pos c4]
          rw [hM, q_lt]
          have k5 : nt_kG g (nt_st (nt_st (nt_st g1 10 4 (nI b)) 10 3 ((12 : Int32) + nI (SI c))) 10 2 (nI (b + 1))) := kG_tr (kG_tr k1 (kG_st _ (by omega))) (kG_st _ (by omega))
          have k6 : nt_kM r (nt_st (nt_stl (nt_st (nt_st (nt_st r1 0 29 (nI b)) 0 28 4) 0 28 3) 0 30 (Int32.toInt64 (nI c))) 0 27 (nI (b + 1))) := kM_tr (kM_tr (kM_tr k3 (kM_st _ (by omega))) (kM_stl _ _)) (kM_st _ (by omega))
          have x1 : (nt_st (nt_st g1 10 4 (nI b)) 10 3 ((12 : Int32) + nI (SI c))) 10 2 + 1 = nI (b + 1) := by rw [st_slot _ _ (by omega), g2, nI_1]
          have x2 : (nt_stl (nt_st (nt_st (nt_st r1 0 29 (nI b)) 0 28 4) 0 28 3) 0 30 (Int32.toInt64 (nI c))) 0 27 + 1 = nI (b + 1) := by rw [stl_app, if_neg (by omega), if_neg (by omega), st_slot _ _ (by omega), r3, nI_1]
          rw [x1, x2]
          refine ⟨_, _, b + 1, b, 12 + SI c, rfl, rfl, k5, k6, f3, in0_E k5 k6 h, st_eq _ _ _ _, fun _ => st_eq _ _ _ _, by rw [st_slot _ _ (by omega), st_slot _ _ (by omega), st_eq], by rw [st_slot _ _ (by omega), stl_app, if_neg (by omega), if_neg (by omega), st_slot _ _ (by omega)]; exact r3b, by rw [st_slot _ _ (by omega), st_eq, show (12 : Int32) = nI 12 from rfl, nI_add], ?_, by omega, by omega, Or.inr (by omega), by omega⟩
          refine Or.inr (Or.inr (Or.inr (Or.inl ⟨SI c, c4, rfl, by rw [st_slot _ _ (by omega), stl_app, if_neg (by omega), if_neg (by omega), st_eq], ?_⟩)))
          unfold nt_wo
          rw [st_slot _ _ (by omega), st_slot _ _ (by omega), stl_mk, nI_l (by omega), ← d1]
        · have hz : ¬ (0 : Int32) ≤ -1 := by decide
          rw [if_neg c4, if_neg hz]
          have hM : ∀ X Y : Option nt_T, (if nI c = (40 : Int32) then X else (if nI c = (41 : Int32) then X else (if nI c = (59 : Int32) then X else (if nI c = (43 : Int32) then X else (if nI c = (45 : Int32) then X else (if nI c = (42 : Int32) then X else (if nI c = (60 : Int32) then X else (if nI c = (61 : Int32) then X else Y)))))))) = Y := by
            intro X Y
            simp only [show (40 : Int32) = nI 40 from rfl, show (41 : Int32) = nI 41 from rfl, show (59 : Int32) = nI 59 from rfl, show (43 : Int32) = nI 43 from rfl, show (45 : Int32) = nI 45 from rfl, show (42 : Int32) = nI 42 from rfl, show (60 : Int32) = nI 60 from rfl, show (61 : Int32) = nI 61 from rfl, heq 40 (by omega), heq 41 (by omega), heq 59 (by omega), heq 43 (by omega), heq 45 (by omega), heq 42 (by omega), heq 60 (by omega), heq 61 (by omega)]
            rw [sg_if, if_neg c4]
          rw [hM]
          have k5 : nt_kG g (nt_st (nt_st (nt_st g1 10 4 (nI b)) 10 3 22) 10 2 (nI (b + 1))) := kG_tr (kG_tr k1 (kG_st _ (by omega))) (kG_st _ (by omega))
          have x1 : (nt_st (nt_st g1 10 4 (nI b)) 10 3 (22 : Int32)) 10 2 + 1 = nI (b + 1) := by rw [st_slot _ _ (by omega), g2, nI_1]
          rw [x1]
          exact ⟨_, _, b + 1, b, 22, rfl, rfl, k5, k3, f3, in0_E k5 k3 h, st_eq _ _ _ _, fun q => absurd (st_eq _ _ _ _) q, by rw [st_slot _ _ (by omega), st_slot _ _ (by omega), st_eq], r3b, by rw [st_slot _ _ (by omega), st_eq]; rfl, Or.inr (Or.inl ⟨rfl, st_eq _ _ _ _⟩), by omega, by omega, Or.inr (by omega), by omega⟩
  · have hbN : b = N := by omega
    subst hbN
    have z1 : ¬ (0 : Int32) ≤ -1 := by decide
    rw [if_neg (nI_nlt (Nat.le_refl b) (by omega)), if_neg c1, if_neg z1, q_lt, q_lt]
    have k5 : nt_kG g (nt_st (nt_st g1 10 4 (nI b)) 10 3 21) := kG_tr k1 (kG_st _ (by omega))
    have x1 : (nt_st (nt_st (nt_st r1 0 29 (nI b)) 0 28 4) 0 28 0) 0 26 = nI b := by rw [st_slot _ _ (by omega)]; exact h3.2.2.2.2.1
    rw [x1]
    have k6 : nt_kM r (nt_st (nt_st (nt_st (nt_st r1 0 29 (nI b)) 0 28 4) 0 28 0) 0 29 (nI b)) := kM_tr (kM_tr k3 (kM_st _ (by omega))) (kM_st _ (by omega))
    exact ⟨_, _, b, b, 21, rfl, rfl, k5, k6, f3, in0_E k5 k6 h, by rw [st_slot _ _ (by omega)]; exact g2, fun _ => by rw [st_slot _ _ (by omega), st_slot _ _ (by omega)]; exact r3, by rw [st_slot _ _ (by omega), st_eq], st_eq _ _ _ _, st_eq _ _ _ _, Or.inl ⟨rfl, by rw [st_slot _ _ (by omega), st_eq]⟩, Nat.le_refl b, Nat.le_refl b, Or.inl rfl, by omega⟩
