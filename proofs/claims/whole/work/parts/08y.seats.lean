/-! ===== spread: the class's table ===== -/
def nt_sC (g g' : nt_T) : Prop := ∀ k j, k ≠ 8 → k ≠ 9 → (k < 35 ∨ 42 < k) → g' k j = g k j
def nt_sM (r r' : nt_T) : Prop := ∀ k j, k ≠ 16 → k ≠ 17 → ¬ nt_mS k j → r' k j = r k j
theorem sC_rf (g : nt_T) : nt_sC g g := fun _ _ _ _ _ => rfl
theorem sM_rf (r : nt_T) : nt_sM r r := fun _ _ _ _ _ => rfl
theorem sC_tr {g g' g'' : nt_T} (h : nt_sC g g') (h' : nt_sC g' g'') : nt_sC g g'' := fun k j a b c => (h' k j a b c).trans (h k j a b c)
theorem sM_tr {r r' r'' : nt_T} (h : nt_sM r r') (h' : nt_sM r' r'') : nt_sM r r'' := fun k j a b c => (h' k j a b c).trans (h k j a b c)
theorem vE_s {g g' : nt_T} (h : nt_vE g g') : nt_sC g g' := fun k j a b _ => h k j a b
theorem mE_s {r r' : nt_T} (h : nt_mE r r') : nt_sM r r' := fun k j _ _ c => h k j c
theorem sC_st {g : nt_T} {k j : Nat} {v : Int32} (h : 35 ≤ k ∧ k ≤ 42) : nt_sC g (nt_st g k j v) := fun k' j' _ _ c => st_slot _ _ (Or.inl (by omega))
theorem sC_row {g g' : nt_T} (h : nt_sC g g') {k : Nat} (hk : k ≠ 8 ∧ k ≠ 9 ∧ (k < 35 ∨ 42 < k)) : g' k = g k := funext (fun j => h k j hk.1 hk.2.1 hk.2.2)
theorem sM_row {r r' : nt_T} (h : nt_sM r r') {k : Nat} (hk : k ≠ 0 ∧ k ≠ 16 ∧ k ≠ 17) : r' k = r k := funext (fun j => h k j hk.2.1 hk.2.2 (by unfold nt_mS; omega))
theorem sM_slot {r r' : nt_T} (h : nt_sM r r') {j : Nat} (hj : j < 19 ∨ 34 < j ∧ j < 130) : r' 0 j = r 0 j := h 0 j (by omega) (by omega) (by unfold nt_mS; omega)
theorem S_Q {n m nr : Nat} {ln : Nat → Nat} {g r g' r' : nt_T} (hc : nt_sC g g') (hm : nt_sM r r') (hQ : nt_Q 14 n m nr ln g r) : nt_Q 14 n m nr ln g' r' :=
  ⟨qS_F (fun k h1 h2 => sC_row hc (by omega)) (fun k h1 h2 => sM_row hm (by omega)) (sM_slot hm (by omega)) hQ.1, qT_F (hc 6 3 (by omega) (by omega) (by omega)) (fun k hk => sC_row hc (by omega)) (sM_row hm (by omega)) (sM_row hm (by omega)) (sM_slot hm (by omega)) (sM_slot hm (by omega)) hQ.2.1, qP_F (fun k h1 h2 => sC_row hc (by omega)) (fun k h1 h2 => sM_row hm (by omega)) (fun j hj => sM_slot hm (by omega)) hQ.2.2⟩
theorem S_O {n nr : Nat} {g r g' r' : nt_T} (hc : nt_sC g g') (hm : nt_sM r r') (hO : nt_O n nr g r) : nt_O n nr g' r' :=
  ⟨qR_F (hc 10 1 (by omega) (by omega) (by omega)) (sC_row hc (by omega)) (sM_slot hm (by omega)) (sM_row hm (by omega)) hO.1, qI_F (hc 0 8 (by omega) (by omega) (by omega)) (fun k h1 h2 => sC_row hc (by omega)) (fun j h1 h2 => sM_slot hm (by omega)) (fun k h1 h2 => sM_row hm (by omega)) hO.2.1, qH_F (fun k h1 h2 => sC_row hc (by omega)) (fun k h1 h2 => sM_row hm (by omega)) hO.2.2⟩
noncomputable def AW (r : nt_T) (p c s : Nat) : Bool := bt (r 9 p) s && decide (VAL r 2 p s c = 0)
theorem q_awake {n m nr : Nat} {ln : Nat → Nat} {g r : nt_T} (hQ : nt_Q 14 n m nr ln g r) {p c : Nat} (hp : p < n) (hc : c < 10) : ∃ v g', fSe_awakeOf nr ln (nI p) (nI c) g = some (v, g') ∧ nt_vE g g' ∧ isB v (AW r p c) m := by
  have hm8 := hQ.1.1
  have hn9 := hQ.2.2.1
  have h17 : g 17 p = r 9 p := (hQ.2.2.2.2.2.2.2.2 p hp).2.2.1
  have hg4 : g 1 4 = nI m := hQ.1.2.1
  unfold fSe_awakeOf
  rw [q_gd (q_in (show p < 9 by omega) (by omega)), qS_all hQ.1, q_b1, q_lt, nI_clamp (show p < 2 ^ 31 by omega), h17]
  have H : ∃ y, nt_it (fun z => bSe_awakeOf_24 nr ln (nI p) (nI c) z.1 z.2.1 z.2.2) nt_fu (r 9 p &&& (((1 : Int32) <<< (nI m &&& 31)) - (1 : Int32)), (0 : Int32), g) = some y ∧ (nt_vE g y.2 ∧ isB y.1 (AW r p c) m) := by
    refine q_loop (fun s st => ∃ v gi, st = (v, nI s, gi) ∧ nt_vE g gi ∧ ∀ i, i < 32 → bt v i = (decide (i < m) && (bt (r 9 p) i && (decide (s ≤ i) || decide (VAL r 2 p i c = 0))))) _ m (by omega) ⟨_, g, rfl, vE_rf g, fun i hi => ?_⟩ ?_ ?_
    · rw [b_and, q_all m (by omega) i hi, decide_eq_true (Nat.zero_le i), Bool.true_or, Bool.and_true, Bool.and_comm]
    · intro s st hs hI
      obtain ⟨v, gi, rfl, hv, hb⟩ := hI
      left
      show ∃ s', bSe_awakeOf_24 nr ln (nI p) (nI c) v (nI s) gi = some (.inl s') ∧ _
      unfold bSe_awakeOf_24
      have h4 : gi 1 4 = nI m := by rw [hv 1 4 (by omega) (by omega)]; exact hg4
      rw [h4, if_neg (nI_ge hs (by omega))]
      simp only [q_tst1 v (show s < 32 by omega), nI_1, q_lt]
      have hbs := hb s (by omega)
      rw [decide_eq_true hs, decide_eq_true (Nat.le_refl s), Bool.true_or, Bool.true_and, Bool.and_true] at hbs
      by_cases hB : bt v s = true
      · rw [if_pos hB]
        have hQi := Q_E (b := 14) (Or.inl rfl) (vE_c hv) (mE_rf r) hQ
        obtain ⟨g2, e2, hv2⟩ := q_valC (Or.inl rfl) hQi.1 hQi.2.1 hQi.2.2 (k := 2) (by omega) hp hs hc
        have e2 : fPp_value nr ln 14 (2 : Int32) (nI p) (nI s) (nI c) gi = some (VAL r 2 p s c, g2) := e2
        rw [e2, q_b2]
        by_cases hz : VAL r 2 p s c = 0
        · rw [if_pos hz]
          refine ⟨_, rfl, v, g2, rfl, vE_tr hv hv2, fun i hi => ?_⟩
          rw [hb i hi]
          by_cases e : i = s
          · subst e
            rw [decide_eq_true hz, decide_eq_true (Nat.le_refl i), Bool.or_true, Bool.or_true]
          · by_cases l : s ≤ i
            · rw [decide_eq_true l, decide_eq_true (show s + 1 ≤ i by omega)]
            · rw [decide_eq_false l, decide_eq_false (show ¬ s + 1 ≤ i by omega)]
        · rw [if_neg hz]
          refine ⟨_, rfl, _, g2, rfl, vE_tr hv hv2, fun i hi => ?_⟩
          rw [q_clr v (show s < 32 by omega) hi, hb i hi]
          by_cases e : i = s
          · subst e
            rw [decide_eq_true (show i = i from rfl), decide_eq_false hz, decide_eq_false (show ¬ i + 1 ≤ i by omega)]
            simp
          · rw [decide_eq_false e, Bool.not_false, Bool.and_true]
            by_cases l : s ≤ i
            · rw [decide_eq_true l, decide_eq_true (show s + 1 ≤ i by omega)]
            · rw [decide_eq_false l, decide_eq_false (show ¬ s + 1 ≤ i by omega)]
      · rw [if_neg hB]
        refine ⟨_, rfl, v, gi, rfl, hv, fun i hi => ?_⟩
        rw [hb i hi]
        by_cases e : i = s
        · subst e
          rw [show bt (r 9 p) i = false by
            cases q : bt (r 9 p) i
            · rfl
            · rw [q] at hbs; exact absurd hbs hB, Bool.false_and, Bool.false_and]
        · by_cases l : s ≤ i
          · rw [decide_eq_true l, decide_eq_true (show s + 1 ≤ i by omega)]
          · rw [decide_eq_false l, decide_eq_false (show ¬ s + 1 ≤ i by omega)]
    · intro st hI
      obtain ⟨v, gi, rfl, hv, hb⟩ := hI
      refine ⟨(v, gi), ?_, hv, fun i hi => ?_⟩
      · show bSe_awakeOf_24 nr ln (nI p) (nI c) v (nI m) gi = _
        unfold bSe_awakeOf_24
        have h4 : gi 1 4 = nI m := by rw [hv 1 4 (by omega) (by omega)]; exact hg4
        rw [h4, if_pos (nI_le (Nat.le_refl m) (by omega))]
      · show bt v i = _
        rw [hb i hi]
        unfold AW
        by_cases l : i < m
        · rw [decide_eq_false (show ¬ m ≤ i by omega), Bool.false_or]
        · rw [decide_eq_false l, Bool.false_and, Bool.false_and]
  obtain ⟨⟨v, g'⟩, e, hv, hb⟩ := H
  rw [e, q_b1]
  exact ⟨v, g', rfl, hv, hb⟩
/-- the table: what p knows, and what p tells awake among c -/
def nt_tb (r : nt_T) (n m : Nat) (g : nt_T) : Prop := (∀ p, p < n → g 38 p = kn r m p) ∧ ∀ p, p < n → ∀ c, 2 ≤ c → c ≤ n → isB (g 39 (9 * p + c)) (AW r p c) m
theorem q_prep {n m nr : Nat} {ln : Nat → Nat} {g r : nt_T} (hn : n ≤ 8) (hQ : nt_Q 14 n m nr ln g r) : ∃ g', fSe_prepare nr ln g = some g' ∧ nt_sC g g' ∧ nt_tb r n m g' ∧ ∀ p, p < n → g' 36 p = 0 := by
  have h7 : g 14 7 = nI n := hQ.2.2.2.1
  unfold fSe_prepare
  have ix : ∀ p c : Nat, (nI p * (9 : Int32)) + nI c = nI (9 * p + c) := fun p c => by rw [show (9 : Int32) = nI 9 from rfl, pk_mul, nI_add, Nat.mul_comm]
  have H : ∃ y, nt_it (fun z => bSe_prepare_2 nr ln z.1 z.2) nt_fu ((0 : Int32), g) = some y ∧ (nt_sC g y ∧ nt_tb r n m y ∧ ∀ p, p < n → y 36 p = 0) := by
    refine q_loop (fun p st => ∃ gi, st = (nI p, gi) ∧ nt_sC g gi ∧ (∀ q, q < p → gi 38 q = kn r m q ∧ gi 36 q = 0 ∧ ∀ c, 2 ≤ c → c ≤ n → isB (gi 39 (9 * q + c)) (AW r q c) m)) _ n (by omega) ⟨g, rfl, sC_rf g, fun q hq => absurd hq (by omega)⟩ ?_ ?_
    · intro p st hp hI
      obtain ⟨gi, rfl, hs, hq⟩ := hI
      left
      show ∃ s', bSe_prepare_2 nr ln (nI p) gi = some (.inl s') ∧ _
      unfold bSe_prepare_2
      have hQi := S_Q hs (sM_rf r) hQ
      have hi7 : gi 14 7 = nI n := hQi.2.2.2.1
      have hin := q_in (show p < 8 by omega) (show 8 < 2 ^ 31 by omega)
      have hcl := nI_clamp (show p < 2 ^ 31 by omega)
      rw [hi7, if_neg (nI_ge hp (by omega))]
      simp only [hin, hcl, q_gt, q_lt]
      have hs1 : nt_sC g (nt_st gi 36 p 0) := sC_tr hs (sC_st (by omega))
      have hQ1 := S_Q hs1 (sM_rf r) hQ
      rw [q_knows (Or.inl rfl) hQ1.1 hQ1.2.2 hp, q_b1]
      have hs2 : nt_sC g (nt_st (nt_st gi 36 p 0) 38 p (kn r m p)) := sC_tr hs1 (sC_st (by omega))
      have K : ∃ y, nt_it (fun z => bSe_prepare_36 nr ln (nI p) z.1 z.2) nt_fu ((2 : Int32), nt_st (nt_st gi 36 p 0) 38 p (kn r m p)) = some y ∧ (nt_sC g y ∧ (∀ q, q < p + 1 → y 38 q = kn r m q ∧ y 36 q = 0) ∧ (∀ q, q < p → ∀ c, 2 ≤ c → c ≤ n → isB (y 39 (9 * q + c)) (AW r q c) m) ∧ ∀ c, 2 ≤ c → c ≤ n → isB (y 39 (9 * p + c)) (AW r p c) m) := by
        refine q_loop (fun j st => ∃ gj, st = (nI (2 + j), gj) ∧ nt_sC g gj ∧ (∀ q, q < p + 1 → gj 38 q = kn r m q ∧ gj 36 q = 0) ∧ (∀ q, q < p → ∀ c, 2 ≤ c → c ≤ n → isB (gj 39 (9 * q + c)) (AW r q c) m) ∧ ∀ c, 2 ≤ c → c < 2 + j → isB (gj 39 (9 * p + c)) (AW r p c) m) _ (n - 1) (by omega) ⟨_, rfl, hs2, fun q hq2 => ?_, fun q hq2 => ?_, fun c h1 h2 => absurd h2 (by omega)⟩ ?_ ?_
        · by_cases e : q = p
          · subst e
            rw [st_eq, st_slot _ _ (by omega), st_eq]
            exact ⟨rfl, rfl⟩
          · rw [st_slot _ _ (by omega), st_slot _ _ (by omega), st_slot _ _ (by omega), st_slot _ _ (by omega)]
            exact ⟨(hq q (by omega)).1, (hq q (by omega)).2.1⟩
        · rw [st_row _ _ _ (show (39 : Nat) ≠ 38 by omega), st_row _ _ _ (show (39 : Nat) ≠ 36 by omega)]
          exact (hq q hq2).2.2
        · intro j st hj hI
          obtain ⟨gj, rfl, hsj, a1, a2, a3⟩ := hI
          left
          show ∃ s', bSe_prepare_36 nr ln (nI p) (nI (2 + j)) gj = some (.inl s') ∧ _
          unfold bSe_prepare_36
          have hQj := S_Q hsj (sM_rf r) hQ
          have hj7 : gj 14 7 = nI n := hQj.2.2.2.1
          rw [hj7, if_neg (nI_nlt (by omega) (by omega))]
          obtain ⟨v, g2, e2, hv2, hb⟩ := q_awake hQj hp (show 2 + j < 10 by omega)
          rw [e2, q_b2, ix]
          simp only [q_in (show 9 * p + (2 + j) < 72 by omega) (show 72 < 2 ^ 31 by omega), q_gt, q_lt, nI_1, nI_clamp (show 9 * p + (2 + j) < 2 ^ 31 by omega)]
          refine ⟨_, rfl, _, rfl, sC_tr (sC_tr hsj (vE_s hv2)) (sC_st (by omega)), fun q hq2 => ?_, fun q hq2 c h1 h2 => ?_, fun c h1 h2 => ?_⟩
          · rw [st_slot _ _ (by omega), st_slot _ _ (by omega), hv2 38 q (by omega) (by omega), hv2 36 q (by omega) (by omega)]
            exact a1 q hq2
          · rw [st_slot _ _ (by omega), hv2 39 _ (by omega) (by omega)]
            exact a2 q hq2 c h1 h2
          · by_cases e : c = 2 + j
            · subst e
              rw [st_eq]
              exact hb
            · rw [st_slot _ _ (by omega), hv2 39 _ (by omega) (by omega)]
              exact a3 c h1 (by omega)
        · intro st hI
          obtain ⟨gj, rfl, hsj, a1, a2, a3⟩ := hI
          refine ⟨gj, ?_, hsj, a1, a2, fun c h1 h2 => a3 c h1 (by omega)⟩
          show bSe_prepare_36 nr ln (nI p) (nI (2 + (n - 1))) gj = _
          unfold bSe_prepare_36
          have hQj := S_Q hsj (sM_rf r) hQ
          have hj7 : gj 14 7 = nI n := hQj.2.2.2.1
          rw [hj7, if_pos (nI_lt (by omega) (by omega))]
      obtain ⟨y, e, hsy, a1, a2, a3⟩ := K
      rw [e, q_b1, nI_1]
      refine ⟨_, rfl, y, rfl, hsy, fun q hq2 => ⟨(a1 q hq2).1, (a1 q hq2).2, fun c h1 h2 => ?_⟩⟩
      by_cases e : q = p
      · subst e; exact a3 c h1 h2
      · exact a2 q (by omega) c h1 h2
    · intro st hI
      obtain ⟨gi, rfl, hs, hq⟩ := hI
      refine ⟨gi, ?_, hs, ⟨fun p hp => (hq p hp).1, fun p hp => (hq p hp).2.2⟩, fun p hp => (hq p hp).2.1⟩
      show bSe_prepare_2 nr ln (nI n) gi = _
      unfold bSe_prepare_2
      have hQi := S_Q hs (sM_rf r) hQ
      have hi7 : gi 14 7 = nI n := hQi.2.2.2.1
      rw [hi7, if_pos (nI_le (Nat.le_refl n) (by omega))]
  obtain ⟨y, e, a, b, c⟩ := H
  rw [e, q_b1]
  exact ⟨y, rfl, a, b, c⟩
