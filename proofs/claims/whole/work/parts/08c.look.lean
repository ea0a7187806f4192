/-! ===== people; looking into a house ===== -/
theorem st_app (g : nt_T) (k j : Nat) (v : Int32) (k' j' : Nat) : nt_st g k j v k' j' = if k' = k ∧ j' = j then v else g k' j' := by
  unfold nt_st nt_sc upd
  by_cases h1 : k' = k
  · subst h1
    rw [if_pos rfl]
    by_cases h2 : j' = j
    · rw [if_pos h2, if_pos ⟨rfl, h2⟩]
    · rw [if_neg h2, if_neg (fun q => h2 q.2)]
  · rw [if_neg h1, if_neg (fun q => h1 q.1)]
theorem st_eq (g : nt_T) (k j : Nat) (v : Int32) : nt_st g k j v k j = v := by rw [st_app, if_pos ⟨rfl, rfl⟩]
theorem st_row (g : nt_T) {k k' : Nat} (j : Nat) (v : Int32) (h : k' ≠ k) : nt_st g k j v k' = g k' := by
  funext j'
  rw [st_app, if_neg (fun q => h q.1)]
theorem st_slot (g : nt_T) {k k' j j' : Nat} (v : Int32) (h : k' ≠ k ∨ j' ≠ j) : nt_st g k j v k' j' = g k' j' := by
  rw [st_app, if_neg (fun q => h.elim (fun a => a q.1) (fun a => a q.2))]
/-- what a look, a value may change in the class's heap; in the reference's -/
def nt_cS (k j : Nat) : Prop := k = 8 ∨ k = 9 ∨ k = 20 ∨ k = 27 ∨ ((k = 14 ∨ k = 21) ∧ 10 ≤ j)
def nt_cE (g g' : nt_T) : Prop := ∀ k j, ¬ nt_cS k j → g' k j = g k j
def nt_vE (g g' : nt_T) : Prop := ∀ k j, k ≠ 8 → k ≠ 9 → g' k j = g k j
def nt_mS (k j : Nat) : Prop := k = 0 ∧ (19 ≤ j ∧ j ≤ 34 ∨ j = 130 ∨ j = 230)
def nt_mE (r r' : nt_T) : Prop := ∀ k j, ¬ nt_mS k j → r' k j = r k j
def nt_uE (r r' : nt_T) : Prop := ∀ k j, ¬ (k = 0 ∧ (19 ≤ j ∧ j ≤ 33 ∨ j = 130 ∨ j = 230)) → r' k j = r k j
theorem uE_rf (g : nt_T) : nt_uE g g := fun _ _ _ => rfl
theorem uE_tr {g g' g'' : nt_T} (h : nt_uE g g') (h' : nt_uE g' g'') : nt_uE g g'' := fun k j q => (h' k j q).trans (h k j q)
theorem uE_m {r r' : nt_T} (h : nt_uE r r') : nt_mE r r' := fun k j q => h k j (by unfold nt_mS at q; omega)
theorem cE_rf (g : nt_T) : nt_cE g g := fun _ _ _ => rfl
theorem mE_rf (g : nt_T) : nt_mE g g := fun _ _ _ => rfl
theorem vE_rf (g : nt_T) : nt_vE g g := fun _ _ _ _ => rfl
theorem cE_tr {g g' g'' : nt_T} (h : nt_cE g g') (h' : nt_cE g' g'') : nt_cE g g'' := fun k j q => (h' k j q).trans (h k j q)
theorem mE_tr {g g' g'' : nt_T} (h : nt_mE g g') (h' : nt_mE g' g'') : nt_mE g g'' := fun k j q => (h' k j q).trans (h k j q)
theorem vE_tr {g g' g'' : nt_T} (h : nt_vE g g') (h' : nt_vE g' g'') : nt_vE g g'' := fun k j q q2 => (h' k j q q2).trans (h k j q q2)
theorem vE_c {g g' : nt_T} (h : nt_vE g g') : nt_cE g g' := fun k j q => h k j (fun e => q (Or.inl e)) (fun e => q (Or.inr (Or.inl e)))
theorem cE_st {g : nt_T} {k j : Nat} (v : Int32) (h : nt_cS k j) : nt_cE g (nt_st g k j v) := fun k' j' q => st_slot g v (by
  by_cases e : k' = k
  · right
    intro e2
    subst e; subst e2
    exact q h
  · exact Or.inl e)
theorem uE_st {g : nt_T} {j : Nat} (v : Int32) (h : 19 ≤ j ∧ j ≤ 33 ∨ j = 130 ∨ j = 230) : nt_uE g (nt_st g 0 j v) := fun k' j' q => st_slot g v (by
  by_cases e : k' = 0
  · right
    intro e2
    subst e; subst e2
    exact q ⟨rfl, h⟩
  · exact Or.inl e)
theorem mE_st {g : nt_T} {k j : Nat} (v : Int32) (h : nt_mS k j) : nt_mE g (nt_st g k j v) := fun k' j' q => st_slot g v (by
  by_cases e : k' = k
  · right
    intro e2
    subst e; subst e2
    exact q h
  · exact Or.inl e)
theorem cE_row {g g' : nt_T} (h : nt_cE g g') {k : Nat} (hk : k ≠ 8 ∧ k ≠ 9 ∧ k ≠ 20 ∧ k ≠ 27 ∧ k ≠ 14 ∧ k ≠ 21) : g' k = g k := by
  funext j
  exact h k j (by unfold nt_cS; omega)
theorem mE_row {g g' : nt_T} (h : nt_mE g g') {k : Nat} (hk : k ≠ 0) : g' k = g k := by
  funext j
  exact h k j (by unfold nt_mS; omega)
/-- one of the people -/
def nt_q1 (b p : Nat) (g r : nt_T) : Prop := g (b + 1) p = r 11 p ∧ g (b + 2) p = r 8 p ∧ g (b + 3) p = r 9 p ∧ g (b + 4) p = r 10 p ∧ (r 11 p = -1 ∨ ∃ h, h < 4 ∧ r 11 p = nI h) ∧ (∃ a, a < 100 ∧ r 8 p = nI a) ∧ (∃ t, t < 256 ∧ r 9 p = nI t) ∧ (∃ x, x < 256 ∧ r 10 p = nI x) ∧ ∀ s, s < 8 → bt (r 10 p) s = true → g (b + 5) (8 * p + s) = r 12 (8 * p + s) ∧ ∃ t, t < 1000 ∧ r 12 (8 * p + s) = nI t
/-- the People at b are the reference's people: n of them -/
def nt_qP (b n : Nat) (g r : nt_T) : Prop := n ≤ 9 ∧ g b 7 = nI n ∧ r 0 17 = nI n ∧ g b 8 = r 0 18 ∧ g b 9 = r 0 4 ∧ (∃ t, t < 1000 ∧ r 0 18 = nI t) ∧ ∀ p, p < n → nt_q1 b p g r
theorem q1_E {b p : Nat} {g r g' r' : nt_T} (hb : b = 14 ∨ b = 21) (hc : nt_cE g g') (hm : nt_mE r r') (h : nt_q1 b p g r) : nt_q1 b p g' r' := by
  unfold nt_q1 at h ⊢
  rw [cE_row hc (k := b + 1) (by omega), cE_row hc (k := b + 2) (by omega), cE_row hc (k := b + 3) (by omega), cE_row hc (k := b + 4) (by omega), cE_row hc (k := b + 5) (by omega), mE_row hm (k := 11) (by omega), mE_row hm (k := 8) (by omega), mE_row hm (k := 9) (by omega), mE_row hm (k := 10) (by omega), mE_row hm (k := 12) (by omega)]
  exact h
theorem qP_E {b n : Nat} {g r g' r' : nt_T} (hb : b = 14 ∨ b = 21) (hc : nt_cE g g') (hm : nt_mE r r') (h : nt_qP b n g r) : nt_qP b n g' r' := by
  obtain ⟨h1, h2, h3, h4, h5, h6, h7⟩ := h
  refine ⟨h1, ?_, ?_, ?_, ?_, ?_, fun p hp => q1_E hb hc hm (h7 p hp)⟩
  · rw [hc b 7 (by unfold nt_cS; omega)]; exact h2
  · rw [hm 0 17 (by unfold nt_mS; omega)]; exact h3
  · rw [hc b 8 (by unfold nt_cS; omega), hm 0 18 (by unfold nt_mS; omega)]; exact h4
  · rw [hc b 9 (by unfold nt_cS; omega), hm 0 4 (by unfold nt_mS; omega)]; exact h5
  · rw [hm 0 18 (by unfold nt_mS; omega)]; exact h6
theorem qS_E {m : Nat} {g r g' r' : nt_T} (hc : nt_cE g g') (hm : nt_mE r r') (h : nt_qS m g r) : nt_qS m g' r' := by
  unfold nt_qS at h ⊢
  rw [cE_row hc (k := 1) (by omega), cE_row hc (k := 2) (by omega), cE_row hc (k := 3) (by omega), cE_row hc (k := 4) (by omega), cE_row hc (k := 5) (by omega), mE_row hm (k := 4) (by omega), mE_row hm (k := 5) (by omega), mE_row hm (k := 6) (by omega), mE_row hm (k := 7) (by omega), hm 0 11 (by unfold nt_mS; omega)]
  exact h
/-! counting -/
theorem cntB_mono {f : Nat → Bool} {a n : Nat} (h : a ≤ n) : cntB f a ≤ cntB f n := by
  induction n with
  | zero =>
    obtain rfl : a = 0 := by omega
    exact Nat.le_refl _
  | succ n ih =>
    rcases Nat.lt_or_ge n a with q | q
    · obtain rfl : a = n + 1 := by omega
      exact Nat.le_refl _
    · have := ih q
      rw [cntB]
      omega
theorem cntB_pos {f : Nat → Bool} {n p : Nat} (hp : p < n) (h : f p = true) : 0 < cntB f n := by
  have h1 : cntB f (p + 1) ≤ cntB f n := cntB_mono (by omega)
  rw [cntB, if_pos h] at h1
  omega
theorem cntB_0 {f : Nat → Bool} {n : Nat} : cntB f n = 0 ↔ ∀ p, p < n → f p = false := by
  constructor
  · intro h p hp
    cases hf : f p with
    | false => rfl
    | true =>
      have := cntB_pos hp hf
      omega
  · intro h
    induction n with
    | zero => rfl
    | succ n ih => rw [cntB, ih (fun p hp => h p (by omega)), h n (by omega)]; rfl
theorem cntB_ex {f : Nat → Bool} {n : Nat} (h : 0 < cntB f n) : ∃ p, p < n ∧ f p = true := by
  induction n with
  | zero => simp [cntB] at h
  | succ n ih =>
    rw [cntB] at h
    by_cases hf : f n = true
    · exact ⟨n, by omega, hf⟩
    · rw [if_neg hf] at h
      obtain ⟨p, h1, h2⟩ := ih h
      exact ⟨p, by omega, h2⟩
theorem cntB_off {f : Nat → Bool} {n p : Nat} (hp : p < n) : cntB f n = cntB (fun q => !decide (q = p) && f q) n + (if f p then 1 else 0) := by
  induction n with
  | zero => omega
  | succ n ih =>
    rw [cntB, cntB]
    rcases Nat.lt_or_ge p n with q | q
    · rw [ih q, decide_eq_false (show ¬ n = p by omega)]
      simp only [Bool.not_false, Bool.true_and]
      omega
    · obtain rfl : p = n := by omega
      rw [cntB_congr (h := f) (f := fun q => !decide (q = p) && f q) (fun i hi => by rw [decide_eq_false (by omega), Bool.not_false, Bool.true_and])]
      simp
theorem isB_z {x : Int32} {f : Nat → Bool} {n : Nat} (hn : n ≤ 32) (h : isB x f n) : x = 0 ↔ cntB f n = 0 := by
  rw [cntB_0]
  constructor
  · intro e p hp
    have := h p (by omega)
    rw [e, b_0, decide_eq_true hp, Bool.true_and] at this
    exact this.symm
  · intro e
    refine b_ext (fun i hi => ?_)
    rw [h i hi, b_0]
    by_cases q : i < n
    · rw [e i q, Bool.and_false]
    · rw [decide_eq_false q, Bool.false_and]
theorem q_byte {v : Int32} {k : Nat} (hk : k < 10) (h : ∀ i, k ≤ i → i < 32 → bt v i = false) : ∃ x, x < 2 ^ k ∧ v = nI x := by
  refine ⟨ofB (bt v) k, ofB_lt _ _, b_ext (fun i hi => ?_)⟩
  rw [q_bN hi, ofB_bit]
  by_cases q : i < k
  · rw [decide_eq_true q, Bool.true_and]
  · rw [decide_eq_false q, Bool.false_and, h i (by omega) hi]
/-! who sits where, knows what -/
def kn (r : nt_T) (m p : Nat) : Int32 := knF (r 7) (r 10 p) m
def inH (r : nt_T) (h : Int32) (p : Nat) : Bool := decide (r 11 p = h)
def knH (r : nt_T) (m : Nat) (h : Int32) (s p : Nat) : Bool := inH r h p && bt (kn r m p) s
theorem kn_E {r r' : nt_T} (h : nt_mE r r') (m p : Nat) : kn r' m p = kn r m p := by unfold kn; rw [mE_row h (k := 7) (by omega), mE_row h (k := 10) (by omega)]
theorem inH_E {r r' : nt_T} (h : nt_mE r r') : inH r' = inH r := by
  funext x p
  unfold inH
  rw [mE_row h (k := 11) (by omega)]
theorem knH_E {r r' : nt_T} (h : nt_mE r r') (m : Nat) : knH r' m = knH r m := by
  funext x s p
  unfold knH
  rw [inH_E h, kn_E h]
theorem q_knows {m b n : Nat} {g r : nt_T} (hb : b = 14 ∨ b = 21) (hS : nt_qS m g r) (hP : nt_qP b n g r) {p : Nat} (hp : p < n) : fPp_knows b (nI p) g = some (kn r m p) := by
  have hn := hP.1
  unfold fPp_knows
  rw [q_gd (q_in (show p < 9 by omega) (by omega)), nI_clamp (show p < 2 ^ 31 by omega), (hP.2.2.2.2.2.2 p hp).2.2.2.1, q_twins hS _ g rfl rfl, q_b1]
  rfl
/-- what a look into a house has found -/
def nt_lk (b n m : Nat) (h : Int32) (g r : nt_T) : Prop := g b 10 = nI (cntB (inH r h) n) ∧ (∀ p, p < n → inH r h p = true → g (b + 6) p = kn r m p) ∧ (∀ i, i < 32 → bt (g b 12) i = decide (1 ≤ cntB (knH r m h i) n)) ∧ (∀ i, i < 32 → bt (g b 13) i = decide (2 ≤ cntB (knH r m h i) n))
theorem q_look {m b n : Nat} {g r : nt_T} (hb : b = 14 ∨ b = 21) (hS : nt_qS m g r) (hP : nt_qP b n g r) (h : Int32) : ∃ g', fPp_lookInto b h g = some g' ∧ nt_cE g g' ∧ nt_lk b n m h g' r := by
  have hn := hP.1
  unfold fPp_lookInto
  simp only [q_lt]
  have H : ∃ x, nt_it (fun z => bPp_lookInto_17 b h z.1 z.2) nt_fu ((0 : Int32), nt_st (nt_st (nt_st g b 10 (0 : Int32)) b 12 (0 : Int32)) b 13 (0 : Int32)) = some x ∧ (nt_cE g x ∧ nt_lk b n m h x r) := by
    refine q_loop (fun k s => ∃ g1, s = (nI k, g1) ∧ nt_cE g g1 ∧ nt_lk b k m h g1 r) _ n (by omega) ⟨_, rfl, ?_, ?_⟩ ?_ ?_
    · exact cE_tr (cE_st _ (by unfold nt_cS; omega)) (cE_tr (cE_st _ (by unfold nt_cS; omega)) (cE_st _ (by unfold nt_cS; omega)))
    · refine ⟨?_, fun p hp => absurd hp (by omega), fun i hi => ?_, fun i hi => ?_⟩
      · rw [st_slot _ _ (by omega), st_slot _ _ (by omega), st_eq]; rfl
      · rw [st_slot _ _ (by omega), st_eq, b_0]; rfl
      · rw [st_eq, b_0]; rfl
    · intro k s hk hI
      obtain ⟨g1, rfl, hc, hl⟩ := hI
      left
      have hS1 := qS_E hc (mE_rf r) hS
      have hP1 := qP_E hb hc (mE_rf r) hP
      have hk9 : k < 9 := by omega
      show ∃ s', bPp_lookInto_17 b h (nI k) g1 = some (.inl s') ∧ _
      unfold bPp_lookInto_17
      rw [hP1.2.1, if_neg (nI_ge hk (by omega)), q_gd (q_in hk9 (by omega)), nI_clamp (show k < 2 ^ 31 by omega), (hP1.2.2.2.2.2.2 k hk).1]
      by_cases hh : r 11 k = h
      · have hin : inH r h k = true := by unfold inH; rw [decide_eq_true hh]
        have hcg : nt_cE g1 (nt_st g1 b 10 (g1 b 10 + (1 : Int32))) := cE_st _ (by unfold nt_cS; omega)
        rw [if_pos hh]
        simp only [q_lt]
        rw [q_knows hb (qS_E hcg (mE_rf r) hS1) (qP_E hb hcg (mE_rf r) hP1) hk]
        simp only [q_b1, q_lt, q_gd (q_in hk9 (by omega)), nI_clamp (show k < 2 ^ 31 by omega), nI_1]
        refine ⟨_, rfl, _, rfl, ?_, ?_⟩
        · exact cE_tr hc (cE_tr hcg (cE_tr (cE_st _ (by unfold nt_cS; omega)) (cE_tr (cE_st _ (by unfold nt_cS; omega)) (cE_st _ (by unfold nt_cS; omega)))))
        · obtain ⟨l1, l2, l3, l4⟩ := hl
          have e6 : (nt_st (nt_st g1 b 10 (g1 b 10 + (1 : Int32))) (b + 6) k (kn r m k)) (b + 6) k = kn r m k := st_eq _ _ _ _
          have e12 : (nt_st (nt_st g1 b 10 (g1 b 10 + (1 : Int32))) (b + 6) k (kn r m k)) b 12 = g1 b 12 := by rw [st_slot _ _ (by omega), st_slot _ _ (by omega)]
          have e13 : (nt_st (nt_st g1 b 10 (g1 b 10 + (1 : Int32))) (b + 6) k (kn r m k)) b 13 = g1 b 13 := by rw [st_slot _ _ (by omega), st_slot _ _ (by omega)]
          rw [e6, e12, e13]
          refine ⟨?_, fun p hp hpi => ?_, fun i hi => ?_, fun i hi => ?_⟩
          · rw [st_slot _ _ (by omega), st_slot _ _ (by omega), st_slot _ _ (by omega), st_eq, l1, cntB, hin, if_pos rfl, nI_1]
          · rw [st_slot _ _ (by omega), st_slot _ _ (by omega)]
            by_cases e : p = k
            · subst e; rw [st_eq]
            · rw [st_slot _ _ (by omega), st_slot _ _ (by omega)]
              exact l2 p (by omega) hpi
          · rw [st_eq, st_slot _ _ (by omega), st_slot _ _ (by omega), st_slot _ _ (by omega), st_slot _ _ (by omega), st_eq, b_or, l3 i hi, cntB]
            have ek : knH r m h i k = bt (kn r m k) i := by unfold knH; rw [hin, Bool.true_and]
            rw [ek]
            cases bt (kn r m k) i <;> simp <;> omega
          · rw [st_slot _ _ (by omega), st_eq, b_or, b_and, l3 i hi, l4 i hi, cntB]
            have ek : knH r m h i k = bt (kn r m k) i := by unfold knH; rw [hin, Bool.true_and]
            rw [ek]
            cases bt (kn r m k) i <;> simp <;> omega
      · have hin : inH r h k = false := by unfold inH; rw [decide_eq_false hh]
        rw [if_neg hh]
        simp only [q_lt, nI_1]
        refine ⟨_, rfl, g1, rfl, hc, ?_⟩
        obtain ⟨l1, l2, l3, l4⟩ := hl
        have ek : ∀ i, knH r m h i k = false := fun i => by unfold knH; rw [hin, Bool.false_and]
        refine ⟨by rw [l1, cntB, hin]; rfl, fun p hp hpi => l2 p (by
          rcases Nat.lt_or_ge p k with q | q
          · exact q
          · obtain rfl : p = k := by omega
            rw [hin] at hpi
            cases hpi) hpi, fun i hi => by rw [l3 i hi, cntB, ek i]; rfl, fun i hi => by rw [l4 i hi, cntB, ek i]; rfl⟩
    · intro s hI
      obtain ⟨g1, rfl, hc, hl⟩ := hI
      have hP1 := qP_E hb hc (mE_rf r) hP
      refine ⟨g1, ?_, hc, hl⟩
      show bPp_lookInto_17 b h (nI n) g1 = _
      unfold bPp_lookInto_17
      rw [hP1.2.1, if_pos (nI_le (Nat.le_refl n) (by omega))]
  obtain ⟨x, hx, hc, hk⟩ := H
  exact ⟨x, by rw [hx]; rfl, hc, hk⟩
