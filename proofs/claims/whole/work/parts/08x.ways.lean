/-! ===== spread: ways to seat, as numbers to the base h ===== -/
def dg (h c p : Nat) : Nat := c / h ^ p % h
theorem dg_lt {h : Nat} (hh : 0 < h) (c p : Nat) : dg h c p < h := Nat.mod_lt _ hh
theorem dg_0 (h p : Nat) (hh : 0 < h) : dg h 0 p = 0 := by unfold dg; rw [Nat.zero_div, Nat.zero_mod]
/-- one more, the p lowest digits being full -/
theorem dg_step {h c p K : Nat} (hh : 0 < h) (hK : c + 1 = h ^ p * (K + 1)) : dg h c p = K % h ∧ dg h (c + 1) p = (K + 1) % h := by
  have hP : 0 < h ^ p := Nat.pow_pos hh
  unfold dg
  constructor
  · have : c / h ^ p = K := by
      have e : c = h ^ p * K + (h ^ p - 1) := by
        rw [Nat.mul_add, Nat.mul_one] at hK
        omega
      rw [e, Nat.mul_add_div hP, Nat.div_eq_of_lt (by omega), Nat.add_zero]
    rw [this]
  · rw [hK, Nat.mul_div_cancel_left _ hP]
theorem dg_high {h c p K q : Nat} (hh : 0 < h) (hK : c + 1 = h ^ p * (K + 1)) (hne : (K + 1) % h ≠ 0) (hq : p < q) : dg h (c + 1) q = dg h c q := by
  have hP : 0 < h ^ p := Nat.pow_pos hh
  have hc : c / h ^ p = K := by
    have e : c = h ^ p * K + (h ^ p - 1) := by
      rw [Nat.mul_add, Nat.mul_one] at hK
      omega
    rw [e, Nat.mul_add_div hP, Nat.div_eq_of_lt (by omega), Nat.add_zero]
  have hc1 : (c + 1) / h ^ p = K + 1 := by rw [hK, Nat.mul_div_cancel_left _ hP]
  obtain ⟨j, rfl⟩ : ∃ j, q = p + 1 + j := ⟨q - p - 1, by omega⟩
  have hk : (K + 1) / h = K / h := by
    rw [Nat.succ_div]
    rw [if_neg (fun d => hne (Nat.mod_eq_zero_of_dvd d)), Nat.add_zero]
  unfold dg
  rw [show h ^ (p + 1 + j) = h ^ p * (h * h ^ j) by rw [Nat.pow_add, Nat.pow_succ, Nat.mul_assoc], ← Nat.div_div_eq_div_mul, ← Nat.div_div_eq_div_mul c, hc, hc1, ← Nat.div_div_eq_div_mul, ← Nat.div_div_eq_div_mul K, hk]
/-- how many e below k pass -/
theorem cntB_two {f : Nat → Bool} {D : Nat → Nat} {n : Nat} : ∀ h, (∀ e, e < h → f e = true → 2 ≤ cntB (fun p => decide (D p = e)) n) → 2 * cntB f h ≤ cntB (fun p => decide (D p < h)) n := by
  intro h
  induction h with
  | zero => intro _; exact Nat.zero_le _
  | succ h ih =>
    intro H
    have h1 := ih (fun e he => H e (by omega))
    have h2 : cntB (fun p => decide (D p < h + 1)) n = cntB (fun p => decide (D p < h)) n + cntB (fun p => decide (D p = h)) n := by
      clear H h1 ih
      induction n with
      | zero => rfl
      | succ n ihn =>
        show cntB _ n + _ = (cntB _ n + _) + (cntB _ n + _)
        rw [ihn]
        simp only [decide_eq_true_eq]
        by_cases a : D n < h
        · rw [if_pos (show D n < h + 1 by omega), if_pos a, if_neg (show ¬ D n = h by omega)]
          omega
        · by_cases b : D n = h
          · rw [if_pos (show D n < h + 1 by omega), if_neg a, if_pos b]
            omega
          · rw [if_neg (show ¬ D n < h + 1 by omega), if_neg a, if_neg b]
            omega
    rw [h2]
    show 2 * (cntB f h + (if f h then 1 else 0)) ≤ _
    cases hf : f h
    · simp
      omega
    · have := H h (by omega) hf
      simp
      omega
/-- the first best among the ways 0 .. k -/
def BW (S : Nat → Nat) : Nat → Nat × Nat
  | 0 => (0, S 0)
  | k + 1 => if S (k + 1) ≤ (BW S k).2 then BW S k else (k + 1, S (k + 1))
theorem BW_le (S : Nat → Nat) (k : Nat) : (BW S k).1 ≤ k := by
  induction k with
  | zero => exact Nat.le_refl 0
  | succ k ih =>
    rw [BW]
    by_cases c : S (k + 1) ≤ (BW S k).2
    · rw [if_pos c]; omega
    · rw [if_neg c]; exact Nat.le_refl _
theorem BW_full {S : Nat → Nat} {b : Nat} (hS : ∀ j, S j ≤ b) {k : Nat} (hb : b ≤ (BW S k).2) : ∀ d, BW S (k + d) = BW S k := by
  intro d
  induction d with
  | zero => rfl
  | succ d ih =>
    rw [← Nat.add_assoc, BW, ih, if_pos (Nat.le_trans (hS _) hb)]
theorem BW_bd {S : Nat → Nat} {b : Nat} (hS : ∀ j, S j ≤ b) (k : Nat) : (BW S k).2 ≤ b := by
  induction k with
  | zero => exact hS 0
  | succ k ih =>
    rw [BW]
    by_cases c : S (k + 1) ≤ (BW S k).2
    · rw [if_pos c]; exact ih
    · rw [if_neg c]; exact hS _
/-- s can be told in e by p, everybody sitting as D says -/
noncomputable def SPT (r : nt_T) (n m : Nat) (D : Nat → Nat) (e p s : Nat) : Bool := decide (D p = e) && (bt (r 9 p) s && (decide (2 ≤ cntB (fun q => decide (D q = e)) n) && (decide (cntB (fun q => !decide (q = p) && (decide (D q = e) && bt (kn r m q) s)) n = 0) && decide (VAL r 2 p s (cntB (fun q => decide (D q = e)) n) = 0))))
noncomputable def SPH (r : nt_T) (n m : Nat) (D : Nat → Nat) (e : Nat) : Bool := decide (0 < cntB (fun p => decide (0 < cntB (SPT r n m D e p) m)) n)
theorem SPH_iff {r : nt_T} {n m : Nat} {D : Nat → Nat} {e : Nat} : SPH r n m D e = true ↔ ∃ p, p < n ∧ ∃ s, s < m ∧ SPT r n m D e p s = true := by
  unfold SPH
  constructor
  · intro h
    obtain ⟨p, hp, h1⟩ := cntB_ex (of_decide_eq_true h)
    obtain ⟨s, hs, h2⟩ := cntB_ex (of_decide_eq_true h1)
    exact ⟨p, hp, s, hs, h2⟩
  · intro h
    obtain ⟨p, hp, s, hs, h2⟩ := h
    exact decide_eq_true (cntB_pos hp (decide_eq_true (cntB_pos hs h2)))
noncomputable def SPS (r : nt_T) (n m h : Nat) (c : Nat) : Nat := cntB (SPH r n m (dg h c)) h
theorem SPS_bd {r : nt_T} {n m h : Nat} (c : Nat) : SPS r n m h c ≤ min h (n / 2) := by
  have h1 : SPS r n m h c ≤ h := cntB_le _ _
  have h2 : 2 * SPS r n m h c ≤ cntB (fun p => decide (dg h c p < h)) n := by
    refine cntB_two h (fun e he hf => ?_)
    obtain ⟨p, hp, s, hs, hT⟩ := SPH_iff.mp hf
    unfold SPT at hT
    rw [Bool.and_eq_true, Bool.and_eq_true, Bool.and_eq_true] at hT
    exact of_decide_eq_true hT.2.2.1
  have h3 := cntB_le (fun p => decide (dg h c p < h)) n
  omega
