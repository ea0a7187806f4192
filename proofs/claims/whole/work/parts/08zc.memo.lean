/-! ===== spread: the reference's count for one way ===== -/
theorem q_digit {h c p : Nat} (h0 : 0 < h) (h4 : h ≤ 4) (hc : c < 2 ^ 30) (hp : p < 9) (r : nt_T) : fMo_digit (nI c) (nI h) (nI p) r = some (nI (dg h c p)) := by
  have z : decide (¬ nI h = 0) = true := decide_eq_true (nI_ne0 h0 (by omega))
  unfold fMo_digit
  have e : nt_it (fun z => bMo_digit_5 (nI h) (nI p) r z.1 z.2) nt_fu (nI c, (0 : Int32)) = some (nI (c / h ^ p)) := by
    have := q_run (body := fun z => bMo_digit_5 (nI h) (nI p) r z.1 z.2) (fun k => (nI (c / h ^ k), nI k)) (nI (c / h ^ p)) p (by omega) (fun k hk => by
      show bMo_digit_5 (nI h) (nI p) r (nI (c / h ^ k)) (nI k) = _
      unfold bMo_digit_5
      have hlt : c / h ^ k ≤ c := Nat.div_le_self _ _
      have ed : nI (c / h ^ k) / nI h = nI (c / h ^ k / h) := pk_div (by omega) h0 (by omega)
      rw [if_neg (nI_ge hk (by omega)), q_gd z, q_lt, q_lt, nI_1, ed, Nat.div_div_eq_div_mul, ← Nat.pow_succ]) (by
      show bMo_digit_5 (nI h) (nI p) r (nI (c / h ^ p)) (nI p) = _
      unfold bMo_digit_5
      rw [if_pos (nI_le (Nat.le_refl p) (by omega))])
    rw [Nat.pow_zero, Nat.div_one] at this
    exact this
  have hlt : c / h ^ p ≤ c := Nat.div_le_self _ _
  have er : nI (c / h ^ p) - nI (c / h ^ p) / nI h * nI h = nI (c / h ^ p % h) := pk_rem (by omega) h0 (by omega)
  rw [e, q_b1, q_gd z, er]
  rfl
theorem q_pow8 {h n : Nat} (h4 : h ≤ 4) (hn : n ≤ 8) : h ^ n ≤ 65536 := by
  have h1 : h ^ n ≤ 4 ^ n := Nat.pow_le_pow_left h4 n
  have h2 : 4 ^ n ≤ 4 ^ 8 := Nat.pow_le_pow_right (by omega) hn
  have h3 : 4 ^ 8 = 65536 := by decide
  omega
theorem q_waysM {n h : Nat} {r : nt_T} (hn : n ≤ 8) (h0 : 0 < h) (h4 : h ≤ 4) (h17 : r 0 17 = nI n) (x2 : Int32) : ∃ v, nt_it (fun z => bMo_spread_33 (nI h) x2 r z.1 z.2) nt_fu ((1 : Int32), (0 : Int32)) = some v ∧ ((h ^ n ≤ 4096 ∧ v = nI (h ^ n)) ∨ (¬ h ^ n ≤ 4096 ∧ ¬ v ≤ (4096 : Int32))) := by
  refine q_loop (fun k st => k ≤ n ∧ st = (nI (h ^ k), nI k)) _ n (by omega) ⟨by omega, by rw [Nat.pow_zero]; rfl⟩ ?_ ?_
  · intro k st hk hI
    obtain ⟨-, rfl⟩ := hI
    have hp8 := q_pow8 h4 (show k ≤ 8 by omega)
    show (∃ s', bMo_spread_33 (nI h) x2 r (nI (h ^ k)) (nI k) = some (.inl s') ∧ _) ∨ ∃ y, bMo_spread_33 (nI h) x2 r (nI (h ^ k)) (nI k) = some (.inr y) ∧ _
    unfold bMo_spread_33
    rw [h17, if_neg (nI_ge hk (by omega))]
    by_cases c : (4096 : Int32) < nI (h ^ k)
    · rw [if_pos c]
      have c2 := (nI_ltI (a := 4096) (b := h ^ k) (by omega) (by omega)).mp c
      have c3 : h ^ k ≤ h ^ n := Nat.pow_le_pow_right h0 (by omega)
      refine Or.inr ⟨_, rfl, Or.inr ⟨by omega, fun q => ?_⟩⟩
      have := (nI_leI (a := h ^ k) (b := 4096) (by omega) (by omega)).mp q
      omega
    · rw [if_neg c, q_lt, q_lt, nI_1, pk_mul, ← Nat.pow_succ]
      exact Or.inl ⟨_, rfl, by omega, rfl⟩
  · intro st hI
    obtain ⟨-, rfl⟩ := hI
    have hp8 := q_pow8 h4 hn
    refine ⟨nI (h ^ n), ?_, ?_⟩
    · show bMo_spread_33 (nI h) x2 r (nI (h ^ n)) (nI n) = _
      unfold bMo_spread_33
      rw [h17, if_pos (nI_le (Nat.le_refl n) (by omega))]
    · by_cases c : h ^ n ≤ 4096
      · exact Or.inl ⟨c, rfl⟩
      · refine Or.inr ⟨c, fun q => c ((nI_leI (a := h ^ n) (b := 4096) (by omega) (by omega)).mp q)⟩
theorem q_who {n h c e : Nat} {r : nt_T} (hn : n ≤ 8) (h0 : 0 < h) (h4 : h ≤ 4) (hc : c < 2 ^ 30) (he : e < h) (h17 : r 0 17 = nI n) (x3 : Int32) : ∃ w, nt_it (fun z => bMo_housesWith_17 (nI c) (nI h) x3 (nI e) r z.1 z.2) nt_fu ((0 : Int32), (0 : Int32)) = some w ∧ isB w (fun p => decide (dg h c p = e)) n := by
  refine q_loop (fun p st => ∃ w, st = (w, nI p) ∧ isB w (fun p => decide (dg h c p = e)) p) _ n (by omega) ⟨0, rfl, isB_0 _⟩ ?_ ?_
  · intro p st hp hI
    obtain ⟨w, rfl, hw⟩ := hI
    left
    show ∃ s', bMo_housesWith_17 (nI c) (nI h) x3 (nI e) r w (nI p) = some (.inl s') ∧ _
    unfold bMo_housesWith_17
    have hd := dg_lt h0 c p
    rw [h17, if_neg (nI_ge hp (by omega)), q_digit h0 h4 hc (by omega), q_b1]
    by_cases q : dg h c p = e
    · have q2 : nI (dg h c p) = nI e := by rw [q]
      rw [if_pos q2, q_lt, q_lt, nI_1]
      refine ⟨_, rfl, _, rfl, fun i hi => ?_⟩
      rw [q_set w (show p < 32 by omega) hi, hw i hi]
      by_cases l : i = p
      · subst l
        rw [decide_eq_true (show i = i from rfl), Bool.or_true, decide_eq_true (show i < i + 1 by omega)]
        show true = (true && decide (dg h c i = e))
        rw [decide_eq_true q]; rfl
      · by_cases l2 : i < p
        · rw [decide_eq_true l2, decide_eq_true (show i < p + 1 by omega), decide_eq_false l, Bool.or_false]
        · rw [decide_eq_false l2, decide_eq_false (show ¬ i < p + 1 by omega), decide_eq_false l]; rfl
    · have q2 : ¬ nI (dg h c p) = nI e := fun z => q ((nI_eq (by omega) (by omega)).mp z)
      rw [if_neg q2, q_lt, nI_1]
      refine ⟨_, rfl, _, rfl, fun i hi => ?_⟩
      rw [hw i hi]
      by_cases l : i = p
      · subst l
        rw [decide_eq_false (show ¬ i < i by omega), decide_eq_true (show i < i + 1 by omega)]
        show (false && decide (dg h c i = e)) = (true && decide (dg h c i = e))
        rw [decide_eq_false q]; rfl
      · by_cases l2 : i < p
        · rw [decide_eq_true l2, decide_eq_true (show i < p + 1 by omega)]
        · rw [decide_eq_false l2, decide_eq_false (show ¬ i < p + 1 by omega)]
  · intro st hI
    obtain ⟨w, rfl, hw⟩ := hI
    refine ⟨w, ?_, hw⟩
    show bMo_housesWith_17 (nI c) (nI h) x3 (nI e) r w (nI n) = _
    unfold bMo_housesWith_17
    rw [h17, if_pos (nI_le (Nat.le_refl n) (by omega))]
def tix (p s c : Nat) : Nat := (8 * p + s) * 9 + c
theorem tix_inj {p s c p' s' c' : Nat} (hs : s < 8) (hc : c < 9) (hs' : s' < 8) (hc' : c' < 9) (h : tix p s c = tix p' s' c') : p = p' ∧ s = s' ∧ c = c' := by
  unfold tix at h
  omega
/-- the reference's memory of a search: who knows, what was asked -/
def nt_mI (r : nt_T) (n m : Nat) (ri : nt_T) : Prop := nt_sM r ri ∧ (∀ s, s < m → isB (ri 16 s) (fun p => bt (kn r m p) s) n) ∧ ∀ p, p < n → ∀ s, s < m → ∀ c, c ≤ n → ri 17 (tix p s c) = 0 ∨ (ri 17 (tix p s c) = 1 ∧ VAL r 2 p s c = 0) ∨ (ri 17 (tix p s c) = 2 ∧ ¬ VAL r 2 p s c = 0)
theorem sM_VAL {r ri : nt_T} (h : nt_sM r ri) : VAL ri = VAL r := VAL_F (fun j hj => sM_slot h (by omega)) (fun k h1 h2 => sM_row h (by omega))
theorem q_tired {n m nr : Nat} {ln : Nat → Nat} {g r ri : nt_T} (hn : n ≤ 8) (hQ : nt_Q 14 n m nr ln g r) (hI : nt_mI r n m ri) {p s c : Nat} (hp : p < n) (hs : s < m) (hc : c ≤ n) : ∃ r', fMo_isTired (nI p) (nI s) (nI c) ri = some (bI (!decide (VAL r 2 p s c = 0)), r') ∧ nt_mI r n m r' := by
  have hm8 := hQ.1.1
  obtain ⟨hM, h16, h17⟩ := hI
  have hQi := S_Q (sC_rf g) hM hQ
  have ix : ((((8 : Int32) * nI p) + nI s) * (9 : Int32)) + nI c = nI (tix p s c) := by
    rw [(q_ix (show p < 9 by omega) (show s < 8 by omega)).2, show (9 : Int32) = nI 9 from rfl, pk_mul, nI_add]
    rfl
  have hb : tix p s c < 576 := by unfold tix; omega
  have hin := q_in hb (show 576 < 2 ^ 31 by omega)
  have hcl := nI_clamp (show tix p s c < 2 ^ 31 by omega)
  unfold fMo_isTired jMo_isTired_45 jMo_isTired_46
  rw [ix]
  simp only [hin, hcl, q_gt, q_lt]
  rcases h17 p hp s hs c hc with e | ⟨e, ev⟩ | ⟨e, ev⟩
  · rw [if_pos e]
    obtain ⟨r2, e2, hE⟩ := q_valM hQi.1 hQi.2.1 hQi.2.2 (k := 2) (by omega) hp hs (show c < 10 by omega)
    have e2 : fMo_says (2 : Int32) (nI p) (nI s) (nI c) ri = some (VAL ri 2 p s c, r2) := e2
    rw [e2, q_b2, sM_VAL hM]
    have hM2 : nt_sM r r2 := sM_tr hM (mE_s (uE_m hE))
    have keep : ∀ w : Int32, (w = 1 ∧ VAL r 2 p s c = 0) ∨ (w = 2 ∧ ¬ VAL r 2 p s c = 0) → nt_mI r n m (nt_st r2 17 (tix p s c) w) := by
      intro w hw
      refine ⟨fun k j a b d => ?_, fun t ht => ?_, fun p' hp' s' hs' c' hc' => ?_⟩
      · rw [st_slot _ _ (Or.inl b)]
        exact hM2 k j a b d
      · rw [st_row _ _ _ (by omega), uE_m hE 16 t (by unfold nt_mS; omega)]
        exact h16 t ht
      · by_cases q : tix p' s' c' = tix p s c
        · obtain ⟨rfl, rfl, rfl⟩ := tix_inj (by omega) (by omega) (by omega) (by omega) q
          rw [st_eq]
          exact Or.inr hw
        · rw [st_slot _ _ (Or.inr q), uE_m hE 17 _ (by unfold nt_mS; omega)]
          exact h17 p' hp' s' hs' c' hc'
    by_cases z : VAL r 2 p s c = 0
    · have d : ¬ (1 : Int32) = 2 := by decide
      rw [if_pos z, st_eq, if_neg d, decide_eq_true z]
      exact ⟨_, rfl, keep 1 (Or.inl ⟨rfl, z⟩)⟩
    · rw [if_neg z, st_eq, if_pos rfl, decide_eq_false z]
      exact ⟨_, rfl, keep 2 (Or.inr ⟨rfl, z⟩)⟩
  · have d0 : ¬ (1 : Int32) = 0 := by decide
    have d : ¬ (1 : Int32) = 2 := by decide
    rw [e, if_neg d0, if_neg d, decide_eq_true ev]
    exact ⟨_, rfl, hM, h16, h17⟩
  · have d0 : ¬ (2 : Int32) = 0 := by decide
    rw [e, if_neg d0, if_pos rfl, decide_eq_false ev]
    exact ⟨_, rfl, hM, h16, h17⟩
theorem q_any1 {n m nr e : Nat} {ln : Nat → Nat} {D : Nat → Nat} {g r ri : nt_T} (hn : n ≤ 8) (hQ : nt_Q 14 n m nr ln g r) (hI : nt_mI r n m ri) {w : Int32} (hw : isB w (fun p => decide (D p = e)) n) {s : Nat} (hs : s < m) : ∃ y, nt_it (fun z => bMo_anyMay_18 w (nI (cH n D e)) (nI s) z.1 z.2) nt_fu ((0 : Int32), ri) = some y ∧ ∃ r', nt_mI r n m r' ∧ ((y = .inl r' ∧ ∃ p, p < n ∧ SPT r n m D e p s = true) ∨ (y = .inr r' ∧ ∀ p, p < n → SPT r n m D e p s = false)) := by
  have hm8 := hQ.1.1
  refine q_loop (fun p st => ∃ rp, st = (nI p, rp) ∧ nt_mI r n m rp ∧ ∀ q, q < p → SPT r n m D e q s = false) _ n (by omega) ⟨ri, rfl, hI, fun q hq => absurd hq (by omega)⟩ ?_ ?_
  · intro p st hp hJ
    obtain ⟨rp, rfl, hIp, hno⟩ := hJ
    show (∃ s', bMo_anyMay_18 w (nI (cH n D e)) (nI s) (nI p) rp = some (.inl s') ∧ _) ∨ ∃ y, bMo_anyMay_18 w (nI (cH n D e)) (nI s) (nI p) rp = some (.inr y) ∧ _
    unfold bMo_anyMay_18
    have hQp := S_Q (sC_rf g) hIp.1 hQ
    have h17 : rp 0 17 = nI n := hQp.2.2.2.2.1
    have h9 : rp 9 = r 9 := sM_row hIp.1 (by omega)
    have hin := q_in (show p < 9 by omega) (show 9 < 2 ^ 31 by omega)
    have hcl := nI_clamp (show p < 2 ^ 31 by omega)
    have hin2 := q_in (show s < 8 by omega) (show 8 < 2 ^ 31 by omega)
    have hcl2 := nI_clamp (show s < 2 ^ 31 by omega)
    rw [h17, if_neg (nI_ge hp (by omega))]
    simp only [hin, hcl, hin2, hcl2, q_gt, q_lt, nI_1, q_tst1 _ (show p < 32 by omega), q_tst1 _ (show s < 32 by omega), h9]
    have next : SPT r n m D e p s = false → ∀ q, q < p + 1 → SPT r n m D e q s = false := by
      intro h q hq
      by_cases c : q = p
      · rw [c]; exact h
      · exact hno q (by omega)
    have hwp : bt w p = decide (D p = e) := isB_bt hw (by omega) hp
    have hoth : isB (w &&& (((1 : Int32) <<< (nI p &&& 31)) ^^^ (-1 : Int32))) (fun q => !decide (q = p) && decide (D q = e)) n := by
      intro i hi
      rw [q_clr w (show p < 32 by omega) hi, hw i hi]
      dsimp only
      cases decide (i < n) <;> cases decide (D i = e) <;> cases decide (i = p) <;> rfl
    by_cases c1 : bt w p = true
    · rw [if_pos c1]
      have hDe : D p = e := of_decide_eq_true (hwp.symm.trans c1)
      by_cases c2 : bt (r 9 p) s = true
      · rw [if_pos c2]
        have hcnt : cntB (fun q => decide (D q = e)) n = cntB (fun q => !decide (q = p) && decide (D q = e)) n + 1 := by
          have := cntB_off (f := fun q => decide (D q = e)) hp
          rw [this, decide_eq_true hDe]
          rfl
        have hz := isB_z (by omega) hoth
        by_cases c3 : (w &&& (((1 : Int32) <<< (nI p &&& 31)) ^^^ (-1 : Int32))) = 0
        · rw [if_pos c3]
          refine Or.inl ⟨_, rfl, rp, rfl, hIp, next ?_⟩
          have := hz.mp c3
          unfold SPT
          rw [hcnt, this, decide_eq_false (show ¬ 2 ≤ 0 + 1 by omega)]
          simp
        · rw [if_neg c3]
          have c3' : 2 ≤ cntB (fun q => decide (D q = e)) n := by
            have : ¬ cntB (fun q => !decide (q = p) && decide (D q = e)) n = 0 := fun z => c3 (hz.mpr z)
            omega
          have hk : isB (rp 16 s &&& (w &&& (((1 : Int32) <<< (nI p &&& 31)) ^^^ (-1 : Int32)))) (fun q => !decide (q = p) && (decide (D q = e) && bt (kn r m q) s)) n := by
            intro i hi
            rw [b_and, hoth i hi, hIp.2.1 s hs i hi]
            dsimp only
            cases decide (i < n) <;> cases decide (D i = e) <;> cases decide (i = p) <;> cases bt (kn r m i) s <;> rfl
          have hz2 := isB_z (by omega) hk
          by_cases c4 : rp 16 s &&& (w &&& (((1 : Int32) <<< (nI p &&& 31)) ^^^ (-1 : Int32))) = 0
          · rw [if_pos c4]
            have c4' := hz2.mp c4
            obtain ⟨r2, e2, hI2⟩ := q_tired hn hQ hIp hp hs (c := cH n D e) (cntB_le _ _)
            rw [e2, q_b2]
            have hT : SPT r n m D e p s = decide (VAL r 2 p s (cH n D e) = 0) := by
              unfold SPT
              rw [decide_eq_true hDe, c2, decide_eq_true c3', decide_eq_true c4']
              rfl
            by_cases z : VAL r 2 p s (cH n D e) = 0
            · rw [decide_eq_true z] at hT ⊢
              rw [if_pos (show bI (!true) = 0 from rfl)]
              exact Or.inr ⟨_, rfl, r2, hI2, Or.inl ⟨rfl, p, hp, hT⟩⟩
            · rw [decide_eq_false z] at hT ⊢
              rw [if_neg (show ¬ bI (!false) = 0 by decide)]
              exact Or.inl ⟨_, rfl, r2, rfl, hI2, next hT⟩
          · rw [if_neg c4]
            refine Or.inl ⟨_, rfl, rp, rfl, hIp, next ?_⟩
            unfold SPT
            rw [decide_eq_false (fun z => c4 (hz2.mpr z))]
            simp
      · rw [if_neg c2]
        refine Or.inl ⟨_, rfl, rp, rfl, hIp, next ?_⟩
        unfold SPT
        rw [show bt (r 9 p) s = false by
          cases q : bt (r 9 p) s
          · rfl
          · exact absurd q c2]
        simp
    · rw [if_neg c1]
      refine Or.inl ⟨_, rfl, rp, rfl, hIp, next ?_⟩
      unfold SPT
      rw [← hwp, show bt w p = false by
        cases q : bt w p
        · rfl
        · exact absurd q c1]
      simp
  · intro st hJ
    obtain ⟨rp, rfl, hIp, hno⟩ := hJ
    refine ⟨.inr rp, ?_, rp, hIp, Or.inr ⟨rfl, hno⟩⟩
    show bMo_anyMay_18 w (nI (cH n D e)) (nI s) (nI n) rp = _
    unfold bMo_anyMay_18
    have hQp := S_Q (sC_rf g) hIp.1 hQ
    have h17 : rp 0 17 = nI n := hQp.2.2.2.2.1
    rw [h17, if_pos (nI_le (Nat.le_refl n) (by omega))]
theorem q_any {n m nr e : Nat} {ln : Nat → Nat} {D : Nat → Nat} {g r ri : nt_T} (hn : n ≤ 8) (hQ : nt_Q 14 n m nr ln g r) (hI : nt_mI r n m ri) {w : Int32} (hw : isB w (fun p => decide (D p = e)) n) : ∃ r', fMo_anyMay w ri = some (bI (SPH r n m D e), r') ∧ nt_mI r n m r' := by
  have hm8 := hQ.1.1
  unfold fMo_anyMay
  rw [(isB_cnt (by omega) hw ri).2, q_b1]
  have H : ∃ y, nt_it (fun z => bMo_anyMay_7 w (nI (cH n D e)) z.1 z.2) nt_fu ((0 : Int32), ri) = some y ∧ ∃ r', nt_mI r n m r' ∧ ((y = .inl r' ∧ SPH r n m D e = true) ∨ (y = .inr r' ∧ SPH r n m D e = false)) := by
    refine q_loop (fun s st => ∃ rp, st = (nI s, rp) ∧ nt_mI r n m rp ∧ ∀ t, t < s → ∀ p, p < n → SPT r n m D e p t = false) _ m (by omega) ⟨ri, rfl, hI, fun q hq => absurd hq (by omega)⟩ ?_ ?_
    · intro s st hs hJ
      obtain ⟨rp, rfl, hIp, hno⟩ := hJ
      show (∃ s', bMo_anyMay_7 w (nI (cH n D e)) (nI s) rp = some (.inl s') ∧ _) ∨ ∃ y, bMo_anyMay_7 w (nI (cH n D e)) (nI s) rp = some (.inr y) ∧ _
      unfold bMo_anyMay_7
      have hQp := S_Q (sC_rf g) hIp.1 hQ
      have h11 : rp 0 11 = nI m := hQp.1.2.2.1
      rw [h11, if_neg (nI_ge hs (by omega))]
      obtain ⟨y, e1, r2, hI2, hy⟩ := q_any1 hn hQ hIp hw hs
      rw [e1, q_b1]
      rcases hy with ⟨rfl, p, hp, hT⟩ | ⟨rfl, hno2⟩
      · exact Or.inr ⟨_, rfl, r2, hI2, Or.inl ⟨rfl, SPH_iff.mpr ⟨p, hp, s, hs, hT⟩⟩⟩
      · dsimp only
        rw [q_lt, nI_1]
        refine Or.inl ⟨_, rfl, r2, rfl, hI2, fun t ht => ?_⟩
        by_cases c : t = s
        · rw [c]; exact hno2
        · exact hno t (by omega)
    · intro st hJ
      obtain ⟨rp, rfl, hIp, hno⟩ := hJ
      refine ⟨.inr rp, ?_, rp, hIp, Or.inr ⟨rfl, ?_⟩⟩
      · show bMo_anyMay_7 w (nI (cH n D e)) (nI m) rp = _
        unfold bMo_anyMay_7
        have hQp := S_Q (sC_rf g) hIp.1 hQ
        have h11 : rp 0 11 = nI m := hQp.1.2.2.1
        rw [h11, if_pos (nI_le (Nat.le_refl m) (by omega))]
      · cases q : SPH r n m D e
        · rfl
        · obtain ⟨p, hp, s, hs, hT⟩ := SPH_iff.mp q
          rw [hno s hs p hp] at hT
          cases hT
  obtain ⟨y, e1, r', hI', hy⟩ := H
  refine ⟨r', ?_, hI'⟩
  have ec : cntB (fun p => decide (D p = e)) n = cH n D e := rfl
  rw [ec, e1, q_b1]
  rcases hy with ⟨rfl, hS⟩ | ⟨rfl, hS⟩
  · rw [hS]; rfl
  · rw [hS]; rfl
