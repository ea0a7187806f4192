/-! ===== goesOn, the sets ===== -/
/-- two loops side by side; the first may go on alone at the end -/
theorem nt_inv4 {S X T Y : Type} {b1 : S → Option (S ⊕ X)} {b2 : T → Option (T ⊕ Y)} (I : Nat → S → T → Prop) (P : X → Y → Prop) (n D : Nat)
    (hs : ∀ k s t, k < n → I k s t → ∃ s' t', b1 s = some (.inl s') ∧ b2 t = some (.inl t') ∧ I (k + 1) s' t')
    (he : ∀ s t, I n s t → ∃ x y, (∀ fu, D < fu → nt_it b1 fu s = some x) ∧ b2 t = some (.inr y) ∧ P x y) :
    ∀ (d k : Nat) (s : S) (t : T), k + d = n → I k s t → ∀ fu, d + D < fu → ∃ x y, nt_it b1 fu s = some x ∧ nt_it b2 fu t = some y ∧ P x y := by
  intro d
  induction d with
  | zero =>
    intro k s t hk hI fu hfu
    obtain ⟨f, rfl⟩ : ∃ f, fu = f + 1 := ⟨fu - 1, by omega⟩
    obtain rfl : k = n := by omega
    obtain ⟨x, y, h1, h2, h3⟩ := he s t hI
    exact ⟨x, y, h1 _ (by omega), by rw [nt_it, h2], h3⟩
  | succ d ih =>
    intro k s t hk hI fu hfu
    obtain ⟨f, rfl⟩ : ∃ f, fu = f + 1 := ⟨fu - 1, by omega⟩
    obtain ⟨s', t', h1, h2, h3⟩ := hs k s t (by omega) hI
    obtain ⟨x, y, h4, h5, h6⟩ := ih (k + 1) s' t' (by omega) h3 f (by omega)
    exact ⟨x, y, by rw [nt_it, h1]; exact h4, by rw [nt_it, h2]; exact h5, h6⟩
theorem q_both4 {S X T Y : Type} {b1 : S → Option (S ⊕ X)} {b2 : T → Option (T ⊕ Y)} (I : Nat → S → T → Prop) (P : X → Y → Prop) (n D : Nat) (hn : n + D < 5000) {s : S} {t : T} (h0 : I 0 s t)
    (hs : ∀ k s t, k < n → I k s t → ∃ s' t', b1 s = some (.inl s') ∧ b2 t = some (.inl t') ∧ I (k + 1) s' t')
    (he : ∀ s t, I n s t → ∃ x y, (∀ fu, D < fu → nt_it b1 fu s = some x) ∧ b2 t = some (.inr y) ∧ P x y) : ∃ x y, nt_it b1 nt_fu s = some x ∧ nt_it b2 nt_fu t = some y ∧ P x y :=
  nt_inv4 I P n D hs he n 0 s t (by omega) h0 nt_fu (by unfold nt_fu; omega)
theorem q_pow : ∀ m, m < 9 → (1 : Int32) <<< (nI m &&& 31) = nI (2 ^ m) := by decide +kernel
theorem q_pow2 : ∀ m, m < 9 → 1 ≤ 2 ^ m ∧ 2 ^ m ≤ 256 := by decide +kernel
theorem q_sub0 {x u : Int32} : x &&& (u ^^^ (-1 : Int32)) = 0 ↔ ∀ i, i < 32 → bt x i = true → bt u i = true := by
  constructor
  · intro h i hi hb
    have := congrArg (fun y => bt y i) h
    simp only [b_and, q_not u hi, hb, b_0, Bool.true_and] at this
    cases q : bt u i
    · rw [q] at this; exact absurd this (by decide)
    · rfl
  · intro h
    refine b_ext (fun i hi => ?_)
    rw [b_and, q_not u hi, b_0]
    cases q : bt x i
    · rfl
    · rw [h i hi q]; rfl
theorem st_goesOn {nr : Nat} {ln : Nat → Nat} {g r : nt_T} (h : nt_Rel nr ln g r) (x1 x2 : Int32) : ∃ (v : Int32) (ga : nt_T) (gb : nt_T), fNt_goesOn nr ln x1 x2 g = some (v, ga) ∧ fMo_goesOn x1 x2 r = some (v, gb) ∧ nt_Rel nr ln ga gb := by
  obtain ⟨m, n, hn, hQ, hO⟩ := id h
  have hm8 := hQ.1.1
  obtain ⟨w1, w2⟩ := q_pow2 m (by omega)
  unfold fNt_goesOn fMo_goesOn
  rw [(q_house x1 g r).1, (q_house x1 g r).2, q_b1, q_b1]
  cases h1 : nt_in x1 4
  · exact ⟨_, _, _, if_pos rfl, if_pos rfl, h⟩
  rw [if_neg (show ¬ bI true = 0 by decide), if_neg (show ¬ bI true = 0 by decide), q_below (y := (2 : Int32)) (n := 2) (by omega) rfl, q_moin (x := x2) (n := 2) (by omega) (by decide), q_b1, q_b1]
  cases h2 : nt_in x2 2
  · exact ⟨_, _, _, if_pos rfl, if_pos rfl, h⟩
  rw [if_neg (show ¬ bI true = 0 by decide), if_neg (show ¬ bI true = 0 by decide)]
  obtain ⟨u, g0, e0, hc0, hU⟩ := q_unheard (Or.inl rfl) hQ x1
  obtain ⟨r1, ea, hla, haE⟩ := q_aside2 r
  rw [e0, ea, q_b2, q_b1]
  have bc : ∀ x, x < 256 → ∀ g' : nt_T, fJi_bitCount_0f7a4 (nI x) g' = some (nI (cntB (fun i => x.testBit i) 8)) ∧ fMo_bitsOf (nI x) g' = some (nI (cntB (fun i => x.testBit i) 8)) := fun x hx g' => isB_cnt (by omega) (isB_N (n := 8) (by omega) hx) g'
  have hcl : ∀ x, x < 256 → ((nI x &&& (u ^^^ (-1 : Int32)) = 0) ↔ ∀ i, x.testBit i = true → i < m ∧ unB r n m x1 i = true) := by
    intro x hx
    rw [q_sub0]
    constructor
    · intro q i hb
      have hi : i < 32 := by
        refine Decidable.byContradiction (fun c => ?_)
        have : x.testBit i = false := Nat.testBit_lt_two_pow (Nat.lt_of_lt_of_le hx (by rw [show 256 = 2 ^ 8 from rfl]; exact Nat.pow_le_pow_right (by omega) (by omega)))
        rw [this] at hb
        cases hb
      have := q i hi (by rw [q_bN hi]; exact hb)
      rw [hU i hi, Bool.and_eq_true] at this
      exact ⟨of_decide_eq_true this.1, this.2⟩
    · intro q i hi hb
      rw [q_bN hi] at hb
      obtain ⟨a, b⟩ := q i hb
      rw [hU i hi, decide_eq_true a, b]; rfl
  have H : ∃ a b, nt_it (fun z => bNt_goesOn_33 nr ln x1 x2 u z.1 z.2.1 z.2.2) nt_fu ((0 : Int32), (1 : Int32), g0) = some a ∧ nt_it (fun z => bMo_goesOn_29 x1 x2 z.1 z.2.1 z.2.2) nt_fu ((0 : Int32), (1 : Int32), r1) = some b ∧ ∃ v, v < 256 ∧ a.1 = nI v ∧ b.1 = nI v ∧ nt_pE 21 g a.2 ∧ nt_La r b.2 := by
    refine q_both4 (fun k s t => ∃ v gi ri, v < 256 ∧ s = (nI v, nI (k + 1), gi) ∧ t = (nI v, nI (k + 1), ri) ∧ nt_pE 21 g gi ∧ nt_La r ri) _ (2 ^ m - 1) (256 - 2 ^ m) (by omega) ⟨0, g0, r1, by omega, rfl, rfl, cE_p hc0, aE_B hla haE⟩ ?_ ?_
    · intro k s t hk hI
      obtain ⟨v, gi, ri, hv, rfl, rfl, hpE, hB⟩ := hI
      have hx : k + 1 < 2 ^ m := by omega
      have h11 : ri 0 11 = nI m := by rw [B_slot hB (by omega)]; exact hQ.1.2.2.1
      have c1 : ¬ (256 : Int32) ≤ nI (k + 1) := nI_ge (b := 256) (by omega) (by omega)
      have c2 : ¬ ((1 : Int32) <<< (ri 0 11 &&& 31)) ≤ nI (k + 1) := by
        rw [h11, q_pow m (by omega)]
        exact nI_ge hx (by omega)
      show ∃ s' t', bNt_goesOn_33 nr ln x1 x2 u (nI v) (nI (k + 1)) gi = some (.inl s') ∧ bMo_goesOn_29 x1 x2 (nI v) (nI (k + 1)) ri = some (.inl t') ∧ _
      unfold bNt_goesOn_33 bMo_goesOn_29
      rw [if_neg c1, if_neg c2, (bc (k + 1) (by omega) gi).1, (bc (k + 1) (by omega) ri).2, (bc v hv gi).1, (bc v hv ri).2]
      simp only [q_b1, q_lt, nI_1]
      obtain ⟨ok, g2, r2, e1, e2, hp2, hB2, hok⟩ := q_canAll hn (B_Q hn hpE hB hQ) hB x1 (nI (k + 1))
      by_cases hc : nI (k + 1) &&& (u ^^^ (-1 : Int32)) = 0
      · rw [if_pos hc]
        by_cases hle : nI (cntB (fun i => (k + 1).testBit i) 8) ≤ nI (cntB (fun i => v.testBit i) 8)
        · rw [if_pos hle, if_pos hle]
          exact ⟨_, _, rfl, rfl, v, gi, ri, hv, rfl, rfl, hpE, hB⟩
        · rw [if_neg hle, if_neg hle, e1, e2, q_b2, q_b2]
          cases ok
          · rw [if_pos (show bI false = 0 from rfl), if_pos (show bI false = 0 from rfl)]
            exact ⟨_, _, rfl, rfl, v, g2, r2, hv, rfl, rfl, pE_tr hpE hp2, hB2⟩
          · rw [if_neg (show ¬ bI true = 0 by decide), if_neg (show ¬ bI true = 0 by decide)]
            exact ⟨_, _, rfl, rfl, k + 1, g2, r2, by omega, rfl, rfl, pE_tr hpE hp2, hB2⟩
      · rw [if_neg hc]
        by_cases hle : nI (cntB (fun i => (k + 1).testBit i) 8) ≤ nI (cntB (fun i => v.testBit i) 8)
        · rw [if_pos hle]
          exact ⟨_, _, rfl, rfl, v, gi, ri, hv, rfl, rfl, hpE, hB⟩
        · rw [if_neg hle, e2, q_b2]
          cases ok
          · rw [if_pos (show bI false = 0 from rfl)]
            exact ⟨_, _, rfl, rfl, v, gi, r2, hv, rfl, rfl, hpE, hB2⟩
          · refine absurd ((hcl (k + 1) (by omega)).mpr (fun i hi => ?_)) hc
            have him : i < m := by
              refine Decidable.byContradiction (fun c => ?_)
              have : (k + 1).testBit i = false := Nat.testBit_lt_two_pow (Nat.lt_of_lt_of_le hx (Nat.pow_le_pow_right (by omega) (by omega)))
              rw [this] at hi
              cases hi
            refine ⟨him, gr_unB (B_gr hn hB) hm8 (by omega) (hok rfl i him ?_)⟩
            rw [q_bN (by omega)]
            exact hi
    · intro s t hI
      obtain ⟨v, gi, ri, hv, rfl, rfl, hpE, hB⟩ := hI
      have ek : 2 ^ m - 1 + 1 = 2 ^ m := by omega
      rw [ek]
      have h11 : ri 0 11 = nI m := by rw [B_slot hB (by omega)]; exact hQ.1.2.2.1
      refine ⟨(nI v, gi), (nI v, ri), fun fu hfu => ?_, ?_, v, hv, rfl, rfl, hpE, hB⟩
      · obtain ⟨x, e, ex⟩ := nt_inv (body := fun z => bNt_goesOn_33 nr ln x1 x2 u z.1 z.2.1 z.2.2) (fun j s => s = (nI v, nI (2 ^ m + j), gi)) (fun x => x = (nI v, gi)) (256 - 2 ^ m) (fun j s hj hs => by
          subst hs
          left
          refine ⟨(nI v, nI (2 ^ m + (j + 1)), gi), ?_, rfl⟩
          show bNt_goesOn_33 nr ln x1 x2 u (nI v) (nI (2 ^ m + j)) gi = _
          unfold bNt_goesOn_33
          have c1 : ¬ (256 : Int32) ≤ nI (2 ^ m + j) := nI_ge (b := 256) (by omega) (by omega)
          have hc : ¬ nI (2 ^ m + j) &&& (u ^^^ (-1 : Int32)) = 0 := by
            intro q
            have q := (hcl (2 ^ m + j) (by omega)).mp q
            have : 2 ^ m + j < 2 ^ m := Nat.lt_pow_two_of_testBit _ (fun i hi => by
              cases z : (2 ^ m + j).testBit i
              · rfl
              · have := (q i z).1
                omega)
            omega
          rw [if_neg c1, if_neg hc, q_lt, nI_1]
          rfl) (fun s hs => by
          subst hs
          refine ⟨_, ?_, rfl⟩
          show bNt_goesOn_33 nr ln x1 x2 u (nI v) (nI (2 ^ m + (256 - 2 ^ m))) gi = _
          unfold bNt_goesOn_33
          have c1 : (256 : Int32) ≤ nI (2 ^ m + (256 - 2 ^ m)) := by rw [show 2 ^ m + (256 - 2 ^ m) = 256 by omega]; decide
          rw [if_pos c1]) (256 - 2 ^ m) 0 (nI v, nI (2 ^ m), gi) (by omega) rfl fu hfu
        rw [e, ex]
      · show bMo_goesOn_29 x1 x2 (nI v) (nI (2 ^ m)) ri = _
        unfold bMo_goesOn_29
        rw [h11, q_pow m (by omega), if_pos (nI_le (Nat.le_refl _) (by omega))]
  obtain ⟨⟨a1, gi⟩, ⟨b1, ri⟩, e1, e2, v, hv, ev1, ev2, hpE, hB⟩ := H
  have ev1 : a1 = nI v := ev1
  have ev2 : b1 = nI v := ev2
  subst ev1 ev2
  have fin : nt_Rel nr ln gi ri := ⟨m, n, hn, B_Q hn hpE hB hQ, B_O hpE hB hO⟩
  rw [e1, e2, q_b1, q_b1]
  dsimp only
  by_cases hz : x2 = 0
  · rw [if_pos hz, if_pos hz, (bc v hv gi).1, (bc v hv ri).2, q_b1, q_b1]
    exact ⟨_, _, _, rfl, rfl, fin⟩
  · rw [if_neg hz, if_neg hz]
    exact ⟨_, _, _, rfl, rfl, fin⟩
