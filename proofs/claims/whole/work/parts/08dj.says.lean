/-! ===== what a text's values are ===== -/
def nt_TX (t L : Nat) (A C T S : Nat → Int32) : Prop := L ≤ 160 ∧ ∃ N gg gg', N ≤ 160 ∧ S t = nI N ∧ gg 10 1 = nI N ∧ (∀ j, j < N → gg 11 j = T (160 * t + j) ∧ ∃ c, c < 256 ∧ T (160 * t + j) = nI c) ∧ fRd_reads gg = some (1, gg') ∧ gg' 10 7 = nI L ∧ A 1 = gg' 13 1 ∧ A 2 = gg' 13 2 ∧ ∀ j, j < L → C j = gg' 12 j
theorem q_core {t L : Nat} {A C T S nm : Nat → Int32} {r : nt_T} (ht : t < 6) (h : nt_TX t L A C T S) (h1 : r 1 = T) (h2 : r 2 = S) (hnm : ∀ j, j < 6 → r 0 (19 + j) = nm j) (kd : Int32) : ∃ n0 n1 n2 v0 v1 v2 r', L = n0 + n1 + n2 ∧ L ≤ 160 ∧ A 1 = nI n0 ∧ A 2 = nI (n0 + n1) ∧ PUSH nm C 0 n0 31 v0 ∧ PUSH nm C n0 n1 31 v1 ∧ PUSH nm C (n0 + n1) n2 31 v2 ∧ (∀ j, j < L → ∃ c, c < 11000 ∧ C j = nI c) ∧ fMo_read (nI t) kd r = some (if kd = 0 then v0 else if kd = 1 then v1 else v2, r') ∧ ∀ k j, ¬ (k = 0 ∧ (25 ≤ j ∧ j ≤ 33 ∨ j = 130 ∨ j = 230)) → r' k j = r k j := by
  obtain ⟨hL, N, gg, gg', hN, hS, g1, hb, e, e7, a1, a2, hC⟩ := h
  subst h1; subst h2
  obtain ⟨b, g', v, r', f1, f2, f3, f4, f5⟩ := reads_both kd hN ht g1 hS hb hnm
  rw [e] at f1
  have f9 := Prod.mk.inj (Option.some.inj f1)
  obtain ⟨f10, f11⟩ := f9
  subst f11
  rcases f5 with ⟨rfl, z, n0, n1, n2, v0, v1, v2, l1, l2, l3, l4, l5, l6, l7, l8, l9⟩ | ⟨rfl, _⟩
  · have hLe : L = n0 + n1 + n2 := (nI_eq (by omega) (by omega)).mp (e7.symm.trans l2)
    refine ⟨n0, n1, n2, v0, v1, v2, r', hLe, hL, a1.trans l3, a2.trans l4, ?_, ?_, ?_, ?_, ?_, f3⟩
    · exact PUSH_congr l5 fun j j1 j2 => hC j (by omega)
    · exact PUSH_congr l6 fun j j1 j2 => hC j (by omega)
    · exact PUSH_congr l7 fun j j1 j2 => hC j (by omega)
    · intro j hj
      obtain ⟨c, hc, he⟩ := l9 j (by omega)
      exact ⟨c, hc, (hC j hj).trans he⟩
    · rw [f2, l8]
  · exact absurd f10 (by decide)
def nt_qT (nr : Nat) (ln : Nat → Nat) (g r : nt_T) : Prop := 1 ≤ nr ∧ nr ≤ 6 ∧ g 6 3 = nI nr ∧ r 0 3 = nI nr ∧ (∃ t, t < nr ∧ r 0 4 = nI t) ∧ ∀ i, i < nr → nt_TX i (ln i) (g (47 + 2 * i)) (g (48 + 2 * i)) (r 1) (r 2)
theorem qT_R {nr : Nat} {ln : Nat → Nat} {g r g' r' : nt_T} (h6 : g' 6 3 = g 6 3) (h47 : ∀ k, 47 ≤ k → g' k = g k) (h1 : r' 1 = r 1) (h2 : r' 2 = r 2) (h3 : r' 0 3 = r 0 3) (h4 : ∃ t, t < nr ∧ r' 0 4 = nI t) (h : nt_qT nr ln g r) : nt_qT nr ln g' r' := by
  obtain ⟨a1, a2, a3, a4, a5, a6⟩ := h
  refine ⟨a1, a2, by rw [h6]; exact a3, by rw [h3]; exact a4, h4, fun i hi => ?_⟩
  rw [h47 _ (by omega), h47 _ (by omega), h1, h2]
  exact a6 i hi
theorem qT_F {nr : Nat} {ln : Nat → Nat} {g r g' r' : nt_T} (h6 : g' 6 3 = g 6 3) (h47 : ∀ k, 47 ≤ k → g' k = g k) (h1 : r' 1 = r 1) (h2 : r' 2 = r 2) (h3 : r' 0 3 = r 0 3) (h4 : r' 0 4 = r 0 4) (h : nt_qT nr ln g r) : nt_qT nr ln g' r' :=
  qT_R h6 h47 h1 h2 h3 (by rw [h4]; exact h.2.2.2.2.1) h
theorem qT_E {nr : Nat} {ln : Nat → Nat} {g r g' r' : nt_T} (hc : nt_cE g g') (hm : nt_mE r r') (h : nt_qT nr ln g r) : nt_qT nr ln g' r' :=
  qT_F (by rw [cE_row hc (k := 6) (by omega)]) (fun k hk => cE_row hc (by omega)) (mE_row hm (by omega)) (mE_row hm (by omega)) (hm 0 3 (by unfold nt_mS; omega)) (hm 0 4 (by unfold nt_mS; omega)) h
theorem qT_c {nr : Nat} {ln : Nat → Nat} {g r : nt_T} (h : nt_qT nr ln g r) : g 6 3 = nI nr ∧ r 0 3 = nI nr := ⟨h.2.2.1, h.2.2.2.1⟩
theorem qT_n {nr : Nat} {ln : Nat → Nat} {g r : nt_T} (h : nt_qT nr ln g r) : nr ≤ 6 := h.2.1
theorem qT_r {nr : Nat} {ln : Nat → Nat} {g r : nt_T} (h : nt_qT nr ln g r) : ∃ t, t < nr ∧ r 0 4 = nI t := h.2.2.2.2.1
/-- what of the reference's heap a value depends on -/
def PJ (r : nt_T) : nt_T := fun k j => if (k = 0 ∧ j < 19) ∨ (1 ≤ k ∧ k ≤ 12) then r k j else 0
theorem PJ_r (r : nt_T) {k : Nat} (h : 1 ≤ k ∧ k ≤ 12) : PJ r k = r k := funext fun j => if_pos (Or.inr h)
theorem PJ_0 (r : nt_T) {j : Nat} (h : j < 19) : PJ r 0 j = r 0 j := if_pos (Or.inl ⟨rfl, h⟩)
theorem PJ_F {r r' : nt_T} (h0 : ∀ j, j < 19 → r' 0 j = r 0 j) (hr : ∀ k, 1 ≤ k → k ≤ 12 → r' k = r k) : PJ r' = PJ r := by
  funext k j
  unfold PJ
  by_cases c : (k = 0 ∧ j < 19) ∨ (1 ≤ k ∧ k ≤ 12)
  · rw [if_pos c, if_pos c]
    rcases c with ⟨rfl, h⟩ | h
    · exact h0 j h
    · rw [hr k h.1 h.2]
  · rw [if_neg c, if_neg c]
def VAL (r : nt_T) (k p s c : Nat) : Int32 := ((fMo_says (nI k) (nI p) (nI s) (nI c) (PJ r)).getD (0, nt_g0)).1
theorem VAL_F {r r' : nt_T} (h0 : ∀ j, j < 19 → r' 0 j = r 0 j) (hr : ∀ k, 1 ≤ k → k ≤ 12 → r' k = r k) : VAL r' = VAL r := by
  funext k p s c
  unfold VAL
  rw [PJ_F h0 hr]
theorem VAL_E {r r' : nt_T} (h : nt_mE r r') : VAL r' = VAL r := VAL_F (fun j hj => h 0 j (by unfold nt_mS; omega)) (fun k h1 h2 => mE_row h (by omega))
theorem VAL_eq {r r' : nt_T} {k p s c : Nat} {v : Int32} (h : fMo_says (nI k) (nI p) (nI s) (nI c) (PJ r) = some (v, r')) : VAL r k p s c = v := by
  unfold VAL
  rw [h]
  rfl
theorem q_txat {nr : Nat} {ln : Nat → Nat} {g : nt_T} {t : Nat} (hn : nr ≤ 6) (ht : t < nr) (h : g 6 3 = nI nr) : fTx_at nr ln (nI t) g = some t := by
  unfold fTx_at
  rw [if_neg (nI_pos (by omega)), h, if_neg (nI_ge ht (by omega)), q_gd (q_in (by omega) (by omega)), nI_clamp (by omega), q_gd (decide_eq_true ht)]
/-- both say the same -/
theorem q_valB {b n m nr : Nat} {ln : Nat → Nat} {g r : nt_T} (hb : b = 14 ∨ b = 21) (hS : nt_qS m g r) (hT : nt_qT nr ln g r) (hP : nt_qP b n g r) {k p s c : Nat} (hk : k < 3) (hp : p < n) (hs : s < m) (hc : c < 10) : ∃ v g' r', fPp_value nr ln b (nI k) (nI p) (nI s) (nI c) g = some (v, g') ∧ nt_vE g g' ∧ fMo_says (nI k) (nI p) (nI s) (nI c) r = some (v, r') ∧ nt_uE r r' := by
  obtain ⟨hnr1, hnr6, h63, h03, ⟨t, ht, h04⟩, hTX⟩ := id hT
  obtain ⟨hn9, p7, p17, p8, p9, _, hq⟩ := id hP
  obtain ⟨q1, q2, q3, q4, q5, ⟨a, ha, hag⟩, ⟨tt, htt, htl⟩, ⟨x, hx, hhd⟩, _⟩ := hq p hp
  rw [hag] at q2; rw [htl] at q3; rw [hhd] at q4
  have hS5 : nt_qS m (nt_st g 8 0 (nI a)) (nt_st r 0 19 (nI a)) := qS_E (cE_st _ (Or.inl rfl)) (mE_st _ ⟨rfl, by omega⟩) hS
  obtain ⟨cv, hcv, c1, c2⟩ := q_counts hS5 hs ha
  have cp : (nI p).toNatClampNeg = p := nI_clamp (by omega)
  have ip : nt_in (nI p) 9 = true := q_in (by omega) (by omega)
  have bx := fun y => isB_cnt (x := nI x) (f := fun i => x.testBit i) (n := 8) (by omega) (isB_N (by omega) hx) y
  have bt := fun y => isB_cnt (x := nI tt) (f := fun i => tt.testBit i) (n := 8) (by omega) (isB_N (by omega) htt) y
  obtain ⟨X, hX⟩ : ∃ X, X = nI (cntB (fun i => x.testBit i) 8) := ⟨_, rfl⟩
  obtain ⟨Y, hY⟩ : ∃ Y, Y = nI (cntB (fun i => tt.testBit i) 8) := ⟨_, rfl⟩
  rw [← hX] at bx
  rw [← hY] at bt
  obtain ⟨R, hR⟩ : ∃ R, R = nt_st (nt_st (nt_st (nt_st (nt_st (nt_st r 0 19 (nI a)) 0 20 (nI cv)) 0 21 X) 0 22 (nI c)) 0 23 (r 0 18)) 0 24 Y := ⟨_, rfl⟩
  obtain ⟨G, hG⟩ : ∃ G, G = nt_st (nt_st (nt_st (nt_st (nt_st (nt_st g 8 0 (nI a)) 8 1 (nI cv)) 8 2 X) 8 3 (nI c)) 8 4 (r 0 18)) 8 5 Y := ⟨_, rfl⟩
  have hRk : ∀ k, k ≠ 0 → R k = r k := fun k hk => by rw [hR, st_row _ _ _ hk, st_row _ _ _ hk, st_row _ _ _ hk, st_row _ _ _ hk, st_row _ _ _ hk, st_row _ _ _ hk]
  have hGk : ∀ k, k ≠ 8 → G k = g k := fun k hk => by rw [hG, st_row _ _ _ hk, st_row _ _ _ hk, st_row _ _ _ hk, st_row _ _ _ hk, st_row _ _ _ hk, st_row _ _ _ hk]
  have hR4 : R 0 4 = nI t := by rw [hR, st_slot _ _ (by omega), st_slot _ _ (by omega), st_slot _ _ (by omega), st_slot _ _ (by omega), st_slot _ _ (by omega), st_slot _ _ (by omega)]; exact h04
  have hnm : ∀ j, j < 6 → G 8 j = R 0 (19 + j) := by
    intro j hj
    rw [hG, hR]
    simp only [st_app]
    rcases (show j = 0 ∨ j = 1 ∨ j = 2 ∨ j = 3 ∨ j = 4 ∨ j = 5 by omega) with rfl | rfl | rfl | rfl | rfl | rfl <;> rfl
  obtain ⟨n0, n1, n2, v0, v1, v2, r', l1, l2, l3, l4, l5, l6, l7, l8, l9, l10⟩ := q_core (r := R) (nm := fun j => R 0 (19 + j)) (t := t) (by omega) (hTX t ht) (hRk 1 (by omega)) (hRk 2 (by omega)) (fun _ _ => rfl) (nI k)
  obtain ⟨g', u1, u2⟩ := q_ruv (nr := nr) (i := t) (g := G) hk l1 (by omega) (by rw [hGk _ (by omega)]; exact l3) (by rw [hGk _ (by omega)]; exact l4) (by rw [hGk _ (by omega)]; exact l8) hnm (by rw [hGk _ (by omega)]; exact l5) (by rw [hGk _ (by omega)]; exact l6) (by rw [hGk _ (by omega)]; exact l7)
  refine ⟨if nI k = 0 then v0 else if nI k = 1 then v1 else v2, g', r', ?_, fun k' j' h8 h9 => ?_, ?_, fun k' j' hk' => ?_⟩
  · unfold fPp_value
    rw [p9, h04, q_txat hnr6 ht h63, q_b1, q_gd (decide_eq_true ht), q_gd ip, q_gd (show nt_in (0 : Int32) 6 = true by decide), q_lt, cp, q2, show (0 : Int32).toNatClampNeg = 0 by decide, q_gd ip, st_slot g (nI a) (show b + 2 ≠ 8 ∨ p ≠ 0 by omega), q2, c1, q_b1, q_gd (show nt_in (1 : Int32) 6 = true by decide), q_lt, show (1 : Int32).toNatClampNeg = 1 by decide, q_gd ip, st_slot _ _ (show b + 4 ≠ 8 ∨ p ≠ 1 by omega), st_slot _ _ (show b + 4 ≠ 8 ∨ p ≠ 0 by omega), q4, (bx _).1, q_b1, q_gd (show nt_in (2 : Int32) 6 = true by decide), q_lt, show (2 : Int32).toNatClampNeg = 2 by decide, q_gd (show nt_in (3 : Int32) 6 = true by decide), q_lt, show (3 : Int32).toNatClampNeg = 3 by decide, q_gd (show nt_in (4 : Int32) 6 = true by decide), q_lt, show (4 : Int32).toNatClampNeg = 4 by decide, st_slot _ _ (show b ≠ 8 ∨ 8 ≠ 3 by omega), st_slot _ _ (show b ≠ 8 ∨ 8 ≠ 2 by omega), st_slot _ _ (show b ≠ 8 ∨ 8 ≠ 1 by omega), st_slot _ _ (show b ≠ 8 ∨ 8 ≠ 0 by omega), p8, q_gd ip, st_slot _ _ (show b + 3 ≠ 8 ∨ p ≠ 4 by omega), st_slot _ _ (show b + 3 ≠ 8 ∨ p ≠ 3 by omega), st_slot _ _ (show b + 3 ≠ 8 ∨ p ≠ 2 by omega), st_slot _ _ (show b + 3 ≠ 8 ∨ p ≠ 1 by omega), st_slot _ _ (show b + 3 ≠ 8 ∨ p ≠ 0 by omega), q3, (bt _).1, q_b1, q_gd (show nt_in (5 : Int32) 6 = true by decide), q_lt, show (5 : Int32).toNatClampNeg = 5 by decide, ← hG, u1, q_b2]
  · rw [u2 k' h9, hGk k' h8]
  · unfold fMo_says
    rw [q_gd ip, q_lt, cp, hag, q_gd ip, st_slot r (nI a) (show 8 ≠ 0 ∨ p ≠ 19 by omega), hag, c2, q_b1, q_lt, q_gd ip, st_slot _ _ (show 10 ≠ 0 ∨ p ≠ 20 by omega), st_slot _ _ (show 10 ≠ 0 ∨ p ≠ 19 by omega), hhd, (bx _).2, q_b1, q_lt, q_lt, q_lt, st_slot _ _ (show 0 ≠ 0 ∨ 18 ≠ 22 by omega), st_slot _ _ (show 0 ≠ 0 ∨ 18 ≠ 21 by omega), st_slot _ _ (show 0 ≠ 0 ∨ 18 ≠ 20 by omega), st_slot _ _ (show 0 ≠ 0 ∨ 18 ≠ 19 by omega), q_gd ip, st_slot _ _ (show 9 ≠ 0 ∨ p ≠ 23 by omega), st_slot _ _ (show 9 ≠ 0 ∨ p ≠ 22 by omega), st_slot _ _ (show 9 ≠ 0 ∨ p ≠ 21 by omega), st_slot _ _ (show 9 ≠ 0 ∨ p ≠ 20 by omega), st_slot _ _ (show 9 ≠ 0 ∨ p ≠ 19 by omega), htl, (bt _).2, q_b1, q_lt, ← hR, hR4, l9, q_b2]
  · rw [l10 k' j' (by omega)]
    by_cases h0 : k' = 0
    · rw [hR, st_slot _ _ (by omega), st_slot _ _ (by omega), st_slot _ _ (by omega), st_slot _ _ (by omega), st_slot _ _ (by omega), st_slot _ _ (by omega)]
    · rw [hRk k' h0]
theorem qS_PJ {m : Nat} {g r : nt_T} (h : nt_qS m g r) : nt_qS m g (PJ r) := by
  unfold nt_qS at h ⊢
  rw [PJ_0 r (by omega), PJ_r r (k := 4) (by omega), PJ_r r (k := 5) (by omega), PJ_r r (k := 6) (by omega), PJ_r r (k := 7) (by omega)]
  exact h
theorem qT_PJ {nr : Nat} {ln : Nat → Nat} {g r : nt_T} (h : nt_qT nr ln g r) : nt_qT nr ln g (PJ r) :=
  qT_F rfl (fun _ _ => rfl) (PJ_r r (by omega)) (PJ_r r (by omega)) (PJ_0 r (by omega)) (PJ_0 r (by omega)) h
theorem qP_PJ {b n : Nat} {g r : nt_T} (h : nt_qP b n g r) : nt_qP b n g (PJ r) := by
  unfold nt_qP nt_q1 at h ⊢
  rw [PJ_0 r (j := 17) (by omega), PJ_0 r (j := 18) (by omega), PJ_0 r (j := 4) (by omega), PJ_r r (k := 8) (by omega), PJ_r r (k := 9) (by omega), PJ_r r (k := 10) (by omega), PJ_r r (k := 11) (by omega), PJ_r r (k := 12) (by omega)]
  exact h
theorem q_valC {b n m nr : Nat} {ln : Nat → Nat} {g r : nt_T} (hb : b = 14 ∨ b = 21) (hS : nt_qS m g r) (hT : nt_qT nr ln g r) (hP : nt_qP b n g r) {k p s c : Nat} (hk : k < 3) (hp : p < n) (hs : s < m) (hc : c < 10) : ∃ g', fPp_value nr ln b (nI k) (nI p) (nI s) (nI c) g = some (VAL r k p s c, g') ∧ nt_vE g g' := by
  obtain ⟨v, g', r', e1, e2, e3, e4⟩ := q_valB hb (qS_PJ hS) (qT_PJ hT) (qP_PJ hP) hk hp hs hc
  exact ⟨g', by rw [VAL_eq e3]; exact e1, e2⟩
theorem q_valM14 {n m nr : Nat} {ln : Nat → Nat} {g r : nt_T} (hS : nt_qS m g r) (hT : nt_qT nr ln g r) (hP : nt_qP 14 n g r) {k p s c : Nat} (hk : k < 3) (hp : p < n) (hs : s < m) (hc : c < 10) : ∃ r', fMo_says (nI k) (nI p) (nI s) (nI c) r = some (VAL r k p s c, r') ∧ nt_uE r r' := by
  obtain ⟨v, g', r', e1, e2, e3, e4⟩ := q_valB (Or.inl rfl) (qS_PJ hS) (qT_PJ hT) (qP_PJ hP) hk hp hs hc
  obtain ⟨w, g2, r2, f1, f2, f3, f4⟩ := q_valB (Or.inl rfl) hS hT hP hk hp hs hc
  rw [e1] at f1
  have hv : v = w := (Prod.mk.inj (Option.some.inj f1)).1
  refine ⟨r2, ?_, f4⟩
  rw [VAL_eq e3, hv]
  exact f3
theorem q_valM {b n m nr : Nat} {ln : Nat → Nat} {g r : nt_T} (hS : nt_qS m g r) (hT : nt_qT nr ln g r) (hP : nt_qP b n g r) {k p s c : Nat} (hk : k < 3) (hp : p < n) (hs : s < m) (hc : c < 10) : ∃ r', fMo_says (nI k) (nI p) (nI s) (nI c) r = some (VAL r k p s c, r') ∧ nt_uE r r' := by
  obtain ⟨G, hG⟩ : ∃ G : nt_T, G = fun k => if 14 ≤ k ∧ k ≤ 20 then g (b + (k - 14)) else g k := ⟨_, rfl⟩
  have e : ∀ k, k < 14 ∨ 20 < k → G k = g k := fun k hk => by rw [hG]; exact if_neg (by omega)
  have e0 : G 14 = g b := by rw [hG]; rfl
  have e1 : G 15 = g (b + 1) := by rw [hG]; rfl
  have e2 : G 16 = g (b + 2) := by rw [hG]; rfl
  have e3 : G 17 = g (b + 3) := by rw [hG]; rfl
  have e4 : G 18 = g (b + 4) := by rw [hG]; rfl
  have e5 : G 19 = g (b + 5) := by rw [hG]; rfl
  refine q_valM14 (g := G) (n := n) (m := m) (nr := nr) (ln := ln) ?_ ?_ ?_ hk hp hs hc
  · unfold nt_qS at hS ⊢
    rw [e 1 (by omega), e 2 (by omega), e 3 (by omega), e 4 (by omega), e 5 (by omega)]
    exact hS
  · exact qT_F (by rw [e 6 (by omega)]) (fun k hk => e k (by omega)) rfl rfl rfl rfl hT
  · unfold nt_qP nt_q1 at hP ⊢
    rw [e0, show 14 + 1 = 15 from rfl, show 14 + 2 = 16 from rfl, show 14 + 3 = 17 from rfl, show 14 + 4 = 18 from rfl, show 14 + 5 = 19 from rfl, e1, e2, e3, e4, e5]
    exact hP
