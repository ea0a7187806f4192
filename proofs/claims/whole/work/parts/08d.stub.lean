def nt_qT (nr : Nat) (ln : Nat → Nat) (g r : nt_T) : Prop := g 6 3 = nI nr ∧ r 0 3 = nI nr
theorem qT_F {nr : Nat} {ln : Nat → Nat} {g r g' r' : nt_T} (h6 : g' 6 3 = g 6 3) (h47 : ∀ k, 47 ≤ k → g' k = g k) (h1 : r' 1 = r 1) (h2 : r' 2 = r 2) (h3 : r' 0 3 = r 0 3) (h4 : r' 0 4 = r 0 4) (h : nt_qT nr ln g r) : nt_qT nr ln g' r' := by
  sorry
theorem qT_E {nr : Nat} {ln : Nat → Nat} {g r g' r' : nt_T} (hc : nt_cE g g') (hm : nt_mE r r') (h : nt_qT nr ln g r) : nt_qT nr ln g' r' := by
  sorry
noncomputable def VAL (r : nt_T) (k p s c : Nat) : Int32 := r 0 0
theorem VAL_F {r r' : nt_T} (h0 : ∀ j, j < 19 → r' 0 j = r 0 j) (hr : ∀ k, 1 ≤ k → k ≤ 12 → r' k = r k) : VAL r' = VAL r := by
  sorry
theorem VAL_E {r r' : nt_T} (h : nt_mE r r') : VAL r' = VAL r := VAL_F (fun j hj => h 0 j (by unfold nt_mS; omega)) (fun k h1 h2 => mE_row h (by omega))
theorem q_valC {b n m nr : Nat} {ln : Nat → Nat} {g r : nt_T} (hb : b = 14 ∨ b = 21) (hS : nt_qS m g r) (hT : nt_qT nr ln g r) (hP : nt_qP b n g r) {k p s c : Nat} (hk : k < 3) (hp : p < n) (hs : s < m) (hc : c < 10) : ∃ g', fPp_value nr ln b (nI k) (nI p) (nI s) (nI c) g = some (VAL r k p s c, g') ∧ nt_vE g g' := by
  sorry
theorem q_valM {b n m nr : Nat} {ln : Nat → Nat} {g r : nt_T} (hS : nt_qS m g r) (hT : nt_qT nr ln g r) (hP : nt_qP b n g r) {k p s c : Nat} (hk : k < 3) (hp : p < n) (hs : s < m) (hc : c < 10) : ∃ r', fMo_says (nI k) (nI p) (nI s) (nI c) r = some (VAL r k p s c, r') ∧ nt_uE r r' := by
  sorry
theorem qT_c {nr : Nat} {ln : Nat → Nat} {g r : nt_T} (h : nt_qT nr ln g r) : g 6 3 = nI nr ∧ r 0 3 = nI nr := by
  sorry
theorem qT_n {nr : Nat} {ln : Nat → Nat} {g r : nt_T} (h : nt_qT nr ln g r) : nr ≤ 6 := by
  sorry
theorem qT_R {nr : Nat} {ln : Nat → Nat} {g r g' r' : nt_T} (h6 : g' 6 3 = g 6 3) (h47 : ∀ k, 47 ≤ k → g' k = g k) (h1 : r' 1 = r 1) (h2 : r' 2 = r 2) (h3 : r' 0 3 = r 0 3) (h4 : ∃ t, t < nr ∧ r' 0 4 = nI t) (h : nt_qT nr ln g r) : nt_qT nr ln g' r' := by
  sorry
theorem qT_r {nr : Nat} {ln : Nat → Nat} {g r : nt_T} (h : nt_qT nr ln g r) : ∃ t, t < nr ∧ r 0 4 = nI t := by
  sorry
