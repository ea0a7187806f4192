/-! ===== a word, a number, a sign ===== -/
def wordsL : List (List Nat) := [[97, 103, 101], [119, 111, 114, 116, 104], [104, 101, 97, 114, 100], [109, 97, 110, 121], [110, 105, 103, 104, 116], [111, 119, 110], [111, 114], [97, 110, 100], [110, 111, 116], [108, 105, 107, 101, 115], [112, 97, 121, 115], [116, 105, 114, 101, 115]]
def WL (w : Nat) : Nat := (wordsL.getD w []).length
def WC (w o : Nat) : Nat := (wordsL.getD w []).getD o 0
def PW : List (Nat × Nat) := wordsL.zipIdx.flatMap (fun x => (List.range (x.1.length + 1)).map (fun o => (x.2, o)))
def WI (i : Nat) : Nat := (PW.getD i (12, 0)).1
def OF (i : Nat) : Nat := (PW.getD i (12, 0)).2
theorem pc_word : ∀ i, i < 59 → fJl_charAt_3b067 1 (nI i) nt_g0 = some (if OF i = WL (WI i) then 32 else nI (WC (WI i) (OF i))) ∧ WI i < 12 ∧ OF i ≤ WL (WI i) ∧ WL (WI i) < 9 ∧ (if OF i = WL (WI i) then WI (i + 1) = WI i + 1 ∧ OF (i + 1) = 0 else WI (i + 1) = WI i ∧ OF (i + 1) = OF i + 1) ∧ WC (WI i) (OF i) < 123 ∧ decide (narrow .char (.int (if OF i = WL (WI i) then 32 else nI (WC (WI i) (OF i)))) = .int (if OF i = WL (WI i) then 32 else nI (WC (WI i) (OF i)))) = true := by decide +kernel
theorem pc_let : ∀ w, w < 12 → WL w < 9 ∧ ∀ o, o < WL w → 97 ≤ WC w o ∧ WC w o < 123 := by decide +kernel
theorem pc_uni : ∀ w, w < 12 → ∀ v, v < 12 → WL w = WL v → (∀ o, o < WL w → WC w o = WC v o) → w = v := by decide +kernel
theorem q_len1 (g : nt_T) : fJs_length_8abf5 1 g = some (nI 59) := by
  unfold fJs_length_8abf5 fJs_coder_7d493
  rw [if_neg (by decide), q_b1]
  rfl
theorem q_char1 {i : Nat} (hi : i < 59) (g : nt_T) : fJs_charAt_5068e 1 (nI i) g = some (if OF i = WL (WI i) then 32 else nI (WC (WI i) (OF i)), g) := by
  obtain ⟨h, -, -, -, -, -, h7⟩ := pc_word i hi
  have h : fJl_charAt_3b067 1 (nI i) g = some (if OF i = WL (WI i) then 32 else nI (WC (WI i) (OF i))) := h
  unfold fJs_charAt_5068e fJs_isLatin1_aae02
  have z1 : ¬ (1 : Int32) = 0 := by decide
  rw [if_neg z1, if_pos rfl, q_b1, if_neg z1, h, q_b1, q_gd h7]
def WMt (t ta b : Nat) (r : nt_T) (w : Nat) : Prop := b = ta + WL w ∧ ∀ o, o < WL w → r 1 (160 * t + (ta + o)) = nI (WC w o)
theorem WMt_uni {t ta b : Nat} {r : nt_T} {w v : Nat} (hw : w < 12) (hv : v < 12) (h1 : WMt t ta b r w) (h2 : WMt t ta b r v) : w = v := by
  have hl : WL w = WL v := by
    have a := h1.1
    have b := h2.1
    omega
  refine pc_uni w hw v hv hl (fun o ho => ?_)
  have a := h1.2 o ho
  rw [h2.2 o (by omega)] at a
  have l1 := (pc_let w hw).2 o ho
  have l2 := (pc_let v hv).2 o (by omega)
  exact ((nI_eq (by omega) (by omega)).mp a).symm
/-- the class finds the word -/
theorem q_find {N t ta b : Nat} {g r : nt_T} (h : nt_in0 N t g r) (hta : g 10 4 = nI ta) (hb : g 10 2 = nI b) (hab : ta ≤ b) (hbN : b ≤ N) : ∃ k, jRd_word_39 g = some (nI k, g) ∧ (k < 12 ∨ k = 22) ∧ ∀ w, w < 12 → (k = w ↔ WMt t ta b r w) := by
  have hN := h.1
  have hL : g 10 2 - g 10 4 = nI (b - ta) := by rw [hta, hb, pk_sub hab]
  unfold jRd_word_39
  have H : ∃ y, nt_it (fun z => bRd_word_45 z.1 z.2.1 z.2.2.1 z.2.2.2) nt_fu ((0 : Int32), (0 : Int32), (0 : Int32), g) = some y ∧ ((∃ w, w < 12 ∧ y = .inl (nI w, g) ∧ WMt t ta b r w) ∨ (y = .inr g ∧ ∀ w, w < 12 → ¬ WMt t ta b r w)) := by
    refine q_loop (fun i st => ∃ m : Int32, st = (nI (WI i), m, nI i, g) ∧ (OF i ≤ b - ta ∧ m = nI (OF i) ∧ (∀ o, o < OF i → r 1 (160 * t + (ta + o)) = nI (WC (WI i) o)) ∨ m = -1 ∧ ¬ WMt t ta b r (WI i)) ∧ ∀ w, w < WI i → ¬ WMt t ta b r w) _ 59 (by omega) ⟨0, rfl, Or.inl ⟨Nat.zero_le _, rfl, fun o ho => absurd ho (Nat.not_lt_zero o)⟩, fun w hw => absurd hw (Nat.not_lt_zero w)⟩ ?_ ?_
    · intro i st hi hI
      obtain ⟨m, rfl, hm, hno⟩ := hI
      obtain ⟨-, f2, f3, f4, f5, f6, -⟩ := pc_word i hi
      show (∃ s', bRd_word_45 (nI (WI i)) m (nI i) g = some (.inl s') ∧ _) ∨ ∃ y, bRd_word_45 (nI (WI i)) m (nI i) g = some (.inr y) ∧ _
      unfold bRd_word_45
      rw [q_len1, q_b1, if_neg (nI_ge hi (by omega)), q_char1 hi, q_b2, hL]
      by_cases c1 : OF i = WL (WI i)
      · rw [if_pos c1] at f5
        rw [if_pos c1, if_pos rfl]
        by_cases c2 : m = nI (b - ta)
        · rw [if_pos c2]
          right
          refine ⟨_, rfl, Or.inl ⟨WI i, f2, rfl, ?_⟩⟩
          rcases hm with ⟨m1, m2, m3⟩ | ⟨m1, -⟩
          · rw [c2] at m2
            have := (nI_eq (by omega) (by omega)).mp m2
            exact ⟨by omega, fun o ho => m3 o (by omega)⟩
          · rw [c2] at m1
            exact absurd m1 (nI_m1 (by omega))
        · rw [if_neg c2, q_lt, q_lt, nI_1, nI_1]
          left
          refine ⟨_, rfl, 0, by rw [f5.1], Or.inl ⟨by rw [f5.2]; exact Nat.zero_le _, by rw [f5.2]; rfl, fun o ho => ?_⟩, fun w hw => ?_⟩
          · rw [f5.2] at ho
            exact absurd ho (Nat.not_lt_zero o)
          · rw [f5.1] at hw
            by_cases e : w = WI i
            · subst e
              intro hW
              rcases hm with ⟨m1, m2, m3⟩ | ⟨-, m2⟩
              · have := hW.1
                exact c2 (by rw [m2]; congr 1; omega)
              · exact m2 hW
            · exact hno w (by omega)
      · rw [if_neg c1] at f5
        rw [if_neg c1]
        have c32 : ¬ nI (WC (WI i) (OF i)) = (32 : Int32) := by
          intro q
          have l := (pc_let (WI i) f2).2 (OF i) (by omega)
          have := (nI_eq (a := WC (WI i) (OF i)) (b := 32) (by omega) (by omega)).mp q
          omega
        rw [if_neg c32]
        left
        rcases hm with ⟨m1, m2, m3⟩ | ⟨m1, m2⟩
        · rw [m2, if_neg (nI_m1 (by omega))]
          by_cases c2 : b - ta ≤ OF i
          · rw [if_pos (nI_le c2 (by omega)), q_lt, nI_1]
            refine ⟨_, rfl, -1, by rw [f5.1], Or.inr ⟨rfl, fun hW => ?_⟩, by rw [f5.1]; exact hno⟩
            rw [f5.1] at hW
            have := hW.1
            omega
          · rw [if_neg (fun q => c2 ((nI_leI (by omega) (by omega)).mp q)), hta, nI_add, q_gd (q_in (show ta + OF i < 160 by omega) (by omega)), nI_clamp (show ta + OF i < 2 ^ 31 by omega), (h.2.2.2.2.2 (ta + OF i) (by omega)).1]
            by_cases c3 : r 1 (160 * t + (ta + OF i)) = nI (WC (WI i) (OF i))
            · rw [if_pos c3, q_lt, q_lt, nI_1, nI_1]
              refine ⟨_, rfl, _, by rw [f5.1], Or.inl ⟨by rw [f5.2]; omega, by rw [f5.2], fun o ho => ?_⟩, by rw [f5.1]; exact hno⟩
              rw [f5.2] at ho
              rw [f5.1]
              by_cases e : o = OF i
              · rw [e]; exact c3
              · exact m3 o (by omega)
            · rw [if_neg c3, q_lt, nI_1]
              refine ⟨_, rfl, -1, by rw [f5.1], Or.inr ⟨rfl, fun hW => ?_⟩, by rw [f5.1]; exact hno⟩
              rw [f5.1] at hW
              exact c3 (hW.2 (OF i) (by omega))
        · rw [m1, if_pos rfl, q_lt, nI_1]
          exact ⟨_, rfl, -1, by rw [f5.1], Or.inr ⟨rfl, by rw [f5.1]; exact m2⟩, by rw [f5.1]; exact hno⟩
    · intro st hI
      obtain ⟨m, rfl, hm, hno⟩ := hI
      refine ⟨.inr g, ?_, Or.inr ⟨rfl, fun w hw => hno w (by rw [show WI 59 = 12 by decide +kernel]; exact hw)⟩⟩
      show bRd_word_45 (nI (WI 59)) m (nI 59) g = _
      unfold bRd_word_45
      rw [q_len1, q_b1, if_pos (nI_le (Nat.le_refl 59) (by omega))]
  obtain ⟨y, e, hy⟩ := H
  rw [e, q_b1]
  rcases hy with ⟨w, hw, rfl, hW⟩ | ⟨rfl, hno⟩
  · refine ⟨w, rfl, Or.inl hw, fun v hv => ⟨fun q => by rw [← q]; exact hW, fun hV => WMt_uni hw hv hW hV⟩⟩
  · refine ⟨22, rfl, Or.inr rfl, fun v hv => ⟨fun q => by omega, fun hV => absurd hV (hno v hv)⟩⟩
