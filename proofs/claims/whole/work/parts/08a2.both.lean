/-! ===== loops side by side ===== -/
/-- two loops side by side -/
theorem nt_inv2 {S X T Y : Type} {b1 : S → Option (S ⊕ X)} {b2 : T → Option (T ⊕ Y)} (I : Nat → S → T → Prop) (P : X → Y → Prop) (n : Nat)
    (hs : ∀ k s t, k < n → I k s t → (∃ s' t', b1 s = some (.inl s') ∧ b2 t = some (.inl t') ∧ I (k + 1) s' t') ∨ (∃ x y, b1 s = some (.inr x) ∧ b2 t = some (.inr y) ∧ P x y))
    (he : ∀ s t, I n s t → ∃ x y, b1 s = some (.inr x) ∧ b2 t = some (.inr y) ∧ P x y) :
    ∀ (d k : Nat) (s : S) (t : T), k + d = n → I k s t → ∀ fu, d < fu → ∃ x y, nt_it b1 fu s = some x ∧ nt_it b2 fu t = some y ∧ P x y := by
  intro d
  induction d with
  | zero =>
    intro k s t hk hI fu hfu
    obtain ⟨f, rfl⟩ : ∃ f, fu = f + 1 := ⟨fu - 1, by omega⟩
    obtain rfl : k = n := by omega
    obtain ⟨x, y, h1, h2, h3⟩ := he s t hI
    exact ⟨x, y, by rw [nt_it, h1], by rw [nt_it, h2], h3⟩
  | succ d ih =>
    intro k s t hk hI fu hfu
    obtain ⟨f, rfl⟩ : ∃ f, fu = f + 1 := ⟨fu - 1, by omega⟩
    rcases hs k s t (by omega) hI with ⟨s', t', h1, h2, h3⟩ | ⟨x, y, h1, h2, h3⟩
    · obtain ⟨x, y, h4, h5, h6⟩ := ih (k + 1) s' t' (by omega) h3 f (by omega)
      exact ⟨x, y, by rw [nt_it, h1]; exact h4, by rw [nt_it, h2]; exact h5, h6⟩
    · exact ⟨x, y, by rw [nt_it, h1], by rw [nt_it, h2], h3⟩
theorem q_both {S X T Y : Type} {b1 : S → Option (S ⊕ X)} {b2 : T → Option (T ⊕ Y)} (I : Nat → S → T → Prop) (P : X → Y → Prop) (n : Nat) (hn : n < 5000) {s : S} {t : T} (h0 : I 0 s t)
    (hs : ∀ k s t, k < n → I k s t → (∃ s' t', b1 s = some (.inl s') ∧ b2 t = some (.inl t') ∧ I (k + 1) s' t') ∨ (∃ x y, b1 s = some (.inr x) ∧ b2 t = some (.inr y) ∧ P x y))
    (he : ∀ s t, I n s t → ∃ x y, b1 s = some (.inr x) ∧ b2 t = some (.inr y) ∧ P x y) : ∃ x y, nt_it b1 nt_fu s = some x ∧ nt_it b2 nt_fu t = some y ∧ P x y :=
  nt_inv2 I P n hs he n 0 s t (by omega) h0 nt_fu (by unfold nt_fu; omega)
theorem nI_m1 {p : Nat} (hp : p < 2 ^ 31) : ¬ nI p = -1 := by
  intro e
  have h1 := nI_pos hp
  rw [e] at h1
  exact h1 (by decide)
