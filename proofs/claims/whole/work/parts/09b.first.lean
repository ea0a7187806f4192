/-! ===== the two at first ===== -/
def FA : nt_T := (fRd_putFirstText nt_g0).getD nt_g0
def FM : nt_T := (fMo_init nt_gM0).getD nt_g0
theorem FA_ok : (fRd_putFirstText nt_g0).isSome = true := by decide +kernel
theorem FM_ok : (fMo_init nt_gM0).isSome = true := by decide +kernel
theorem FA_fine : (fRd_reads FA).map (fun x => x.1) = some 1 := by decide +kernel
theorem FA_v : FA 10 1 = 64 ∧ FA 1 4 = 0 ∧ FA 6 3 = 0 := by decide +kernel
theorem FM_v : FM 0 3 = 1 ∧ FM 0 4 = 0 ∧ FM 0 6 = 0 ∧ FM 0 11 = 0 ∧ FM 0 17 = 0 ∧ FM 0 18 = 0 ∧ FM 0 44 = -1 ∧ FM 2 0 = 64 := by decide +kernel
theorem FM_21 : ∀ c, c < 4 → FM 21 c = 0 := by decide +kernel
theorem FAM : ∀ j, j < 64 → FA 11 j = FM 1 (160 * 0 + j) ∧ (FM 1 (160 * 0 + j)).toNatClampNeg < 256 ∧ FM 1 (160 * 0 + j) = nI (FM 1 (160 * 0 + j)).toNatClampNeg := by decide +kernel
theorem FA_some : fRd_putFirstText nt_g0 = some FA := by
  have h := FA_ok
  unfold FA
  cases e : fRd_putFirstText nt_g0 with
  | none => rw [e] at h; exact absurd h (by decide)
  | some x => rfl
theorem FM_some : fMo_init nt_gM0 = some FM := by
  have h := FM_ok
  unfold FM
  cases e : fMo_init nt_gM0 with
  | none => rw [e] at h; exact absurd h (by decide)
  | some x => rfl
theorem gF_44 (gc : nt_T) : ∀ c, c < 4 → nt_gF gc 44 c = -1 := fun c hc => by
  rcases (show c = 0 ∨ c = 1 ∨ c = 2 ∨ c = 3 by omega) with rfl | rfl | rfl | rfl <;> rfl
theorem gF_lo (gc : nt_T) {k : Nat} (h0 : k ≠ 0) (h : k < 14) : nt_gF gc k = gc k := by
  unfold nt_gF
  rw [if_neg h0, if_pos h]
theorem st_init : ∃ ga gb gc gm : nt_T, fRd_putFirstText nt_g0 = some ga ∧ fRd_reads ga = some (1, gb) ∧ ¬ gb 10 7 < 0 ∧ (gb 10 7).toNatClampNeg ≤ 160 ∧ gb 6 3 = 0 ∧ fRd_empty (nt_st (nt_pg14 gb (gb 13 (Int32.toNatClampNeg 1)) (gb 13 (Int32.toNatClampNeg 2)) (va_cpy (gb 12) (fun _ => 0) (Int32.toNatClampNeg 0) (Int32.toNatClampNeg 0) (gb 10 7).toNatClampNeg)) 6 3 (gb 6 3 + 1)) = some gc ∧ fMo_init nt_gM0 = some gm ∧ nt_Rel 1 (fun _ => (gb 10 7).toNatClampNeg) (nt_gF gc) gm := by
  obtain ⟨m3, m4, m6, m11, m17, m18, m44, m2⟩ := FM_v
  obtain ⟨v1, v2, v3⟩ := FA_v
  have hby : ∀ j, j < 64 → FA 11 j = FM 1 (160 * 0 + j) ∧ ∃ c, c < 256 ∧ FM 1 (160 * 0 + j) = nI c := fun j hj => ⟨(FAM j hj).1, _, (FAM j hj).2.1, (FAM j hj).2.2⟩
  obtain ⟨b, gb, v, r', f1, f2, f3, f4, f5⟩ := reads_both (N := 64) (t := 0) (nm := fun j => FM 0 (19 + j)) (g := FA) (r := FM) 0 (by omega) (by omega) v1 m2 hby (fun _ _ => rfl)
  have hf := FA_fine
  rw [f1] at hf
  rcases f5 with ⟨rfl, z, n0, n1, n2, w0, w1, w2, l1, l2, _⟩ | ⟨rfl, _⟩
  · have hL : (gb 10 7).toNatClampNeg = n0 + n1 + n2 := by rw [l2, nI_clamp (by omega)]
    have h63 : gb 6 3 = 0 := (f4 6 3 (by omega) (by omega) (by omega)).trans v3
    have h14 : gb 1 4 = 0 := (f4 1 4 (by omega) (by omega) (by omega)).trans v2
    obtain ⟨P, hP⟩ : ∃ P, P = nt_pg14 gb (gb 13 (Int32.toNatClampNeg 1)) (gb 13 (Int32.toNatClampNeg 2)) (va_cpy (gb 12) (fun _ => 0) (Int32.toNatClampNeg 0) (Int32.toNatClampNeg 0) (gb 10 7).toNatClampNeg) := ⟨_, rfl⟩
    have Pk : ∀ k, k < 14 → P k = gb k := fun k hk => by
      rw [hP]
      unfold nt_pg14
      rw [if_neg (by omega), if_neg (by omega)]
    have P14 : P 14 = fun j => if j = 1 then gb 13 1 else if j = 2 then gb 13 2 else 0 := by
      rw [hP]
      unfold nt_pg14
      rw [if_pos rfl]
      rfl
    have P15 : ∀ j, j < n0 + n1 + n2 → P 15 j = gb 12 j := fun j hj => by
      rw [hP]
      unfold nt_pg14
      rw [if_neg (by omega), if_pos rfl, hL, show Int32.toNatClampNeg 0 = 0 by decide, q_cpy0, if_pos hj]
    refine ⟨FA, gb, nt_st (nt_st P 6 3 (gb 6 3 + 1)) 10 1 0, FM, FA_some, f1, ?_, by rw [hL]; exact l1, h63, by rw [← hP]; rfl, FM_some, ?_⟩
    · rw [l2]; exact nI_pos (by omega)
    · refine ⟨0, 0, by omega, ⟨⟨by omega, ?_, m11, fun s hs => absurd hs (Nat.not_lt_zero s)⟩, ⟨by omega, by omega, ?_, m3, ⟨0, by omega, m4⟩, fun i hi => ?_⟩, ⟨by omega, rfl, m17, m18.symm, m4.symm, ⟨0, by omega, m18⟩, fun p hp => absurd hp (Nat.not_lt_zero p)⟩⟩, ⟨0, by omega, ?_, m6, fun i hi => absurd hi (Nat.not_lt_zero i)⟩, Or.inl ⟨rfl, m44⟩, fun c hc => Or.inl ⟨gF_44 _ c hc, FM_21 c hc⟩⟩
      · rw [gF_lo _ (by omega) (by omega), st_slot _ _ (by omega), st_slot _ _ (by omega), Pk 1 (by omega)]
        exact h14
      · rw [gF_lo _ (by omega) (by omega), st_slot _ _ (by omega), st_eq, h63]
        rfl
      · have i0 : i = 0 := by omega
        subst i0
        show nt_TX 0 (gb 10 7).toNatClampNeg (nt_st (nt_st P 6 3 (gb 6 3 + 1)) 10 1 0 14) (nt_st (nt_st P 6 3 (gb 6 3 + 1)) 10 1 0 15) (FM 1) (FM 2)
        rw [hL, st_row _ _ _ (by omega), st_row _ _ _ (by omega), st_row _ _ _ (by omega), st_row _ _ _ (by omega), P14]
        exact ⟨l1, 64, FA, gb, by omega, m2, v1, hby, f1, l2, rfl, rfl, P15⟩
      · rw [gF_lo _ (by omega) (by omega), st_eq]
        rfl
  · exact absurd hf (by
      show ¬ some (bI false) = some 1
      decide)
