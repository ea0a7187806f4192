def nt_Rel (nr : Nat) (ln : Nat → Nat) (g r : nt_T) : Prop := nr = 1 ∧ g = r
theorem st_story {nr : Nat} {ln : Nat → Nat} {g r : nt_T} (h : nt_Rel nr ln g r) (x1 x2 x3 : Int32) : ∃ (v : Int32) (ga : nt_T) (gb : nt_T), fNt_story x1 x2 x3 g = some (v, ga) ∧ fMo_story x1 x2 x3 r = some (v, gb) ∧ nt_Rel nr ln ga gb := by
  sorry
theorem st_twin {nr : Nat} {ln : Nat → Nat} {g r : nt_T} (h : nt_Rel nr ln g r) (x1 x2 : Int32) : ∃ (v : Int32) (ga : nt_T) (gb : nt_T), fNt_twin x1 x2 g = some (v, ga) ∧ fMo_twin x1 x2 r = some (v, gb) ∧ nt_Rel nr ln ga gb := by
  sorry
theorem st_person {nr : Nat} {ln : Nat → Nat} {g r : nt_T} (h : nt_Rel nr ln g r) (x1 x2 : Int32) : ∃ (v : Int32) (ga : nt_T) (gb : nt_T), fNt_person x1 x2 g = some (v, ga) ∧ fMo_person x1 x2 r = some (v, gb) ∧ nt_Rel nr ln ga gb := by
  sorry
theorem st_set {nr : Nat} {ln : Nat → Nat} {g r : nt_T} (h : nt_Rel nr ln g r) (x1 x2 x3 : Int32) : ∃ (v : Int32) (ga : nt_T) (gb : nt_T), fNt_set x1 x2 x3 g = some (v, ga) ∧ fMo_set x1 x2 x3 r = some (v, gb) ∧ nt_Rel nr ln ga gb := by
  sorry
theorem st_hears {nr : Nat} {ln : Nat → Nat} {g r : nt_T} (h : nt_Rel nr ln g r) (x1 x2 x3 : Int32) : ∃ (v : Int32) (ga : nt_T) (gb : nt_T), fNt_hears x1 x2 x3 g = some (v, ga) ∧ fMo_hears x1 x2 x3 r = some (v, gb) ∧ nt_Rel nr ln ga gb := by
  sorry
theorem st_told {nr : Nat} {ln : Nat → Nat} {g r : nt_T} (h : nt_Rel nr ln g r) (x1 x2 x3 : Int32) : ∃ (v : Int32), fNt_told x1 x2 x3 g = some v ∧ fMo_told x1 x2 x3 r = some v ∧ nt_Rel nr ln g r := by
  sorry
theorem st_one {nr : Nat} {ln : Nat → Nat} {g r : nt_T} (h : nt_Rel nr ln g r) (x1 x2 : Int32) : ∃ (v : Int32), fNt_one x1 x2 g = some v ∧ fMo_one x1 x2 r = some v ∧ nt_Rel nr ln g r := by
  sorry
theorem st_feed {nr : Nat} {ln : Nat → Nat} {g r : nt_T} (h : nt_Rel nr ln g r) (x1 : Int32) : ∃ (v : Int32) (ga : nt_T) (gb : nt_T), fNt_feed x1 g = some (v, ga) ∧ fMo_feed x1 r = some (v, gb) ∧ nt_Rel nr ln ga gb := by
  sorry
theorem st_force {nr : Nat} {ln : Nat → Nat} {g r : nt_T} (h : nt_Rel nr ln g r) (x1 : Int32) : ∃ (v : Int32) (ga : nt_T) (gb : nt_T), fNt_force x1 g = some (v, ga) ∧ fMo_force x1 r = some (v, gb) ∧ nt_Rel nr ln ga gb := by
  sorry
theorem st_may {nr : Nat} {ln : Nat → Nat} {g r : nt_T} (h : nt_Rel nr ln g r) (x1 : Int32) : ∃ (v : Int32) (ga : nt_T) (gb : nt_T), fNt_may nr ln x1 g = some (v, ga) ∧ fMo_may x1 r = some (v, gb) ∧ nt_Rel nr ln ga gb := by
  sorry
theorem st_by {nr : Nat} {ln : Nat → Nat} {g r : nt_T} (h : nt_Rel nr ln g r) (x1 x2 : Int32) : ∃ (v : Int32) (ga : nt_T) (gb : nt_T), fNt_by nr ln x1 x2 g = some (v, ga) ∧ fMo_by x1 x2 r = some (v, gb) ∧ nt_Rel nr ln ga gb := by
  sorry
theorem st_worth {nr : Nat} {ln : Nat → Nat} {g r : nt_T} (h : nt_Rel nr ln g r) (x1 x2 : Int32) : ∃ (v : Int64) (ga : nt_T) (gb : nt_T), fNt_worth nr ln x1 x2 g = some (v, ga) ∧ fMo_worth x1 x2 r = some (v, gb) ∧ nt_Rel nr ln ga gb := by
  sorry
theorem st_most {nr : Nat} {ln : Nat → Nat} {g r : nt_T} (h : nt_Rel nr ln g r) (x1 x2 : Int32) : ∃ (v : Int64) (ga : nt_T) (gb : nt_T), fNt_most nr ln x1 x2 g = some (v, ga) ∧ fMo_most x1 x2 r = some (v, gb) ∧ nt_Rel nr ln ga gb := by
  sorry
theorem st_tell {nr : Nat} {ln : Nat → Nat} {g r : nt_T} (h : nt_Rel nr ln g r) (x1 x2 : Int32) : ∃ (v : Int32) (ga : nt_T) (gb : nt_T), fNt_tell nr ln x1 x2 g = some (v, ga) ∧ fMo_tell x1 x2 r = some (v, gb) ∧ nt_Rel nr ln ga gb := by
  sorry
theorem st_pass {nr : Nat} {ln : Nat → Nat} {g r : nt_T} (h : nt_Rel nr ln g r) : ∃ (v : Int32) (ga : nt_T) (gb : nt_T), fNt_pass  g = some (v, ga) ∧ fMo_pass  r = some (v, gb) ∧ nt_Rel nr ln ga gb := by
  sorry
theorem st_goesOn {nr : Nat} {ln : Nat → Nat} {g r : nt_T} (h : nt_Rel nr ln g r) (x1 x2 : Int32) : ∃ (v : Int32) (ga : nt_T) (gb : nt_T), fNt_goesOn nr ln x1 x2 g = some (v, ga) ∧ fMo_goesOn x1 x2 r = some (v, gb) ∧ nt_Rel nr ln ga gb := by
  sorry
theorem st_spread {nr : Nat} {ln : Nat → Nat} {g r : nt_T} (h : nt_Rel nr ln g r) (x1 x2 : Int32) : ∃ (v : Int32) (ga : nt_T) (gb : nt_T), fNt_spread nr ln x1 x2 g = some (v, ga) ∧ fMo_spread x1 x2 r = some (v, gb) ∧ nt_Rel nr ln ga gb := by
  sorry
theorem st_keepAway {nr : Nat} {ln : Nat → Nat} {g r : nt_T} (h : nt_Rel nr ln g r) (x1 : Int32) : ∃ (v : Int32) (ga : nt_T) (gb : nt_T), fNt_keepAway nr ln x1 g = some (v, ga) ∧ fMo_keepAway x1 r = some (v, gb) ∧ nt_Rel nr ln ga gb := by
  sorry
theorem st_send {nr : Nat} {ln : Nat → Nat} {g r : nt_T} (h : nt_Rel nr ln g r) (x1 x2 : Int32) : ∃ (v : Int32) (ga : nt_T) (gb : nt_T), fNt_send nr ln x1 x2 g = some (v, ga) ∧ fMo_send x1 x2 r = some (v, gb) ∧ nt_Rel nr ln ga gb := by
  sorry
theorem st_stranger {nr : Nat} {ln : Nat → Nat} {g r : nt_T} (h : nt_Rel nr ln g r) (x1 x2 x3 : Int32) : ∃ (v : Int32) (ga : nt_T) (gb : nt_T), fNt_stranger nr ln x1 x2 x3 g = some (v, ga) ∧ fMo_stranger x1 x2 x3 r = some (v, gb) ∧ nt_Rel nr ln ga gb := by
  sorry
theorem st_left {nr : Nat} {ln : Nat → Nat} {g r : nt_T} (h : nt_Rel nr ln g r) : ∃ (v : Int32), fNt_left  g = some v ∧ fMo_left  r = some v ∧ nt_Rel nr ln g r := by
  sorry
theorem st_judge {nr : Nat} {ln : Nat → Nat} {g r : nt_T} (h : nt_Rel nr ln g r) (x1 : Int32) : ∃ (v : Int32) (ga : nt_T) (gb : nt_T), fNt_judge nr ln x1 g = some (v, ga) ∧ fMo_judge x1 r = some (v, gb) ∧ nt_Rel nr ln ga gb := by
  sorry
theorem st_drawn {nr : Nat} {ln : Nat → Nat} {g r : nt_T} (h : nt_Rel nr ln g r) (x1 x2 : Int32) : ∃ (v : Int32) (ga : nt_T) (gb : nt_T), fNt_drawn nr ln x1 x2 g = some (v, ga) ∧ fMo_drawn x1 x2 r = some (v, gb) ∧ nt_Rel nr ln ga gb := by
  sorry
theorem st_image {nr : Nat} {ln : Nat → Nat} {g r : nt_T} (h : nt_Rel nr ln g r) : ∃ (v : Int32) (ga : nt_T) (gb : nt_T), fNt_image  g = some (v, ga) ∧ fMo_image  r = some (v, gb) ∧ nt_Rel nr ln ga gb := by
  sorry
theorem st_back {nr : Nat} {ln : Nat → Nat} {g r : nt_T} (h : nt_Rel nr ln g r) : ∃ (v : Int32) (ga : nt_T) (gb : nt_T), fNt_back  g = some (v, ga) ∧ fMo_back  r = some (v, gb) ∧ nt_Rel nr ln ga gb := by
  sorry
theorem st_count {nr : Nat} {ln : Nat → Nat} {g r : nt_T} (h : nt_Rel nr ln g r) (x1 : Int32) : ∃ (v : Int32), fNt_count x1 g = some v ∧ fMo_count x1 r = some v ∧ nt_Rel nr ln g r := by
  sorry
theorem st_sheet {nr : Nat} {ln : Nat → Nat} {g r : nt_T} (h : nt_Rel nr ln g r) (x1 x2 x3 : Int32) : ∃ (v : Int32) (ga : nt_T) (gb : nt_T), fNt_sheet x1 x2 x3 g = some (v, ga) ∧ fMo_sheet x1 x2 x3 r = some (v, gb) ∧ nt_Rel nr ln ga gb := by
  sorry
theorem st_cell {nr : Nat} {ln : Nat → Nat} {g r : nt_T} (h : nt_Rel nr ln g r) (x1 x2 x3 : Int32) : ∃ (v : Int32) (ga : nt_T) (gb : nt_T), fNt_cell x1 x2 x3 g = some (v, ga) ∧ fMo_cell x1 x2 x3 r = some (v, gb) ∧ nt_Rel nr ln ga gb := by
  sorry
theorem st_copy {nr : Nat} {ln : Nat → Nat} {g r : nt_T} (h : nt_Rel nr ln g r) (x1 x2 x3 x4 x5 : Int32) : ∃ (v : Int32) (ga : nt_T) (gb : nt_T), fNt_copy x1 x2 x3 x4 x5 g = some (v, ga) ∧ fMo_copy x1 x2 x3 x4 x5 r = some (v, gb) ∧ nt_Rel nr ln ga gb := by
  sorry
theorem st_people {nr : Nat} {ln : Nat → Nat} {g r : nt_T} (h : nt_Rel nr ln g r) (x1 x2 x3 x4 : Int32) : ∃ (v : Int32) (ga : nt_T) (gb : nt_T), fNt_people x1 x2 x3 x4 g = some (v, ga) ∧ fMo_people x1 x2 x3 x4 r = some (v, gb) ∧ nt_Rel nr ln ga gb := by
  sorry
theorem st_taken {nr : Nat} {ln : Nat → Nat} {g r : nt_T} (h : nt_Rel nr ln g r) (x1 x2 : Int32) : ∃ (v : Int32), fNt_taken x1 x2 g = some v ∧ fMo_taken x1 x2 r = some v ∧ nt_Rel nr ln g r := by
  sorry
/-- text(): the class's world stays as it was (full, a FAULT), or has one text more -/
theorem st_text {nr : Nat} {ln : Nat → Nat} {g r : nt_T} (h : nt_Rel nr ln g r) : (∃ (v : Int32) (ga gb : nt_T), fNt_text g = some (v, ga) ∧ fMo_text r = some (v, gb) ∧ nt_Rel nr ln ga gb) ∨ (∃ _v : Unit, ∀ w : nt_w, nt_isR w nr ln → ∃ (ga gb rb : nt_T), fTx_isFull g = some 0 ∧ fRd_reads g = some (1, ga) ∧ ¬ ga 10 7 < 0 ∧ (ga 10 7).toNatClampNeg ≤ 160 ∧ fTx_isFull (nt_pg w ga (ga 13 (Int32.toNatClampNeg 1)) (ga 13 (Int32.toNatClampNeg 2)) (va_cpy (ga 12) (fun _ => 0) (Int32.toNatClampNeg 0) (Int32.toNatClampNeg 0) (ga 10 7).toNatClampNeg)) = some 0 ∧ nt_in (ga 6 3) 6 = true ∧ (ga 6 3).toNatClampNeg = nr ∧ fRd_empty (nt_st (nt_pg w ga (ga 13 (Int32.toNatClampNeg 1)) (ga 13 (Int32.toNatClampNeg 2)) (va_cpy (ga 12) (fun _ => 0) (Int32.toNatClampNeg 0) (Int32.toNatClampNeg 0) (ga 10 7).toNatClampNeg)) 6 3 (ga 6 3 + 1)) = some gb ∧ fMo_text r = some (ga 6 3 + 1 - 1, rb) ∧ nt_Rel (nr + 1) (fun i => if i = nr then (ga 10 7).toNatClampNeg else ln i) gb rb) := by
  sorry
/-- the two at first -/
theorem st_init : ∃ ga gb gc gm : nt_T, fRd_putFirstText nt_g0 = some ga ∧ fRd_reads ga = some (1, gb) ∧ ¬ gb 10 7 < 0 ∧ (gb 10 7).toNatClampNeg ≤ 160 ∧ gb 6 3 = 0 ∧ fRd_empty (nt_st (nt_pg14 gb (gb 13 (Int32.toNatClampNeg 1)) (gb 13 (Int32.toNatClampNeg 2)) (va_cpy (gb 12) (fun _ => 0) (Int32.toNatClampNeg 0) (Int32.toNatClampNeg 0) (gb 10 7).toNatClampNeg)) 6 3 (gb 6 3 + 1)) = some gc ∧ fMo_init nt_gM0 = some gm ∧ nt_Rel 1 (fun _ => (gb 10 7).toNatClampNeg) (nt_gF gc) gm := by
  sorry
