/-! ===== the law from its entry ===== -/
theorem nestF_in : nt_nestF.map (fun q => some (Cond.fieldLinkNest q.1 q.2.1 q.2.2.1 q.2.2.2.1 q.2.2.2.2.1 q.2.2.2.2.2)) = ([33, 35, 37, 39, 41, 42, 43, 66, 68, 70, 88, 321, 324, 326, 328, 329, 331, 334, 335, 337, 339, 382, 384, 416, 418] : List Nat).map (fun i => tables_1[i]?) := by decide +kernel
theorem nestM_in : nt_nestM.map (fun q => some (Cond.methodLinkNest q.1 q.2.1 q.2.2.1 q.2.2.2)) = ([28, 58, 82, 115, 172, 278, 284, 302, 310, 316, 375, 411, 462, 470, 474, 475, 488, 492, 501, 515, 519, 527, 532, 540, 544, 552, 557, 558, 566, 570, 575, 592, 600, 604, 611, 622, 634, 653, 661, 670, 674, 680, 689, 702, 706, 714, 719, 720, 745, 753, 758, 763, 767, 768, 772, 789, 798, 806, 810, 818, 822, 835] : List Nat).map (fun i => tables_1[i]?) := by decide +kernel
theorem nt_mem_of_map {α : Type} {L : List α} {f : α → Cond} {is : List Nat} (h : L.map (fun q => some (f q)) = is.map (fun i => tables_1[i]?)) {q : α} (hq : q ∈ L) : f q ∈ lw_tbl := by
  have h1 : some (f q) ∈ L.map (fun q => some (f q)) := List.mem_map_of_mem hq
  rw [h] at h1
  obtain ⟨i, -, hi⟩ := List.mem_map.mp h1
  exact List.mem_append_right _ (List.mem_of_getElem? hi)
theorem nt_tq {w : Cond} (i : Nat) (h : tables_1[i]? = some w) : w ∈ lw_tbl := List.mem_append_right _ (List.mem_of_getElem? h)
theorem nt_N_of {args : Array Value} {s : State} (hts : ∀ w ∈ lw_tbl, w.before args s = true) : nt_N s := ⟨fun q hq => va_Nw.of rfl (hts _ (nt_mem_of_map nestF_in hq)), fun q hq => va_Nw.of rfl (hts _ (nt_mem_of_map nestM_in hq))⟩
theorem nt_intC {args : Array Value} {s : State} (h : (Cond.arrayClass .int).before args s = true) : ∃ cA : ClassId, ArrOfT s cA .int ∧ va_RA s cA .int := by
  simp only [Cond.before, Cond.holds, Cond.value] at h
  cases h1 : s.vm.findClass ("[" ++ FieldType.int.toString) with
  | none => simp [h1] at h
  | some cA =>
    cases h2 : s.vm.classes[cA]? with
    | none => simp [h1, h2] at h
    | some kA =>
      cases hk : kA.kind with
      | array comp ty =>
        simp [h1, h2, hk] at h
        exact ⟨cA, fun n z => ⟨fun k h9 => (by cases h9), kA, h2, comp, (by rw [hk, h])⟩, h1⟩
      | _ => simp [h1, h2, hk] at h
theorem nt_elems : ∀ i : Nat, i < 3 → ∀ j : Nat, j < nt_len.getD i 0 → (flatC (Jvm.Cond.and given_1 narrow_1))[(([22, 90, 154] : List Nat).getD i 0) + j]? = some (Cond.eq (.elem (.field (Term.string RX1 (([25, 104, 99] : List Nat).getD i 0)) "java/lang/String" "value" "[B") (.int (Int32.ofNat j))) (.int ((nt_byt.getD i []).getD j 0))) := by decide +kernel
theorem nt_unders : ∀ j : Nat, j < 6 → (flatC (Jvm.Cond.and given_1 narrow_1))[12 + j]? = some (Cond.eq (.elem (.static RX5 "UNDER" "[I") (.int (Int32.ofNat j))) (.int (([-1, 0, 0, 1, 2, 1] : List Int32).getD j 0))) := by decide +kernel
theorem nt_sex : ∀ i : Nat, i < 3 → (flatC (Jvm.Cond.and given_1 narrow_1))[([18, 86, 150] : List Nat).getD i 0]? = some (Cond.exactly (Term.string RX1 (([25, 104, 99] : List Nat).getD i 0)) "java/lang/String") := by decide +kernel
theorem nt_sco : ∀ i : Nat, i < 3 → (flatC (Jvm.Cond.and given_1 narrow_1))[([19, 87, 151] : List Nat).getD i 0]? = some (Cond.eq (.field (Term.string RX1 (([25, 104, 99] : List Nat).getD i 0)) "java/lang/String" "coder" "B") (.int 0)) := by decide +kernel
theorem nt_sar : ∀ i : Nat, i < 3 → (flatC (Jvm.Cond.and given_1 narrow_1))[([20, 88, 152] : List Nat).getD i 0]? = some (Cond.arrayOf (.field (Term.string RX1 (([25, 104, 99] : List Nat).getD i 0)) "java/lang/String" "value" "[B") .byte) := by decide +kernel
theorem nt_sle : ∀ i : Nat, i < 3 → (flatC (Jvm.Cond.and given_1 narrow_1))[([21, 89, 153] : List Nat).getD i 0]? = some (Cond.eq (.length (.field (Term.string RX1 (([25, 104, 99] : List Nat).getD i 0)) "java/lang/String" "value" "[B")) (.int (Int32.ofNat (nt_len.getD i 0)))) := by decide +kernel
theorem nt_Z_of {args : Array Value} {s : State} (hts : ∀ w ∈ lw_tbl, w.before args s = true) (hgv : (Jvm.Cond.and given_1 narrow_1).before args s = true) : ∃ (zk : Nat → Nat) (zf : Value), (zf = .null ∨ ∃ a, zf = .ref a) ∧ nt_Z zk zf (fun q : Nat => s.heap.size ≤ q) s s.heap := by
  have hg9 := flat_of_before _ hgv
  have hA : ∀ a : Nat, a < s.heap.size → ¬ s.heap.size ≤ a := fun a h => Nat.not_le.mpr h
  obtain ⟨tU, eU, hU⟩ := va_Tof (f := nt_under) (N := 6) (tm := .static RX5 "UNDER" "[I") (ty := .int) (A := fun q : Nat => s.heap.size ≤ q) (by decide) (hg9 _ (List.mem_of_getElem? (i := 10) (by decide +kernel))) (va_eqt (hg9 _ (List.mem_of_getElem? (i := 11) (by decide +kernel)))) (fun j hj => va_eqt (hg9 _ (List.mem_of_getElem? (nt_unders j hj)))) hA
  have hUz := va_Zref (C := RX5) (n := "UNDER") (d := "[I") (t := tU) (A := fun q : Nat => s.heap.size ≤ q) (hts _ (nt_tq 840 (by decide +kernel))) (hts _ (nt_tq 2 (by decide +kernel))) eU hA
  have hC := va_Zof (C := RJ0) (n := "COMPACT_STRINGS") (d := "Z") (v := .int 1) (A := fun q : Nat => s.heap.size ≤ q) (hts _ (nt_tq 129 (by decide +kernel))) (hts _ (nt_tq 5 (by decide +kernel))) (va_eqt (hg9 _ (List.mem_of_getElem? (i := 4) (by decide +kernel)))) hA
  have hS := va_Zqof (C := RJ3) (n := "SIOOBE_FORMATTER") (d := "Ljava/util/function/BiFunction;") (A := fun q : Nat => s.heap.size ≤ q) (hts _ (nt_tq 145 (by decide +kernel))) (hts _ (nt_tq 7 (by decide +kernel))) (hg9 _ (List.mem_of_getElem? (i := 5) (by decide +kernel))) hA
  obtain ⟨zf, hzf, hSz⟩ : ∃ zf : Value, (zf = .null ∨ ∃ a, zf = .ref a) ∧ va_Z RJ3 "SIOOBE_FORMATTER" "Ljava/util/function/BiFunction;" zf (fun q : Nat => s.heap.size ≤ q) s s.heap := by
    rcases hS with h | ⟨t, h⟩
    · exact ⟨.null, Or.inl rfl, h⟩
    · exact ⟨.ref t, Or.inr ⟨t, rfl⟩, h⟩
  obtain ⟨adK, adV, hSt, eSt⟩ := vk_Sof (N := 3) (tm := (fun i => Term.string RX1 (([25, 104, 99] : List Nat).getD i 0))) (len := nt_len) (byt := nt_byt) (A := fun q : Nat => s.heap.size ≤ q) (args := args) (s := s) (by decide) (fun i hi => hg9 _ (List.mem_of_getElem? (nt_sex i hi))) (fun i hi => hg9 _ (List.mem_of_getElem? (nt_sco i hi))) (fun i hi => hg9 _ (List.mem_of_getElem? (nt_sar i hi))) (fun i hi => hg9 _ (List.mem_of_getElem? (nt_sle i hi))) (fun i hi j hj => hg9 _ (List.mem_of_getElem? (nt_elems i hi j hj))) (fun i j hi hj hij => by
    rcases (show (i = 0 ∨ i = 1 ∨ i = 2) by omega) with rfl | rfl | rfl
    · rcases (show (j = 0 ∨ j = 1 ∨ j = 2) by omega) with rfl | rfl | rfl
      · exact absurd rfl hij
      · exact Or.inl (hg9 _ (List.mem_of_getElem? (i := 149) (by decide +kernel)))
      · exact Or.inl (hg9 _ (List.mem_of_getElem? (i := 162) (by decide +kernel)))
    · rcases (show (j = 0 ∨ j = 1 ∨ j = 2) by omega) with rfl | rfl | rfl
      · exact Or.inr (hg9 _ (List.mem_of_getElem? (i := 149) (by decide +kernel)))
      · exact absurd rfl hij
      · exact Or.inl (hg9 _ (List.mem_of_getElem? (i := 163) (by decide +kernel)))
    · rcases (show (j = 0 ∨ j = 1 ∨ j = 2) by omega) with rfl | rfl | rfl
      · exact Or.inr (hg9 _ (List.mem_of_getElem? (i := 162) (by decide +kernel)))
      · exact Or.inr (hg9 _ (List.mem_of_getElem? (i := 163) (by decide +kernel)))
      · exact absurd rfl hij) hA
  refine ⟨fun k => if k = 0 then tU else if k < 4 then adK (k - 1) else adV (k - 4), zf, hzf, nt_N_of hts, hUz, hU, hC, hSz, ?_, vk_R.of (hts _ (nt_tq 119 (by decide +kernel))) (eSt 0 (by decide)), vk_R.of (hts _ (nt_tq 187 (by decide +kernel))) (eSt 1 (by decide)), vk_R.of (hts _ (nt_tq 195 (by decide +kernel))) (eSt 2 (by decide))⟩
  have eK : ∀ i, i < 3 → (if 1 + i = 0 then tU else if 1 + i < 4 then adK (1 + i - 1) else adV (1 + i - 4)) = adK i := by
    intro i hi
    rw [if_neg (by omega), if_pos (by omega), show 1 + i - 1 = i by omega]
  have eV : ∀ i, i < 3 → (if 4 + i = 0 then tU else if 4 + i < 4 then adK (4 + i - 1) else adV (4 + i - 4)) = adV i := by
    intro i hi
    rw [if_neg (by omega), if_neg (by omega), show 4 + i - 4 = i by omega]
  refine ⟨fun i hi => ?_, fun i j hi hj he => ?_⟩
  · have h := hSt.1 i hi
    show va_O "java/lang/String" (if 1 + i = 0 then tU else if 1 + i < 4 then adK (1 + i - 1) else adV (1 + i - 4)) _ s s.heap ∧ va_OF "java/lang/String" "coder" "B" (.int 0) (if 1 + i = 0 then tU else if 1 + i < 4 then adK (1 + i - 1) else adV (1 + i - 4)) _ s s.heap ∧ va_OF "java/lang/String" "value" "[B" (.ref (if 4 + i = 0 then tU else if 4 + i < 4 then adK (4 + i - 1) else adV (4 + i - 4))) (if 1 + i = 0 then tU else if 1 + i < 4 then adK (1 + i - 1) else adV (1 + i - 4)) _ s s.heap ∧ va_T .byte (if 4 + i = 0 then tU else if 4 + i < 4 then adK (4 + i - 1) else adV (4 + i - 4)) (nt_len.getD i 0) (fun j => .int ((nt_byt.getD i []).getD j 0)) _ s s.heap
    rw [eK i hi, eV i hi]
    exact h
  · have he : (if 1 + i = 0 then tU else if 1 + i < 4 then adK (1 + i - 1) else adV (1 + i - 4)) = (if 1 + j = 0 then tU else if 1 + j < 4 then adK (1 + j - 1) else adV (1 + j - 4)) := he
    rw [eK i hi, eK j hj] at he
    exact hSt.2 i j hi hj he
