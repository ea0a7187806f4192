/-! ===== the walking judgement: a world is numbered cells of ints; g k j is slot j of cell k ===== -/
abbrev nt_T : Type := Nat → Nat → Int32
/-- cell k's row becomes f -/
def nt_sc (g : nt_T) (k : Nat) (f : Nat → Int32) : nt_T := fun k' => if k' = k then f else g k'
/-- slot j of cell k becomes v -/
def nt_st (g : nt_T) (k j : Nat) (v : Int32) : nt_T := nt_sc g k (upd (g k) j v)
/-- the two halves of a long in a row of ints -/
def nt_hi (v : Int64) : Int32 := Int32.ofInt (v.toInt / 4294967296)
def nt_lo (v : Int64) : Int32 := Int32.ofInt (v.toInt % 4294967296 - 2147483648)
def nt_mk (h l : Int32) : Int64 := Int64.ofInt (h.toInt * 4294967296 + l.toInt + 2147483648)
theorem nt_mk_hl (v : Int64) : nt_mk (nt_hi v) (nt_lo v) = v := by
  have h1 := Int64.le_toInt v
  have h2 := Int64.toInt_lt v
  unfold nt_mk nt_hi nt_lo
  rw [Int32.toInt_ofInt_of_le (by omega) (by omega), Int32.toInt_ofInt_of_le (by omega) (by omega)]
  have e : v.toInt / 4294967296 * 4294967296 + (v.toInt % 4294967296 - 2147483648) + 2147483648 = v.toInt := by omega
  rw [e]
  exact Int64.ofInt_toInt v
/-- a world: the classes' numbers, the array classes, the addresses of constants, a static's value, how many cells, their addresses, their forms -/
abbrev nt_w : Type := va_G × List (ClassId × FieldType) × (Nat → Nat) × Value × Nat × (Nat → Nat) × (Nat → (Nat → Int32) → va_E)
abbrev nt_n (w : nt_w) : Nat := w.2.2.2.2.1
abbrev nt_a (w : nt_w) : Nat → Nat := w.2.2.2.2.2.1
abbrev nt_E (w : nt_w) : Nat → (Nat → Int32) → va_E := w.2.2.2.2.2.2
def nt_W (w : nt_w) (g : nt_T) : va_W := (List.range (nt_n w)).map (fun k => (nt_a w k, nt_E w k (g k)))
theorem nt_W_at {w : nt_w} {g : nt_T} {k : Nat} (h : k < nt_n w) : (nt_W w g)[k]? = some (nt_a w k, nt_E w k (g k)) := by simp [nt_W, h]
theorem nt_W_inv {w : nt_w} {g : nt_T} {k : Nat} {q : Nat × va_E} (h : (nt_W w g)[k]? = some q) : k < nt_n w ∧ q = (nt_a w k, nt_E w k (g k)) := by
  by_cases hk : k < nt_n w
  · rw [nt_W_at hk] at h
    exact ⟨hk, (Option.some.inj h).symm⟩
  · simp [nt_W, hk] at h
theorem nt_W_set {w : nt_w} {g : nt_T} {k : Nat} (h : k < nt_n w) (f : Nat → Int32) : (nt_W w g).set k (nt_a w k, nt_E w k f) = nt_W w (nt_sc g k f) := by
  apply List.ext_getElem?
  intro i
  rw [List.getElem?_set]
  by_cases hik : k = i
  · subst hik
    rw [if_pos rfl, nt_W_at h]
    simp [nt_W, h, nt_sc]
  · rw [if_neg hik]
    have e : nt_sc g k f i = g i := by simp [nt_sc, Ne.symm hik]
    by_cases hi : i < nt_n w
    · rw [nt_W_at hi, nt_W_at hi, e]
    · simp [nt_W, hi]
theorem nt_W_dom {w : nt_w} {g g' : nt_T} {A : Nat → Prop} (h : va_D A (nt_W w g)) : va_D A (nt_W w g') := by
  refine ⟨fun i j p q hi hj e => ?_, fun k q hk => ?_⟩
  · obtain ⟨hi1, rfl⟩ := nt_W_inv hi
    obtain ⟨hj1, rfl⟩ := nt_W_inv hj
    exact h.1 i j _ _ (nt_W_at hi1) (nt_W_at hj1) e
  · obtain ⟨hk1, rfl⟩ := nt_W_inv hk
    exact h.2 k (nt_a w k, nt_E w k (g k)) (nt_W_at hk1)
theorem nt_W_A {w : nt_w} {g g' : nt_T} {sz q : Nat} (h : va_A (nt_W w g) sz q) : va_A (nt_W w g') sz q := by
  rcases h with ⟨k, e, h⟩ | h
  · obtain ⟨hk1, hq⟩ := nt_W_inv h
    refine Or.inl ⟨k, nt_E w k (g' k), ?_⟩
    have hq1 : q = nt_a w k := congrArg Prod.fst hq
    rw [hq1]
    exact nt_W_at hk1
  · exact Or.inr h

def nt_nestF : List (String × Nat × String × String × String × String) := [("NotTwice", 125, "NotTwice$Shelf", "kind", "[I", "NotTwice"), ("NotTwice", 128, "NotTwice$Shelf", "worth", "[I", "NotTwice"), ("NotTwice", 131, "NotTwice$Shelf", "number", "[I", "NotTwice"), ("NotTwice", 134, "NotTwice$Shelf", "twin", "[I", "NotTwice"), ("NotTwice$Seating", 91, "NotTwice$Shelf", "size", "I", "NotTwice"), ("NotTwice$People", 91, "NotTwice$Shelf", "size", "I", "NotTwice"), ("NotTwice", 242, "NotTwice$Shelf", "size", "I", "NotTwice"), ("NotTwice$People", 137, "NotTwice$Texts", "names", "[I", "NotTwice"), ("NotTwice$People", 148, "NotTwice$Texts", "stack", "[I", "NotTwice"), ("NotTwice", 243, "NotTwice$Texts", "size", "I", "NotTwice"), ("NotTwice", 244, "NotTwice$Reader", "size", "I", "NotTwice"), ("NotTwice$Seating", 81, "NotTwice$People", "shelf", "LNotTwice$Shelf;", "NotTwice"), ("NotTwice", 102, "NotTwice$People", "house", "[I", "NotTwice"), ("NotTwice", 110, "NotTwice$People", "age", "[I", "NotTwice"), ("NotTwice$Seating", 78, "NotTwice$People", "tells", "[I", "NotTwice"), ("NotTwice", 113, "NotTwice$People", "tells", "[I", "NotTwice"), ("NotTwice", 116, "NotTwice$People", "heard", "[I", "NotTwice"), ("NotTwice$Seating", 37, "NotTwice$People", "size", "I", "NotTwice"), ("NotTwice", 212, "NotTwice$People", "size", "I", "NotTwice"), ("NotTwice", 182, "NotTwice$People", "night", "I", "NotTwice"), ("NotTwice", 157, "NotTwice$People", "rule", "I", "NotTwice"), ("NotTwice", 206, "NotTwice$Seating", "bestSeat", "[I", "NotTwice"), ("NotTwice", 203, "NotTwice$Seating", "best", "I", "NotTwice"), ("NotTwice", 254, "NotTwice$Sheets", "sort", "[I", "NotTwice"), ("NotTwice", 229, "NotTwice$Sheets", "size", "[I", "NotTwice")]
def nt_nestM : List (String × Nat × MethodName × String) := [("NotTwice", 11, ⟨"NotTwice$Shelf", "<init>", "()V"⟩, "NotTwice"), ("NotTwice", 18, ⟨"NotTwice$Texts", "<init>", "()V"⟩, "NotTwice"), ("NotTwice", 25, ⟨"NotTwice$Reader", "<init>", "()V"⟩, "NotTwice"), ("NotTwice", 30, ⟨"NotTwice$Reader", "putFirstText", "()V"⟩, "NotTwice"), ("NotTwice", 33, ⟨"NotTwice$Reader", "reads", "()Z"⟩, "NotTwice"), ("NotTwice", 37, ⟨"NotTwice$Reader", "made", "()LNotTwice$Rule;"⟩, "NotTwice"), ("NotTwice$Reader", 49, ⟨"NotTwice$Rule", "<init>", "([IIII)V"⟩, "NotTwice"), ("NotTwice", 41, ⟨"NotTwice$Texts", "add", "(LNotTwice$Rule;)I"⟩, "NotTwice"), ("NotTwice", 45, ⟨"NotTwice$Reader", "empty", "()V"⟩, "NotTwice"), ("NotTwice", 50, ⟨"NotTwice$People", "<init>", "(LNotTwice$Shelf;LNotTwice$Texts;)V"⟩, "NotTwice"), ("NotTwice", 65, ⟨"NotTwice$Seating", "<init>", "(LNotTwice$People;)V"⟩, "NotTwice"), ("NotTwice", 74, ⟨"NotTwice$Sheets", "<init>", "()V"⟩, "NotTwice"), ("NotTwice", 83, ⟨"NotTwice$Shelf", "add", "(III)I"⟩, "NotTwice"), ("NotTwice", 86, ⟨"NotTwice$Shelf", "has", "(I)Z"⟩, "NotTwice"), ("NotTwice$Shelf", 28, ⟨"NotTwice", "isBelow", "(II)Z"⟩, "NotTwice"), ("NotTwice", 90, ⟨"NotTwice$Shelf", "join", "(II)V"⟩, "NotTwice"), ("NotTwice", 94, ⟨"NotTwice$People", "come", "(II)I"⟩, "NotTwice"), ("NotTwice$People", 42, ⟨"NotTwice", "isBelow", "(II)Z"⟩, "NotTwice"), ("NotTwice", 98, ⟨"NotTwice$People", "has", "(I)Z"⟩, "NotTwice"), ("NotTwice", 119, ⟨"NotTwice$People", "hear", "(II)V"⟩, "NotTwice"), ("NotTwice", 122, ⟨"NotTwice$People", "forget", "(II)V"⟩, "NotTwice"), ("NotTwice", 137, ⟨"NotTwice$Shelf", "stays", "(I)I"⟩, "NotTwice"), ("NotTwice", 141, ⟨"NotTwice$Shelf", "counts", "(II)I"⟩, "NotTwice"), ("NotTwice", 144, ⟨"NotTwice$People", "knows", "(I)I"⟩, "NotTwice"), ("NotTwice$People", 66, ⟨"NotTwice$Shelf", "withTwins", "(I)I"⟩, "NotTwice"), ("NotTwice", 147, ⟨"NotTwice$Reader", "put", "(I)I"⟩, "NotTwice"), ("NotTwice", 149, ⟨"NotTwice$Texts", "isFull", "()Z"⟩, "NotTwice"), ("NotTwice", 152, ⟨"NotTwice$Reader", "place", "()I"⟩, "NotTwice"), ("NotTwice", 156, ⟨"NotTwice$Texts", "has", "(I)Z"⟩, "NotTwice"), ("NotTwice$Texts", 30, ⟨"NotTwice", "isBelow", "(II)Z"⟩, "NotTwice"), ("NotTwice", 161, ⟨"NotTwice$People", "tellableIn", "(I)I"⟩, "NotTwice"), ("NotTwice$People", 84, ⟨"NotTwice$Shelf", "all", "()I"⟩, "NotTwice"), ("NotTwice$People", 131, ⟨"NotTwice$Texts", "at", "(I)LNotTwice$Rule;"⟩, "NotTwice"), ("NotTwice$People", 140, ⟨"NotTwice$Shelf", "counts", "(II)I"⟩, "NotTwice"), ("NotTwice$People", 151, ⟨"NotTwice$Rule", "value", "(I[I[I)I"⟩, "NotTwice"), ("NotTwice", 164, ⟨"NotTwice$People", "byWhom", "(II)I"⟩, "NotTwice"), ("NotTwice", 167, ⟨"NotTwice$People", "worthOf", "(II)J"⟩, "NotTwice"), ("NotTwice", 173, ⟨"NotTwice$People", "bestOf", "(I)I"⟩, "NotTwice"), ("NotTwice", 176, ⟨"NotTwice$People", "spend", "(II)I"⟩, "NotTwice"), ("NotTwice", 179, ⟨"NotTwice$People", "sleep", "()V"⟩, "NotTwice"), ("NotTwice$People", 125, ⟨"NotTwice$Shelf", "stays", "(I)I"⟩, "NotTwice"), ("NotTwice", 185, ⟨"NotTwice$People", "unheardIn", "(I)I"⟩, "NotTwice"), ("NotTwice", 209, ⟨"NotTwice$People", "takeAll", "(LNotTwice$People;)V"⟩, "NotTwice"), ("NotTwice", 196, ⟨"NotTwice$Seating", "waysOver", "(I)I"⟩, "NotTwice"), ("NotTwice", 199, ⟨"NotTwice$Seating", "search", "(I)V"⟩, "NotTwice"), ("NotTwice$Seating", 72, ⟨"NotTwice$People", "knows", "(I)I"⟩, "NotTwice"), ("NotTwice$Seating", 85, ⟨"NotTwice$Shelf", "all", "()I"⟩, "NotTwice"), ("NotTwice$Seating", 92, ⟨"NotTwice$People", "value", "(IIII)I"⟩, "NotTwice"), ("NotTwice", 215, ⟨"NotTwice$People", "tellableBy", "(I)I"⟩, "NotTwice"), ("NotTwice", 218, ⟨"NotTwice$People", "sit", "(III)V"⟩, "NotTwice"), ("NotTwice", 222, ⟨"NotTwice$Shelf", "all", "()I"⟩, "NotTwice"), ("NotTwice", 225, ⟨"NotTwice$Sheets", "has", "(I)Z"⟩, "NotTwice"), ("NotTwice$Sheets", 21, ⟨"NotTwice", "isBelow", "(II)Z"⟩, "NotTwice"), ("NotTwice", 226, ⟨"NotTwice$Sheets", "isMissing", "(I)Z"⟩, "NotTwice"), ("NotTwice", 231, ⟨"NotTwice$Sheets", "at", "(II)I"⟩, "NotTwice"), ("NotTwice", 239, ⟨"NotTwice$People", "goBackTo", "(LNotTwice$People;)V"⟩, "NotTwice"), ("NotTwice", 245, ⟨"NotTwice$Sheets", "lay", "(III)V"⟩, "NotTwice"), ("NotTwice", 248, ⟨"NotTwice$Sheets", "reaches", "(II)Z"⟩, "NotTwice"), ("NotTwice", 251, ⟨"NotTwice$Sheets", "write", "(III)V"⟩, "NotTwice"), ("NotTwice", 257, ⟨"NotTwice$Sheets", "hasRun", "(III)Z"⟩, "NotTwice"), ("NotTwice", 261, ⟨"NotTwice$Sheets", "carry", "(IIIII)V"⟩, "NotTwice"), ("NotTwice", 265, ⟨"NotTwice$Shelf", "isUnder", "(II)Z"⟩, "NotTwice")]
theorem nt_nf0 : ("NotTwice", 125, "NotTwice$Shelf", "kind", "[I", "NotTwice") ∈ nt_nestF := List.mem_of_getElem? (i := 0) rfl
theorem nt_nf1 : ("NotTwice", 128, "NotTwice$Shelf", "worth", "[I", "NotTwice") ∈ nt_nestF := List.mem_of_getElem? (i := 1) rfl
theorem nt_nf2 : ("NotTwice", 131, "NotTwice$Shelf", "number", "[I", "NotTwice") ∈ nt_nestF := List.mem_of_getElem? (i := 2) rfl
theorem nt_nf3 : ("NotTwice", 134, "NotTwice$Shelf", "twin", "[I", "NotTwice") ∈ nt_nestF := List.mem_of_getElem? (i := 3) rfl
theorem nt_nf4 : ("NotTwice$Seating", 91, "NotTwice$Shelf", "size", "I", "NotTwice") ∈ nt_nestF := List.mem_of_getElem? (i := 4) rfl
theorem nt_nf5 : ("NotTwice$People", 91, "NotTwice$Shelf", "size", "I", "NotTwice") ∈ nt_nestF := List.mem_of_getElem? (i := 5) rfl
theorem nt_nf6 : ("NotTwice", 242, "NotTwice$Shelf", "size", "I", "NotTwice") ∈ nt_nestF := List.mem_of_getElem? (i := 6) rfl
theorem nt_nf7 : ("NotTwice$People", 137, "NotTwice$Texts", "names", "[I", "NotTwice") ∈ nt_nestF := List.mem_of_getElem? (i := 7) rfl
theorem nt_nf8 : ("NotTwice$People", 148, "NotTwice$Texts", "stack", "[I", "NotTwice") ∈ nt_nestF := List.mem_of_getElem? (i := 8) rfl
theorem nt_nf9 : ("NotTwice", 243, "NotTwice$Texts", "size", "I", "NotTwice") ∈ nt_nestF := List.mem_of_getElem? (i := 9) rfl
theorem nt_nf10 : ("NotTwice", 244, "NotTwice$Reader", "size", "I", "NotTwice") ∈ nt_nestF := List.mem_of_getElem? (i := 10) rfl
theorem nt_nf11 : ("NotTwice$Seating", 81, "NotTwice$People", "shelf", "LNotTwice$Shelf;", "NotTwice") ∈ nt_nestF := List.mem_of_getElem? (i := 11) rfl
theorem nt_nf12 : ("NotTwice", 102, "NotTwice$People", "house", "[I", "NotTwice") ∈ nt_nestF := List.mem_of_getElem? (i := 12) rfl
theorem nt_nf13 : ("NotTwice", 110, "NotTwice$People", "age", "[I", "NotTwice") ∈ nt_nestF := List.mem_of_getElem? (i := 13) rfl
theorem nt_nf14 : ("NotTwice$Seating", 78, "NotTwice$People", "tells", "[I", "NotTwice") ∈ nt_nestF := List.mem_of_getElem? (i := 14) rfl
theorem nt_nf15 : ("NotTwice", 113, "NotTwice$People", "tells", "[I", "NotTwice") ∈ nt_nestF := List.mem_of_getElem? (i := 15) rfl
theorem nt_nf16 : ("NotTwice", 116, "NotTwice$People", "heard", "[I", "NotTwice") ∈ nt_nestF := List.mem_of_getElem? (i := 16) rfl
theorem nt_nf17 : ("NotTwice$Seating", 37, "NotTwice$People", "size", "I", "NotTwice") ∈ nt_nestF := List.mem_of_getElem? (i := 17) rfl
theorem nt_nf18 : ("NotTwice", 212, "NotTwice$People", "size", "I", "NotTwice") ∈ nt_nestF := List.mem_of_getElem? (i := 18) rfl
theorem nt_nf19 : ("NotTwice", 182, "NotTwice$People", "night", "I", "NotTwice") ∈ nt_nestF := List.mem_of_getElem? (i := 19) rfl
theorem nt_nf20 : ("NotTwice", 157, "NotTwice$People", "rule", "I", "NotTwice") ∈ nt_nestF := List.mem_of_getElem? (i := 20) rfl
theorem nt_nf21 : ("NotTwice", 206, "NotTwice$Seating", "bestSeat", "[I", "NotTwice") ∈ nt_nestF := List.mem_of_getElem? (i := 21) rfl
theorem nt_nf22 : ("NotTwice", 203, "NotTwice$Seating", "best", "I", "NotTwice") ∈ nt_nestF := List.mem_of_getElem? (i := 22) rfl
theorem nt_nf23 : ("NotTwice", 254, "NotTwice$Sheets", "sort", "[I", "NotTwice") ∈ nt_nestF := List.mem_of_getElem? (i := 23) rfl
theorem nt_nf24 : ("NotTwice", 229, "NotTwice$Sheets", "size", "[I", "NotTwice") ∈ nt_nestF := List.mem_of_getElem? (i := 24) rfl
theorem nt_nm0 : ("NotTwice", 11, (⟨"NotTwice$Shelf", "<init>", "()V"⟩ : MethodName), "NotTwice") ∈ nt_nestM := List.mem_of_getElem? (i := 0) rfl
theorem nt_nm1 : ("NotTwice", 18, (⟨"NotTwice$Texts", "<init>", "()V"⟩ : MethodName), "NotTwice") ∈ nt_nestM := List.mem_of_getElem? (i := 1) rfl
theorem nt_nm2 : ("NotTwice", 25, (⟨"NotTwice$Reader", "<init>", "()V"⟩ : MethodName), "NotTwice") ∈ nt_nestM := List.mem_of_getElem? (i := 2) rfl
theorem nt_nm3 : ("NotTwice", 30, (⟨"NotTwice$Reader", "putFirstText", "()V"⟩ : MethodName), "NotTwice") ∈ nt_nestM := List.mem_of_getElem? (i := 3) rfl
theorem nt_nm4 : ("NotTwice", 33, (⟨"NotTwice$Reader", "reads", "()Z"⟩ : MethodName), "NotTwice") ∈ nt_nestM := List.mem_of_getElem? (i := 4) rfl
theorem nt_nm5 : ("NotTwice", 37, (⟨"NotTwice$Reader", "made", "()LNotTwice$Rule;"⟩ : MethodName), "NotTwice") ∈ nt_nestM := List.mem_of_getElem? (i := 5) rfl
theorem nt_nm6 : ("NotTwice$Reader", 49, (⟨"NotTwice$Rule", "<init>", "([IIII)V"⟩ : MethodName), "NotTwice") ∈ nt_nestM := List.mem_of_getElem? (i := 6) rfl
theorem nt_nm7 : ("NotTwice", 41, (⟨"NotTwice$Texts", "add", "(LNotTwice$Rule;)I"⟩ : MethodName), "NotTwice") ∈ nt_nestM := List.mem_of_getElem? (i := 7) rfl
theorem nt_nm8 : ("NotTwice", 45, (⟨"NotTwice$Reader", "empty", "()V"⟩ : MethodName), "NotTwice") ∈ nt_nestM := List.mem_of_getElem? (i := 8) rfl
theorem nt_nm9 : ("NotTwice", 50, (⟨"NotTwice$People", "<init>", "(LNotTwice$Shelf;LNotTwice$Texts;)V"⟩ : MethodName), "NotTwice") ∈ nt_nestM := List.mem_of_getElem? (i := 9) rfl
theorem nt_nm10 : ("NotTwice", 65, (⟨"NotTwice$Seating", "<init>", "(LNotTwice$People;)V"⟩ : MethodName), "NotTwice") ∈ nt_nestM := List.mem_of_getElem? (i := 10) rfl
theorem nt_nm11 : ("NotTwice", 74, (⟨"NotTwice$Sheets", "<init>", "()V"⟩ : MethodName), "NotTwice") ∈ nt_nestM := List.mem_of_getElem? (i := 11) rfl
theorem nt_nm12 : ("NotTwice", 83, (⟨"NotTwice$Shelf", "add", "(III)I"⟩ : MethodName), "NotTwice") ∈ nt_nestM := List.mem_of_getElem? (i := 12) rfl
theorem nt_nm13 : ("NotTwice", 86, (⟨"NotTwice$Shelf", "has", "(I)Z"⟩ : MethodName), "NotTwice") ∈ nt_nestM := List.mem_of_getElem? (i := 13) rfl
theorem nt_nm14 : ("NotTwice$Shelf", 28, (⟨"NotTwice", "isBelow", "(II)Z"⟩ : MethodName), "NotTwice") ∈ nt_nestM := List.mem_of_getElem? (i := 14) rfl
theorem nt_nm15 : ("NotTwice", 90, (⟨"NotTwice$Shelf", "join", "(II)V"⟩ : MethodName), "NotTwice") ∈ nt_nestM := List.mem_of_getElem? (i := 15) rfl
theorem nt_nm16 : ("NotTwice", 94, (⟨"NotTwice$People", "come", "(II)I"⟩ : MethodName), "NotTwice") ∈ nt_nestM := List.mem_of_getElem? (i := 16) rfl
theorem nt_nm17 : ("NotTwice$People", 42, (⟨"NotTwice", "isBelow", "(II)Z"⟩ : MethodName), "NotTwice") ∈ nt_nestM := List.mem_of_getElem? (i := 17) rfl
theorem nt_nm18 : ("NotTwice", 98, (⟨"NotTwice$People", "has", "(I)Z"⟩ : MethodName), "NotTwice") ∈ nt_nestM := List.mem_of_getElem? (i := 18) rfl
theorem nt_nm19 : ("NotTwice", 119, (⟨"NotTwice$People", "hear", "(II)V"⟩ : MethodName), "NotTwice") ∈ nt_nestM := List.mem_of_getElem? (i := 19) rfl
theorem nt_nm20 : ("NotTwice", 122, (⟨"NotTwice$People", "forget", "(II)V"⟩ : MethodName), "NotTwice") ∈ nt_nestM := List.mem_of_getElem? (i := 20) rfl
theorem nt_nm21 : ("NotTwice", 137, (⟨"NotTwice$Shelf", "stays", "(I)I"⟩ : MethodName), "NotTwice") ∈ nt_nestM := List.mem_of_getElem? (i := 21) rfl
theorem nt_nm22 : ("NotTwice", 141, (⟨"NotTwice$Shelf", "counts", "(II)I"⟩ : MethodName), "NotTwice") ∈ nt_nestM := List.mem_of_getElem? (i := 22) rfl
theorem nt_nm23 : ("NotTwice", 144, (⟨"NotTwice$People", "knows", "(I)I"⟩ : MethodName), "NotTwice") ∈ nt_nestM := List.mem_of_getElem? (i := 23) rfl
theorem nt_nm24 : ("NotTwice$People", 66, (⟨"NotTwice$Shelf", "withTwins", "(I)I"⟩ : MethodName), "NotTwice") ∈ nt_nestM := List.mem_of_getElem? (i := 24) rfl
theorem nt_nm25 : ("NotTwice", 147, (⟨"NotTwice$Reader", "put", "(I)I"⟩ : MethodName), "NotTwice") ∈ nt_nestM := List.mem_of_getElem? (i := 25) rfl
theorem nt_nm26 : ("NotTwice", 149, (⟨"NotTwice$Texts", "isFull", "()Z"⟩ : MethodName), "NotTwice") ∈ nt_nestM := List.mem_of_getElem? (i := 26) rfl
theorem nt_nm27 : ("NotTwice", 152, (⟨"NotTwice$Reader", "place", "()I"⟩ : MethodName), "NotTwice") ∈ nt_nestM := List.mem_of_getElem? (i := 27) rfl
theorem nt_nm28 : ("NotTwice", 156, (⟨"NotTwice$Texts", "has", "(I)Z"⟩ : MethodName), "NotTwice") ∈ nt_nestM := List.mem_of_getElem? (i := 28) rfl
theorem nt_nm29 : ("NotTwice$Texts", 30, (⟨"NotTwice", "isBelow", "(II)Z"⟩ : MethodName), "NotTwice") ∈ nt_nestM := List.mem_of_getElem? (i := 29) rfl
theorem nt_nm30 : ("NotTwice", 161, (⟨"NotTwice$People", "tellableIn", "(I)I"⟩ : MethodName), "NotTwice") ∈ nt_nestM := List.mem_of_getElem? (i := 30) rfl
theorem nt_nm31 : ("NotTwice$People", 84, (⟨"NotTwice$Shelf", "all", "()I"⟩ : MethodName), "NotTwice") ∈ nt_nestM := List.mem_of_getElem? (i := 31) rfl
theorem nt_nm32 : ("NotTwice$People", 131, (⟨"NotTwice$Texts", "at", "(I)LNotTwice$Rule;"⟩ : MethodName), "NotTwice") ∈ nt_nestM := List.mem_of_getElem? (i := 32) rfl
theorem nt_nm33 : ("NotTwice$People", 140, (⟨"NotTwice$Shelf", "counts", "(II)I"⟩ : MethodName), "NotTwice") ∈ nt_nestM := List.mem_of_getElem? (i := 33) rfl
theorem nt_nm34 : ("NotTwice$People", 151, (⟨"NotTwice$Rule", "value", "(I[I[I)I"⟩ : MethodName), "NotTwice") ∈ nt_nestM := List.mem_of_getElem? (i := 34) rfl
theorem nt_nm35 : ("NotTwice", 164, (⟨"NotTwice$People", "byWhom", "(II)I"⟩ : MethodName), "NotTwice") ∈ nt_nestM := List.mem_of_getElem? (i := 35) rfl
theorem nt_nm36 : ("NotTwice", 167, (⟨"NotTwice$People", "worthOf", "(II)J"⟩ : MethodName), "NotTwice") ∈ nt_nestM := List.mem_of_getElem? (i := 36) rfl
theorem nt_nm37 : ("NotTwice", 173, (⟨"NotTwice$People", "bestOf", "(I)I"⟩ : MethodName), "NotTwice") ∈ nt_nestM := List.mem_of_getElem? (i := 37) rfl
theorem nt_nm38 : ("NotTwice", 176, (⟨"NotTwice$People", "spend", "(II)I"⟩ : MethodName), "NotTwice") ∈ nt_nestM := List.mem_of_getElem? (i := 38) rfl
theorem nt_nm39 : ("NotTwice", 179, (⟨"NotTwice$People", "sleep", "()V"⟩ : MethodName), "NotTwice") ∈ nt_nestM := List.mem_of_getElem? (i := 39) rfl
theorem nt_nm40 : ("NotTwice$People", 125, (⟨"NotTwice$Shelf", "stays", "(I)I"⟩ : MethodName), "NotTwice") ∈ nt_nestM := List.mem_of_getElem? (i := 40) rfl
theorem nt_nm41 : ("NotTwice", 185, (⟨"NotTwice$People", "unheardIn", "(I)I"⟩ : MethodName), "NotTwice") ∈ nt_nestM := List.mem_of_getElem? (i := 41) rfl
theorem nt_nm42 : ("NotTwice", 209, (⟨"NotTwice$People", "takeAll", "(LNotTwice$People;)V"⟩ : MethodName), "NotTwice") ∈ nt_nestM := List.mem_of_getElem? (i := 42) rfl
theorem nt_nm43 : ("NotTwice", 196, (⟨"NotTwice$Seating", "waysOver", "(I)I"⟩ : MethodName), "NotTwice") ∈ nt_nestM := List.mem_of_getElem? (i := 43) rfl
theorem nt_nm44 : ("NotTwice", 199, (⟨"NotTwice$Seating", "search", "(I)V"⟩ : MethodName), "NotTwice") ∈ nt_nestM := List.mem_of_getElem? (i := 44) rfl
theorem nt_nm45 : ("NotTwice$Seating", 72, (⟨"NotTwice$People", "knows", "(I)I"⟩ : MethodName), "NotTwice") ∈ nt_nestM := List.mem_of_getElem? (i := 45) rfl
theorem nt_nm46 : ("NotTwice$Seating", 85, (⟨"NotTwice$Shelf", "all", "()I"⟩ : MethodName), "NotTwice") ∈ nt_nestM := List.mem_of_getElem? (i := 46) rfl
theorem nt_nm47 : ("NotTwice$Seating", 92, (⟨"NotTwice$People", "value", "(IIII)I"⟩ : MethodName), "NotTwice") ∈ nt_nestM := List.mem_of_getElem? (i := 47) rfl
theorem nt_nm48 : ("NotTwice", 215, (⟨"NotTwice$People", "tellableBy", "(I)I"⟩ : MethodName), "NotTwice") ∈ nt_nestM := List.mem_of_getElem? (i := 48) rfl
theorem nt_nm49 : ("NotTwice", 218, (⟨"NotTwice$People", "sit", "(III)V"⟩ : MethodName), "NotTwice") ∈ nt_nestM := List.mem_of_getElem? (i := 49) rfl
theorem nt_nm50 : ("NotTwice", 222, (⟨"NotTwice$Shelf", "all", "()I"⟩ : MethodName), "NotTwice") ∈ nt_nestM := List.mem_of_getElem? (i := 50) rfl
theorem nt_nm51 : ("NotTwice", 225, (⟨"NotTwice$Sheets", "has", "(I)Z"⟩ : MethodName), "NotTwice") ∈ nt_nestM := List.mem_of_getElem? (i := 51) rfl
theorem nt_nm52 : ("NotTwice$Sheets", 21, (⟨"NotTwice", "isBelow", "(II)Z"⟩ : MethodName), "NotTwice") ∈ nt_nestM := List.mem_of_getElem? (i := 52) rfl
theorem nt_nm53 : ("NotTwice", 226, (⟨"NotTwice$Sheets", "isMissing", "(I)Z"⟩ : MethodName), "NotTwice") ∈ nt_nestM := List.mem_of_getElem? (i := 53) rfl
theorem nt_nm54 : ("NotTwice", 231, (⟨"NotTwice$Sheets", "at", "(II)I"⟩ : MethodName), "NotTwice") ∈ nt_nestM := List.mem_of_getElem? (i := 54) rfl
theorem nt_nm55 : ("NotTwice", 239, (⟨"NotTwice$People", "goBackTo", "(LNotTwice$People;)V"⟩ : MethodName), "NotTwice") ∈ nt_nestM := List.mem_of_getElem? (i := 55) rfl
theorem nt_nm56 : ("NotTwice", 245, (⟨"NotTwice$Sheets", "lay", "(III)V"⟩ : MethodName), "NotTwice") ∈ nt_nestM := List.mem_of_getElem? (i := 56) rfl
theorem nt_nm57 : ("NotTwice", 248, (⟨"NotTwice$Sheets", "reaches", "(II)Z"⟩ : MethodName), "NotTwice") ∈ nt_nestM := List.mem_of_getElem? (i := 57) rfl
theorem nt_nm58 : ("NotTwice", 251, (⟨"NotTwice$Sheets", "write", "(III)V"⟩ : MethodName), "NotTwice") ∈ nt_nestM := List.mem_of_getElem? (i := 58) rfl
theorem nt_nm59 : ("NotTwice", 257, (⟨"NotTwice$Sheets", "hasRun", "(III)Z"⟩ : MethodName), "NotTwice") ∈ nt_nestM := List.mem_of_getElem? (i := 59) rfl
theorem nt_nm60 : ("NotTwice", 261, (⟨"NotTwice$Sheets", "carry", "(IIIII)V"⟩ : MethodName), "NotTwice") ∈ nt_nestM := List.mem_of_getElem? (i := 60) rfl
theorem nt_nm61 : ("NotTwice", 265, (⟨"NotTwice$Shelf", "isUnder", "(II)Z"⟩ : MethodName), "NotTwice") ∈ nt_nestM := List.mem_of_getElem? (i := 61) rfl
/-- the words of private members that classes of one nest share -/
def nt_N (U : State) : Prop := (∀ q ∈ nt_nestF, va_Nw (.fieldLinkNest q.1 q.2.1 q.2.2.1 q.2.2.2.1 q.2.2.2.2.1 q.2.2.2.2.2) U) ∧ ∀ q ∈ nt_nestM, va_Nw (.methodLinkNest q.1 q.2.1 q.2.2.1 q.2.2.2) U
theorem nt_N_warm {s U : State} (hW : s.WarmedH U.vm) (h : nt_N s) : nt_N U := ⟨fun q hq => va_Nw.warmF hW (h.1 q hq), fun q hq => va_Nw.warmM hW (h.2 q hq)⟩
theorem nt_N_same {s U : State} (hv : s.vm = U.vm) (h : nt_N s) : nt_N U := ⟨fun q hq => va_Nw.same rfl hv (h.1 q hq), fun q hq => va_Nw.same rfl hv (h.2 q hq)⟩
def nt_under (j : Nat) : Value := .int ([-1, 0, 0, 1, 2, 1].getD j 0)

def nt_len : List Nat := [64, 59, 8]
def nt_byt : List (List Int32) := [[108, 105, 107, 101, 115, 32, 119, 111, 114, 116, 104, 32, 43, 32, 40, 32, 97, 103, 101, 32, 60, 32, 49, 52, 32, 41, 32, 42, 32, 50, 32, 59, 32, 112, 97, 121, 115, 32, 48, 32, 45, 32, 109, 97, 110, 121, 32, 59, 32, 116, 105, 114, 101, 115, 32, 111, 119, 110, 32, 60, 32, 49, 32, 59], [97, 103, 101, 32, 119, 111, 114, 116, 104, 32, 104, 101, 97, 114, 100, 32, 109, 97, 110, 121, 32, 110, 105, 103, 104, 116, 32, 111, 119, 110, 32, 111, 114, 32, 97, 110, 100, 32, 110, 111, 116, 32, 108, 105, 107, 101, 115, 32, 112, 97, 121, 115, 32, 116, 105, 114, 101, 115, 32], [40, 41, 59, 43, 45, 42, 60, 61]]
/-- constants outside the world: nest words, statics, texts -/
def nt_Z (zk : Nat → Nat) (zf : Value) (A : Nat → Prop) (U : State) (H : Heap) : Prop :=
  nt_N U ∧ va_Z RX5 "UNDER" "[I" (.ref (zk 0)) A U H ∧ va_T .int (zk 0) 6 nt_under A U H ∧ va_Z RJ0 "COMPACT_STRINGS" "Z" (.int 1) A U H ∧ va_Z RJ3 "SIOOBE_FORMATTER" "Ljava/util/function/BiFunction;" zf A U H ∧ vk_S 3 nt_len nt_byt (fun i => zk (1 + i)) (fun i => zk (4 + i)) A U H ∧ vk_R RX1 25 "likes worth + ( age < 14 ) * 2 ; pays 0 - many ; tires own < 1 ;" (zk 1) U ∧ vk_R RX1 104 "age worth heard many night own or and not likes pays tires " (zk 2) U ∧ vk_R RX1 99 "();+-*<=" (zk 3) U
theorem nt_Z_go {zk : Nat → Nat} {zf : Value} {A B : Nat → Prop} {s U : State} {H : Heap} {locs : List Loc} (h : nt_Z zk zf A s s.heap) (hW : s.WarmedH U.vm) (hAB : ∀ q, B q → A q) (hS : va_S A s.heap H locs) : nt_Z zk zf B U H := by
  obtain ⟨h1, h2, h3, h4, h5, h6, h7, h8, h9⟩ := h
  exact ⟨nt_N_warm hW h1, ((h2.moved hW.alike).kept hS.2.1).narrow hAB, ((h3.moved hW.alike).kept hS.2.1).narrow hAB, ((h4.moved hW.alike).kept hS.2.1).narrow hAB, ((h5.moved hW.alike).kept hS.2.1).narrow hAB, ((h6.moved hW.alike).kept hS.2.1).narrow hAB, vk_R.warm hW h7, vk_R.warm hW h8, vk_R.warm hW h9⟩
theorem nt_Z_blind {zk : Nat → Nat} {zf : Value} {A : Nat → Prop} {U : State} {g : JFrame} {mk : MethodId} {a : Array Value} (h : nt_Z zk zf A U U.heap) : nt_Z zk zf A (U.calling g mk a) (U.calling g mk a).heap := by
  obtain ⟨h1, h2, h3, h4, h5, h6, h7, h8, h9⟩ := h
  have hv : U.vm.Alike (U.calling g mk a).vm := Vm.Alike.refl U.vm
  exact ⟨nt_N_same (U := U.calling g mk a) rfl h1, va_Z.moved hv h2, va_T.moved hv h3, va_Z.moved hv h4, va_Z.moved hv h5, vk_S.moved hv h6, vk_R.same (U := U.calling g mk a) rfl h7, vk_R.same (U := U.calling g mk a) rfl h8, vk_R.same (U := U.calling g mk a) rfl h9⟩

def nt_ws (y : MethodName) (cc : ByteArray) (nL : Nat) (ret : Option FieldType) : List Cond := .code y cc nL ret :: nt_tbl
theorem nt_ws_good {y : MethodName} {cc : ByteArray} {nL : Nat} {ret : Option FieldType} (h : Cond.code y cc nL ret ∈ nt_tbl) : GoodIn nt_tbl (nt_ws y cc nL ret) := by
  intro w hw
  have hm : w ∈ nt_tbl := by
    rcases List.mem_cons.mp hw with rfl | hw
    · exact h
    · exact hw
  exact ⟨hm, good_of_word (nt_good w hm)⟩
/-- the room of a method under which calls go d deep and nothing is made -/
def nt_rm (d : Nat) : Room := { frames := d, cells := 0, slots := 0, locals := 60 * d }
/-- what a method finds -/
def nt_P (w : nt_w) (g : nt_T) (sz : Nat) (U : State) : Prop := U.heap.size = sz ∧ va_P w.1 vwCl (nt_W w g) U.heap ∧ va_K w.1 vwCl w.2.1 U ∧ va_D (fun _ => True) (nt_W w g) ∧ nt_Z w.2.2.1 w.2.2.2.1 (va_A (nt_W w g) sz) U U.heap
/-- what it leaves -/
def nt_B (w : nt_w) (u : nt_T) (t : State) : Prop := va_P w.1 vwCl (nt_W w u) t.heap
/-- the contracts of methods that make nothing: an int (boolean, char), a long, nothing comes back -/
def nt_Mi (l : Launch) (w : nt_w) (y : MethodName) (cc : ByteArray) (nL : Nat) (ret : Option FieldType) (d : Nat) (av : List Value) (g : nt_T) (r : Int32) (g' : nt_T) : Prop := ∀ sz : Nat, Met l y (nt_ws y cc nL ret) (nt_rm d) (va_Pc av (nt_P w g sz)) (va_Qi (fun (r' : Int32) (u : nt_T) => r' = r ∧ u = g') (nt_B w) (va_A (nt_W w g) sz)) 0 0 (va_A (nt_W w g) sz)
def nt_Ml (l : Launch) (w : nt_w) (y : MethodName) (cc : ByteArray) (nL : Nat) (ret : Option FieldType) (d : Nat) (av : List Value) (g : nt_T) (r : Int64) (g' : nt_T) : Prop := ∀ sz : Nat, Met l y (nt_ws y cc nL ret) (nt_rm d) (va_Pc av (nt_P w g sz)) (va_Ql (fun (r' : Int64) (u : nt_T) => r' = r ∧ u = g') (nt_B w) (va_A (nt_W w g) sz)) 0 0 (va_A (nt_W w g) sz)
def nt_Mv (l : Launch) (w : nt_w) (y : MethodName) (cc : ByteArray) (nL : Nat) (ret : Option FieldType) (d : Nat) (av : List Value) (g : nt_T) (g' : nt_T) : Prop := ∀ sz : Nat, Met l y (nt_ws y cc nL ret) (nt_rm d) (va_Pc av (nt_P w g sz)) (va_Qv (fun (u : nt_T) => u = g') (nt_B w) (va_A (nt_W w g) sz)) 0 0 (va_A (nt_W w g) sz)
/-- what stands still while a method runs -/
def nt_X (cc : ByteArray) (nL : Nat) (own : String) (ret : Option FieldType) (w : nt_w) (A : Nat → Prop) (p : Program) (s : State) (m : MethodId) (args : Array Value) (meth : Method) (c : Code) : Prop :=
  p.tables.exec = Jvm.exec ∧ c.code = cc ∧ c.maxLocals = nL ∧ s.vm.findClass own = some m.cls ∧ (∀ q ∈ nt_tbl, q.before args s = true) ∧ meth.locks = false ∧ meth.sig.returnType = ret ∧ va_K w.1 vwCl w.2.1 s ∧ (∀ q, s.heap.size ≤ q → A q) ∧ nt_Z w.2.2.1 w.2.2.2.1 A s s.heap
/-- the machine at pc, with these locals, this stack, this world, comes to Q -/
def nt_G (p : Program) (l : Launch) (e : Env) (R : Room) (s : State) (m : MethodId) (args : Array Value) (below : List Frame) (meth : Method) (c : Code) (w : nt_w) (A : Nat → Prop) (cells slots : Nat) (Q : State → Prop) (nL : Nat) (pc : Nat) (lv : List (Nat × Value)) (st : List Value) (g : nt_T) : Prop :=
  ∀ (H : Heap) (locs : List Loc) (ls : Array Slot), va_P w.1 vwCl (nt_W w g) H → va_D A (nt_W w g) → va_S A s.heap H locs → lv_has ls nL lv → W p l e R s m args below meth c H locs cells slots Q (F0 m pc ls st)
/-- a computation that comes to something with Q -/
def nt_R {α : Type} (o : Option α) (Q : α → Prop) : Prop := ∃ x, o = some x ∧ Q x
def nt_gd {α : Type} (c : Bool) (o : Option α) : Option α := if c = true then o else none
def nt_lt {α β : Type} (a : α) (f : α → Option β) : Option β := f a
def nt_b1 {α β : Type} (o : Option α) (f : α → Option β) : Option β := match o with
  | none => none
  | some a => f a
def nt_b2 {α γ β : Type} (o : Option (α × γ)) (f : α → γ → Option β) : Option β := match o with
  | none => none
  | some a => f a.1 a.2
/-- a loop with fuel: its body goes on with a state, or leaves with something -/
def nt_it {S X : Type} (body : S → Option (S ⊕ X)) : Nat → S → Option X
  | 0, _ => none
  | n + 1, s => match body s with
    | none => none
    | some (.inl s') => nt_it body n s'
    | some (.inr x) => some x
def nt_fu : Nat := 5000
def nt_in (i : Int32) (n : Nat) : Bool := decide (¬ i < 0) && decide (i.toNatClampNeg < n)
theorem nt_in_vp {i : Int32} {n : Nat} (h : nt_in i n = true) : vp_in i n := by
  simp only [nt_in, Bool.and_eq_true, decide_eq_true_eq] at h
  intro q
  rcases q with q | q
  · exact h.1 q
  · exact absurd h.2 (Nat.not_lt.mpr q)
theorem nt_R_none {α : Type} {Q : α → Prop} {P : Prop} (h : nt_R none Q) : P := by
  obtain ⟨x, h1, -⟩ := h
  cases h1
theorem nt_R_some {α : Type} {Q : α → Prop} {a : α} (h : nt_R (some a) Q) : Q a := by
  obtain ⟨x, h1, h2⟩ := h
  cases h1
  exact h2
theorem nt_R_gd {α : Type} {Q : α → Prop} {c : Bool} {o : Option α} (h : nt_R (nt_gd c o) Q) : c = true ∧ nt_R o Q := by
  by_cases hc : c = true
  · rw [nt_gd, if_pos hc] at h
    exact ⟨hc, h⟩
  · rw [nt_gd, if_neg hc] at h
    exact nt_R_none h
theorem nt_R_if {α : Type} {Q : α → Prop} {c : Prop} {_ : Decidable c} {a b : Option α} (h : nt_R (if c then a else b) Q) : (c → nt_R a Q) ∧ (¬ c → nt_R b Q) :=
  ⟨fun hc => by rw [if_pos hc] at h; exact h, fun hc => by rw [if_neg hc] at h; exact h⟩
theorem nt_R_lt {α β : Type} {Q : β → Prop} {a : α} {f : α → Option β} (h : nt_R (nt_lt a f) Q) : ∃ x, a = x ∧ nt_R (f x) Q := ⟨a, rfl, h⟩
theorem nt_R_b1 {α β : Type} {Q : β → Prop} {o : Option α} {f : α → Option β} (h : nt_R (nt_b1 o f) Q) : ∃ x, o = some x ∧ nt_R (f x) Q := by
  cases o with
  | none => exact nt_R_none h
  | some a => exact ⟨a, rfl, h⟩
theorem nt_R_b2 {α γ β : Type} {Q : β → Prop} {o : Option (α × γ)} {f : α → γ → Option β} (h : nt_R (nt_b2 o f) Q) : ∃ x y, o = some (x, y) ∧ nt_R (f x y) Q := by
  cases o with
  | none => exact nt_R_none h
  | some a => exact ⟨a.1, a.2, rfl, h⟩
def nt_Qz {S X : Type} (body : S → Option (S ⊕ X)) (n : Nat) (Q : X → Prop) : S ⊕ X → Prop
  | .inl s => nt_R (nt_it body n s) Q
  | .inr x => Q x
theorem nt_R_it {S X : Type} {body : S → Option (S ⊕ X)} {n : Nat} {s : S} {Q : X → Prop} (h : nt_R (nt_it body (n + 1) s) Q) : nt_R (body s) (nt_Qz body n Q) := by
  obtain ⟨x, h1, h2⟩ := h
  rw [nt_it] at h1
  cases hb : body s with
  | none => rw [hb] at h1; cases h1
  | some z =>
    rw [hb] at h1
    cases z with
    | inl s' => exact ⟨_, rfl, ⟨x, h1, h2⟩⟩
    | inr y => cases h1; exact ⟨_, rfl, h2⟩

abbrev nt_Qi (w : nt_w) (A : Nat → Prop) (below : List Frame) (args : Array Value) (s : State) (r : Int32) (g2 : nt_T) : State → Prop := MQ below (va_Qi (fun (r' : Int32) (u : nt_T) => r' = r ∧ u = g2) (nt_B w) A) args s 0 0 A
abbrev nt_Ql (w : nt_w) (A : Nat → Prop) (below : List Frame) (args : Array Value) (s : State) (r : Int64) (g2 : nt_T) : State → Prop := MQ below (va_Ql (fun (r' : Int64) (u : nt_T) => r' = r ∧ u = g2) (nt_B w) A) args s 0 0 A
abbrev nt_Qv (w : nt_w) (A : Nat → Prop) (below : List Frame) (args : Array Value) (s : State) (g2 : nt_T) : State → Prop := MQ below (va_Qv (fun (u : nt_T) => u = g2) (nt_B w) A) args s 0 0 A
section NT
variable {p : Program} {l : Launch} {e : Env} {R : Room} {s : State} {m : MethodId} {args : Array Value} {below : List Frame} {meth : Method} {c : Code} {cells slots : Nat} {Q : State → Prop}
variable {cc : ByteArray} {nL : Nat} {own : String} {ret : Option FieldType} {w : nt_w} {A : Nat → Prop} {g : nt_T} {pc : Nat} {lv : List (Nat × Value)} {rest : List Value}
theorem nt_iconst (X : nt_X cc nL own ret w A p s m args meth c) {n : Int} {v : Int32} (d : decode cc pc = .ok (.iconst n, 1)) (hv : Int32.ofInt n = v) (k : nt_G p l e R s m args below meth c w A cells slots Q nL (pc + 1) lv (.int v :: rest) g) : nt_G p l e R s m args below meth c w A cells slots Q nL pc lv (rest) g := fun H locs ls hP hD hS hl => lv_iconst X.1 X.2.1 d hv (k H locs ls hP hD hS hl)
theorem nt_bipush (X : nt_X cc nL own ret w A p s m args meth c) {n : Int} {v : Int32} (d : decode cc pc = .ok (.bipush n, 2)) (hv : (Int8.ofInt n).toInt32 = v) (k : nt_G p l e R s m args below meth c w A cells slots Q nL (pc + 2) lv (.int v :: rest) g) : nt_G p l e R s m args below meth c w A cells slots Q nL pc lv (rest) g := fun H locs ls hP hD hS hl => lv_bipush X.1 X.2.1 d hv (k H locs ls hP hD hS hl)
theorem nt_sipush (X : nt_X cc nL own ret w A p s m args meth c) {n : Int} {v : Int32} (d : decode cc pc = .ok (.sipush n, 3)) (hv : (Int16.ofInt n).toInt32 = v) (k : nt_G p l e R s m args below meth c w A cells slots Q nL (pc + 3) lv (.int v :: rest) g) : nt_G p l e R s m args below meth c w A cells slots Q nL pc lv (rest) g := fun H locs ls hP hD hS hl => lv_sipush X.1 X.2.1 d hv (k H locs ls hP hD hS hl)
theorem nt_lconst (X : nt_X cc nL own ret w A p s m args meth c) {n : Fin 2} {v : Int64} (d : decode cc pc = .ok (.lconst n, 1)) (hv : Int64.ofNat (n : Nat) = v) (k : nt_G p l e R s m args below meth c w A cells slots Q nL (pc + 1) lv (.long v :: rest) g) : nt_G p l e R s m args below meth c w A cells slots Q nL pc lv (rest) g := fun H locs ls hP hD hS hl => lv_lconst X.1 X.2.1 d hv (k H locs ls hP hD hS hl)
theorem nt_iload_n (X : nt_X cc nL own ret w A p s m args meth c) {q : Fin 4} {i : Nat} {x : Int32} (d : decode cc pc = .ok (.iload_n q, 1)) (hi : (q : Nat) = i) (z : Nat) (hz : lv[z]? = some (i, .int x)) (k : nt_G p l e R s m args below meth c w A cells slots Q nL (pc + 1) lv (.int x :: rest) g) : nt_G p l e R s m args below meth c w A cells slots Q nL pc lv rest g := fun H locs ls hP hD hS hl => lv_iload_n X.1 X.2.1 d hi (lv_at hl z hz) (k H locs ls hP hD hS hl)
theorem nt_iload (X : nt_X cc nL own ret w A p s m args meth c) {i : Nat} {x : Int32} (d : decode cc pc = .ok (.iload i, 2)) (z : Nat) (hz : lv[z]? = some (i, .int x)) (k : nt_G p l e R s m args below meth c w A cells slots Q nL (pc + 2) lv (.int x :: rest) g) : nt_G p l e R s m args below meth c w A cells slots Q nL pc lv rest g := fun H locs ls hP hD hS hl => lv_iload X.1 X.2.1 d (lv_at hl z hz) (k H locs ls hP hD hS hl)
theorem nt_istore_n (X : nt_X cc nL own ret w A p s m args meth c) {q : Fin 4} {i : Nat} {x : Int32} (lv2 : List (Nat × Value)) (d : decode cc pc = .ok (.istore_n q, 1)) (hi : (q : Nat) = i) (hn : i < nL) (hl2 : (i, Value.int x) :: lv.filter (fun q => !(q.1 == i) && !(q.1 + 1 == i && q.2.category == 2)) = lv2) (k : nt_G p l e R s m args below meth c w A cells slots Q nL (pc + 1) lv2 rest g) : nt_G p l e R s m args below meth c w A cells slots Q nL pc lv (.int x :: rest) g := fun H locs ls hP hD hS hl => lv_istore_n X.1 X.2.1 d hi hl hn hl2 (fun ls hl => (k H locs ls hP hD hS hl))
theorem nt_istore (X : nt_X cc nL own ret w A p s m args meth c) {i : Nat} {x : Int32} (lv2 : List (Nat × Value)) (d : decode cc pc = .ok (.istore i, 2)) (hn : i < nL) (hl2 : (i, Value.int x) :: lv.filter (fun q => !(q.1 == i) && !(q.1 + 1 == i && q.2.category == 2)) = lv2) (k : nt_G p l e R s m args below meth c w A cells slots Q nL (pc + 2) lv2 rest g) : nt_G p l e R s m args below meth c w A cells slots Q nL pc lv (.int x :: rest) g := fun H locs ls hP hD hS hl => lv_istore X.1 X.2.1 d hl hn hl2 (fun ls hl => (k H locs ls hP hD hS hl))
theorem nt_lload_n (X : nt_X cc nL own ret w A p s m args meth c) {q : Fin 4} {i : Nat} {x : Int64} (d : decode cc pc = .ok (.lload_n q, 1)) (hi : (q : Nat) = i) (z : Nat) (hz : lv[z]? = some (i, .long x)) (k : nt_G p l e R s m args below meth c w A cells slots Q nL (pc + 1) lv (.long x :: rest) g) : nt_G p l e R s m args below meth c w A cells slots Q nL pc lv rest g := fun H locs ls hP hD hS hl => lv_lload_n X.1 X.2.1 d hi (lv_at hl z hz) (k H locs ls hP hD hS hl)
theorem nt_lload (X : nt_X cc nL own ret w A p s m args meth c) {i : Nat} {x : Int64} (d : decode cc pc = .ok (.lload i, 2)) (z : Nat) (hz : lv[z]? = some (i, .long x)) (k : nt_G p l e R s m args below meth c w A cells slots Q nL (pc + 2) lv (.long x :: rest) g) : nt_G p l e R s m args below meth c w A cells slots Q nL pc lv rest g := fun H locs ls hP hD hS hl => lv_lload X.1 X.2.1 d (lv_at hl z hz) (k H locs ls hP hD hS hl)
theorem nt_lstore_n (X : nt_X cc nL own ret w A p s m args meth c) {q : Fin 4} {i : Nat} {x : Int64} (lv2 : List (Nat × Value)) (d : decode cc pc = .ok (.lstore_n q, 1)) (hi : (q : Nat) = i) (hn : i + 1 < nL) (hl2 : (i, Value.long x) :: lv.filter (fun q => !(q.1 == i) && (!(q.1 == i + 1) && !(q.1 + 1 == i && q.2.category == 2))) = lv2) (k : nt_G p l e R s m args below meth c w A cells slots Q nL (pc + 1) lv2 rest g) : nt_G p l e R s m args below meth c w A cells slots Q nL pc lv (.long x :: rest) g := fun H locs ls hP hD hS hl => lv_lstore_n X.1 X.2.1 d hi hl hn hl2 (fun ls hl => (k H locs ls hP hD hS hl))
theorem nt_lstore (X : nt_X cc nL own ret w A p s m args meth c) {i : Nat} {x : Int64} (lv2 : List (Nat × Value)) (d : decode cc pc = .ok (.lstore i, 2)) (hn : i + 1 < nL) (hl2 : (i, Value.long x) :: lv.filter (fun q => !(q.1 == i) && (!(q.1 == i + 1) && !(q.1 + 1 == i && q.2.category == 2))) = lv2) (k : nt_G p l e R s m args below meth c w A cells slots Q nL (pc + 2) lv2 rest g) : nt_G p l e R s m args below meth c w A cells slots Q nL pc lv (.long x :: rest) g := fun H locs ls hP hD hS hl => lv_lstore X.1 X.2.1 d hl hn hl2 (fun ls hl => (k H locs ls hP hD hS hl))
theorem nt_aload_n (X : nt_X cc nL own ret w A p s m args meth c) {q : Fin 4} {i : Nat} {x : Nat} (d : decode cc pc = .ok (.aload_n q, 1)) (hi : (q : Nat) = i) (z : Nat) (hz : lv[z]? = some (i, .ref x)) (k : nt_G p l e R s m args below meth c w A cells slots Q nL (pc + 1) lv (.ref x :: rest) g) : nt_G p l e R s m args below meth c w A cells slots Q nL pc lv rest g := fun H locs ls hP hD hS hl => lv_aload_n X.1 X.2.1 d hi (lv_at hl z hz) (k H locs ls hP hD hS hl)
theorem nt_aload (X : nt_X cc nL own ret w A p s m args meth c) {i : Nat} {x : Nat} (d : decode cc pc = .ok (.aload i, 2)) (z : Nat) (hz : lv[z]? = some (i, .ref x)) (k : nt_G p l e R s m args below meth c w A cells slots Q nL (pc + 2) lv (.ref x :: rest) g) : nt_G p l e R s m args below meth c w A cells slots Q nL pc lv rest g := fun H locs ls hP hD hS hl => lv_aload X.1 X.2.1 d (lv_at hl z hz) (k H locs ls hP hD hS hl)
theorem nt_astore_n (X : nt_X cc nL own ret w A p s m args meth c) {q : Fin 4} {i : Nat} {x : Nat} (lv2 : List (Nat × Value)) (d : decode cc pc = .ok (.astore_n q, 1)) (hi : (q : Nat) = i) (hn : i < nL) (hl2 : (i, Value.ref x) :: lv.filter (fun q => !(q.1 == i) && !(q.1 + 1 == i && q.2.category == 2)) = lv2) (k : nt_G p l e R s m args below meth c w A cells slots Q nL (pc + 1) lv2 rest g) : nt_G p l e R s m args below meth c w A cells slots Q nL pc lv (.ref x :: rest) g := fun H locs ls hP hD hS hl => lv_astore_n X.1 X.2.1 d hi hl hn hl2 (fun ls hl => (k H locs ls hP hD hS hl))
theorem nt_astore (X : nt_X cc nL own ret w A p s m args meth c) {i : Nat} {x : Nat} (lv2 : List (Nat × Value)) (d : decode cc pc = .ok (.astore i, 2)) (hn : i < nL) (hl2 : (i, Value.ref x) :: lv.filter (fun q => !(q.1 == i) && !(q.1 + 1 == i && q.2.category == 2)) = lv2) (k : nt_G p l e R s m args below meth c w A cells slots Q nL (pc + 2) lv2 rest g) : nt_G p l e R s m args below meth c w A cells slots Q nL pc lv (.ref x :: rest) g := fun H locs ls hP hD hS hl => lv_astore X.1 X.2.1 d hl hn hl2 (fun ls hl => (k H locs ls hP hD hS hl))
theorem nt_iinc (X : nt_X cc nL own ret w A p s m args meth c) {i : Nat} {n : Int} {x : Int32} (v : Int32) (lv2 : List (Nat × Value)) (d : decode cc pc = .ok (.iinc i n, 3)) (z : Nat) (hz : lv[z]? = some (i, .int x)) (hv : x + Int32.ofInt n = v) (hn : i < nL) (hl2 : (i, Value.int v) :: lv.filter (fun q => !(q.1 == i) && !(q.1 + 1 == i && q.2.category == 2)) = lv2) (k : nt_G p l e R s m args below meth c w A cells slots Q nL (pc + 3) lv2 rest g) : nt_G p l e R s m args below meth c w A cells slots Q nL pc lv rest g := fun H locs ls hP hD hS hl => lv_iinc X.1 X.2.1 d hl hz hv hn hl2 (fun ls hl => (k H locs ls hP hD hS hl))
theorem nt_iadd (X : nt_X cc nL own ret w A p s m args meth c) {x y : Int32} (d : decode cc pc = .ok (.iadd, 1)) (k : nt_G p l e R s m args below meth c w A cells slots Q nL (pc + 1) lv (.int (x + y) :: rest) g) : nt_G p l e R s m args below meth c w A cells slots Q nL pc lv (.int y :: .int x :: rest) g := fun H locs ls hP hD hS hl => lv_iadd X.1 X.2.1 d (k H locs ls hP hD hS hl)
theorem nt_isub (X : nt_X cc nL own ret w A p s m args meth c) {x y : Int32} (d : decode cc pc = .ok (.isub, 1)) (k : nt_G p l e R s m args below meth c w A cells slots Q nL (pc + 1) lv (.int (x - y) :: rest) g) : nt_G p l e R s m args below meth c w A cells slots Q nL pc lv (.int y :: .int x :: rest) g := fun H locs ls hP hD hS hl => lv_isub X.1 X.2.1 d (k H locs ls hP hD hS hl)
theorem nt_imul (X : nt_X cc nL own ret w A p s m args meth c) {x y : Int32} (d : decode cc pc = .ok (.imul, 1)) (k : nt_G p l e R s m args below meth c w A cells slots Q nL (pc + 1) lv (.int (x * y) :: rest) g) : nt_G p l e R s m args below meth c w A cells slots Q nL pc lv (.int y :: .int x :: rest) g := fun H locs ls hP hD hS hl => lv_imul X.1 X.2.1 d (k H locs ls hP hD hS hl)
theorem nt_iand (X : nt_X cc nL own ret w A p s m args meth c) {x y : Int32} (d : decode cc pc = .ok (.iand, 1)) (k : nt_G p l e R s m args below meth c w A cells slots Q nL (pc + 1) lv (.int (x &&& y) :: rest) g) : nt_G p l e R s m args below meth c w A cells slots Q nL pc lv (.int y :: .int x :: rest) g := fun H locs ls hP hD hS hl => lv_iand X.1 X.2.1 d (k H locs ls hP hD hS hl)
theorem nt_ior (X : nt_X cc nL own ret w A p s m args meth c) {x y : Int32} (d : decode cc pc = .ok (.ior, 1)) (k : nt_G p l e R s m args below meth c w A cells slots Q nL (pc + 1) lv (.int (x ||| y) :: rest) g) : nt_G p l e R s m args below meth c w A cells slots Q nL pc lv (.int y :: .int x :: rest) g := fun H locs ls hP hD hS hl => lv_ior X.1 X.2.1 d (k H locs ls hP hD hS hl)
theorem nt_ixor (X : nt_X cc nL own ret w A p s m args meth c) {x y : Int32} (d : decode cc pc = .ok (.ixor, 1)) (k : nt_G p l e R s m args below meth c w A cells slots Q nL (pc + 1) lv (.int (x ^^^ y) :: rest) g) : nt_G p l e R s m args below meth c w A cells slots Q nL pc lv (.int y :: .int x :: rest) g := fun H locs ls hP hD hS hl => lv_ixor X.1 X.2.1 d (k H locs ls hP hD hS hl)
theorem nt_ishl (X : nt_X cc nL own ret w A p s m args meth c) {x y : Int32} (d : decode cc pc = .ok (.ishl, 1)) (k : nt_G p l e R s m args below meth c w A cells slots Q nL (pc + 1) lv (.int (x <<< (y &&& 31)) :: rest) g) : nt_G p l e R s m args below meth c w A cells slots Q nL pc lv (.int y :: .int x :: rest) g := fun H locs ls hP hD hS hl => lv_ishl X.1 X.2.1 d (k H locs ls hP hD hS hl)
theorem nt_ishr (X : nt_X cc nL own ret w A p s m args meth c) {x y : Int32} (d : decode cc pc = .ok (.ishr, 1)) (k : nt_G p l e R s m args below meth c w A cells slots Q nL (pc + 1) lv (.int (x >>> (y &&& 31)) :: rest) g) : nt_G p l e R s m args below meth c w A cells slots Q nL pc lv (.int y :: .int x :: rest) g := fun H locs ls hP hD hS hl => lv_ishr X.1 X.2.1 d (k H locs ls hP hD hS hl)
theorem nt_idiv (X : nt_X cc nL own ret w A p s m args meth c) {x y : Int32} (d : decode cc pc = .ok (.idiv, 1)) (hne : ¬ y = 0) (k : nt_G p l e R s m args below meth c w A cells slots Q nL (pc + 1) lv (.int (x / y) :: rest) g) : nt_G p l e R s m args below meth c w A cells slots Q nL pc lv (.int y :: .int x :: rest) g := fun H locs ls hP hD hS hl => lv_idiv X.1 X.2.1 d hne (k H locs ls hP hD hS hl)
theorem nt_irem (X : nt_X cc nL own ret w A p s m args meth c) {x y : Int32} (d : decode cc pc = .ok (.irem, 1)) (hne : ¬ y = 0) (k : nt_G p l e R s m args below meth c w A cells slots Q nL (pc + 1) lv (.int (x - x / y * y) :: rest) g) : nt_G p l e R s m args below meth c w A cells slots Q nL pc lv (.int y :: .int x :: rest) g := fun H locs ls hP hD hS hl => lv_irem X.1 X.2.1 d hne (k H locs ls hP hD hS hl)
theorem nt_ineg (X : nt_X cc nL own ret w A p s m args meth c) {x : Int32} (d : decode cc pc = .ok (.ineg, 1)) (k : nt_G p l e R s m args below meth c w A cells slots Q nL (pc + 1) lv (.int (-x) :: rest) g) : nt_G p l e R s m args below meth c w A cells slots Q nL pc lv (.int x :: rest) g := fun H locs ls hP hD hS hl => lv_ineg X.1 X.2.1 d (k H locs ls hP hD hS hl)
theorem nt_ladd (X : nt_X cc nL own ret w A p s m args meth c) {x y : Int64} (d : decode cc pc = .ok (.ladd, 1)) (k : nt_G p l e R s m args below meth c w A cells slots Q nL (pc + 1) lv (.long (x + y) :: rest) g) : nt_G p l e R s m args below meth c w A cells slots Q nL pc lv (.long y :: .long x :: rest) g := fun H locs ls hP hD hS hl => lv_ladd X.1 X.2.1 d (k H locs ls hP hD hS hl)
theorem nt_lsub (X : nt_X cc nL own ret w A p s m args meth c) {x y : Int64} (d : decode cc pc = .ok (.lsub, 1)) (k : nt_G p l e R s m args below meth c w A cells slots Q nL (pc + 1) lv (.long (x - y) :: rest) g) : nt_G p l e R s m args below meth c w A cells slots Q nL pc lv (.long y :: .long x :: rest) g := fun H locs ls hP hD hS hl => lv_lsub X.1 X.2.1 d (k H locs ls hP hD hS hl)
theorem nt_lmul (X : nt_X cc nL own ret w A p s m args meth c) {x y : Int64} (d : decode cc pc = .ok (.lmul, 1)) (k : nt_G p l e R s m args below meth c w A cells slots Q nL (pc + 1) lv (.long (x * y) :: rest) g) : nt_G p l e R s m args below meth c w A cells slots Q nL pc lv (.long y :: .long x :: rest) g := fun H locs ls hP hD hS hl => lv_lmul X.1 X.2.1 d (k H locs ls hP hD hS hl)
theorem nt_i2l (X : nt_X cc nL own ret w A p s m args meth c) {x : Int32} {v : Int64} (d : decode cc pc = .ok (.i2l, 1)) (hv : x.toInt64 = v) (k : nt_G p l e R s m args below meth c w A cells slots Q nL (pc + 1) lv (.long v :: rest) g) : nt_G p l e R s m args below meth c w A cells slots Q nL pc lv (.int x :: rest) g := fun H locs ls hP hD hS hl => lv_i2l X.1 X.2.1 d hv (k H locs ls hP hD hS hl)
theorem nt_l2i (X : nt_X cc nL own ret w A p s m args meth c) {x : Int64} {v : Int32} (d : decode cc pc = .ok (.l2i, 1)) (hv : x.toInt32 = v) (k : nt_G p l e R s m args below meth c w A cells slots Q nL (pc + 1) lv (.int v :: rest) g) : nt_G p l e R s m args below meth c w A cells slots Q nL pc lv (.long x :: rest) g := fun H locs ls hP hD hS hl => lv_l2i X.1 X.2.1 d hv (k H locs ls hP hD hS hl)
theorem nt_i2b (X : nt_X cc nL own ret w A p s m args meth c) {x v : Int32} (d : decode cc pc = .ok (.i2b, 1)) (hv : x.toInt8.toInt32 = v) (k : nt_G p l e R s m args below meth c w A cells slots Q nL (pc + 1) lv (.int v :: rest) g) : nt_G p l e R s m args below meth c w A cells slots Q nL pc lv (.int x :: rest) g := fun H locs ls hP hD hS hl => lv_i2b X.1 X.2.1 d hv (k H locs ls hP hD hS hl)
theorem nt_i2s (X : nt_X cc nL own ret w A p s m args meth c) {x v : Int32} (d : decode cc pc = .ok (.i2s, 1)) (hv : x.toInt16.toInt32 = v) (k : nt_G p l e R s m args below meth c w A cells slots Q nL (pc + 1) lv (.int v :: rest) g) : nt_G p l e R s m args below meth c w A cells slots Q nL pc lv (.int x :: rest) g := fun H locs ls hP hD hS hl => lv_i2s X.1 X.2.1 d hv (k H locs ls hP hD hS hl)
theorem nt_i2c (X : nt_X cc nL own ret w A p s m args meth c) {x v : Int32} (d : decode cc pc = .ok (.i2c, 1)) (hv : (x.toUInt32 % 65536).toInt32 = v) (k : nt_G p l e R s m args below meth c w A cells slots Q nL (pc + 1) lv (.int v :: rest) g) : nt_G p l e R s m args below meth c w A cells slots Q nL pc lv (.int x :: rest) g := fun H locs ls hP hD hS hl => lv_i2c X.1 X.2.1 d hv (k H locs ls hP hD hS hl)
theorem nt_iushr (X : nt_X cc nL own ret w A p s m args meth c) {x y v : Int32} (d : decode cc pc = .ok (.iushr, 1)) (hv : (x.toUInt32 >>> (y.toUInt32 &&& Int32.toUInt32 31)).toInt32 = v) (k : nt_G p l e R s m args below meth c w A cells slots Q nL (pc + 1) lv (.int v :: rest) g) : nt_G p l e R s m args below meth c w A cells slots Q nL pc lv (.int y :: .int x :: rest) g := fun H locs ls hP hD hS hl => lv_iushr X.1 X.2.1 d hv (k H locs ls hP hD hS hl)
theorem nt_lcmp (X : nt_X cc nL own ret w A p s m args meth c) {x y : Int64} (d : decode cc pc = .ok (.lcmp, 1)) (k : nt_G p l e R s m args below meth c w A cells slots Q nL (pc + 1) lv (.int (lg_cmp x y) :: rest) g) : nt_G p l e R s m args below meth c w A cells slots Q nL pc lv (.long y :: .long x :: rest) g := fun H locs ls hP hD hS hl => W.lcmp X.1 X.2.1 d (k H locs ls hP hD hS hl)
theorem nt_dup (X : nt_X cc nL own ret w A p s m args meth c) {va : Value} (d : decode cc pc = .ok (.dup, 1)) (hva : va.category = 1) (k : nt_G p l e R s m args below meth c w A cells slots Q nL (pc + 1) lv (va :: va :: rest) g) : nt_G p l e R s m args below meth c w A cells slots Q nL pc lv (va :: rest) g := fun H locs ls hP hD hS hl => lv_dup X.1 X.2.1 d hva (k H locs ls hP hD hS hl)
theorem nt_pop (X : nt_X cc nL own ret w A p s m args meth c) {va : Value} (d : decode cc pc = .ok (.pop, 1)) (hva : va.category = 1) (k : nt_G p l e R s m args below meth c w A cells slots Q nL (pc + 1) lv (rest) g) : nt_G p l e R s m args below meth c w A cells slots Q nL pc lv (va :: rest) g := fun H locs ls hP hD hS hl => lv_pop X.1 X.2.1 d hva (k H locs ls hP hD hS hl)
theorem nt_dup2 (X : nt_X cc nL own ret w A p s m args meth c) {va vb : Value} (d : decode cc pc = .ok (.dup2, 1)) (hva : va.category = 1) (hvb : vb.category = 1) (k : nt_G p l e R s m args below meth c w A cells slots Q nL (pc + 1) lv (va :: vb :: va :: vb :: rest) g) : nt_G p l e R s m args below meth c w A cells slots Q nL pc lv (va :: vb :: rest) g := fun H locs ls hP hD hS hl => lv_dup2_11 X.1 X.2.1 d hva hvb (k H locs ls hP hD hS hl)
theorem nt_if_eq (X : nt_X cc nL own ret w A p s m args meth c) {x : Int32} {off : Int} (tgt : Nat) (d : decode cc pc = .ok (.ifCond .eq off, 3)) (ht : (pc : Int) + off = (tgt : Int)) (kt : x = 0 → nt_G p l e R s m args below meth c w A cells slots Q nL tgt lv rest g) (kf : ¬ (x = 0) → nt_G p l e R s m args below meth c w A cells slots Q nL (pc + 3) lv rest g) : nt_G p l e R s m args below meth c w A cells slots Q nL pc lv (.int x :: rest) g := fun H locs ls hP hD hS hl => lv_if_eq X.1 X.2.1 d ht (fun q => kt q H locs ls hP hD hS hl) (fun q => kf q H locs ls hP hD hS hl)
theorem nt_icmp_eq (X : nt_X cc nL own ret w A p s m args meth c) {x y : Int32} {off : Int} (tgt : Nat) (d : decode cc pc = .ok (.if_icmp .eq off, 3)) (ht : (pc : Int) + off = (tgt : Int)) (kt : x = y → nt_G p l e R s m args below meth c w A cells slots Q nL tgt lv rest g) (kf : ¬ (x = y) → nt_G p l e R s m args below meth c w A cells slots Q nL (pc + 3) lv rest g) : nt_G p l e R s m args below meth c w A cells slots Q nL pc lv (.int y :: .int x :: rest) g := fun H locs ls hP hD hS hl => lv_icmp_eq X.1 X.2.1 d ht (fun q => kt q H locs ls hP hD hS hl) (fun q => kf q H locs ls hP hD hS hl)
theorem nt_if_ne (X : nt_X cc nL own ret w A p s m args meth c) {x : Int32} {off : Int} (tgt : Nat) (d : decode cc pc = .ok (.ifCond .ne off, 3)) (ht : (pc : Int) + off = (tgt : Int)) (kt : ¬ x = 0 → nt_G p l e R s m args below meth c w A cells slots Q nL tgt lv rest g) (kf : x = 0 → nt_G p l e R s m args below meth c w A cells slots Q nL (pc + 3) lv rest g) : nt_G p l e R s m args below meth c w A cells slots Q nL pc lv (.int x :: rest) g := fun H locs ls hP hD hS hl => lv_if_ne X.1 X.2.1 d ht (fun q => kt q H locs ls hP hD hS hl) (fun q => kf q H locs ls hP hD hS hl)
theorem nt_icmp_ne (X : nt_X cc nL own ret w A p s m args meth c) {x y : Int32} {off : Int} (tgt : Nat) (d : decode cc pc = .ok (.if_icmp .ne off, 3)) (ht : (pc : Int) + off = (tgt : Int)) (kt : ¬ x = y → nt_G p l e R s m args below meth c w A cells slots Q nL tgt lv rest g) (kf : x = y → nt_G p l e R s m args below meth c w A cells slots Q nL (pc + 3) lv rest g) : nt_G p l e R s m args below meth c w A cells slots Q nL pc lv (.int y :: .int x :: rest) g := fun H locs ls hP hD hS hl => lv_icmp_ne X.1 X.2.1 d ht (fun q => kt q H locs ls hP hD hS hl) (fun q => kf q H locs ls hP hD hS hl)
theorem nt_if_lt (X : nt_X cc nL own ret w A p s m args meth c) {x : Int32} {off : Int} (tgt : Nat) (d : decode cc pc = .ok (.ifCond .lt off, 3)) (ht : (pc : Int) + off = (tgt : Int)) (kt : x < 0 → nt_G p l e R s m args below meth c w A cells slots Q nL tgt lv rest g) (kf : ¬ (x < 0) → nt_G p l e R s m args below meth c w A cells slots Q nL (pc + 3) lv rest g) : nt_G p l e R s m args below meth c w A cells slots Q nL pc lv (.int x :: rest) g := fun H locs ls hP hD hS hl => lv_if_lt X.1 X.2.1 d ht (fun q => kt q H locs ls hP hD hS hl) (fun q => kf q H locs ls hP hD hS hl)
theorem nt_icmp_lt (X : nt_X cc nL own ret w A p s m args meth c) {x y : Int32} {off : Int} (tgt : Nat) (d : decode cc pc = .ok (.if_icmp .lt off, 3)) (ht : (pc : Int) + off = (tgt : Int)) (kt : x < y → nt_G p l e R s m args below meth c w A cells slots Q nL tgt lv rest g) (kf : ¬ (x < y) → nt_G p l e R s m args below meth c w A cells slots Q nL (pc + 3) lv rest g) : nt_G p l e R s m args below meth c w A cells slots Q nL pc lv (.int y :: .int x :: rest) g := fun H locs ls hP hD hS hl => lv_icmp_lt X.1 X.2.1 d ht (fun q => kt q H locs ls hP hD hS hl) (fun q => kf q H locs ls hP hD hS hl)
theorem nt_if_ge (X : nt_X cc nL own ret w A p s m args meth c) {x : Int32} {off : Int} (tgt : Nat) (d : decode cc pc = .ok (.ifCond .ge off, 3)) (ht : (pc : Int) + off = (tgt : Int)) (kt : 0 ≤ x → nt_G p l e R s m args below meth c w A cells slots Q nL tgt lv rest g) (kf : ¬ (0 ≤ x) → nt_G p l e R s m args below meth c w A cells slots Q nL (pc + 3) lv rest g) : nt_G p l e R s m args below meth c w A cells slots Q nL pc lv (.int x :: rest) g := fun H locs ls hP hD hS hl => lv_if_ge X.1 X.2.1 d ht (fun q => kt q H locs ls hP hD hS hl) (fun q => kf q H locs ls hP hD hS hl)
theorem nt_icmp_ge (X : nt_X cc nL own ret w A p s m args meth c) {x y : Int32} {off : Int} (tgt : Nat) (d : decode cc pc = .ok (.if_icmp .ge off, 3)) (ht : (pc : Int) + off = (tgt : Int)) (kt : y ≤ x → nt_G p l e R s m args below meth c w A cells slots Q nL tgt lv rest g) (kf : ¬ (y ≤ x) → nt_G p l e R s m args below meth c w A cells slots Q nL (pc + 3) lv rest g) : nt_G p l e R s m args below meth c w A cells slots Q nL pc lv (.int y :: .int x :: rest) g := fun H locs ls hP hD hS hl => lv_icmp_ge X.1 X.2.1 d ht (fun q => kt q H locs ls hP hD hS hl) (fun q => kf q H locs ls hP hD hS hl)
theorem nt_if_gt (X : nt_X cc nL own ret w A p s m args meth c) {x : Int32} {off : Int} (tgt : Nat) (d : decode cc pc = .ok (.ifCond .gt off, 3)) (ht : (pc : Int) + off = (tgt : Int)) (kt : 0 < x → nt_G p l e R s m args below meth c w A cells slots Q nL tgt lv rest g) (kf : ¬ (0 < x) → nt_G p l e R s m args below meth c w A cells slots Q nL (pc + 3) lv rest g) : nt_G p l e R s m args below meth c w A cells slots Q nL pc lv (.int x :: rest) g := fun H locs ls hP hD hS hl => lv_if_gt X.1 X.2.1 d ht (fun q => kt q H locs ls hP hD hS hl) (fun q => kf q H locs ls hP hD hS hl)
theorem nt_icmp_gt (X : nt_X cc nL own ret w A p s m args meth c) {x y : Int32} {off : Int} (tgt : Nat) (d : decode cc pc = .ok (.if_icmp .gt off, 3)) (ht : (pc : Int) + off = (tgt : Int)) (kt : y < x → nt_G p l e R s m args below meth c w A cells slots Q nL tgt lv rest g) (kf : ¬ (y < x) → nt_G p l e R s m args below meth c w A cells slots Q nL (pc + 3) lv rest g) : nt_G p l e R s m args below meth c w A cells slots Q nL pc lv (.int y :: .int x :: rest) g := fun H locs ls hP hD hS hl => lv_icmp_gt X.1 X.2.1 d ht (fun q => kt q H locs ls hP hD hS hl) (fun q => kf q H locs ls hP hD hS hl)
theorem nt_if_le (X : nt_X cc nL own ret w A p s m args meth c) {x : Int32} {off : Int} (tgt : Nat) (d : decode cc pc = .ok (.ifCond .le off, 3)) (ht : (pc : Int) + off = (tgt : Int)) (kt : x ≤ 0 → nt_G p l e R s m args below meth c w A cells slots Q nL tgt lv rest g) (kf : ¬ (x ≤ 0) → nt_G p l e R s m args below meth c w A cells slots Q nL (pc + 3) lv rest g) : nt_G p l e R s m args below meth c w A cells slots Q nL pc lv (.int x :: rest) g := fun H locs ls hP hD hS hl => lv_if_le X.1 X.2.1 d ht (fun q => kt q H locs ls hP hD hS hl) (fun q => kf q H locs ls hP hD hS hl)
theorem nt_icmp_le (X : nt_X cc nL own ret w A p s m args meth c) {x y : Int32} {off : Int} (tgt : Nat) (d : decode cc pc = .ok (.if_icmp .le off, 3)) (ht : (pc : Int) + off = (tgt : Int)) (kt : x ≤ y → nt_G p l e R s m args below meth c w A cells slots Q nL tgt lv rest g) (kf : ¬ (x ≤ y) → nt_G p l e R s m args below meth c w A cells slots Q nL (pc + 3) lv rest g) : nt_G p l e R s m args below meth c w A cells slots Q nL pc lv (.int y :: .int x :: rest) g := fun H locs ls hP hD hS hl => lv_icmp_le X.1 X.2.1 d ht (fun q => kt q H locs ls hP hD hS hl) (fun q => kf q H locs ls hP hD hS hl)
theorem nt_goto (X : nt_X cc nL own ret w A p s m args meth c) {off : Int} (tgt : Nat) (d : decode cc pc = .ok (.goto off, 3)) (ht : (pc : Int) + off = (tgt : Int)) (k : nt_G p l e R s m args below meth c w A cells slots Q nL tgt lv rest g) : nt_G p l e R s m args below meth c w A cells slots Q nL pc lv rest g := fun H locs ls hP hD hS hl => lv_goto X.1 X.2.1 d ht (k H locs ls hP hD hS hl)
theorem nt_tblOut (X : nt_X cc nL own ret w A p s m args meth c) {dflt lo hi : Int} {offs : Array Int} {len : Nat} {x : Int32} (tgt : Nat) (d : decode cc pc = .ok (.tableswitch dflt lo hi offs, len)) (h : x.toInt < lo ∨ hi < x.toInt) (ht : (pc : Int) + dflt = (tgt : Int)) (k : nt_G p l e R s m args below meth c w A cells slots Q nL tgt lv rest g) : nt_G p l e R s m args below meth c w A cells slots Q nL pc lv (.int x :: rest) g := fun H locs ls hP hD hS hl => lv_tableOut X.1 X.2.1 d h ht (k H locs ls hP hD hS hl)
theorem nt_tblIn (X : nt_X cc nL own ret w A p s m args meth c) {dflt lo hi : Int} {offs : Array Int} {len : Nat} {x : Int32} {off : Int} (tgt : Nat) (d : decode cc pc = .ok (.tableswitch dflt lo hi offs, len)) (h1 : ¬ x.toInt < lo) (h2 : ¬ hi < x.toInt) (ho : offs[(x.toInt - lo).toNat]? = some off) (ht : (pc : Int) + off = (tgt : Int)) (k : nt_G p l e R s m args below meth c w A cells slots Q nL tgt lv rest g) : nt_G p l e R s m args below meth c w A cells slots Q nL pc lv (.int x :: rest) g := fun H locs ls hP hD hS hl => lv_tableIn X.1 X.2.1 d h1 h2 ho ht (k H locs ls hP hD hS hl)
theorem nt_ldc (X : nt_X cc nL own ret w A p s m args meth c) {index : Nat} {v : Int32} (hw : Cond.constant own index v ∈ nt_tbl) (d : decode cc pc = .ok (.ldc index, 2)) (k : nt_G p l e R s m args below meth c w A cells slots Q nL (pc + 2) lv (.int v :: rest) g) : nt_G p l e R s m args below meth c w A cells slots Q nL pc lv rest g := fun H locs ls hP hD hS hl => lv_ldc X.1 X.2.1 X.2.2.2.1 (X.2.2.2.2.1 _ hw) d (k H locs ls hP hD hS hl)
theorem nt_ldcw (X : nt_X cc nL own ret w A p s m args meth c) {index : Nat} {v : Int32} (hw : Cond.constant own index v ∈ nt_tbl) (d : decode cc pc = .ok (.ldc_w index, 3)) (k : nt_G p l e R s m args below meth c w A cells slots Q nL (pc + 3) lv (.int v :: rest) g) : nt_G p l e R s m args below meth c w A cells slots Q nL pc lv rest g := fun H locs ls hP hD hS hl => lv_ldcw X.1 X.2.1 X.2.2.2.1 (X.2.2.2.2.1 _ hw) d (k H locs ls hP hD hS hl)
theorem nt_ldc2 (X : nt_X cc nL own ret w A p s m args meth c) {index : Nat} {v : Int64} (hw : Cond.constantLong own index v ∈ nt_tbl) (d : decode cc pc = .ok (.ldc2_w index, 3)) (k : nt_G p l e R s m args below meth c w A cells slots Q nL (pc + 3) lv (.long v :: rest) g) : nt_G p l e R s m args below meth c w A cells slots Q nL pc lv rest g := fun H locs ls hP hD hS hl => lv_ldc2 X.1 X.2.1 X.2.2.2.1 (X.2.2.2.2.1 _ hw) d (k H locs ls hP hD hS hl)
theorem nt_sub {lv2 : List (Nat × Value)} (ks : List Nat) (h : lv_pick lv ks = lv2) (k : nt_G p l e R s m args below meth c w A cells slots Q nL pc lv2 rest g) : nt_G p l e R s m args below meth c w A cells slots Q nL pc lv rest g := fun H locs ls hP hD hS hl => k H locs ls hP hD hS (lv_sub hl ks h)
theorem nt_topi {x y : Int32} (h : x = y) (k : nt_G p l e R s m args below meth c w A cells slots Q nL pc lv (.int y :: rest) g) : nt_G p l e R s m args below meth c w A cells slots Q nL pc lv (.int x :: rest) g := h ▸ k
theorem nt_topl {x y : Int64} (h : x = y) (k : nt_G p l e R s m args below meth c w A cells slots Q nL pc lv (.long y :: rest) g) : nt_G p l e R s m args below meth c w A cells slots Q nL pc lv (.long x :: rest) g := h ▸ k
theorem nt_geq {g2 : nt_T} (h : g = g2) (k : nt_G p l e R s m args below meth c w A cells slots Q nL pc lv rest g2) : nt_G p l e R s m args below meth c w A cells slots Q nL pc lv rest g := h ▸ k
theorem nt_eq {lv2 : List (Nat × Value)} {rest2 : List Value} {g2 : nt_T} (h1 : lv = lv2) (h2 : rest = rest2) (h3 : g = g2) (k : nt_G p l e R s m args below meth c w A cells slots Q nL pc lv2 rest2 g2) : nt_G p l e R s m args below meth c w A cells slots Q nL pc lv rest g := by
  subst h1; subst h2; subst h3; exact k
theorem nt_get (X : nt_X cc nL own ret w A p s m args meth c) {C : String} {T : u_T} {N ci index j : Nat} {tp : (Nat → Int32) → List Value} (k0 : Nat) (hin : ∀ q ∈ u_ws C T N, q ∈ nt_tbl) (hn : k0 < nt_n w) (hE : nt_E w k0 = fun f => .inr (ci, tp f)) (hc : vwCl[ci]? = some (C, T, N)) (hj : j < N) (hlk : Cond.fieldLink own index (T j).1 (T j).2.1 (T j).2.2.1 ∈ nt_tbl) {v : Value} (hv : (tp (g k0))[j]? = some v) (d : decode cc pc = .ok (.getfield index, 3)) (k : nt_G p l e R s m args below meth c w A cells slots Q nL (pc + 3) lv (v :: rest) g) : nt_G p l e R s m args below meth c w A cells slots Q nL pc lv (.ref (nt_a w k0) :: rest) g := by
  intro H locs ls hP hD hS hl
  have he : (nt_W w g)[k0]? = some (nt_a w k0, .inr (ci, tp (g k0))) := by rw [nt_W_at hn, hE]
  exact va_get X.1 X.2.1 X.2.2.2.2.1 hin X.2.2.2.1 X.2.2.2.2.2.2.2.1 hP k0 he hc j hj (X.2.2.2.2.1 _ hlk) (fun _ h => h) hv d (k H locs ls hP hD hS hl)
theorem nt_put (X : nt_X cc nL own ret w A p s m args meth c) {C : String} {T : u_T} {N ci index j : Nat} {tp : (Nat → Int32) → List Value} (k0 : Nat) (hin : ∀ q ∈ u_ws C T N, q ∈ nt_tbl) (hn : k0 < nt_n w) (hE : nt_E w k0 = fun f => .inr (ci, tp f)) (hc : vwCl[ci]? = some (C, T, N)) (hj : j < N) (hlk : Cond.fieldLink own index (T j).1 (T j).2.1 (T j).2.2.1 ∈ nt_tbl) (ty0 : Nat → FieldType) (hty : ∀ k, k < N → parseFieldDescriptor (T k).2.2.1 = some (ty0 k)) (hnm : ∀ a, a < N → ∀ b, b < N → a ≠ b → (T a).2.1 ≠ (T b).2.1) (hfin : (T j).2.2.2 = false) {ty : FieldType} {v : Int32} (hd : parseFieldDescriptor (T j).2.2.1 = some ty) (hnr : narrow ty (.int v) = .int v) (hfit : fits ty (.int v) = true) (hlen : ∀ f, j < (tp f).length) (hs : ∀ f : Nat → Int32, (tp f).set j (.int v) = tp (upd f j v)) (d : decode cc pc = .ok (.putfield index, 3)) (k : nt_G p l e R s m args below meth c w A cells slots Q nL (pc + 3) lv rest (nt_st g k0 j v)) : nt_G p l e R s m args below meth c w A cells slots Q nL pc lv (.int v :: .ref (nt_a w k0) :: rest) g := by
  intro H locs ls hP hD hS hl
  have he : (nt_W w g)[k0]? = some (nt_a w k0, .inr (ci, tp (g k0))) := by rw [nt_W_at hn, hE]
  refine va_put X.1 X.2.1 X.2.2.2.2.1 hin ty0 hty hnm X.2.2.2.1 X.2.2.2.2.2.2.2.1 hP hD hS k0 he hc j hj (X.2.2.2.2.1 _ hlk) (fun _ h => h) hfin hd hnr hfit (hlen _) d (fun H1 locs1 hP1 hD1 hS1 => ?_)
  have e2 : (nt_W w g).set k0 (nt_a w k0, .inr (ci, (tp (g k0)).set j (.int v))) = nt_W w (nt_st g k0 j v) := by
    rw [nt_st, ← nt_W_set hn, hE, hs]
  rw [e2] at hP1 hD1
  exact k H1 locs1 ls hP1 hD1 hS1 hl
theorem nt_getN (X : nt_X cc nL own ret w A p s m args meth c) {host : String} {C : String} {T : u_T} {N ci index j : Nat} {tp : (Nat → Int32) → List Value} (k0 : Nat) (hin : ∀ q ∈ u_ws C T N, q ∈ nt_tbl) (hn : k0 < nt_n w) (hE : nt_E w k0 = fun f => .inr (ci, tp f)) (hc : vwCl[ci]? = some (C, T, N)) (hj : j < N) (hlk : (own, index, (T j).1, (T j).2.1, (T j).2.2.1, host) ∈ nt_nestF) {v : Value} (hv : (tp (g k0))[j]? = some v) (d : decode cc pc = .ok (.getfield index, 3)) (k : nt_G p l e R s m args below meth c w A cells slots Q nL (pc + 3) lv (v :: rest) g) : nt_G p l e R s m args below meth c w A cells slots Q nL pc lv (.ref (nt_a w k0) :: rest) g := by
  intro H locs ls hP hD hS hl
  have he : (nt_W w g)[k0]? = some (nt_a w k0, .inr (ci, tp (g k0))) := by rw [nt_W_at hn, hE]
  exact va_getN X.1 X.2.1 X.2.2.2.2.1 hin X.2.2.2.1 X.2.2.2.2.2.2.2.1 hP k0 he hc j hj (va_Nw.use rfl (X.2.2.2.2.2.2.2.2.2.1.1 _ hlk)) (fun _ h => h) hv d (k H locs ls hP hD hS hl)
theorem nt_putN (X : nt_X cc nL own ret w A p s m args meth c) {host : String} {C : String} {T : u_T} {N ci index j : Nat} {tp : (Nat → Int32) → List Value} (k0 : Nat) (hin : ∀ q ∈ u_ws C T N, q ∈ nt_tbl) (hn : k0 < nt_n w) (hE : nt_E w k0 = fun f => .inr (ci, tp f)) (hc : vwCl[ci]? = some (C, T, N)) (hj : j < N) (hlk : (own, index, (T j).1, (T j).2.1, (T j).2.2.1, host) ∈ nt_nestF) (ty0 : Nat → FieldType) (hty : ∀ k, k < N → parseFieldDescriptor (T k).2.2.1 = some (ty0 k)) (hnm : ∀ a, a < N → ∀ b, b < N → a ≠ b → (T a).2.1 ≠ (T b).2.1) (hfin : (T j).2.2.2 = false) {ty : FieldType} {v : Int32} (hd : parseFieldDescriptor (T j).2.2.1 = some ty) (hnr : narrow ty (.int v) = .int v) (hfit : fits ty (.int v) = true) (hlen : ∀ f, j < (tp f).length) (hs : ∀ f : Nat → Int32, (tp f).set j (.int v) = tp (upd f j v)) (d : decode cc pc = .ok (.putfield index, 3)) (k : nt_G p l e R s m args below meth c w A cells slots Q nL (pc + 3) lv rest (nt_st g k0 j v)) : nt_G p l e R s m args below meth c w A cells slots Q nL pc lv (.int v :: .ref (nt_a w k0) :: rest) g := by
  intro H locs ls hP hD hS hl
  have he : (nt_W w g)[k0]? = some (nt_a w k0, .inr (ci, tp (g k0))) := by rw [nt_W_at hn, hE]
  refine va_putN X.1 X.2.1 X.2.2.2.2.1 hin ty0 hty hnm X.2.2.2.1 X.2.2.2.2.2.2.2.1 hP hD hS k0 he hc j hj (va_Nw.use rfl (X.2.2.2.2.2.2.2.2.2.1.1 _ hlk)) (fun _ h => h) hfin hd hnr hfit (hlen _) d (fun H1 locs1 hP1 hD1 hS1 => ?_)
  have e2 : (nt_W w g).set k0 (nt_a w k0, .inr (ci, (tp (g k0)).set j (.int v))) = nt_W w (nt_st g k0 j v) := by
    rw [nt_st, ← nt_W_set hn, hE, hs]
  rw [e2] at hP1 hD1
  exact k H1 locs1 ls hP1 hD1 hS1 hl
theorem nt_putL (X : nt_X cc nL own ret w A p s m args meth c) {C : String} {T : u_T} {N ci index j : Nat} {tp : (Nat → Int32) → List Value} (k0 : Nat) (hin : ∀ q ∈ u_ws C T N, q ∈ nt_tbl) (hn : k0 < nt_n w) (hE : nt_E w k0 = fun f => .inr (ci, tp f)) (hc : vwCl[ci]? = some (C, T, N)) (hj : j < N) (hlk : Cond.fieldLink own index (T j).1 (T j).2.1 (T j).2.2.1 ∈ nt_tbl) (ty0 : Nat → FieldType) (hty : ∀ k, k < N → parseFieldDescriptor (T k).2.2.1 = some (ty0 k)) (hnm : ∀ a, a < N → ∀ b, b < N → a ≠ b → (T a).2.1 ≠ (T b).2.1) (hfin : (T j).2.2.2 = false) {v : Int64} (hd : parseFieldDescriptor (T j).2.2.1 = some .long) (h1 h2 : Nat) (hlen : ∀ f, j < (tp f).length) (hs : ∀ f : Nat → Int32, (tp f).set j (.long v) = tp (upd (upd f h1 (nt_hi v)) h2 (nt_lo v))) (d : decode cc pc = .ok (.putfield index, 3)) (k : nt_G p l e R s m args below meth c w A cells slots Q nL (pc + 3) lv rest (nt_sc g k0 (upd (upd (g k0) h1 (nt_hi v)) h2 (nt_lo v)))) : nt_G p l e R s m args below meth c w A cells slots Q nL pc lv (.long v :: .ref (nt_a w k0) :: rest) g := by
  intro H locs ls hP hD hS hl
  have he : (nt_W w g)[k0]? = some (nt_a w k0, .inr (ci, tp (g k0))) := by rw [nt_W_at hn, hE]
  refine va_put X.1 X.2.1 X.2.2.2.2.1 hin ty0 hty hnm X.2.2.2.1 X.2.2.2.2.2.2.2.1 hP hD hS k0 he hc j hj (X.2.2.2.2.1 _ hlk) (fun _ h => h) hfin hd rfl rfl (hlen _) d (fun H1 locs1 hP1 hD1 hS1 => ?_)
  have e2 : (nt_W w g).set k0 (nt_a w k0, .inr (ci, (tp (g k0)).set j (.long v))) = nt_W w (nt_sc g k0 (upd (upd (g k0) h1 (nt_hi v)) h2 (nt_lo v))) := by
    rw [← nt_W_set hn, hE, hs]
  rw [e2] at hP1 hD1
  exact k H1 locs1 ls hP1 hD1 hS1 hl
theorem nt_iald (X : nt_X cc nL own ret w A p s m args meth c) (k0 t0 : Nat) {cA : ClassId} {len : Nat} (hn : k0 < nt_n w) (hE : nt_E w k0 = fun f => .inl (cA, len, .inl f)) (ht : w.2.1[t0]? = some (cA, .int)) {i : Int32} (hi : nt_in i len = true) (d : decode cc pc = .ok (.iaload, 1)) (k : nt_G p l e R s m args below meth c w A cells slots Q nL (pc + 1) lv (.int (g k0 i.toNatClampNeg) :: rest) g) : nt_G p l e R s m args below meth c w A cells slots Q nL pc lv (.int i :: .ref (nt_a w k0) :: rest) g := by
  intro H locs ls hP hD hS hl
  have he : (nt_W w g)[k0]? = some (nt_a w k0, .inl (cA, len, .inl (g k0))) := by rw [nt_W_at hn, hE]
  exact va_iald X.1 X.2.1 X.2.2.2.2.2.2.2.1 hP k0 t0 he ht (nt_in_vp hi) d (k H locs ls hP hD hS hl)
theorem nt_iast (X : nt_X cc nL own ret w A p s m args meth c) (k0 t0 : Nat) {cA : ClassId} {len : Nat} (hn : k0 < nt_n w) (hE : nt_E w k0 = fun f => .inl (cA, len, .inl f)) (ht : w.2.1[t0]? = some (cA, .int)) {i v : Int32} (hi : nt_in i len = true) (d : decode cc pc = .ok (.iastore, 1)) (k : nt_G p l e R s m args below meth c w A cells slots Q nL (pc + 1) lv rest (nt_st g k0 i.toNatClampNeg v)) : nt_G p l e R s m args below meth c w A cells slots Q nL pc lv (.int v :: .int i :: .ref (nt_a w k0) :: rest) g := by
  intro H locs ls hP hD hS hl
  have he : (nt_W w g)[k0]? = some (nt_a w k0, .inl (cA, len, .inl (g k0))) := by rw [nt_W_at hn, hE]
  refine va_iast X.1 X.2.1 X.2.2.2.2.2.2.2.1 hP hD hS k0 t0 he ht (nt_in_vp hi) d (fun H1 locs1 hP1 hD1 hS1 => ?_)
  have e2 : (nt_W w g).set k0 (nt_a w k0, .inl (cA, len, .inl (upd (g k0) i.toNatClampNeg v))) = nt_W w (nt_st g k0 i.toNatClampNeg v) := by
    rw [nt_st, ← nt_W_set hn, hE]
  rw [e2] at hP1 hD1
  exact k H1 locs1 ls hP1 hD1 hS1 hl
theorem nt_zald (X : nt_X cc nL own ret w A p s m args meth c) (k0 t0 : Nat) {cA : ClassId} {len : Nat} (hn : k0 < nt_n w) (hE : nt_E w k0 = fun f => .inl (cA, len, .inl f)) (ht : w.2.1[t0]? = some (cA, .boolean)) {i : Int32} (hi : nt_in i len = true) (d : decode cc pc = .ok (.baload, 1)) (k : nt_G p l e R s m args below meth c w A cells slots Q nL (pc + 1) lv (.int (g k0 i.toNatClampNeg) :: rest) g) : nt_G p l e R s m args below meth c w A cells slots Q nL pc lv (.int i :: .ref (nt_a w k0) :: rest) g := by
  intro H locs ls hP hD hS hl
  have he : (nt_W w g)[k0]? = some (nt_a w k0, .inl (cA, len, .inl (g k0))) := by rw [nt_W_at hn, hE]
  exact va_zald X.1 X.2.1 X.2.2.2.2.2.2.2.1 hP k0 t0 he ht (nt_in_vp hi) d (k H locs ls hP hD hS hl)
theorem nt_zast (X : nt_X cc nL own ret w A p s m args meth c) (k0 t0 : Nat) {cA : ClassId} {len : Nat} (hn : k0 < nt_n w) (hE : nt_E w k0 = fun f => .inl (cA, len, .inl f)) (ht : w.2.1[t0]? = some (cA, .boolean)) {i v : Int32} (hi : nt_in i len = true) (d : decode cc pc = .ok (.bastore, 1)) (k : nt_G p l e R s m args below meth c w A cells slots Q nL (pc + 1) lv rest (nt_st g k0 i.toNatClampNeg (vp_nar .boolean v))) : nt_G p l e R s m args below meth c w A cells slots Q nL pc lv (.int v :: .int i :: .ref (nt_a w k0) :: rest) g := by
  intro H locs ls hP hD hS hl
  have he : (nt_W w g)[k0]? = some (nt_a w k0, .inl (cA, len, .inl (g k0))) := by rw [nt_W_at hn, hE]
  refine va_zast X.1 X.2.1 X.2.2.2.2.2.2.2.1 hP hD hS k0 t0 he ht (nt_in_vp hi) d (fun H1 locs1 hP1 hD1 hS1 => ?_)
  have e2 : (nt_W w g).set k0 (nt_a w k0, .inl (cA, len, .inl (upd (g k0) i.toNatClampNeg (vp_nar .boolean v)))) = nt_W w (nt_st g k0 i.toNatClampNeg (vp_nar .boolean v)) := by
    rw [nt_st, ← nt_W_set hn, hE]
  rw [e2] at hP1 hD1
  exact k H1 locs1 ls hP1 hD1 hS1 hl
theorem nt_alen (X : nt_X cc nL own ret w A p s m args meth c) (k0 t0 : Nat) {cA : ClassId} {len : Nat} (hn : k0 < nt_n w) (hE : nt_E w k0 = fun f => .inl (cA, len, .inl f)) {ty : FieldType} (ht : w.2.1[t0]? = some (cA, ty)) {v : Int32} (hv : Int32.ofNat len = v) (d : decode cc pc = .ok (.arraylength, 1)) (k : nt_G p l e R s m args below meth c w A cells slots Q nL (pc + 1) lv (.int v :: rest) g) : nt_G p l e R s m args below meth c w A cells slots Q nL pc lv (.ref (nt_a w k0) :: rest) g := by
  intro H locs ls hP hD hS hl
  have he : (nt_W w g)[k0]? = some (nt_a w k0, .inl (cA, len, .inl (g k0))) := by rw [nt_W_at hn, hE]
  exact va_alen X.1 X.2.1 X.2.2.2.2.2.2.2.1 hP k0 t0 he ht hv d (k H locs ls hP hD hS hl)
def nt_cpok (sp dp n : Int32) (n0 n1 : Nat) : Bool := decide (¬ sp < 0) && (decide (¬ dp < 0) && (decide (¬ n < 0) && (decide (sp.toNatClampNeg + n.toNatClampNeg ≤ n0) && decide (dp.toNatClampNeg + n.toNatClampNeg ≤ n1))))
theorem nt_copy (X : nt_X cc nL own ret w A p s m args meth c) {index : Nat} (hw : Cond.methodLink own index arraycopyName ∈ nt_tbl) (hwn : Cond.native arraycopyName ∈ nt_tbl) (hws : Cond.static arraycopyName ∈ nt_tbl) (hwi : Cond.initialized "java/lang/System" ∈ nt_tbl) (k0 k1 t0 : Nat) {cA : ClassId} {len0 len1 : Nat} (hn0 : k0 < nt_n w) (hE0 : nt_E w k0 = fun f => .inl (cA, len0, .inl f)) (hn1 : k1 < nt_n w) (hE1 : nt_E w k1 = fun f => .inl (cA, len1, .inl f)) (ht : w.2.1[t0]? = some (cA, .int)) {sp dp n : Int32} (hc : nt_cpok sp dp n len0 len1 = true) (hR : 1 ≤ R.frames ∧ (rest.map fun v => v.category).sum + (nativeFrameWords "java/lang/System" "arraycopy" 5 + 11) ≤ R.locals) (d : decode cc pc = .ok (.invokestatic index, 3)) (k : nt_G p l e R s m args below meth c w A cells slots Q nL (pc + 3) lv rest (nt_sc g k1 (va_cpy (g k0) (g k1) sp.toNatClampNeg dp.toNatClampNeg n.toNatClampNeg))) : nt_G p l e R s m args below meth c w A cells slots Q nL pc lv (.int n :: .int dp :: .ref (nt_a w k1) :: .int sp :: .ref (nt_a w k0) :: rest) g := by
  intro H locs ls hP hD hS hl
  have he0 : (nt_W w g)[k0]? = some (nt_a w k0, .inl (cA, len0, .inl (g k0))) := by rw [nt_W_at hn0, hE0]
  have he1 : (nt_W w g)[k1]? = some (nt_a w k1, .inl (cA, len1, .inl (g k1))) := by rw [nt_W_at hn1, hE1]
  simp only [nt_cpok, Bool.and_eq_true, decide_eq_true_eq] at hc
  obtain ⟨h1, h2, h3, h4, h5⟩ := hc
  refine va_copyi X.1 X.2.1 (X.2.2.1.trans hl.1.symm) X.2.2.2.1 (X.2.2.2.2.1 _ hw) (X.2.2.2.2.1 _ hwn) (X.2.2.2.2.1 _ hws) (X.2.2.2.2.1 _ hwi) X.2.2.2.2.2.2.2.1 hP hD hS k0 k1 t0 t0 he0 he1 ht ht rfl h1 h2 h3 h4 h5 (fun _ _ => rfl) hR.1 hR.2 d (fun H1 locs1 hP1 hD1 hS1 => ?_)
  have e2 : (nt_W w g).set k1 (nt_a w k1, .inl (cA, len1, .inl (va_cpy (g k0) (g k1) sp.toNatClampNeg dp.toNatClampNeg n.toNatClampNeg))) = nt_W w (nt_sc g k1 (va_cpy (g k0) (g k1) sp.toNatClampNeg dp.toNatClampNeg n.toNatClampNeg)) := by
    rw [← nt_W_set hn1, hE1]
  rw [e2] at hP1 hD1
  exact k H1 locs1 ls hP1 hD1 hS1 hl
theorem nt_mmax (X : nt_X cc nL own ret w A p s m args meth c) {index : Nat} (hw : Cond.methodLink own index Lib.Math.max.name ∈ nt_tbl) (hws : Cond.static Lib.Math.max.name ∈ nt_tbl) (hwi : Cond.initialized "java/lang/Math" ∈ nt_tbl) (hwc : Cond.code Lib.Math.max.name Lib.Math.max.code 2 (some .int) ∈ nt_tbl) (hR : 1 ≤ R.frames ∧ (rest.map fun v => v.category).sum + 13 ≤ R.locals) (hcs : cells ≤ R.cells ∧ slots ≤ R.slots) {x y : Int32} (d : decode cc pc = .ok (.invokestatic index, 3)) (k : nt_G p l e R s m args below meth c w A cells slots Q nL (pc + 3) lv (.int (if x < y then y else x) :: rest) g) : nt_G p l e R s m args below meth c w A cells slots Q nL pc lv (.int y :: .int x :: rest) g := fun H locs ls hP hD hS hl => va_mmax X.1 X.2.1 (X.2.2.1.trans hl.1.symm) X.2.2.2.1 (X.2.2.2.2.1 _ hw) (X.2.2.2.2.1 _ hws) (X.2.2.2.2.1 _ hwi) (X.2.2.2.2.1 _ hwc) hR.1 hR.2 hcs.1 hcs.2 d (k H locs ls hP hD hS hl)
theorem nt_mmin (X : nt_X cc nL own ret w A p s m args meth c) {index : Nat} (hw : Cond.methodLink own index Lib.Math.min.name ∈ nt_tbl) (hws : Cond.static Lib.Math.min.name ∈ nt_tbl) (hwi : Cond.initialized "java/lang/Math" ∈ nt_tbl) (hwc : Cond.code Lib.Math.min.name Lib.Math.min.code 2 (some .int) ∈ nt_tbl) (hR : 1 ≤ R.frames ∧ (rest.map fun v => v.category).sum + 13 ≤ R.locals) (hcs : cells ≤ R.cells ∧ slots ≤ R.slots) {x y : Int32} (d : decode cc pc = .ok (.invokestatic index, 3)) (k : nt_G p l e R s m args below meth c w A cells slots Q nL (pc + 3) lv (.int (if y < x then y else x) :: rest) g) : nt_G p l e R s m args below meth c w A cells slots Q nL pc lv (.int y :: .int x :: rest) g := fun H locs ls hP hD hS hl => va_mmin X.1 X.2.1 (X.2.2.1.trans hl.1.symm) X.2.2.2.1 (X.2.2.2.2.1 _ hw) (X.2.2.2.2.1 _ hws) (X.2.2.2.2.1 _ hwi) (X.2.2.2.2.1 _ hwc) hR.1 hR.2 hcs.1 hcs.2 d (k H locs ls hP hD hS hl)
theorem nt_blind {av : List Value} {sz : Nat} : FrameBlind (va_Pc av (nt_P w g sz)) := by
  intro a U gf mk q
  obtain ⟨q0, q1, q2, q3, q4, q5⟩ := q
  exact ⟨q0, q1, q2, va_K.moved (u := U) (U := U.calling gf mk a) (Vm.Alike.refl U.vm) q3, q4, nt_Z_blind q5⟩
theorem nt_sub_A {H : Heap} {locs : List Loc} (X : nt_X cc nL own ret w A p s m args meth c) (hD : va_D A (nt_W w g)) (hS : va_S A s.heap H locs) : ∀ q, va_A (nt_W w g) H.size q → A q := by
  intro q h
  rcases h with ⟨k, e, h⟩ | h
  · exact hD.2 k _ h
  · exact X.2.2.2.2.2.2.2.2.1 q (Nat.le_trans hS.1 h)
theorem nt_pre {H : Heap} {locs : List Loc} (X : nt_X cc nL own ret w A p s m args meth c) (hP : va_P w.1 vwCl (nt_W w g) H) (hD : va_D A (nt_W w g)) (hS : va_S A s.heap H locs) (av : List Value) : ∀ U : State, U.heap = H → s.WarmedH U.vm → va_Pc av (nt_P w g H.size) av.toArray U := by
  intro U hU hW
  refine ⟨rfl, by rw [hU], by rw [hU]; exact hP, va_K.moved hW.alike X.2.2.2.2.2.2.2.1, hD.weaken (fun _ _ _ _ => trivial), ?_⟩
  rw [hU]
  exact nt_Z_go X.2.2.2.2.2.2.2.2.2 hW (nt_sub_A X hD hS) hS
theorem nt_cVi (X : nt_X cc nL own ret w A p s m args meth c) {y : MethodName} {bytes : ByteArray} {maxL dp index : Nat} {rt : Option FieldType} {As stk : List Value} {r : Int32} {g2 : nt_T} (k0 : Nat) {C : String} {T : u_T} {N ci : Nat} {tp : (Nat → Int32) → List Value} (hn : k0 < nt_n w) (hE : nt_E w k0 = fun f => .inr (ci, tp f)) (hc : vwCl[ci]? = some (C, T, N)) (hM : nt_Mi l w y bytes maxL rt dp (.ref (nt_a w k0) :: As) g r g2) (hw0 : Cond.code y bytes maxL rt ∈ nt_tbl) (hw1 : Cond.methodLink own index y ∈ nt_tbl) (hw2 : Cond.instanceMethod y ∈ nt_tbl) (hw3 : Cond.selects C y y ∈ nt_tbl) (hw4 : Cond.initialized C ∈ nt_tbl) (hC : y.cls = C) (hd : y.cls ≠ "java/lang/invoke/MethodHandle" ∧ y.cls ≠ "java/lang/invoke/VarHandle" ∧ (parseMethodDescriptor y.desc).map (fun d => d.parameters.length) = some As.length) (hR : dp + 1 ≤ R.frames ∧ 8 + (maxL + 11) + 60 * dp ≤ R.locals) (hcs : cells ≤ R.cells ∧ slots ≤ R.slots) (hrs : (rest.map fun v => v.category).sum ≤ 8) (hst : stk = As.reverse ++ .ref (nt_a w k0) :: rest) (d : decode cc pc = .ok (.invokevirtual index, 3)) (k : nt_G p l e R s m args below meth c w A cells slots Q nL (pc + 3) lv (.int r :: rest) g2) : nt_G p l e R s m args below meth c w A cells slots Q nL pc lv stk g := by
  intro H locs ls hP hD hS hl
  subst hst
  have he : (nt_W w g)[k0]? = some (nt_a w k0, .inr (ci, tp (g k0))) := by rw [nt_W_at hn, hE]
  have hFc := nt_sub_A X hD hS
  have hGd : GoodIn nt_tbl (wsV own index C y (nt_ws y bytes maxL rt)) := by
    intro q hq
    rcases List.mem_append.mp hq with h | h
    · have hm : q ∈ nt_tbl := by
        rcases List.mem_cons.mp h with rfl | h
        · exact hw1
        rcases List.mem_cons.mp h with rfl | h
        · exact hw2
        rcases List.mem_cons.mp h with rfl | h
        · exact hw3
        rcases List.mem_cons.mp h with rfl | h
        · exact hw4
        cases h
      exact ⟨hm, good_of_word (nt_good q hm)⟩
    · exact nt_ws_good hw0 q h
  refine va_calli (va_runV (As := As) (rest := rest) (C := C) ⟨X.1, X.2.1, X.2.2.1, X.2.2.2.1, X.2.2.2.2.1⟩ (hM H.size) (cwV As.length X.2.2.2.2.1 hGd rfl rfl rfl ⟨hC, hd⟩ hR) ⟨nt_blind, va_recv X.2.2.2.2.2.2.2.1 hP hc he, nt_pre X hP hD hS _⟩ rfl rfl hl.1 rfl (lv_room hrs) d hcs) hS (fun q _ h => hFc q h) hFc (fun r1 u t H1 locs1 ht hvm hw hB hz1 hk1 hS1 => ?_)
  obtain ⟨rfl, rfl⟩ := hw
  refine k H1 locs1 ls ?_ (nt_W_dom hD) hS1 hl
  rw [← ht]
  exact hB
theorem nt_cVNi (X : nt_X cc nL own ret w A p s m args meth c) {y : MethodName} {bytes : ByteArray} {maxL dp index : Nat} {rt : Option FieldType} {As stk : List Value} {r : Int32} {g2 : nt_T} {host : String} (k0 : Nat) {C : String} {T : u_T} {N ci : Nat} {tp : (Nat → Int32) → List Value} (hn : k0 < nt_n w) (hE : nt_E w k0 = fun f => .inr (ci, tp f)) (hc : vwCl[ci]? = some (C, T, N)) (hM : nt_Mi l w y bytes maxL rt dp (.ref (nt_a w k0) :: As) g r g2) (hw0 : Cond.code y bytes maxL rt ∈ nt_tbl) (hw1 : (own, index, y, host) ∈ nt_nestM) (hw2 : Cond.instanceMethod y ∈ nt_tbl) (hw3 : Cond.selects C y y ∈ nt_tbl) (hw4 : Cond.initialized y.cls ∈ nt_tbl) (hd : y.cls ≠ "java/lang/invoke/MethodHandle" ∧ y.cls ≠ "java/lang/invoke/VarHandle" ∧ (parseMethodDescriptor y.desc).map (fun d => d.parameters.length) = some As.length) (hR : dp + 1 ≤ R.frames ∧ 8 + (maxL + 11) + 60 * dp ≤ R.locals) (hcs : cells ≤ R.cells ∧ slots ≤ R.slots) (hrs : (rest.map fun v => v.category).sum ≤ 8) (hst : stk = As.reverse ++ .ref (nt_a w k0) :: rest) (d : decode cc pc = .ok (.invokevirtual index, 3)) (k : nt_G p l e R s m args below meth c w A cells slots Q nL (pc + 3) lv (.int r :: rest) g2) : nt_G p l e R s m args below meth c w A cells slots Q nL pc lv stk g := by
  intro H locs ls hP hD hS hl
  subst hst
  have he : (nt_W w g)[k0]? = some (nt_a w k0, .inr (ci, tp (g k0))) := by rw [nt_W_at hn, hE]
  have hFc := nt_sub_A X hD hS
  refine va_calli (va_runVN (As := As) (rest := rest) (C := C) ⟨X.1, X.2.1, X.2.2.1, X.2.2.2.1, X.2.2.2.2.1⟩ (hM H.size) ⟨va_cnB As.length X.2.2.2.2.1 (nt_ws_good hw0) rfl rfl rfl (X.2.2.2.2.2.2.2.2.2.1.2 _ hw1) (X.2.2.2.2.1 _ hw4) hd hR, X.2.2.2.2.1 _ hw2, X.2.2.2.2.1 _ hw3⟩ ⟨nt_blind, va_recv X.2.2.2.2.2.2.2.1 hP hc he, nt_pre X hP hD hS _⟩ rfl rfl hl.1 rfl (lv_room hrs) d hcs) hS (fun q _ h => hFc q h) hFc (fun r1 u t H1 locs1 ht hvm hw hB hz1 hk1 hS1 => ?_)
  obtain ⟨rfl, rfl⟩ := hw
  refine k H1 locs1 ls ?_ (nt_W_dom hD) hS1 hl
  rw [← ht]
  exact hB
theorem nt_cSi (X : nt_X cc nL own ret w A p s m args meth c) {y : MethodName} {bytes : ByteArray} {maxL dp index : Nat} {rt : Option FieldType} {As stk : List Value} {r : Int32} {g2 : nt_T} (hM : nt_Mi l w y bytes maxL rt dp As g r g2) (hw0 : Cond.code y bytes maxL rt ∈ nt_tbl) (hw1 : Cond.methodLink own index y ∈ nt_tbl) (hw2 : Cond.static y ∈ nt_tbl) (hw4 : Cond.initialized y.cls ∈ nt_tbl) (hd : y.cls ≠ "java/lang/invoke/MethodHandle" ∧ y.cls ≠ "java/lang/invoke/VarHandle" ∧ (parseMethodDescriptor y.desc).map (fun d => d.parameters.length) = some As.length) (hR : dp + 1 ≤ R.frames ∧ 8 + (maxL + 11) + 60 * dp ≤ R.locals) (hcs : cells ≤ R.cells ∧ slots ≤ R.slots) (hrs : (rest.map fun v => v.category).sum ≤ 8) (hst : stk = As.reverse ++ rest) (d : decode cc pc = .ok (.invokestatic index, 3)) (k : nt_G p l e R s m args below meth c w A cells slots Q nL (pc + 3) lv (.int r :: rest) g2) : nt_G p l e R s m args below meth c w A cells slots Q nL pc lv stk g := by
  intro H locs ls hP hD hS hl
  subst hst
  have hFc := nt_sub_A X hD hS
  refine va_calli (va_runS (As := As) (rest := rest) ⟨X.1, X.2.1, X.2.2.1, X.2.2.2.1, X.2.2.2.2.1⟩ (hM H.size) ⟨callB_of As.length X.2.2.2.2.1 (nt_ws_good hw0) rfl rfl rfl (X.2.2.2.2.1 _ hw4) (X.2.2.2.2.1 _ hw1) hd hR, X.2.2.2.2.1 _ hw2⟩ ⟨nt_blind, nt_pre X hP hD hS _⟩ rfl rfl hl.1 rfl (lv_room hrs) d hcs) hS (fun q _ h => hFc q h) hFc (fun r1 u t H1 locs1 ht hvm hw hB hz1 hk1 hS1 => ?_)
  obtain ⟨rfl, rfl⟩ := hw
  refine k H1 locs1 ls ?_ (nt_W_dom hD) hS1 hl
  rw [← ht]
  exact hB
theorem nt_cSNi (X : nt_X cc nL own ret w A p s m args meth c) {y : MethodName} {bytes : ByteArray} {maxL dp index : Nat} {rt : Option FieldType} {As stk : List Value} {r : Int32} {g2 : nt_T} {host : String} (hM : nt_Mi l w y bytes maxL rt dp As g r g2) (hw0 : Cond.code y bytes maxL rt ∈ nt_tbl) (hw1 : (own, index, y, host) ∈ nt_nestM) (hw2 : Cond.static y ∈ nt_tbl) (hw4 : Cond.initialized y.cls ∈ nt_tbl) (hd : y.cls ≠ "java/lang/invoke/MethodHandle" ∧ y.cls ≠ "java/lang/invoke/VarHandle" ∧ (parseMethodDescriptor y.desc).map (fun d => d.parameters.length) = some As.length) (hR : dp + 1 ≤ R.frames ∧ 8 + (maxL + 11) + 60 * dp ≤ R.locals) (hcs : cells ≤ R.cells ∧ slots ≤ R.slots) (hrs : (rest.map fun v => v.category).sum ≤ 8) (hst : stk = As.reverse ++ rest) (d : decode cc pc = .ok (.invokestatic index, 3)) (k : nt_G p l e R s m args below meth c w A cells slots Q nL (pc + 3) lv (.int r :: rest) g2) : nt_G p l e R s m args below meth c w A cells slots Q nL pc lv stk g := by
  intro H locs ls hP hD hS hl
  subst hst
  have hFc := nt_sub_A X hD hS
  refine va_calli (va_runSN (As := As) (rest := rest) ⟨X.1, X.2.1, X.2.2.1, X.2.2.2.1, X.2.2.2.2.1⟩ (hM H.size) ⟨va_cnB As.length X.2.2.2.2.1 (nt_ws_good hw0) rfl rfl rfl (X.2.2.2.2.2.2.2.2.2.1.2 _ hw1) (X.2.2.2.2.1 _ hw4) hd hR, X.2.2.2.2.1 _ hw2, trivial⟩ ⟨nt_blind, nt_pre X hP hD hS _⟩ rfl rfl hl.1 rfl (lv_room hrs) d hcs) hS (fun q _ h => hFc q h) hFc (fun r1 u t H1 locs1 ht hvm hw hB hz1 hk1 hS1 => ?_)
  obtain ⟨rfl, rfl⟩ := hw
  refine k H1 locs1 ls ?_ (nt_W_dom hD) hS1 hl
  rw [← ht]
  exact hB
theorem nt_cVl (X : nt_X cc nL own ret w A p s m args meth c) {y : MethodName} {bytes : ByteArray} {maxL dp index : Nat} {rt : Option FieldType} {As stk : List Value} {r : Int64} {g2 : nt_T} (k0 : Nat) {C : String} {T : u_T} {N ci : Nat} {tp : (Nat → Int32) → List Value} (hn : k0 < nt_n w) (hE : nt_E w k0 = fun f => .inr (ci, tp f)) (hc : vwCl[ci]? = some (C, T, N)) (hM : nt_Ml l w y bytes maxL rt dp (.ref (nt_a w k0) :: As) g r g2) (hw0 : Cond.code y bytes maxL rt ∈ nt_tbl) (hw1 : Cond.methodLink own index y ∈ nt_tbl) (hw2 : Cond.instanceMethod y ∈ nt_tbl) (hw3 : Cond.selects C y y ∈ nt_tbl) (hw4 : Cond.initialized C ∈ nt_tbl) (hC : y.cls = C) (hd : y.cls ≠ "java/lang/invoke/MethodHandle" ∧ y.cls ≠ "java/lang/invoke/VarHandle" ∧ (parseMethodDescriptor y.desc).map (fun d => d.parameters.length) = some As.length) (hR : dp + 1 ≤ R.frames ∧ 8 + (maxL + 11) + 60 * dp ≤ R.locals) (hcs : cells ≤ R.cells ∧ slots ≤ R.slots) (hrs : (rest.map fun v => v.category).sum ≤ 8) (hst : stk = As.reverse ++ .ref (nt_a w k0) :: rest) (d : decode cc pc = .ok (.invokevirtual index, 3)) (k : nt_G p l e R s m args below meth c w A cells slots Q nL (pc + 3) lv (.long r :: rest) g2) : nt_G p l e R s m args below meth c w A cells slots Q nL pc lv stk g := by
  intro H locs ls hP hD hS hl
  subst hst
  have he : (nt_W w g)[k0]? = some (nt_a w k0, .inr (ci, tp (g k0))) := by rw [nt_W_at hn, hE]
  have hFc := nt_sub_A X hD hS
  have hGd : GoodIn nt_tbl (wsV own index C y (nt_ws y bytes maxL rt)) := by
    intro q hq
    rcases List.mem_append.mp hq with h | h
    · have hm : q ∈ nt_tbl := by
        rcases List.mem_cons.mp h with rfl | h
        · exact hw1
        rcases List.mem_cons.mp h with rfl | h
        · exact hw2
        rcases List.mem_cons.mp h with rfl | h
        · exact hw3
        rcases List.mem_cons.mp h with rfl | h
        · exact hw4
        cases h
      exact ⟨hm, good_of_word (nt_good q hm)⟩
    · exact nt_ws_good hw0 q h
  refine va_calll (va_runV (As := As) (rest := rest) (C := C) ⟨X.1, X.2.1, X.2.2.1, X.2.2.2.1, X.2.2.2.2.1⟩ (hM H.size) (cwV As.length X.2.2.2.2.1 hGd rfl rfl rfl ⟨hC, hd⟩ hR) ⟨nt_blind, va_recv X.2.2.2.2.2.2.2.1 hP hc he, nt_pre X hP hD hS _⟩ rfl rfl hl.1 rfl (lv_room hrs) d hcs) hS (fun q _ h => hFc q h) hFc (fun r1 u t H1 locs1 ht hvm hw hB hz1 hk1 hS1 => ?_)
  obtain ⟨rfl, rfl⟩ := hw
  refine k H1 locs1 ls ?_ (nt_W_dom hD) hS1 hl
  rw [← ht]
  exact hB
theorem nt_cVNl (X : nt_X cc nL own ret w A p s m args meth c) {y : MethodName} {bytes : ByteArray} {maxL dp index : Nat} {rt : Option FieldType} {As stk : List Value} {r : Int64} {g2 : nt_T} {host : String} (k0 : Nat) {C : String} {T : u_T} {N ci : Nat} {tp : (Nat → Int32) → List Value} (hn : k0 < nt_n w) (hE : nt_E w k0 = fun f => .inr (ci, tp f)) (hc : vwCl[ci]? = some (C, T, N)) (hM : nt_Ml l w y bytes maxL rt dp (.ref (nt_a w k0) :: As) g r g2) (hw0 : Cond.code y bytes maxL rt ∈ nt_tbl) (hw1 : (own, index, y, host) ∈ nt_nestM) (hw2 : Cond.instanceMethod y ∈ nt_tbl) (hw3 : Cond.selects C y y ∈ nt_tbl) (hw4 : Cond.initialized y.cls ∈ nt_tbl) (hd : y.cls ≠ "java/lang/invoke/MethodHandle" ∧ y.cls ≠ "java/lang/invoke/VarHandle" ∧ (parseMethodDescriptor y.desc).map (fun d => d.parameters.length) = some As.length) (hR : dp + 1 ≤ R.frames ∧ 8 + (maxL + 11) + 60 * dp ≤ R.locals) (hcs : cells ≤ R.cells ∧ slots ≤ R.slots) (hrs : (rest.map fun v => v.category).sum ≤ 8) (hst : stk = As.reverse ++ .ref (nt_a w k0) :: rest) (d : decode cc pc = .ok (.invokevirtual index, 3)) (k : nt_G p l e R s m args below meth c w A cells slots Q nL (pc + 3) lv (.long r :: rest) g2) : nt_G p l e R s m args below meth c w A cells slots Q nL pc lv stk g := by
  intro H locs ls hP hD hS hl
  subst hst
  have he : (nt_W w g)[k0]? = some (nt_a w k0, .inr (ci, tp (g k0))) := by rw [nt_W_at hn, hE]
  have hFc := nt_sub_A X hD hS
  refine va_calll (va_runVN (As := As) (rest := rest) (C := C) ⟨X.1, X.2.1, X.2.2.1, X.2.2.2.1, X.2.2.2.2.1⟩ (hM H.size) ⟨va_cnB As.length X.2.2.2.2.1 (nt_ws_good hw0) rfl rfl rfl (X.2.2.2.2.2.2.2.2.2.1.2 _ hw1) (X.2.2.2.2.1 _ hw4) hd hR, X.2.2.2.2.1 _ hw2, X.2.2.2.2.1 _ hw3⟩ ⟨nt_blind, va_recv X.2.2.2.2.2.2.2.1 hP hc he, nt_pre X hP hD hS _⟩ rfl rfl hl.1 rfl (lv_room hrs) d hcs) hS (fun q _ h => hFc q h) hFc (fun r1 u t H1 locs1 ht hvm hw hB hz1 hk1 hS1 => ?_)
  obtain ⟨rfl, rfl⟩ := hw
  refine k H1 locs1 ls ?_ (nt_W_dom hD) hS1 hl
  rw [← ht]
  exact hB
theorem nt_cSl (X : nt_X cc nL own ret w A p s m args meth c) {y : MethodName} {bytes : ByteArray} {maxL dp index : Nat} {rt : Option FieldType} {As stk : List Value} {r : Int64} {g2 : nt_T} (hM : nt_Ml l w y bytes maxL rt dp As g r g2) (hw0 : Cond.code y bytes maxL rt ∈ nt_tbl) (hw1 : Cond.methodLink own index y ∈ nt_tbl) (hw2 : Cond.static y ∈ nt_tbl) (hw4 : Cond.initialized y.cls ∈ nt_tbl) (hd : y.cls ≠ "java/lang/invoke/MethodHandle" ∧ y.cls ≠ "java/lang/invoke/VarHandle" ∧ (parseMethodDescriptor y.desc).map (fun d => d.parameters.length) = some As.length) (hR : dp + 1 ≤ R.frames ∧ 8 + (maxL + 11) + 60 * dp ≤ R.locals) (hcs : cells ≤ R.cells ∧ slots ≤ R.slots) (hrs : (rest.map fun v => v.category).sum ≤ 8) (hst : stk = As.reverse ++ rest) (d : decode cc pc = .ok (.invokestatic index, 3)) (k : nt_G p l e R s m args below meth c w A cells slots Q nL (pc + 3) lv (.long r :: rest) g2) : nt_G p l e R s m args below meth c w A cells slots Q nL pc lv stk g := by
  intro H locs ls hP hD hS hl
  subst hst
  have hFc := nt_sub_A X hD hS
  refine va_calll (va_runS (As := As) (rest := rest) ⟨X.1, X.2.1, X.2.2.1, X.2.2.2.1, X.2.2.2.2.1⟩ (hM H.size) ⟨callB_of As.length X.2.2.2.2.1 (nt_ws_good hw0) rfl rfl rfl (X.2.2.2.2.1 _ hw4) (X.2.2.2.2.1 _ hw1) hd hR, X.2.2.2.2.1 _ hw2⟩ ⟨nt_blind, nt_pre X hP hD hS _⟩ rfl rfl hl.1 rfl (lv_room hrs) d hcs) hS (fun q _ h => hFc q h) hFc (fun r1 u t H1 locs1 ht hvm hw hB hz1 hk1 hS1 => ?_)
  obtain ⟨rfl, rfl⟩ := hw
  refine k H1 locs1 ls ?_ (nt_W_dom hD) hS1 hl
  rw [← ht]
  exact hB
theorem nt_cSNl (X : nt_X cc nL own ret w A p s m args meth c) {y : MethodName} {bytes : ByteArray} {maxL dp index : Nat} {rt : Option FieldType} {As stk : List Value} {r : Int64} {g2 : nt_T} {host : String} (hM : nt_Ml l w y bytes maxL rt dp As g r g2) (hw0 : Cond.code y bytes maxL rt ∈ nt_tbl) (hw1 : (own, index, y, host) ∈ nt_nestM) (hw2 : Cond.static y ∈ nt_tbl) (hw4 : Cond.initialized y.cls ∈ nt_tbl) (hd : y.cls ≠ "java/lang/invoke/MethodHandle" ∧ y.cls ≠ "java/lang/invoke/VarHandle" ∧ (parseMethodDescriptor y.desc).map (fun d => d.parameters.length) = some As.length) (hR : dp + 1 ≤ R.frames ∧ 8 + (maxL + 11) + 60 * dp ≤ R.locals) (hcs : cells ≤ R.cells ∧ slots ≤ R.slots) (hrs : (rest.map fun v => v.category).sum ≤ 8) (hst : stk = As.reverse ++ rest) (d : decode cc pc = .ok (.invokestatic index, 3)) (k : nt_G p l e R s m args below meth c w A cells slots Q nL (pc + 3) lv (.long r :: rest) g2) : nt_G p l e R s m args below meth c w A cells slots Q nL pc lv stk g := by
  intro H locs ls hP hD hS hl
  subst hst
  have hFc := nt_sub_A X hD hS
  refine va_calll (va_runSN (As := As) (rest := rest) ⟨X.1, X.2.1, X.2.2.1, X.2.2.2.1, X.2.2.2.2.1⟩ (hM H.size) ⟨va_cnB As.length X.2.2.2.2.1 (nt_ws_good hw0) rfl rfl rfl (X.2.2.2.2.2.2.2.2.2.1.2 _ hw1) (X.2.2.2.2.1 _ hw4) hd hR, X.2.2.2.2.1 _ hw2, trivial⟩ ⟨nt_blind, nt_pre X hP hD hS _⟩ rfl rfl hl.1 rfl (lv_room hrs) d hcs) hS (fun q _ h => hFc q h) hFc (fun r1 u t H1 locs1 ht hvm hw hB hz1 hk1 hS1 => ?_)
  obtain ⟨rfl, rfl⟩ := hw
  refine k H1 locs1 ls ?_ (nt_W_dom hD) hS1 hl
  rw [← ht]
  exact hB
theorem nt_cVv (X : nt_X cc nL own ret w A p s m args meth c) {y : MethodName} {bytes : ByteArray} {maxL dp index : Nat} {rt : Option FieldType} {As stk : List Value} {g2 : nt_T} (k0 : Nat) {C : String} {T : u_T} {N ci : Nat} {tp : (Nat → Int32) → List Value} (hn : k0 < nt_n w) (hE : nt_E w k0 = fun f => .inr (ci, tp f)) (hc : vwCl[ci]? = some (C, T, N)) (hM : nt_Mv l w y bytes maxL rt dp (.ref (nt_a w k0) :: As) g g2) (hw0 : Cond.code y bytes maxL rt ∈ nt_tbl) (hw1 : Cond.methodLink own index y ∈ nt_tbl) (hw2 : Cond.instanceMethod y ∈ nt_tbl) (hw3 : Cond.selects C y y ∈ nt_tbl) (hw4 : Cond.initialized C ∈ nt_tbl) (hC : y.cls = C) (hd : y.cls ≠ "java/lang/invoke/MethodHandle" ∧ y.cls ≠ "java/lang/invoke/VarHandle" ∧ (parseMethodDescriptor y.desc).map (fun d => d.parameters.length) = some As.length) (hR : dp + 1 ≤ R.frames ∧ 8 + (maxL + 11) + 60 * dp ≤ R.locals) (hcs : cells ≤ R.cells ∧ slots ≤ R.slots) (hrs : (rest.map fun v => v.category).sum ≤ 8) (hst : stk = As.reverse ++ .ref (nt_a w k0) :: rest) (d : decode cc pc = .ok (.invokevirtual index, 3)) (k : nt_G p l e R s m args below meth c w A cells slots Q nL (pc + 3) lv (rest) g2) : nt_G p l e R s m args below meth c w A cells slots Q nL pc lv stk g := by
  intro H locs ls hP hD hS hl
  subst hst
  have he : (nt_W w g)[k0]? = some (nt_a w k0, .inr (ci, tp (g k0))) := by rw [nt_W_at hn, hE]
  have hFc := nt_sub_A X hD hS
  have hGd : GoodIn nt_tbl (wsV own index C y (nt_ws y bytes maxL rt)) := by
    intro q hq
    rcases List.mem_append.mp hq with h | h
    · have hm : q ∈ nt_tbl := by
        rcases List.mem_cons.mp h with rfl | h
        · exact hw1
        rcases List.mem_cons.mp h with rfl | h
        · exact hw2
        rcases List.mem_cons.mp h with rfl | h
        · exact hw3
        rcases List.mem_cons.mp h with rfl | h
        · exact hw4
        cases h
      exact ⟨hm, good_of_word (nt_good q hm)⟩
    · exact nt_ws_good hw0 q h
  refine va_callv (va_runV (As := As) (rest := rest) (C := C) ⟨X.1, X.2.1, X.2.2.1, X.2.2.2.1, X.2.2.2.2.1⟩ (hM H.size) (cwV As.length X.2.2.2.2.1 hGd rfl rfl rfl ⟨hC, hd⟩ hR) ⟨nt_blind, va_recv X.2.2.2.2.2.2.2.1 hP hc he, nt_pre X hP hD hS _⟩ rfl rfl hl.1 rfl (lv_room hrs) d hcs) hS (fun q _ h => hFc q h) hFc (fun u t H1 locs1 ht hvm hw hB hz1 hk1 hS1 => ?_)
  subst hw
  refine k H1 locs1 ls ?_ (nt_W_dom hD) hS1 hl
  rw [← ht]
  exact hB
theorem nt_cVNv (X : nt_X cc nL own ret w A p s m args meth c) {y : MethodName} {bytes : ByteArray} {maxL dp index : Nat} {rt : Option FieldType} {As stk : List Value} {g2 : nt_T} {host : String} (k0 : Nat) {C : String} {T : u_T} {N ci : Nat} {tp : (Nat → Int32) → List Value} (hn : k0 < nt_n w) (hE : nt_E w k0 = fun f => .inr (ci, tp f)) (hc : vwCl[ci]? = some (C, T, N)) (hM : nt_Mv l w y bytes maxL rt dp (.ref (nt_a w k0) :: As) g g2) (hw0 : Cond.code y bytes maxL rt ∈ nt_tbl) (hw1 : (own, index, y, host) ∈ nt_nestM) (hw2 : Cond.instanceMethod y ∈ nt_tbl) (hw3 : Cond.selects C y y ∈ nt_tbl) (hw4 : Cond.initialized y.cls ∈ nt_tbl) (hd : y.cls ≠ "java/lang/invoke/MethodHandle" ∧ y.cls ≠ "java/lang/invoke/VarHandle" ∧ (parseMethodDescriptor y.desc).map (fun d => d.parameters.length) = some As.length) (hR : dp + 1 ≤ R.frames ∧ 8 + (maxL + 11) + 60 * dp ≤ R.locals) (hcs : cells ≤ R.cells ∧ slots ≤ R.slots) (hrs : (rest.map fun v => v.category).sum ≤ 8) (hst : stk = As.reverse ++ .ref (nt_a w k0) :: rest) (d : decode cc pc = .ok (.invokevirtual index, 3)) (k : nt_G p l e R s m args below meth c w A cells slots Q nL (pc + 3) lv (rest) g2) : nt_G p l e R s m args below meth c w A cells slots Q nL pc lv stk g := by
  intro H locs ls hP hD hS hl
  subst hst
  have he : (nt_W w g)[k0]? = some (nt_a w k0, .inr (ci, tp (g k0))) := by rw [nt_W_at hn, hE]
  have hFc := nt_sub_A X hD hS
  refine va_callv (va_runVN (As := As) (rest := rest) (C := C) ⟨X.1, X.2.1, X.2.2.1, X.2.2.2.1, X.2.2.2.2.1⟩ (hM H.size) ⟨va_cnB As.length X.2.2.2.2.1 (nt_ws_good hw0) rfl rfl rfl (X.2.2.2.2.2.2.2.2.2.1.2 _ hw1) (X.2.2.2.2.1 _ hw4) hd hR, X.2.2.2.2.1 _ hw2, X.2.2.2.2.1 _ hw3⟩ ⟨nt_blind, va_recv X.2.2.2.2.2.2.2.1 hP hc he, nt_pre X hP hD hS _⟩ rfl rfl hl.1 rfl (lv_room hrs) d hcs) hS (fun q _ h => hFc q h) hFc (fun u t H1 locs1 ht hvm hw hB hz1 hk1 hS1 => ?_)
  subst hw
  refine k H1 locs1 ls ?_ (nt_W_dom hD) hS1 hl
  rw [← ht]
  exact hB
theorem nt_cSv (X : nt_X cc nL own ret w A p s m args meth c) {y : MethodName} {bytes : ByteArray} {maxL dp index : Nat} {rt : Option FieldType} {As stk : List Value} {g2 : nt_T} (hM : nt_Mv l w y bytes maxL rt dp As g g2) (hw0 : Cond.code y bytes maxL rt ∈ nt_tbl) (hw1 : Cond.methodLink own index y ∈ nt_tbl) (hw2 : Cond.static y ∈ nt_tbl) (hw4 : Cond.initialized y.cls ∈ nt_tbl) (hd : y.cls ≠ "java/lang/invoke/MethodHandle" ∧ y.cls ≠ "java/lang/invoke/VarHandle" ∧ (parseMethodDescriptor y.desc).map (fun d => d.parameters.length) = some As.length) (hR : dp + 1 ≤ R.frames ∧ 8 + (maxL + 11) + 60 * dp ≤ R.locals) (hcs : cells ≤ R.cells ∧ slots ≤ R.slots) (hrs : (rest.map fun v => v.category).sum ≤ 8) (hst : stk = As.reverse ++ rest) (d : decode cc pc = .ok (.invokestatic index, 3)) (k : nt_G p l e R s m args below meth c w A cells slots Q nL (pc + 3) lv (rest) g2) : nt_G p l e R s m args below meth c w A cells slots Q nL pc lv stk g := by
  intro H locs ls hP hD hS hl
  subst hst
  have hFc := nt_sub_A X hD hS
  refine va_callv (va_runS (As := As) (rest := rest) ⟨X.1, X.2.1, X.2.2.1, X.2.2.2.1, X.2.2.2.2.1⟩ (hM H.size) ⟨callB_of As.length X.2.2.2.2.1 (nt_ws_good hw0) rfl rfl rfl (X.2.2.2.2.1 _ hw4) (X.2.2.2.2.1 _ hw1) hd hR, X.2.2.2.2.1 _ hw2⟩ ⟨nt_blind, nt_pre X hP hD hS _⟩ rfl rfl hl.1 rfl (lv_room hrs) d hcs) hS (fun q _ h => hFc q h) hFc (fun u t H1 locs1 ht hvm hw hB hz1 hk1 hS1 => ?_)
  subst hw
  refine k H1 locs1 ls ?_ (nt_W_dom hD) hS1 hl
  rw [← ht]
  exact hB
theorem nt_cSNv (X : nt_X cc nL own ret w A p s m args meth c) {y : MethodName} {bytes : ByteArray} {maxL dp index : Nat} {rt : Option FieldType} {As stk : List Value} {g2 : nt_T} {host : String} (hM : nt_Mv l w y bytes maxL rt dp As g g2) (hw0 : Cond.code y bytes maxL rt ∈ nt_tbl) (hw1 : (own, index, y, host) ∈ nt_nestM) (hw2 : Cond.static y ∈ nt_tbl) (hw4 : Cond.initialized y.cls ∈ nt_tbl) (hd : y.cls ≠ "java/lang/invoke/MethodHandle" ∧ y.cls ≠ "java/lang/invoke/VarHandle" ∧ (parseMethodDescriptor y.desc).map (fun d => d.parameters.length) = some As.length) (hR : dp + 1 ≤ R.frames ∧ 8 + (maxL + 11) + 60 * dp ≤ R.locals) (hcs : cells ≤ R.cells ∧ slots ≤ R.slots) (hrs : (rest.map fun v => v.category).sum ≤ 8) (hst : stk = As.reverse ++ rest) (d : decode cc pc = .ok (.invokestatic index, 3)) (k : nt_G p l e R s m args below meth c w A cells slots Q nL (pc + 3) lv (rest) g2) : nt_G p l e R s m args below meth c w A cells slots Q nL pc lv stk g := by
  intro H locs ls hP hD hS hl
  subst hst
  have hFc := nt_sub_A X hD hS
  refine va_callv (va_runSN (As := As) (rest := rest) ⟨X.1, X.2.1, X.2.2.1, X.2.2.2.1, X.2.2.2.2.1⟩ (hM H.size) ⟨va_cnB As.length X.2.2.2.2.1 (nt_ws_good hw0) rfl rfl rfl (X.2.2.2.2.2.2.2.2.2.1.2 _ hw1) (X.2.2.2.2.1 _ hw4) hd hR, X.2.2.2.2.1 _ hw2, trivial⟩ ⟨nt_blind, nt_pre X hP hD hS _⟩ rfl rfl hl.1 rfl (lv_room hrs) d hcs) hS (fun q _ h => hFc q h) hFc (fun u t H1 locs1 ht hvm hw hB hz1 hk1 hS1 => ?_)
  subst hw
  refine k H1 locs1 ls ?_ (nt_W_dom hD) hS1 hl
  rw [← ht]
  exact hB
theorem nt_iret (X : nt_X cc nL own (some .int) w A p s m args meth c) {r : Int32} {g2 : nt_T} (d : decode cc pc = .ok (.ireturn, 1)) {v : Int32} (h : (v, g) = (r, g2)) : nt_G p l e R s m args below meth c w A 0 0 (MQ below (va_Qi (fun (r' : Int32) (u : nt_T) => r' = r ∧ u = g2) (nt_B w) A) args s 0 0 A) nL pc lv [.int v] g := by
  intro H locs ls hP hD hS hl
  have hlocks := X.2.2.2.2.2.1
  exact W.iret X.1 X.2.1 X.2.2.2.2.2.2.1 (fun t ht hW => ⟨⟨v, g, rfl, ⟨(Prod.mk.inj h).1, (Prod.mk.inj h).2⟩, by rw [nt_B, ht]; exact hP⟩, hS.F ht⟩) hS.2.2 d
theorem nt_zret {ty : FieldType} (X : nt_X cc nL own (some ty) w A p s m args meth c) {r : Int32} {g2 : nt_T} {v : Int32} (hnr : narrow ty (.int v) = .int v) (d : decode cc pc = .ok (.ireturn, 1)) (h : (v, g) = (r, g2)) : nt_G p l e R s m args below meth c w A 0 0 (MQ below (va_Qi (fun (r' : Int32) (u : nt_T) => r' = r ∧ u = g2) (nt_B w) A) args s 0 0 A) nL pc lv [.int v] g := by
  intro H locs ls hP hD hS hl
  have hlocks := X.2.2.2.2.2.1
  exact W.zret X.1 X.2.1 X.2.2.2.2.2.2.1 hnr (fun t ht hW => ⟨⟨v, g, rfl, ⟨(Prod.mk.inj h).1, (Prod.mk.inj h).2⟩, by rw [nt_B, ht]; exact hP⟩, hS.F ht⟩) hS.2.2 d
theorem nt_Mi_of {y : MethodName} {dp : Nat} {av : List Value} {r : Int32} {g2 : nt_T} (hy : plainName y.cls = true) (hlen : (lg_sl av).length ≤ nL) (body : ∀ (p : Program) (e : Env) (s : State) (m : MethodId) (args : Array Value) (below : List Frame) (meth : Method) (c : Code) (A : Nat → Prop), nt_X cc nL y.cls ret w A p s m args meth c → nt_G p l e (nt_rm dp) s m args below meth c w A 0 0 (MQ below (va_Qi (fun (r' : Int32) (u : nt_T) => r' = r ∧ u = g2) (nt_B w) A) args s 0 0 A) nL 0 (lv_args 0 av) [] g) : nt_Mi l w y cc nL ret dp av g r g2 := by
  intro sz
  refine Met.ofW (cc := cc) (maxL := nL) (ret := ret) hy rfl ?_
  intro p e s m args below meth c s₁ B hml hv
  obtain ⟨rfl, hsz, hP, hK, hD0, hZ⟩ := hv
  have hts := atoms_spec (ws := nt_ws y cc nL ret) B.pre
  have hown : s.vm.findClass y.cls = some m.cls := findClass_of_methodNamed B.named
  subst hsz
  have hX : nt_X cc nL y.cls ret w (va_A (nt_W w g) s.heap.size) p s m av.toArray meth c := ⟨B.exec, B.bytes, hml, hown, fun q hq => hts q (List.mem_cons_of_mem _ hq), B.notSynchronized, B.returns, hK, fun q h => Or.inr h, hZ⟩
  have hl := lv_entry av (n := nL) hlen
  rw [lg_entry_eq]
  exact body p e s m av.toArray below meth c _ hX s.heap [] _ hP (hD0.self) va_S.rf hl
theorem nt_lret (X : nt_X cc nL own (some .long) w A p s m args meth c) {r : Int64} {g2 : nt_T} (d : decode cc pc = .ok (.lreturn, 1)) {v : Int64} (h : (v, g) = (r, g2)) : nt_G p l e R s m args below meth c w A 0 0 (MQ below (va_Ql (fun (r' : Int64) (u : nt_T) => r' = r ∧ u = g2) (nt_B w) A) args s 0 0 A) nL pc lv [.long v] g := by
  intro H locs ls hP hD hS hl
  have hlocks := X.2.2.2.2.2.1
  exact W.lret X.1 X.2.1 X.2.2.2.2.2.2.1 (fun t ht hW => ⟨⟨v, g, rfl, ⟨(Prod.mk.inj h).1, (Prod.mk.inj h).2⟩, by rw [nt_B, ht]; exact hP⟩, hS.F ht⟩) hS.2.2 d
theorem nt_Ml_of {y : MethodName} {dp : Nat} {av : List Value} {r : Int64} {g2 : nt_T} (hy : plainName y.cls = true) (hlen : (lg_sl av).length ≤ nL) (body : ∀ (p : Program) (e : Env) (s : State) (m : MethodId) (args : Array Value) (below : List Frame) (meth : Method) (c : Code) (A : Nat → Prop), nt_X cc nL y.cls ret w A p s m args meth c → nt_G p l e (nt_rm dp) s m args below meth c w A 0 0 (MQ below (va_Ql (fun (r' : Int64) (u : nt_T) => r' = r ∧ u = g2) (nt_B w) A) args s 0 0 A) nL 0 (lv_args 0 av) [] g) : nt_Ml l w y cc nL ret dp av g r g2 := by
  intro sz
  refine Met.ofW (cc := cc) (maxL := nL) (ret := ret) hy rfl ?_
  intro p e s m args below meth c s₁ B hml hv
  obtain ⟨rfl, hsz, hP, hK, hD0, hZ⟩ := hv
  have hts := atoms_spec (ws := nt_ws y cc nL ret) B.pre
  have hown : s.vm.findClass y.cls = some m.cls := findClass_of_methodNamed B.named
  subst hsz
  have hX : nt_X cc nL y.cls ret w (va_A (nt_W w g) s.heap.size) p s m av.toArray meth c := ⟨B.exec, B.bytes, hml, hown, fun q hq => hts q (List.mem_cons_of_mem _ hq), B.notSynchronized, B.returns, hK, fun q h => Or.inr h, hZ⟩
  have hl := lv_entry av (n := nL) hlen
  rw [lg_entry_eq]
  exact body p e s m av.toArray below meth c _ hX s.heap [] _ hP (hD0.self) va_S.rf hl
theorem nt_vret (X : nt_X cc nL own none w A p s m args meth c) {g2 : nt_T} (d : decode cc pc = .ok (.return_, 1)) (h : g = g2) : nt_G p l e R s m args below meth c w A 0 0 (MQ below (va_Qv (fun (u : nt_T) => u = g2) (nt_B w) A) args s 0 0 A) nL pc lv [] g := by
  intro H locs ls hP hD hS hl
  have hlocks := X.2.2.2.2.2.1
  exact W.vret X.1 X.2.1 X.2.2.2.2.2.2.1 (fun t ht hW => ⟨⟨g, rfl, h, by rw [nt_B, ht]; exact hP⟩, hS.F ht⟩) hS.2.2 d
theorem nt_Mv_of {y : MethodName} {dp : Nat} {av : List Value} {g2 : nt_T} (hy : plainName y.cls = true) (hlen : (lg_sl av).length ≤ nL) (body : ∀ (p : Program) (e : Env) (s : State) (m : MethodId) (args : Array Value) (below : List Frame) (meth : Method) (c : Code) (A : Nat → Prop), nt_X cc nL y.cls ret w A p s m args meth c → nt_G p l e (nt_rm dp) s m args below meth c w A 0 0 (MQ below (va_Qv (fun (u : nt_T) => u = g2) (nt_B w) A) args s 0 0 A) nL 0 (lv_args 0 av) [] g) : nt_Mv l w y cc nL ret dp av g g2 := by
  intro sz
  refine Met.ofW (cc := cc) (maxL := nL) (ret := ret) hy rfl ?_
  intro p e s m args below meth c s₁ B hml hv
  obtain ⟨rfl, hsz, hP, hK, hD0, hZ⟩ := hv
  have hts := atoms_spec (ws := nt_ws y cc nL ret) B.pre
  have hown : s.vm.findClass y.cls = some m.cls := findClass_of_methodNamed B.named
  subst hsz
  have hX : nt_X cc nL y.cls ret w (va_A (nt_W w g) s.heap.size) p s m av.toArray meth c := ⟨B.exec, B.bytes, hml, hown, fun q hq => hts q (List.mem_cons_of_mem _ hq), B.notSynchronized, B.returns, hK, fun q h => Or.inr h, hZ⟩
  have hl := lv_entry av (n := nL) hlen
  rw [lg_entry_eq]
  exact body p e s m av.toArray below meth c _ hX s.heap [] _ hP (hD0.self) va_S.rf hl
end NT
