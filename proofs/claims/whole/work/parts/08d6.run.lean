/-! ===== the machine of a text's code ===== -/
def jn (c a b : Int32) : Int32 := (fRu_joined c a b nt_g0).getD 0
theorem q_is {c : Prop} [Decidable c] {A B : Option Int32} (hA : ∃ v, A = some v) (hB : ∃ v, B = some v) : ∃ v, (if c then A else B) = some v := by
  by_cases h : c
  · rw [if_pos h]; exact hA
  · rw [if_neg h]; exact hB
theorem q_joined (c a b : Int32) (g : nt_T) : fRu_joined c a b g = some (jn c a b) := by
  have h : ∃ v, fRu_joined c a b nt_g0 = some v := by
    unfold fRu_joined
    repeat' (first | exact ⟨_, rfl⟩ | apply q_is)
  obtain ⟨v, hv⟩ := h
  unfold jn
  rw [hv]
  exact hv
def ms (nm : Nat → Int32) (c : Int32) (s : Nat × (Nat → Int32)) : Nat × (Nat → Int32) :=
  if c < 6 ∨ ¬ c < 32 then (if 31 ≤ s.1 then s else (s.1 + 1, upd s.2 s.1 (if 6 ≤ c then c - 32 else nm c.toNatClampNeg)))
  else if c = 8 ∨ c = 20 then (if s.1 < 1 then s else (s.1, upd s.2 (s.1 - 1) (if c = 20 then -(s.2 (s.1 - 1)) else if s.2 (s.1 - 1) = 0 then 1 else 0)))
  else if s.1 < 2 then s else (s.1 - 1, upd s.2 (s.1 - 2) (jn c (s.2 (s.1 - 2)) (s.2 (s.1 - 1))))
def RUN (nm : Nat → Int32) (code : Nat → Int32) (b : Nat) : Nat → Nat × (Nat → Int32) → Nat × (Nat → Int32)
  | 0, s => s
  | n + 1, s => ms nm (code (b + n)) (RUN nm code b n s)
theorem RUN_add (nm code : Nat → Int32) (b n : Nat) (s : Nat × (Nat → Int32)) : ∀ m, RUN nm code b (n + m) s = RUN nm code (b + n) m (RUN nm code b n s) := by
  intro m
  induction m with
  | zero => rfl
  | succ m ih =>
    show ms nm (code (b + (n + m))) (RUN nm code b (n + m) s) = ms nm (code (b + n + m)) (RUN nm code (b + n) m (RUN nm code b n s))
    rw [ih, Nat.add_assoc]
theorem RUN_congr {nm code code' : Nat → Int32} {b : Nat} {s : Nat × (Nat → Int32)} : ∀ n, (∀ j, b ≤ j → j < b + n → code' j = code j) → RUN nm code' b n s = RUN nm code b n s := by
  intro n
  induction n with
  | zero => intro _; rfl
  | succ n ih =>
    intro h
    show ms nm (code' (b + n)) (RUN nm code' b n s) = ms nm (code (b + n)) (RUN nm code b n s)
    rw [ih (fun j h1 h2 => h j h1 (by omega)), h (b + n) (by omega) (by omega)]
def PUSH (nm code : Nat → Int32) (b n need : Nat) (v : Int32) : Prop := ∀ x st, x + need ≤ 31 → (RUN nm code b n (x, st)).1 = x + 1 ∧ (RUN nm code b n (x, st)).2 x = v ∧ ∀ j, j < x → (RUN nm code b n (x, st)).2 j = st j
theorem PUSH_need {nm code : Nat → Int32} {b n need need' : Nat} {v : Int32} (h : PUSH nm code b n need v) (hn : need ≤ need') : PUSH nm code b n need' v := fun x st q => h x st (by omega)
theorem PUSH_congr {nm code code' : Nat → Int32} {b n need : Nat} {v : Int32} (h : PUSH nm code b n need v) (hc : ∀ j, b ≤ j → j < b + n → code' j = code j) : PUSH nm code' b n need v := by
  intro x st q
  rw [RUN_congr n hc]
  exact h x st q
theorem PUSH_num {nm code : Nat → Int32} {b v : Nat} (hv : v < 10000) (hc : code b = nI (32 + v)) : PUSH nm code b 1 1 (nI v) := by
  intro x st q
  have c1 : ¬ nI (32 + v) < (32 : Int32) := nI_nlt (a := 32 + v) (b := 32) (by omega) (by omega)
  have c2 : (6 : Int32) ≤ nI (32 + v) := nI_le (a := 6) (by omega) (by omega)
  have e : RUN nm code b 1 (x, st) = (x + 1, upd st x (nI v)) := by
    show ms nm (code (b + 0)) (x, st) = _
    rw [Nat.add_zero, hc]
    unfold ms
    rw [if_pos (Or.inr c1), if_neg (show ¬ 31 ≤ x by omega), if_pos c2, show (32 : Int32) = nI 32 from rfl, pk_sub (by omega), Nat.add_sub_cancel_left]
  rw [e]
  exact ⟨rfl, pk_us, fun j hj => pk_un (by omega)⟩
theorem PUSH_name {nm code : Nat → Int32} {b k : Nat} (hk : k < 6) (hc : code b = nI k) : PUSH nm code b 1 1 (nm k) := by
  intro x st q
  have c1 : nI k < (6 : Int32) := nI_lt (b := 6) (by omega) (by omega)
  have c2 : ¬ (6 : Int32) ≤ nI k := nI_ge (b := 6) (by omega) (by omega)
  have e : RUN nm code b 1 (x, st) = (x + 1, upd st x (nm k)) := by
    show ms nm (code (b + 0)) (x, st) = _
    rw [Nat.add_zero, hc]
    unfold ms
    rw [if_pos (Or.inl c1), if_neg (show ¬ 31 ≤ x by omega), if_neg c2, nI_clamp (by omega)]
  rw [e]
  exact ⟨rfl, pk_us, fun j hj => pk_un (by omega)⟩
theorem PUSH_un {nm code : Nat → Int32} {b n need : Nat} {v c : Int32} (h : PUSH nm code b n need v) (hc : code (b + n) = c) (h8 : c = 8 ∨ c = 20) : PUSH nm code b (n + 1) need (if c = 20 then -v else if v = 0 then 1 else 0) := by
  intro x st q
  obtain ⟨a1, a2, a3⟩ := h x st q
  have c0 : ¬ (c < 6 ∨ ¬ c < 32) := by rcases h8 with rfl | rfl <;> decide
  have e : RUN nm code b (n + 1) (x, st) = (x + 1, upd (RUN nm code b n (x, st)).2 x (if c = 20 then -v else if v = 0 then 1 else 0)) := by
    show ms nm (code (b + n)) (RUN nm code b n (x, st)) = _
    rw [hc]
    unfold ms
    rw [if_neg c0, if_pos h8, a1, if_neg (by omega), Nat.add_sub_cancel, a2]
  rw [e]
  exact ⟨rfl, pk_us, fun j hj => by
    show upd _ x _ j = _
    rw [pk_un (by omega)]
    exact a3 j hj⟩
theorem PUSH_bin {nm code : Nat → Int32} {b n n2 need need1 need2 : Nat} {v w c : Int32} (h : PUSH nm code b n need1 v) (h2 : PUSH nm code (b + n) n2 need2 w) (hc : code (b + n + n2) = c) (c0 : ¬ (c < 6 ∨ ¬ c < 32)) (c8 : ¬ (c = 8 ∨ c = 20)) (hn1 : need1 ≤ need) (hn2 : need2 + 1 ≤ need) : PUSH nm code b (n + n2 + 1) need (jn c v w) := by
  intro x st q
  obtain ⟨a1, a2, a3⟩ := h x st (by omega)
  obtain ⟨d1, d2, d3⟩ := h2 (x + 1) (RUN nm code b n (x, st)).2 (by omega)
  have eq : RUN nm code b n (x, st) = (x + 1, (RUN nm code b n (x, st)).2) := Prod.ext a1 rfl
  have e : RUN nm code b (n + n2 + 1) (x, st) = (x + 1, upd (RUN nm code (b + n) n2 (x + 1, (RUN nm code b n (x, st)).2)).2 x (jn c v w)) := by
    show ms nm (code (b + (n + n2))) (RUN nm code b (n + n2) (x, st)) = _
    rw [← Nat.add_assoc, hc, RUN_add, eq]
    unfold ms
    rw [if_neg c0, if_neg c8, d1, if_neg (by omega), show x + 1 + 1 - 1 = x + 1 by omega, show x + 1 + 1 - 2 = x by omega, d2, d3 x (by omega), a2]
  rw [e]
  exact ⟨rfl, pk_us, fun j hj => by
    show upd _ x _ j = _
    rw [pk_un (by omega), d3 j (by omega)]
    exact a3 j hj⟩
theorem jn_or (a b : Int32) : jn 6 a b = if a = 0 then (if b = 0 then 0 else 1) else 1 := by
  unfold jn fRu_joined
  rw [if_pos rfl]
  by_cases h : a = 0
  · rw [if_pos h, if_pos h]
    by_cases h2 : b = 0
    · rw [if_pos h2, if_pos h2]; rfl
    · rw [if_neg h2, if_neg h2]; rfl
  · rw [if_neg h, if_neg h]; rfl
theorem jn_and (a b : Int32) : jn 7 a b = if a = 0 then 0 else (if b = 0 then 0 else 1) := by
  unfold jn fRu_joined
  rw [if_neg (by decide), if_pos rfl]
  by_cases h : a = 0
  · rw [if_pos h, if_pos h]; rfl
  · rw [if_neg h, if_neg h]
    by_cases h2 : b = 0
    · rw [if_pos h2, if_pos h2]; rfl
    · rw [if_neg h2, if_neg h2]; rfl
theorem jn_add (a b : Int32) : jn 15 a b = a + b := by
  unfold jn fRu_joined
  iterate 9 rw [if_neg (by decide)]
  rw [if_pos rfl]; rfl
theorem jn_sub (a b : Int32) : jn 16 a b = a - b := by
  unfold jn fRu_joined
  iterate 10 rw [if_neg (by decide)]
  rw [if_pos rfl]; rfl
theorem jn_mul (a b : Int32) : jn 17 a b = a * b := by
  unfold jn fRu_joined
  iterate 11 rw [if_neg (by decide)]
  rw [if_pos rfl]; rfl
theorem jn_less (a b : Int32) : jn 18 a b = if b ≤ a then 0 else 1 := by
  unfold jn fRu_joined
  iterate 12 rw [if_neg (by decide)]
  rw [if_pos rfl]
  by_cases h : b ≤ a
  · rw [if_pos h, if_pos h]; rfl
  · rw [if_neg h, if_neg h]; rfl
theorem jn_same (a b : Int32) : jn 19 a b = if a = b then 1 else 0 := by
  unfold jn fRu_joined
  iterate 13 rw [if_neg (by decide)]
  rw [if_pos rfl]
  by_cases h : a = b
  · rw [if_pos h, if_pos h]; rfl
  · rw [if_neg h, if_neg h]; rfl
