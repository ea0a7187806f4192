/-! bits (begun with kit/laws/BITS.to-paste) -/
def bt (x : Int32) (i : Nat) : Bool := x.toBitVec.getLsbD i
theorem b_ext {x y : Int32} (h : ∀ i, i < 32 → bt x i = bt y i) : x = y := Int32.toBitVec_inj.mp (BitVec.eq_of_getLsbD_eq (fun i hi => h i hi))
theorem b_or (x y : Int32) (i : Nat) : bt (x ||| y) i = (bt x i || bt y i) := by unfold bt; rw [Int32.toBitVec_or, BitVec.getLsbD_or]
theorem b_and (x y : Int32) (i : Nat) : bt (x &&& y) i = (bt x i && bt y i) := by unfold bt; rw [Int32.toBitVec_and, BitVec.getLsbD_and]
theorem b_xor (x y : Int32) (i : Nat) : bt (x ^^^ y) i = (bt x i ^^ bt y i) := by unfold bt; rw [Int32.toBitVec_xor, BitVec.getLsbD_xor]
theorem b_big {x : Int32} {i : Nat} (h : 32 ≤ i) : bt x i = false := BitVec.getLsbD_of_ge _ _ h
theorem b_m1 : ∀ i, i < 32 → bt (-1) i = true := by decide +kernel
theorem b_0 (i : Nat) : bt 0 i = false := BitVec.getLsbD_zero
theorem s_l : ∀ n, n < 32 → ((nI n &&& 31).toBitVec.smod 32).toNat = n := by decide +kernel
theorem b_shl (n : Nat) (hn : n < 32) (x : Int32) {i : Nat} (hi : i < 32) : bt (x <<< (nI n &&& 31)) i = (decide (n ≤ i) && bt x (i - n)) := by
  unfold bt
  rw [Int32.toBitVec_shiftLeft]
  show (x.toBitVec <<< ((nI n &&& 31).toBitVec.smod 32).toNat).getLsbD i = _
  rw [s_l n hn, BitVec.getLsbD_shiftLeft]
  rcases Nat.lt_or_ge i n with h | h
  · simp [h, Nat.not_le.mpr h]
  · simp [hi, h, Nat.not_lt.mpr h]
theorem b_sshr (n : Nat) (hn : n < 32) (x : Int32) {i : Nat} (hi : i < 32) : bt (x >>> (nI n &&& 31)) i = if n + i < 32 then bt x (n + i) else bt x 31 := by
  unfold bt
  rw [Int32.toBitVec_shiftRight]
  show (x.toBitVec.sshiftRight ((nI n &&& 31).toBitVec.smod 32).toNat).getLsbD i = _
  rw [s_l n hn, BitVec.getLsbD_sshiftRight, BitVec.msb_eq_getLsbD_last]
  simp [hi]

/-! ===== pure part: rows to reckon with ===== -/
theorem q_b1 {α β : Type} (a : α) (f : α → Option β) : nt_b1 (some a) f = f a := rfl
theorem q_b2 {α γ β : Type} (a : α) (c : γ) (f : α → γ → Option β) : nt_b2 (some (a, c)) f = f a c := rfl
theorem q_lt {α β : Type} (a : α) (f : α → Option β) : nt_lt a f = f a := rfl
theorem q_gt {α : Type} (o : Option α) : nt_gd true o = o := rfl
theorem q_gd {α : Type} {c : Bool} (h : c = true) (o : Option α) : nt_gd c o = o := if_pos h
theorem q_in {k n : Nat} (h : k < n) (hn : n < 2 ^ 31) : nt_in (nI k) n = true := by
  have h1 : ¬ nI k < 0 := nI_pos (by omega)
  have h2 : (nI k).toNatClampNeg = k := nI_clamp (by omega)
  unfold nt_in
  rw [decide_eq_true h1, decide_eq_true (by rw [h2]; exact h)]
  rfl
theorem q_in_of {x : Int32} {n : Nat} (hn : n < 2 ^ 31) (h : nt_in x n = true) : ∃ k, k < n ∧ x = nI k := vp_in_of (nt_in_vp h) hn
theorem q_in_iff {x : Int32} {n : Nat} (hn : n < 2 ^ 31) : nt_in x n = true ↔ ¬ x < 0 ∧ x < nI n := by
  constructor
  · intro h
    obtain ⟨k, h1, rfl⟩ := q_in_of hn h
    exact ⟨nI_pos (by omega), (nI_ltI (by omega) hn).mpr h1⟩
  · intro ⟨h1, h2⟩
    obtain ⟨j, h3, rfl⟩ := nI_of h1
    exact q_in ((nI_ltI h3 hn).mp h2) hn
/-- a Bool as Java's -/
def bI (b : Bool) : Int32 := if b then 1 else 0
theorem bI_t : bI true = 1 := rfl
theorem bI_f : bI false = 0 := rfl
theorem bI_0 (b : Bool) : bI b = 0 ↔ b = false := by cases b <;> decide
theorem bI_t0 : (bI true = 0) = False := by simp [bI]
theorem bI_f0 : (bI false = 0) = True := by simp [bI]
theorem q_nb (b : Bool) : decide (narrow .boolean (.int (bI b)) = .int (bI b)) = true := by cases b <;> decide
theorem q_10 : ((1 : Int32) = 0) = False := by decide
theorem q_00 : ((0 : Int32) = 0) = True := by decide
/-- a loop that keeps something, its numbers going up to n -/
theorem nt_inv {S X : Type} {body : S → Option (S ⊕ X)} (I : Nat → S → Prop) (P : X → Prop) (n : Nat)
    (hs : ∀ k s, k < n → I k s → (∃ s', body s = some (.inl s') ∧ I (k + 1) s') ∨ (∃ x, body s = some (.inr x) ∧ P x))
    (he : ∀ s, I n s → ∃ x, body s = some (.inr x) ∧ P x) :
    ∀ (d k : Nat) (s : S), k + d = n → I k s → ∀ fu, d < fu → ∃ x, nt_it body fu s = some x ∧ P x := by
  intro d
  induction d with
  | zero =>
    intro k s hk hI fu hfu
    obtain ⟨f, rfl⟩ : ∃ f, fu = f + 1 := ⟨fu - 1, by omega⟩
    obtain rfl : k = n := by omega
    obtain ⟨x, h1, h2⟩ := he s hI
    exact ⟨x, by rw [nt_it, h1], h2⟩
  | succ d ih =>
    intro k s hk hI fu hfu
    obtain ⟨f, rfl⟩ : ∃ f, fu = f + 1 := ⟨fu - 1, by omega⟩
    rcases hs k s (by omega) hI with ⟨s', h1, h2⟩ | ⟨x, h1, h2⟩
    · obtain ⟨x, h3, h4⟩ := ih (k + 1) s' (by omega) h2 f (by omega)
      exact ⟨x, by rw [nt_it, h1]; exact h3, h4⟩
    · exact ⟨x, by rw [nt_it, h1], h2⟩
theorem q_loop {S X : Type} {body : S → Option (S ⊕ X)} (I : Nat → S → Prop) (P : X → Prop) (n : Nat) (hn : n < 5000) {s : S} (h0 : I 0 s)
    (hs : ∀ k s, k < n → I k s → (∃ s', body s = some (.inl s') ∧ I (k + 1) s') ∨ (∃ x, body s = some (.inr x) ∧ P x))
    (he : ∀ s, I n s → ∃ x, body s = some (.inr x) ∧ P x) : ∃ x, nt_it body nt_fu s = some x ∧ P x :=
  nt_inv I P n hs he n 0 s (by omega) h0 nt_fu (by unfold nt_fu; omega)
/-- the same, where it is told what the states are -/
theorem q_run {S X : Type} {body : S → Option (S ⊕ X)} (st : Nat → S) (x : X) (n : Nat) (hn : n < 5000)
    (hs : ∀ k, k < n → body (st k) = some (.inl (st (k + 1)))) (he : body (st n) = some (.inr x)) : nt_it body nt_fu (st 0) = some x := by
  obtain ⟨y, h1, rfl⟩ := q_loop (body := body) (fun k s => s = st k) (fun y => y = x) n hn rfl
    (fun k s hk h => Or.inl ⟨st (k + 1), by rw [h]; exact hs k hk, rfl⟩) (fun s h => ⟨x, by rw [h]; exact he, rfl⟩)
  exact h1
/-! bits -/
theorem b_1 : ∀ i, i < 32 → bt 1 i = decide (i = 0) := by decide +kernel
theorem q_tst (x : Int32) {s : Nat} (hs : s < 32) : ((x >>> (nI s &&& 31)) &&& (1 : Int32)) = bI (bt x s) := by
  refine b_ext (fun i hi => ?_)
  rw [b_and, b_sshr s hs x hi, b_1 i hi]
  by_cases h0 : i = 0
  · subst h0
    rw [if_pos (by omega)]
    cases bt x s <;> rfl
  · rw [decide_eq_false h0, Bool.and_false]
    cases bt x s
    · exact (b_0 i).symm
    · rw [bI_t, b_1 i hi, decide_eq_false h0]
theorem q_tst1 (x : Int32) {s : Nat} (hs : s < 32) : (((x >>> (nI s &&& 31)) &&& (1 : Int32)) = (1 : Int32)) = (bt x s = true) := by
  rw [q_tst x hs]
  cases bt x s <;> simp [bI]
theorem q_bit {s : Nat} (hs : s < 32) {i : Nat} (hi : i < 32) : bt ((1 : Int32) <<< (nI s &&& 31)) i = decide (i = s) := by
  rw [b_shl s hs 1 hi, b_1 (i - s) (by omega)]
  by_cases h : i = s
  · subst h; simp
  · rw [decide_eq_false h]
    by_cases h2 : s ≤ i
    · rw [decide_eq_true h2, decide_eq_false (by omega)]; rfl
    · rw [decide_eq_false h2]; rfl
theorem q_set (x : Int32) {s : Nat} (hs : s < 32) {i : Nat} (hi : i < 32) : bt (x ||| ((1 : Int32) <<< (nI s &&& 31))) i = (bt x i || decide (i = s)) := by rw [b_or, q_bit hs hi]
theorem q_not (x : Int32) {i : Nat} (hi : i < 32) : bt (x ^^^ (-1 : Int32)) i = !bt x i := by rw [b_xor, b_m1 i hi, Bool.xor_true]
theorem q_clr (x : Int32) {s : Nat} (hs : s < 32) {i : Nat} (hi : i < 32) : bt (x &&& (((1 : Int32) <<< (nI s &&& 31)) ^^^ (-1 : Int32))) i = (bt x i && !decide (i = s)) := by rw [b_and, q_not _ hi, q_bit hs hi]
theorem q_all : ∀ m, m < 10 → ∀ i, i < 32 → bt (((1 : Int32) <<< (nI m &&& 31)) - 1) i = decide (i < m) := by decide +kernel
theorem q_small : ∀ k, k < 10 → ∀ x, x < 2 ^ k → ∀ i, i < 32 → k ≤ i → bt (nI x) i = false := by
  intro k hk x hx i hi hki
  show (BitVec.ofNat 32 x).getLsbD i = false
  rw [BitVec.getLsbD_ofNat]
  have h1 : x < 2 ^ i := Nat.lt_of_lt_of_le hx (Nat.pow_le_pow_right (by omega) hki)
  rw [Nat.testBit_lt_two_pow h1, Bool.and_false]
theorem q_bN {x i : Nat} (hi : i < 32) : bt (nI x) i = x.testBit i := by
  show (BitVec.ofNat 32 x).getLsbD i = _
  rw [BitVec.getLsbD_ofNat, decide_eq_true hi, Bool.true_and]
/-- a set of bits out of a Bool -/
def ofB (f : Nat → Bool) : Nat → Nat
  | 0 => 0
  | n + 1 => if f n then ofB f n ||| 2 ^ n else ofB f n
theorem ofB_bit (f : Nat → Bool) (n i : Nat) : (ofB f n).testBit i = (decide (i < n) && f i) := by
  induction n with
  | zero => simp [ofB]
  | succ n ih =>
    rw [ofB]
    by_cases hf : f n = true
    · rw [if_pos hf, Nat.testBit_or, ih, Nat.testBit_two_pow]
      by_cases h1 : n = i
      · subst h1; simp [hf]
      · rw [decide_eq_false h1, Bool.or_false]
        by_cases h2 : i < n
        · rw [decide_eq_true h2, decide_eq_true (by omega)]
        · rw [decide_eq_false h2, decide_eq_false (by omega)]
    · rw [if_neg hf, ih]
      have hf : f n = false := by simpa using hf
      by_cases h1 : i = n
      · subst h1; simp [hf]
      · by_cases h2 : i < n
        · rw [decide_eq_true h2, decide_eq_true (by omega)]
        · rw [decide_eq_false h2, decide_eq_false (by omega)]
theorem ofB_lt (f : Nat → Bool) (n : Nat) : ofB f n < 2 ^ n := Nat.lt_pow_two_of_testBit _ (fun i hi => by rw [ofB_bit, decide_eq_false (by omega), Bool.false_and])
/-- how many of those below n -/
def cntB (f : Nat → Bool) : Nat → Nat
  | 0 => 0
  | n + 1 => cntB f n + (if f n then 1 else 0)
theorem cntB_le (f : Nat → Bool) (n : Nat) : cntB f n ≤ n := by
  induction n with
  | zero => exact Nat.le_refl 0
  | succ n ih => rw [cntB]; split <;> omega
theorem cntB_congr {f h : Nat → Bool} {n : Nat} (e : ∀ i, i < n → f i = h i) : cntB f n = cntB h n := by
  induction n with
  | zero => rfl
  | succ n ih => rw [cntB, cntB, ih (fun i hi => e i (by omega)), e n (by omega)]
theorem cntB_more {f : Nat → Bool} {n N : Nat} (h : n ≤ N) : cntB (fun i => decide (i < n) && f i) N = cntB f n := by
  induction N with
  | zero =>
    obtain rfl : n = 0 := by omega
    rfl
  | succ N ih =>
    rcases Nat.lt_or_ge N n with h1 | h1
    · obtain rfl : n = N + 1 := by omega
      exact cntB_congr (fun i hi => by rw [decide_eq_true hi, Bool.true_and])
    · rw [cntB, ih h1, decide_eq_false (by omega), Bool.false_and]
      rfl
/-- x is the set of those below n with f -/
def isB (x : Int32) (f : Nat → Bool) (n : Nat) : Prop := ∀ i, i < 32 → bt x i = (decide (i < n) && f i)
theorem isB_eq {x y : Int32} {f : Nat → Bool} {n : Nat} (hx : isB x f n) (hy : isB y f n) : x = y := b_ext (fun i hi => by rw [hx i hi, hy i hi])
theorem isB_ofB (f : Nat → Bool) {n : Nat} : isB (nI (ofB f n)) f n := fun i hi => by rw [q_bN hi, ofB_bit]
theorem isB_0 (f : Nat → Bool) : isB 0 f 0 := fun i hi => by rw [b_0, decide_eq_false (by omega), Bool.false_and]
theorem pc_ji : ∀ v, v < 512 → fJi_bitCount_0f7a4 (nI v) nt_g0 = some (nI (cntB (fun i => v.testBit i) 9)) := by decide +kernel
theorem pc_mo : ∀ v, v < 512 → fMo_bitsOf (nI v) nt_g0 = some (nI (cntB (fun i => v.testBit i) 9)) := by decide +kernel
theorem isB_cnt {x : Int32} {f : Nat → Bool} {n : Nat} (hn : n ≤ 9) (h : isB x f n) (g : nt_T) : fJi_bitCount_0f7a4 x g = some (nI (cntB f n)) ∧ fMo_bitsOf x g = some (nI (cntB f n)) := by
  have e : x = nI (ofB f n) := isB_eq h (isB_ofB f)
  have hl : ofB f n < 512 := Nat.lt_of_lt_of_le (ofB_lt f n) (by
    have := Nat.pow_le_pow_right (show 0 < 2 by omega) hn
    omega)
  have hc : cntB (fun i => (ofB f n).testBit i) 9 = cntB f n := by
    rw [← cntB_more hn]
    exact cntB_congr (fun i _ => ofB_bit f n i)
  rw [e, ← hc]
  exact ⟨pc_ji _ hl, pc_mo _ hl⟩
theorem isB_N {x n : Nat} (hn : n < 10) (h : x < 2 ^ n) : isB (nI x) (fun i => x.testBit i) n := by
  intro i hi
  rw [q_bN hi]
  by_cases h1 : i < n
  · rw [decide_eq_true h1, Bool.true_and]
  · rw [decide_eq_false h1, Bool.false_and]
    exact Nat.testBit_lt_two_pow (Nat.lt_of_lt_of_le h (Nat.pow_le_pow_right (by omega) (by omega)))
theorem isB_bt {x : Int32} {f : Nat → Bool} {n i : Nat} (h : isB x f n) (hn : n ≤ 32) (hi : i < n) : bt x i = f i := by rw [h i (by omega), decide_eq_true hi, Bool.true_and]
