/-! The reference: sets as numbers, who is lost -/
def bset (f : Nat → Bool) : Nat → Nat
  | 0 => 0
  | n + 1 => (if f n = true then 2 ^ n else 0) + bset f n
def bcnt (f : Nat → Bool) : Nat → Nat
  | 0 => 0
  | n + 1 => bcnt f n + (if f n = true then 1 else 0)
def goneB (σ : St) (i : Nat) : Bool := decide (σ.2 3 i = 1)
def lstB (T : Td) (σ : St) (n i : Nat) : Bool := goneB (pN T σ n) i && !goneB σ i
abbrev dr (μ ν : MW) : Prop := dif [23, 24, 27] [6, 7, 8, 9] μ ν
theorem bset_lt (f : Nat → Bool) (n : Nat) : bset f n < 2 ^ n := by
  induction n with
  | zero => exact Nat.zero_lt_one
  | succ n ih =>
    show (if f n = true then 2 ^ n else 0) + bset f n < 2 ^ (n + 1)
    rw [Nat.pow_succ]
    by_cases c : f n = true
    · rw [if_pos c]; omega
    · rw [if_neg c]; omega
theorem bset_bit (f : Nat → Bool) (n i : Nat) : Nat.testBit (bset f n) i = (decide (i < n) && f i) := by
  induction n with
  | zero => 
    show Nat.testBit 0 i = _
    rw [Nat.zero_testBit]; simp
  | succ n ih =>
    have hl := bset_lt f n
    show Nat.testBit ((if f n = true then 2 ^ n else 0) + bset f n) i = _
    by_cases c : f n = true
    · rw [if_pos c]
      by_cases h1 : i < n
      · rw [Nat.testBit_two_pow_add_gt h1, ih, decide_eq_true h1, decide_eq_true (show i < n + 1 by omega)]
      · by_cases h2 : i = n
        · subst h2
          rw [Nat.testBit_two_pow_add_eq, ih, c]
          simp
        · rw [Nat.testBit_lt_two_pow (Nat.lt_of_lt_of_le (show 2 ^ n + bset f n < 2 ^ (n + 1) by rw [Nat.pow_succ]; omega) (Nat.pow_le_pow_right (by decide) (by omega))), decide_eq_false (show ¬ i < n + 1 by omega)]
          rfl
    · rw [if_neg c, Nat.zero_add, ih]
      by_cases h2 : i = n
      · subst h2
        cases hf : f i with
        | false => rw [Bool.and_false, Bool.and_false]
        | true => exact absurd hf c
      · rw [show decide (i < n) = decide (i < n + 1) from decide_eq_decide.mpr (by omega)]
theorem bset_nat (f : Nat → Bool) {n : Nat} (hn : n ≤ 7) : bset f n < 128 := Nat.lt_of_lt_of_le (bset_lt f n) (show 2 ^ n ≤ 2 ^ 7 from Nat.pow_le_pow_right (by decide) hn)
theorem bcnt_sh (f : Nat → Bool) (n : Nat) : bcnt f (n + 1) = (if f 0 = true then 1 else 0) + bcnt (fun i => f (i + 1)) n := by
  induction n with
  | zero => exact Nat.add_comm 0 _
  | succ n ih =>
    show bcnt f (n + 1) + (if f (n + 1) = true then 1 else 0) = _ + (bcnt (fun i => f (i + 1)) n + (if f (n + 1) = true then 1 else 0))
    rw [ih]; omega
theorem bcnt_cg {f f' : Nat → Bool} {n : Nat} (e : ∀ i, i < n → f i = f' i) : bcnt f n = bcnt f' n := by
  induction n with
  | zero => rfl
  | succ n ih =>
    show bcnt f n + (if f n = true then 1 else 0) = bcnt f' n + (if f' n = true then 1 else 0)
    rw [ih (fun i hi => e i (by omega)), e n (by omega)]
theorem pop_bit (m s : Nat) : popN m s = bcnt (fun i => Nat.testBit s i) m := by
  induction m generalizing s with
  | zero => rfl
  | succ m ih =>
    rw [bcnt_sh]
    show s % 2 + popN m (s / 2) = _
    rw [ih]
    have e1 : (if Nat.testBit s 0 = true then 1 else 0) = s % 2 := by
      rw [Nat.testBit_zero]
      by_cases c : s % 2 = 1
      · rw [decide_eq_true c, if_pos rfl, c]
      · rw [decide_eq_false c, if_neg (by decide)]; omega
    rw [e1]
    have e2 : (fun i => Nat.testBit (s / 2) i) = (fun i => Nat.testBit s (i + 1)) := funext fun i => by rw [Nat.testBit_succ]
    rw [e2]
theorem bcnt_le (f : Nat → Bool) (n k : Nat) (h : ∀ i, n ≤ i → i < n + k → f i = false) : bcnt f (n + k) = bcnt f n := by
  induction k with
  | zero => rfl
  | succ k ih =>
    show bcnt f (n + k) + (if f (n + k) = true then 1 else 0) = bcnt f n
    rw [ih (fun i h1 h2 => h i h1 (by omega)), h (n + k) (by omega) (by omega), if_neg (by decide)]
    omega
theorem bcnt_max (f : Nat → Bool) (n : Nat) : bcnt f n ≤ n := by
  induction n with
  | zero => exact Nat.le_refl 0
  | succ n ih =>
    show bcnt f n + (if f n = true then 1 else 0) ≤ n + 1
    split <;> omega
theorem pop_set (f : Nat → Bool) {n : Nat} (hn : n ≤ 7) : popN 7 (bset f n) = bcnt f n := by
  rw [pop_bit]
  have e : (fun i => Nat.testBit (bset f n) i) = (fun i => decide (i < n) && f i) := funext fun i => bset_bit f n i
  rw [e]
  have h1 := bcnt_le (fun i => decide (i < n) && f i) n (7 - n) (fun i h1 _ => by show (decide (i < n) && f i) = false; rw [decide_eq_false (by omega)]; rfl)
  rw [show n + (7 - n) = 7 by omega] at h1
  rw [h1]
  exact bcnt_cg (fun i hi => by show (decide (i < n) && f i) = f i; rw [decide_eq_true hi]; rfl)
set_option maxRecDepth 20000 in
theorem or_bit : ∀ a, a < 128 → ∀ j, j < 7 → (nI a ||| ((1 : Int32) <<< (nI j &&& 31))) = nI (a ||| 2 ^ j) := by decide +kernel
set_option maxRecDepth 20000 in
theorem or_0 : ∀ a, a < 128 → (nI a ||| 0) = nI a := by decide +kernel
set_option maxRecDepth 100000 in
theorem and_no : ∀ a, a < 128 → ∀ b, b < 128 → (nI a &&& (nI b ^^^ (-1))) = nI (a &&& (127 ^^^ b)) := by decide +kernel
set_option maxRecDepth 20000 in
theorem and_pr : ∀ s, s < 128 → ¬ s = 0 → (nI s &&& (nI s - 1)) = nI (s &&& (s - 1)) ∧ popN 7 s = popN 7 (s &&& (s - 1)) + 1 ∧ s &&& (s - 1) < s := by decide +kernel
theorem bset_or (f : Nat → Bool) (n : Nat) (c : f n = true) : bset f n ||| 2 ^ n = bset f (n + 1) := by
  apply Nat.eq_of_testBit_eq
  intro i
  rw [Nat.testBit_or, bset_bit, bset_bit, Nat.testBit_two_pow]
  by_cases h1 : i < n
  · rw [decide_eq_true h1, decide_eq_true (show i < n + 1 by omega), decide_eq_false (show ¬ n = i by omega)]; simp
  · by_cases h2 : n = i
    · subst h2
      rw [c]; simp
    · rw [decide_eq_false h1, decide_eq_false h2, decide_eq_false (show ¬ i < n + 1 by omega)]; simp
theorem bset_an (f f' : Nat → Bool) {n : Nat} (hn : n ≤ 7) : bset f n &&& (127 ^^^ bset f' n) = bset (fun i => f i && !f' i) n := by
  apply Nat.eq_of_testBit_eq
  intro i
  rw [Nat.testBit_and, Nat.testBit_xor, bset_bit, bset_bit, bset_bit]
  by_cases h1 : i < n
  · have e : Nat.testBit 127 i = true := by
      have : ∀ i, i < 7 → Nat.testBit 127 i = true := by decide
      exact this i (by omega)
    rw [decide_eq_true h1, e]
    simp
  · rw [decide_eq_false h1]; simp
