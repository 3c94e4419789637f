/-! TOKENS at z: many; rows 0 kinds, 1 numbers, 2 places. -/
abbrev Zs : Type := Int32 × (Nat → Nat → Int32)
def zobj (z : Nat) (n : Int32) : va_E := .inr (8, [.ref (z + 1), .ref (z + 2), .ref (z + 3), .int n])
def z901 (f : Nat → Int32) : va_E := .inl (0, (901, .inl f))
def zcell (z : Nat) (ζ : Zs) (j : Nat) : va_E := if j = 0 then zobj z ζ.1 else z901 (ζ.2 (j - 1))
def zput (h : jH) (z : Nat) (ζ : Zs) : jH := ov h z 4 (zcell z ζ)
def ZAt (h : jH) (z : Nat) (ζ : Zs) : Prop := ∀ j, j < 4 → h.1 (z + j) = some (zcell z ζ j)
def zR (ζ : Zs) (k : Nat) (f : Nat → Int32) : Zs := (ζ.1, fun i => if i = k then f else ζ.2 i)
def zAdd (ζ : Zs) (m : Nat) (kind number place : Int32) : Zs := (nI (m + 1), fun k => if k = 0 then upd (ζ.2 0) m kind else if k = 1 then upd (ζ.2 1) m number else if k = 2 then upd (ζ.2 2) m place else ζ.2 k)
theorem le4 {P : Nat → Prop} (h0 : P 0) (h1 : P 1) (h2 : P 2) (h3 : P 3) : ∀ i, i < 4 → P i := by
  intro i hi
  rcases (by omega : i = 0 ∨ i = 1 ∨ i = 2 ∨ i = 3) with rfl | rfl | rfl | rfl <;> assumption
def isDig (x : Int32) : Bool := decide (¬ x < 48 ∧ ¬ 57 < x)
def isLet (x : Int32) : Bool := decide (¬ x < 97 ∧ ¬ 122 < x)
def digR (b : Nat → Int32) : Nat → Nat → Int32 → Nat × Int32
  | 0, j, n => (j, n)
  | m + 1, j, n => if isDig (b j) = true then digR b m (j + 1) (jmin (n * 10 + b j - 48) 1000) else (j, n)
def letR (b : Nat → Int32) : Nat → Nat → Nat
  | 0, j => j
  | m + 1, j => if isLet (b j) = true then letR b m (j + 1) else j
/-- the words one after the other, from the i-th character of them on -/
def woR (b : Nat → Int32) (fr to : Nat) : Nat → Nat → Int32 → Nat → Bool → Int32
  | 0, _, _, _, _ => 3
  | m + 1, i, word, at_, like => if (sB 1).getD i 0 = 32 then (if like = true ∧ at_ = to then word else woR b fr to m (i + 1) (word + 1) fr true)
      else woR b fr to m (i + 1) word (at_ + 1) (like && decide (at_ < to ∧ b at_ = (sB 1).getD i 0))
def wordF (b : Nat → Int32) (fr to : Nat) : Int32 := woR b fr to (sB 1).length 0 128 fr true
def sgnB (x : Int32) : Bool := decide (¬ idxR (sB 2) ((x &&& 255).toUInt32 % 65536).toInt32.toInt8.toInt32 (sB 2).length 0 < 0)
/-- a token: kind, number, and where it ends -/
def oneF (b : Nat → Int32) (e i : Nat) : Int32 × Int32 × Nat :=
  if isDig (b i) = true then ((if 3 < (digR b (e - (i + 1)) (i + 1) (b i - 48)).1 - i then 1 else 2), (digR b (e - (i + 1)) (i + 1) (b i - 48)).2, (digR b (e - (i + 1)) (i + 1) (b i - 48)).1)
  else if isLet (b i) = true then (wordF b i (letR b (e - (i + 1)) (i + 1)), 0, letR b (e - (i + 1)) (i + 1))
  else ((if sgnB (b i) = true then b i else 1), 0, i + 1)
theorem digR_le (b : Nat → Int32) : ∀ m j n, j ≤ (digR b m j n).1 ∧ (digR b m j n).1 ≤ j + m
  | 0, j, n => ⟨Nat.le_refl _, Nat.le_refl _⟩
  | m + 1, j, n => by
    rw [digR]
    split
    · have := digR_le b m (j + 1) (jmin (n * 10 + b j - 48) 1000)
      omega
    · exact ⟨Nat.le_refl _, by show j ≤ _; omega⟩
theorem letR_le (b : Nat → Int32) : ∀ m j, j ≤ letR b m j ∧ letR b m j ≤ j + m
  | 0, j => ⟨Nat.le_refl _, Nat.le_refl _⟩
  | m + 1, j => by
    rw [letR]
    split
    · have := letR_le b m (j + 1)
      omega
    · omega
def byt (b : Nat → Int32) : Prop := ∀ j, ∃ n, n < 256 ∧ b j = nI n - 128
theorem byt_255 : ∀ n, n < 256 → ¬ (((nI n - 128) &&& 255).toUInt32 % 65536).toInt32 < 0 ∧ ¬ 255 < (((nI n - 128) &&& 255).toUInt32 % 65536).toInt32 := by decide +kernel
section TOK
variable {g : jG} {d : Nat} {h hs : jH} {z r N e : Nat} {ζ : Zs} {b : Nat → Int32}
theorem zput_0 : (zput h z ζ).1 z = some (zobj z ζ.1) := ov_at _ _ _ _ (j := 0) (by decide)
theorem zput_1 : (zput h z ζ).1 (z + 1) = some (z901 (ζ.2 0)) := ov_at _ _ _ _ (j := 1) (by decide)
theorem zput_2 : (zput h z ζ).1 (z + 2) = some (z901 (ζ.2 1)) := ov_at _ _ _ _ (j := 2) (by decide)
theorem zput_3 : (zput h z ζ).1 (z + 3) = some (z901 (ζ.2 2)) := ov_at _ _ _ _ (j := 3) (by decide)
theorem zput_n (n : Int32) : jset (zput h z ζ) z (zobj z n) = zput h z (n, ζ.2) := (ov_set h z 4 _ (j := 0) (by decide) _).trans (ov_congr (le4 rfl rfl rfl rfl))
theorem zput_k (f : Nat → Int32) : jset (zput h z ζ) (z + 1) (z901 f) = zput h z (zR ζ 0 f) := (ov_set h z 4 _ (j := 1) (by decide) _).trans (ov_congr (le4 rfl rfl rfl rfl))
theorem zput_m (f : Nat → Int32) : jset (zput h z ζ) (z + 2) (z901 f) = zput h z (zR ζ 1 f) := (ov_set h z 4 _ (j := 2) (by decide) _).trans (ov_congr (le4 rfl rfl rfl rfl))
theorem zput_p (f : Nat → Int32) : jset (zput h z ζ) (z + 3) (z901 f) = zput h z (zR ζ 2 f) := (ov_set h z 4 _ (j := 3) (by decide) _).trans (ov_congr (le4 rfl rfl rfl rfl))
theorem c_add {m : Nat} {a1 a2 a3 : Int32} (hm : ζ.1 = nI m) (hl : m ≤ 900) : Con g mX8_add (d + 1) [.ref z, .int a1, .int a2, .int a3] (zput h z ζ) (jPv (fun h' => h' = zput h z (zAdd ζ m a1 a2 a3)) no2) := by
  have em : (nI m).toNatClampNeg = m := nI_clamp (by omega)
  have v1 : vp_in ζ.1 901 := by rw [hm]; exact vp_in_nI (by omega) (by decide)
  refine con_of km_X8_add.1.2.2.2.2 (Nat.le_of_ble_eq_true rfl) rfl (bX8_add_0 ⟨_, zput_0, _, rfl, fun q => absurd q (by rw [hm]; exact nI_pos (by omega)), fun _ => ⟨_, zput_0, _, rfl, fun q => absurd q (by rw [hm]; exact nI_nlt (a := 900) (b := m) hl (by decide)), fun _ => ?_⟩⟩)
  refine ⟨_, zput_0, _, rfl, _, zput_0, _, rfl, _, _, zput_1, v1, fun h1 q1 => ?_⟩
  replace q1 := q1.trans (zput_k _)
  subst q1
  refine ⟨_, zput_0, _, rfl, _, zput_0, _, rfl, _, _, zput_2, v1, fun h1 q1 => ?_⟩
  replace q1 := q1.trans (zput_m _)
  subst q1
  refine ⟨_, zput_0, _, rfl, _, zput_0, _, rfl, _, _, zput_3, v1, fun h1 q1 => ?_⟩
  replace q1 := q1.trans (zput_p _)
  subst q1
  refine ⟨_, zput_0, _, rfl, _, zput_0, Nat.le_of_ble_eq_true rfl, fun h1 q1 => ?_⟩
  replace q1 := q1.trans (zput_n _)
  show h1 = _
  rw [q1]
  congr 1
  refine Prod.ext ?_ (funext fun k => ?_)
  · show ζ.1 + 1 = nI (m + 1)
    rw [hm, nI_1]
  · show (zR (zR (zR ζ 0 (upd (ζ.2 0) ζ.1.toNatClampNeg a1)) 1 (upd (ζ.2 1) ζ.1.toNatClampNeg a2)) 2 (upd (ζ.2 2) ζ.1.toNatClampNeg a3)).2 k = (zAdd ζ m a1 a2 a3).2 k
    rw [hm, em]
    by_cases h0 : k = 0
    · subst h0; rfl
    · by_cases h1 : k = 1
      · subst h1; rfl
      · by_cases h2 : k = 2
        · subst h2; rfl
        · simp only [zR, zAdd, h0, h1, h2, if_false]
theorem c_isDigit {x : Int32} : Con g mX8_isDigit (d + 1) [.ref z, .int x] h (jPi (fun r h' => r = bI (isDig x) ∧ h' = h) no2) :=
  con_of km_X8_isDigit.1.2.2.2.2 (Nat.le_of_ble_eq_true rfl) rfl (bX8_isDigit_0 ⟨fun q => ⟨by simp [isDig, q, bI], rfl⟩, fun q => ⟨fun q2 => ⟨by simp [isDig, q2, bI], rfl⟩, fun q2 => ⟨by simp only [isDig, q, q2, not_false_eq_true, and_self, decide_true]; rfl, rfl⟩⟩⟩)
theorem c_isLetter {x : Int32} : Con g mX8_isLetter (d + 1) [.ref z, .int x] h (jPi (fun r h' => r = bI (isLet x) ∧ h' = h) no2) :=
  con_of km_X8_isLetter.1.2.2.2.2 (Nat.le_of_ble_eq_true rfl) rfl (bX8_isLetter_0 ⟨fun q => ⟨by simp [isLet, q, bI], rfl⟩, fun q => ⟨fun q2 => ⟨by simp [isLet, q2, bI], rfl⟩, fun q2 => ⟨by simp only [isLet, q, q2, not_false_eq_true, and_self, decide_true]; rfl, rfl⟩⟩⟩)
theorem word_loop {fr to : Nat} (hr : h.1 r = some (.inl (1, (N, .inl b)))) (hN : N < 2 ^ 30) (hto : to ≤ N) (hfr : fr ≤ to) : ∀ m i (word : Int32) at_ like, (sB 1).length = i + m → at_ ≤ fr + i →
    J g mX8_wordOf (d + 5) hs (jPi (fun v h' => v = woR b fr to m i word at_ like ∧ h' = h) no2) 14 [(1, .ref r), (2, .int (nI fr)), (3, .int (nI to)), (4, .int word), (5, .int (nI at_)), (6, .int (bI like)), (7, .int (nI i))] [] h := by
  have hl := sB_len 1 (by decide)
  intro m
  induction m with
  | zero =>
    intro i word at_ like hi ha
    refine bX8_wordOf_14 ⟨⟨1, by decide, rfl⟩, (c_length (by decide)).pi (fun v h' hv => ?_) (fun E h' f => f.elim)⟩
    obtain ⟨rfl, rfl⟩ := hv
    exact ⟨fun q => absurd q (nI_nlt (by omega) (by omega)), fun _ => ⟨rfl, rfl⟩⟩
  | succ m ih =>
    intro i word at_ like hi ha
    refine bX8_wordOf_14 ⟨⟨1, by decide, rfl⟩, (c_length (by decide)).pi (fun v h' hv => ?_) (fun E h' f => f.elim)⟩
    obtain ⟨rfl, rfl⟩ := hv
    refine ⟨fun _ => ⟨⟨1, by decide, rfl⟩, (c_charAt (by decide) (by omega)).pi (fun v h' hv => ?_) (fun E h' f => f.elim)⟩, fun q => absurd (nI_lt (by omega) (by omega)) q⟩
    obtain ⟨rfl, rfl⟩ := hv
    refine ⟨fun q => ⟨fun q2 => ?_, fun q2 => ⟨fun q3 => ?_, fun q3 => ?_⟩⟩, fun q => ⟨fun q2 => ?_, fun q2 => ⟨fun q3 => ?_, fun q3 => ?_⟩⟩⟩
    · have hb : like = false := (bI_0 rfl).1.mp q2
      have := ih (i + 1) (word + 1) fr true (by omega) (by omega)
      rw [nI_1, woR, if_pos q, if_neg (by simp [hb])]
      exact this
    · have hb : like = true := (bI_0 rfl).2.mp q2
      have e : at_ = to := (nI_eq (by omega) (by omega)).mp q3
      rw [woR, if_pos q, if_pos ⟨hb, e⟩]
      exact ⟨rfl, rfl⟩
    · have e : ¬ at_ = to := fun x => q3 (by rw [x])
      have := ih (i + 1) (word + 1) fr true (by omega) (by omega)
      rw [nI_1, woR, if_pos q, if_neg (fun x => e x.2)]
      exact this
    · have hb : like = false := (bI_0 rfl).1.mp q2
      have := ih (i + 1) word (at_ + 1) false (by omega) (by omega)
      rw [nI_1, nI_1, woR, if_neg q, hb, Bool.false_and]
      exact this
    · have hb : like = true := (bI_0 rfl).2.mp q2
      have hat : at_ < to := (nI_ltI (by omega) (by omega)).mp q3
      have ea : (nI at_).toNatClampNeg = at_ := nI_clamp (by omega)
      refine ⟨_, _, hr, vp_in_nI (by omega) (by omega), ⟨1, by decide, rfl⟩, (c_charAt (by decide) (by omega)).pi (fun v h' hv => ?_) (fun E h' f => f.elim)⟩
      obtain ⟨rfl, rfl⟩ := hv
      rw [ea]
      refine ⟨fun q4 => ?_, fun q4 => ?_⟩
      · have := ih (i + 1) word (at_ + 1) true (by omega) (by omega)
        rw [nI_1, nI_1, woR, if_neg q, hb, show (true && decide (at_ < to ∧ b at_ = (sB 1).getD i 0)) = true from by simp [hat, q4]]
        exact this
      · have := ih (i + 1) word (at_ + 1) false (by omega) (by omega)
        rw [nI_1, nI_1, woR, if_neg q, show (like && decide (at_ < to ∧ b at_ = (sB 1).getD i 0)) = false from by simp only [q4, and_false, decide_false, Bool.and_false]]
        exact this
    · have hat : ¬ at_ < to := fun x => q3 (nI_lt x (by omega))
      have := ih (i + 1) word (at_ + 1) false (by omega) (by omega)
      rw [nI_1, nI_1, woR, if_neg q, show (like && decide (at_ < to ∧ b at_ = (sB 1).getD i 0)) = false from by simp only [hat, false_and, decide_false, Bool.and_false]]
      exact this
theorem c_wordOf {fr to : Nat} (hr : h.1 r = some (.inl (1, (N, .inl b)))) (hN : N < 2 ^ 30) (hto : to ≤ N) (hfr : fr ≤ to) : Con g mX8_wordOf (d + 5) [.ref z, .ref r, .int (nI fr), .int (nI to)] h (jPi (fun v h' => v = wordF b fr to ∧ h' = h) no2) := by
  refine con_of km_X8_wordOf.1.2.2.2.2 (Nat.le_of_ble_eq_true rfl) rfl (bX8_wordOf_0 ?_)
  exact word_loop hr hN hto hfr (sB 1).length 0 128 fr true (by omega) (by omega)
end TOK
