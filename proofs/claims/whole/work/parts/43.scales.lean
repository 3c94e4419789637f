/-! Regions of the heap -/
def ov (h : jH) (b n : Nat) (cell : Nat → va_E) : jH := (fun q => if b ≤ q ∧ q < b + n then some (cell (q - b)) else h.1 q, h.2)
theorem ov_at (h : jH) (b n : Nat) (cell : Nat → va_E) {j : Nat} (hj : j < n) : (ov h b n cell).1 (b + j) = some (cell j) := by
  have h1 : b ≤ b + j ∧ b + j < b + n := by omega
  simp only [ov, h1, and_self, if_true, Nat.add_sub_cancel_left]
theorem ov_out {h : jH} {b n : Nat} {cell : Nat → va_E} {q : Nat} (hq : ¬ (b ≤ q ∧ q < b + n)) : (ov h b n cell).1 q = h.1 q := by simp only [ov, hq, if_false]
theorem ov_congr {h : jH} {b n : Nat} {A B : Nat → va_E} (e : ∀ j, j < n → A j = B j) : ov h b n A = ov h b n B := by
  refine Prod.ext (funext fun q => ?_) rfl
  by_cases h1 : b ≤ q ∧ q < b + n
  · simp only [ov, h1, and_self, if_true]
    rw [e _ (by omega)]
  · simp only [ov, h1, if_false]
theorem ov_ov (h : jH) (b n : Nat) (A B : Nat → va_E) : ov (ov h b n A) b n B = ov h b n B := by
  refine Prod.ext (funext fun q => ?_) rfl
  by_cases h1 : b ≤ q ∧ q < b + n <;> simp only [ov, h1, and_self, if_true, if_false]
theorem ov_set (h : jH) (b n : Nat) (A : Nat → va_E) {j : Nat} (hj : j < n) (e : va_E) : jset (ov h b n A) (b + j) e = ov h b n (fun i => if i = j then e else A i) := by
  refine Prod.ext (funext fun q => ?_) rfl
  by_cases h2 : q = b + j
  · subst h2
    have h1 : b ≤ b + j ∧ b + j < b + n := by omega
    simp [jset, ov, h1]
  · by_cases h1 : b ≤ q ∧ q < b + n
    · have h3 : ¬ q - b = j := by omega
      simp only [jset, ov, h1, h2, h3, and_self, if_true, if_false]
    · simp only [jset, ov, h1, h2, if_false]
theorem ov_jset {h : jH} {b n : Nat} {A : Nat → va_E} {q : Nat} (hq : ¬ (b ≤ q ∧ q < b + n)) (e : va_E) : jset (ov h b n A) q e = ov (jset h q e) b n A := by
  refine Prod.ext (funext fun p => ?_) rfl
  by_cases h2 : p = q
  · subst h2
    simp only [jset, ov, hq, if_true, if_false]
  · by_cases h1 : b ≤ p ∧ p < b + n <;> simp only [jset, ov, h1, h2, and_self, if_true, if_false]
theorem ov_comm {h : jH} {b n c m : Nat} {A B : Nat → va_E} (hd : b + n ≤ c ∨ c + m ≤ b) : ov (ov h b n A) c m B = ov (ov h c m B) b n A := by
  refine Prod.ext (funext fun p => ?_) rfl
  by_cases h1 : b ≤ p ∧ p < b + n
  · have h2 : ¬ (c ≤ p ∧ p < c + m) := by omega
    simp only [ov, h1, h2, and_self, if_true, if_false]
  · by_cases h2 : c ≤ p ∧ p < c + m <;> simp only [ov, h1, h2, and_self, if_true, if_false]
/-! SCALES: the words of a law on a stack -/
def evJ (t a b : Int32) : Int32 :=
  if t = 60 then bI (decide (a < b)) else if t = 61 then bI (decide (a = b)) else if t = 62 then bI (decide (b < a)) else if t = 146 then a &&& b else if t = 147 then a ||| b else
  let s : Int64 := if t = 43 then a.toInt64 + b.toInt64 else if t = 45 then a.toInt64 - b.toInt64 else a.toInt64 * b.toInt64
  if 1000000 < s then 1000000 else if s < -1000000 then -1000000 else s.toInt32
section SCA
variable {g : jG} {d : Nat} {h : jH}
theorem c_join {x0 : Nat} {t a b : Int32} : Con g mX5_join (d + 1) [.ref x0, .int t, .int a, .int b] h (jPi (fun r h' => r = evJ t a b ∧ h' = h) no2) := by
  refine con_of km_X5_join.1.2.2.2.2 (Nat.le_of_ble_eq_true rfl) rfl (bX5_join_0 ?_)
  have key : ∀ s : Int64, (s = if t = 43 then a.toInt64 + b.toInt64 else if t = 45 then a.toInt64 - b.toInt64 else a.toInt64 * b.toInt64) → ¬ t = 60 → ¬ t = 61 → ¬ t = 62 → ¬ t = 146 → ¬ t = 147 → J g mX5_join (d + 1) h (jPi (fun r h' => r = evJ t a b ∧ h' = h) no2) 126 [] [.long s] h := by
    intro s hs h1 h2 h3 h4 h5
    refine bX5_join_126 ⟨fun c => ⟨?_, rfl⟩, fun c => ⟨fun c2 => ⟨?_, rfl⟩, fun c2 => ⟨?_, rfl⟩⟩⟩
    · simp only [evJ, h1, h2, h3, h4, h5, if_false, ← hs, c, if_true]
      rfl
    · simp only [evJ, h1, h2, h3, h4, h5, if_false, ← hs, c, c2, if_true]
      rfl
    · simp only [evJ, h1, h2, h3, h4, h5, if_false, ← hs, c, c2]
  refine ⟨fun c => ⟨fun c2 => ?_, fun c2 => ?_⟩, fun n1 => ⟨fun c => ⟨fun c2 => ?_, fun c2 => ?_⟩, fun n2 => ⟨fun c => ⟨fun c2 => ?_, fun c2 => ?_⟩, fun n3 => ⟨fun c => ?_, fun n4 => ⟨fun c => ?_, fun n5 => ⟨fun c => ?_, fun n6 => ⟨fun c => ?_, fun n7 => ?_⟩⟩⟩⟩⟩⟩⟩
  · exact ⟨by simp [evJ, c, c2, bI], rfl⟩
  · exact ⟨by simp [evJ, c, c2, bI], rfl⟩
  · exact ⟨by simp [evJ, c, c2, bI], rfl⟩
  · exact ⟨by simp [evJ, c, c2, bI], rfl⟩
  · exact ⟨by simp [evJ, c, c2, bI], rfl⟩
  · exact ⟨by simp [evJ, c, c2, bI], rfl⟩
  · exact ⟨by simp [evJ, c], rfl⟩
  · exact ⟨by simp [evJ, c], rfl⟩
  · exact key _ (by simp [c]) n1 n2 n3 n4 n5
  · exact key _ (by simp [c]) n1 n2 n3 n4 n5
  · exact key _ (by simp [n6, n7]) n1 n2 n3 n4 n5
/-- one word of a law; the stack's top comes first -/
def evS (w : Nat → Int32) (c : Int32) (s : List Int32) : Option (List Int32) :=
  if c - 1000 < 0 ∨ (¬ c - 1000 < 128 ∧ ¬ 134 < c - 1000) then (if s.length < 64 then some ((if c - 1000 < 0 then c else w (ix (c - 1000 - 128))) :: s) else none)
  else if c - 1000 = 145 then (match s with | a :: r => some ((1 - a) :: r) | [] => none)
  else match s with | b :: a :: r => some (evJ (c - 1000) a b :: r) | _ => none
def evC (w : Nat → Int32) : List Int32 → List Int32 → Option (List Int32)
  | [], s => some s
  | c :: cs, s => match evS w c s with | some s' => evC w cs s' | none => none
/-- the pile holds a stack -/
def piles (pl : Nat → Int32) (s : List Int32) : Prop := ∀ j, j < s.length → s[s.length - 1 - j]? = some (pl j)
def lcell (code : List Int32) : va_E := .inl (0, (code.length, .inl (fun i => code.getD i 0)))
theorem c_put {b : Nat} {w : Nat → Int32} {x1 x2 x3 x4 : Int32} {pa : Nat} (H1 : h.1 b = some (.inr (5, [.ref (b + 1), .ref pa]))) (H2 : h.1 (b + 1) = some (.inl (0, (7, .inl w)))) : Con g mX5_put (d + 1) [.ref b, .int x1, .int x2, .int x3, .int x4] h (jPv (fun h' => h' = jset h (b + 1) (.inl (0, (7, .inl (upd (upd (upd (upd w 0 x1) 1 x2) 2 (x3 - x3 / 1000 * 1000)) 3 x4))))) no2) := by
  refine con_of km_X5_put.1.2.2.2.2 (Nat.le_of_ble_eq_true rfl) rfl (bX5_put_0 ?_)
  have n1 : ¬ b = b + 1 := by omega
  have i0 : vp_in 0 7 := vp_in_nI (n := 0) (by decide) (by decide)
  have i1 : vp_in 1 7 := vp_in_nI (n := 1) (by decide) (by decide)
  have i2 : vp_in 2 7 := vp_in_nI (n := 2) (by decide) (by decide)
  have i3 : vp_in 3 7 := vp_in_nI (n := 3) (by decide) (by decide)
  refine ⟨_, H1, _, rfl, _, _, H2, i0, fun h1 q1 => ?_⟩
  subst q1
  refine ⟨_, (jset_ne n1).trans H1, _, rfl, _, _, jset_at _ _ _, i1, fun h1 q1 => ?_⟩
  rw [jset_jset] at q1
  subst q1
  refine ⟨_, (jset_ne n1).trans H1, _, rfl, _, _, jset_at _ _ _, i2, fun h1 q1 => ?_⟩
  rw [jset_jset] at q1
  subst q1
  refine ⟨_, (jset_ne n1).trans H1, _, rfl, _, _, jset_at _ _ _, i3, fun h1 q1 => ?_⟩
  rw [jset_jset] at q1
  exact q1
end SCA
