/-! TELLER at w (tokens at w + 9, code at w + 13): ints 0 fault, 1 place, 2 here, 3 token, 4 codeLength, 5 lawWords; told; code. -/
abbrev Vs : Type := (Nat → Int32) × Nat × (Nat → Int32)
def vobj (w : Nat) (υ : Vs) : va_E := .inr (7, [.ref υ.2.1, .int (υ.1 0), .int (υ.1 1), .ref (w + 9), .int (υ.1 2), .int (υ.1 3), .ref (w + 13), .int (υ.1 4), .int (υ.1 5)])
def vput (h : jH) (w : Nat) (υ : Vs) : jH := jset (jset h w (vobj w υ)) (w + 13) (rowL 900 υ.2.2)
def vI (υ : Vs) (k : Nat) (v : Int32) : Vs := (fun i => if i = k then v else υ.1 i, υ.2)
def vC (υ : Vs) (f : Nat → Int32) : Vs := (υ.1, υ.2.1, f)
theorem jset_comm {h : jH} {a b : Nat} {x y : va_E} (hab : ¬ a = b) : jset (jset h a x) b y = jset (jset h b y) a x := by
  refine Prod.ext (funext fun q => ?_) rfl
  by_cases h1 : q = a
  · have h2 : ¬ q = b := fun e => hab (h1.symm.trans e)
    simp only [jset, h1, if_true, show ¬ a = b from hab, if_false]
  · by_cases h2 : q = b
    · subst h2
      simp only [jset, h1, if_true, if_false]
    · simp only [jset, h1, h2, if_false]
def skF (ζ : Zs) (υ : Vs) : Vs := if υ.1 2 + 1 < 0 ∨ ¬ υ.1 2 + 1 < ζ.1 ∨ 900 < υ.1 2 + 1 then υ else vI (vI υ 2 (υ.1 2 + 1)) 3 (ζ.2 0 (ix (υ.1 2 + 1)))
def failF (ζ : Zs) (υ : Vs) (kind : Int32) : Vs := vI (vI υ 0 (if υ.1 3 = 1 then 1 else kind)) 1 (if υ.1 2 < 0 ∨ 900 < υ.1 2 then 0 else ζ.2 2 (ix (υ.1 2)))
def expF (ζ : Zs) (υ : Vs) (kind : Int32) : Bool × Vs := if υ.1 3 = kind then (true, skF ζ υ) else (false, failF ζ υ 2)
def numbF (ζ : Zs) (υ : Vs) : Int32 := if υ.1 2 < 0 ∨ 900 < υ.1 2 then 0 else ζ.2 1 (ix (υ.1 2))
def numToF (ζ : Zs) (υ : Vs) (most : Int32) : Int32 × Vs := if υ.1 3 = 2 then (if most < numbF ζ υ then (-1, failF ζ υ 3) else (numbF ζ υ, skF ζ υ)) else (-1, failF ζ υ 2)
def emitF (υ : Vs) (x : Int32) : Vs := if υ.1 4 < 0 ∨ ¬ υ.1 4 < 900 then υ else vI (vC υ (upd υ.2.2 (ix (υ.1 4)) x)) 4 (υ.1 4 + 1)
theorem in901 {x : Int32} (h0 : ¬ x < 0) (h1 : ¬ 900 < x) : vp_in x 901 := by
  obtain ⟨j, hj, rfl⟩ := nI_of h0
  by_cases hl : j < 901
  · exact vp_in_nI hl (by decide)
  · exact absurd (nI_lt (a := 900) (b := j) (by omega) hj) h1
section TLR
variable {g : jG} {d : Nat} {h : jH} {w : Nat} {ζ : Zs} {υ : Vs}
theorem vput_0 : (vput h w υ).1 w = some (vobj w υ) := (jset_ne (by omega)).trans (jset_at _ _ _)
theorem vput_c : (vput h w υ).1 (w + 13) = some (rowL 900 υ.2.2) := jset_at _ _ _
theorem vput_ne {q : Nat} (h1 : ¬ q = w) (h2 : ¬ q = w + 13) : (vput h w υ).1 q = h.1 q := (jset_ne h2).trans (jset_ne h1)
theorem vput_o {υ' : Vs} (hc : υ'.2.2 = υ.2.2) : jset (vput h w υ) w (vobj w υ') = vput h w υ' := by
  unfold vput
  rw [jset_comm (h := jset h w (vobj w υ)) (by omega), jset_jset, hc]
theorem vput_r (f : Nat → Int32) : jset (vput h w υ) (w + 13) (rowL 900 f) = vput h w (vC υ f) := jset_jset _ _ _ _
theorem vput_Z (H : ZAt h (w + 9) ζ) : ZAt (vput h w υ) (w + 9) ζ := fun j hj => (vput_ne (by omega) (by omega)).trans (H j hj)
theorem c_skip (H : ZAt h (w + 9) ζ) : Con g mX7_skip (d + 1) [.ref w] (vput h w υ) (jPv (fun h' => h' = vput h w (skF ζ υ)) no2) := by
  have Z := fun υ : Vs => vput_Z (υ := υ) H
  refine con_of km_X7_skip.1.2.2.2.2 (Nat.le_of_ble_eq_true rfl) rfl (bX7_skip_0 ⟨_, vput_0, _, rfl, fun q => ?_, fun q => ⟨_, vput_0, _, rfl, _, Z _ 0 (by decide), _, rfl, fun q2 => ⟨fun q3 => ?_, fun q3 => ⟨_, vput_0, Nat.le_of_ble_eq_true rfl, fun h1 q1 => ?_⟩⟩, fun q2 => ?_⟩⟩)
  · show _ = _
    rw [skF, if_pos (Or.inl q)]
  · show _ = _
    rw [skF, if_pos (Or.inr (Or.inr q3))]
  · replace q1 := q1.trans (vput_o (υ' := vI υ 2 (υ.1 2 + 1)) rfl)
    subst q1
    refine ⟨_, vput_0, _, rfl, _, Z _ 0 (by decide), _, rfl, _, _, Z _ 1 (by decide), in901 q q3, _, vput_0, Nat.le_of_ble_eq_true rfl, fun h1 q1 => ?_⟩
    replace q1 := q1.trans (vput_o (υ' := vI (vI υ 2 (υ.1 2 + 1)) 3 (ζ.2 0 (ix (υ.1 2 + 1)))) rfl)
    show h1 = _
    rw [q1, skF, if_neg (fun e => e.elim q (fun e => e.elim (fun e => e q2) q3))]
  · show _ = _
    rw [skF, if_pos (Or.inr (Or.inl q2))]
theorem c_fail {kind : Int32} (H : ZAt h (w + 9) ζ) : Con g mX7_fail (d + 1) [.ref w, .int kind] (vput h w υ) (jPi (fun r h' => r = 0 ∧ h' = vput h w (failF ζ υ kind)) no2) := by
  have Z := fun υ : Vs => vput_Z (υ := υ) H
  have k14 : ∀ x, x = (if υ.1 3 = 1 then 1 else kind) → J g mX7_fail (d + 1) (vput h w υ) (jPi (fun r h' => r = 0 ∧ h' = vput h w (failF ζ υ kind)) no2) 14 [(0, .ref w)] [.int x, .ref w] (vput h w υ) := by
    intro x hx
    refine bX7_fail_14 ⟨_, vput_0, Nat.le_of_ble_eq_true rfl, fun h1 q1 => ?_⟩
    replace q1 := q1.trans (vput_o (υ' := vI υ 0 x) rfl)
    subst q1
    have k51 : ∀ y, y = (if υ.1 2 < 0 ∨ 900 < υ.1 2 then 0 else ζ.2 2 (ix (υ.1 2))) → J g mX7_fail (d + 1) (vput h w υ) (jPi (fun r h' => r = 0 ∧ h' = vput h w (failF ζ υ kind)) no2) 51 [] [.int y, .ref w] (vput h w (vI υ 0 x)) := by
      intro y hy
      refine bX7_fail_51 ⟨_, vput_0, Nat.le_of_ble_eq_true rfl, fun h1 q1 => ⟨rfl, ?_⟩⟩
      replace q1 := q1.trans (vput_o (υ' := vI (vI υ 0 x) 1 y) rfl)
      rw [q1, hx, hy]
      rfl
    refine ⟨_, vput_0, _, rfl, fun q => bX7_fail_50 (k51 0 ?_), fun q => ⟨_, vput_0, _, rfl, fun q2 => bX7_fail_50 (k51 0 ?_), fun q2 => ⟨_, vput_0, _, rfl, _, Z _ 0 (by decide), _, rfl, _, vput_0, _, rfl, _, _, Z _ 3 (by decide), in901 q q2, k51 _ ?_⟩⟩⟩
    · replace q : υ.1 2 < 0 := q
      rw [if_pos (Or.inl q)]
    · replace q2 : 900 < υ.1 2 := q2
      rw [if_pos (Or.inr q2)]
    · replace q : ¬ υ.1 2 < 0 := q
      replace q2 : ¬ 900 < υ.1 2 := q2
      rw [if_neg (fun e => e.elim q q2)]
      rfl
  refine con_of km_X7_fail.1.2.2.2.2 (Nat.le_of_ble_eq_true rfl) rfl (bX7_fail_0 ⟨_, vput_0, _, rfl, fun q => k14 1 ?_, fun q => k14 kind ?_⟩)
  · rw [if_pos q]
  · rw [if_neg q]
theorem c_expect {kind : Int32} (H : ZAt h (w + 9) ζ) : Con g mX7_expect (d + 2) [.ref w, .int kind] (vput h w υ) (jPi (fun r h' => r = bI (expF ζ υ kind).1 ∧ h' = vput h w (expF ζ υ kind).2) no2) := by
  refine con_of km_X7_expect.1.2.2.2.2 (Nat.le_of_ble_eq_true rfl) rfl (bX7_expect_0 ⟨_, vput_0, _, rfl, fun q => ⟨_, vput_0, (c_skip H).pv (fun h' e => ?_) (fun E h' f => f.elim)⟩, fun q => ⟨_, vput_0, (c_fail H).pi (fun r h' hr => ?_) (fun E h' f => f.elim)⟩⟩)
  · rw [expF, if_pos q]
    exact ⟨rfl, e⟩
  · obtain ⟨e1, e2⟩ := hr
    rw [expF, if_neg q, e1]
    exact ⟨Or.inl rfl, rfl, e2⟩
theorem c_number (H : ZAt h (w + 9) ζ) : Con g mX7_number (d + 1) [.ref w] (vput h w υ) (jPi (fun r h' => r = numbF ζ υ ∧ h' = vput h w υ) no2) := by
  have Z := fun υ : Vs => vput_Z (υ := υ) H
  refine con_of km_X7_number.1.2.2.2.2 (Nat.le_of_ble_eq_true rfl) rfl (bX7_number_0 ⟨_, vput_0, _, rfl, fun q => ⟨?_, rfl⟩, fun q => ⟨_, vput_0, _, rfl, fun q2 => ⟨?_, rfl⟩, fun q2 => ⟨_, vput_0, _, rfl, _, Z _ 0 (by decide), _, rfl, _, vput_0, _, rfl, _, _, Z _ 2 (by decide), in901 q q2, ?_, rfl⟩⟩⟩)
  · rw [numbF, if_pos (Or.inl q)]
  · rw [numbF, if_pos (Or.inr q2)]
  · rw [numbF, if_neg (fun e => e.elim q q2)]
    rfl
theorem c_numberTo {most : Int32} (H : ZAt h (w + 9) ζ) : Con g mX7_numberTo (d + 2) [.ref w, .int most] (vput h w υ) (jPi (fun r h' => r = (numToF ζ υ most).1 ∧ h' = vput h w (numToF ζ υ most).2) no2) := by
  refine con_of km_X7_numberTo.1.2.2.2.2 (Nat.le_of_ble_eq_true rfl) rfl (bX7_numberTo_0 ⟨_, vput_0, (c_number H).pi (fun r h' hr => ?_) (fun E h' f => f.elim)⟩)
  obtain ⟨e1, rfl⟩ := hr
  subst e1
  refine ⟨_, vput_0, _, rfl, fun q => ⟨fun q2 => ⟨_, vput_0, (c_fail H).pi (fun r h' hr => ?_) (fun E h' f => f.elim)⟩, fun q2 => ⟨_, vput_0, (c_skip H).pv (fun h' e => ?_) (fun E h' f => f.elim)⟩⟩, fun q => ⟨_, vput_0, (c_fail H).pi (fun r h' hr => ?_) (fun E h' f => f.elim)⟩⟩
  · rw [numToF, if_pos q, if_pos q2]
    exact ⟨rfl, hr.2⟩
  · rw [numToF, if_pos q, if_neg q2]
    exact ⟨rfl, e⟩
  · rw [numToF, if_neg q]
    exact ⟨rfl, hr.2⟩
theorem c_emit {x : Int32} : Con g mX7_emit (d + 1) [.ref w, .int x] (vput h w υ) (jPv (fun h' => h' = vput h w (emitF υ x)) no2) := by
  refine con_of km_X7_emit.1.2.2.2.2 (Nat.le_of_ble_eq_true rfl) rfl (bX7_emit_0 ⟨_, vput_0, _, rfl, fun q => ?_, fun q => ⟨_, vput_0, _, rfl, fun q2 => ?_, fun q2 => ?_⟩⟩)
  · show _ = _
    rw [emitF, if_pos (Or.inl q)]
  · have v1 : vp_in (υ.1 4) 900 := by
      obtain ⟨j, hj, e⟩ := nI_of q
      rw [e] at q2 ⊢
      exact vp_in_nI ((nI_ltI hj (by decide)).mp q2) (by decide)
    refine ⟨_, vput_0, _, rfl, _, vput_0, _, rfl, _, _, vput_c, v1, fun h1 q1 => ?_⟩
    replace q1 := q1.trans (vput_r _)
    subst q1
    refine ⟨_, vput_0, _, rfl, _, vput_0, Nat.le_of_ble_eq_true rfl, fun h1 q1 => ?_⟩
    replace q1 := q1.trans (vput_o (υ' := vI (vC υ (upd υ.2.2 (ix (υ.1 4)) x)) 4 (υ.1 4 + 1)) rfl)
    show h1 = _
    rw [q1, emitF, if_neg (fun e => e.elim q (fun e => e q2))]
  · show _ = _
    rw [emitF, if_pos (Or.inr q2)]
def isFlagF (υ : Vs) : Bool := decide (υ.1 3 = 131 ∨ υ.1 3 = 138 ∨ υ.1 3 = 139 ∨ υ.1 3 = 140)
theorem c_isFlag : Con g mX7_isFlag (d + 1) [.ref w] (vput h w υ) (jPi (fun r h' => r = bI (isFlagF υ) ∧ h' = vput h w υ) no2) := by
  refine con_of km_X7_isFlag.1.2.2.2.2 (Nat.le_of_ble_eq_true rfl) rfl (bX7_isFlag_0 ⟨_, vput_0, _, rfl, fun q => ⟨by simp [isFlagF, q, bI], rfl⟩, fun q => ⟨_, vput_0, _, rfl, fun q2 => ⟨by simp [isFlagF, q2, bI], rfl⟩, fun q2 => ⟨_, vput_0, _, rfl, fun q3 => ⟨by simp [isFlagF, q3, bI], rfl⟩, fun q3 => ⟨_, vput_0, _, rfl, fun q4 => ⟨by simp [isFlagF, q4, bI], rfl⟩, fun q4 => ⟨by simp [isFlagF, q, q2, q3, q4, bI], rfl⟩⟩⟩⟩⟩)
def beginF (ζ : Zs) (υ : Vs) (words : Int32) : Bool × Vs := expF ζ (skF ζ (vI (vI υ 5 words) 4 0)) 58
theorem c_beginLaw {words : Int32} (H : ZAt h (w + 9) ζ) : Con g mX7_beginLaw (d + 3) [.ref w, .int words] (vput h w υ) (jPi (fun r h' => r = bI (beginF ζ υ words).1 ∧ h' = vput h w (beginF ζ υ words).2) no2) := by
  refine con_of km_X7_beginLaw.1.2.2.2.2 (Nat.le_of_ble_eq_true rfl) rfl (bX7_beginLaw_0 ⟨_, vput_0, Nat.le_of_ble_eq_true rfl, fun h1 q1 => ?_⟩)
  replace q1 := q1.trans (vput_o (υ' := vI υ 5 words) rfl)
  subst q1
  refine ⟨_, vput_0, Nat.le_of_ble_eq_true rfl, fun h1 q1 => ?_⟩
  replace q1 := q1.trans (vput_o (υ' := vI (vI υ 5 words) 4 0) rfl)
  subst q1
  refine ⟨_, vput_0, (c_skip H).pv (fun h' e => ?_) (fun E h' f => f.elim)⟩
  subst e
  refine ⟨_, vput_0, (c_expect H).pi (fun r h' hr => ?_) (fun E h' f => f.elim)⟩
  obtain ⟨e1, e2⟩ := hr
  refine ⟨?_, e1, e2⟩
  rw [e1]
  cases (expF ζ (skF ζ (vI (vI υ 5 words) 4 0)) 58).1
  · exact Or.inl rfl
  · exact Or.inr rfl
end TLR
