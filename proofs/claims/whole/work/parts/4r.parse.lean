/-! Sums of a law: each takes what a parenthesis does and says whether it went well, and the teller behind it -/
abbrev Pf : Type := Vs → Bool × Vs
def atomG (ζ : Zs) (par : Pf) (υ : Vs) : Bool × Vs :=
  if υ.1 3 = 40 then par υ else if υ.1 3 = 2 then (true, skF ζ (emitF υ (numbF ζ υ)))
  else if υ.1 3 < 128 ∨ 134 < υ.1 3 ∨ ¬ ((υ.1 5 >>> ((υ.1 3 - 128) &&& 31)) &&& 1) = 1 then (false, failF ζ υ 2) else (true, skF ζ (emitF υ (1000 + υ.1 3)))
def termR (ζ : Zs) (par : Pf) : Nat → Bool → Vs → Bool × Vs
  | 0, b, υ => (b, υ)
  | m + 1, b, υ => if b = false then (b, υ) else if υ.1 3 = 42 then termR ζ par m (atomG ζ par (skF ζ υ)).1 (emitF (atomG ζ par (skF ζ υ)).2 1042) else (b, υ)
def termG (ζ : Zs) (par : Pf) (υ : Vs) : Bool × Vs := termR ζ par 900 (atomG ζ par υ).1 (atomG ζ par υ).2
def sumR (ζ : Zs) (par : Pf) : Nat → Bool → Vs → Bool × Vs
  | 0, b, υ => (b, υ)
  | m + 1, b, υ => if b = false then (b, υ) else if υ.1 3 = 43 ∨ υ.1 3 = 45 then sumR ζ par m (termG ζ par (skF ζ υ)).1 (emitF (termG ζ par (skF ζ υ)).2 (1000 + υ.1 3)) else (b, υ)
def sumG (ζ : Zs) (par : Pf) (υ : Vs) : Bool × Vs := sumR ζ par 900 (termG ζ par υ).1 (termG ζ par υ).2
/-- a parenthesis where k more may stand inside one another -/
def parK (ζ : Zs) : Nat → Pf
  | 0, υ => (false, failF ζ υ 4)
  | k + 1, υ => if (sumG ζ (parK ζ k) (skF ζ υ)).1 = true then expF ζ (sumG ζ (parK ζ k) (skF ζ υ)).2 41 else (false, (sumG ζ (parK ζ k) (skF ζ υ)).2)
theorem bI_01 (b : Bool) : bI b = 0 ∨ bI b = 1 := by cases b <;> simp [bI]
section PRS
variable {g : jG} {d : Nat} {h hs : jH} {w : Nat} {ζ : Zs} {x : Int32} {par : Pf}
/-- what a method of the parser does, as a contract -/
def isP (g : jG) (μ : jM) (D : Nat) (h : jH) (w : Nat) (x : Int32) (f : Pf) : Prop := ∀ υ, Con g μ D [.ref w, .int x] (vput h w υ) (jPi (fun r h' => r = bI (f υ).1 ∧ h' = vput h w (f υ).2) no2)
theorem c_atom (H : ZAt h (w + 9) ζ) (hp : isP g mX7_parenthesis (d + 3) h w x par) : isP g mX7_atom (d + 4) h w x (atomG ζ par) := by
  intro υ
  have k94 : ∀ υ', atomG ζ par υ = (true, skF ζ υ') → J g mX7_atom (d + 4) (vput h w υ) (jPi (fun r h' => r = bI (atomG ζ par υ).1 ∧ h' = vput h w (atomG ζ par υ).2) no2) 94 [(0, .ref w)] [] (vput h w υ') := by
    intro υ' e
    refine bX7_atom_94 ⟨_, vput_0, (c_skip H).pv (fun h' q => ?_) (fun E h' f => f.elim)⟩
    rw [e]
    exact ⟨rfl, q⟩
  have k88 : atomG ζ par υ = (false, failF ζ υ 2) → J g mX7_atom (d + 4) (vput h w υ) (jPi (fun r h' => r = bI (atomG ζ par υ).1 ∧ h' = vput h w (atomG ζ par υ).2) no2) 88 [(0, .ref w)] [] (vput h w υ) := by
    intro e
    refine bX7_atom_88 ⟨_, vput_0, (c_fail H).pi (fun r h' hr => ?_) (fun E h' f => f.elim)⟩
    rw [e]
    exact ⟨Or.inl hr.1, hr.1, hr.2⟩
  refine con_of km_X7_atom.1.2.2.2.2 (Nat.le_of_ble_eq_true rfl) rfl (bX7_atom_0 ⟨_, vput_0, _, rfl, fun q => ⟨_, vput_0, (hp υ).pi (fun r h' hr => ?_) (fun E h' f => f.elim)⟩, fun q => ⟨_, vput_0, _, rfl, fun q2 => ⟨_, vput_0, (c_number H).pi (fun r h' hr => ?_) (fun E h' f => f.elim)⟩, fun q2 => ⟨_, vput_0, _, rfl, fun q3 => k88 ?_, fun q3 => ⟨_, vput_0, _, rfl, fun q4 => k88 ?_, fun q4 => ⟨_, vput_0, _, rfl, _, vput_0, _, rfl, fun q5 => ⟨_, vput_0, _, rfl, _, vput_0, c_emit.pv (fun h' e => ?_) (fun E h' f => f.elim)⟩, fun q5 => k88 ?_⟩⟩⟩⟩⟩)
  · obtain ⟨e1, e2⟩ := hr
    rw [e1]
    refine ⟨bI_01 _, ?_⟩
    rw [atomG, if_pos q]
    exact ⟨rfl, e2⟩
  · obtain ⟨rfl, rfl⟩ := hr
    refine ⟨_, vput_0, c_emit.pv (fun h' e => ?_) (fun E h' f => f.elim)⟩
    subst e
    exact k94 _ (by rw [atomG, if_neg q, if_pos q2])
  · rw [atomG, if_neg q, if_neg q2, if_pos (Or.inl q3)]
  · rw [atomG, if_neg q, if_neg q2, if_pos (Or.inr (Or.inl q4))]
  · subst e
    exact k94 _ (by rw [atomG, if_neg q, if_neg q2, if_neg (fun e => e.elim q3 (fun e => e.elim q4 (fun e => e q5)))])
  · rw [atomG, if_neg q, if_neg q2, if_pos (Or.inr (Or.inr q5))]
theorem c_term (H : ZAt h (w + 9) ζ) (hp : isP g mX7_parenthesis (d + 3) h w x par) : isP g mX7_term (d + 5) h w x (termG ζ par) := by
  intro υ
  have loop : ∀ m i b υ', 900 = i + m → termR ζ par m b υ' = termG ζ par υ → J g mX7_term (d + 5) (vput h w υ) (jPi (fun r h' => r = bI (termG ζ par υ).1 ∧ h' = vput h w (termG ζ par υ).2) no2) 8 [(0, .ref w), (1, .int x), (2, .int (bI b)), (3, .int (nI i))] [] (vput h w υ') := by
    intro m
    induction m with
    | zero =>
      intro i b υ' hi e
      have : i = 900 := by omega
      subst this
      refine bX7_term_8 ⟨fun q => absurd q (by decide), fun _ => ⟨bI_01 b, ?_⟩⟩
      rw [← e]
      exact ⟨rfl, rfl⟩
    | succ m ih =>
      intro i b υ' hi e
      refine bX7_term_8 ⟨fun _ => ⟨fun q => ⟨bI_01 b, ?_⟩, fun q => ⟨_, vput_0, _, rfl, fun q2 => ⟨_, vput_0, (c_skip H).pv (fun h' z => ?_) (fun E h' f => f.elim)⟩, fun q2 => ⟨bI_01 b, ?_⟩⟩⟩, fun q => absurd (nI_lt (a := i) (b := 900) (by omega) (by decide)) q⟩
      · rw [termR, if_pos ((bI_0 rfl).1.mp q)] at e
        rw [← e]
        exact ⟨rfl, rfl⟩
      · subst z
        rw [termR, if_neg (by rw [(bI_0 rfl).2.mp q]; decide), if_pos q2] at e
        refine ⟨_, vput_0, (c_atom H hp (skF ζ υ')).pi (fun r h' hr => ?_) (fun E h' f => f.elim)⟩
        obtain ⟨rfl, rfl⟩ := hr
        refine ⟨_, vput_0, c_emit.pv (fun h' z => ?_) (fun E h' f => f.elim)⟩
        subst z
        rw [nI_1]
        exact ih (i + 1) _ _ (by omega) e
      · rw [termR, if_neg (by rw [(bI_0 rfl).2.mp q]; decide), if_neg q2] at e
        rw [← e]
        exact ⟨rfl, rfl⟩
  refine con_of km_X7_term.1.2.2.2.2 (Nat.le_of_ble_eq_true rfl) rfl (bX7_term_0 ⟨_, vput_0, (c_atom H hp υ).pi (fun r h' hr => ?_) (fun E h' f => f.elim)⟩)
  obtain ⟨rfl, rfl⟩ := hr
  exact loop 900 0 _ _ rfl rfl
theorem c_sumP (H : ZAt h (w + 9) ζ) (hp : isP g mX7_parenthesis (d + 3) h w x par) : isP g mX7_sum (d + 6) h w x (sumG ζ par) := by
  intro υ
  have loop : ∀ m i b υ', 900 = i + m → sumR ζ par m b υ' = sumG ζ par υ → J g mX7_sum (d + 6) (vput h w υ) (jPi (fun r h' => r = bI (sumG ζ par υ).1 ∧ h' = vput h w (sumG ζ par υ).2) no2) 14 [(0, .ref w), (1, .int x), (2, .int (bI b)), (3, .int (υ'.1 3)), (4, .int (nI i))] [] (vput h w υ') := by
    intro m
    induction m with
    | zero =>
      intro i b υ' hi e
      have : i = 900 := by omega
      subst this
      refine bX7_sum_14 ⟨fun q => absurd q (by decide), fun _ => ⟨bI_01 b, ?_⟩⟩
      rw [← e]
      exact ⟨rfl, rfl⟩
    | succ m ih =>
      intro i b υ' hi e
      have k38 : b = true → (υ'.1 3 = 43 ∨ υ'.1 3 = 45) → J g mX7_sum (d + 6) (vput h w υ) (jPi (fun r h' => r = bI (sumG ζ par υ).1 ∧ h' = vput h w (sumG ζ par υ).2) no2) 38 [(0, .ref w), (1, .int x), (3, .int (υ'.1 3)), (4, .int (nI i))] [] (vput h w υ') := by
        intro hb q2
        rw [sumR, if_neg (by rw [hb]; decide), if_pos q2] at e
        refine bX7_sum_38 ⟨_, vput_0, (c_skip H).pv (fun h' z => ?_) (fun E h' f => f.elim)⟩
        subst z
        refine ⟨_, vput_0, (c_term H hp (skF ζ υ')).pi (fun r h' hr => ?_) (fun E h' f => f.elim)⟩
        obtain ⟨rfl, rfl⟩ := hr
        refine ⟨_, vput_0, c_emit.pv (fun h' z => ?_) (fun E h' f => f.elim)⟩
        subst z
        refine ⟨_, vput_0, _, rfl, ?_⟩
        rw [nI_1]
        exact ih (i + 1) _ _ (by omega) e
      refine bX7_sum_14 ⟨fun _ => ⟨fun q => ⟨bI_01 b, ?_⟩, fun q => ⟨fun q2 => k38 ((bI_0 rfl).2.mp q) (Or.inl q2), fun q2 => ⟨fun q3 => k38 ((bI_0 rfl).2.mp q) (Or.inr q3), fun q3 => ⟨bI_01 b, ?_⟩⟩⟩⟩, fun q => absurd (nI_lt (a := i) (b := 900) (by omega) (by decide)) q⟩
      · rw [sumR, if_pos ((bI_0 rfl).1.mp q)] at e
        rw [← e]
        exact ⟨rfl, rfl⟩
      · rw [sumR, if_neg (by rw [(bI_0 rfl).2.mp q]; decide), if_neg (fun z => z.elim q2 q3)] at e
        rw [← e]
        exact ⟨rfl, rfl⟩
  refine con_of km_X7_sum.1.2.2.2.2 (Nat.le_of_ble_eq_true rfl) rfl (bX7_sum_0 ⟨_, vput_0, (c_term H hp υ).pi (fun r h' hr => ?_) (fun E h' f => f.elim)⟩)
  obtain ⟨rfl, rfl⟩ := hr
  exact ⟨_, vput_0, _, rfl, loop 900 0 _ _ rfl rfl⟩
theorem c_par (H : ZAt h (w + 9) ζ) : ∀ k i, 6 = i + k → isP g mX7_parenthesis (d + 3 + 4 * k) h w (nI i) (parK ζ k) := by
  intro k
  induction k with
  | zero =>
    intro i hi υ
    have : i = 6 := by omega
    subst this
    refine con_of km_X7_parenthesis.1.2.2.2.2 (Nat.le_of_ble_eq_true rfl) rfl (bX7_parenthesis_0 ⟨fun q => absurd q (by decide), fun _ => ⟨_, vput_0, (c_fail H).pi (fun r h' hr => ?_) (fun E h' f => f.elim)⟩⟩)
    exact ⟨Or.inl hr.1, hr.1, hr.2⟩
  | succ k ih =>
    intro i hi υ
    rw [show d + 3 + 4 * (k + 1) = d + 4 * k + 6 + 1 from by omega]
    refine con_of km_X7_parenthesis.1.2.2.2.2 (Nat.le_of_ble_eq_true rfl) rfl (bX7_parenthesis_0 ⟨fun _ => ⟨_, vput_0, (c_skip H).pv (fun h' z => ?_) (fun E h' f => f.elim)⟩, fun q => absurd (nI_lt (a := i) (b := 6) (by omega) (by decide)) q⟩)
    subst z
    have hs := c_sumP (d := d + 4 * k) (x := nI (i + 1)) H (by rw [Nat.add_right_comm]; exact ih (i + 1) (by omega)) (skF ζ υ)
    rw [nI_1]
    refine ⟨_, vput_0, hs.pi (fun r h' hr => ?_) (fun E h' f => f.elim)⟩
    obtain ⟨rfl, rfl⟩ := hr
    refine ⟨fun q => ?_, fun q => ⟨_, vput_0, (c_expect H).pi (fun r h' hr => ?_) (fun E h' f => f.elim)⟩⟩
    · rw [parK, if_neg (by rw [(bI_0 rfl).1.mp q]; decide)]
      exact ⟨rfl, rfl⟩
    · obtain ⟨e1, e2⟩ := hr
      rw [parK, if_pos ((bI_0 rfl).2.mp q)]
      refine ⟨fun q2 => ⟨?_, e2⟩, fun q2 => ⟨?_, e2⟩⟩
      · rw [(bI_0 e1).1.mp q2]
        rfl
      · rw [(bI_0 e1).2.mp q2]
        rfl
end PRS
