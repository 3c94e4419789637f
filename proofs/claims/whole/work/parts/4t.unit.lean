def cmT (ζ : Zs) (j : Nat) : Pf := compG ζ (sumG ζ (parK ζ j))
def truG (ζ : Zs) (br : Nat → Pf) (k : Nat) : Pf := chainG ζ 147 1147 (chainG ζ 146 1146 (unG ζ br (cmT ζ) k k))
/-- brackets, as many as may stand inside one another -/
def BR (ζ : Zs) : Nat → Nat → Pf
  | 0, _ => fun υ => (false, failF ζ υ 4)
  | k + 1, j => if j ≤ k then BR ζ k j else fun υ => if (truG ζ (BR ζ k) k (skF ζ υ)).1 = true then expF ζ (truG ζ (BR ζ k) k (skF ζ υ)).2 93 else (false, (truG ζ (BR ζ k) k (skF ζ υ)).2)
theorem odd7 : ∀ n, n < 7 → (nI n &&& 1 = 1 ↔ n % 2 = 1) := by decide +kernel
section UNI
variable {g : jG} {d : Nat} {h hs : jH} {w : Nat} {ζ : Zs} {br cm : Nat → Pf}
theorem c_unit {k0 : Nat} (H : ZAt h (w + 9) ζ) (hk0 : k0 ≤ 6) (hbr : ∀ j, j ≤ k0 → isP g mX7_bracket (d + 2) h w (nI (6 - j)) (br j)) (hcm : ∀ j, j ≤ k0 → isP g mX7_comparison (d + 2) h w (nI (6 - j)) (cm j)) : isP g mX7_unit (d + 3) h w (nI (6 - k0)) (unG ζ br cm k0 k0) := by
  intro υ
  have k45 : ∀ k υ', k ≤ k0 → ((if υ'.1 3 = 91 then br k υ' else cm k υ').1, if (k0 - k) % 2 = 1 then emitF (if υ'.1 3 = 91 then br k υ' else cm k υ').2 1145 else (if υ'.1 3 = 91 then br k υ' else cm k υ').2) = unG ζ br cm k0 k0 υ →
      J g mX7_unit (d + 3) (vput h w υ) (jPi (fun r h' => r = bI (unG ζ br cm k0 k0 υ).1 ∧ h' = vput h w (unG ζ br cm k0 k0 υ).2) no2) 45 [(0, .ref w), (1, .int (nI (6 - k0))), (2, .int (nI (6 - k)))] [] (vput h w υ') := by
    intro k υ' hk e
    have k67 : ∀ r : Bool × Vs, r = (if υ'.1 3 = 91 then br k υ' else cm k υ') → J g mX7_unit (d + 3) (vput h w υ) (jPi (fun r h' => r = bI (unG ζ br cm k0 k0 υ).1 ∧ h' = vput h w (unG ζ br cm k0 k0 υ).2) no2) 67 [(0, .ref w), (1, .int (nI (6 - k0))), (2, .int (nI (6 - k)))] [.int (bI r.1)] (vput h w r.2) := by
      intro r hr
      rw [← hr] at e
      refine bX7_unit_67 ?_
      rw [subI (by omega) (by omega), show 6 - k - (6 - k0) = k0 - k from by omega, odd7 _ (by omega)]
      refine ⟨fun q => ⟨_, vput_0, c_emit.pv (fun h' z => ?_) (fun E h' f => f.elim)⟩, fun q => ⟨bI_01 _, ?_⟩⟩
      · refine ⟨bI_01 _, ?_⟩
        rw [if_pos q] at e
        rw [← e]
        exact ⟨rfl, z⟩
      · rw [if_neg q] at e
        rw [← e]
        exact ⟨rfl, rfl⟩
    refine bX7_unit_45 ⟨_, vput_0, _, rfl, fun q => ⟨_, vput_0, (hbr k hk υ').pi (fun r h' hr => ?_) (fun E h' f => f.elim)⟩, fun q => ⟨_, vput_0, (hcm k hk υ').pi (fun r h' hr => ?_) (fun E h' f => f.elim)⟩⟩
    · obtain ⟨rfl, rfl⟩ := hr
      exact k67 _ (by rw [if_pos q])
    · obtain ⟨rfl, rfl⟩ := hr
      exact k67 _ (by rw [if_neg q])
  have loop : ∀ k υ', k ≤ k0 → unG ζ br cm k0 k υ' = unG ζ br cm k0 k0 υ → J g mX7_unit (d + 3) (vput h w υ) (jPi (fun r h' => r = bI (unG ζ br cm k0 k0 υ).1 ∧ h' = vput h w (unG ζ br cm k0 k0 υ).2) no2) 4 [(0, .ref w), (1, .int (nI (6 - k0))), (2, .int (nI (6 - k))), (3, .int (nI (k0 - k)))] [] (vput h w υ') := by
    intro k
    induction k with
    | zero =>
      intro υ' hk e
      refine bX7_unit_4 ⟨fun q => absurd q (nI_nlt (a := 6) (b := k0 - 0) (by omega) (by decide)), fun _ => ⟨_, vput_0, _, rfl, fun q => ⟨fun q2 => absurd q2 (by decide), fun q2 => ⟨_, vput_0, (c_fail H).pi (fun r h' hr => ?_) (fun E h' f => f.elim)⟩⟩, fun q => k45 0 υ' hk ?_⟩⟩
      · rw [unG, if_pos q] at e
        rw [← e]
        exact ⟨Or.inl hr.1, hr.1, hr.2⟩
      · rw [unG, if_neg q] at e
        rw [Nat.sub_zero]
        exact e
    | succ k ih =>
      intro υ' hk e
      refine bX7_unit_4 ⟨fun q => absurd q (nI_nlt (a := 6) (b := k0 - (k + 1)) (by omega) (by decide)), fun _ => ⟨_, vput_0, _, rfl, fun q => ⟨fun q2 => ⟨_, vput_0, (c_skip H).pv (fun h' z => ?_) (fun E h' f => f.elim)⟩, fun q2 => absurd (nI_lt (a := 6 - (k + 1)) (b := 6) (by omega) (by decide)) q2⟩, fun q => k45 (k + 1) υ' hk ?_⟩⟩
      · subst z
        rw [unG, if_pos q] at e
        rw [nI_1, nI_1, show 6 - (k + 1) + 1 = 6 - k from by omega, show k0 - (k + 1) + 1 = k0 - k from by omega]
        exact ih (skF ζ υ') (by omega) e
      · rw [unG, if_neg q] at e
        exact e
  refine con_of km_X7_unit.1.2.2.2.2 (Nat.le_of_ble_eq_true rfl) rfl (bX7_unit_0 ?_)
  have := loop k0 υ (Nat.le_refl _) rfl
  rw [Nat.sub_self] at this
  exact this
theorem c_cmT (H : ZAt h (w + 9) ζ) {j : Nat} (hj : j ≤ 6) : isP g mX7_comparison (d + 40) h w (nI (6 - j)) (cmT ζ j) := by
  have h1 := c_par (g := g) (d := d + 33 - 4 * j) H j (6 - j) (by omega)
  rw [show d + 33 - 4 * j + 3 + 4 * j = d + 33 + 3 from by omega] at h1
  exact c_comparison (d := d + 37) H (c_sumP (d := d + 33) H h1)
theorem c_truG (H : ZAt h (w + 9) ζ) {k : Nat} (hk : k ≤ 6) (hbr : ∀ j, j ≤ k → isP g mX7_bracket (d + 40) h w (nI (6 - j)) (br j)) : isP g mX7_truth (d + 43) h w (nI (6 - k)) (truG ζ br k) :=
  c_truth (d := d + 40) H (c_both (d := d + 39) H (c_unit (d := d + 38) H hk hbr (fun j hj => c_cmT H (by omega))))
theorem c_bracket (H : ZAt h (w + 9) ζ) : ∀ k, k ≤ 6 → ∀ D j, j ≤ k → isP g mX7_bracket (D + 40 + 8 * k) h w (nI (6 - j)) (BR ζ k j) := by
  intro k
  induction k with
  | zero =>
    intro _ D j hj υ
    have : j = 0 := by omega
    subst this
    refine con_of km_X7_bracket.1.2.2.2.2 (Nat.le_of_ble_eq_true rfl) rfl (bX7_bracket_0 ⟨fun q => absurd q (by decide), fun _ => ⟨_, vput_0, (c_fail H).pi (fun r h' hr => ?_) (fun E h' f => f.elim)⟩⟩)
    exact ⟨Or.inl hr.1, hr.1, hr.2⟩
  | succ k ih =>
    intro hk6 D j hj υ
    by_cases hjk : j ≤ k
    · have := ih (by omega) (D + 8) j hjk υ
      rw [BR, if_pos hjk, show D + 40 + 8 * (k + 1) = D + 8 + 40 + 8 * k from by omega]
      exact this
    · have : j = k + 1 := by omega
      subst this
      have ht := c_truG (g := g) (d := D + 4 + 8 * k) (br := BR ζ k) H (k := k) (by omega) (fun j hj => by
        have := ih (by omega) (D + 4) j hj
        rw [show D + 4 + 8 * k + 40 = D + 4 + 40 + 8 * k from by omega]
        exact this) (skF ζ υ)
      rw [BR, if_neg hjk, show D + 40 + 8 * (k + 1) = D + 4 + 8 * k + 43 + 1 from by omega]
      refine con_of km_X7_bracket.1.2.2.2.2 (Nat.le_of_ble_eq_true rfl) rfl (bX7_bracket_0 ⟨fun _ => ⟨_, vput_0, (c_skip H).pv (fun h' z => ?_) (fun E h' f => f.elim)⟩, fun q => absurd (nI_lt (a := 6 - (k + 1)) (b := 6) (by omega) (by decide)) q⟩)
      subst z
      rw [nI_1, show 6 - (k + 1) + 1 = 6 - k from by omega]
      refine ⟨_, vput_0, ht.pi (fun r h' hr => ?_) (fun E h' f => f.elim)⟩
      obtain ⟨rfl, rfl⟩ := hr
      refine ⟨fun q => ?_, fun q => ⟨_, vput_0, (c_expect H).pi (fun r h' hr => ?_) (fun E h' f => f.elim)⟩⟩
      · simp only [(bI_0 rfl).1.mp q, Bool.false_eq_true, if_false]
        exact ⟨rfl, rfl⟩
      · obtain ⟨e1, e2⟩ := hr
        simp only [(bI_0 rfl).2.mp q, if_true]
        refine ⟨fun q2 => ⟨?_, e2⟩, fun q2 => ⟨?_, e2⟩⟩
        · rw [(bI_0 e1).1.mp q2]
          rfl
        · rw [(bI_0 e1).2.mp q2]
          rfl
end UNI
