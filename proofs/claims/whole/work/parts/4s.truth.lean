/-! Truths of a law -/
def compG (ζ : Zs) (s : Pf) (υ : Vs) : Bool × Vs :=
  if (s υ).1 = false then (false, (s υ).2)
  else if (s υ).2.1 3 = 61 ∨ (s υ).2.1 3 = 60 ∨ (s υ).2.1 3 = 62 then ((s (skF ζ (s υ).2)).1, emitF (s (skF ζ (s υ).2)).2 (1000 + (s υ).2.1 3))
  else (false, failF ζ (s υ).2 2)
/-- one after the other, with a word between them -/
def chainR (ζ : Zs) (word code : Int32) (u : Pf) : Nat → Bool → Vs → Bool × Vs
  | 0, b, υ => (b, υ)
  | m + 1, b, υ => if b = false then (b, υ) else if υ.1 3 = word then chainR ζ word code u m (u (skF ζ υ)).1 (emitF (u (skF ζ υ)).2 code) else (b, υ)
def chainG (ζ : Zs) (word code : Int32) (u : Pf) (υ : Vs) : Bool × Vs := chainR ζ word code u 900 (u υ).1 (u υ).2
/-- a unit with k of 6 left, k0 at its beginning -/
def unG (ζ : Zs) (br cm : Nat → Pf) (k0 : Nat) : Nat → Vs → Bool × Vs
  | 0, υ => if υ.1 3 = 145 then (false, failF ζ υ 4) else ((if υ.1 3 = 91 then br 0 υ else cm 0 υ).1, if k0 % 2 = 1 then emitF (if υ.1 3 = 91 then br 0 υ else cm 0 υ).2 1145 else (if υ.1 3 = 91 then br 0 υ else cm 0 υ).2)
  | k + 1, υ => if υ.1 3 = 145 then unG ζ br cm k0 k (skF ζ υ) else ((if υ.1 3 = 91 then br (k + 1) υ else cm (k + 1) υ).1, if (k0 - (k + 1)) % 2 = 1 then emitF (if υ.1 3 = 91 then br (k + 1) υ else cm (k + 1) υ).2 1145 else (if υ.1 3 = 91 then br (k + 1) υ else cm (k + 1) υ).2)
section TRU
variable {g : jG} {d : Nat} {h hs : jH} {w : Nat} {ζ : Zs} {x : Int32} {u s : Pf}
theorem c_comparison (H : ZAt h (w + 9) ζ) (hsm : isP g mX7_sum (d + 2) h w x s) : isP g mX7_comparison (d + 3) h w x (compG ζ s) := by
  intro υ
  refine con_of km_X7_comparison.1.2.2.2.2 (Nat.le_of_ble_eq_true rfl) rfl (bX7_comparison_0 ⟨_, vput_0, (hsm υ).pi (fun r h' hr => ?_) (fun E h' f => f.elim)⟩)
  obtain ⟨rfl, rfl⟩ := hr
  have k39 : (s υ).1 = true → ((s υ).2.1 3 = 61 ∨ (s υ).2.1 3 = 60 ∨ (s υ).2.1 3 = 62) → J g mX7_comparison (d + 3) (vput h w υ) (jPi (fun r h' => r = bI (compG ζ s υ).1 ∧ h' = vput h w (compG ζ s υ).2) no2) 39 [(0, .ref w), (1, .int x), (2, .int ((s υ).2.1 3))] [] (vput h w (s υ).2) := by
    intro hb hc
    refine bX7_comparison_39 ⟨_, vput_0, (c_skip H).pv (fun h' z => ?_) (fun E h' f => f.elim)⟩
    subst z
    refine ⟨_, vput_0, (hsm (skF ζ (s υ).2)).pi (fun r h' hr => ?_) (fun E h' f => f.elim)⟩
    obtain ⟨rfl, rfl⟩ := hr
    refine ⟨_, vput_0, c_emit.pv (fun h' z => ?_) (fun E h' f => f.elim)⟩
    refine ⟨bI_01 _, ?_⟩
    rw [compG, if_neg (by rw [hb]; decide), if_pos hc]
    exact ⟨rfl, z⟩
  refine ⟨fun q => ?_, fun q => ⟨_, vput_0, _, rfl, fun q1 => k39 ((bI_0 rfl).2.mp q) (Or.inl q1), fun q1 => ⟨fun q2 => k39 ((bI_0 rfl).2.mp q) (Or.inr (Or.inl q2)), fun q2 => ⟨fun q3 => k39 ((bI_0 rfl).2.mp q) (Or.inr (Or.inr q3)), fun q3 => ⟨_, vput_0, (c_fail H).pi (fun r h' hr => ?_) (fun E h' f => f.elim)⟩⟩⟩⟩⟩
  · rw [compG, if_pos ((bI_0 rfl).1.mp q)]
    exact ⟨rfl, rfl⟩
  · rw [compG, if_neg (by rw [(bI_0 rfl).2.mp q]; decide), if_neg (fun z => z.elim q1 (fun z => z.elim q2 q3))]
    exact ⟨Or.inl hr.1, hr.1, hr.2⟩
theorem c_both (H : ZAt h (w + 9) ζ) (hu : isP g mX7_unit (d + 2) h w x u) : isP g mX7_both (d + 3) h w x (chainG ζ 146 1146 u) := by
  intro υ
  have loop : ∀ m i b υ', 900 = i + m → chainR ζ 146 1146 u m b υ' = chainG ζ 146 1146 u υ → J g mX7_both (d + 3) (vput h w υ) (jPi (fun r h' => r = bI (chainG ζ 146 1146 u υ).1 ∧ h' = vput h w (chainG ζ 146 1146 u υ).2) no2) 8 [(0, .ref w), (1, .int x), (2, .int (bI b)), (3, .int (nI i))] [] (vput h w υ') := by
    intro m
    induction m with
    | zero =>
      intro i b υ' hi e
      have : i = 900 := by omega
      subst this
      refine bX7_both_8 ⟨fun q => absurd q (by decide), fun _ => ⟨bI_01 b, ?_⟩⟩
      rw [← e]
      exact ⟨rfl, rfl⟩
    | succ m ih =>
      intro i b υ' hi e
      refine bX7_both_8 ⟨fun _ => ⟨fun q => ⟨bI_01 b, ?_⟩, fun q => ⟨_, vput_0, _, rfl, fun q2 => ⟨_, vput_0, (c_skip H).pv (fun h' z => ?_) (fun E h' f => f.elim)⟩, fun q2 => ⟨bI_01 b, ?_⟩⟩⟩, fun q => absurd (nI_lt (a := i) (b := 900) (by omega) (by decide)) q⟩
      · rw [chainR, if_pos ((bI_0 rfl).1.mp q)] at e
        rw [← e]
        exact ⟨rfl, rfl⟩
      · subst z
        rw [chainR, if_neg (by rw [(bI_0 rfl).2.mp q]; decide), if_pos q2] at e
        refine ⟨_, vput_0, (hu (skF ζ υ')).pi (fun r h' hr => ?_) (fun E h' f => f.elim)⟩
        obtain ⟨rfl, rfl⟩ := hr
        refine ⟨_, vput_0, c_emit.pv (fun h' z => ?_) (fun E h' f => f.elim)⟩
        subst z
        rw [nI_1]
        exact ih (i + 1) _ _ (by omega) e
      · rw [chainR, if_neg (by rw [(bI_0 rfl).2.mp q]; decide), if_neg q2] at e
        rw [← e]
        exact ⟨rfl, rfl⟩
  refine con_of km_X7_both.1.2.2.2.2 (Nat.le_of_ble_eq_true rfl) rfl (bX7_both_0 ⟨_, vput_0, (hu υ).pi (fun r h' hr => ?_) (fun E h' f => f.elim)⟩)
  obtain ⟨rfl, rfl⟩ := hr
  exact loop 900 0 _ _ rfl rfl
theorem c_truth (H : ZAt h (w + 9) ζ) (hu : isP g mX7_both (d + 2) h w x u) : isP g mX7_truth (d + 3) h w x (chainG ζ 147 1147 u) := by
  intro υ
  have loop : ∀ m i b υ', 900 = i + m → chainR ζ 147 1147 u m b υ' = chainG ζ 147 1147 u υ → J g mX7_truth (d + 3) (vput h w υ) (jPi (fun r h' => r = bI (chainG ζ 147 1147 u υ).1 ∧ h' = vput h w (chainG ζ 147 1147 u υ).2) no2) 8 [(0, .ref w), (1, .int x), (2, .int (bI b)), (3, .int (nI i))] [] (vput h w υ') := by
    intro m
    induction m with
    | zero =>
      intro i b υ' hi e
      have : i = 900 := by omega
      subst this
      refine bX7_truth_8 ⟨fun q => absurd q (by decide), fun _ => ⟨bI_01 b, ?_⟩⟩
      rw [← e]
      exact ⟨rfl, rfl⟩
    | succ m ih =>
      intro i b υ' hi e
      refine bX7_truth_8 ⟨fun _ => ⟨fun q => ⟨bI_01 b, ?_⟩, fun q => ⟨_, vput_0, _, rfl, fun q2 => ⟨_, vput_0, (c_skip H).pv (fun h' z => ?_) (fun E h' f => f.elim)⟩, fun q2 => ⟨bI_01 b, ?_⟩⟩⟩, fun q => absurd (nI_lt (a := i) (b := 900) (by omega) (by decide)) q⟩
      · rw [chainR, if_pos ((bI_0 rfl).1.mp q)] at e
        rw [← e]
        exact ⟨rfl, rfl⟩
      · subst z
        rw [chainR, if_neg (by rw [(bI_0 rfl).2.mp q]; decide), if_pos q2] at e
        refine ⟨_, vput_0, (hu (skF ζ υ')).pi (fun r h' hr => ?_) (fun E h' f => f.elim)⟩
        obtain ⟨rfl, rfl⟩ := hr
        refine ⟨_, vput_0, c_emit.pv (fun h' z => ?_) (fun E h' f => f.elim)⟩
        subst z
        rw [nI_1]
        exact ih (i + 1) _ _ (by omega) e
      · rw [chainR, if_neg (by rw [(bI_0 rfl).2.mp q]; decide), if_neg q2] at e
        rw [← e]
        exact ⟨rfl, rfl⟩
  refine con_of km_X7_truth.1.2.2.2.2 (Nat.le_of_ble_eq_true rfl) rfl (bX7_truth_0 ⟨_, vput_0, (hu υ).pi (fun r h' hr => ?_) (fun E h' f => f.elim)⟩)
  obtain ⟨rfl, rfl⟩ := hr
  exact loop 900 0 _ _ rfl rfl
end TRU
