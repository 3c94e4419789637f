theorem jnew_ne {h : jH} {q n : Nat} {e : va_E} (hq : ¬ q = h.2.1) : (jnew h e n).1 q = h.1 q := by simp only [jnew, hq, if_false]
theorem jnew_at {h : jH} {n : Nat} {e : va_E} : (jnew h e n).1 h.2.1 = some e := by simp [jnew]
def sumN (f : Nat → Int32) : Nat → Int32
  | 0 => 0
  | n + 1 => sumN f n + f n
section STR3
variable {g : jG} {d : Nat} {h : jH} {a b r : Nat} {σ τ : St} {i k n : Int32}
theorem sum_loop {hs : jH} {f : Nat → Int32} (H : h.1 a = some (sobj a σ)) (S : sok σ) (hr : h.1 r = some (srow f)) : ∀ m j, sN σ = j + m → J g mX6_sum (d + 1) hs (jPi (fun v h' => v = sumN f (sN σ) ∧ h' = h) no2) 4 [(0, .ref a), (1, .ref r), (2, .int (sumN f j)), (3, .int (nI j))] [] h := by
  obtain ⟨s1, s2⟩ := S
  intro m
  induction m with
  | zero =>
    intro j hj
    simp only [Nat.add_zero] at hj
    subst hj
    refine bX6_sum_4 ⟨_, H, _, rfl, fun c => ?_, fun _ => ⟨rfl, rfl⟩⟩
    rw [s1] at c
    exact absurd c (nI_nlt (Nat.le_refl _) (by omega))
  | succ m ih =>
    intro j hj
    have hix : (nI j).toNatClampNeg = j := nI_clamp (by omega)
    refine bX6_sum_4 ⟨_, H, _, rfl, fun c => ⟨_, _, hr, ⟨_, rfl⟩, fun c2 => ⟨_, _, hr, vp_in_nI (by omega) (by decide), ?_⟩, fun c2 => ?_⟩, fun c => ?_⟩
    · rw [hix, nI_1]
      exact ih (j + 1) (by omega)
    · exact absurd (nI_lt (a := j) (b := 7) (by omega) (by decide)) c2
    · rw [s1] at c
      exact absurd (nI_lt (by omega) (by omega)) c
theorem c_sum {f : Nat → Int32} (H : h.1 a = some (sobj a σ)) (S : sok σ) (hr : h.1 r = some (srow f)) : Con g mX6_sum (d + 1) [.ref a, .ref r] h (jPi (fun v h' => v = sumN f (sN σ) ∧ h' = h) no2) := by
  refine con_of km_X6_sum.1.2.2.2.2 (Nat.le_of_ble_eq_true rfl) rfl (bX6_sum_0 ?_)
  exact sum_loop H S hr (sN σ) 0 (by omega)
theorem c_whyNoPayOff (H : SAt h a σ) (S : sok σ) : Con g mX6_whyNoPayOff (d + 3) [.ref a, .int i] h (jPi (fun r h' => r = sWhyPay σ i ∧ h' = h) no2) := by
  refine con_of km_X6_whyNoPayOff.1.2.2.2.2 (Nat.le_of_ble_eq_true rfl) rfl (bX6_whyNoPayOff_0 ?_)
  refine ⟨_, H.1, (c_has H S).pi (fun r h' hr => ?_) (fun E h' f => f.elim)⟩
  obtain ⟨e1, rfl⟩ := hr
  refine ⟨fun c => ⟨by simp [sWhyPay, (bI_0 e1).1.mp c], rfl⟩, fun c => ⟨_, H.1, (c_isGone H S).pi (fun r h' hr => ?_) (fun E h' f => f.elim)⟩⟩
  have b1 := (bI_0 e1).2.mp c
  obtain ⟨e2, rfl⟩ := hr
  refine ⟨fun c => ?_, fun c => ⟨by simp [sWhyPay, b1, (bI_0 e2).2.mp c], rfl⟩⟩
  have b2 := (bI_0 e2).1.mp c
  refine ⟨_, H.1, _, rfl, _, _, H.2.2.2.1, sHas_in S b1, fun c => ⟨?_, rfl⟩, fun c => ⟨_, H.1, _, rfl, _, _, H.2.2.2.2.2.1, sHas_in S b1, fun c2 => ⟨?_, rfl⟩, fun c2 => ⟨?_, rfl⟩⟩⟩
  · simp only [sWhyPay, b1, b2, ix, c, not_true_eq_false, if_false, Bool.false_eq_true, true_or, if_true]
  · simp only [sWhyPay, b1, b2, ix, c, c2, not_true_eq_false, if_false, Bool.false_eq_true, or_true, if_true]
  · simp only [sWhyPay, b1, b2, ix, c, c2, not_true_eq_false, if_false, Bool.false_eq_true, or_self]
/-- streets that agree where a house can be -/
def seq (σ τ : St) : Prop := (∀ k, k < 3 → σ.1 k = τ.1 k) ∧ ∀ k, k < 6 → ∀ j, j < 7 → σ.2 k j = τ.2 k j
theorem sput_jeq (h : jH) (a : Nat) (e : seq σ τ) : jeq (sput h a σ) (sput h a τ) := by
  refine ⟨rfl, fun q x hx => ?_⟩
  by_cases hq : a ≤ q ∧ q < a + 7
  · simp only [sput, hq, and_self, if_true, Option.some.injEq] at hx ⊢
    refine ⟨_, rfl, ?_⟩
    subst hx
    by_cases h0 : q - a = 0
    · simp only [scell, h0, if_true, sobj, e.1 0 (by decide), e.1 1 (by decide), e.1 2 (by decide)]
      exact rfl
    · simp only [scell, h0, if_false, srow]
      exact ⟨rfl, fun c => vp_cell_ci c (fun j hj => e.2 _ (by omega) j hj), fun q => absurd q (Nat.not_le.mpr (Nat.le_of_ble_eq_true rfl))⟩
  · simp only [sput, hq, if_false] at hx ⊢
    exact ⟨x, hx, ceq_rf x⟩
theorem SAt.jset {q : Nat} {e : va_E} (H : SAt h a σ) (hq : ¬ (a ≤ q ∧ q < a + 7)) : SAt (jset h q e) a σ := by
  obtain ⟨h0, h1, h2, h3, h4, h5, h6⟩ := H
  refine ⟨(jset_ne ?_).trans h0, (jset_ne ?_).trans h1, (jset_ne ?_).trans h2, (jset_ne ?_).trans h3, (jset_ne ?_).trans h4, (jset_ne ?_).trans h5, (jset_ne ?_).trans h6⟩ <;> omega
theorem SAt.of {h' : jH} (H : SAt h a σ) (e : ∀ q, a ≤ q → q < a + 7 → h'.1 q = h.1 q) : SAt h' a σ := by
  obtain ⟨h0, h1, h2, h3, h4, h5, h6⟩ := H
  refine ⟨(e _ ?_ ?_).trans h0, (e _ ?_ ?_).trans h1, (e _ ?_ ?_).trans h2, (e _ ?_ ?_).trans h3, (e _ ?_ ?_).trans h4, (e _ ?_ ?_).trans h5, (e _ ?_ ?_).trans h6⟩ <;> omega
theorem SAt.sput (H : SAt h b τ) (hd : a + 7 ≤ b ∨ b + 7 ≤ a) : SAt (sput h a σ) b τ := H.of (fun q h1 h2 => sput_out (by omega))
/-- the copy of one row -/
abbrev cpy7 (f f' : Nat → Int32) : Nat → Int32 := va_cpy f f' (0 : Int32).toNatClampNeg (0 : Int32).toNatClampNeg (7 : Int32).toNatClampNeg
theorem c_takeOver (H : SAt h b τ) (hd : a + 7 ≤ b ∨ b + 7 ≤ a) (H0 : SAt h a σ) : Con g mX6_takeOver (d + 1) [.ref a, .ref b] h (jPv (fun h' => h' = sput h a τ) no2) := by
  have main : Con g mX6_takeOver (d + 1) [.ref a, .ref b] h (jPv (fun h' => h' = sput h a (setR (setR (setR (setR (setR (setR (setI (setI (setI σ 0 (τ.1 0)) 1 (τ.1 1)) 2 (τ.1 2)) 0 (cpy7 (τ.2 0) (σ.2 0))) 1 (cpy7 (τ.2 1) (σ.2 1))) 2 (cpy7 (τ.2 2) (σ.2 2))) 3 (cpy7 (τ.2 3) (σ.2 3))) 4 (cpy7 (τ.2 4) (σ.2 4))) 5 (cpy7 (τ.2 5) (σ.2 5)))) no2) := by
    rw [← H0.put] at H
    have e0 : h = Prod.mk h.1 h.2 := rfl
    refine Con.pre (h' := sput h a σ) (by rw [H0.put]; exact jeq_rf h) ?_
    refine con_of km_X6_takeOver.1.2.2.2.2 (Nat.le_of_ble_eq_true rfl) rfl (bX6_takeOver_0 ?_)
    have A := fun ρ : St => sput_SAt h a ρ
    have B : ∀ ρ : St, SAt (sput h a ρ) b τ := fun ρ => by
      have := (H.sput (σ := ρ) hd)
      rw [sput_sput] at this
      exact this
    have L0 : ¬ (0 : Int32) < 0 := by decide
    have L7 : ¬ (7 : Int32) < 0 := by decide
    have L8 : (0 : Int32).toNatClampNeg + (7 : Int32).toNatClampNeg ≤ 7 := by decide
    refine ⟨_, (B _).1, _, rfl, _, (A _).1, Nat.le_of_ble_eq_true rfl, fun h1 q1 => ?_⟩
    replace q1 := q1.trans (sput_int h a 0 (by decide) _ (τ.1 0))
    subst q1
    refine ⟨_, (B _).1, _, rfl, _, (A _).1, Nat.le_of_ble_eq_true rfl, fun h1 q1 => ?_⟩
    replace q1 := q1.trans (sput_int h a 1 (by decide) _ (τ.1 1))
    subst q1
    refine ⟨_, (B _).1, _, rfl, _, (A _).1, Nat.le_of_ble_eq_true rfl, fun h1 q1 => ?_⟩
    replace q1 := q1.trans (sput_int h a 2 (by decide) _ (τ.1 2))
    subst q1
    refine ⟨_, (B _).1, _, rfl, _, (A _).1, _, rfl, _, _, (B _).2.1, _, _, (A _).2.1, L0, L0, L7, L8, L8, fun h1 q1 => ?_⟩
    replace q1 := q1.trans (sput_row h a 0 (by decide) _ _)
    subst q1
    refine ⟨_, (B _).1, _, rfl, _, (A _).1, _, rfl, _, _, (B _).2.2.1, _, _, (A _).2.2.1, L0, L0, L7, L8, L8, fun h1 q1 => ?_⟩
    replace q1 := q1.trans (sput_row h a 1 (by decide) _ _)
    subst q1
    refine ⟨_, (B _).1, _, rfl, _, (A _).1, _, rfl, _, _, (B _).2.2.2.1, _, _, (A _).2.2.2.1, L0, L0, L7, L8, L8, fun h1 q1 => ?_⟩
    replace q1 := q1.trans (sput_row h a 2 (by decide) _ _)
    subst q1
    refine ⟨_, (B _).1, _, rfl, _, (A _).1, _, rfl, _, _, (B _).2.2.2.2.1, _, _, (A _).2.2.2.2.1, L0, L0, L7, L8, L8, fun h1 q1 => ?_⟩
    replace q1 := q1.trans (sput_row h a 3 (by decide) _ _)
    subst q1
    refine ⟨_, (B _).1, _, rfl, _, (A _).1, _, rfl, _, _, (B _).2.2.2.2.2.1, _, _, (A _).2.2.2.2.2.1, L0, L0, L7, L8, L8, fun h1 q1 => ?_⟩
    replace q1 := q1.trans (sput_row h a 4 (by decide) _ _)
    subst q1
    refine ⟨_, (B _).1, _, rfl, _, (A _).1, _, rfl, _, _, (B _).2.2.2.2.2.2, _, _, (A _).2.2.2.2.2.2, L0, L0, L7, L8, L8, fun h1 q1 => ?_⟩
    exact q1.trans (sput_row h a 5 (by decide) _ _)
  refine main.posteq (fun o h1 hp => ?_)
  cases o with
  | inl v =>
    cases v with
    | none =>
      refine ⟨sput h a τ, ?_, rfl⟩
      rw [show h1 = _ from hp]
      refine sput_jeq h a ⟨fun k hk => ?_, fun k hk j hj => ?_⟩
      · rcases (by omega : k = 0 ∨ k = 1 ∨ k = 2) with rfl | rfl | rfl <;> rfl
      · have h7 : j < (7 : Int32).toNatClampNeg := hj
        rcases (by omega : k = 0 ∨ k = 1 ∨ k = 2 ∨ k = 3 ∨ k = 4 ∨ k = 5) with rfl | rfl | rfl | rfl | rfl | rfl <;> simp [setR, setI, cpy7, va_cpy, h7] <;> intro h9 <;> omega
    | some v => exact hp.elim
  | inr E => exact hp.elim
/-- the household of a house of τ comes to a house of σ -/
def sMove (σ τ : St) (j i : Int32) : St := if sHas σ i = true ∧ sHas τ j = true then setR (setR (setR (setR σ 0 (upd (σ.2 0) (ix i) (τ.2 0 (ix j)))) 1 (upd (σ.2 1) (ix i) (τ.2 1 (ix j)))) 2 (upd (σ.2 2) (ix i) (τ.2 2 (ix j)))) 3 (upd (σ.2 3) (ix i) (τ.2 3 (ix j))) else σ
theorem c_moveIn (H : SAt h b τ) (hd : a + 7 ≤ b ∨ b + 7 ≤ a) (S : sok σ) (T : sok τ) (H0 : SAt h a σ) : Con g mX6_moveIn (d + 2) [.ref a, .ref b, .int k, .int i] h (jPv (fun h' => h' = sput h a (sMove σ τ k i)) no2) := by
  rw [← H0.put] at H
  have key : Con g mX6_moveIn (d + 2) [.ref a, .ref b, .int k, .int i] (sput h a σ) (jPv (fun h' => h' = sput h a (sMove σ τ k i)) no2) := by
    refine con_of km_X6_moveIn.1.2.2.2.2 (Nat.le_of_ble_eq_true rfl) rfl (bX6_moveIn_0 ?_)
    have A := fun ρ : St => sput_SAt h a ρ
    have B : ∀ ρ : St, SAt (sput h a ρ) b τ := fun ρ => by
      have := (H.sput (σ := ρ) hd)
      rw [sput_sput] at this
      exact this
    refine ⟨_, (A _).1, (c_has (A _) S).pi (fun r h' hr => ?_) (fun E h' f => f.elim)⟩
    obtain ⟨e1, rfl⟩ := hr
    refine ⟨fun c => by simp [jPv, sMove, (bI_0 e1).1.mp c], fun c => ⟨_, (B _).1, (c_has (B _) T).pi (fun r h' hr => ?_) (fun E h' f => f.elim)⟩⟩
    have b1 := (bI_0 e1).2.mp c
    obtain ⟨e2, rfl⟩ := hr
    refine ⟨fun c => by simp [jPv, sMove, (bI_0 e2).1.mp c], fun c => ?_⟩
    have b2 := (bI_0 e2).2.mp c
    have v1 := sHas_in S b1
    have v2 := sHas_in T b2
    refine ⟨_, (A _).1, _, rfl, _, (B _).1, _, rfl, _, _, (B _).2.1, v2, _, _, (A _).2.1, v1, fun h1 q1 => ?_⟩
    replace q1 := q1.trans (sput_row h a 0 (by decide) _ _)
    subst q1
    refine ⟨_, (A _).1, _, rfl, _, (B _).1, _, rfl, _, _, (B _).2.2.1, v2, _, _, (A _).2.2.1, v1, fun h1 q1 => ?_⟩
    replace q1 := q1.trans (sput_row h a 1 (by decide) _ _)
    subst q1
    refine ⟨_, (A _).1, _, rfl, _, (B _).1, _, rfl, _, _, (B _).2.2.2.1, v2, _, _, (A _).2.2.2.1, v1, fun h1 q1 => ?_⟩
    replace q1 := q1.trans (sput_row h a 2 (by decide) _ _)
    subst q1
    refine ⟨_, (A _).1, _, rfl, _, (B _).1, _, rfl, _, _, (B _).2.2.2.2.1, v2, _, _, (A _).2.2.2.2.1, v1, fun h1 q1 => ?_⟩
    replace q1 := q1.trans (sput_row h a 3 (by decide) _ _)
    show h1 = _
    rw [q1, sMove, if_pos ⟨b1, b2⟩]
    rfl
  rw [H0.put] at key
  exact key
end STR3
