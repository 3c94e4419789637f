/-! A quarter keeps the bounds -/
section BND
variable {T : Td} {σ : St} {lim : Int32}
theorem z0 : (0 : Int32).toInt = 0 := rfl
theorem z9 : (999999 : Int32).toInt = 999999 := rfl
theorem z999 : (999 : Int32).toInt = 999 := rfl
theorem jmin_t (a b : Int32) : (jmin a b).toInt = if b.toInt < a.toInt then b.toInt else a.toInt := by
  unfold jmin
  by_cases c : b < a
  · rw [if_pos c, if_pos (Int32.lt_iff_toInt_lt.mp c)]
  · rw [if_neg c, if_neg (fun k => c (Int32.lt_iff_toInt_lt.mpr k))]
theorem jmax_t (a b : Int32) : (jmax a b).toInt = if a.toInt < b.toInt then b.toInt else a.toInt := by
  unfold jmax
  by_cases c : a < b
  · rw [if_pos c, if_pos (Int32.lt_iff_toInt_lt.mp c)]
  · rw [if_neg c, if_neg (fun k => c (Int32.lt_iff_toInt_lt.mpr k))]
theorem rng_0 : rng 0 := by unfold rng; rw [z0]; omega
theorem pay_b {i c d : Int32} (hc : rng c) (hd : rng d) : 0 ≤ (pay T σ i c d).toInt ∧ (pay T σ i c d).toInt ≤ c.toInt ∧ (pay T σ i c d).toInt ≤ d.toInt := by
  have hm : 0 ≤ (jmin c d).toInt ∧ (jmin c d).toInt ≤ c.toInt ∧ (jmin c d).toInt ≤ d.toInt := by
    rw [jmin_t]
    unfold rng at hc hd
    split <;> omega
  unfold pay
  cases T.2.2.1 with
  | none => exact hm
  | some f =>
    show 0 ≤ (if _ then _ else _ : Int32).toInt ∧ (if _ then _ else _ : Int32).toInt ≤ _ ∧ (if _ then _ else _ : Int32).toInt ≤ _
    split
    · exact hm
    · rw [jmax_t, jmin_t (f _), z0]
      split <;> split <;> omega
theorem grow_b {i d : Int32} : 0 ≤ (grow T σ i d).toInt ∧ (grow T σ i d).toInt ≤ 999 := by
  unfold grow
  cases T.2.2.2.1 with
  | none => show 0 ≤ (0 : Int32).toInt ∧ (0 : Int32).toInt ≤ 999; rw [z0]; omega
  | some f =>
    show 0 ≤ (if _ then _ else _ : Int32).toInt ∧ (if _ then _ else _ : Int32).toInt ≤ 999
    split
    · rw [z0]; omega
    · rw [jmax_t, jmin_t, z0, z999]
      split <;> split <;> omega
theorem st_b {j : Nat} (rc : rng (σ.2 2 j)) (re : rng (σ.2 0 j)) (rs : rng (σ.2 1 j)) (rb : rng (σ.2 4 j)) : rng (stCash T σ j) ∧ rng (stDebt T σ j) := by
  by_cases h0 : σ.2 3 j = 0
  · have t1 : (σ.2 2 j + σ.2 0 j).toInt = (σ.2 2 j).toInt + (σ.2 0 j).toInt := tI_add (by unfold rng at *; omega)
    have t2 : (stC1 σ j).toInt = (σ.2 2 j).toInt + (σ.2 0 j).toInt - (σ.2 1 j).toInt := by
      unfold stC1
      rw [tI_sub (by rw [t1]; unfold rng at *; omega), t1]
    have rC : rng (stC2 σ j) := by
      unfold stC2 rng
      rw [jmax_t, jmin_t, z0, z9]
      split <;> split <;> omega
    have rD : rng (stD1 σ j) := by
      unfold stD1
      by_cases c : stC1 σ j < 0
      · rw [if_pos c]
        rw [Int32.lt_iff_toInt_lt, z0] at c
        have t3 : (σ.2 4 j - stC1 σ j).toInt = (σ.2 4 j).toInt - (stC1 σ j).toInt := tI_sub (by unfold rng at *; omega)
        unfold rng at rb ⊢
        rw [jmin_t, t3, z9]
        split <;> omega
      · rw [if_neg c]; exact rb
    have P := pay_b (T := T) (σ := σ) (i := nI j) rC rD
    have eP : stP T σ j = pay T σ (nI j) (stC2 σ j) (stD1 σ j) := if_pos h0
    unfold stCash stDebt
    rw [if_pos h0, if_pos h0, eP]
    unfold rng at *
    rw [tI_sub (by omega), tI_sub (by omega)]
    omega
  · unfold stCash stDebt
    rw [if_neg h0, if_neg h0]
    exact ⟨rc, rb⟩
theorem D1_b {j : Nat} (hj : j < sN σ) (r : rng (stDebt T σ j)) : rng (D1 T σ j) := by
  have G := grow_b (T := T) (σ := σ) (i := nI j) (d := stDebt T σ j)
  rw [D1_at hj]
  unfold rng at *
  have t : (stDebt T σ j + grow T σ (nI j) (stDebt T σ j)).toInt = (stDebt T σ j).toInt + (grow T σ (nI j) (stDebt T σ j)).toInt := tI_add (by omega)
  rw [jmin_t, t, z9]
  split <;> omega
theorem lef_b {j : Nat} (r : rng (σ.2 4 j)) : lef T σ j = 0 ∨ lef T σ j = σ.2 4 j := by
  unfold lef
  split
  · exact Or.inr rfl
  · exact Or.inl rfl
theorem cam_b (r : ∀ i, i < sN σ → rng (σ.2 4 i)) : ∀ j, j ≤ sN σ → ∀ i, rng (cam T σ j i) := by
  intro j
  induction j with
  | zero => intro _ i; exact rng_0
  | succ j ih =>
    intro hj i
    show rng ((if sHas σ (goTo T σ j) = true then upd (cam T σ j) (ix (goTo T σ j)) (lef T σ j) else cam T σ j) i)
    split
    · unfold upd
      split
      · rcases lef_b (T := T) (r j (by omega)) with c | c
        · rw [c]; exact rng_0
        · rw [c]; exact r j (by omega)
      · exact ih (by omega) i
    · exact ih (by omega) i
theorem sea_b (r : ∀ i, i < sN σ → rng (σ.2 4 i)) (rs : rng (σ.1 1)) : ∀ j, j ≤ sN σ → rng (seaN T σ j) := by
  intro j
  induction j with
  | zero => intro _; exact rs
  | succ j ih =>
    intro hj
    have I := ih (by omega)
    show rng (if sHas σ (goTo T σ j) = true then seaN T σ j else jmin (seaN T σ j + lef T σ j) 999999)
    split
    · exact I
    · have hl : rng (lef T σ j) := by
        rcases lef_b (T := T) (r j (by omega)) with c | c
        · rw [c]; exact rng_0
        · rw [c]; exact r j (by omega)
      unfold rng at *
      rw [jmin_t, tI_add (by omega), z9]
      split <;> omega
theorem stB_pas (B : stB σ) : stB (pas T lim σ) := by
  obtain ⟨S, B2, B3⟩ := B
  have h7 := S.2
  have en : sN (pas T lim σ) = sN σ := rfl
  have st : ∀ i, i < sN σ → rng (stCash T σ i) ∧ rng (stDebt T σ i) := fun i hi => st_b (B2 i hi).2.2.2.1 (B2 i hi).2.1 (B2 i hi).2.2.1 (B2 i hi).2.2.2.2
  have rD : ∀ i, i < sN (pas1 T σ) → rng ((pas1 T σ).2 4 i) := fun i hi => D1_b hi (st i hi).2
  refine ⟨sok_0 pas_1 S, fun i hi => ?_, sea_b rD B3 (sN σ) (Nat.le_refl _)⟩
  rw [en] at hi
  obtain ⟨g1, r0, r1, r2, r4⟩ := B2 i hi
  have c1 : (pas1 T σ).2 2 i = stCash T σ i := by
    show fst (sN σ) (stCash T σ) (σ.2 2) i = _
    unfold fst
    rw [if_pos hi]
  have e3 : (pas T lim σ).2 3 i = ruG lim (pas2 T σ) i := by
    show fst (sN σ) (ruG lim (pas2 T σ)) ((pas2 T σ).2 3) i = _
    unfold fst
    rw [if_pos hi]
  have e2 : (pas T lim σ).2 2 i = ruC lim (pas2 T σ) i := by
    show fst (sN σ) (ruC lim (pas2 T σ)) ((pas2 T σ).2 2) i = _
    unfold fst
    rw [if_pos hi]
  have e4 : (pas T lim σ).2 4 i = jmin ((pas1 T σ).2 4 i - lef T (pas1 T σ) i + cam T (pas1 T σ) (sN σ) i) 999999 := rho_at (σ := pas1 T σ) hi
  refine ⟨?_, r0, r1, ?_, ?_⟩
  · rw [e3]
    unfold ruG
    split
    · exact Or.inr rfl
    · exact g1
  · rw [e2]
    unfold ruC
    split
    · exact rng_0
    · show rng ((pas1 T σ).2 2 i)
      rw [c1]
      exact (st i hi).1
  · rw [e4]
    have rc := cam_b (T := T) rD (sN σ) (Nat.le_refl _) i
    have rd := rD i hi
    have rl : rng ((pas1 T σ).2 4 i - lef T (pas1 T σ) i) := by
      rcases lef_b (T := T) rd with c | c
      · rw [c, Int32.sub_zero]; exact rd
      · rw [c, Int32.sub_self]; exact rng_0
    unfold rng at *
    rw [jmin_t, tI_add (by omega), z9]
    split <;> omega
theorem stB_pasN (B : stB σ) (j : Nat) : stB (pasN T lim σ j) := by
  induction j with
  | zero => exact B
  | succ j ih => exact stB_pas ih
end BND
