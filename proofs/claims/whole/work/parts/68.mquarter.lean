/-! The reference's quarter is the class's -/
section MQR
variable {g : jG} {d : Nat} {h hs : jH} {m : Nat} {μ ν : MW} {i k n : Int32} {T : Td} {σ τ : St} {lim : Int32}
theorem setI_same {τ : St} {q : Nat} : setI τ q (τ.1 q) = τ := by
  refine Prod.ext (funext fun i => ?_) rfl
  show (if i = q then τ.1 q else τ.1 i) = τ.1 i
  by_cases h : i = q
  · rw [if_pos h, h]
  · rw [if_neg h]
theorem τ2_0 : τ2 T σ 0 = σ := by
  unfold τ2
  rw [fst_0]
  show setR (setI σ 1 (σ.1 1)) 4 (σ.2 4) = σ
  rw [setI_same, setR_same]
theorem m_quarter (B : stB σ) (E : encT (kn μ) T) : Con g mX12_quarter (d + 6) [.ref m] (mw h m (mS μ σ)) (jPv (fun h' => ∃ ν, qr μ ν ∧ ν.1 23 = pasPaid T σ ∧ ν.1 24 = pasRuin T T.1.2.2 σ ∧ (∀ i, i < sN σ → ν.2.1 8 i = pasCame T σ i) ∧ h' = mw h m (mS ν (pas T T.1.2.2 σ))) no2) := by
  have S := B.1
  refine con_of km_X12_quarter.1.2.2.2.2 (Nat.le_of_ble_eq_true rfl) rfl (bX12_quarter_0 ⟨_, mw_o, Nat.le_of_ble_eq_true rfl, fun h1 p1 => ?_⟩)
  replace p1 : h1 = mw h m (mS (mI μ 23 0) σ) := p1.trans (mw_pI 23 0)
  subst p1
  refine ⟨_, mw_o, Nat.le_of_ble_eq_true rfl, fun h1 p1 => ?_⟩
  replace p1 : h1 = mw h m (mS (mI (mI μ 23 0) 24 0) σ) := p1.trans (mw_pI 24 0)
  subst p1
  have q0 : qr μ (mI (mI μ 23 0) 24 0) := (qr_I μ (Or.inl rfl) 0).tr (qr_I _ (Or.inr rfl) 0)
  have S1 : sok (pas1 T σ) := sok_like rfl S
  have key := loop_12 (g := g) (d := d) (h := h) (m := m) (μ := μ) (T := T) (σ := σ) (hs := mw h m (mS μ σ)) B E (P := jPv (fun h' => ∃ ν, qr μ ν ∧ ν.1 23 = pasPaid T σ ∧ ν.1 24 = pasRuin T T.1.2.2 σ ∧ (∀ i, i < sN σ → ν.2.1 8 i = pasCame T σ i) ∧ h' = mw h m (mS ν (pas T T.1.2.2 σ))) no2) (fun ν1 L => ?_) (sN σ) 0 (mI (mI μ 23 0) 24 0) (Nat.zero_add _).symm ⟨q0, rfl, rfl, fun i hi => absurd hi (Nat.not_lt_zero i)⟩
  · rw [τ1_0] at key
    exact key
  · obtain ⟨l1, l2, l3, l4⟩ := L
    rw [τ1_N]
    have h99 := loop_99 (g := g) (d := d) (h := h) (m := m) (μ := μ) (T := T) (σ := pas1 T σ) (hs := mw h m (mS μ σ)) (paid := pasPaid T σ) S1 B.2.2.2 E (P := jPv (fun h' => ∃ ν, qr μ ν ∧ ν.1 23 = pasPaid T σ ∧ ν.1 24 = pasRuin T T.1.2.2 σ ∧ (∀ i, i < sN σ → ν.2.1 8 i = pasCame T σ i) ∧ h' = mw h m (mS ν (pas T T.1.2.2 σ))) no2) (fun ν2 L2' => ?_) (sN σ) 0 ν1 (Nat.zero_add _).symm ⟨l1, l2, l3, fun i hi => (l4 i hi).1, fun i hi => (l4 i hi).2⟩
    · rw [τ2_0] at h99
      exact h99
    · obtain ⟨k1, k2, k3, k4, k5⟩ := L2'
      have h129 := loop_129 (g := g) (d := d) (h := h) (m := m) (μ := μ) (T := T) (lim := T.1.2.2) (σ := pas1 T σ) (hs := mw h m (mS μ σ)) (paid := pasPaid T σ) S1 (fun i hi => (B.2.1 i hi).1) E.2.2.1 (P := jPv (fun h' => ∃ ν, qr μ ν ∧ ν.1 23 = pasPaid T σ ∧ ν.1 24 = pasRuin T T.1.2.2 σ ∧ (∀ i, i < sN σ → ν.2.1 8 i = pasCame T σ i) ∧ h' = mw h m (mS ν (pas T T.1.2.2 σ))) no2) (fun ν3 L3' => ?_) (sN σ) 0 ν2 (Nat.zero_add _).symm ⟨k1, k2, k3, k5⟩
      · rw [τ3_0] at h129
        exact h129
      · obtain ⟨n1, n2, n3, n4⟩ := L3'
        refine ⟨ν3, n1, n2, n3, n4, ?_⟩
        have e := τ3_N (T := T) (lim := T.1.2.2) (σ := pas1 T σ) (k := (pas1 T σ).1 2) rfl
        rw [e]
        rfl
end MQR
