/-! Both begin -/
section MBG
variable {g : jG} {d : Nat} {h : jH} {o top : Nat}
theorem m_new (R : h.2.1 + 18 ≤ jB0 g + 601024 ∧ h.2.2 + 22955 ≤ 7293034) : Con g mX12_init (d + 1) [.ref h.2.1] (jnew h newM 38) (jPv (fun h' => h' = mw (h.1, h.2.1 + 18, h.2.2 + 22955) h.2.1 μ0) no2) := by
  rw [jnew_seg]
  have aux : ∀ a x : Nat, a + 22955 ≤ x → a + 38 + 22917 ≤ x := fun a x e => by
    rw [Nat.add_assoc]
    exact e
  refine (c_initM (h := h) (o := h.2.1) (s := 38) ⟨R.1, aux _ _ R.2⟩).pv (fun h' e => ?_) (fun E h' f => f)
  rw [e, show 38 + 22917 = 22955 from rfl, lay_mw]
theorem rel_0 : Rel (ω0 g o) μ0 := by
  have z : ∀ x, ¬ x = 3 → kn μ0 x = 0 := fun x hx => if_neg hx
  have cn : can σ0 := ⟨fun _ _ => rfl, fun _ _ _ => rfl, fun _ _ _ => rfl⟩
  have B : stB σ0 := ⟨⟨rfl, Nat.zero_le _⟩, fun i hi => absurd hi (Nat.not_lt_zero i), rng_0⟩
  refine ⟨⟨⟨⟨⟨z 0 (by decide), ⟨z 2 (by decide), Or.inl rfl⟩, show (if 3 = 3 then (100 : Int32) else 0) = 100 from rfl, z 4 (by decide), z 5 (by decide), z 6 (by decide)⟩, fun i hi => ?_⟩, ⟨z 1 (by decide), z 50 (by decide), z 51 (by decide), fun r i hr hi => z _ (by omega)⟩, z 7 (by decide), fun j hj => absurd hj (Nat.not_lt_zero j)⟩, ⟨⟨B, cn⟩, ⟨B, fun i hi => absurd hi (Nat.not_lt_zero i)⟩, rfl⟩, ⟨rfl, Nat.zero_le _, fun i hi => hi, fun i j _ _ e => e⟩, fun j hj => absurd hj (Nat.not_lt_zero j), fun j hj => absurd hj (Nat.not_lt_zero j)⟩, ⟨fun j hj => ?_, fun j hj => ⟨0, Nat.zero_le _, rfl⟩, fun j hj => Or.inl rfl⟩, fun i hi => ⟨rfl, rfl, Nat.zero_le _, fun i hi => hi, fun i j _ _ e => e⟩, ⟨⟨0, ⟨rfl, by decide⟩, rfl, fun j => ⟨128, by decide, rfl⟩, fun j hj => absurd hj (Nat.not_lt_zero j)⟩, rfl, rfl⟩, fun p hp => absurd hp (by show ¬ (0 : Int32) = 2; decide), fun i => by show 0 < 7; decide⟩
  · rw [z _ (by omega)]
    unfold s44 kS
    split
    · rfl
    · split
      · rfl
      · split
        · rfl
        · split <;> rfl
  · refine ⟨⟨?_, rfl⟩, fun _ _ => rfl⟩
    rcases (by omega : j = 0 ∨ j = 1 ∨ j = 2 ∨ j = 3) with rfl | rfl | rfl | rfl <;> rfl
theorem ko_0 (ht : o + 2 < top) : KO (ω0 g o) top := by
  refine ⟨fun τ hτ => ?_, fun τ τ' h1 h2 _ => ?_, fun t ht => (Option.some_ne_none _ ht.symm).elim⟩
  · rcases hτ with c | ⟨i, _, c⟩
    · rw [c]; exact ht
    · exact (Option.some_ne_none _ c.symm).elim
  · rcases h1 with c1 | ⟨i, _, c⟩
    · rcases h2 with c2 | ⟨i, _, c⟩
      · rw [c1, c2]
      · exact (Option.some_ne_none _ c.symm).elim
    · exact (Option.some_ne_none _ c.symm).elim
end MBG
