/-! Streets that are alike -/
def rowsEq (σ τ : St) (j : Nat) : Prop := ∀ k, k < 6 → σ.2 k j = τ.2 k j
def can (σ : St) : Prop := (∀ k, 3 ≤ k → σ.1 k = 0) ∧ (∀ k j, 7 ≤ j → σ.2 k j = 0) ∧ ∀ k j, 6 ≤ k → σ.2 k j = 0
theorem can_eq {σ τ : St} (c1 : can σ) (c2 : can τ) (e : seq σ τ) : σ = τ := by
  refine Prod.ext (funext fun k => ?_) (funext fun k => funext fun j => ?_)
  · by_cases hk : k < 3
    · exact e.1 k hk
    · rw [c1.1 k (by omega), c2.1 k (by omega)]
  · by_cases hk : k < 6
    · by_cases hj : j < 7
      · exact e.2 k hk j hj
      · rw [c1.2.1 k j (by omega), c2.2.1 k j (by omega)]
    · rw [c1.2.2 k j (by omega), c2.2.2 k j (by omega)]
theorem seq_rf (σ : St) : seq σ σ := ⟨fun _ _ => rfl, fun _ _ _ _ => rfl⟩
section LIK
variable {g : jG} {d : Nat} {h hs : jH} {a b : Nat} {σ τ : St}
theorem like_loop (H : SAt h a σ) (K : SAt h b τ) (Q : Prop) : ∀ m j (x2 : Int32), 7 = j + m → (x2 = 0 ∧ ¬ Q ∨ x2 = 1 ∧ (Q ↔ ∀ i, j ≤ i → i < 7 → rowsEq σ τ i)) →
    J g mX6_isLike (d + 1) hs (jPi (fun r h' => (r = 0 ∧ ¬ Q ∨ r = 1 ∧ Q) ∧ h' = h) no2) 41 [(0, .ref a), (1, .ref b), (2, .int x2), (3, .int (nI j))] [] h := by
  intro m
  induction m with
  | zero =>
    intro j x2 hj hx
    have : j = 7 := by omega
    subst this
    refine bX6_isLike_41 ⟨fun q => absurd q (by decide), fun _ => ⟨?_, ?_, rfl⟩⟩
    · rcases hx with ⟨h1, _⟩ | ⟨h1, _⟩
      · exact Or.inl h1
      · exact Or.inr h1
    · rcases hx with h1 | ⟨h1, h2⟩
      · exact Or.inl h1
      · exact Or.inr ⟨h1, h2.mpr (fun i h3 h4 => by omega)⟩
  | succ m ih =>
    intro j x2 hj hx
    have hix : (nI j).toNatClampNeg = j := nI_clamp (by omega)
    have v1 : vp_in (nI j) 7 := vp_in_nI (by omega) (by decide)
    refine bX6_isLike_41 ⟨fun _ => ⟨fun q => ⟨Or.inl q, ?_, rfl⟩, fun q => ?_⟩, fun q => absurd (nI_lt (a := j) (b := 7) (by omega) (by decide)) q⟩
    · rcases hx with h1 | ⟨h1, _⟩
      · exact Or.inl h1
      · exact absurd (h1.symm.trans q) (by decide)
    · have hq : Q ↔ ∀ i, j ≤ i → i < 7 → rowsEq σ τ i := by
        rcases hx with ⟨h1, _⟩ | ⟨_, h2⟩
        · exact absurd h1 q
        · exact h2
      have bad : ∀ k, k < 6 → ¬ σ.2 k j = τ.2 k j → J g mX6_isLike (d + 1) hs (jPi (fun r h' => (r = 0 ∧ ¬ Q ∨ r = 1 ∧ Q) ∧ h' = h) no2) 41 [(0, .ref a), (1, .ref b), (2, .int 0), (3, .int (nI j + 1))] [] h := by
        intro k hk hne
        rw [nI_1]
        refine ih (j + 1) 0 (by omega) (Or.inl ⟨rfl, fun hQ => hne (hq.mp hQ j (Nat.le_refl _) (by omega) k hk)⟩)
      refine ⟨_, H.1, _, rfl, _, _, H.2.1, v1, _, K.1, _, rfl, _, _, K.2.1, v1, fun e0 => ?_, fun e0 => bad 0 (by decide) (by rw [hix] at e0; exact e0)⟩
      refine ⟨_, H.1, _, rfl, _, _, H.2.2.1, v1, _, K.1, _, rfl, _, _, K.2.2.1, v1, fun e1 => ?_, fun e1 => bad 1 (by decide) (by rw [hix] at e1; exact e1)⟩
      refine ⟨_, H.1, _, rfl, _, _, H.2.2.2.1, v1, _, K.1, _, rfl, _, _, K.2.2.2.1, v1, fun e2 => ?_, fun e2 => bad 2 (by decide) (by rw [hix] at e2; exact e2)⟩
      refine ⟨_, H.1, _, rfl, _, _, H.2.2.2.2.1, v1, _, K.1, _, rfl, _, _, K.2.2.2.2.1, v1, fun e3 => ?_, fun e3 => bad 3 (by decide) (by rw [hix] at e3; exact e3)⟩
      refine ⟨_, H.1, _, rfl, _, _, H.2.2.2.2.2.1, v1, _, K.1, _, rfl, _, _, K.2.2.2.2.2.1, v1, fun e4 => ?_, fun e4 => bad 4 (by decide) (by rw [hix] at e4; exact e4)⟩
      refine ⟨_, H.1, _, rfl, _, _, H.2.2.2.2.2.2, v1, _, K.1, _, rfl, _, _, K.2.2.2.2.2.2, v1, fun e5 => ?_, fun e5 => bad 5 (by decide) (by rw [hix] at e5; exact e5)⟩
      rw [hix] at e0 e1 e2 e3 e4 e5
      rw [nI_1]
      refine ih (j + 1) 1 (by omega) (Or.inr ⟨rfl, hq.trans ⟨fun hh i h1 h2 => hh i (by omega) h2, fun hh i h1 h2 => ?_⟩⟩)
      by_cases hi : i = j
      · subst hi
        intro k hk
        rcases (by omega : k = 0 ∨ k = 1 ∨ k = 2 ∨ k = 3 ∨ k = 4 ∨ k = 5) with rfl | rfl | rfl | rfl | rfl | rfl <;> assumption
      · exact hh i (by omega) h2
theorem c_isLike (H : SAt h a σ) (K : SAt h b τ) : Con g mX6_isLike (d + 1) [.ref a, .ref b] h (jPi (fun r h' => (r = 0 ∧ ¬ seq σ τ ∨ r = 1 ∧ seq σ τ) ∧ h' = h) no2) := by
  refine con_of km_X6_isLike.1.2.2.2.2 (Nat.le_of_ble_eq_true rfl) rfl (bX6_isLike_0 ?_)
  refine ⟨_, H.1, _, rfl, _, K.1, _, rfl, fun e0 => ⟨_, H.1, _, rfl, _, K.1, _, rfl, fun e1 => ⟨_, H.1, _, rfl, _, K.1, _, rfl, fun e2 => ?_, fun e2 => ?_⟩, fun e1 => ?_⟩, fun e0 => ?_⟩
  · refine like_loop H K (seq σ τ) 7 0 1 rfl (Or.inr ⟨rfl, fun s i _ hi k hk => s.2 k hk i hi, fun s => ⟨fun k hk => ?_, fun k hk j hj => s j (Nat.zero_le _) hj k hk⟩⟩)
    rcases (by omega : k = 0 ∨ k = 1 ∨ k = 2) with rfl | rfl | rfl <;> assumption
  · exact like_loop H K (seq σ τ) 7 0 0 rfl (Or.inl ⟨rfl, fun s => e2 (s.1 2 (by decide))⟩)
  · exact like_loop H K (seq σ τ) 7 0 0 rfl (Or.inl ⟨rfl, fun s => e1 (s.1 1 (by decide))⟩)
  · exact like_loop H K (seq σ τ) 7 0 0 rfl (Or.inl ⟨rfl, fun s => e0 (s.1 0 (by decide))⟩)
end LIK
