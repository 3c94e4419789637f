/-- the door that tells most, and how often its number stands there -/
def tmF (G : Nat → Nat → Int32) (F : Nat) : Nat → Int32 × Nat
  | 0 => (-1, 694)
  | j + 1 => if mxc (G j) F F < (tmF G F j).2 then (nI j, mxc (G j) F F) else tmF G F j
theorem mxc_n (f : Nat → Int32) (n : Nat) : mxc f n n ≤ n := mxc_le _ _ _ _ (fun _ _ => cnt_le _ _ _)
theorem tmF_le (G : Nat → Nat → Int32) (F : Nat) (hF : F ≤ 693) : ∀ j, (tmF G F j).2 ≤ 694
  | 0 => Nat.le_refl _
  | j + 1 => by
    rw [tmF]
    have := tmF_le G F hF j
    have := mxc_n (G j) F
    split
    · show mxc (G j) F F ≤ 694
      omega
    · assumption
section TEL
variable {g : jG} {d : Nat} {h hs : jH} {e n F : Nat} {δ : Ds}
theorem tell_loop (hn : n ≤ 7) (hF : F ≤ 693) (hδ : δ.1 = nI F) : ∀ m j δ', n = j + m → δ'.1 = δ.1 → δ'.2.1 = δ.2.1 → (∀ k, j ≤ k → δ'.2.2 k = δ.2.2 k) → (0 < j → 0 < F) →
    J g mX1_tellingMost (d + 3) hs (jPi (fun r h' => r = (if F = 0 then -1 else (tmF δ.2.2 F n).1) ∧ ∃ δ', δ'.1 = δ.1 ∧ δ'.2.1 = δ.2.1 ∧ h' = dput h e δ') no2) 13
      [(0, .ref e), (1, .int (nI n)), (2, .int (tmF δ.2.2 F j).1), (3, .int (nI (tmF δ.2.2 F j).2)), (4, .int (nI j))] [] (dput h e δ') := by
  intro m
  induction m with
  | zero =>
    intro j δ' hj h1 h2 h3 h0
    simp only [Nat.add_zero] at hj
    subst hj
    refine bX1_tellingMost_13 ⟨fun q => absurd q (nI_nlt (Nat.le_refl _) (by omega)), fun _ => ⟨?_, δ', h1, h2, rfl⟩⟩
    by_cases hF0 : F = 0
    · have : n = 0 := by
        by_cases x : n = 0
        · exact x
        · exact absurd (h0 (by omega)) (by omega)
      subst this
      simp [hF0, tmF]
    · rw [if_neg hF0]
  | succ m ih =>
    intro j δ' hj h1 h2 h3 h0
    have ej : (nI j).toNatClampNeg = j := nI_clamp (by omega)
    refine bX1_tellingMost_13 ⟨fun _ => ⟨fun _ => ⟨_, dput_0, _, rfl, fun q => ?_, fun q => ⟨?_, δ', h1, h2, rfl⟩⟩, fun q => absurd (nI_lt (a := j) (b := 7) (by omega) (by decide)) q⟩, fun q => absurd (nI_lt (by omega) (by omega)) q⟩
    · rw [h1, hδ] at q
      have hF0 : 0 < F := (nI_ltI (a := 0) (by decide) (by omega)).mp q
      have ejm : jmin δ'.1 (nI 693) = nI F := by
        rw [h1, hδ]
        exact if_neg (nI_nlt hF (by decide))
      refine ⟨_, dput_0, _, rfl, _, _, dput_2, vp_in_nI (by omega) (by decide), e + (3 + j), by rw [ej]; exact if_pos (by omega), _, dput_0, _, rfl, _, dput_0, _, rfl, _, _, dput_1, ⟨_, rfl⟩, _, dput_0, ?_⟩
      have key := c_mostAlike (g := g) (d := d) (h := dput h e δ') (r := e + (3 + j)) (n := F) (L := 693) (f := δ'.2.2 j) (e := e) (by decide) hF (by omega) dput_0 (dput_r (by omega))
      have ejm2 : jmin δ'.1 (nI ((693, Sum.inl δ'.2.1) : vp_A).1) = nI F := ejm
      rw [ejm2]
      refine key.pi (fun r h' hr => ?_) (fun E h' f => f.elim)
      obtain ⟨e1, f', e2⟩ := hr
      replace e2 := e2.trans (dput_g (by omega) f')
      subst e2
      rw [h3 j (Nat.le_refl _)] at e1
      have hm := mxc_n (δ.2.2 j) F
      have ht := tmF_le δ.2.2 F hF j
      have nxt : ∀ x y, x = (tmF δ.2.2 F (j + 1)).1 → y = nI (tmF δ.2.2 F (j + 1)).2 → J g mX1_tellingMost (d + 3) hs (jPi (fun r h' => r = (if F = 0 then -1 else (tmF δ.2.2 F n).1) ∧ ∃ δ', δ'.1 = δ.1 ∧ δ'.2.1 = δ.2.1 ∧ h' = dput h e δ') no2) 13
          [(0, .ref e), (1, .int (nI n)), (2, .int x), (3, .int y), (4, .int (nI j + 1))] [] (dput h e (dG δ' j f')) := by
        intro x y hx hy
        rw [hx, hy, nI_1]
        refine ih (j + 1) _ (by omega) h1 h2 (fun k hk => ?_) (fun _ => hF0)
        have : ¬ k = j := by omega
        simp only [dG, this, if_false]
        exact h3 k (by omega)
      rw [e1]
      refine ⟨fun q2 => ?_, fun q2 => ?_⟩
      · have q3 := (nI_ltI (by omega) (by omega)).mp q2
        refine nxt _ _ ?_ ?_
        · rw [tmF, if_pos q3]
        · rw [tmF, if_pos q3]
      · have q3 : ¬ mxc (δ.2.2 j) F F < (tmF δ.2.2 F j).2 := fun x => q2 (nI_lt x (by omega))
        refine nxt _ _ ?_ ?_
        · rw [tmF, if_neg q3]
        · rw [tmF, if_neg q3]
    · rw [h1, hδ] at q
      have hF0 : F = 0 := by
        by_cases x : F = 0
        · exact x
        · exact absurd (nI_lt (a := 0) (by omega) (by omega)) q
      have : j = 0 := by
        by_cases x : j = 0
        · exact x
        · have := h0 (by omega)
          omega
      subst this
      simp [hF0, tmF]
theorem c_tellingMost (hn : n ≤ 7) (hF : F ≤ 693) (hδ : δ.1 = nI F) : Con g mX1_tellingMost (d + 3) [.ref e, .int (nI n)] (dput h e δ) (jPi (fun r h' => r = (if F = 0 then -1 else (tmF δ.2.2 F n).1) ∧ ∃ δ', δ'.1 = δ.1 ∧ δ'.2.1 = δ.2.1 ∧ h' = dput h e δ') no2) := by
  refine con_of km_X1_tellingMost.1.2.2.2.2 (Nat.le_of_ble_eq_true rfl) rfl (bX1_tellingMost_0 ⟨_, dput_0, _, rfl, _, _, dput_1, ⟨_, rfl⟩, ?_⟩)
  exact tell_loop hn hF hδ n 0 δ (by omega) rfl rfl (fun _ _ => rfl) (fun e => absurd e (by omega))
end TEL
