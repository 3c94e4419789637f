section HI2
variable {g : jG} {d : Nat} {h hs : jH} {b s e : Nat} {ξ ζ : Hs} {σ τ : St}
theorem hpush_ok (O : hok ξ) (σ : St) : hok (hpush ξ σ) := by
  obtain ⟨o1, o2, o3, o4⟩ := O
  by_cases hl : hN ξ < 10
  · rw [hpush, if_pos hl]
    have hh : hN (ξ.1 + 1, ξ.2.1, updS ξ.2.2 (ξ.2.1 (hN ξ)) σ) = hN ξ + 1 := by
      show (ξ.1 + 1).toNatClampNeg = _
      rw [o1, nI_1, nI_clamp (by omega)]
    exact ⟨by rw [hh]; show ξ.1 + 1 = _; rw [o1, nI_1], by rw [hh]; omega, o3, o4⟩
  · rw [hpush, if_neg hl]
    have hp : ∀ k, k < 10 → (if k = 9 then ξ.2.1 0 else hrot ξ.2.1 10 k) = ξ.2.1 (if k = 9 then 0 else k + 1) := by
      intro k hk
      by_cases h9 : k = 9
      · rw [if_pos h9, if_pos h9]
      · rw [if_neg h9, if_neg h9]; simp only [hrot, show k + 1 < 10 from by omega, if_true]
    have hb : ∀ k, k < 10 → (if k = 9 then 0 else k + 1) < 10 := fun k hk => by split <;> omega
    refine ⟨rfl, Nat.le_of_ble_eq_true rfl, fun i hi => ?_, fun i j hi hj he => ?_⟩
    · show (if i = 9 then ξ.2.1 0 else hrot ξ.2.1 10 i) < 10
      rw [hp i hi]
      exact o3 _ (hb i hi)
    · replace he : (if i = 9 then ξ.2.1 0 else hrot ξ.2.1 10 i) = (if j = 9 then ξ.2.1 0 else hrot ξ.2.1 10 j) := he
      rw [hp i hi, hp j hj] at he
      have := o4 _ _ (hb i hi) (hb j hj) he
      by_cases hi9 : i = 9 <;> by_cases hj9 : j = 9 <;> simp only [hi9, hj9, if_true, if_false] at this <;> omega
theorem hpush_N (O : hok ξ) (σ : St) : hN (hpush ξ σ) = if hN ξ < 10 then hN ξ + 1 else 10 := by
  obtain ⟨o1, o2, o3, o4⟩ := O
  by_cases hl : hN ξ < 10
  · rw [hpush, if_pos hl, if_pos hl]
    show (ξ.1 + 1).toNatClampNeg = _
    rw [o1, nI_1, nI_clamp (by omega)]
  · rw [hpush, if_neg hl, if_neg hl]
    rfl
theorem hpush_v (O : hok ξ) (σ : St) {i : Nat} (hi : i < hN (hpush ξ σ)) : hv (hpush ξ σ) i = if hN ξ < 10 then (if i = hN ξ then σ else hv ξ i) else (if i = 9 then σ else hv ξ (i + 1)) := by
  rw [hpush_N O] at hi
  obtain ⟨o1, o2, o3, o4⟩ := O
  by_cases hl : hN ξ < 10
  · rw [if_pos hl] at hi
    rw [hpush, if_pos hl, if_pos hl]
    show updS ξ.2.2 (ξ.2.1 (hN ξ)) σ (ξ.2.1 i) = _
    by_cases h1 : i = hN ξ
    · subst h1
      simp [updS]
    · have : ¬ ξ.2.1 i = ξ.2.1 (hN ξ) := fun e => h1 (o4 _ _ (by omega) hl e)
      simp only [updS, this, h1, if_false]
      rfl
  · rw [if_neg hl] at hi
    rw [hpush, if_neg hl, if_neg hl]
    show updS ξ.2.2 (ξ.2.1 0) σ (if i = 9 then ξ.2.1 0 else hrot ξ.2.1 10 i) = _
    by_cases h1 : i = 9
    · subst h1
      simp [updS]
    · have h2 : i + 1 < 10 := by omega
      have : ¬ ξ.2.1 (i + 1) = ξ.2.1 0 := fun e => by have := o4 _ _ h2 (by decide) e; omega
      simp only [h1, if_false, hrot, h2, if_true, updS, this]
      rfl
/-- n deeds back -/
theorem c_goBack {n : Nat} (O : hok ξ) (H : SAt h s σ) (hd : apart s 7 b 72) (h0 : 0 < n) (hn : n ≤ hN ξ) : Con g mX2_goBack (d + 2) [.ref b, .int (nI n), .ref s] (hput h b ξ) (jPv (fun h' => h' = sput (hput h b (nI (hN ξ - n), ξ.2)) s (hv ξ (hN ξ - n))) no2) := by
  obtain ⟨o1, o2, o3, o4⟩ := O
  have HH := hput_HAt h b ξ
  refine con_of km_X2_goBack.1.2.2.2.2 (Nat.le_of_ble_eq_true rfl) rfl (bX2_goBack_0 ⟨fun _ => ⟨_, HH.o, _, rfl, fun q => ?_, fun _ => ⟨_, HH.o, _, rfl, _, HH.o, Nat.le_of_ble_eq_true rfl, fun h1 q1 => ?_⟩⟩, fun q => absurd (nI_lt (a := 0) h0 (by omega)) q⟩)
  · rw [o1] at q
    exact absurd q (nI_nlt hn (by omega))
  · replace q1 := q1.trans (hput_o _)
    have e1 : ξ.1 - nI n = nI (hN ξ - n) := by
      rw [o1]
      apply Int32.toInt_inj.mp
      rw [tI_sub (by rw [nI_toInt (by omega), nI_toInt (by omega)]; omega), nI_toInt (by omega), nI_toInt (by omega), nI_toInt (by omega)]
      omega
    rw [e1] at q1
    subst q1
    have hl : hN ξ - n < 10 := by omega
    have HH := hput_HAt h b (nI (hN ξ - n), ξ.2)
    have H1 : SAt (hput h b (nI (hN ξ - n), ξ.2)) s σ := H.of (fun q h1 h2 => ov_out (by unfold apart at hd; omega))
    have H2 := HH.st (o3 _ hl)
    refine ⟨_, HH.o, _, rfl, _, HH.o, _, rfl, _, _, HH.r, vp_in_nI hl (by decide), b + (2 + 7 * ξ.2.1 (hN ξ - n)), ?_, _, H1.1, (c_takeOver H2 (by have := o3 _ hl; unfold apart at hd; omega) H1).pv (fun h' q => q) (fun E h' f => f.elim)⟩
    rw [nI_clamp (by omega)]
    exact if_pos hl
/-- the streets after i of them were taken over -/
def htk (ξ ζ : Hs) : Nat → Nat → St
  | 0 => ξ.2.2
  | i + 1 => updS (htk ξ ζ i) (ξ.2.1 i) (hv ζ i)
theorem take_loop (O : hok ξ) (Z : hok ζ) (H : HAt h e ζ) (hd : apart e 72 b 72) : ∀ m i, hN ζ = i + m →
    J g mX2_takeOver (d + 2) hs (jPv (fun h' => h' = hput h b (ζ.1, ξ.2.1, htk ξ ζ (hN ζ))) no2) 10 [(0, .ref b), (1, .ref e), (2, .int (nI i))] [] (hput h b (ζ.1, ξ.2.1, htk ξ ζ i)) := by
  obtain ⟨o1, o2, o3, o4⟩ := O
  obtain ⟨z1, z2, z3, z4⟩ := Z
  intro m
  induction m with
  | zero =>
    intro i hi
    simp only [Nat.add_zero] at hi
    subst hi
    have HH := hput_HAt h b (ζ.1, ξ.2.1, htk ξ ζ (hN ζ))
    refine bX2_takeOver_10 ⟨_, HH.o, _, rfl, fun q => ?_, fun _ => rfl⟩
    rw [z1] at q
    exact absurd q (nI_nlt (Nat.le_refl _) (by omega))
  | succ m ih =>
    intro i hi
    have HH := hput_HAt h b (ζ.1, ξ.2.1, htk ξ ζ i)
    have HZ : HAt (hput h b (ζ.1, ξ.2.1, htk ξ ζ i)) e ζ := H.of (fun q h1 h2 => ov_out (by unfold apart at hd; omega))
    have hl : i < 10 := by omega
    have hix : (nI i).toNatClampNeg = i := nI_clamp (by omega)
    refine bX2_takeOver_10 ⟨_, HH.o, _, rfl, fun q => ⟨_, HH.o, _, rfl, _, _, HH.r, ⟨_, rfl⟩, fun _ => ?_, fun q => absurd (nI_lt (a := i) (b := 10) hl (by decide)) q⟩, fun q => ?_⟩
    · refine ⟨_, HH.o, _, rfl, _, _, HH.r, vp_in_nI hl (by decide), b + (2 + 7 * ξ.2.1 i), by rw [hix]; exact if_pos hl, _, HZ.o, _, rfl, _, _, HZ.r, vp_in_nI hl (by decide), e + (2 + 7 * ζ.2.1 i), by rw [hix]; exact if_pos hl, _, (HH.st (o3 _ hl)).1, (c_takeOver (HZ.st (z3 _ hl)) (by have := o3 _ hl; have := z3 _ hl; unfold apart at hd; omega) (HH.st (o3 _ hl))).pv (fun h' q => ?_) (fun E h' f => f.elim)⟩
      rw [hput_s (o3 _ hl)] at q
      rw [q, nI_1]
      exact ih (i + 1) (by omega)
    · refine absurd ?_ q
      rw [z1]
      exact nI_lt (by omega) (by omega)
theorem c_hTake (O : hok ξ) (Z : hok ζ) (H : HAt h e ζ) (hd : apart e 72 b 72) : Con g mX2_takeOver (d + 2) [.ref b, .ref e] (hput h b ξ) (jPv (fun h' => h' = hput h b (ζ.1, ξ.2.1, htk ξ ζ (hN ζ))) no2) := by
  have HH := hput_HAt h b ξ
  have HZ : HAt (hput h b ξ) e ζ := H.of (fun q h1 h2 => ov_out (by unfold apart at hd; omega))
  refine con_of km_X2_takeOver.1.2.2.2.2 (Nat.le_of_ble_eq_true rfl) rfl (bX2_takeOver_0 ⟨_, HZ.o, _, rfl, _, HH.o, Nat.le_of_ble_eq_true rfl, fun h1 q1 => ?_⟩)
  replace q1 := q1.trans (hput_o _)
  rw [q1]
  exact take_loop O Z H hd (hN ζ) 0 (by omega)
theorem htk_v (O : hok ξ) (Z : hok ζ) : ∀ i, i ≤ 10 → ∀ k, k < i → htk ξ ζ i (ξ.2.1 k) = hv ζ k := by
  intro i
  induction i with
  | zero => intro _ k hk; omega
  | succ i ih =>
    intro hi k hk
    by_cases h1 : k = i
    · subst h1
      simp [htk, updS]
    · have : ¬ ξ.2.1 k = ξ.2.1 i := fun e => h1 (O.2.2.2 _ _ (by omega) (by omega) e)
      simp only [htk, updS, this, if_false]
      exact ih (by omega) k (by omega)
end HI2
