/-! The reference: history; deeds keep the bounds -/
def encH (K : Nat → Int32) (ξ : Hs) : Prop := K 7 = ξ.1 ∧ ∀ j, j < hN ξ → ∀ i, i < 44 → K (96 + (44 * j + i)) = s44 (hv ξ j) i
/-- the same but street and history -/
def kfr (K K' : Nat → Int32) : Prop := ∀ x, (x = 0 ∨ (2 ≤ x ∧ x < 7) ∨ (52 ≤ x ∧ x < 96) ∨ 536 ≤ x) → K' x = K x
section MHI
variable {g : jG} {d : Nat} {h : jH} {m : Nat} {μ ν : MW} {i k n : Int32} {T : Td} {σ τ : St} {I A : List Nat} {N : Nat} {K K' : Nat → Int32} {ξ : Hs}
theorem kfr.rf : kfr K K := fun _ _ => rfl
theorem kfr.tr {a b c : Nat → Int32} (x : kfr a b) (y : kfr b c) : kfr a c := fun q hq => (y q hq).trans (x q hq)
theorem kfr.e (f : kfr K K') (E : encT K T) : encT K' T := by
  obtain ⟨e0, e2, e3, l1, l2, l3⟩ := E
  exact ⟨(f 0 (by omega)).trans e0, ⟨(f 2 (by omega)).trans e2.1, e2.2⟩, (f 3 (by omega)).trans e3, l1.of (f 4 (by omega)) (fun j _ => f _ (by omega)), l2.of (f 5 (by omega)) (fun j _ => f _ (by omega)), l3.of (f 6 (by omega)) (fun j _ => f _ (by omega))⟩
theorem kep.f (x : kep N K K' σ) : kfr K K' := x.1
theorem kep.hist (O : hok ξ) (e : encH K ξ) (x : kep (hN ξ) K K' σ) : encH K' (hpush ξ σ) := by
  obtain ⟨x1, x2, x3, x4, x5⟩ := x
  have hN10 := O.2.1
  have eN := hpush_N O σ
  refine ⟨?_, fun j hj i hi => ?_⟩
  · rw [x2, (hpush_ok O σ).1, eN]
  · rw [hpush_v O σ hj]
    rw [eN] at hj
    by_cases c : hN ξ < 10
    · rw [if_pos c] at hj x5 ⊢
      by_cases c2 : j = hN ξ
      · rw [if_pos c2, c2]
        exact x5 i hi
      · rw [if_neg c2, x3 c j i (by omega) hi]
        exact e.2 j (by omega) i hi
    · rw [if_neg c] at hj x5 ⊢
      by_cases c2 : j = 9
      · rw [if_pos c2, c2]
        exact x5 i hi
      · rw [if_neg c2, x4 (by omega) j i (by omega) hi]
        exact e.2 (j + 1) (by omega) i hi
theorem stB_set {τ : St} (e1 : τ.1 = σ.1) (B : stB σ) (c : ∀ i, i < sN σ → (τ.2 3 i = 0 ∨ τ.2 3 i = 1) ∧ rng (τ.2 0 i) ∧ rng (τ.2 1 i) ∧ rng (τ.2 2 i) ∧ rng (τ.2 4 i)) : stB τ := by
  have eN : sN τ = sN σ := by unfold sN; rw [e1]
  exact ⟨sok_like e1 B.1, fun i hi => c i (by omega), by rw [e1]; exact B.2.2⟩
theorem stB_hedge (B : stB σ) (f : Nat → Int32) : stB (setR σ 5 f) := stB_set rfl B (fun i hi => B.2.1 i hi)
theorem swp_at (f : Nat → Int32) (i k x : Nat) : swp f i k x = f (if x = k then i else if x = i then k else x) := by
  unfold swp upd
  by_cases h1 : x = k
  · rw [if_pos h1, if_pos h1]
  · rw [if_neg h1, if_neg h1]
    by_cases h2 : x = i
    · rw [if_pos h2, if_pos h2]
    · rw [if_neg h2, if_neg h2]
theorem stB_exch (B : stB σ) : stB (sExch σ i k) := by
  by_cases c : sHas σ i = true ∧ sHas σ k = true
  · obtain ⟨i1, i2, h7⟩ := sHas_ix B.1 c.1
    obtain ⟨k1, k2, -⟩ := sHas_ix B.1 c.2
    have e : sExch σ i k = setR (setR (setR (setR σ 0 (swp (σ.2 0) (ix i) (ix k))) 1 (swp (σ.2 1) (ix i) (ix k))) 2 (swp (σ.2 2) (ix i) (ix k))) 3 (swp (σ.2 3) (ix i) (ix k)) := if_pos c
    rw [e]
    refine stB_set (σ := σ) rfl B (fun x hx => ?_)
    have hy : (if x = ix k then ix i else if x = ix i then ix k else x) < sN σ := by
      split
      · exact i1
      · split
        · exact k1
        · exact hx
    obtain ⟨g1, g2, g3, g4, -⟩ := B.2.1 _ hy
    show (swp (σ.2 3) (ix i) (ix k) x = 0 ∨ swp (σ.2 3) (ix i) (ix k) x = 1) ∧ rng (swp (σ.2 0) (ix i) (ix k) x) ∧ rng (swp (σ.2 1) (ix i) (ix k) x) ∧ rng (swp (σ.2 2) (ix i) (ix k) x) ∧ rng (σ.2 4 x)
    rw [swp_at, swp_at, swp_at, swp_at]
    exact ⟨g1, g2, g3, g4, (B.2.1 x hx).2.2.2.2⟩
  · have e : sExch σ i k = σ := if_neg c
    rw [e]; exact B
theorem stB_give (B : stB σ) (hi : sHas σ i = true) (hk : sHas σ k = true) (n0 : 0 ≤ n.toInt) (n1 : n.toInt ≤ 999) (hc : n.toInt ≤ (σ.2 2 (ix i)).toInt) : stB (sGive σ i k n) := by
  obtain ⟨i1, i2, h7⟩ := sHas_ix B.1 hi
  obtain ⟨k1, k2, -⟩ := sHas_ix B.1 hk
  have eS : sGive σ i k n = setR σ 2 (upd (upd (σ.2 2) (ix i) (σ.2 2 (ix i) - n)) (ix k) (jmin (upd (σ.2 2) (ix i) (σ.2 2 (ix i) - n) (ix k) + n) 999999)) := if_pos ⟨hi, hk⟩
  rw [eS]
  refine stB_set (σ := σ) rfl B (fun x hx => ?_)
  have ri := (B.2.1 _ i1).2.2.2.1
  have r1 : rng (σ.2 2 (ix i) - n) := by
    unfold rng at *
    rw [tI_sub (by omega)]
    omega
  have r2 : ∀ y, y < sN σ → rng (upd (σ.2 2) (ix i) (σ.2 2 (ix i) - n) y) := by
    intro y hy
    unfold upd
    split
    · exact r1
    · exact (B.2.1 y hy).2.2.2.1
  refine ⟨(B.2.1 x hx).1, (B.2.1 x hx).2.1, (B.2.1 x hx).2.2.1, ?_, (B.2.1 x hx).2.2.2.2⟩
  show rng (upd (upd (σ.2 2) (ix i) (σ.2 2 (ix i) - n)) (ix k) _ x)
  have r3 := r2 _ k1
  generalize upd (σ.2 2) (ix i) (σ.2 2 (ix i) - n) = f at *
  unfold upd
  split
  · unfold rng at *
    rw [jmin_t, tI_add (by omega), z9]
    split <;> omega
  · exact r2 x hx
theorem stB_pay (B : stB σ) (n0 : 0 ≤ n.toInt) : stB (sPay σ i n) := by
  by_cases c : sHas σ i = true
  · obtain ⟨i1, i2, h7⟩ := sHas_ix B.1 c
    have e : sPay σ i n = setR (setR σ 2 (upd (σ.2 2) (ix i) (σ.2 2 (ix i) - sPaid σ i n))) 4 (upd (σ.2 4) (ix i) (σ.2 4 (ix i) - sPaid σ i n)) := if_pos c
    rw [e]
    obtain ⟨-, -, -, r2, r4⟩ := B.2.1 _ i1
    have hp : 0 ≤ (sPaid σ i n).toInt ∧ (sPaid σ i n).toInt ≤ (σ.2 2 (ix i)).toInt ∧ (sPaid σ i n).toInt ≤ (σ.2 4 (ix i)).toInt := by
      unfold sPaid rng at *
      rw [jmin_t, jmin_t]
      refine ⟨?_, ?_, ?_⟩ <;> (split <;> split <;> omega)
    generalize sPaid σ i n = p at *
    refine stB_set (σ := σ) rfl B (fun x hx => ⟨(B.2.1 x hx).1, (B.2.1 x hx).2.1, (B.2.1 x hx).2.2.1, ?_, ?_⟩)
    · show rng (upd (σ.2 2) (ix i) _ x)
      unfold upd
      split
      · unfold rng at *; rw [tI_sub (by omega)]; omega
      · exact (B.2.1 x hx).2.2.2.1
    · show rng (upd (σ.2 4) (ix i) _ x)
      unfold upd
      split
      · unfold rng at *; rw [tI_sub (by omega)]; omega
      · exact (B.2.1 x hx).2.2.2.2
  · have e : sPay σ i n = σ := if_neg c
    rw [e]; exact B
theorem gif_1 (c : sWhyGift σ i k n = 0) : n.toInt ≤ (σ.2 2 (ix i)).toInt := by
  have h := gif_0 c
  have n2 : ¬ ¬ (sHas σ i = true ∧ sHas σ k = true ∧ ¬ i = k) := fun q => q h
  unfold sWhyGift at c
  rw [if_neg n2] at c
  by_cases c1 : sGone σ i = true ∨ sGone σ k = true
  · rw [if_pos c1] at c; exact absurd c (by decide)
  · rw [if_neg c1] at c
    by_cases c2 : σ.2 2 (ix i) < n
    · rw [if_pos c2] at c; exact absurd c (by decide)
    · rw [Int32.lt_iff_toInt_lt] at c2
      omega
end MHI
