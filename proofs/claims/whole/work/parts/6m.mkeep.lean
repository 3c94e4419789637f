/-! The reference keeps a state -/
def kep (n : Nat) (K K' : Nat → Int32) (σ : St) : Prop := (∀ x, (x = 0 ∨ (2 ≤ x ∧ x < 7) ∨ (52 ≤ x ∧ x < 96) ∨ 536 ≤ x) → K' x = K x) ∧ K' 7 = nI (if n < 10 then n + 1 else 10) ∧ (n < 10 → ∀ j i, j < n → i < 44 → K' (96 + (44 * j + i)) = K (96 + (44 * j + i))) ∧ (n = 10 → ∀ j i, j < 9 → i < 44 → K' (96 + (44 * j + i)) = K (96 + (44 * (j + 1) + i))) ∧ ∀ i, i < 44 → K' (96 + (44 * (if n < 10 then n else 9) + i)) = s44 σ i
section MKE
variable {g : jG} {d : Nat} {h : jH} {m : Nat} {μ ν : MW} {i k n : Int32} {T : Td} {σ τ : St} {I A : List Nat}
theorem k44 : ∀ n, n < 11 → (96 : Int32) + 44 * nI n = nI (96 + 44 * n) := by decide
theorem kep_56 {n : Nat} (hn : n < 10) {hs : jH} {P : jO → jH → Prop} (G1 : Nat → Int32) (e7 : G1 7 = nI n) (next : ∀ F : Nat → Int32, F 7 = nI (n + 1) → (∀ y, ¬ y = 7 → F y = if 96 + 44 * n ≤ y ∧ y < 96 + 44 * n + 44 then G1 (8 + (y - (96 + 44 * n))) else G1 y) → P (.inl none) (mw h m (mA μ 1 F))) : J g mX12_keeps (d + 1) hs P 56 [(0, .ref m), (1, .int 0)] [] (mw h m (mA μ 1 G1)) := by
  have loop : ∀ r j G, j + r = 44 → (∀ y, G y = if 96 + 44 * n ≤ y ∧ y < 96 + 44 * n + j then G1 (8 + (y - (96 + 44 * n))) else G1 y) → J g mX12_keeps (d + 1) hs P 56 [(0, .ref m), (1, .int (nI j))] [] (mw h m (mA μ 1 G)) := by
    intro r
    induction r with
    | zero =>
      intro j G hj hG
      have : j = 44 := by omega
      subst this
      have g7 : kn (mA μ 1 G) 7 = nI n := by
        show G 7 = _
        rw [hG, if_neg (by omega), e7]
      refine wX12_keeps_56 ⟨fun c => absurd c (nI_nlt (a := 44) (b := 44) (by omega) (by omega)), fun _ => ?_⟩
      rw [mA_mA, g7, nI_1]
      refine next _ ?_ (fun y hy => ?_)
      · show upd G 7 _ 7 = _
        unfold upd; rw [if_pos rfl]
      · show upd G 7 _ y = _
        unfold upd; rw [if_neg hy, hG]
    | succ r ih =>
      intro j G hj hG
      have g7 : kn (mA μ 1 G) 7 = nI n := by
        show G 7 = _
        rw [hG, if_neg (by omega), e7]
      refine wX12_keeps_56 ⟨fun _ => ?_, fun c => absurd (nI_lt (b := 44) (by omega) (by omega)) c⟩
      rw [g7, k44 n (by omega)]
      refine ⟨kin (b := 8) (by omega), kin (by omega), ?_⟩
      rw [mA_mA, kx (by omega), show ix ((8 : Int32) + nI j) = 8 + j from kx (b := 8) (by omega), nI_1]
      refine ih (j + 1) _ (by omega) (fun y => ?_)
      show upd G (96 + 44 * n + j) (G (8 + j)) y = _
      unfold upd
      by_cases hy : y = 96 + 44 * n + j
      · rw [if_pos hy, if_pos (by omega), hG, if_neg (by omega), hy, Nat.add_sub_cancel_left]
      · rw [if_neg hy, hG]
        by_cases hc : 96 + 44 * n ≤ y ∧ y < 96 + 44 * n + j
        · rw [if_pos hc, if_pos (by omega)]
        · rw [if_neg hc, if_neg (by omega)]
  exact loop 44 0 G1 rfl (fun y => by rw [if_neg (by omega)])
theorem kep_15 {hs : jH} {P : jO → jH → Prop} (G0 : Nat → Int32) (e7 : G0 7 = 10) (next : ∀ F : Nat → Int32, F 7 = nI 9 → (∀ y, ¬ y = 7 → F y = if 96 ≤ y ∧ y < 492 then G0 (y + 44) else G0 y) → J g mX12_keeps (d + 1) hs P 56 [(0, .ref m), (1, .int 0)] [] (mw h m (mA μ 1 F))) : J g mX12_keeps (d + 1) hs P 15 [(0, .ref m), (1, .int 96)] [] (mw h m (mA μ 1 G0)) := by
  have loop : ∀ r j G, j + r = 492 → 96 ≤ j → (∀ y, G y = if 96 ≤ y ∧ y < j then G0 (y + 44) else G0 y) → J g mX12_keeps (d + 1) hs P 15 [(0, .ref m), (1, .int (nI j))] [] (mw h m (mA μ 1 G)) := by
    intro r
    induction r with
    | zero =>
      intro j G hj h96 hG
      have : j = 492 := by omega
      subst this
      have g7 : kn (mA μ 1 G) 7 = 10 := by
        show G 7 = _
        rw [hG, if_neg (by omega), e7]
      refine wX12_keeps_15 ⟨fun c => absurd c (nI_nlt (a := 492) (b := 492) (by omega) (by omega)), fun _ => ?_⟩
      rw [mA_mA, g7]
      refine next _ ?_ (fun y hy => ?_)
      · show upd G 7 _ 7 = _
        unfold upd; rw [if_pos rfl]; rfl
      · show upd G 7 _ y = _
        unfold upd; rw [if_neg hy, hG]
    | succ r ih =>
      intro j G hj h96 hG
      refine wX12_keeps_15 ⟨fun _ => ⟨kin (j := 44) (by omega), mk3240 (by omega), ?_⟩, fun c => absurd (nI_lt (b := 492) (by omega) (by omega)) c⟩
      rw [mA_mA, show ix (nI j + (44 : Int32)) = j + 44 from kx (j := 44) (by omega), ix_nI (by omega), nI_1]
      refine ih (j + 1) _ (by omega) (by omega) (fun y => ?_)
      show upd G j (G (j + 44)) y = _
      unfold upd
      by_cases hy : y = j
      · rw [if_pos hy, if_pos (by omega), hG, if_neg (by omega), hy]
      · rw [if_neg hy, hG]
        by_cases hc : 96 ≤ y ∧ y < j
        · rw [if_pos hc, if_pos (by omega)]
        · rw [if_neg hc, if_neg (by omega)]
  exact loop 396 96 G0 rfl (by omega) (fun y => by rw [if_neg (by omega)])
theorem kS_of {F K : Nat → Int32} (e : ∀ x, (x = 1 ∨ (8 ≤ x ∧ x < 52)) → F x = kS K σ x) : kS F σ = F := by
  refine kS_enc ⟨?_, ?_, ?_, fun r i hr hi => ?_⟩
  · exact (e 1 (by omega)).trans rfl
  · exact (e 50 (by omega)).trans rfl
  · exact (e 51 (by omega)).trans rfl
  · exact (e _ (by omega)).trans (enc_kS.2.2.2 r i hr hi)
theorem m_keeps {n : Nat} (hn : n ≤ 10) (e7 : kn μ 7 = nI n) : Con g mX12_keeps (d + 1) [.ref m] (mw h m (mS μ σ)) (wPv h m (fun ν => ∃ K', kep n (kn μ) K' σ ∧ ν = mS (mA μ 1 K') σ)) := by
  have g7 : kn (mS μ σ) 7 = nI n := (kS_ot (τ := σ) (by omega)).trans e7
  refine con_of km_X12_keeps.1.2.2.2.2 (Nat.le_of_ble_eq_true rfl) rfl (wX12_keeps_0 ⟨fun c => ?_, fun c => ?_⟩)
  · have hn10 : n = 10 := by
      rw [g7] at c
      have := congrArg ix c
      rw [ix_nI (by omega)] at this
      exact this
    subst hn10
    refine kep_15 (μ := μ) (kS (kn μ) σ) g7 (fun F1 f7 hF1 => ?_)
    refine kep_56 (μ := μ) (n := 9) (by omega) F1 f7 (fun F h7 hF => ⟨_, ⟨F, ⟨fun x hx => ?_, h7, fun c => absurd c (by omega), fun _ j i hj hi => ?_, fun i hi => ?_⟩, ?_⟩, rfl⟩)
    · rw [hF x (by omega), if_neg (by omega), hF1 x (by omega), if_neg (by omega)]
      exact kS_ot (by omega)
    · rw [hF _ (by omega), if_neg (by omega), hF1 _ (by omega), if_pos (by omega)]
      refine (kS_ot (by omega)).trans (congrArg (kn μ) (by omega))
    · rw [if_neg (by omega), hF _ (by omega), if_pos (by omega), show 8 + (96 + (44 * 9 + i) - (96 + 44 * 9)) = 8 + i by omega, hF1 _ (by omega), if_neg (by omega)]
      exact kS_44 hi
    · show mA μ 1 F = mA (mA μ 1 F) 1 (kS F σ)
      rw [kS_of (K := kn μ) (fun x hx => by rw [hF x (by omega), if_neg (by omega), hF1 x (by omega), if_neg (by omega)]), mA_mA]
  · have hn9 : n < 10 := by
      rcases Nat.lt_or_ge n 10 with q | q
      · exact q
      · have : n = 10 := by omega
        rw [g7, this] at c
        exact absurd rfl c
    refine kep_56 (μ := μ) (n := n) hn9 (kS (kn μ) σ) g7 (fun F h7 hF => ⟨_, ⟨F, ⟨fun x hx => ?_, ?_, fun _ j i hj hi => ?_, fun c => absurd c (by omega), fun i hi => ?_⟩, ?_⟩, rfl⟩)
    · rw [hF x (by omega), if_neg (by omega)]
      exact kS_ot (by omega)
    · rw [h7, if_pos hn9]
    · rw [hF _ (by omega), if_neg (by omega)]
      exact kS_ot (by omega)
    · rw [if_pos hn9, hF _ (by omega), if_pos (by omega), show 8 + (96 + (44 * n + i) - (96 + 44 * n)) = 8 + i by omega]
      exact kS_44 hi
    · show mA μ 1 F = mA (mA μ 1 F) 1 (kS F σ)
      rw [kS_of (K := kn μ) (fun x hx => by rw [hF x (by omega), if_neg (by omega)]), mA_mA]
theorem kep.e {n : Nat} {K K' : Nat → Int32} (x : kep n K K' σ) (E : encT K T) : encT K' T := by
  obtain ⟨e0, e2, e3, l1, l2, l3⟩ := E
  have f := x.1
  exact ⟨(f 0 (by omega)).trans e0, ⟨(f 2 (by omega)).trans e2.1, e2.2⟩, (f 3 (by omega)).trans e3, l1.of (f 4 (by omega)) (fun j _ => f _ (by omega)), l2.of (f 5 (by omega)) (fun j _ => f _ (by omega)), l3.of (f 6 (by omega)) (fun j _ => f _ (by omega))⟩
end MKE
