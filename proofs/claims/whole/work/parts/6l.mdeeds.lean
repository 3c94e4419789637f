/-! The reference: why not, deeds on the street -/
def lWhyTwo (σ : St) (x y : Int64) : Int32 := if lHas σ x = true ∧ lHas σ y = true ∧ ¬ x = y then 0 else 1
def lWhyGift (σ : St) (x y n : Int64) : Int32 := if ¬ lWhyTwo σ x y = 0 ∨ inL n 1 999 = false then 1 else if σ.2 3 (ix x.toInt32) = 1 ∨ σ.2 3 (ix y.toInt32) = 1 then 2 else if (σ.2 2 (ix x.toInt32)).toInt64 < n then 3 else 0
def lWhyPay (σ : St) (x n : Int64) : Int32 := if lHas σ x = false ∨ inL n 1 999 = false then 1 else if σ.2 3 (ix x.toInt32) = 1 then 2 else if jmin (σ.2 2 (ix x.toInt32)) (σ.2 4 (ix x.toInt32)) = 0 then 3 else 0
section MWH
variable {g : jG} {d : Nat} {h : jH} {m : Nat} {μ ν : MW} {i k n : Int32} {T : Td} {σ τ : St} {I A : List Nat} {x y z : Int64}
theorem lHas_ix (S : sok σ) (c : lHas σ x = true) : x.toInt32 = nI (ix x.toInt32) ∧ ix x.toInt32 < sN σ ∧ x = x.toInt32.toInt64 := by
  have h7 := S.2
  have c2 := of_decide_eq_true c
  rw [Int64.lt_iff_toInt_lt, Int64.lt_iff_toInt_lt, Int32.toInt_toInt64, S.1] at c2
  have e0 : (0 : Int64).toInt = 0 := rfl
  have eN : (nI (sN σ) - 1).toInt = sN σ - 1 := by
    rw [tI_sub (by rw [nI_toInt (by omega), show (1 : Int32).toInt = 1 from rfl]; omega), nI_toInt (by omega)]
    rfl
  rw [e0, eN] at c2
  have e1 : x.toInt32.toInt = x.toInt := by
    rw [Int64.toInt_toInt32]
    exact Int.bmod_eq_of_le (by omega) (by omega)
  have e2 : x.toInt32 = nI (x.toInt.toNat) := by
    apply Int32.toInt_inj.mp
    rw [e1, nI_toInt (by omega)]
    omega
  have e3 : ix x.toInt32 = x.toInt.toNat := by rw [e2]; exact ix_nI (by omega)
  refine ⟨by rw [e3]; exact e2, by rw [e3]; omega, ?_⟩
  apply Int64.toInt_inj.mp
  rw [Int32.toInt_toInt64, e1]
theorem m_whyTwo : Con g mX12_whyTwo (d + 3) [.ref m, .long x, .long y] (mw h m (mS μ σ)) (wv h m (mS μ σ) (lWhyTwo σ x y)) := by
  unfold lWhyTwo
  refine con_of km_X12_whyTwo.1.2.2.2.2 (Nat.le_of_ble_eq_true rfl) rfl (wX12_whyTwo_0 ⟨_, m_isHouse (σ := σ), fun c => ?_, fun c => ⟨_, m_isHouse (σ := σ), fun c2 => ?_, fun c2 => ⟨fun c3 => ?_, fun c3 => ?_⟩⟩⟩)
  · rw [if_neg (fun f => by rw [bI0 c] at f; exact absurd f.1 (by decide))]
    exact ⟨rfl, rfl⟩
  · rw [if_neg (fun f => by rw [bI0 c2] at f; exact absurd f.2.1 (by decide))]
    exact ⟨rfl, rfl⟩
  · rw [if_neg (fun f => f.2.2 c3)]
    exact ⟨rfl, rfl⟩
  · rw [if_pos ⟨bI1 c, bI1 c2, c3⟩]
    exact ⟨rfl, rfl⟩
theorem lWhyTwo_0 (c : lWhyTwo σ x y = 0) : lHas σ x = true ∧ lHas σ y = true ∧ ¬ x = y := by
  unfold lWhyTwo at c
  by_cases q : lHas σ x = true ∧ lHas σ y = true ∧ ¬ x = y
  · exact q
  · rw [if_neg q] at c; exact absurd c (by decide)
theorem m_canPay {j : Nat} (hj : j < 7) : Con g mX12_canPay (d + 1) [.ref m, .int (nI j)] (mw h m (mS μ σ)) (wv h m (mS μ σ) (jmin (σ.2 2 j) (σ.2 4 j))) := by
  refine con_of km_X12_canPay.1.2.2.2.2 (Nat.le_of_ble_eq_true rfl) rfl (wX12_canPay_0 ⟨kin (b := 22) (by omega), kin (b := 36) (by omega), ?_, rfl⟩)
  rw [show ix ((22 : Int32) + nI j) = 22 + j from kx (b := 22) (by omega), show ix ((36 : Int32) + nI j) = 36 + j from kx (b := 36) (by omega), kj (b := 22) (r := 2) rfl (by decide) hj, kj (b := 36) (r := 4) rfl (by decide) hj]
theorem m_whyGift (S : sok σ) : Con g mX12_whyGift (d + 4) [.ref m, .long x, .long y, .long z] (mw h m (mS μ σ)) (wv h m (mS μ σ) (lWhyGift σ x y z)) := by
  have h7 := S.2
  unfold lWhyGift
  refine con_of km_X12_whyGift.1.2.2.2.2 (Nat.le_of_ble_eq_true rfl) rfl (wX12_whyGift_0 ⟨_, m_whyTwo (σ := σ), fun c => ⟨_, m_within, fun c2 => ?_, fun c2 => ?_⟩, fun c => ?_⟩)
  · rw [if_pos (Or.inr (bI0 c2))]
    exact ⟨rfl, rfl⟩
  · obtain ⟨hx, hy, -⟩ := lWhyTwo_0 c
    obtain ⟨x1, x2, -⟩ := lHas_ix S hx
    obtain ⟨y1, y2, -⟩ := lHas_ix S hy
    rw [if_neg (fun f => f.elim (fun q => q c) (fun q => by rw [bI1 c2] at q; exact absurd q (by decide)))]
    have C1 := m_isGoneS (g := g) (d := d + 2) (h := h) (m := m) (μ := μ) (σ := σ) (j := ix x.toInt32) (by omega)
    have C2 := m_isGoneS (g := g) (d := d + 2) (h := h) (m := m) (μ := μ) (σ := σ) (j := ix y.toInt32) (by omega)
    rw [← x1] at C1
    rw [← y1] at C2
    refine ⟨_, C1, fun c3 => ⟨_, C2, fun c4 => ⟨?_, ?_⟩, fun c4 => ?_⟩, fun c3 => ?_⟩
    · rw [x1]; exact kin (b := 22) (by omega)
    · have ev : kn (mS μ σ) (ix ((22 : Int32) + x.toInt32)) = σ.2 2 (ix x.toInt32) := by
        rw [show ix ((22 : Int32) + x.toInt32) = 22 + ix x.toInt32 by rw [x1]; rw [show ix ((22 : Int32) + nI (ix x.toInt32)) = 22 + ix x.toInt32 from kx (b := 22) (by omega), ← x1]]
        exact kj (b := 22) (r := 2) rfl (by decide) (by omega)
      rw [ev]
      have g1 := of_decide_eq_false (bI0 c3)
      have g2 := of_decide_eq_false (bI0 c4)
      rw [if_neg (fun f => f.elim g1 g2)]
      refine ⟨fun c5 => ?_, fun c5 => ?_⟩
      · rw [if_pos c5]; exact ⟨rfl, rfl⟩
      · rw [if_neg c5]; exact ⟨rfl, rfl⟩
    · rw [if_pos (Or.inr (of_decide_eq_true (bI1 c4)))]; exact ⟨rfl, rfl⟩
    · rw [if_pos (Or.inl (of_decide_eq_true (bI1 c3)))]; exact ⟨rfl, rfl⟩
  · rw [if_pos (Or.inl c)]
    exact ⟨rfl, rfl⟩
theorem m_whyPay (S : sok σ) : Con g mX12_whyPay (d + 3) [.ref m, .long x, .long y] (mw h m (mS μ σ)) (wv h m (mS μ σ) (lWhyPay σ x y)) := by
  have h7 := S.2
  unfold lWhyPay
  refine con_of km_X12_whyPay.1.2.2.2.2 (Nat.le_of_ble_eq_true rfl) rfl (wX12_whyPay_0 ⟨_, m_isHouse (σ := σ), fun c => ?_, fun c => ⟨_, m_within, fun c2 => ?_, fun c2 => ?_⟩⟩)
  · rw [if_pos (Or.inl (bI0 c))]
    exact ⟨rfl, rfl⟩
  · rw [if_pos (Or.inr (bI0 c2))]
    exact ⟨rfl, rfl⟩
  · obtain ⟨x1, x2, -⟩ := lHas_ix S (bI1 c)
    rw [if_neg (fun f => f.elim (fun q => by rw [bI1 c] at q; exact absurd q (by decide)) (fun q => by rw [bI1 c2] at q; exact absurd q (by decide)))]
    have C1 := m_isGoneS (g := g) (d := d + 1) (h := h) (m := m) (μ := μ) (σ := σ) (j := ix x.toInt32) (by omega)
    have C2 := m_canPay (g := g) (d := d + 1) (h := h) (m := m) (μ := μ) (σ := σ) (j := ix x.toInt32) (by omega)
    rw [← x1] at C1 C2
    refine ⟨_, C1, fun c3 => ⟨_, C2, fun c4 => ?_, fun c4 => ?_⟩, fun c3 => ?_⟩
    · rw [if_neg (of_decide_eq_false (bI0 c3)), if_pos c4]; exact ⟨rfl, rfl⟩
    · rw [if_neg (of_decide_eq_false (bI0 c3)), if_neg c4]; exact ⟨rfl, rfl⟩
    · rw [if_pos (of_decide_eq_true (bI1 c3))]; exact ⟨rfl, rfl⟩
def exr (σ : St) (r i k : Nat) : St := setR σ r (swp (σ.2 r) i k)
def exN (σ : St) (i k : Nat) : Nat → St
  | 0 => σ
  | r + 1 => exr (exN σ i k r) r i k
theorem kr_4 : ∀ r, r < 4 → (8 : Int32) + 7 * nI r = nI (8 + 7 * r) := by decide
theorem m_swaps {i k : Nat} (hi : i < 7) (hk : k < 7) : Con g mX12_swaps (d + 1) [.ref m, .int (nI i), .int (nI k)] (mw h m (mS μ σ)) (wPv h m (fun ν => ν = mS μ (exN σ i k 4))) := by
  have loop : ∀ x r, r + x = 4 → J g mX12_swaps (d + 1) (mw h m (mS μ σ)) (wPv h m (fun ν => ν = mS μ (exN σ i k 4))) 2 [(0, .ref m), (1, .int (nI i)), (2, .int (nI k)), (3, .int (nI r))] [] (mw h m (mS μ (exN σ i k r))) := by
    intro x
    induction x with
    | zero =>
      intro r hr
      have : r = 4 := by omega
      subst this
      exact wX12_swaps_2 ⟨fun c => absurd c (nI_nlt (a := 4) (b := 4) (by omega) (by omega)), fun _ => ⟨_, rfl, rfl⟩⟩
    | succ x ih =>
      intro r hr
      have e1 : ∀ {v : Int32}, mA (mS μ (exN σ i k r)) 1 (upd (kn (mS μ (exN σ i k r))) (ix (nI (8 + 7 * r) + nI i)) v) = mS μ (setR (exN σ i k r) r (upd ((exN σ i k r).2 r) i v)) := fun {v} => mS_set rfl (by omega) hi (by omega) rfl
      have e2 : ∀ {v w : Int32}, mA (mS μ (setR (exN σ i k r) r (upd ((exN σ i k r).2 r) i v))) 1 (upd (kn (mS μ (setR (exN σ i k r) r (upd ((exN σ i k r).2 r) i v)))) (ix (nI (8 + 7 * r) + nI k)) w) = mS μ (setR (setR (exN σ i k r) r (upd ((exN σ i k r).2 r) i v)) r (upd ((setR (exN σ i k r) r (upd ((exN σ i k r).2 r) i v)).2 r) k w)) := fun {v w} => mS_set rfl (by omega) hk (by omega) rfl
      refine wX12_swaps_2 ⟨fun _ => ?_, fun c => absurd (nI_lt (b := 4) (by omega) (by omega)) c⟩
      rw [kr_4 r (by omega)]
      refine ⟨kin (by omega), kin (by omega), kin (by omega), kin (by omega), ?_⟩
      rw [e1, e2, kx (by omega), kx (by omega), kj rfl (by omega) hi, kj rfl (by omega) hk, nI_1]
      have e3 : setR (setR (exN σ i k r) r (upd ((exN σ i k r).2 r) i ((exN σ i k r).2 r k))) r (upd ((setR (exN σ i k r) r (upd ((exN σ i k r).2 r) i ((exN σ i k r).2 r k))).2 r) k ((exN σ i k r).2 r i)) = exN σ i k (r + 1) := by
        rw [setR_setR]
        show setR (exN σ i k r) r (upd (if r = r then _ else _) k _) = exr (exN σ i k r) r i k
        rw [if_pos rfl]
        rfl
      rw [e3]
      exact ih (r + 1) (by omega)
  exact con_of km_X12_swaps.1.2.2.2.2 (Nat.le_of_ble_eq_true rfl) rfl (wX12_swaps_0 (loop 4 0 rfl))
theorem exN_ex {i k : Int32} (hi : sHas σ i = true) (hk : sHas σ k = true) : exN σ (ix i) (ix k) 4 = sExch σ i k := by
  unfold sExch
  rw [if_pos ⟨hi, hk⟩]
  rfl
theorem m_gives {i k : Int32} (S : sok σ) (hi : sHas σ i = true) (hk : sHas σ k = true) : Con g mX12_gives (d + 2) [.ref m, .int i, .int k, .int n] (mw h m (mS μ σ)) (wPv h m (fun ν => ν = mS μ (sGive σ i k n))) := by
  obtain ⟨i1, i2, h7⟩ := sHas_ix S hi
  obtain ⟨k1, k2, -⟩ := sHas_ix S hk
  have eS : sGive σ i k n = setR σ 2 (upd (upd (σ.2 2) (ix i) (σ.2 2 (ix i) - n)) (ix k) (jmin (upd (σ.2 2) (ix i) (σ.2 2 (ix i) - n) (ix k) + n) 999999)) := if_pos ⟨hi, hk⟩
  rw [eS]
  generalize ix i = a at *
  generalize ix k = b at *
  subst i2
  subst k2
  have e1 : ∀ {v : Int32}, mA (mS μ σ) 1 (upd (kn (mS μ σ)) (ix ((22 : Int32) + nI a)) v) = mS μ (setR σ 2 (upd (σ.2 2) a v)) := fun {v} => mS_set (b := 22) (r := 2) rfl (by omega) (by omega) (by omega) rfl
  have e2 : ∀ {v w : Int32}, mA (mS μ (setR σ 2 (upd (σ.2 2) a v))) 1 (upd (kn (mS μ (setR σ 2 (upd (σ.2 2) a v)))) (ix ((22 : Int32) + nI b)) w) = mS μ (setR (setR σ 2 (upd (σ.2 2) a v)) 2 (upd ((setR σ 2 (upd (σ.2 2) a v)).2 2) b w)) := fun {v w} => mS_set (b := 22) (r := 2) rfl (by omega) (by omega) (by omega) rfl
  refine con_of km_X12_gives.1.2.2.2.2 (Nat.le_of_ble_eq_true rfl) rfl (wX12_gives_0 ⟨kin (b := 22) (by omega), kin (b := 22) (by omega), kin (b := 22) (by omega), ?_⟩)
  rw [e1]
  refine ⟨_, m_capped, kin (b := 22) (by omega), _, ?_, rfl⟩
  rw [e2]
  refine congrArg (mS μ) ?_
  rw [setR_setR, show ix ((22 : Int32) + nI a) = 22 + a from kx (b := 22) (by omega), show ix ((22 : Int32) + nI b) = 22 + b from kx (b := 22) (by omega), kj (b := 22) (r := 2) rfl (by decide) (by omega), kj (b := 22) (r := 2) rfl (by decide) (by omega), jmin_c]
  rfl
theorem m_paysOff {i : Int32} (S : sok σ) (hi : sHas σ i = true) : Con g mX12_paysOff (d + 2) [.ref m, .int i, .int n] (mw h m (mS μ σ)) (wPi h m (fun r ν => r = sPaid σ i n ∧ ν = mS μ (sPay σ i n))) := by
  obtain ⟨i1, i2, h7⟩ := sHas_ix S hi
  have eS : sPay σ i n = setR (setR σ 2 (upd (σ.2 2) (ix i) (σ.2 2 (ix i) - sPaid σ i n))) 4 (upd (σ.2 4) (ix i) (σ.2 4 (ix i) - sPaid σ i n)) := if_pos hi
  rw [eS]
  unfold sPaid
  generalize ix i = a at *
  subst i2
  have e1 : ∀ {v : Int32}, mA (mS μ σ) 1 (upd (kn (mS μ σ)) (ix ((22 : Int32) + nI a)) v) = mS μ (setR σ 2 (upd (σ.2 2) a v)) := fun {v} => mS_set (b := 22) (r := 2) rfl (by omega) (by omega) (by omega) rfl
  have e2 : ∀ {v w : Int32}, mA (mS μ (setR σ 2 (upd (σ.2 2) a v))) 1 (upd (kn (mS μ (setR σ 2 (upd (σ.2 2) a v)))) (ix ((36 : Int32) + nI a)) w) = mS μ (setR (setR σ 2 (upd (σ.2 2) a v)) 4 (upd ((setR σ 2 (upd (σ.2 2) a v)).2 4) a w)) := fun {v w} => mS_set (b := 36) (r := 4) rfl (by omega) (by omega) (by omega) rfl
  refine con_of km_X12_paysOff.1.2.2.2.2 (Nat.le_of_ble_eq_true rfl) rfl (wX12_paysOff_0 ⟨_, m_canPay (σ := σ) (by omega), kin (b := 22) (by omega), kin (b := 22) (by omega), kin (b := 36) (by omega), kin (b := 36) (by omega), ?_⟩)
  rw [e1, e2]
  refine ⟨_, ⟨rfl, congrArg (mS μ) ?_⟩, rfl⟩
  rw [show ix ((22 : Int32) + nI a) = 22 + a from kx (b := 22) (by omega), show ix ((36 : Int32) + nI a) = 36 + a from kx (b := 36) (by omega), kj (b := 22) (r := 2) rfl (by decide) (by omega), kj (b := 36) (r := 4) rfl (by decide) (by omega)]
  rfl
end MWH
