/-! The reference's world: its object and its rows -/
abbrev MW : Type := (Nat → Int32) × (Nat → Nat → Int32) × (Nat → Int64)
def msz : List Nat := [3240, 3240, 9720, 3, 900, 64, 6, 7, 7, 44, 7, 7, 693, 4851, 4, 4]
def mobj (m : Nat) (μ : MW) : va_E := .inr (12, [.ref (m + 1), .ref (m + 2), .ref (m + 3), .ref (m + 4), .int (μ.1 4), .ref (m + 5), .int (μ.1 6), .int (μ.1 7), .int (μ.1 8), .int (μ.1 9), .int (μ.1 10), .int (μ.1 11), .int (μ.1 12), .int (μ.1 13), .int (μ.1 14), .int (μ.1 15), .int (μ.1 16), .int (μ.1 17), .int (μ.1 18), .ref (m + 6), .ref (m + 7), .ref (m + 8), .ref (m + 9), .int (μ.1 23), .int (μ.1 24), .ref (m + 10), .int (μ.1 26), .int (μ.1 27), .ref (m + 11), .ref (m + 12), .int (μ.1 30), .int (μ.1 31), .int (μ.1 32), .ref (m + 13), .ref (m + 14), .ref (m + 15), .ref (m + 16), .ref (m + 17)])
def mcell (m : Nat) (μ : MW) (j : Nat) : va_E := if j = 0 then mobj m μ else if j = 17 then .inl (3, (120, .inr (.inl μ.2.2))) else .inl (if j = 4 then 2 else 0, (msz.getD (j - 1) 0, .inl (μ.2.1 j)))
def mw (h : jH) (m : Nat) (μ : MW) : jH := ov h m 18 (mcell m μ)
def mI (μ : MW) (k : Nat) (v : Int32) : MW := (fun i => if i = k then v else μ.1 i, μ.2)
def mA (μ : MW) (j : Nat) (f : Nat → Int32) : MW := (μ.1, fun i => if i = j then f else μ.2.1 i, μ.2.2)
def mN (μ : MW) (f : Nat → Int64) : MW := (μ.1, μ.2.1, f)
/-- all that is known -/
abbrev kn (μ : MW) : Nat → Int32 := μ.2.1 1
section MWS
variable {g : jG} {d : Nat} {h : jH} {m : Nat} {μ : MW} {i k n : Int32}
theorem mw_o : (mw h m μ).1 m = some (mobj m μ) := ov_at h m 18 (mcell m μ) (j := 0) (by decide)
theorem mw_a {j : Nat} (hj : j < 18) : (mw h m μ).1 (m + j) = some (mcell m μ j) := ov_at h m 18 (mcell m μ) hj
theorem mw_1 : (mw h m μ).1 (m + 1) = some (.inl (0, (3240, .inl (kn μ)))) := mw_a (j := 1) (by decide)
theorem mw_2 : (mw h m μ).1 (m + 2) = some (.inl (0, (3240, .inl (μ.2.1 2)))) := mw_a (j := 2) (by decide)
theorem mw_3 : (mw h m μ).1 (m + 3) = some (.inl (0, (9720, .inl (μ.2.1 3)))) := mw_a (j := 3) (by decide)
theorem mw_4 : (mw h m μ).1 (m + 4) = some (.inl (2, (3, .inl (μ.2.1 4)))) := mw_a (j := 4) (by decide)
theorem mw_5 : (mw h m μ).1 (m + 5) = some (.inl (0, (900, .inl (μ.2.1 5)))) := mw_a (j := 5) (by decide)
theorem mw_6 : (mw h m μ).1 (m + 6) = some (.inl (0, (64, .inl (μ.2.1 6)))) := mw_a (j := 6) (by decide)
theorem mw_7 : (mw h m μ).1 (m + 7) = some (.inl (0, (6, .inl (μ.2.1 7)))) := mw_a (j := 7) (by decide)
theorem mw_8 : (mw h m μ).1 (m + 8) = some (.inl (0, (7, .inl (μ.2.1 8)))) := mw_a (j := 8) (by decide)
theorem mw_9 : (mw h m μ).1 (m + 9) = some (.inl (0, (7, .inl (μ.2.1 9)))) := mw_a (j := 9) (by decide)
theorem mw_10 : (mw h m μ).1 (m + 10) = some (.inl (0, (44, .inl (μ.2.1 10)))) := mw_a (j := 10) (by decide)
theorem mw_11 : (mw h m μ).1 (m + 11) = some (.inl (0, (7, .inl (μ.2.1 11)))) := mw_a (j := 11) (by decide)
theorem mw_12 : (mw h m μ).1 (m + 12) = some (.inl (0, (7, .inl (μ.2.1 12)))) := mw_a (j := 12) (by decide)
theorem mw_13 : (mw h m μ).1 (m + 13) = some (.inl (0, (693, .inl (μ.2.1 13)))) := mw_a (j := 13) (by decide)
theorem mw_14 : (mw h m μ).1 (m + 14) = some (.inl (0, (4851, .inl (μ.2.1 14)))) := mw_a (j := 14) (by decide)
theorem mw_15 : (mw h m μ).1 (m + 15) = some (.inl (0, (4, .inl (μ.2.1 15)))) := mw_a (j := 15) (by decide)
theorem mw_16 : (mw h m μ).1 (m + 16) = some (.inl (0, (4, .inl (μ.2.1 16)))) := mw_a (j := 16) (by decide)
theorem mw_17 : (mw h m μ).1 (m + 17) = some (.inl (3, (120, .inr (.inl μ.2.2)))) := mw_a (j := 17) (by decide)
theorem mw_pO {μ' : MW} (e : μ'.2 = μ.2) : jset (mw h m μ) m (mobj m μ') = mw h m μ' := by
  refine (ov_set h m 18 _ (j := 0) (by decide) _).trans (ov_congr (fun i hi => ?_))
  unfold mcell
  by_cases h0 : i = 0
  · rw [if_pos h0, if_pos h0]
  · rw [if_neg h0, if_neg h0, if_neg h0, e]
theorem mw_pI (k : Nat) (v : Int32) : jset (mw h m μ) m (mobj m (mI μ k v)) = mw h m (mI μ k v) := mw_pO rfl
theorem mw_pA {j : Nat} (h1 : 1 ≤ j) (h2 : j ≤ 16) (f : Nat → Int32) : jset (mw h m μ) (m + j) (.inl (if j = 4 then 2 else 0, (msz.getD (j - 1) 0, .inl f))) = mw h m (mA μ j f) := by
  refine (ov_set h m 18 _ (j := j) (by omega) _).trans (ov_congr (fun i hi => ?_))
  by_cases hij : i = j
  · subst hij
    have h0 : ¬ i = 0 := by omega
    have h17 : ¬ i = 17 := by omega
    simp only [mcell, mA, h0, h17, if_true, if_false]
  · unfold mcell
    rw [if_neg hij]
    by_cases h0 : i = 0
    · rw [if_pos h0, if_pos h0]; rfl
    · by_cases h17 : i = 17
      · rw [if_neg h0, if_neg h0, if_pos h17, if_pos h17]; rfl
      · rw [if_neg h0, if_neg h0, if_neg h17, if_neg h17]
        simp only [mA, hij, if_false]
theorem mw_p1 (f : Nat → Int32) : jset (mw h m μ) (m + 1) (.inl (0, (3240, .inl f))) = mw h m (mA μ 1 f) := mw_pA (j := 1) (by decide) (by decide) f
theorem mw_p6 (f : Nat → Int32) : jset (mw h m μ) (m + 6) (.inl (0, (64, .inl f))) = mw h m (mA μ 6 f) := mw_pA (j := 6) (by decide) (by decide) f
theorem mw_p7 (f : Nat → Int32) : jset (mw h m μ) (m + 7) (.inl (0, (6, .inl f))) = mw h m (mA μ 7 f) := mw_pA (j := 7) (by decide) (by decide) f
theorem mw_p8 (f : Nat → Int32) : jset (mw h m μ) (m + 8) (.inl (0, (7, .inl f))) = mw h m (mA μ 8 f) := mw_pA (j := 8) (by decide) (by decide) f
theorem mw_p9 (f : Nat → Int32) : jset (mw h m μ) (m + 9) (.inl (0, (7, .inl f))) = mw h m (mA μ 9 f) := mw_pA (j := 9) (by decide) (by decide) f
theorem mw_pN (f : Nat → Int64) : jset (mw h m μ) (m + 17) (.inl (3, (120, .inr (.inl f)))) = mw h m (mN μ f) := by
  refine (ov_set h m 18 _ (j := 17) (by omega) _).trans (ov_congr (fun i hi => ?_))
  unfold mcell
  by_cases h17 : i = 17
  · rw [if_pos h17, if_neg (by omega), if_pos h17]; rfl
  · rw [if_neg h17, if_neg h17, if_neg h17]; rfl
/-! small methods -/
theorem mk3240 {j : Nat} (hj : j < 3240) : vp_in (nI j) 3240 := vp_in_nI hj (by decide)
theorem nI_plus (a b : Nat) : nI a + nI b = nI (a + b) := nI_add a b
theorem m_houses : Con g mX12_houses (d + 1) [.ref m] (mw h m μ) (jPi (fun r h' => r = kn μ 1 ∧ h' = mw h m μ) no2) := by
  refine con_of km_X12_houses.1.2.2.2.2 (Nat.le_of_ble_eq_true rfl) rfl (bX12_houses_0 ⟨_, mw_o, _, rfl, _, _, mw_1, mk3240 (j := 1) (by decide), rfl, rfl⟩)
end MWS
