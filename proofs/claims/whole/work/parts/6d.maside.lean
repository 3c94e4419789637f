/-! The reference: what a call leaves, what is put aside -/
def dif (I A : List Nat) (μ ν : MW) : Prop := (∀ k, ¬ k ∈ I → ν.1 k = μ.1 k) ∧ ν.2.2 = μ.2.2 ∧ ∀ j, ¬ j ∈ A → ν.2.1 j = μ.2.1 j
abbrev wv (h : jH) (m : Nat) (μ : MW) (v : Int32) : jO → jH → Prop := jPi (fun r h' => r = v ∧ h' = mw h m μ) no2
def inL (x a b : Int64) : Bool := decide (¬ x < a ∧ ¬ b < x)
def s44 (σ : St) (i : Nat) : Int32 := kS (fun _ => 0) σ (8 + i)
/-- put aside -/
def asd (μ : MW) (σ : St) : Prop := ∀ i, i < 44 → μ.2.1 10 i = s44 σ i
section MSM
variable {g : jG} {d : Nat} {h : jH} {m : Nat} {μ ν : MW} {i k n : Int32} {T : Td} {σ τ : St} {I A : List Nat}
theorem dif.rf (μ : MW) : dif I A μ μ := ⟨fun _ _ => rfl, rfl, fun _ _ => rfl⟩
theorem dif.tr {a b c : MW} (x : dif I A a b) (y : dif I A b c) : dif I A a c := ⟨fun k hk => (y.1 k hk).trans (x.1 k hk), y.2.1.trans x.2.1, fun j hj => (y.2.2 j hj).trans (x.2.2 j hj)⟩
theorem dif.up {I' A' : List Nat} {a b : MW} (x : dif I A a b) (hI : ∀ k, k ∈ I → k ∈ I') (hA : ∀ k, k ∈ A → k ∈ A') : dif I' A' a b := ⟨fun k hk => x.1 k (fun c => hk (hI k c)), x.2.1, fun j hj => x.2.2 j (fun c => hj (hA j c))⟩
theorem qr.df {a b : MW} (x : qr a b) : dif [23, 24] [6, 7, 8, 9] a b := ⟨fun k hk => x.1 k (fun c => hk (by rw [c]; decide)) (fun c => hk (by rw [c]; decide)), x.2.1, fun j hj => x.2.2 j (fun c => hj (by rw [c]; decide)) (fun c => hj (by rw [c]; decide)) (fun c => hj (by rw [c]; decide)) (fun c => hj (by rw [c]; decide))⟩
theorem dif_I {k : Nat} (hk : k ∈ I) (v : Int32) : dif I A μ (mI μ k v) := ⟨fun i hi => if_neg (fun c => hi (by rw [c]; exact hk)), rfl, fun _ _ => rfl⟩
theorem dif_A {j : Nat} (hj : j ∈ A) (f : Nat → Int32) : dif I A μ (mA μ j f) := ⟨fun _ _ => rfl, rfl, fun i hi => if_neg (fun c => hi (by rw [c]; exact hj))⟩
theorem dif.kk {a b : MW} (x : dif I A a b) (h1 : ¬ 1 ∈ A) : kn b = kn a := x.2.2 1 h1
theorem dif.asd {a b : MW} (x : dif I A a b) (h1 : ¬ 10 ∈ A) (y : asd a σ) : asd b σ := fun i hi => by rw [x.2.2 10 h1]; exact y i hi
theorem mS_at : (mS μ τ).1 = μ.1 := rfl
theorem mI_at (k : Nat) (v : Int32) : (mI μ k v).1 k = v := if_pos rfl
theorem kS_44 {K : Nat → Int32} {i : Nat} (hi : i < 44) : kS K σ (8 + i) = s44 σ i := by
  unfold s44 kS
  by_cases h1 : 8 ≤ 8 + i ∧ 8 + i < 50
  · rw [if_pos h1, if_pos h1]
  · have e1 : ¬ 8 + i = 1 := by omega
    rw [if_neg h1, if_neg h1, if_neg e1, if_neg e1]
    by_cases h2 : 8 + i = 50
    · rw [if_pos h2, if_pos h2]
    · have e3 : 8 + i = 51 := by omega
      rw [if_neg h2, if_neg h2, if_pos e3, if_pos e3]
theorem m_within {x a b : Int64} : Con g mX12_within (d + 1) [.long x, .long a, .long b] (mw h m μ) (wv h m μ (bI (inL x a b))) := by
  refine con_of km_X12_within.1.2.2.2.2 (Nat.le_of_ble_eq_true rfl) rfl (wX12_within_0 ⟨fun c => ⟨?_, rfl⟩, fun c => ⟨fun c2 => ⟨?_, rfl⟩, fun c2 => ⟨?_, rfl⟩⟩⟩)
  · unfold inL; rw [decide_eq_false (fun q => q.1 c)]; rfl
  · unfold inL; rw [decide_eq_false (fun q => q.2 c2)]; rfl
  · unfold inL; rw [decide_eq_true ⟨c, c2⟩]; rfl
theorem lt64 {a b : Int32} : a.toInt64 < b.toInt64 ↔ a < b := by
  rw [Int64.lt_iff_toInt_lt, Int32.toInt_toInt64, Int32.toInt_toInt64, ← Int32.lt_iff_toInt_lt]
theorem inL_n {x a b : Int32} {A B : Int64} (hA : A = a.toInt64) (hB : B = b.toInt64) : inL x.toInt64 A B = inN x a b := by
  subst hA; subst hB
  unfold inL inN
  simp only [lt64]
/-- a long number is a house -/
def lHas (σ : St) (x : Int64) : Bool := inL x 0 (σ.1 0 - 1).toInt64
theorem m_isHouse {x : Int64} : Con g mX12_isHouse (d + 2) [.ref m, .long x] (mw h m (mS μ σ)) (wv h m (mS μ σ) (bI (lHas σ x))) :=
  con_of km_X12_isHouse.1.2.2.2.2 (Nat.le_of_ble_eq_true rfl) rfl (wX12_isHouse_0 ⟨_, m_houses, _, m_within, bI_01 _, rfl, rfl⟩)
theorem lHas_n (S : sok σ) : lHas σ i.toInt64 = sHas σ i := by
  have e : lHas σ i.toInt64 = inN i 0 (σ.1 0 - 1) := inL_n rfl rfl
  rw [e]
  unfold inN sHas
  have h7 := S.2
  refine decide_eq_decide.mpr (and_congr Iff.rfl ?_)
  rw [Int32.lt_iff_toInt_lt, Int32.lt_iff_toInt_lt, S.1]
  have e1 : (nI (sN σ)).toInt = sN σ := nI_toInt (by omega)
  have e2 : (nI (sN σ) - 1).toInt = sN σ - 1 := by
    rw [tI_sub (by rw [e1, show (1 : Int32).toInt = 1 from rfl]; omega), e1]
    rfl
  rw [e1, e2]
  omega
theorem m_isGoneS {j : Nat} (hj : j < 7) : Con g mX12_isGone (d + 1) [.ref m, .int (nI j)] (mw h m (mS μ σ)) (wv h m (mS μ σ) (bI (decide (σ.2 3 j = 1)))) := by
  have e : kn (mS μ σ) (29 + j) = σ.2 3 j := kj (b := 29) (r := 3) rfl (by decide) hj
  refine (m_isGone hj).pi (fun r h' hr => ?_) (fun E h' f => f.elim)
  rw [e] at hr
  exact hr
theorem m_fails : Con g mX12_fails (d + 1) [.ref m, .int i] (mw h m μ) (wPi h m (fun r ν => r = 0 ∧ ν = mI μ 4 i)) :=
  con_of km_X12_fails.1.2.2.2.2 (Nat.le_of_ble_eq_true rfl) rfl (wX12_fails_0 ⟨_, ⟨rfl, rfl⟩, rfl⟩)
theorem m_putsAside : Con g mX12_putsAside (d + 1) [.ref m] (mw h m (mS μ σ)) (wPv h m (fun ν => ∃ μ', dif [] [10] μ μ' ∧ asd μ' σ ∧ ν = mS μ' σ)) := by
  have loop : ∀ r j μ', j + r = 44 → dif [] [10] μ μ' → (∀ i, i < j → μ'.2.1 10 i = s44 σ i) → J g mX12_putsAside (d + 1) (mw h m (mS μ σ)) (wPv h m (fun ν => ∃ μ', dif [] [10] μ μ' ∧ asd μ' σ ∧ ν = mS μ' σ)) 2 [(0, .ref m), (1, .int (nI j))] [] (mw h m (mS μ' σ)) := by
    intro r
    induction r with
    | zero =>
      intro j μ' hj hd ha
      exact wX12_putsAside_2 ⟨fun c => absurd c (nI_nlt (a := j) (b := 44) (by omega) (by omega)), fun _ => ⟨_, ⟨μ', hd, fun i hi => ha i (by omega), rfl⟩, rfl⟩⟩
    | succ r ih =>
      intro j μ' hj hd ha
      refine wX12_putsAside_2 ⟨fun _ => ⟨kin (b := 8) (by omega), vp_in_nI (by omega) (by decide), ?_⟩, fun c => absurd (nI_lt (b := 44) (by omega) (by omega)) c⟩
      rw [mS_A (by decide), nI_1]
      refine ih (j + 1) _ (by omega) (hd.tr (dif_A (by decide) _)) (fun i hi => ?_)
      show upd (μ'.2.1 10) (ix (nI j)) (kn (mS μ' σ) (ix ((8 : Int32) + nI j))) i = s44 σ i
      rw [ix_nI (by omega), show ix ((8 : Int32) + nI j) = 8 + j from kx (b := 8) (by omega)]
      unfold upd
      by_cases hi2 : i = j
      · rw [if_pos hi2, hi2]
        exact kS_44 (by omega)
      · rw [if_neg hi2]
        exact ha i (by omega)
  exact con_of km_X12_putsAside.1.2.2.2.2 (Nat.le_of_ble_eq_true rfl) rfl (wX12_putsAside_0 (loop 44 0 μ rfl (dif.rf μ) (fun i hi => absurd hi (by omega))))
theorem m_putsBack (Y : asd μ σ) (e : τ.1 0 = σ.1 0) : Con g mX12_putsBack (d + 1) [.ref m] (mw h m (mS μ τ)) (wPv h m (fun ν => ν = mS μ σ)) := by
  have loop : ∀ r j K, j + r = 44 → (∀ x, K x = if 8 ≤ x ∧ x < 8 + j then kS (kn μ) σ x else kS (kn μ) τ x) → J g mX12_putsBack (d + 1) (mw h m (mS μ τ)) (wPv h m (fun ν => ν = mS μ σ)) 2 [(0, .ref m), (1, .int (nI j))] [] (mw h m (mA μ 1 K)) := by
    intro r
    induction r with
    | zero =>
      intro j K hj hK
      refine wX12_putsBack_2 ⟨fun c => absurd c (nI_nlt (a := j) (b := 44) (by omega) (by omega)), fun _ => ⟨_, rfl, congrArg (mw h m) (congrArg (mA μ 1) (funext fun x => ?_))⟩⟩
      rw [hK]
      by_cases hx : 8 ≤ x ∧ x < 8 + j
      · rw [if_pos hx]
      · rw [if_neg hx]
        have n1 : ¬ (8 ≤ x ∧ x < 50) := by omega
        have n2 : ¬ x = 50 := by omega
        have n3 : ¬ x = 51 := by omega
        unfold kS
        rw [if_neg n1, if_neg n1, e, if_neg n2, if_neg n2, if_neg n3, if_neg n3]
    | succ r ih =>
      intro j K hj hK
      refine wX12_putsBack_2 ⟨fun _ => ⟨vp_in_nI (by omega) (by decide), kin (b := 8) (by omega), ?_⟩, fun c => absurd (nI_lt (b := 44) (by omega) (by omega)) c⟩
      rw [mA_mA, nI_1]
      refine ih (j + 1) _ (by omega) (fun x => ?_)
      show upd K (ix ((8 : Int32) + nI j)) (μ.2.1 10 (ix (nI j))) x = _
      rw [ix_nI (by omega), show ix ((8 : Int32) + nI j) = 8 + j from kx (b := 8) (by omega), Y j (by omega)]
      unfold upd
      by_cases hx : x = 8 + j
      · rw [if_pos hx, if_pos (by omega), hx]
        exact (kS_44 (by omega)).symm
      · rw [if_neg hx, hK]
        by_cases hc : 8 ≤ x ∧ x < 8 + j
        · rw [if_pos hc, if_pos (by omega)]
        · rw [if_neg hc, if_neg (by omega)]
  refine con_of km_X12_putsBack.1.2.2.2.2 (Nat.le_of_ble_eq_true rfl) rfl (wX12_putsBack_0 (loop 44 0 (kS (kn μ) τ) rfl (fun x => ?_)))
  rw [if_neg (by omega)]
end MSM
