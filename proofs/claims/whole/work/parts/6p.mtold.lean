/-! The reference: told deeds -/
/-- what a public deed of the reference leaves -/
def mRes {α : Type} (μ : MW) (ξ' : Hs) (σ' : St) (xs : List String) (A : An α) : α → MW → Prop := fun r ν => ∃ K', kfr (kn μ) K' ∧ encH K' ξ' ∧ mAns (mA μ 1 K') σ' xs A r ν
/-- the states kept are of this street -/
def hB (ξ : Hs) (σ : St) : Prop := ∀ j, j < hN ξ → stB (hv ξ j) ∧ (hv ξ j).1 0 = σ.1 0
section MTO
variable {g : jG} {d : Nat} {h : jH} {m : Nat} {μ ν : MW} {i k n : Int32} {T : Td} {σ τ : St} {I A : List Nat} {N : Nat} {K K' : Nat → Int32} {ξ ζ : Hs} {v : Int64}
theorem mA_kn : mA μ 1 (kn μ) = μ := by
  unfold mA
  have e : (fun i => if i = 1 then kn μ else μ.2.1 i) = μ.2.1 := by
    funext i
    by_cases c : i = 1
    · rw [if_pos c, c]
    · rw [if_neg c]
  rw [e]
theorem mAns.r {α : Type} {xs : List String} {A : An α} {r : α} (x : mAns μ σ xs A r ν) (e : encH (kn μ) ξ) : mRes μ ξ σ xs A r ν := ⟨kn μ, kfr.rf, e, by rw [mA_kn]; exact x⟩
theorem mDeed.r {α : Type} {xs : List String} {A : An α} {r : α} (x : mDeed (hN ξ) μ σ τ xs A r ν) (O : hok ξ) (e : encH (kn μ) ξ) : mRes μ (hpush ξ σ) τ xs A r ν := by
  obtain ⟨K', k1, k2⟩ := x
  exact ⟨K', k1.f, k1.hist O e, k2⟩
theorem hN_of {a : Nat} {f : (Nat → Nat) × (Nat → St)} (ha : a < 2 ^ 31) : hN (nI a, f) = a := ix_nI ha
theorem hB_push (O : hok ξ) (H : hB ξ σ) (B : stB σ) (e : τ.1 0 = σ.1 0) : hB (hpush ξ σ) τ := by
  intro j hj
  have eN := hpush_N O σ
  rw [hpush_v O σ hj]
  rw [eN] at hj
  rw [e]
  by_cases c : hN ξ < 10
  · rw [if_pos c] at hj ⊢
    by_cases c2 : j = hN ξ
    · rw [if_pos c2]; exact ⟨B, rfl⟩
    · rw [if_neg c2]; exact H j (by omega)
  · have := O.2.1
    rw [if_neg c] at hj ⊢
    by_cases c2 : j = 9
    · rw [if_pos c2]; exact ⟨B, rfl⟩
    · rw [if_neg c2]; exact H (j + 1) (by omega)
/-! undo -/
theorem und_47 {hs : jH} {P : jO → jH → Prop} {a : Nat} (ha : a < 10) (G0 : Nat → Int32) (e7 : G0 7 = nI a) (next : ∀ F : Nat → Int32, (∀ y, F y = if 8 ≤ y ∧ y < 52 then G0 (96 + 44 * a + (y - 8)) else G0 y) → P (.inl (some (.int (nI a)))) (mw h m (mA μ 1 F))) : J g mX12_undo (d + 1) hs P 47 [(0, .ref m), (2, .int 0)] [] (mw h m (mA μ 1 G0)) := by
  have loop : ∀ r j G, j + r = 44 → (∀ y, G y = if 8 ≤ y ∧ y < 8 + j then G0 (96 + 44 * a + (y - 8)) else G0 y) → J g mX12_undo (d + 1) hs P 47 [(0, .ref m), (2, .int (nI j))] [] (mw h m (mA μ 1 G)) := by
    intro r
    induction r with
    | zero =>
      intro j G hj hG
      have : j = 44 := by omega
      subst this
      have g7 : kn (mA μ 1 G) 7 = nI a := by
        show G 7 = _
        rw [hG, if_neg (by omega), e7]
      refine wX12_undo_47 ⟨fun c => absurd c (nI_nlt (a := 44) (b := 44) (by omega) (by omega)), fun _ => ?_⟩
      rw [g7]
      exact next _ hG
    | succ r ih =>
      intro j G hj hG
      have g7 : kn (mA μ 1 G) 7 = nI a := by
        show G 7 = _
        rw [hG, if_neg (by omega), e7]
      refine wX12_undo_47 ⟨fun _ => ?_, fun c => absurd (nI_lt (b := 44) (by omega) (by omega)) c⟩
      rw [g7, k44 a (by omega)]
      refine ⟨kin (by omega), kin (b := 8) (by omega), ?_⟩
      rw [mA_mA, kx (by omega), show ix ((8 : Int32) + nI j) = 8 + j from kx (b := 8) (by omega), nI_1]
      refine ih (j + 1) _ (by omega) (fun y => ?_)
      show upd G (8 + j) (G (96 + 44 * a + j)) y = _
      unfold upd
      by_cases hy : y = 8 + j
      · rw [if_pos hy, if_pos (by omega), hG, if_neg (by omega), hy, Nat.add_sub_cancel_left]
      · rw [if_neg hy, hG]
        by_cases hc : 8 ≤ y ∧ y < 8 + j
        · rw [if_pos hc, if_pos (by omega)]
        · rw [if_neg hc, if_neg (by omega)]
  exact loop 44 0 G0 rfl (fun y => by rw [if_neg (by omega)])
theorem m_undo (O : hok ξ) (e : encH (kn μ) ξ) (H : hB ξ σ) : Con g mX12_undo (d + 2) [.ref m, .int n] (mw h m (mS μ σ)) (wPi h m (fun r ν => (inN n 1 10 = true ∧ ¬ ξ.1 < n ∧ mRes μ (nI (hN ξ - ix n), ξ.2) (hv ξ (hN ξ - ix n)) [iae] (.inr (nI (hN ξ - ix n))) r ν) ∨ (¬ (inN n 1 10 = true ∧ ¬ ξ.1 < n) ∧ mAns μ σ [iae] (.inl iae : An Int32) r ν))) := by
  have e7 : kn (mI (mS μ σ) 4 0) 7 = ξ.1 := (kS_ot (τ := σ) (by omega)).trans e.1
  have bad : ∀ {hs}, ¬ (inN n 1 10 = true ∧ ¬ ξ.1 < n) → J g mX12_undo (d + 1 + 1) hs (wPi h m (fun r ν => (inN n 1 10 = true ∧ ¬ ξ.1 < n ∧ mRes μ (nI (hN ξ - ix n), ξ.2) (hv ξ (hN ξ - ix n)) [iae] (.inr (nI (hN ξ - ix n))) r ν) ∨ (¬ (inN n 1 10 = true ∧ ¬ ξ.1 < n) ∧ mAns μ σ [iae] (.inl iae : An Int32) r ν))) 28 [(0, .ref m)] [] (mw h m (mI (mS μ σ) 4 0)) := fun c =>
    wX12_undo_28 ⟨_, m_fails, fun r μ1 q => ⟨_, Or.inr ⟨c, fin_f q⟩, rfl⟩⟩
  refine con_of km_X12_undo.1.2.2.2.2 (Nat.le_of_ble_eq_true rfl) rfl (wX12_undo_0 ⟨_, m_within, fun c => bad (fun q => by rw [in0 (a := 1) (b := 10) rfl rfl c] at q; exact absurd q.1 (by decide)), fun c => ⟨fun c2 => bad (fun q => q.2 (by rw [e7] at c2; exact c2)), fun c2 => ?_⟩⟩)
  rw [e7] at c2 ⊢
  have hn := in1 (a := 1) (b := 10) rfl rfl c
  obtain ⟨O1, O2, -, -⟩ := O
  obtain ⟨en, hn1, hn2⟩ := inN_nI (a := 1) (b := 10) (by decide) (by decide) hn
  have hle : ix n ≤ hN ξ ∧ 1 ≤ ix n := by
    rw [Int32.lt_iff_toInt_lt, O1, nI_toInt (by omega)] at c2
    have := congrArg Int32.toInt en
    rw [nI_toInt (by omega)] at this
    omega
  have es : ξ.1 - n = nI (hN ξ - ix n) := by
    rw [O1, en]
    apply Int32.toInt_inj.mp
    rw [tI_sub (by rw [nI_toInt (by omega), nI_toInt (by omega)]; omega), nI_toInt (by omega), nI_toInt (by omega), nI_toInt (by rw [ix_nI (by omega)]; omega), ix_nI (by omega)]
    omega
  rw [es]
  refine und_47 (a := hN ξ - ix n) (by omega) _ (by unfold upd; rw [if_pos rfl]) (fun F hF => ?_)
  obtain ⟨hb1, hb2⟩ := H (hN ξ - ix n) (by omega)
  have F1 : F = kS (upd (kn μ) 7 (nI (hN ξ - ix n))) (hv ξ (hN ξ - ix n)) := by
    funext y
    rw [hF]
    by_cases c3 : 8 ≤ y ∧ y < 52
    · rw [if_pos c3, show y = 8 + (y - 8) by omega, kS_44 (by omega), ← e.2 (hN ξ - ix n) (by omega) (y - 8) (by omega), show 8 + (y - 8) - 8 = y - 8 by omega]
      show upd (kS (kn μ) σ) 7 _ _ = _
      unfold upd
      rw [if_neg (by omega), kS_ot (by omega), Nat.add_assoc]
    · rw [if_neg c3]
      show upd (kS (kn μ) σ) 7 _ y = _
      unfold upd
      by_cases c4 : y = 1
      · rw [c4]
        exact hb2.symm
      · rw [kS_ot (τ := hv ξ (hN ξ - ix n)) (by omega)]
        by_cases c5 : y = 7
        · rw [if_pos c5, if_pos c5]
        · rw [if_neg c5, if_neg c5, kS_ot (by omega)]
  refine ⟨_, Or.inl ⟨hn, c2, upd (kn μ) 7 (nI (hN ξ - ix n)), fun x hx => ?_, ⟨?_, fun j hj i hi => ?_⟩, fin_0 (μ := mA μ 1 (upd (kn μ) 7 (nI (hN ξ - ix n)))) (μ' := mI (mA μ 1 (upd (kn μ) 7 (nI (hN ξ - ix n)))) 4 0) (ms_4 0) (mI_at 4 0) rfl⟩, ?_⟩
  · unfold upd; rw [if_neg (by omega)]
  · unfold upd; rw [if_pos rfl]
  · rw [hN_of (by omega)] at hj
    unfold upd
    rw [if_neg (by omega)]
    exact e.2 j (by omega) i hi
  · rw [F1]
    show mw h m (mA (mA (mI μ 4 0) 1 _) 1 _) = mw h m (mA (mA (mI μ 4 0) 1 _) 1 _)
    rw [mA_mA, mA_mA]
    rfl
/-! why not -/
theorem tol_t : ∀ n, n < 400 → inL (nI n).toInt64 0 99 = decide (n < 100) ∧ inL (nI n).toInt64 100 109 = decide (100 ≤ n ∧ n < 110) ∧ inL (nI n).toInt64 200 209 = decide (200 ≤ n ∧ n < 210) ∧ inL (nI n).toInt64 300 399 = decide (300 ≤ n) := by decide +kernel
theorem tol_u : ∀ n, n < 400 → ¬ (nI n).toInt64 = -1 ∧ ¬ (nI n).toInt64 < 0 ∧ ¬ 399 < (nI n).toInt64 ∧ xS (nI n).toInt64 = nI (n / 100) ∧ xG (nI n).toInt64 = nI (n / 10 % 10) ∧ xH (nI n).toInt64 = nI (n % 10) ∧ (nI n).toInt64 - (nI n).toInt64 / 10 * 10 = (nI (n % 10)).toInt64 := by decide +kernel
theorem tol_v : ∀ n, n < 400 → (n < 100 → (nI n).toInt64 / 10 = (nI (n / 10 % 10)).toInt64) ∧ (100 ≤ n → n < 110 → (nI n).toInt64 - 100 = (nI (n % 10)).toInt64) ∧ (200 ≤ n → n < 210 → (nI n).toInt64 - 200 = (nI (n % 10)).toInt64) ∧ (300 ≤ n → ((nI n).toInt64 - 300) / 10 = (nI (n / 10 % 10)).toInt64) := by decide +kernel
theorem tol_w : ∀ n, n < 400 → ¬ (nI n) = -1 ∧ (nI n < 100 ↔ n < 100) ∧ (nI n < 200 ↔ n < 200) ∧ (nI n < 300 ↔ n < 300) ∧ nI n - nI n / 10 * 10 = nI (n % 10) ∧ (n < 100 → nI n / 10 = nI (n / 10 % 10)) ∧ (100 ≤ n → n < 110 → (43 : Int32) + nI n - 100 = nI 43 + nI (n % 10)) ∧ (200 ≤ n → n < 210 → nI n - 200 = nI (n % 10)) ∧ (300 ≤ n → (nI n - 300) / 10 = nI (n / 10 % 10)) := by decide +kernel
theorem tol_n (h0 : ¬ v < 0) (h1 : ¬ 399 < v) : ∃ n, n < 400 ∧ v = (nI n).toInt64 := by
  rw [Int64.lt_iff_toInt_lt, show (0 : Int64).toInt = 0 from rfl] at h0
  rw [Int64.lt_iff_toInt_lt, show (399 : Int64).toInt = 399 from rfl] at h1
  refine ⟨v.toInt.toNat, by omega, ?_⟩
  apply Int64.toInt_inj.mp
  rw [Int32.toInt_toInt64, nI_toInt (by omega)]
  omega
theorem tol_x (c : v < 0 ∨ 399 < v) : inL v 0 99 = false ∧ inL v 100 109 = false ∧ inL v 200 209 = false ∧ inL v 300 399 = false := by
  unfold inL
  simp only [decide_eq_false_iff_not, Int64.lt_iff_toInt_lt] at c ⊢
  simp only [show (0 : Int64).toInt = 0 from rfl, show (99 : Int64).toInt = 99 from rfl, show (100 : Int64).toInt = 100 from rfl, show (109 : Int64).toInt = 109 from rfl, show (200 : Int64).toInt = 200 from rfl, show (209 : Int64).toInt = 209 from rfl, show (300 : Int64).toInt = 300 from rfl, show (399 : Int64).toInt = 399 from rfl] at c ⊢
  omega
theorem nI_s : ∀ n, n < 4 → (nI n = 0 ↔ n = 0) ∧ (nI n = 1 ↔ n = 1) ∧ (nI n = 2 ↔ n = 2) := by decide
theorem nI_z : ∀ n, n < 10 → (nI n = 0 ↔ n = 0) := by decide
/-- why not, of a small number -/
theorem why_n {n : Nat} (hn : n < 400) : whyF σ (nI n).toInt64 = if n < 100 then sWhySwap σ (nI (n / 10 % 10)) (nI (n % 10)) else if n < 200 then (if n < 110 then (if sHas σ (nI (n % 10)) = false then 1 else 0) else 1) else if n < 300 then (if n < 210 then sWhyPay σ (nI (n % 10)) else 1) else sWhyGift σ (nI (n / 10 % 10)) (nI (n % 10)) 10 := by
  obtain ⟨a, b, c, d, e, f, -⟩ := tol_u n hn
  obtain ⟨s0, s1, s2⟩ := nI_s (n / 100) (by omega)
  have z := nI_z (n / 10 % 10) (by omega)
  unfold whyF
  rw [if_neg a, if_neg b, if_neg c, d, e, f]
  by_cases c1 : n < 100
  · rw [if_pos c1, if_pos (s0.mpr (by omega))]
  · rw [if_neg c1, if_neg (fun q => c1 (by have := s0.mp q; omega))]
    by_cases c2 : n < 200
    · rw [if_pos c2, if_pos (s1.mpr (by omega))]
      by_cases c3 : n < 110
      · rw [if_pos c3, if_pos (z.mpr (by omega))]
      · rw [if_neg c3, if_neg (fun q => c3 (by have := z.mp q; omega))]
    · rw [if_neg c2, if_neg (fun q => c2 (by have := s1.mp q; omega))]
      by_cases c3 : n < 300
      · rw [if_pos c3, if_pos (s2.mpr (by omega))]
        by_cases c4 : n < 210
        · rw [if_pos c4, if_pos (z.mpr (by omega))]
        · rw [if_neg c4, if_neg (fun q => c4 (by have := z.mp q; omega))]
      · rw [if_neg c3, if_neg (fun q => c3 (by have := s2.mp q; omega))]
theorem why_x (c1 : ¬ v = -1) (c : v < 0 ∨ 399 < v) : whyF σ v = 1 := by
  unfold whyF
  rw [if_neg c1]
  by_cases q : v < 0
  · rw [if_pos q]
  · rw [if_neg q, if_pos (c.elim (fun f => absurd f q) id)]
theorem m_whyTold (B : stB σ) : Con g mX12_whyTold (d + 5) [.ref m, .long v] (mw h m (mS μ σ)) (wv h m (mS μ σ) (whyF σ v)) := by
  have S := B.1
  refine con_of km_X12_whyTold.1.2.2.2.2 (Nat.le_of_ble_eq_true rfl) rfl (wX12_whyTold_0 ⟨fun c => ⟨(if_pos c).symm, rfl⟩, fun c0 => ?_⟩)
  by_cases cx : v < 0 ∨ 399 < v
  · obtain ⟨a, b, c, e⟩ := tol_x cx
    refine ⟨_, m_within, fun _ => ⟨_, m_within, fun _ => ⟨_, m_within, fun _ => ⟨_, m_within, fun _ => ⟨(why_x c0 cx).symm, rfl⟩, fun q => absurd e (by rw [bI1 q]; decide)⟩, fun q => absurd c (by rw [bI1 q]; decide)⟩, fun q => absurd b (by rw [bI1 q]; decide)⟩, fun q => absurd a (by rw [bI1 q]; decide)⟩
  · obtain ⟨n, hn, rfl⟩ := tol_n (fun q => cx (Or.inl q)) (fun q => cx (Or.inr q))
    obtain ⟨t1, t2, t3, t4⟩ := tol_t n hn
    obtain ⟨v1, v2, v3, v4⟩ := tol_v n hn
    obtain ⟨-, -, -, -, -, -, u7⟩ := tol_u n hn
    have W := why_n (σ := σ) hn
    rw [u7]
    refine ⟨_, m_within, fun c1 => ⟨_, m_within, fun c2 => ⟨_, m_within, fun c3 => ⟨_, m_within, fun c4 => ?_, fun c4 => ?_⟩, fun c3 => ?_⟩, fun c2 => ?_⟩, fun c1 => ?_⟩
    all_goals (first | replace c1 := bI0 c1 | replace c1 := bI1 c1)
    all_goals rw [t1] at c1
    · replace c2 := bI0 c2; replace c3 := bI0 c3; replace c4 := bI0 c4
      rw [t2] at c2; rw [t3] at c3; rw [t4] at c4
      have c1 := of_decide_eq_false c1
      have c2 := of_decide_eq_false c2
      have c3 := of_decide_eq_false c3
      have c4 := of_decide_eq_false c4
      refine ⟨?_, rfl⟩
      rw [W, if_neg c1]
      by_cases q : n < 200
      · rw [if_pos q, if_neg (fun f => c2 ⟨by omega, f⟩)]
      · rw [if_neg q, if_pos (by omega), if_neg (fun f => c3 ⟨by omega, f⟩)]
    · replace c4 := bI1 c4
      rw [t4] at c4
      have c4 := of_decide_eq_true c4
      rw [v4 c4]
      refine ⟨_, m_whyGift (σ := σ) S, ?_, rfl⟩
      rw [W, if_neg (by omega), if_neg (by omega), if_neg (by omega)]
      exact (lWhyGift_n (n := 10) S).trans (if_neg (by decide))
    · replace c3 := bI1 c3
      rw [t3] at c3
      have c3 := of_decide_eq_true c3
      rw [v3 c3.1 c3.2]
      refine ⟨_, m_whyPay (σ := σ) S, ?_, rfl⟩
      rw [W, if_neg (by omega), if_neg (by omega), if_pos (by omega), if_pos c3.2]
      exact (lWhyPay_n (n := 1) B).trans (if_neg (by decide))
    · replace c2 := bI1 c2
      rw [t2] at c2
      have c2 := of_decide_eq_true c2
      rw [v2 c2.1 c2.2]
      refine ⟨_, m_isHouse (σ := σ), fun q => ⟨?_, rfl⟩, fun q => ⟨?_, rfl⟩⟩
      · rw [W, if_neg (by omega), if_pos (by omega), if_pos c2.2, if_pos (has0 S q)]
      · rw [W, if_neg (by omega), if_pos (by omega), if_pos c2.2, if_neg (by rw [has1 S q]; decide)]
    · have c1 := of_decide_eq_true c1
      rw [v1 c1]
      refine ⟨_, m_whyTwo (σ := σ), ?_, rfl⟩
      rw [W, if_pos c1]
      exact lWhyTwo_n S
end MTO
