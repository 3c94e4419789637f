/-! The reference: told deeds of the player -/
def mDeed {α : Type} (n : Nat) (μ : MW) (σ σ' : St) (xs : List String) (A : An α) : α → MW → Prop := fun r ν => ∃ K', kep n (kn μ) K' σ ∧ mAns (mA μ 1 K') σ' xs A r ν
section MDE
variable {g : jG} {d : Nat} {h : jH} {m : Nat} {μ ν : MW} {i k n : Int32} {T : Td} {σ τ : St} {I A : List Nat} {N : Nat}
theorem i64_inj {a b : Int32} (c : a.toInt64 = b.toInt64) : a = b := by
  have := congrArg Int64.toInt c
  rw [Int32.toInt_toInt64, Int32.toInt_toInt64] at this
  exact Int32.toInt_inj.mp this
theorem i64_32 {a : Int32} : a.toInt64.toInt32 = a := by simp
theorem lWhyTwo_n (S : sok σ) : lWhyTwo σ i.toInt64 k.toInt64 = sWhySwap σ i k := by
  unfold lWhyTwo sWhySwap
  rw [lHas_n S, lHas_n S]
  by_cases c : sHas σ i = true ∧ sHas σ k = true ∧ ¬ i = k
  · rw [if_pos c, if_pos ⟨c.1, c.2.1, fun q => c.2.2 (i64_inj q)⟩]
  · rw [if_neg c, if_neg (fun q => c ⟨q.1, q.2.1, fun f => q.2.2 (by rw [f])⟩)]
theorem inN_f (a b : Int32) : inN n a b = false ↔ n < a ∨ b < n := by
  unfold inN
  rw [decide_eq_false_iff_not]
  constructor
  · intro c
    by_cases q : n < a
    · exact Or.inl q
    · refine Or.inr ?_
      by_cases q2 : b < n
      · exact q2
      · exact absurd ⟨q, q2⟩ c
  · intro c q
    exact c.elim q.1 q.2
theorem lWhyGift_n (S : sok σ) : lWhyGift σ i.toInt64 k.toInt64 n.toInt64 = if n < 1 ∨ 999 < n then 1 else sWhyGift σ i k n := by
  unfold lWhyGift sWhyGift
  have e : inL n.toInt64 1 999 = inN n 1 999 := inL_n (a := 1) (b := 999) rfl rfl
  rw [e, lWhyTwo_n S, i64_32, i64_32]
  by_cases c1 : n < 1 ∨ 999 < n
  · rw [if_pos c1, if_pos (Or.inr ((inN_f 1 999).mpr c1))]
  · rw [if_neg c1]
    have c1' : ¬ inN n 1 999 = false := fun q => c1 ((inN_f 1 999).mp q)
    unfold sWhySwap
    by_cases c2 : sHas σ i = true ∧ sHas σ k = true ∧ ¬ i = k
    · have n2 : ¬ ¬ (sHas σ i = true ∧ sHas σ k = true ∧ ¬ i = k) := fun q => q c2
      rw [if_pos c2, if_neg (fun q => q.elim (fun f => f rfl) c1'), if_neg n2, has_g S c2.1, has_g S c2.2.1]
      by_cases c3 : σ.2 3 (ix i) = 1 ∨ σ.2 3 (ix k) = 1
      · rw [if_pos c3, if_pos (c3.elim (fun q => Or.inl (decide_eq_true q)) (fun q => Or.inr (decide_eq_true q)))]
      · have n3 : ¬ (decide (σ.2 3 (ix i) = 1) = true ∨ decide (σ.2 3 (ix k) = 1) = true) := fun q => c3 (q.elim (fun q => Or.inl (of_decide_eq_true q)) (fun q => Or.inr (of_decide_eq_true q)))
        rw [if_neg c3, if_neg n3]
        by_cases c4 : σ.2 2 (ix i) < n
        · rw [if_pos c4, if_pos (lt64.mpr c4)]
        · rw [if_neg c4, if_neg (fun q => c4 (lt64.mp q))]
    · rw [if_neg c2, if_pos c2, if_pos (Or.inl (by decide))]
theorem min_0 {a b : Int32} (ra : rng a) (rb : rng b) : jmin a b = 0 ↔ a = 0 ∨ b = 0 := by
  have e := jmin_t a b
  unfold rng at ra rb
  constructor
  · intro c
    rw [c, z0] at e
    by_cases q : b.toInt < a.toInt
    · rw [if_pos q] at e
      exact Or.inr (Int32.toInt_inj.mp (by rw [z0]; omega))
    · rw [if_neg q] at e
      exact Or.inl (Int32.toInt_inj.mp (by rw [z0]; omega))
  · intro c
    apply Int32.toInt_inj.mp
    rw [e, z0]
    rcases c with c | c
    · rw [c, z0] at *
      split <;> omega
    · rw [c, z0] at *
      split <;> omega
theorem lWhyPay_n (B : stB σ) : lWhyPay σ i.toInt64 n.toInt64 = if n < 1 ∨ 999 < n then 1 else sWhyPay σ i := by
  have S := B.1
  unfold lWhyPay sWhyPay
  have e : inL n.toInt64 1 999 = inN n 1 999 := inL_n (a := 1) (b := 999) rfl rfl
  rw [e, lHas_n S, i64_32]
  by_cases c1 : n < 1 ∨ 999 < n
  · rw [if_pos c1, if_pos (Or.inr ((inN_f 1 999).mpr c1))]
  · rw [if_neg c1]
    have c1' : ¬ inN n 1 999 = false := fun q => c1 ((inN_f 1 999).mp q)
    by_cases c2 : sHas σ i = true
    · have n2 : ¬ ¬ sHas σ i = true := fun q => q c2
      rw [if_neg (fun q => q.elim (fun f => by rw [c2] at f; exact absurd f (by decide)) c1'), if_neg n2, has_g S c2]
      by_cases c3 : σ.2 3 (ix i) = 1
      · rw [if_pos c3, if_pos (decide_eq_true c3)]
      · rw [if_neg c3, if_neg (fun q => c3 (of_decide_eq_true q))]
        obtain ⟨h1, -, -⟩ := sHas_ix S c2
        have R := (B.2.1 _ h1).2
        by_cases c4 : jmin (σ.2 2 (ix i)) (σ.2 4 (ix i)) = 0
        · rw [if_pos c4, if_pos ((min_0 R.2.2.1 R.2.2.2).mp c4)]
        · rw [if_neg c4, if_neg (fun q => c4 ((min_0 R.2.2.1 R.2.2.2).mpr q))]
    · rw [if_pos c2, if_pos (Or.inl (by cases hh : sHas σ i with | false => rfl | true => exact absurd hh c2))]
theorem swp_0 (c : sWhySwap σ i k = 0) : sHas σ i = true ∧ sHas σ k = true ∧ ¬ i = k := by
  unfold sWhySwap at c
  by_cases q : sHas σ i = true ∧ sHas σ k = true ∧ ¬ i = k
  · exact q
  · rw [if_neg q] at c; exact absurd c (by decide)
theorem gif_0 (c : sWhyGift σ i k n = 0) : sHas σ i = true ∧ sHas σ k = true ∧ ¬ i = k := by
  unfold sWhyGift at c
  by_cases q : sHas σ i = true ∧ sHas σ k = true ∧ ¬ i = k
  · exact q
  · rw [if_pos q] at c; exact absurd c (by decide)
theorem pay_0 (c : sWhyPay σ i = 0) : sHas σ i = true := by
  unfold sWhyPay at c
  by_cases q : sHas σ i = true
  · exact q
  · rw [if_pos q] at c; exact absurd c (by decide)
theorem kn_I {K' : Nat → Int32} {v : Int32} : mA (mI μ 4 v) 1 K' = mI (mA μ 1 K') 4 v := rfl
/-- the end of a deed -/
theorem fin_d {α : Type} {xs : List String} {v r : α} {K' : Nat → Int32} (q : kep N (kn μ) K' σ) (hv : r = v) : mDeed N μ σ τ xs (.inr v) r (mS (mA (mI μ 4 0) 1 K') τ) :=
  ⟨K', q, fin_0 (μ := mA μ 1 K') (μ' := mI (mA μ 1 K') 4 0) (ms_4 0) (mI_at 4 0) hv⟩
theorem m_swap (B : stB σ) (hN : N ≤ 10) (e7 : kn μ 7 = nI N) : Con g mX12_swap (d + 5) [.ref m, .int i, .int k] (mw h m (mS μ σ)) (wPi h m (fun r ν => (sWhySwap σ i k = 0 ∧ mDeed N μ σ (sExch σ i k) [] (.inr ((sExch σ i k).2 4 (ix i) + (sExch σ i k).2 4 (ix k))) r ν) ∨ (¬ sWhySwap σ i k = 0 ∧ mAns μ σ [] (.inr (-(sWhySwap σ i k))) r ν))) := by
  refine con_of km_X12_swap.1.2.2.2.2 (Nat.le_of_ble_eq_true rfl) rfl (wX12_swap_0 ?_)
  rw [mS_I]
  refine ⟨_, m_whyTwo (σ := σ), fun c => ?_, fun c => ?_⟩
  · rw [lWhyTwo_n B.1] at c
    obtain ⟨hi, hk, -⟩ := swp_0 c
    obtain ⟨i1, i2, h7⟩ := sHas_ix B.1 hi
    obtain ⟨k1, k2, -⟩ := sHas_ix B.1 hk
    refine ⟨_, m_keeps (σ := σ) hN e7, fun μ1 q => ?_⟩
    obtain ⟨K', q, rfl⟩ := q
    have C := m_swaps (g := g) (d := d + 3) (h := h) (m := m) (μ := mA (mI μ 4 0) 1 K') (σ := σ) (i := ix i) (k := ix k) (by omega) (by omega)
    rw [← i2, ← k2, exN_ex hi hk] at C
    refine ⟨_, C, fun μ2 q2 => ?_⟩
    subst q2
    rw [i2, k2]
    refine ⟨kin (b := 36) (by omega), kin (b := 36) (by omega), _, Or.inl ⟨by rw [← i2, ← k2]; exact c, fin_d q ?_⟩, rfl⟩
    rw [← i2, ← k2, show ix ((36 : Int32) + i) = 36 + ix i by rw [i2, show ix ((36 : Int32) + nI (ix i)) = 36 + ix i from kx (b := 36) (by omega), ← i2], show ix ((36 : Int32) + k) = 36 + ix k by rw [k2, show ix ((36 : Int32) + nI (ix k)) = 36 + ix k from kx (b := 36) (by omega), ← k2], kj (b := 36) (r := 4) rfl (by decide) (by omega), kj (b := 36) (r := 4) rfl (by decide) (by omega)]
  · rw [lWhyTwo_n B.1] at c
    refine ⟨_, Or.inr ⟨c, fin_0 (ms_4 0) (mI_at 4 0) ?_⟩, rfl⟩
    unfold sWhySwap at c ⊢
    by_cases q : sHas σ i = true ∧ sHas σ k = true ∧ ¬ i = k
    · rw [if_pos q] at c; exact absurd rfl c
    · rw [if_neg q]
theorem m_gift (B : stB σ) (hN : N ≤ 10) (e7 : kn μ 7 = nI N) : Con g mX12_gift (d + 5) [.ref m, .int i, .int k, .int n] (mw h m (mS μ σ)) (wPi h m (fun r ν => ((¬ (n < 1 ∨ 999 < n) ∧ sWhyGift σ i k n = 0) ∧ mDeed N μ σ (sGive σ i k n) [] (.inr ((sGive σ i k n).2 2 (ix i))) r ν) ∨ (¬ (¬ (n < 1 ∨ 999 < n) ∧ sWhyGift σ i k n = 0) ∧ mAns μ σ [] (.inr (-(if n < 1 ∨ 999 < n then 1 else sWhyGift σ i k n))) r ν))) := by
  refine con_of km_X12_gift.1.2.2.2.2 (Nat.le_of_ble_eq_true rfl) rfl (wX12_gift_0 ?_)
  rw [mS_I]
  refine ⟨_, m_whyGift (σ := σ) B.1, fun c => ?_, fun c => ?_⟩
  · rw [lWhyGift_n B.1] at c
    by_cases c1 : n < 1 ∨ 999 < n
    · rw [if_pos c1] at c; exact absurd c (by decide)
    · rw [if_neg c1] at c
      obtain ⟨hi, hk, -⟩ := gif_0 c
      obtain ⟨i1, i2, h7⟩ := sHas_ix B.1 hi
      refine ⟨_, m_keeps (σ := σ) hN e7, fun μ1 q => ?_⟩
      obtain ⟨K', q, rfl⟩ := q
      refine ⟨_, m_gives (σ := σ) B.1 hi hk, fun μ2 q2 => ?_⟩
      subst q2
      have ex : ix ((22 : Int32) + i) = 22 + ix i := by rw [i2, show ix ((22 : Int32) + nI (ix i)) = 22 + ix i from kx (b := 22) (by omega), ← i2]
      refine ⟨by rw [i2]; exact kin (b := 22) (by omega), _, Or.inl ⟨⟨c1, c⟩, fin_d q ?_⟩, rfl⟩
      rw [ex, kj (b := 22) (r := 2) rfl (by decide) (by omega)]
  · rw [lWhyGift_n B.1] at c ⊢
    refine ⟨_, Or.inr ⟨fun q => ?_, fin_0 (ms_4 0) (mI_at 4 0) rfl⟩, rfl⟩
    rw [if_neg q.1] at c
    exact c q.2
theorem m_payOff (B : stB σ) (hN : N ≤ 10) (e7 : kn μ 7 = nI N) : Con g mX12_payOff (d + 5) [.ref m, .int i, .int n] (mw h m (mS μ σ)) (wPi h m (fun r ν => ((¬ (n < 1 ∨ 999 < n) ∧ sWhyPay σ i = 0) ∧ mDeed N μ σ (sPay σ i n) [] (.inr (sPaid σ i n)) r ν) ∨ (¬ (¬ (n < 1 ∨ 999 < n) ∧ sWhyPay σ i = 0) ∧ mAns μ σ [] (.inr (-(if n < 1 ∨ 999 < n then 1 else sWhyPay σ i))) r ν))) := by
  refine con_of km_X12_payOff.1.2.2.2.2 (Nat.le_of_ble_eq_true rfl) rfl (wX12_payOff_0 ?_)
  rw [mS_I]
  refine ⟨_, m_whyPay (σ := σ) B.1, fun c => ?_, fun c => ?_⟩
  · rw [lWhyPay_n B] at c
    by_cases c1 : n < 1 ∨ 999 < n
    · rw [if_pos c1] at c; exact absurd c (by decide)
    · rw [if_neg c1] at c
      have hi := pay_0 c
      refine ⟨_, m_keeps (σ := σ) hN e7, fun μ1 q => ?_⟩
      obtain ⟨K', q, rfl⟩ := q
      refine ⟨_, m_paysOff (σ := σ) B.1 hi, fun r μ2 q2 => ?_⟩
      obtain ⟨hr, rfl⟩ := q2
      exact ⟨_, Or.inl ⟨⟨c1, c⟩, fin_d q hr⟩, rfl⟩
  · rw [lWhyPay_n B] at c ⊢
    refine ⟨_, Or.inr ⟨fun q => ?_, fin_0 (ms_4 0) (mI_at 4 0) rfl⟩, rfl⟩
    rw [if_neg q.1] at c
    exact c q.2
theorem m_plant (B : stB σ) (hN : N ≤ 10) (e7 : kn μ 7 = nI N) : Con g mX12_plant (d + 5) [.ref m, .int i, .int n] (mw h m (mS μ σ)) (wPi h m (fun r ν => (sHas σ i = true ∧ inN n 0 20 = true ∧ mDeed N μ σ (setR σ 5 (upd (σ.2 5) (ix i) n)) [nse, iae] (.inr (σ.2 5 (ix i))) r ν) ∨ (sHas σ i = false ∧ mAns μ σ [nse, iae] (.inl nse : An Int32) r ν) ∨ (sHas σ i = true ∧ inN n 0 20 = false ∧ mAns μ σ [nse, iae] (.inl iae : An Int32) r ν))) := by
  refine con_of km_X12_plant.1.2.2.2.2 (Nat.le_of_ble_eq_true rfl) rfl (wX12_plant_0 ⟨_, m_isHouse (σ := σ), fun c => ?_, fun c => ⟨_, m_within, fun c2 => ?_, fun c2 => ?_⟩⟩)
  · exact wX12_plant_31 ⟨fun _ => ⟨_, Or.inr (Or.inl ⟨has0 B.1 c, fin_1 cod_i.symm⟩), rfl⟩, fun q => absurd (thr_p (by decide)) q⟩
  · exact wX12_plant_31 ⟨fun _ => ⟨_, Or.inr (Or.inr ⟨has1 B.1 c, in0 (a := 0) (b := 20) rfl rfl c2, fin_1 cod_2.symm⟩), rfl⟩, fun q => absurd (thr_p (by decide)) q⟩
  · have hh := has1 B.1 c
    obtain ⟨i1, i2, h7⟩ := sHas_ix B.1 hh
    refine wX12_plant_31 ⟨fun q => absurd q thr_n, fun _ => ?_⟩
    rw [mS_I]
    refine ⟨_, m_keeps (σ := σ) hN e7, fun μ1 q => ?_⟩
    obtain ⟨K', q, rfl⟩ := q
    have ei : (43 : Int32) + i = nI 43 + nI (ix i) := by rw [← i2]; rfl
    rw [ei]
    have e1 : ∀ {v : Int32}, mA (mS (mA (mI μ 4 0) 1 K') σ) 1 (upd (kn (mS (mA (mI μ 4 0) 1 K') σ)) (ix (nI 43 + nI (ix i))) v) = mS (mA (mI μ 4 0) 1 K') (setR σ 5 (upd (σ.2 5) (ix i) v)) := fun {v} => mS_set (b := 43) (r := 5) rfl (by omega) (by omega) (by omega) rfl
    rw [e1]
    refine ⟨kin (by omega), kin (by omega), _, Or.inl ⟨hh, in1 (a := 0) (b := 20) rfl rfl c2, fin_d q ?_⟩, rfl⟩
    rw [kx (by omega), kj (b := 43) (r := 5) rfl (by decide) (by omega)]
theorem m_quarters (B : stB σ) (E : encT (kn μ) T) (hN : N ≤ 10) (e7 : kn μ 7 = nI N) : Con g mX12_quarters (d + 7) [.ref m, .int n] (mw h m (mS μ σ)) (wPi h m (fun r ν => (inN n 1 99 = true ∧ mDeed N μ σ (pN T σ (ix n)) [iae] (.inr (lostN T T.1.2.2 σ (ix n))) r ν) ∨ (inN n 1 99 = false ∧ mAns μ σ [iae] (.inl iae : An Int32) r ν))) := by
  refine con_of km_X12_quarters.1.2.2.2.2 (Nat.le_of_ble_eq_true rfl) rfl (wX12_quarters_0 ⟨_, m_within, fun c2 => ?_, fun c2 => ?_⟩)
  · exact ⟨_, m_fails, fun r ν q => ⟨_, Or.inr ⟨in0 (a := 1) (b := 99) rfl rfl c2, fin_f q⟩, rfl⟩⟩
  · have hn := in1 (a := 1) (b := 99) rfl rfl c2
    obtain ⟨en, -, hn2⟩ := inN_nI (a := 1) (b := 99) (by decide) (by decide) hn
    rw [mS_I]
    refine ⟨_, m_keeps (σ := σ) hN e7, fun μ1 q => ?_⟩
    obtain ⟨K', q, rfl⟩ := q
    have E' : encT (kn (mA (mI μ 4 0) 1 K')) T := q.e E
    have loop : ∀ r j μ', j + r = ix n → qr (mA (mI μ 4 0) 1 K') μ' → J g mX12_quarters (d + 7) (mw h m (mS μ σ)) (wPi h m (fun r ν => (inN n 1 99 = true ∧ mDeed N μ σ (pN T σ (ix n)) [iae] (.inr (lostN T T.1.2.2 σ (ix n))) r ν) ∨ (inN n 1 99 = false ∧ mAns μ σ [iae] (.inl iae : An Int32) r ν))) 31 [(0, .ref m), (1, .int (nI (ix n))), (2, .int (lostN T T.1.2.2 σ j)), (3, .int (nI j))] [] (mw h m (mS μ' (pN T σ j))) := by
      intro r
      induction r with
      | zero =>
        intro j μ' hj hq
        have : j = ix n := by omega
        rw [this]
        have h4 : ms (mA μ 1 K') μ' := (ms_4 0).tr hq.q.s
        have h5 : μ'.1 4 = 0 := (hq.1 4 (by decide) (by decide)).trans (mI_at (μ := mA μ 1 K') 4 0)
        exact wX12_quarters_31 ⟨fun c => absurd c (nI_nlt (by omega) (by omega)), fun _ => ⟨_, Or.inl ⟨hn, K', q, fin_0 h4 h5 rfl⟩, rfl⟩⟩
      | succ r ih =>
        intro j μ' hj hq
        refine wX12_quarters_31 ⟨fun _ => ⟨_, m_quarterW (σ := pN T σ j) (T := T) (stB_pasN B j) (by rw [hq.k]; exact E'), fun μ1 q => ?_⟩, fun c => absurd (nI_lt (by omega) (by omega)) c⟩
        obtain ⟨μ2, q1, -, q24, -, rfl⟩ := q
        have e24 : (mS μ2 (pas T T.1.2.2 (pN T σ j))).1 24 = pasRuin T T.1.2.2 (pN T σ j) := q24
        rw [nI_1, e24]
        exact ih (j + 1) μ2 (by omega) (hq.tr q1)
    have L := loop (ix n) 0 (mA (mI μ 4 0) 1 K') (by omega) (qr.rf _)
    rw [← en] at L
    exact L
end MDE
