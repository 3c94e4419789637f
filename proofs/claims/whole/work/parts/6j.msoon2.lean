/-! The reference: burdens, the heaviest, what is paid, ruin, clear -/
section MSP
variable {g : jG} {d : Nat} {h : jH} {m : Nat} {μ ν : MW} {i k n : Int32} {T : Td} {σ τ : St} {I A : List Nat}
theorem soon_1 (c : bI (decide (¬ soonC σ i n = 0)) = 0) : soonC σ i n = 0 := by
  have := bI0 c
  exact Decidable.not_not.mp (of_decide_eq_false this)
theorem soon_2 (c : soonC σ i n = 0) : sHas σ i = true ∧ inN n 1 20 = true := by
  unfold soonC at c
  by_cases h1 : sHas σ i = false
  · rw [if_pos h1] at c; exact absurd c (by decide)
  · rw [if_neg h1] at c
    by_cases h2 : inN n 1 20 = false
    · rw [if_pos h2] at c; exact absurd c (by decide)
    · exact ⟨by cases hh : sHas σ i with | false => exact absurd hh h1 | true => rfl, by cases hh : inN n 1 20 with | false => exact absurd hh h2 | true => rfl⟩
theorem m_burden (B : stB σ) (E : encT (kn μ) T) : Con g mX12_burden (d + 9) [.ref m, .int i, .int n] (mw h m (mS μ σ)) (wPl h m (mAns μ σ [nse, iae] (hBurden T σ i n))) := by
  refine con_of km_X12_burden.1.2.2.2.2 (Nat.le_of_ble_eq_true rfl) rfl (wX12_burden_0 ⟨_, m_isSoonOut (σ := σ) B.1, fun r μ1 q => ?_⟩)
  obtain ⟨hr, rfl⟩ := q
  subst hr
  refine ⟨fun c => ?_, fun c => ?_⟩
  · have c0 := soon_1 c
    obtain ⟨hh, hn⟩ := soon_2 c0
    obtain ⟨h1, ei, h7⟩ := sHas_ix B.1 hh
    obtain ⟨en, -, hn2⟩ := inN_nI (a := 1) (b := 20) (by decide) (by decide) hn
    unfold hBurden
    rw [if_neg (by rw [hh]; decide), if_neg (by rw [hn]; decide), c0, mS_I]
    have C := m_burdenNow (g := g) (d := d) (h := h) (m := m) (μ := mI μ 4 0) (σ := σ) (T := T) B E (n := ix n) (j := ix i) (by omega) h1
    rw [← en, ← ei] at C
    refine ⟨_, C, fun r ν q => ?_⟩
    obtain ⟨e, μ', q, rfl⟩ := q
    exact ⟨_, fin_0 (ms_q q).1 (ms_q q).2 e, rfl⟩
  · have c0 := bI1 c
    refine ⟨_, ?_, rfl⟩
    unfold hBurden soonC
    by_cases h1 : sHas σ i = false
    · rw [if_pos h1, if_pos h1]
      exact fin_1 cod_i.symm
    · rw [if_neg h1, if_neg h1]
      by_cases h2 : inN n 1 20 = false
      · rw [if_pos h2, if_pos h2]
        exact fin_1 cod_2.symm
      · exfalso
        have := of_decide_eq_true c0
        unfold soonC at this
        rw [if_neg h1, if_neg h2] at this
        exact this rfl
theorem m_heaviest (B : stB σ) (E : encT (kn μ) T) : Con g mX12_heaviest (d + 9) [.ref m, .int n] (mw h m (mS μ σ)) (wPi h m (mAns μ σ [iae] (hHeaviest T σ n))) := by
  have h7 := B.1.2
  unfold hHeaviest
  refine con_of km_X12_heaviest.1.2.2.2.2 (Nat.le_of_ble_eq_true rfl) rfl (wX12_heaviest_0 ⟨_, m_isSoon, fun c => ?_, fun c => ?_⟩)
  · rw [if_pos (bI0 c)]
    exact ⟨_, m_fails, fun r ν q => ⟨_, fin_f q, rfl⟩⟩
  · have hn := bI1 c
    obtain ⟨en, -, hn2⟩ := inN_nI (a := 1) (b := 20) (by decide) (by decide) hn
    rw [if_neg (by rw [hn]; decide)]
    have loop : ∀ r j μ' b l, j + r = sN σ → dq (mI μ 4 0) μ' → J g mX12_heaviest (d + 9) (mw h m (mS μ σ)) (wPi h m (mAns μ σ [iae] (.inr (hvyM (burN T T.1.2.2 σ (ix n)) r j b l)))) 27 [(0, .ref m), (1, .int (nI (ix n))), (2, .int b), (3, .long l), (5, .int (nI j))] [] (mw h m (mS μ' σ)) := by
      intro r
      induction r with
      | zero =>
        intro j μ' b l hj q
        refine wX12_heaviest_27 ⟨_, m_housesS (σ := σ), fun c => ?_, fun _ => ⟨_, fin_0 (ms_q q).1 (ms_q q).2 rfl, rfl⟩⟩
        rw [B.1.1] at c
        exact absurd c (nI_nlt (by omega) (by omega))
      | succ r ih =>
        intro j μ' b l hj q
        refine wX12_heaviest_27 ⟨_, m_housesS (σ := σ), fun _ => ?_, fun c => ?_⟩
        · refine ⟨_, m_burdenNow (σ := σ) (T := T) B (q.e E) (by omega) (by omega), fun r2 ν q2 => ?_⟩
          obtain ⟨e, μ2, q2, rfl⟩ := q2
          subst e
          rw [nI_1]
          refine ⟨fun c2 => ?_, fun c2 => ?_⟩
          · unfold hvyM
            rw [if_pos c2]
            exact ih (j + 1) μ2 _ _ (by omega) (dif.tr q q2)
          · unfold hvyM
            rw [if_neg c2]
            exact ih (j + 1) μ2 _ _ (by omega) (dif.tr q q2)
        · rw [B.1.1] at c
          exact absurd (nI_lt (by omega) (by omega)) c
    have L := loop (sN σ) 0 (mI μ 4 0) (-1) (-1) (by omega) (dif.rf _)
    rw [← en] at L
    exact L
theorem m_paid (B : stB σ) (E : encT (kn μ) T) : Con g mX12_paid (d + 9) [.ref m, .int n] (mw h m (mS μ σ)) (wPl h m (mAns μ σ [iae] (hPaid T σ n))) := by
  unfold hPaid
  refine con_of km_X12_paid.1.2.2.2.2 (Nat.le_of_ble_eq_true rfl) rfl (wX12_paid_0 ⟨_, m_isSoon, fun c => ?_, fun c => ?_⟩)
  · rw [if_pos (bI0 c)]
    exact ⟨_, m_fails, fun r ν q => ⟨_, fin_f q, rfl⟩⟩
  · have hn := bI1 c
    obtain ⟨en, -, hn2⟩ := inN_nI (a := 1) (b := 20) (by decide) (by decide) hn
    rw [if_neg (by rw [hn]; decide), mS_I]
    refine ⟨_, m_putsAside (σ := σ), fun μ1 q => ?_⟩
    obtain ⟨μ2, d2, a2, rfl⟩ := q
    have q2 : dq (mI μ 4 0) μ2 := d2.up (by decide) (by decide)
    have loop : ∀ r k μ', k + r = ix n → dr μ2 μ' → J g mX12_paid (d + 9) (mw h m (mS μ σ)) (wPl h m (mAns μ σ [iae] (.inr (paidN T T.1.2.2 σ (ix n))))) 28 [(0, .ref m), (1, .int (nI (ix n))), (2, .long (paidN T T.1.2.2 σ k)), (4, .int (nI k))] [] (mw h m (mS μ' (pN T σ k))) := by
      intro r
      induction r with
      | zero =>
        intro k μ' hk q
        have : k = ix n := by omega
        refine wX12_paid_28 ⟨fun c => absurd c (nI_nlt (by omega) (by omega)), fun _ => ⟨_, m_putsBack (σ := σ) (τ := pN T σ k) (q.asd a2) pN_1, fun μ1 q1 => ?_⟩⟩
        subst q1
        have q3 : dq (mI μ 4 0) μ' := dif.tr q2 q.q
        exact ⟨_, fin_0 (ms_q q3).1 (ms_q q3).2 (by rw [this]), rfl⟩
      | succ r ih =>
        intro k μ' hk q
        refine wX12_paid_28 ⟨fun _ => ⟨_, m_quarterW (σ := pN T σ k) (T := T) (stB_pasN B k) (by rw [q.kk, q2.kk]; exact E), fun μ1 q1 => ?_⟩, fun c => absurd (nI_lt (by omega) (by omega)) c⟩
        obtain ⟨μ3, q1, q23, -, -, rfl⟩ := q1
        have e23 : (mS μ3 (pas T T.1.2.2 (pN T σ k))).1 23 = pasPaid T (pN T σ k) := q23
        rw [nI_1, e23]
        exact ih (k + 1) μ3 (by omega) (q.tr q1.r)
    have L := loop (ix n) 0 μ2 (by omega) (dif.rf _)
    rw [← en] at L
    exact L
theorem gone_N (S : sok σ) (hh : sHas σ i = true) (j : Nat) : sGone (pN T σ j) i = decide ((pN T σ j).2 3 (ix i) = 1) := by
  have e : sHas (pN T σ j) i = true := by
    unfold sHas
    rw [pN_1]
    exact hh
  unfold sGone
  rw [e]
  rfl
theorem m_ruinIn (B : stB σ) (E : encT (kn μ) T) : Con g mX12_ruinIn (d + 9) [.ref m, .int i] (mw h m (mS μ σ)) (wPi h m (mAns μ σ [nse] (hRuinIn T σ i))) := by
  unfold hRuinIn
  refine con_of km_X12_ruinIn.1.2.2.2.2 (Nat.le_of_ble_eq_true rfl) rfl (wX12_ruinIn_0 ?_)
  rw [mS_I]
  refine ⟨_, m_isHouse (σ := σ), fun c => ?_, fun c => ?_⟩
  · rw [if_pos (has0 B.1 c)]
    exact ⟨_, m_fails, fun r ν q => ⟨_, fin_f q, rfl⟩⟩
  · have hh := has1 B.1 c
    obtain ⟨h1, ei, h7⟩ := sHas_ix B.1 hh
    rw [if_neg (by rw [hh]; decide)]
    refine ⟨_, m_putsAside (σ := σ), fun μ1 q => ?_⟩
    obtain ⟨μ2, d2, a2, rfl⟩ := q
    have q2 : dq (mI μ 4 0) μ2 := d2.up (by decide) (by decide)
    have last : ∀ k μ' (v : Int32), k < 1000 → dr μ2 μ' → (200 < k → v = -1) → (k ≤ 200 → v = nI k) → J g mX12_ruinIn (d + 9) (mw h m (mS μ σ)) (wPi h m (mAns μ σ [nse] (.inr v))) 51 [(0, .ref m), (2, .int (nI k))] [] (mw h m (mS μ' (pN T σ k))) := by
      intro k μ' v hk q v1 v2
      refine wX12_ruinIn_51 ⟨_, m_putsBack (σ := σ) (τ := pN T σ k) (q.asd a2) pN_1, fun μ1 q1 => ?_⟩
      subst q1
      have q3 : dq (mI μ 4 0) μ' := dif.tr q2 q.q
      refine ⟨fun c => ?_, fun c => ?_⟩
      · have : 200 < k := (nI_ltI (a := 200) (by omega) (by omega)).mp c
        exact ⟨_, fin_0 (ms_q q3).1 (ms_q q3).2 (v1 this).symm, rfl⟩
      · have : ¬ 200 < k := fun f => c (nI_lt (a := 200) f (by omega))
        exact ⟨_, fin_0 (ms_q q3).1 (ms_q q3).2 (v2 (by omega)).symm, rfl⟩
    have loop : ∀ r k μ', k + r = 201 → dr μ2 μ' → J g mX12_ruinIn (d + 9) (mw h m (mS μ σ)) (wPi h m (mAns μ σ [nse] (.inr (gonL (pN T σ) i r k)))) 26 [(0, .ref m), (1, .int i), (2, .int (nI k))] [] (mw h m (mS μ' (pN T σ k))) := by
      intro r
      induction r with
      | zero =>
        intro k μ' hk q
        refine wX12_ruinIn_26 ⟨fun _ => last k μ' _ (by omega) q (fun _ => rfl) (fun f => by omega), fun c => absurd (nI_lt (a := 200) (by omega) (by omega)) c⟩
      | succ r ih =>
        intro k μ' hk q
        have C := m_isGoneS (g := g) (d := d + 7) (h := h) (m := m) (μ := μ') (σ := pN T σ k) (j := ix i) (by omega)
        rw [← ei] at C
        unfold gonL
        rw [gone_N B.1 hh]
        refine wX12_ruinIn_26 ⟨fun c => absurd c (nI_nlt (a := 200) (by omega) (by omega)), fun _ => ⟨_, C, fun c => ⟨_, m_quarterW (σ := pN T σ k) (T := T) (stB_pasN B k) (by rw [q.kk, q2.kk]; exact E), fun μ1 q1 => ?_⟩, fun c => ?_⟩⟩
        · obtain ⟨μ3, q1, -, -, -, rfl⟩ := q1
          rw [if_neg (by rw [bI0 c]; decide), nI_1]
          exact ih (k + 1) μ3 (by omega) (q.tr q1.r)
        · rw [if_pos (bI1 c)]
          exact last k μ' _ (by omega) q (fun f => by omega) (fun _ => rfl)
    exact loop 201 0 μ2 rfl (dif.rf _)
theorem m_sumOf {b r : Nat} (hb : b = 8 + 7 * r) (hr : r < 6) (S : sok σ) : Con g mX12_sumOf (d + 2) [.ref m, .int (nI b)] (mw h m (mS μ σ)) (wv h m (mS μ σ) (sumN (σ.2 r) (sN σ))) := by
  have h7 := S.2
  have loop : ∀ x j, j + x = sN σ → J g mX12_sumOf (d + 2) (mw h m (mS μ σ)) (wv h m (mS μ σ) (sumN (σ.2 r) (sN σ))) 4 [(0, .ref m), (1, .int (nI b)), (2, .int (sumN (σ.2 r) j)), (3, .int (nI j))] [] (mw h m (mS μ σ)) := by
    intro x
    induction x with
    | zero =>
      intro j hj
      have : j = sN σ := by omega
      refine wX12_sumOf_4 ⟨_, m_housesS (σ := σ), fun c => ?_, fun _ => ⟨by rw [this], rfl⟩⟩
      rw [S.1] at c
      exact absurd c (nI_nlt (by omega) (by omega))
    | succ x ih =>
      intro j hj
      refine wX12_sumOf_4 ⟨_, m_housesS (σ := σ), fun _ => ⟨kin (by omega), ?_⟩, fun c => ?_⟩
      · rw [kx (by omega), kj hb hr (by omega), nI_1]
        exact ih (j + 1) (by omega)
      · rw [S.1] at c
        exact absurd (nI_lt (by omega) (by omega)) c
  exact con_of km_X12_sumOf.1.2.2.2.2 (Nat.le_of_ble_eq_true rfl) rfl (wX12_sumOf_0 (loop (sN σ) 0 (by omega)))
theorem sum_rng {f : Nat → Int32} : ∀ n, n ≤ 7 → (∀ i, i < n → rng (f i)) → 0 ≤ (sumN f n).toInt ∧ (sumN f n).toInt ≤ n * 999999 := by
  intro n
  induction n with
  | zero => intro _ _; exact ⟨Int.le_refl _, Int.le_refl _⟩
  | succ n ih =>
    intro hn hf
    obtain ⟨a1, a2⟩ := ih (by omega) (fun i hi => hf i (by omega))
    have r := hf n (by omega)
    unfold rng at r
    show 0 ≤ (sumN f n + f n).toInt ∧ (sumN f n + f n).toInt ≤ _
    rw [tI_add (by omega)]
    omega
theorem m_clear (B : stB σ) (E : encT (kn μ) T) : Con g mX12_clear (d + 9) [.ref m] (mw h m (mS μ σ)) (wPi h m (mAns μ σ [] (hClear T σ))) := by
  unfold hClear
  refine con_of km_X12_clear.1.2.2.2.2 (Nat.le_of_ble_eq_true rfl) rfl (wX12_clear_0 ?_)
  rw [mS_I]
  refine ⟨_, m_putsAside (σ := σ), fun μ1 q => ?_⟩
  obtain ⟨μ2, d2, a2, rfl⟩ := q
  have q2 : dq (mI μ 4 0) μ2 := d2.up (by decide) (by decide)
  have last : ∀ k μ' (v : Int32), k < 1000 → dr μ2 μ' → (200 < k → v = -1) → (k ≤ 200 → v = nI k) → J g mX12_clear (d + 9) (mw h m (mS μ σ)) (wPi h m (mAns μ σ [] (.inr v))) 37 [(0, .ref m), (1, .int (nI k))] [] (mw h m (mS μ' (pN T σ k))) := by
    intro k μ' v hk q v1 v2
    refine wX12_clear_37 ⟨_, m_putsBack (σ := σ) (τ := pN T σ k) (q.asd a2) pN_1, fun μ1 q1 => ?_⟩
    subst q1
    have q3 : dq (mI μ 4 0) μ' := dif.tr q2 q.q
    refine ⟨fun c => ?_, fun c => ?_⟩
    · have : 200 < k := (nI_ltI (a := 200) (by omega) (by omega)).mp c
      exact ⟨_, fin_0 (ms_q q3).1 (ms_q q3).2 (v1 this).symm, rfl⟩
    · have : ¬ 200 < k := fun f => c (nI_lt (a := 200) f (by omega))
      exact ⟨_, fin_0 (ms_q q3).1 (ms_q q3).2 (v2 (by omega)).symm, rfl⟩
  have loop : ∀ r k μ', k + r = 201 → dr μ2 μ' → J g mX12_clear (d + 9) (mw h m (mS μ σ)) (wPi h m (mAns μ σ [] (.inr (clrL (pN T σ) r k)))) 11 [(0, .ref m), (1, .int (nI k))] [] (mw h m (mS μ' (pN T σ k))) := by
    intro r
    induction r with
    | zero =>
      intro k μ' hk q
      refine wX12_clear_11 ⟨fun _ => last k μ' _ (by omega) q (fun _ => rfl) (fun f => by omega), fun c => absurd (nI_lt (a := 200) (by omega) (by omega)) c⟩
    | succ r ih =>
      intro k μ' hk q
      have BN := stB_pasN (T := T) (lim := T.1.2.2) B k
      have R := (sum_rng (f := (pN T σ k).2 4) (sN (pN T σ k)) BN.1.2 (fun i hi => (BN.2.1 i hi).2.2.2.2)).1
      unfold clrL
      refine wX12_clear_11 ⟨fun c => absurd c (nI_nlt (a := 200) (by omega) (by omega)), fun _ => ⟨_, m_sumOf (σ := pN T σ k) (b := 36) (r := 4) rfl (by decide) BN.1, fun c => ⟨_, m_quarterW (σ := pN T σ k) (T := T) BN (by rw [q.kk, q2.kk]; exact E), fun μ1 q1 => ?_⟩, fun c => ?_⟩⟩
      · obtain ⟨μ3, q1, -, -, -, rfl⟩ := q1
        rw [if_neg (fun f => by rw [f] at c; exact absurd c (by decide)), nI_1]
        exact ih (k + 1) μ3 (by omega) (q.tr q1.r)
      · have z : sumN ((pN T σ k).2 4) (sN (pN T σ k)) = 0 := by
          apply Int32.toInt_inj.mp
          rw [Int32.lt_iff_toInt_lt, z0] at c
          rw [z0]
          omega
        rw [if_pos z]
        exact last k μ' _ (by omega) q (fun f => by omega) (fun _ => rfl)
  exact loop 201 0 μ2 rfl (dif.rf _)
theorem m_isLostFromHere (B : stB τ) (E : encT (kn μ) T) (Y : asd μ σ) (e0 : τ.1 0 = σ.1 0) {n j : Nat} (hn : n < 1000000) (hj : j < sN τ) : Con g mX12_isLostFromHere (d + 9) [.ref m, .int (nI j), .int (nI n)] (mw h m (mS μ τ)) (wPi h m (fun r ν => r = bI (lstB T τ n j) ∧ ∃ μ', dr μ μ' ∧ ν = mS μ' σ)) := by
  have h7 := B.1.2
  refine con_of km_X12_isLostFromHere.1.2.2.2.2 (Nat.le_of_ble_eq_true rfl) rfl (wX12_isLostFromHere_0 ⟨_, m_lostFromHere (σ := σ) (τ := τ) (T := T) B E Y e0 hn, fun r μ1 q => ?_⟩)
  obtain ⟨-, μ2, d2, h27, rfl⟩ := q
  rw [mS_at, h27]
  refine ⟨_, m_has (bset_nat _ h7) (by omega), bI_01 _, _, ⟨?_, μ2, d2, rfl⟩, rfl⟩
  rw [bset_bit, decide_eq_true hj]
  rfl
end MSP
