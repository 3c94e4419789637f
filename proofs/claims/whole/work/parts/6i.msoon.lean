/-! The reference: asks of what is to come -/
abbrev lstN (T : Td) (σ : St) (n : Nat) : Nat := bcnt (lstB T σ n) (sN σ)
def soonC (σ : St) (i n : Int32) : Int32 := if sHas σ i = false then 1 else if inN n 1 20 = false then 2 else 0
def livC (σ : St) (i n : Int32) : Int32 := if sHas σ i = false then 1 else if inN n 1 20 = false then 2 else if sGone σ i = true then 3 else 0
def hvyM (f : Nat → Int64) : Nat → Nat → Int32 → Int64 → Int32
  | 0, _, b, _ => b
  | m + 1, j, b, l => if l < f j then hvyM f m (j + 1) (nI j) (f j) else hvyM f m (j + 1) b l
def hLost (T : Td) (σ : St) (n : Int32) : An Int32 := if inN n 1 20 = false then .inl iae else .inr (nI (lstN T σ (ix n)))
def hBurden (T : Td) (σ : St) (i n : Int32) : An Int64 := if sHas σ i = false then .inl nse else if inN n 1 20 = false then .inl iae else .inr (burN T T.1.2.2 σ (ix n) (ix i))
def hHeaviest (T : Td) (σ : St) (n : Int32) : An Int32 := if inN n 1 20 = false then .inl iae else .inr (hvyM (burN T T.1.2.2 σ (ix n)) (sN σ) 0 (-1) (-1))
def hPaid (T : Td) (σ : St) (n : Int32) : An Int64 := if inN n 1 20 = false then .inl iae else .inr (paidN T T.1.2.2 σ (ix n))
def hRuinIn (T : Td) (σ : St) (i : Int32) : An Int32 := if sHas σ i = false then .inl nse else .inr (gonL (pN T σ) i 201 0)
def hClear (T : Td) (σ : St) : An Int32 := .inr (clrL (pN T σ) 201 0)
section MSO
variable {g : jG} {d : Nat} {h : jH} {m : Nat} {μ ν : MW} {i k n : Int32} {T : Td} {σ τ : St} {I A : List Nat}
theorem m_isSoon : Con g mX12_isSoon (d + 2) [.int n] (mw h m μ) (wv h m μ (bI (inN n 1 20))) := by
  have e : inL n.toInt64 1 20 = inN n 1 20 := inL_n (a := 1) (b := 20) rfl rfl
  rw [← e]
  exact con_of km_X12_isSoon.1.2.2.2.2 (Nat.le_of_ble_eq_true rfl) rfl (wX12_isSoon_0 ⟨_, m_within, bI_01 _, rfl, rfl⟩)
theorem m_lostNow (B : stB σ) (E : encT (kn μ) T) {n : Nat} (hn : n < 1000000) : Con g mX12_lostNow (d + 9) [.ref m, .int (nI n)] (mw h m (mS μ σ)) (wPi h m (fun r ν => r = nI (lstN T σ n) ∧ ∃ μ', dq μ μ' ∧ μ'.1 27 = nI (bset (lstB T σ n) (sN σ)) ∧ ν = mS μ' σ)) := by
  refine con_of km_X12_lostNow.1.2.2.2.2 (Nat.le_of_ble_eq_true rfl) rfl (wX12_lostNow_0 ⟨_, m_putsAside (σ := σ), fun μ1 q => ?_⟩)
  obtain ⟨μ2, d2, a2, rfl⟩ := q
  have q2 : dq μ μ2 := d2.up (by decide) (by decide)
  refine ⟨_, m_lostFromHere (σ := σ) (τ := σ) (T := T) B (q2.e E) a2 rfl hn, fun r μ3 q => ?_⟩
  obtain ⟨hr, μ4, d4, h27, rfl⟩ := q
  exact ⟨_, ⟨hr, μ4, dif.tr q2 d4.q, h27, rfl⟩, rfl⟩
theorem m_lost (B : stB σ) (E : encT (kn μ) T) : Con g mX12_lost (d + 10) [.ref m, .int n] (mw h m (mS μ σ)) (wPi h m (mAns μ σ [iae] (hLost T σ n))) := by
  unfold hLost
  refine con_of km_X12_lost.1.2.2.2.2 (Nat.le_of_ble_eq_true rfl) rfl (wX12_lost_0 ⟨_, m_isSoon, fun c => ?_, fun c => ?_⟩)
  · rw [if_pos (bI0 c)]
    exact ⟨_, m_fails, fun r ν q => ⟨_, fin_f q, rfl⟩⟩
  · have hn := bI1 c
    obtain ⟨en, -, hn2⟩ := inN_nI (a := 1) (b := 20) (by decide) (by decide) hn
    rw [if_neg (by rw [hn]; decide)]
    have C := m_lostNow (g := g) (d := d) (h := h) (m := m) (μ := mI μ 4 0) (σ := σ) (T := T) B E (n := ix n) (by omega)
    rw [← en] at C
    refine ⟨_, C, fun r ν q => ?_⟩
    obtain ⟨e, μ', q, -, rfl⟩ := q
    exact ⟨_, fin_0 (ms_q q).1 (ms_q q).2 e, rfl⟩
theorem m_burdenFromHere (B : stB τ) (E : encT (kn μ) T) (Y : asd μ σ) (e0 : τ.1 0 = σ.1 0) {n j : Nat} (hn : n < 1000000) (hj : j < sN τ) : Con g mX12_burdenFromHere (d + 7) [.ref m, .int (nI j), .int (nI n)] (mw h m (mS μ τ)) (wPl h m (fun r ν => r = burN T T.1.2.2 τ n j ∧ ∃ μ', dr μ μ' ∧ ν = mS μ' σ)) := by
  have h7 := B.1.2
  have loop : ∀ r k μ', k + r = n → dr μ μ' → J g mX12_burdenFromHere (d + 7) (mw h m (mS μ τ)) (wPl h m (fun r ν => r = burN T T.1.2.2 τ n j ∧ ∃ μ', dr μ μ' ∧ ν = mS μ' σ)) 5 [(0, .ref m), (1, .int (nI j)), (2, .int (nI n)), (3, .long (burN T T.1.2.2 τ k j)), (5, .int (nI k))] [] (mw h m (mS μ' (pN T τ k))) := by
    intro r
    induction r with
    | zero =>
      intro k μ' hk hd
      have : k = n := by omega
      subst this
      refine wX12_burdenFromHere_5 ⟨fun c => absurd c (nI_nlt (by omega) (by omega)), fun _ => ⟨_, m_putsBack (σ := σ) (τ := pN T τ k) (hd.asd Y) (pN_1.trans e0), fun μ1 q => ?_⟩⟩
      subst q
      exact ⟨_, ⟨rfl, μ', hd, rfl⟩, rfl⟩
    | succ r ih =>
      intro k μ' hk hd
      refine wX12_burdenFromHere_5 ⟨fun _ => ⟨_, m_quarterW (σ := pN T τ k) (T := T) (stB_pasN B k) (by rw [hd.kk]; exact E), fun μ1 q => ?_⟩, fun c => absurd (nI_lt (by omega) (by omega)) c⟩
      obtain ⟨μ2, q1, -, -, q8, rfl⟩ := q
      refine ⟨vp_in_nI (by omega) (by decide), ?_⟩
      have e8 : (mS μ2 (pas T T.1.2.2 (pN T τ k))).2.1 8 (ix (nI j)) = pasCame T (pN T τ k) j := by
        rw [ix_nI (by omega)]
        exact q8 j (by rw [pN_N]; exact hj)
      have eb : burN T T.1.2.2 τ (k + 1) j = burN T T.1.2.2 τ k j + (pasCame T (pN T τ k) j).toInt64 := if_pos (by omega)
      rw [nI_1, e8, ← eb]
      exact ih (k + 1) μ2 (by omega) (hd.tr q1.r)
  exact con_of km_X12_burdenFromHere.1.2.2.2.2 (Nat.le_of_ble_eq_true rfl) rfl (wX12_burdenFromHere_0 (loop n 0 μ (by omega) (dif.rf μ)))
theorem m_burdenNow (B : stB σ) (E : encT (kn μ) T) {n j : Nat} (hn : n < 1000000) (hj : j < sN σ) : Con g mX12_burdenNow (d + 8) [.ref m, .int (nI j), .int (nI n)] (mw h m (mS μ σ)) (wPl h m (fun r ν => r = burN T T.1.2.2 σ n j ∧ ∃ μ', dq μ μ' ∧ ν = mS μ' σ)) := by
  refine con_of km_X12_burdenNow.1.2.2.2.2 (Nat.le_of_ble_eq_true rfl) rfl (wX12_burdenNow_0 ⟨_, m_putsAside (σ := σ), fun μ1 q => ?_⟩)
  obtain ⟨μ2, d2, a2, rfl⟩ := q
  have q2 : dq μ μ2 := d2.up (by decide) (by decide)
  refine ⟨_, m_burdenFromHere (σ := σ) (τ := σ) (T := T) B (q2.e E) a2 rfl hn hj, fun r μ3 q => ?_⟩
  obtain ⟨hr, μ4, d4, rfl⟩ := q
  exact ⟨_, ⟨hr, μ4, dif.tr q2 d4.q, rfl⟩, rfl⟩
theorem m_isSoonOut (S : sok σ) : Con g mX12_isSoonOut (d + 3) [.ref m, .int i, .int n] (mw h m (mS μ σ)) (wPi h m (fun r ν => r = bI (decide (¬ soonC σ i n = 0)) ∧ ν = mI (mS μ σ) 4 (soonC σ i n))) := by
  unfold soonC
  refine con_of km_X12_isSoonOut.1.2.2.2.2 (Nat.le_of_ble_eq_true rfl) rfl (wX12_isSoonOut_0 ⟨_, m_isHouse (σ := σ), fun c => ?_, fun c => ⟨_, m_isSoon, fun c2 => ?_, fun c2 => ?_⟩⟩)
  · rw [if_pos (has0 S c)]
    exact wX12_isSoonOut_26 ⟨fun _ => ⟨_, ⟨rfl, rfl⟩, rfl⟩, fun q => absurd (thr_p (by decide)) q⟩
  · rw [if_neg (by rw [has1 S c]; decide), if_pos (bI0 c2)]
    exact wX12_isSoonOut_26 ⟨fun _ => ⟨_, ⟨rfl, rfl⟩, rfl⟩, fun q => absurd (thr_p (by decide)) q⟩
  · rw [if_neg (by rw [has1 S c]; decide), if_neg (by rw [bI1 c2]; decide)]
    exact wX12_isSoonOut_26 ⟨fun q => absurd q thr_n, fun _ => ⟨_, ⟨rfl, rfl⟩, rfl⟩⟩
theorem has_g (S : sok σ) (hh : sHas σ i = true) : sGone σ i = decide (σ.2 3 (ix i) = 1) := by
  unfold sGone; rw [hh]; rfl
theorem m_isLivingOut (S : sok σ) : Con g mX12_isLivingOut (d + 3) [.ref m, .int i, .int n] (mw h m (mS μ σ)) (wPi h m (fun r ν => r = bI (decide (¬ livC σ i n = 0)) ∧ ν = mI (mS μ σ) 4 (livC σ i n))) := by
  unfold livC
  refine con_of km_X12_isLivingOut.1.2.2.2.2 (Nat.le_of_ble_eq_true rfl) rfl (wX12_isLivingOut_0 ⟨_, m_isHouse (σ := σ), fun c => ?_, fun c => ⟨_, m_isSoon, fun c2 => ?_, fun c2 => ?_⟩⟩)
  · rw [if_pos (has0 S c)]
    exact wX12_isLivingOut_38 ⟨fun _ => ⟨_, ⟨rfl, rfl⟩, rfl⟩, fun q => absurd (thr_p (by decide)) q⟩
  · rw [if_neg (by rw [has1 S c]; decide), if_pos (bI0 c2)]
    exact wX12_isLivingOut_38 ⟨fun _ => ⟨_, ⟨rfl, rfl⟩, rfl⟩, fun q => absurd (thr_p (by decide)) q⟩
  · have hh := has1 S c
    obtain ⟨h1, ei, h7⟩ := sHas_ix S hh
    rw [if_neg (by rw [hh]; decide), if_neg (by rw [bI1 c2]; decide), has_g S hh]
    have C := m_isGoneS (g := g) (d := d + 1) (h := h) (m := m) (μ := μ) (σ := σ) (j := ix i) (by omega)
    rw [← ei] at C
    refine ⟨_, C, fun c3 => ?_, fun c3 => ?_⟩
    · rw [if_neg (by rw [bI0 c3]; decide)]
      exact wX12_isLivingOut_38 ⟨fun q => absurd q thr_n, fun _ => ⟨_, ⟨rfl, rfl⟩, rfl⟩⟩
    · rw [if_pos (bI1 c3)]
      exact wX12_isLivingOut_38 ⟨fun _ => ⟨_, ⟨rfl, rfl⟩, rfl⟩, fun q => absurd (thr_p (by decide)) q⟩
end MSO
