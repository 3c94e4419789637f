/-! The reference: swaps ahead -/
abbrev pG1 (x : Nat) : Int32 := nI (x / 10 % 10)
abbrev pG2 (x : Nat) : Int32 := nI (x % 10)
def prOk (σ : St) (x : Nat) : Bool := decide (x / 10 % 10 < x % 10 ∧ sWhySwap σ (pG1 x) (pG2 x) = 0)
def exA (σ : St) (x : Nat) : St := sExch σ (pG1 x) (pG2 x)
def lsV (T : Td) (τ : St) (n : Nat) : Int32 := nI (lstN T τ n)
def bsL (T : Td) (σ : St) (n : Nat) : Nat → Nat → Int32 → Int32 → Int32
  | 0, _, b, _ => b
  | c + 1, x, b, l => if prOk σ x = true ∧ lsV T (exA σ x) n < l then bsL T σ n c (x + 1) (nI x) (lsV T (exA σ x) n) else bsL T σ n c (x + 1) b l
def hBestSwap (T : Td) (σ : St) (n : Int32) : An Int32 := if inN n 1 20 = false then .inl iae else .inr (bsL T σ (ix n) 100 0 (-1) (lsV T σ (ix n)))
def burA (T : Td) (σ : St) (i k n : Nat) : Int64 := burN T T.1.2.2 (if i = k then σ else sExch σ (nI i) (nI k)) n k
def wsP (T : Td) (σ : St) (n x : Nat) : Bool := prOk σ x && (!goneB σ (x / 10 % 10) && (!goneB σ (x % 10) && (decide (burA T σ (x / 10 % 10) (x % 10) n < burN T T.1.2.2 σ n (x / 10 % 10)) && decide (burA T σ (x % 10) (x / 10 % 10) n < burN T T.1.2.2 σ n (x % 10)))))
def wsL (T : Td) (σ : St) (n : Nat) : Nat → Nat → Int32
  | 0, _ => -1
  | c + 1, x => if wsP T σ n x = true then nI x else wsL T σ n c (x + 1)
def hWouldSwap (T : Td) (σ : St) (n : Int32) : An Int32 := if inN n 1 20 = false then .inl iae else .inr (wsL T σ (ix n) 100 0)
def bhM (T : Td) (σ : St) (n i : Nat) : Nat → Nat → Int32 → Int64 → Int32
  | 0, _, b, _ => b
  | c + 1, j, b, l => if burA T σ i j n < l then bhM T σ n i c (j + 1) (nI j) (burA T σ i j n) else bhM T σ n i c (j + 1) b l
def hBestHouse (T : Td) (σ : St) (i n : Int32) : An Int32 := if sHas σ i = false then .inl nse else if inN n 1 20 = false then .inl iae else .inr (bhM T σ (ix n) (ix i) (sN σ - 1) 1 0 (burA T σ (ix i) 0 (ix n)))
section MSW
variable {g : jG} {d : Nat} {h : jH} {m : Nat} {μ ν : MW} {i k n w : Int32} {T : Td} {σ τ : St} {I A : List Nat} {N : Nat}
theorem nI_lti {a b : Nat} (ha : a < 2 ^ 31) (hb : b < 2 ^ 31) : nI a < nI b ↔ a < b := by
  rw [Int32.lt_iff_toInt_lt, nI_toInt ha, nI_toInt hb]; omega
/-- what is lost with other households in the houses -/
theorem m_lostOf (B : stB τ) (E : encT (kn μ) T) (Y : asd μ σ) (e0 : τ.1 0 = σ.1 0) (hN : N < 1000000) : Con g mX12_lostFromHere (d + 8) [.ref m, .int (nI N)] (mw h m (mS μ τ)) (wPi h m (fun r ν => r = lsV T τ N ∧ ∃ μ', dr μ μ' ∧ ν = mS μ' σ)) :=
  (m_lostFromHere B E Y e0 hN).pi (fun r h' q => by
    obtain ⟨ν, ⟨q1, μ', q2, -, q3⟩, q4⟩ := q
    exact ⟨ν, ⟨q1, μ', q2, q3⟩, q4⟩) (fun E h' f => f)
theorem pr_sw {x : Nat} (S : sok σ) (c : sWhySwap σ (pG1 x) (pG2 x) = 0) : Con g mX12_swaps (d + 1) [.ref m, .int (pG1 x), .int (pG2 x)] (mw h m (mS μ σ)) (wPv h m (fun ν => ν = mS μ (exA σ x))) := by
  obtain ⟨hi, hk, -⟩ := swp_0 c
  obtain ⟨i1, i2, h7⟩ := sHas_ix S hi
  obtain ⟨k1, k2, -⟩ := sHas_ix S hk
  have C := m_swaps (g := g) (d := d) (h := h) (m := m) (μ := μ) (σ := σ) (i := ix (pG1 x)) (k := ix (pG2 x)) (by omega) (by omega)
  rw [← i2, ← k2, exN_ex hi hk] at C
  exact C
theorem m_bestSwap (B : stB σ) (E : encT (kn μ) T) : Con g mX12_bestSwap (d + 10) [.ref m, .int n] (mw h m (mS μ σ)) (wPi h m (mAns μ σ [iae] (hBestSwap T σ n))) := by
  have S := B.1
  unfold hBestSwap
  refine con_of km_X12_bestSwap.1.2.2.2.2 (Nat.le_of_ble_eq_true rfl) rfl (wX12_bestSwap_0 ⟨_, m_isSoon (d := d + 7), fun c => ?_, fun c => ?_⟩)
  · rw [if_pos (bI0 c)]
    exact ⟨_, m_fails, fun r ν q => ⟨_, fin_f q, rfl⟩⟩
  · have hn := bI1 c
    obtain ⟨en, -, hn2⟩ := inN_nI (a := 1) (b := 20) (by decide) (by decide) hn
    rw [if_neg (by rw [hn]; decide)]
    generalize hM : ix n = M at en hn2 ⊢
    subst en
    have loop : ∀ c x b l μ', x + c = 100 → ms μ μ' → μ'.1 4 = 0 → J g mX12_bestSwap (d + 10) (mw h m (mS μ σ)) (wPi h m (mAns μ σ [iae] (.inr (bsL T σ M c x b l)))) 29 [(0, .ref m), (1, .int (nI M)), (2, .int b), (3, .int l), (4, .int (nI x))] [] (mw h m (mS μ' σ)) := by
      intro c
      induction c with
      | zero =>
        intro x b l μ' hx q q4
        exact wX12_bestSwap_29 ⟨fun f => absurd f (nI_nlt (b := 100) (by omega) (by omega)), fun _ => ⟨_, fin_0 q q4 rfl, rfl⟩⟩
      | succ c ih =>
        intro x b l μ' hx q q4
        obtain ⟨-, -, -, -, w4, w5, -⟩ := tol_w x (by omega)
        have e0 : bsL T σ M (c + 1) x b l = if prOk σ x = true ∧ lsV T (exA σ x) M < l then bsL T σ M c (x + 1) (nI x) (lsV T (exA σ x) M) else bsL T σ M c (x + 1) b l := rfl
        refine wX12_bestSwap_29 ⟨fun _ => ?_, fun f => absurd (nI_lt (b := 100) (by omega) (by omega)) f⟩
        rw [w4, w5 (by omega), nI_1]
        refine ⟨fun f1 => ⟨_, m_whyTwo (σ := σ), fun f2 => ?_, fun f2 => ?_⟩, fun f1 => ?_⟩
        · rw [lWhyTwo_n S] at f2
          have f1 := (nI_lti (by omega) (by omega)).mp f1
          have hp : prOk σ x = true := decide_eq_true ⟨f1, f2⟩
          refine ⟨_, m_putsAside (d := d + 8) (σ := σ), fun μ1 q1 => ?_⟩
          obtain ⟨μ2, d2, a2, rfl⟩ := q1
          have q2 : dq μ' μ2 := d2.up (by decide) (by decide)
          refine ⟨_, pr_sw (d := d + 8) S f2, fun μ3 q3 => ?_⟩
          subst q3
          refine ⟨_, m_lostOf (d := d + 1) (σ := σ) (τ := exA σ x) (T := T) (stB_exch B) (q2.e (by rw [q.kk]; exact E)) a2 (by unfold exA; rw [sExch_1]) (by omega), fun r μ4 q4' => ?_⟩
          obtain ⟨rfl, μ5, d5, rfl⟩ := q4'
          have q6 := q.tr (q2.s.tr d5.q.s)
          have q7 : μ5.1 4 = 0 := (d5.1 4 (by decide)).trans ((d2.1 4 (by decide)).trans q4)
          refine ⟨fun f3 => ?_, fun f3 => ?_⟩
          · rw [e0, if_pos ⟨hp, f3⟩]
            exact ih (x + 1) _ _ μ5 (by omega) q6 q7
          · rw [e0, if_neg (fun f => f3 f.2)]
            exact ih (x + 1) _ _ μ5 (by omega) q6 q7
        · rw [lWhyTwo_n S] at f2
          rw [e0, if_neg (fun f => f2 (of_decide_eq_true f.1).2)]
          exact ih (x + 1) _ _ μ' (by omega) q q4
        · rw [e0, if_neg (fun f => f1 ((nI_lti (by omega) (by omega)).mpr (of_decide_eq_true f.1).1))]
          exact ih (x + 1) _ _ μ' (by omega) q q4
    refine ⟨_, m_lostNow (d := d) (μ := mI μ 4 0) (σ := σ) (T := T) B E (by omega), fun r μ1 q1 => ?_⟩
    obtain ⟨rfl, μ2, q2, -, rfl⟩ := q1
    exact loop 100 0 (-1) _ μ2 rfl (ms_q q2).1 (ms_q q2).2
theorem m_burdenAt {i k : Nat} (B : stB σ) (E : encT (kn μ) T) (hi : i < sN σ) (hk : k < sN σ) (hN : N < 1000000) : Con g mX12_burdenAt (d + 8) [.ref m, .int (nI i), .int (nI k), .int (nI N)] (mw h m (mS μ σ)) (wPl h m (fun r ν => r = burA T σ i k N ∧ ∃ μ', dq μ μ' ∧ ν = mS μ' σ)) := by
  have S := B.1
  have h7 := S.2
  refine con_of km_X12_burdenAt.1.2.2.2.2 (Nat.le_of_ble_eq_true rfl) rfl (wX12_burdenAt_0 ⟨_, m_putsAside (d := d + 6) (σ := σ), fun μ1 q1 => ?_⟩)
  obtain ⟨μ2, d2, a2, rfl⟩ := q1
  have q2 : dq μ μ2 := d2.up (by decide) (by decide)
  have last : ∀ {hs} τ, stB τ → τ.1 0 = σ.1 0 → burA T σ i k N = burN T T.1.2.2 τ N k → J g mX12_burdenAt (d + 8) hs (wPl h m (fun r ν => r = burA T σ i k N ∧ ∃ μ', dq μ μ' ∧ ν = mS μ' σ)) 15 [(0, .ref m), (2, .int (nI k)), (3, .int (nI N))] [] (mw h m (mS μ2 τ)) := by
    intro hs τ Bt e0 e
    have eN : sN τ = sN σ := by unfold sN; rw [e0]
    refine wX12_burdenAt_15 ⟨_, m_burdenFromHere (d := d) (σ := σ) (τ := τ) (T := T) Bt (q2.e E) a2 e0 hN (by omega), fun r μ3 q3 => ?_⟩
    obtain ⟨hr, μ4, d4, rfl⟩ := q3
    exact ⟨_, ⟨hr.trans e.symm, μ4, dif.tr q2 d4.q, rfl⟩, rfl⟩
  refine ⟨fun f => ?_, fun f => ⟨_, m_swaps (d := d + 6) (σ := σ) (by omega) (by omega), fun μ3 q3 => ?_⟩⟩
  · have f : i = k := by
      have := congrArg Int32.toInt f
      rw [nI_toInt (by omega), nI_toInt (by omega)] at this
      omega
    exact last σ B rfl (by unfold burA; rw [if_pos f])
  · subst q3
    have hh1 := hs_nI S hi
    have hh2 := hs_nI S hk
    have ee := exN_ex (σ := σ) hh1 hh2
    rw [ix_nI (by omega), ix_nI (by omega)] at ee
    rw [ee]
    exact last _ (stB_exch B) (by rw [sExch_1]) (by unfold burA; rw [if_neg (fun c => f (by rw [c]))])
theorem gone_bI {j : Nat} (c : bI (decide (σ.2 3 j = 1)) = 0) : goneB σ j = false := bI0 c
theorem m_wouldSwap (B : stB σ) (E : encT (kn μ) T) : Con g mX12_wouldSwap (d + 10) [.ref m, .int n] (mw h m (mS μ σ)) (wPi h m (mAns μ σ [iae] (hWouldSwap T σ n))) := by
  have S := B.1
  have h7 := S.2
  unfold hWouldSwap
  refine con_of km_X12_wouldSwap.1.2.2.2.2 (Nat.le_of_ble_eq_true rfl) rfl (wX12_wouldSwap_0 ⟨_, m_isSoon (d := d + 7), fun c => ?_, fun c => ?_⟩)
  · rw [if_pos (bI0 c)]
    exact ⟨_, m_fails, fun r ν q => ⟨_, fin_f q, rfl⟩⟩
  · have hn := bI1 c
    obtain ⟨en, -, hn2⟩ := inN_nI (a := 1) (b := 20) (by decide) (by decide) hn
    rw [if_neg (by rw [hn]; decide), mS_I]
    generalize hM : ix n = M at en hn2 ⊢
    subst en
    have loop : ∀ c x μ', x + c = 100 → ms μ μ' → μ'.1 4 = 0 → J g mX12_wouldSwap (d + 10) (mw h m (mS μ σ)) (wPi h m (mAns μ σ [iae] (.inr (wsL T σ M c x)))) 20 [(0, .ref m), (1, .int (nI M)), (2, .int (nI x))] [] (mw h m (mS μ' σ)) := by
      intro c
      induction c with
      | zero =>
        intro x μ' hx q q4
        exact wX12_wouldSwap_20 ⟨fun f => absurd f (nI_nlt (b := 100) (by omega) (by omega)), fun _ => ⟨_, fin_0 q q4 rfl, rfl⟩⟩
      | succ c ih =>
        intro x μ' hx q q4
        obtain ⟨-, -, -, -, w4, w5, -⟩ := tol_w x (by omega)
        have yes : wsP T σ M x = true → wsL T σ M (c + 1) x = nI x := fun f => if_pos f
        have no : ¬ wsP T σ M x = true → wsL T σ M (c + 1) x = wsL T σ M c (x + 1) := fun f => if_neg f
        refine wX12_wouldSwap_20 ⟨fun _ => ?_, fun f => absurd (nI_lt (b := 100) (by omega) (by omega)) f⟩
        rw [w4, w5 (by omega), nI_1]
        refine ⟨fun f1 => ⟨_, m_whyTwo (σ := σ), fun f2 => ?_, fun f2 => ?_⟩, fun f1 => ?_⟩
        · rw [lWhyTwo_n S] at f2
          have f1 := (nI_lti (by omega) (by omega)).mp f1
          have hp : prOk σ x = true := decide_eq_true ⟨f1, f2⟩
          obtain ⟨hi, hk, -⟩ := swp_0 f2
          obtain ⟨i1, -, -⟩ := sHas_ix S hi
          obtain ⟨k1, -, -⟩ := sHas_ix S hk
          rw [ix_nI (by omega)] at i1 k1
          refine ⟨_, m_isGoneS (d := d + 8) (σ := σ) (by omega), fun f3 => ⟨_, m_isGoneS (d := d + 8) (σ := σ) (by omega), fun f4 => ?_, fun f4 => ?_⟩, fun f3 => ?_⟩
          · have g3 : goneB σ (x / 10 % 10) = false := bI0 f3
            have g4 : goneB σ (x % 10) = false := bI0 f4
            refine ⟨_, m_burdenAt (d := d + 1) (μ := μ') (σ := σ) (T := T) B (by rw [q.kk]; exact E) i1 k1 (by omega), fun r1 μ1 q1 => ?_⟩
            obtain ⟨rfl, μ2, q2, rfl⟩ := q1
            refine ⟨_, m_burdenNow (d := d + 1) (μ := μ2) (σ := σ) (T := T) B (q2.e (by rw [q.kk]; exact E)) (by omega) i1, fun r3 μ3 q3 => ?_⟩
            obtain ⟨rfl, μ4, q4', rfl⟩ := q3
            have s4 := q2.tr q4'
            refine ⟨fun f5 => ?_, fun f5 => ?_⟩
            · refine ⟨_, m_burdenAt (d := d + 1) (μ := μ4) (σ := σ) (T := T) B (dq.e s4 (by rw [q.kk]; exact E)) k1 i1 (by omega), fun r5 μ5 q5 => ?_⟩
              obtain ⟨rfl, μ6, q6, rfl⟩ := q5
              have s6 := dif.tr s4 q6
              refine ⟨_, m_burdenNow (d := d + 1) (μ := μ6) (σ := σ) (T := T) B (dq.e s6 (by rw [q.kk]; exact E)) (by omega) k1, fun r7 μ7 q7 => ?_⟩
              obtain ⟨rfl, μ8, q8, rfl⟩ := q7
              have s8 := dif.tr s6 q8
              have q9 := q.tr (dq.s s8)
              have q10 : μ8.1 4 = 0 := (s8.1 4 (by decide)).trans q4
              refine ⟨fun f6 => ?_, fun f6 => ?_⟩
              · rw [yes (by unfold wsP; rw [hp, g3, g4, decide_eq_true f5, decide_eq_true f6]; rfl)]
                exact ⟨_, fin_0 q9 q10 rfl, rfl⟩
              · rw [no (by unfold wsP; rw [hp, g3, g4, decide_eq_true f5, decide_eq_false f6]; decide)]
                exact ih (x + 1) μ8 (by omega) q9 q10
            · rw [no (by unfold wsP; rw [hp, g3, g4, decide_eq_false f5]; exact (by decide : ¬ false = true))]
              exact ih (x + 1) μ4 (by omega) (q.tr (dq.s s4)) ((s4.1 4 (by decide)).trans q4)
          · have g4 : goneB σ (x % 10) = true := bI1 f4
            have g3 : goneB σ (x / 10 % 10) = false := bI0 f3
            rw [no (by unfold wsP; rw [hp, g3, g4]; exact (by decide : ¬ false = true))]
            exact ih (x + 1) μ' (by omega) q q4
          · have g3 : goneB σ (x / 10 % 10) = true := bI1 f3
            rw [no (by unfold wsP; rw [hp, g3]; exact (by decide : ¬ false = true))]
            exact ih (x + 1) μ' (by omega) q q4
        · rw [lWhyTwo_n S] at f2
          have hp : prOk σ x = false := decide_eq_false (fun f => f2 f.2)
          rw [no (by unfold wsP; rw [hp]; exact (by decide : ¬ false = true))]
          exact ih (x + 1) μ' (by omega) q q4
        · have hp : prOk σ x = false := decide_eq_false (fun f => f1 ((nI_lti (by omega) (by omega)).mpr f.1))
          rw [no (by unfold wsP; rw [hp]; exact (by decide : ¬ false = true))]
          exact ih (x + 1) μ' (by omega) q q4
    exact loop 100 0 _ rfl (ms_4 0) (mI_at 4 0)
/-- an answer of what is soon was refused -/
theorem fin_soon {α : Type} {r : α} {X : An α} (c : ¬ soonC σ i n = 0) (e1 : sHas σ i = false → X = .inl nse) (e2 : ¬ sHas σ i = false → inN n 1 20 = false → X = .inl iae) : mAns μ σ [nse, iae] X r (mI (mS μ σ) 4 (soonC σ i n)) := by
  unfold soonC at c ⊢
  by_cases h1 : sHas σ i = false
  · rw [if_pos h1, e1 h1]
    exact fin_1 cod_i.symm
  · rw [if_neg h1] at c ⊢
    by_cases h2 : inN n 1 20 = false
    · rw [if_pos h2, e2 h1 h2]
      exact fin_1 cod_2.symm
    · rw [if_neg h2] at c
      exact absurd rfl c
theorem m_bestHouse (B : stB σ) (E : encT (kn μ) T) : Con g mX12_bestHouse (d + 10) [.ref m, .int i, .int n] (mw h m (mS μ σ)) (wPi h m (mAns μ σ [nse, iae] (hBestHouse T σ i n))) := by
  have S := B.1
  have h7 := S.2
  refine con_of km_X12_bestHouse.1.2.2.2.2 (Nat.le_of_ble_eq_true rfl) rfl (wX12_bestHouse_0 ⟨_, m_isSoonOut (d := d + 6) (σ := σ) B.1, fun r μ1 q => ?_⟩)
  obtain ⟨hr, rfl⟩ := q
  subst hr
  refine ⟨fun c => ?_, fun c => ?_⟩
  · have c0 := soon_1 c
    obtain ⟨hh, hn⟩ := soon_2 c0
    obtain ⟨h1, ei, -⟩ := sHas_ix S hh
    obtain ⟨en, -, hn2⟩ := inN_nI (a := 1) (b := 20) (by decide) (by decide) hn
    unfold hBestHouse
    rw [if_neg (by rw [hh]; decide), if_neg (by rw [hn]; decide), c0, mS_I]
    generalize hM : ix n = M at en hn2 ⊢
    generalize hJ : ix i = j at ei h1 ⊢
    subst en
    subst ei
    have loop : ∀ c x b l μ', x + c = sN σ → ms μ μ' → μ'.1 4 = 0 → J g mX12_bestHouse (d + 10) (mw h m (mS μ σ)) (wPi h m (mAns μ σ [nse, iae] (.inr (bhM T σ M j c x b l)))) 25 [(0, .ref m), (1, .int (nI j)), (2, .int (nI M)), (3, .int b), (4, .long l), (6, .int (nI x))] [] (mw h m (mS μ' σ)) := by
      intro c
      induction c with
      | zero =>
        intro x b l μ' hx q q4
        refine wX12_bestHouse_25 ⟨_, m_housesS (σ := σ), fun f => ?_, fun _ => ⟨_, fin_0 q q4 rfl, rfl⟩⟩
        rw [S.1] at f
        exact absurd f (nI_nlt (by omega) (by omega))
      | succ c ih =>
        intro x b l μ' hx q q4
        refine wX12_bestHouse_25 ⟨_, m_housesS (σ := σ), fun _ => ⟨_, m_burdenAt (d := d + 1) (μ := μ') (σ := σ) (T := T) B (by rw [q.kk]; exact E) h1 (by omega) (by omega), fun r1 μ1 q1 => ?_⟩, fun f => ?_⟩
        · obtain ⟨rfl, μ2, q2, rfl⟩ := q1
          rw [nI_1]
          have q9 := q.tr q2.s
          have q10 : μ2.1 4 = 0 := (q2.1 4 (by decide)).trans q4
          refine ⟨fun f => ?_, fun f => ?_⟩
          · rw [show bhM T σ M j (c + 1) x b l = bhM T σ M j c (x + 1) (nI x) (burA T σ j x M) from if_pos f]
            exact ih (x + 1) _ _ μ2 (by omega) q9 q10
          · rw [show bhM T σ M j (c + 1) x b l = bhM T σ M j c (x + 1) b l from if_neg f]
            exact ih (x + 1) _ _ μ2 (by omega) q9 q10
        · rw [S.1] at f
          exact absurd (nI_lt (by omega) (by omega)) f
    refine ⟨_, m_burdenAt (d := d + 1) (μ := mI μ 4 0) (σ := σ) (T := T) (k := 0) B E h1 (by omega) (by omega), fun r1 μ1 q1 => ?_⟩
    obtain ⟨rfl, μ2, q2, rfl⟩ := q1
    exact loop (sN σ - 1) 1 0 _ μ2 (by omega) (ms_q q2).1 (ms_q q2).2
  · have c0 := of_decide_eq_true (bI1 c)
    refine ⟨_, fin_soon c0 (fun f => if_pos f) (fun f f2 => (if_neg f).trans (if_pos f2)), rfl⟩
end MSW
