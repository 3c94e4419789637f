/-! The reference goes through the orders -/
section MOS
variable {g : jG} {d : Nat} {h : jH} {m : Nat} {μ ν : MW} {i k n w : Int32} {T : Td} {σ τ : St} {I A : List Nat} {N : Nat}
theorem gq.kk {a b : MW} (x : gq a b) : kn b = kn a := dif.kk x (by decide)
theorem gq.asd {a b : MW} (x : gq a b) (y : asd a σ) : asd b σ := dif.asd x (by decide) y
theorem m_goesOrders (hN : N < 1000000) : ∀ r (l : List Nat) (a : Go) (μ : MW), stB σ → encT (kn μ) T → asd μ σ → l.length + r = sN σ → (∀ x, x ∈ l → x < sN σ) → ordA μ l → goI μ a → Con g mX12_goesOrders (d + r + 9) [.ref m, .int (nI l.length), .int (nI (mkl l)), .int (nI N)] (mw h m (mS μ σ)) (wPv h m (fun ν => ∃ μ', gq μ μ' ∧ ordA μ' l ∧ goI μ' (goM (goF (lostO T σ N) (sN σ)) (sN σ) r l a) ∧ ν = mS μ' σ)) := by
  intro r
  induction r with
  | zero =>
    intro l a μ B E Y hl hx O a0
    have e : l.length = sN σ := by omega
    have C := gol_leaf (g := g) (d := d) (h := h) (m := m) (hs := h) (k := nI (mkl l)) B E Y hN e hx O a0
    rw [← e] at C ⊢
    exact C
  | succ r ih =>
    intro l a μ B E Y hl hx O a0
    have S := B.1
    have h7 := S.2
    have loop : ∀ c x μ2 a2, x + c = sN σ → gq μ μ2 → ordA μ2 l → goI μ2 a2 → J g mX12_goesOrders (d + (r + 1) + 9) (mw h m (mS μ σ)) (wPv h m (fun ν => ∃ μ', gq μ μ' ∧ ordA μ' l ∧ goI μ' (goR (fun x a => if l.contains x = true then a else goM (goF (lostO T σ N) (sN σ)) (sN σ) r (l ++ [x]) a) c x a2) ∧ ν = mS μ' σ)) 104 [(0, .ref m), (1, .int (nI l.length)), (2, .int (nI (mkl l))), (3, .int (nI N)), (4, .int (nI x))] [] (mw h m (mS μ2 σ)) := by
      intro c
      induction c with
      | zero =>
        intro x μ2 a2 hc q O2 a3
        have : x = sN σ := by omega
        subst this
        refine wX12_goesOrders_104 ⟨_, m_housesS (d := d + r + 8) (σ := σ), fun f => ?_, fun _ => ⟨_, ⟨μ2, q, O2, a3, rfl⟩, rfl⟩⟩
        rw [S.1] at f
        exact absurd f (nI_nlt (by omega) (by omega))
      | succ c ihc =>
        intro x μ2 a2 hc q O2 a3
        refine wX12_goesOrders_104 ⟨_, m_housesS (d := d + r + 8) (σ := σ), fun _ => ⟨_, m_has (d := d + r + 8) (s := mkl l) (j := x) (bset_nat _ (by decide)) (by omega), fun f => ?_, fun f => ?_⟩, fun f => ?_⟩
        · have f := bI0 f
          rw [mkl_bit (by omega)] at f
          have hO : ordA (mA μ2 11 (upd (μ2.2.1 11) l.length (nI x))) (l ++ [x]) := fun i hi => by
            rw [List.length_append, show [x].length = 1 from rfl] at hi
            show upd (μ2.2.1 11) l.length (nI x) i = _
            unfold upd
            by_cases c5 : i = l.length
            · rw [if_pos c5, c5, lAt_e]
            · rw [if_neg c5, lAt_l (by omega), O2 i (by omega)]
          refine ⟨vp_in_nI (by omega) (by decide), ?_⟩
          rw [show (mS μ2 σ).2.1 11 = μ2.2.1 11 from rfl, ix_nI (by omega), mS_A (by decide), nI_1, nI_1, or_bit (mkl l) (bset_nat _ (by decide)) x (by omega), mkl_add (by omega)]
          have q5 : gq μ (mA μ2 11 (upd (μ2.2.1 11) l.length (nI x))) := q.tr (dif_A (by decide) _)
          have C := ih (l ++ [x]) a2 (mA μ2 11 (upd (μ2.2.1 11) l.length (nI x))) B (by rw [q5.kk]; exact E) (q5.asd Y) (by rw [List.length_append, show [x].length = 1 from rfl]; omega) (fun y hy => by
            rcases List.mem_append.mp hy with hy | hy
            · exact hx y hy
            · rw [List.mem_singleton.mp hy]; omega) hO a3
          rw [List.length_append, show [x].length = 1 from rfl] at C
          refine ⟨_, C, fun μ6 q6 => ?_⟩
          obtain ⟨μ7, q7, O7, a7, rfl⟩ := q6
          have e : goR (fun x a => if l.contains x = true then a else goM (goF (lostO T σ N) (sN σ)) (sN σ) r (l ++ [x]) a) (c + 1) x a2 = goR (fun x a => if l.contains x = true then a else goM (goF (lostO T σ N) (sN σ)) (sN σ) r (l ++ [x]) a) c (x + 1) (goM (goF (lostO T σ N) (sN σ)) (sN σ) r (l ++ [x]) a2) := by
            show goR _ c (x + 1) (if l.contains x = true then _ else _) = _
            rw [if_neg (by rw [f]; decide)]
          rw [e]
          refine ihc (x + 1) μ7 _ (by omega) (q5.tr q7) (fun i hi => ?_) a7
          rw [O7 i (by rw [List.length_append]; omega), lAt_l hi]
        · have f := bI1 f
          rw [mkl_bit (by omega)] at f
          rw [nI_1]
          have e : goR (fun x a => if l.contains x = true then a else goM (goF (lostO T σ N) (sN σ)) (sN σ) r (l ++ [x]) a) (c + 1) x a2 = goR (fun x a => if l.contains x = true then a else goM (goF (lostO T σ N) (sN σ)) (sN σ) r (l ++ [x]) a) c (x + 1) a2 := by
            show goR _ c (x + 1) (if l.contains x = true then _ else _) = _
            rw [if_pos f]
          rw [e]
          exact ihc (x + 1) μ2 a2 (by omega) q O2 a3
        · rw [S.1] at f
          exact absurd (nI_lt (by omega) (by omega)) f
    refine con_of km_X12_goesOrders.1.2.2.2.2 (Nat.le_of_ble_eq_true rfl) rfl (wX12_goesOrders_0 ⟨_, m_housesS (d := d + r + 8) (σ := σ), fun f => ?_, fun _ => ?_⟩)
    · rw [S.1] at f
      have := congrArg Int32.toInt f
      rw [nI_toInt (by omega), nI_toInt (by omega)] at this
      omega
    · exact loop (sN σ) 0 μ a (by omega) (dif.rf μ) O a0
theorem m_laysOrder (B : stB σ) (E : encT (kn μ) T) (hN : N < 1000000) : Con g mX12_laysOrder (d + 17) [.ref m, .int (nI N)] (mw h m (mS μ σ)) (wPv h m (fun ν => ∃ μ', ms μ μ' ∧ μ'.1 4 = μ.1 4 ∧ goI μ' (hGo T σ N (μ.2.1 12)) ∧ ν = mS μ' σ)) := by
  have h7 := B.1.2
  refine con_of km_X12_laysOrder.1.2.2.2.2 (Nat.le_of_ble_eq_true rfl) rfl (wX12_laysOrder_0 ⟨_, m_putsAside (d := d + 15) (σ := σ), fun μ1 q => ?_⟩)
  obtain ⟨μ2, d2, a2, rfl⟩ := q
  rw [mS_I, mS_I]
  have q3 : dif [30, 31] [10] μ (mI (mI μ2 30 536870912) 31 0) := ((d2.up (by decide) (by decide)).tr (dif_I (by decide) _)).tr (dif_I (by decide) _)
  have C := m_goesOrders (g := g) (d := d + (7 - sN σ)) (h := h) (m := m) (T := T) hN (sN σ) [] (536870912, 0, μ.2.1 12) (mI (mI μ2 30 536870912) 31 0) B (by rw [q3.kk (by decide)]; exact E) a2 (Nat.zero_add _) (fun x hx => absurd hx (List.not_mem_nil)) (fun i hi => absurd hi (Nat.not_lt_zero i)) ⟨rfl, mI_at 31 0, d2.2.2 12 (by decide)⟩
  rw [show d + (7 - sN σ) + sN σ + 9 = d + 16 by omega] at C
  refine ⟨_, C, fun μ5 q5 => ?_⟩
  obtain ⟨μ6, q6, -, a6, rfl⟩ := q5
  exact ⟨_, ⟨μ6, (q3.up (by decide) (by decide)).tr (q6.up (by decide) (by decide)), (q6.1 4 (by decide)).trans (q3.1 4 (by decide)), a6, rfl⟩, rfl⟩
theorem m_orders (B : stB σ) (E : encT (kn μ) T) : Con g mX12_orders (d + 18) [.ref m, .int n] (mw h m (mS μ σ)) (wPi h m (mAns μ σ [iae] (hOrders T σ (μ.2.1 12) n))) := by
  unfold hOrders
  refine con_of km_X12_orders.1.2.2.2.2 (Nat.le_of_ble_eq_true rfl) rfl (wX12_orders_0 ⟨_, m_isSoon (d := d + 15), fun c => ?_, fun c => ?_⟩)
  · rw [if_pos (bI0 c)]
    exact ⟨_, m_fails, fun r ν q => ⟨_, fin_f q, rfl⟩⟩
  · have hn := bI1 c
    obtain ⟨en, -, hn2⟩ := inN_nI (a := 1) (b := 20) (by decide) (by decide) hn
    rw [if_neg (by rw [hn]; decide)]
    have C := m_laysOrder (g := g) (d := d) (h := h) (m := m) (μ := mI μ 4 0) (σ := σ) (T := T) B E (N := ix n) (by omega)
    rw [← en] at C
    refine ⟨_, C, fun μ1 q => ?_⟩
    obtain ⟨μ2, q1, q4, q2, rfl⟩ := q
    exact ⟨_, fin_0 ((ms_4 0).tr q1) (q4.trans (mI_at 4 0)) q2.2.1, rfl⟩
theorem m_order (B : stB σ) (E : encT (kn μ) T) : Con g mX12_order (d + 18) [.ref m, .int n, .int w] (mw h m (mS μ σ)) (wPi h m (mAns μ σ [iae] (hOrder T σ (μ.2.1 12) n w))) := by
  have h7 := B.1.2
  unfold hOrder
  have bad : ∀ {hs} {A : An Int32}, A = .inl iae → J g mX12_order (d + 18) hs (wPi h m (mAns μ σ [iae] A)) 30 [(0, .ref m)] [] (mw h m (mI (mS μ σ) 4 0)) := fun e => by
    subst e
    exact wX12_order_30 ⟨_, m_fails (d := d + 16), fun r ν q => ⟨_, fin_f q, rfl⟩⟩
  have main : ∀ {hs} {A : An Int32}, inN n 1 20 = true → (w = 0 ∨ inN w 10 16 = true) → (w = 0 → A = .inr (hGo T σ (ix n) (μ.2.1 12)).1) → (¬ w = 0 → A = if w - 10 < σ.1 0 then .inr ((hGo T σ (ix n) (μ.2.1 12)).2.2 (ix (w - 10))) else .inr (-1)) → J g mX12_order (d + 18) hs (wPi h m (mAns μ σ [iae] A)) 36 [(0, .ref m), (1, .int n), (2, .int w)] [] (mw h m (mI (mS μ σ) 4 0)) := fun {hs} {A} hn hw h0 h1 => by
    obtain ⟨en, -, hn2⟩ := inN_nI (a := 1) (b := 20) (by decide) (by decide) hn
    have C := m_laysOrder (g := g) (d := d) (h := h) (m := m) (μ := mI μ 4 0) (σ := σ) (T := T) B E (N := ix n) (by omega)
    rw [← en] at C
    refine wX12_order_36 ⟨_, C, fun μ1 q => ?_⟩
    obtain ⟨μ2, q1, q4, q2, rfl⟩ := q
    have qs := (ms_4 0).tr q1
    have q0 := q4.trans (mI_at 4 0)
    refine ⟨fun c => ?_, fun c => ⟨_, m_housesS (σ := σ), fun c2 => ?_, fun c2 => ?_⟩⟩
    · rw [h0 c]
      exact ⟨_, fin_0 qs q0 q2.1, rfl⟩
    · rw [h1 c, if_pos c2]
      have hw2 := of_decide_eq_true (hw.elim (fun f => absurd f c) id)
      rw [Int32.lt_iff_toInt_lt, Int32.lt_iff_toInt_lt, show (10 : Int32).toInt = 10 from rfl, show (16 : Int32).toInt = 16 from rfl] at hw2
      have e10 : (w - 10).toInt = w.toInt - 10 := tI_sub (by rw [show (10 : Int32).toInt = 10 from rfl]; omega)
      refine ⟨?_, _, fin_0 qs q0 ?_, rfl⟩
      · have : w - 10 = nI (w.toInt - 10).toNat := by
          apply Int32.toInt_inj.mp
          rw [e10, nI_toInt (by omega)]
          omega
        rw [this]
        exact vp_in_nI (by omega) (by decide)
      · show μ2.2.1 12 _ = _
        rw [q2.2.2]
        rfl
    · rw [h1 c, if_neg c2]
      exact ⟨_, fin_0 qs q0 rfl, rfl⟩
  refine con_of km_X12_order.1.2.2.2.2 (Nat.le_of_ble_eq_true rfl) rfl (wX12_order_0 ⟨_, m_isSoon (d := d + 15), fun c => bad (if_pos (bI0 c)), fun c => ⟨fun c2 => ?_, fun c2 => ⟨_, m_within, fun c3 => ?_, fun c3 => ?_⟩⟩⟩)
  · have hn := bI1 c
    exact main hn (Or.inl c2) (fun _ => by rw [if_neg (by rw [hn]; decide), if_pos c2]) (fun f => absurd c2 f)
  · have hn := bI1 c
    exact bad (by rw [if_neg (by rw [hn]; decide), if_neg c2, if_pos (in0 (a := 10) (b := 16) rfl rfl c3)])
  · have hn := bI1 c
    have hw := in1 (a := 10) (b := 16) rfl rfl c3
    exact main hn (Or.inr hw) (fun f => absurd f c2) (fun _ => by rw [if_neg (by rw [hn]; decide), if_neg c2, if_neg (by rw [hw]; decide)])
end MOS
