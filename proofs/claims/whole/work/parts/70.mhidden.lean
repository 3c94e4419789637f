/-! The reference: hidden debts are told -/
section MHD
variable {g : jG} {d : Nat} {h : jH} {m : Nat} {μ ν : MW} {i k n w : Int32} {T : Td} {σ τ β : St} {I A : List Nat} {N F : Nat} {v : Int64} {Y : Nat → Ty} {K : Nat → Int32} {δ : Ds}
theorem cnt_cg {f f' : Nat → Int32} {v : Int32} : ∀ n, (∀ i, i < n → f i = f' i) → cnt f n v = cnt f' n v
  | 0, _ => rfl
  | n + 1, e => by
    show cnt f n v + _ = cnt f' n v + _
    rw [cnt_cg n (fun i hi => e i (by omega)), e n (by omega)]
theorem mxc_cg {f f' : Nat → Int32} {n : Nat} (e : ∀ i, i < n → f i = f' i) : ∀ i, i ≤ n → mxc f n i = mxc f' n i
  | 0, _ => rfl
  | i + 1, hi => by
    show max (mxc f n i) (cnt f n (f i)) = max (mxc f' n i) (cnt f' n (f' i))
    rw [mxc_cg e i (by omega), e i (by omega), cnt_cg n e]
theorem m_mostLike {j : Nat} (hF : F ≤ 693) (e32 : μ.1 32 = nI F) (hj : j < 7) : Con g mX12_mostLike (d + 1) [.ref m, .int (nI j)] (mw h m μ) (wv h m μ (nI (mxc (fun i => μ.2.1 14 (7 * i + j)) F F))) := by
  have ix7 : ∀ a, a < F → vp_in ((7 : Int32) * nI a + nI j) 4851 ∧ ix ((7 : Int32) * nI a + nI j) = 7 * a + j := fun a ha => by
    rw [t7 a (by omega), nI_plus, ix_nI (by omega)]
    exact ⟨vp_in_nI (by omega) (by decide), rfl⟩
  have inner : ∀ {x3 : Nat} {x2 : Nat}, x3 < F → x2 ≤ F → J g mX12_mostLike (d + 1) (mw h m μ) (wv h m μ (nI (mxc (fun i => μ.2.1 14 (7 * i + j)) F F))) 4 [(0, .ref m), (1, .int (nI j)), (2, .int (nI (max x2 (cnt (fun i => μ.2.1 14 (7 * i + j)) F (μ.2.1 14 (7 * x3 + j)))))), (3, .int (nI (x3 + 1)))] [] (mw h m μ) → ∀ r x5, x5 + r = F → J g mX12_mostLike (d + 1) (mw h m μ) (wv h m μ (nI (mxc (fun i => μ.2.1 14 (7 * i + j)) F F))) 18 [(0, .ref m), (1, .int (nI j)), (2, .int (nI x2)), (3, .int (nI x3)), (4, .int (nI (cnt (fun i => μ.2.1 14 (7 * i + j)) x5 (μ.2.1 14 (7 * x3 + j))))), (5, .int (nI x5))] [] (mw h m μ) := by
    intro x3 x2 h3 h2 next r
    induction r with
    | zero =>
      intro x5 hr
      have : x5 = F := by omega
      subst this
      have := cnt_le (fun i => μ.2.1 14 (7 * i + j)) (μ.2.1 14 (7 * x3 + j)) x5
      refine wX12_mostLike_18 ⟨fun c => ?_, fun _ => ?_⟩
      · rw [e32] at c
        exact absurd c (nI_nlt (by omega) (by omega))
      · rw [jmax_nI (by omega) (by omega), nI_1]
        exact next
    | succ r ih =>
      intro x5 hr
      obtain ⟨i5, e5⟩ := ix7 x5 (by omega)
      obtain ⟨i3, e3⟩ := ix7 x3 h3
      refine wX12_mostLike_18 ⟨fun _ => ?_, fun c => ?_⟩
      · rw [e5, e3, nI_1, nI_1]
        refine ⟨i5, i3, fun c => ?_, fun c => ?_⟩
        · have z := ih (x5 + 1) (by omega)
          rw [show cnt (fun i => μ.2.1 14 (7 * i + j)) (x5 + 1) (μ.2.1 14 (7 * x3 + j)) = cnt (fun i => μ.2.1 14 (7 * i + j)) x5 (μ.2.1 14 (7 * x3 + j)) + 1 from by rw [cnt, if_pos c]] at z
          exact z
        · have z := ih (x5 + 1) (by omega)
          rw [show cnt (fun i => μ.2.1 14 (7 * i + j)) (x5 + 1) (μ.2.1 14 (7 * x3 + j)) = cnt (fun i => μ.2.1 14 (7 * i + j)) x5 (μ.2.1 14 (7 * x3 + j)) + 0 from by rw [cnt, if_neg c]] at z
          rw [Int32.add_zero]
          exact z
      · rw [e32] at c
        exact absurd (nI_lt (by omega) (by omega)) c
  have outer : ∀ r x3, x3 + r = F → J g mX12_mostLike (d + 1) (mw h m μ) (wv h m μ (nI (mxc (fun i => μ.2.1 14 (7 * i + j)) F F))) 4 [(0, .ref m), (1, .int (nI j)), (2, .int (nI (mxc (fun i => μ.2.1 14 (7 * i + j)) F x3))), (3, .int (nI x3))] [] (mw h m μ) := by
    intro r
    induction r with
    | zero =>
      intro x3 hr
      have : x3 = F := by omega
      subst this
      refine wX12_mostLike_4 ⟨fun c => ?_, fun _ => ⟨rfl, rfl⟩⟩
      rw [e32] at c
      exact absurd c (nI_nlt (by omega) (by omega))
    | succ r ih =>
      intro x3 hr
      refine wX12_mostLike_4 ⟨fun _ => ?_, fun c => ?_⟩
      · exact inner (by omega) (mxc_le _ _ _ _ (fun _ _ => cnt_le _ _ _)) (ih (x3 + 1) (by omega)) F 0 (by omega)
      · rw [e32] at c
        exact absurd (nI_lt (by omega) (by omega)) c
  exact con_of km_X12_mostLike.1.2.2.2.2 (Nat.le_of_ble_eq_true rfl) rfl (wX12_mostLike_0 (outer F 0 (by omega)))
theorem m_seen (B : stB σ) (E : encT (kn μ) T) (b : encB (kn μ) β) (D : dB β) (eb : β.1 0 = σ.1 0) (y : tysAt μ Y) (Z : tysOk Y) : Con g mX12_seen (d + 9) [.ref m, .int i, .int k] (mw h m (mS μ σ)) (wPi h m (mAns μ σ [nse, ise, iae] (hSeen T β σ Y i k))) := by
  have S := B.1
  unfold hSeen
  refine con_of km_X12_seen.1.2.2.2.2 (Nat.le_of_ble_eq_true rfl) rfl (wX12_seen_0 ⟨_, m_seenFault (d := d + 4) y Z S, fun c => ?_, fun c => ?_⟩)
  · cases hE : hSeenE Y σ i k with
    | none =>
      rw [hE] at c
      exact absurd c thr_n
    | some E0 =>
      obtain ⟨c1, c2⟩ := seen_pos hE
      rw [hE] at c1
      exact ⟨_, fin_1 c1, rfl⟩
  · cases hE : hSeenE Y σ i k with
    | some E0 => exact absurd (thr_p (seen_pos hE).2) c
    | none =>
      obtain ⟨t1, hh⟩ := hSeen_n hE
      obtain ⟨t3, t4⟩ := trOk_n t1
      obtain ⟨M, hM, eM⟩ := Z (ix i) t4
      obtain ⟨k1, k2, -⟩ := sHas_ix S hh
      have eM2 : ix (Y (ix i)).1 = M := by rw [eM]; exact ix_nI (by omega)
      have C := m_laysFits (g := g) (d := d) (h := h) (m := m) (μ := mI μ 4 0) (i := i) (Y := Y) (x := ix k) B E b D eb t1 y.mi hM eM k1
      rw [← k2] at C
      refine ⟨_, C, fun μ1 q => ?_⟩
      obtain ⟨μ2, q1, q4, qf, rfl⟩ := q
      refine ⟨_, fin_0 ((ms_4 0).tr q1) (q4.trans (mI_at 4 0)) ?_, rfl⟩
      rw [eM2]
      exact qf.1
theorem m_hidden (δ : Ds) (B : stB σ) (E : encT (kn μ) T) (b : encB (kn μ) β) (D : dB β) (eb : β.1 0 = σ.1 0) (y : tysAt μ Y) (Z : tysOk Y) : Con g mX12_hidden (d + 9) [.ref m, .int i, .int k, .int n] (mw h m (mS μ σ)) (wPi h m (mAns μ σ [nse, ise, iae] (hHidden T β σ Y δ i k n))) := by
  have S := B.1
  have h7 := S.2
  unfold hHidden
  refine con_of km_X12_hidden.1.2.2.2.2 (Nat.le_of_ble_eq_true rfl) rfl (wX12_hidden_0 ⟨_, m_seenFault (d := d + 4) y Z S, fun c => ?_, fun c => ?_⟩)
  · rw [mI_at] at c
    cases hE : hSeenE Y σ i k with
    | some E0 =>
      have := (seen_pos hE).2
      rw [c] at this
      exact absurd this (by decide)
    | none =>
      refine ⟨fun c2 => wX12_hidden_26 ⟨fun _ => ⟨_, ⟨mI (mI μ 4 0) 4 3, (ms_4 _).tr (ms_4 3), (mI_at 4 3).trans ?_, fun v f => ?_, rfl⟩, rfl⟩, fun f => absurd (thr_p (by decide)) f⟩, fun c2 => ?_⟩
      · show _ = cod _ (if n < 0 then _ else _)
        rw [if_pos c2]
        exact cod_3.symm
      · simp only [if_pos c2] at f
        cases f
      · simp only [if_neg c2]
        obtain ⟨t1, hh⟩ := hSeen_n hE
        obtain ⟨t3, t4⟩ := trOk_n t1
        obtain ⟨M, hM, eM⟩ := Z (ix i) t4
        obtain ⟨k1, k2, -⟩ := sHas_ix S hh
        have eM2 : ix (Y (ix i)).1 = M := by rw [eM]; exact ix_nI (by omega)
        have C := m_laysFits (g := g) (d := d) (h := h) (m := m) (μ := mI μ 4 0) (i := i) (Y := Y) (x := ix k) B E b D eb t1 y.mi hM eM k1
        rw [← k2] at C
        rw [eM2]
        have F1 := hidN_le (T := T) (β := β) (f := (Y (ix i)).2.2) (x := ix k) (M := M) (99 * sN σ)
        refine wX12_hidden_26 ⟨fun f => absurd f thr_n, fun _ => ⟨_, C, fun μ1 q => ?_⟩⟩
        obtain ⟨μ2, q1, q4, qf, rfl⟩ := q
        have e32 : (mS μ2 σ).1 32 = nI (hidN T β (Y (ix i)).2.2 (ix k) M (99 * sN σ)) := qf.1
        rw [e32]
        have en : n = nI (ix n) := by
          rw [Int32.lt_iff_toInt_lt, show (0 : Int32).toInt = 0 from rfl] at c2
          have e1 : ix n = n.toInt.toNat := rfl
          have := n.toInt_lt
          apply Int32.toInt_inj.mp
          rw [e1, nI_toInt (by omega)]
          omega
        refine ⟨fun f => ?_, fun f => ?_⟩
        · rw [if_pos f]
          have f2 : ix n < hidN T β (Y (ix i)).2.2 (ix k) M (99 * sN σ) := by
            rw [en] at f
            exact (nI_lti (by have e1 : ix n = n.toInt.toNat := rfl; have := n.toInt_lt; omega) (by omega)).mp f
          refine ⟨by rw [en]; exact vp_in_nI (by omega) (by decide), _, fin_0 ((ms_4 0).tr q1) (q4.trans (mI_at 4 0)) ?_, rfl⟩
          exact (qf.2 δ (ix n) f2).1
        · rw [if_neg f]
          exact ⟨_, fin_0 ((ms_4 0).tr q1) (q4.trans (mI_at 4 0)) rfl, rfl⟩
  · rw [mI_at] at c
    cases hE : hSeenE Y σ i k with
    | none =>
      rw [hE] at c
      exact absurd rfl c
    | some E0 =>
      obtain ⟨c1, c2⟩ := seen_pos hE
      rw [hE] at c1
      refine wX12_hidden_26 ⟨fun _ => ⟨_, fin_1 c1, rfl⟩, fun f => absurd (thr_p ?_) f⟩
      rw [hE] at c2
      exact c2
theorem m_look (δ : Ds) (B : stB σ) (E : encT (kn μ) T) (b : encB (kn μ) β) (D : dB β) (eb : β.1 0 = σ.1 0) (y : tysAt μ Y) (Z : tysOk Y) : Con g mX12_look (d + 9) [.ref m, .int i, .int k] (mw h m (mS μ σ)) (wPi h m (mAns μ σ [nse, ise, iae] (hLook T β σ Y δ i k))) := by
  have S := B.1
  have h7 := S.2
  unfold hLook
  refine con_of km_X12_look.1.2.2.2.2 (Nat.le_of_ble_eq_true rfl) rfl (wX12_look_0 ⟨_, m_seenFault (d := d + 4) y Z S, fun c => ?_, fun c => ?_⟩)
  · cases hE : hSeenE Y σ i k with
    | none =>
      rw [hE] at c
      exact absurd c thr_n
    | some E0 =>
      obtain ⟨c1, c2⟩ := seen_pos hE
      rw [hE] at c1
      exact ⟨_, fin_1 c1, rfl⟩
  · cases hE : hSeenE Y σ i k with
    | some E0 => exact absurd (thr_p (seen_pos hE).2) c
    | none =>
      obtain ⟨t1, hh⟩ := hSeen_n hE
      obtain ⟨t3, t4⟩ := trOk_n t1
      obtain ⟨M, hM, eM⟩ := Z (ix i) t4
      obtain ⟨k1, k2, -⟩ := sHas_ix S hh
      have eM2 : ix (Y (ix i)).1 = M := by rw [eM]; exact ix_nI (by omega)
      have eN : sN β = sN σ := by unfold sN; rw [eb]
      have C := m_laysFits (g := g) (d := d) (h := h) (m := m) (μ := mI μ 4 0) (i := i) (Y := Y) (x := ix k) B E b D eb t1 y.mi hM eM k1
      rw [← k2] at C
      refine ⟨_, C, fun μ1 q => ?_⟩
      obtain ⟨μ2, q1, q4, qf, rfl⟩ := q
      simp only [eM2]
      have F1 := hidN_le (T := T) (β := β) (f := (Y (ix i)).2.2) (x := ix k) (M := M) (99 * sN σ)
      generalize hF : hidN T β (Y (ix i)).2.2 (ix k) M (99 * sN σ) = F at F1 ⊢
      have e32 : (mS μ2 σ).1 32 = nI F := by rw [← hF]; exact qf.1
      have qs := (ms_4 0).tr q1
      have q0 := q4.trans (mI_at 4 0)
      by_cases c0 : F = 0
      · rw [if_pos c0]
        refine wX12_look_35 ⟨_, m_housesS (σ := σ), fun _ => ⟨fun f => ?_, fun _ => ⟨_, fin_0 qs q0 rfl, rfl⟩⟩, fun _ => ⟨_, fin_0 qs q0 rfl, rfl⟩⟩
        rw [e32, c0] at f
        exact absurd f (by decide)
      · rw [if_neg c0]
        have eq : ∀ j, j < sN σ → mxc (fun i => (mS μ2 σ).2.1 14 (7 * i + j)) F F = mxc ((hidD T β (Y (ix i)).2.2 (ix k) M δ (99 * sN σ)).2.2 j) F F := fun j hj => by
          refine mxc_cg (fun i' hi' => ?_) F (Nat.le_refl _)
          exact (qf.2 δ i' (by rw [hF]; exact hi')).2 j (by omega)
        have loop : ∀ r j, j + r = sN σ → J g mX12_look (d + 9) (mw h m (mS μ σ)) (wPi h m (mAns μ σ [nse, ise, iae] (.inr (tmM (hidD T β (Y (ix i)).2.2 (ix k) M δ (99 * sN σ)).2.2 F (sN σ)).1))) 35 [(0, .ref m), (3, .int (tmM (hidD T β (Y (ix i)).2.2 (ix k) M δ (99 * sN σ)).2.2 F j).1), (4, .int (tmM (hidD T β (Y (ix i)).2.2 (ix k) M δ (99 * sN σ)).2.2 F j).2), (5, .int (nI j))] [] (mw h m (mS μ2 σ)) := by
          intro r
          induction r with
          | zero =>
            intro j hj
            have : j = sN σ := by omega
            subst this
            refine wX12_look_35 ⟨_, m_housesS (σ := σ), fun f => ?_, fun _ => ⟨_, fin_0 qs q0 rfl, rfl⟩⟩
            rw [S.1] at f
            exact absurd f (nI_nlt (by omega) (by omega))
          | succ r ih =>
            intro j hj
            refine wX12_look_35 ⟨_, m_housesS (σ := σ), fun _ => ⟨fun _ => ⟨_, m_mostLike (d := d + 7) (F := F) (j := j) (by omega) e32 (by omega), ?_⟩, fun f => ?_⟩, fun f => ?_⟩
            · rw [eq j (by omega), nI_1]
              have z := ih (j + 1) (by omega)
              have et : tmM (hidD T β (Y (ix i)).2.2 (ix k) M δ (99 * sN σ)).2.2 F (j + 1) = if nI (mxc ((hidD T β (Y (ix i)).2.2 (ix k) M δ (99 * sN σ)).2.2 j) F F) < (tmM (hidD T β (Y (ix i)).2.2 (ix k) M δ (99 * sN σ)).2.2 F j).2 then (nI j, nI (mxc ((hidD T β (Y (ix i)).2.2 (ix k) M δ (99 * sN σ)).2.2 j) F F)) else tmM (hidD T β (Y (ix i)).2.2 (ix k) M δ (99 * sN σ)).2.2 F j := rfl
              refine ⟨fun f => ?_, fun f => ?_⟩
              · rw [et, if_pos f] at z
                exact z
              · rw [et, if_neg f] at z
                exact z
            · rw [e32] at f
              exact absurd ((nI_lti (a := 0) (by omega) (by omega)).mpr (by omega)) f
            · rw [S.1] at f
              exact absurd (nI_lt (by omega) (by omega)) f
        exact loop (sN σ) 0 (by omega)
end MHD
