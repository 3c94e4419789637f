/-! The reference reads laws -/
section MLR
variable {g : jG} {d : Nat} {h hs : jH} {m : Nat} {μ ν : MW} {i w : Int32} {b : Nat → Int32} {e n p k L D E j : Nat} {K N : Nat → Int32} {G : Nat → Int32} {u : Pa}
theorem bothC {dd : Nat} (hk : k < 3) (X : TT K N n b e) (h64 : D + 1 ≤ 64) (A : rdC g (dd + 11) h m mX12_readUnit K N b e n k D true j u) : rdC g (dd + 12) h m mX12_readBoth K N b e n k (D + 1) true j (aCh K sAnd u) := by
  intro μ p L t hp a l hL e16
  have h9 := X.1.1.2
  have out : ∀ {ν x}, pd μ ν → Bd K b e ν x.1 x.2 → J g mX12_readBoth (dd + 12) (mw h m μ) (wPv h m (RX K N b e n k (D + 1) true μ p L (.inl x))) 4 [(0, .ref m)] [] (mw h m ν) := fun h1 h2 =>
    wX12_readBoth_4 ⟨_, m_took_b (d := dd + 5) (by decide) h2.ne, fun r ν2 q2 => by
      obtain ⟨rfl, rfl⟩ := q2
      exact ⟨fun _ => ⟨_, ⟨h1, h2⟩, rfl⟩, fun f => absurd rfl f⟩⟩
  have loop : ∀ f ex q ν, n ≤ q + f → RX K N b e n k (D + 1) true μ p L (.inr (ex, q)) ν → J g mX12_readBoth (dd + 12) (mw h m μ) (wPv h m (RX K N b e n k (D + 1) true μ p L (aChR K sAnd u f ex q))) 4 [(0, .ref m)] [] (mw h m ν) := by
    intro f
    induction f with
    | zero =>
      intro ex q ν hf R
      obtain ⟨-, -, q3, -⟩ := R.pos
      exact absurd q3 (by show ¬ q < n; omega)
    | succ f ih =>
      intro ex q ν hf R
      obtain ⟨aq, q2, q3, q16, qd⟩ := R.pos
      have q2 : p < q := q2
      have q3 : q < n := q3
      have aq : atP K N b e ν q := aq
      refine wX12_readBoth_4 ⟨_, m_took (d := dd + 5) (k := 35) (pd.ta qd t) X q3 aq (by decide) (by decide), fun r ν1 z => ?_⟩
      rw [w145.2.1] at z
      rcases z with ⟨f0, z1, z2, z3, z4⟩ | ⟨f0, z1, z2⟩
      · subst z1
        refine ⟨fun f => absurd f (by decide), fun _ => ?_⟩
        obtain ⟨L1, l1, hL1, st⟩ := op_step (t := 146) (tr := true) (tr' := true) hk (by unfold opOk; simp) h64 h9 (hop_t (Or.inl rfl) h64) R l hL
        have er : aChR K sAnd u (f + 1) ex q = pgo (u (q + 1)) (fun e2 q => aChR K sAnd u f (exOp 146 ex e2) q) := by
          rw [← f0]; exact if_pos (decide_eq_true f0)
        rw [er]
        refine ⟨_, A ν1 (q + 1) L1 (pd.ta (dif.tr qd z2.dd) t) z3 z4 (z2.pb.lw l1) (by omega) ((z2.1 16 (by decide)).trans (q16.trans e16)), fun ν2 R2 => ?_⟩
        cases hu : u (q + 1) with
        | inl x =>
          rw [hu] at R2
          refine ⟨_, m_laysStep_b (d := dd + 10) R2.2.ne, fun ν3 z => ?_⟩
          subst z
          exact out (dif.tr (dif.tr qd z2.dd) R2.1) R2.2
        | inr x =>
          rw [hu] at R2
          obtain ⟨L2, l2, h92, z12, R3⟩ := st ν1 ν2 x z2 R2
          refine ⟨_, m_laysStep (d := dd + 10) hk h92 l2 z12, fun ν3 z => ?_⟩
          subst z
          have := R2.pos.2.1
          exact ih _ x.2 _ (by omega) R3
      · subst z1
        subst z2
        rw [show aChR K sAnd u (f + 1) ex q = .inr (ex, q) from if_neg (fun z => f0 (of_decide_eq_true z))]
        exact ⟨fun _ => ⟨_, R, rfl⟩, fun f => absurd rfl f⟩
  refine con_of km_X12_readBoth.1.2.2.2.2 (Nat.le_of_ble_eq_true rfl) rfl (wX12_readBoth_0 ⟨_, A μ p L t hp a l hL e16, fun ν R => ?_⟩)
  show J g mX12_readBoth (dd + 12) (mw h m μ) (wPv h m (RX K N b e n k (D + 1) true μ p L (pgo (u p) (fun e q => aChR K sAnd u 900 e q)))) 4 [(0, .ref m)] [] (mw h m ν)
  cases hu : u p with
  | inl x =>
    rw [hu] at R
    exact out R.1 R.2
  | inr x =>
    rw [hu] at R
    have := R.pos.2.1
    exact loop 900 x.1 x.2 ν (by omega) (R.up (by omega))
theorem truthC {dd : Nat} (hk : k < 3) (X : TT K N n b e) (h64 : D + 1 ≤ 64) (A : rdC g (dd + 12) h m mX12_readBoth K N b e n k D true j u) : rdC g (dd + 13) h m mX12_readTruth K N b e n k (D + 1) true j (aCh K sOr u) := by
  intro μ p L t hp a l hL e16
  have h9 := X.1.1.2
  have out : ∀ {ν x}, pd μ ν → Bd K b e ν x.1 x.2 → J g mX12_readTruth (dd + 13) (mw h m μ) (wPv h m (RX K N b e n k (D + 1) true μ p L (.inl x))) 4 [(0, .ref m)] [] (mw h m ν) := fun h1 h2 =>
    wX12_readTruth_4 ⟨_, m_took_b (d := dd + 6) (by decide) h2.ne, fun r ν2 q2 => by
      obtain ⟨rfl, rfl⟩ := q2
      exact ⟨fun _ => ⟨_, ⟨h1, h2⟩, rfl⟩, fun f => absurd rfl f⟩⟩
  have loop : ∀ f ex q ν, n ≤ q + f → RX K N b e n k (D + 1) true μ p L (.inr (ex, q)) ν → J g mX12_readTruth (dd + 13) (mw h m μ) (wPv h m (RX K N b e n k (D + 1) true μ p L (aChR K sOr u f ex q))) 4 [(0, .ref m)] [] (mw h m ν) := by
    intro f
    induction f with
    | zero =>
      intro ex q ν hf R
      obtain ⟨-, -, q3, -⟩ := R.pos
      exact absurd q3 (by show ¬ q < n; omega)
    | succ f ih =>
      intro ex q ν hf R
      obtain ⟨aq, q2, q3, q16, qd⟩ := R.pos
      have q2 : p < q := q2
      have q3 : q < n := q3
      have aq : atP K N b e ν q := aq
      refine wX12_readTruth_4 ⟨_, m_took (d := dd + 6) (k := 36) (pd.ta qd t) X q3 aq (by decide) (by decide), fun r ν1 z => ?_⟩
      rw [w145.2.2] at z
      rcases z with ⟨f0, z1, z2, z3, z4⟩ | ⟨f0, z1, z2⟩
      · subst z1
        refine ⟨fun f => absurd f (by decide), fun _ => ?_⟩
        obtain ⟨L1, l1, hL1, st⟩ := op_step (t := 147) (tr := true) (tr' := true) hk (by unfold opOk; simp) h64 h9 (hop_t (Or.inr rfl) h64) R l hL
        have er : aChR K sOr u (f + 1) ex q = pgo (u (q + 1)) (fun e2 q => aChR K sOr u f (exOp 147 ex e2) q) := by
          rw [← f0]; exact if_pos (decide_eq_true f0)
        rw [er]
        refine ⟨_, A ν1 (q + 1) L1 (pd.ta (dif.tr qd z2.dd) t) z3 z4 (z2.pb.lw l1) (by omega) ((z2.1 16 (by decide)).trans (q16.trans e16)), fun ν2 R2 => ?_⟩
        cases hu : u (q + 1) with
        | inl x =>
          rw [hu] at R2
          refine ⟨_, m_laysStep_b (d := dd + 11) R2.2.ne, fun ν3 z => ?_⟩
          subst z
          exact out (dif.tr (dif.tr qd z2.dd) R2.1) R2.2
        | inr x =>
          rw [hu] at R2
          obtain ⟨L2, l2, h92, z12, R3⟩ := st ν1 ν2 x z2 R2
          refine ⟨_, m_laysStep (d := dd + 11) hk h92 l2 z12, fun ν3 z => ?_⟩
          subst z
          have := R2.pos.2.1
          exact ih _ x.2 _ (by omega) R3
      · subst z1
        subst z2
        rw [show aChR K sOr u (f + 1) ex q = .inr (ex, q) from if_neg (fun z => f0 (of_decide_eq_true z))]
        exact ⟨fun _ => ⟨_, R, rfl⟩, fun f => absurd rfl f⟩
  refine con_of km_X12_readTruth.1.2.2.2.2 (Nat.le_of_ble_eq_true rfl) rfl (wX12_readTruth_0 ⟨_, A μ p L t hp a l hL e16, fun ν R => ?_⟩)
  show J g mX12_readTruth (dd + 13) (mw h m μ) (wPv h m (RX K N b e n k (D + 1) true μ p L (pgo (u p) (fun e q => aChR K sOr u 900 e q)))) 4 [(0, .ref m)] [] (mw h m ν)
  cases hu : u p with
  | inl x =>
    rw [hu] at R
    exact out R.1 R.2
  | inr x =>
    rw [hu] at R
    have := R.pos.2.1
    exact loop 900 x.1 x.2 ν (by omega) (R.up (by omega))
theorem truthA (hk : k < 3) (X : TT K N n b e) : ∀ j, j ≤ 6 → ∀ d, rdC g (d + 3 * j + 11) h m mX12_readUnit K N b e n k (4 * j + 4) true j (aUn K (aBr K N k j) (aCmT K N k) j j) ∧ rdC g (d + 3 * j + 13) h m mX12_readTruth K N b e n k (4 * j + 6) true j (aTru K N k (aBr K N k j) j) := by
  intro j
  induction j with
  | zero =>
    intro hj d
    have U := fun d => unitC (g := g) (h := h) (m := m) (k := k) (j := 0) (dd := d) hk hj X (sumA (g := g) (h := h) (m := m) hk X 0 hj d) (fun i hi => absurd hi (by omega)) (fun i hi => absurd hi (by omega))
    exact ⟨U d, truthC (dd := d) hk X (by decide) (bothC (dd := d) hk X (by decide) (U d))⟩
  | succ j ih =>
    intro hj d
    have U := fun d => unitC (g := g) (h := h) (m := m) (k := k) (j := j + 1) (dd := d + 3 * j + 3) hk hj X (sumA (g := g) (h := h) (m := m) hk X (j + 1) hj d) (fun i hi => by
      have : i = j := by omega
      subst this
      have z := (ih (by omega) (d + 2)).1
      rw [show d + 2 + 3 * i + 11 = d + 3 * i + 3 + 10 by omega] at z
      exact z) (fun i hi => by
      have : i = j := by omega
      subst this
      exact (ih (by omega) d).2)
    exact ⟨U d, truthC (dd := d + 3 * j + 3) hk X (by omega) (bothC (dd := d + 3 * j + 3) hk X (by omega) (U d))⟩
end MLR
