/-! The reference reads sums and truths -/
section MTH
variable {g : jG} {d : Nat} {h hs : jH} {m : Nat} {μ ν : MW} {i w : Int32} {b : Nat → Int32} {e n p k L D E j : Nat} {K N : Nat → Int32} {G : Nat → Int32} {tr tr' : Bool} {u : Pa}
theorem hop_n {t : Int32} (ht : t = 43 ∨ t = 45 ∨ t = 42) : ∀ e1 e2, exOK k (D + 1) e1 → exOK k D e2 → (false = true → tru e1) → (false = true → tru e2) → (∀ w, mDone (oNum t) (exV w e1).toInt64 (exV w e2).toInt64 = evJ t (exV w e1) (exV w e2)) ∧ (false = true → tru (exOp t e1 e2)) := fun e1 e2 _ _ _ _ =>
  ⟨fun w => oNum_v (by rcases ht with rfl | rfl | rfl <;> simp), fun f => absurd f (by decide)⟩
theorem hop_t {t : Int32} (ht : t = 146 ∨ t = 147) (h64 : D + 1 ≤ 64) : ∀ e1 e2, exOK k (D + 1) e1 → exOK k D e2 → (true = true → tru e1) → (true = true → tru e2) → (∀ w, mDone (oNum t) (exV w e1).toInt64 (exV w e2).toInt64 = evJ t (exV w e1) (exV w e2)) ∧ (true = true → tru (exOp t e1 e2)) := fun e1 e2 h1 h2 t1 t2 =>
  ⟨fun w => (oNum_t ht (t1 rfl w) (t2 rfl w)).1, fun _ w => by
    rw [exV_op (by unfold opOk; rcases ht with rfl | rfl <;> simp) h1 h2 (Nat.le_refl _) h64 w]
    exact (oNum_t ht (t1 rfl w) (t2 rfl w)).2⟩
theorem hop_c {t : Int32} (ht : t = 61 ∨ t = 60 ∨ t = 62) (h64 : D + 1 ≤ 64) : ∀ e1 e2, exOK k (D + 1) e1 → exOK k D e2 → (false = true → tru e1) → (false = true → tru e2) → (∀ w, mDone (oNum t) (exV w e1).toInt64 (exV w e2).toInt64 = evJ t (exV w e1) (exV w e2)) ∧ (true = true → tru (exOp t e1 e2)) := fun e1 e2 h1 h2 _ _ =>
  ⟨fun w => oNum_v (by rcases ht with rfl | rfl | rfl <;> simp), fun _ w => by
    rw [exV_op (by unfold opOk; rcases ht with rfl | rfl | rfl <;> simp) h1 h2 (Nat.le_refl _) h64 w]
    exact oNum_b ht⟩
theorem RX.pos {y : Ex × Nat} (x : RX K N b e n k D tr μ p L (.inr y) ν) : atP K N b e ν y.2 ∧ p < y.2 ∧ y.2 < n ∧ ν.1 16 = μ.1 16 ∧ pd μ ν := ⟨x.2.1.1, x.2.1.2.1.1, x.2.1.2.1.2, x.2.1.2.2, x.1⟩
theorem pc.dd (x : pc μ ν) : pd μ ν := x.up (by decide) (by decide)
/-! a term -/
theorem termC {dd : Nat} (hk : k < 3) (X : TT K N n b e) (h64 : D + 1 ≤ 64) (A : rdC g (dd + 8) h m mX12_readAtom K N b e n k D false j u) : rdC g (dd + 9) h m mX12_readTerm K N b e n k (D + 1) false j (aCh K sMul u) := by
  intro μ p L t hp a l hL e16
  have h9 := X.1.1.2
  have out : ∀ {ν x}, pd μ ν → Bd K b e ν x.1 x.2 → J g mX12_readTerm (dd + 9) (mw h m μ) (wPv h m (RX K N b e n k (D + 1) false μ p L (.inl x))) 4 [(0, .ref m)] [] (mw h m ν) := fun h1 h2 =>
    wX12_readTerm_4 ⟨_, m_isSign_b (d := dd + 7) h2.ne, fun _ => ⟨_, ⟨h1, h2⟩, rfl⟩, fun f => absurd rfl f⟩
  have loop : ∀ f ex q ν, n ≤ q + f → RX K N b e n k (D + 1) false μ p L (.inr (ex, q)) ν → J g mX12_readTerm (dd + 9) (mw h m μ) (wPv h m (RX K N b e n k (D + 1) false μ p L (aChR K sMul u f ex q))) 4 [(0, .ref m)] [] (mw h m ν) := by
    intro f
    induction f with
    | zero =>
      intro ex q ν hf R
      obtain ⟨-, -, q3, -⟩ := R.pos
      exact absurd q3 (by show ¬ q < n; omega)
    | succ f ih =>
      intro ex q ν hf R
      obtain ⟨aq, q2, q3, q16, qd⟩ := R.pos
      have q2 : p < q := q2
      have q3 : q < n := q3
      have aq : atP K N b e ν q := aq
      refine wX12_readTerm_4 ⟨_, m_isSignP (d := dd + 7) (c := 42) aq (by decide) (by decide) (by decide), fun f0 => ?_, fun f0 => ?_⟩
      · have f0 := of_decide_eq_false (bI0 f0)
        rw [show aChR K sMul u (f + 1) ex q = .inr (ex, q) from if_neg (fun z => f0 (of_decide_eq_true z))]
        exact ⟨_, R, rfl⟩
      · have f0 := of_decide_eq_true (bI1 f0)
        obtain ⟨L1, l1, hL1, st⟩ := op_step (t := 42) (tr' := false) hk (by unfold opOk; simp) h64 h9 (hop_n (by simp)) R l hL
        have er : aChR K sMul u (f + 1) ex q = pgo (u (q + 1)) (fun e2 q => aChR K sMul u f (exOp 42 ex e2) q) := by
          rw [← f0]; exact if_pos (decide_eq_true f0)
        rw [er]
        refine ⟨_, m_goOn (d := dd + 6) (pd.ta qd t) X q3 (by rw [f0]; decide) aq, fun ν1 z1 => ?_⟩
        have z0 : q + 1 < n := X.nx q3 (by rw [f0]; decide)
        refine ⟨_, A ν1 (q + 1) L1 (pd.ta (dif.tr qd z1.1.dd) t) z0 z1.2 (z1.1.pb.lw l1) (by omega) ((z1.1.1 16 (by decide)).trans (q16.trans e16)), fun ν2 R2 => ?_⟩
        cases hu : u (q + 1) with
        | inl x =>
          rw [hu] at R2
          refine ⟨_, m_laysStep_b (d := dd + 7) R2.2.ne, fun ν3 z => ?_⟩
          subst z
          exact out (dif.tr (dif.tr qd z1.1.dd) R2.1) R2.2
        | inr x =>
          rw [hu] at R2
          obtain ⟨L2, l2, h92, z12, R3⟩ := st ν1 ν2 x z1.1 R2
          refine ⟨_, m_laysStep (d := dd + 7) hk h92 l2 z12, fun ν3 z => ?_⟩
          subst z
          have := R2.pos.2.1
          exact ih _ x.2 _ (by omega) R3
  refine con_of km_X12_readTerm.1.2.2.2.2 (Nat.le_of_ble_eq_true rfl) rfl (wX12_readTerm_0 ⟨_, A μ p L t hp a l hL e16, fun ν R => ?_⟩)
  show J g mX12_readTerm (dd + 9) (mw h m μ) (wPv h m (RX K N b e n k (D + 1) false μ p L (pgo (u p) (fun e q => aChR K sMul u 900 e q)))) 4 [(0, .ref m)] [] (mw h m ν)
  cases hu : u p with
  | inl x =>
    rw [hu] at R
    exact out R.1 R.2
  | inr x =>
    rw [hu] at R
    have := R.pos.2.1
    exact loop 900 x.1 x.2 ν (by omega) (R.up (by omega))
/-! a sum -/
theorem sumC {dd : Nat} (hk : k < 3) (X : TT K N n b e) (h64 : D + 1 ≤ 64) (A : rdC g (dd + 9) h m mX12_readTerm K N b e n k D false j u) : rdC g (dd + 10) h m mX12_readSum K N b e n k (D + 1) false j (aCh K sAdd u) := by
  intro μ p L t hp a l hL e16
  have h9 := X.1.1.2
  have out : ∀ {ν x}, pd μ ν → Bd K b e ν x.1 x.2 → J g mX12_readSum (dd + 10) (mw h m μ) (wPv h m (RX K N b e n k (D + 1) false μ p L (.inl x))) 4 [(0, .ref m)] [] (mw h m ν) := fun h1 h2 =>
    wX12_readSum_4 ⟨_, m_isSign_b (d := dd + 8) h2.ne, fun _ => ⟨_, m_isSign_b (d := dd + 8) h2.ne, fun _ => ⟨_, ⟨h1, h2⟩, rfl⟩, fun f => absurd rfl f⟩, fun f => absurd rfl f⟩
  have loop : ∀ f ex q ν, n ≤ q + f → RX K N b e n k (D + 1) false μ p L (.inr (ex, q)) ν → J g mX12_readSum (dd + 10) (mw h m μ) (wPv h m (RX K N b e n k (D + 1) false μ p L (aChR K sAdd u f ex q))) 4 [(0, .ref m)] [] (mw h m ν) := by
    intro f
    induction f with
    | zero =>
      intro ex q ν hf R
      obtain ⟨-, -, q3, -⟩ := R.pos
      exact absurd q3 (by show ¬ q < n; omega)
    | succ f ih =>
      intro ex q ν hf R
      obtain ⟨aq, q2, q3, q16, qd⟩ := R.pos
      have q2 : p < q := q2
      have q3 : q < n := q3
      have aq : atP K N b e ν q := aq
      have go : ∀ t0, K q = t0 → (t0 = 43 ∨ t0 = 45) → J g mX12_readSum (dd + 10) (mw h m μ) (wPv h m (RX K N b e n k (D + 1) false μ p L (aChR K sAdd u (f + 1) ex q))) 22 [(0, .ref m)] [] (mw h m ν) := by
        intro t0 f0 ht
        have nz : ¬ K q = 0 := by rw [f0]; rcases ht with rfl | rfl <;> decide
        have e10 : ν.1 10 = t0 := aq.2.1.trans (by rw [f0]; rcases ht with rfl | rfl <;> decide)
        obtain ⟨L1, l1, hL1, st⟩ := op_step (t := t0) (tr' := false) hk (by unfold opOk; rcases ht with rfl | rfl <;> simp) h64 h9 (hop_n (by rcases ht with rfl | rfl <;> simp)) R l hL
        have er : aChR K sAdd u (f + 1) ex q = pgo (u (q + 1)) (fun e2 q => aChR K sAdd u f (exOp t0 ex e2) q) := by
          rw [← f0]; exact if_pos (decide_eq_true (by rw [f0]; exact ht))
        rw [er]
        refine wX12_readSum_22 ⟨_, m_goOn (d := dd + 7) (pd.ta qd t) X q3 nz aq, fun ν1 z1 => ?_⟩
        have z0 : q + 1 < n := X.nx q3 nz
        refine ⟨_, A ν1 (q + 1) L1 (pd.ta (dif.tr qd z1.1.dd) t) z0 z1.2 (z1.1.pb.lw l1) (by omega) ((z1.1.1 16 (by decide)).trans (q16.trans e16)), fun ν2 R2 => ?_⟩
        rw [e10]
        have fin : ∀ v, v = oNum t0 → J g mX12_readSum (dd + 10) (mw h m μ) (wPv h m (RX K N b e n k (D + 1) false μ p L (pgo (u (q + 1)) (fun e2 q => aChR K sAdd u f (exOp t0 ex e2) q)))) 49 [(0, .ref m)] [.int v, .ref m] (mw h m ν2) := by
          intro v hv
          subst hv
          cases hu : u (q + 1) with
          | inl x =>
            rw [hu] at R2
            refine wX12_readSum_49 ⟨_, m_laysStep_b (d := dd + 8) R2.2.ne, fun ν3 z => ?_⟩
            subst z
            exact out (dif.tr (dif.tr qd z1.1.dd) R2.1) R2.2
          | inr x =>
            rw [hu] at R2
            obtain ⟨L2, l2, h92, z12, R3⟩ := st ν1 ν2 x z1.1 R2
            refine wX12_readSum_49 ⟨_, m_laysStep (d := dd + 8) hk h92 l2 z12, fun ν3 z => ?_⟩
            subst z
            have := R2.pos.2.1
            exact ih _ x.2 _ (by omega) R3
        refine ⟨fun f1 => fin 10 (by rw [f1]; decide), fun f1 => fin 11 ?_⟩
        rcases ht with rfl | rfl
        · exact absurd rfl f1
        · decide
      refine wX12_readSum_4 ⟨_, m_isSignP (d := dd + 8) (c := 43) aq (by decide) (by decide) (by decide), fun f0 => ⟨_, m_isSignP (d := dd + 8) (c := 45) aq (by decide) (by decide) (by decide), fun f1 => ?_, fun f1 => ?_⟩, fun f0 => ?_⟩
      · have f0 := of_decide_eq_false (bI0 f0)
        have f1 := of_decide_eq_false (bI0 f1)
        rw [show aChR K sAdd u (f + 1) ex q = .inr (ex, q) from if_neg (fun z => (of_decide_eq_true z).elim f0 f1)]
        exact ⟨_, R, rfl⟩
      · exact go 45 (of_decide_eq_true (bI1 f1)) (Or.inr rfl)
      · exact go 43 (of_decide_eq_true (bI1 f0)) (Or.inl rfl)
  refine con_of km_X12_readSum.1.2.2.2.2 (Nat.le_of_ble_eq_true rfl) rfl (wX12_readSum_0 ⟨_, A μ p L t hp a l hL e16, fun ν R => ?_⟩)
  show J g mX12_readSum (dd + 10) (mw h m μ) (wPv h m (RX K N b e n k (D + 1) false μ p L (pgo (u p) (fun e q => aChR K sAdd u 900 e q)))) 4 [(0, .ref m)] [] (mw h m ν)
  cases hu : u p with
  | inl x =>
    rw [hu] at R
    exact out R.1 R.2
  | inr x =>
    rw [hu] at R
    have := R.pos.2.1
    exact loop 900 x.1 x.2 ν (by omega) (R.up (by omega))
theorem sumA (hk : k < 3) (X : TT K N n b e) : ∀ j, j ≤ 6 → ∀ d, rdC g (d + 3 * j + 10) h m mX12_readSum K N b e n k (2 * j + 3) false j (aSum K N k (aParK K N k j)) := by
  intro j
  induction j with
  | zero =>
    intro hj d
    exact sumC (dd := d) hk X (by decide) (termC (dd := d) hk X (by decide) (atomC (dd := d) hk hj X (fun i hi => absurd hi (by omega))))
  | succ j ih =>
    intro hj d
    have S := ih (by omega) d
    have A := atomC (g := g) (h := h) (m := m) (k := k) (j := j + 1) (dd := d + 3 * j + 3) hk hj X (fun i hi => by
      have : i = j := by omega
      subst this
      exact S)
    exact sumC (dd := d + 3 * j + 3) hk X (by omega) (termC (dd := d + 3 * j + 3) hk X (by omega) A)
end MTH
