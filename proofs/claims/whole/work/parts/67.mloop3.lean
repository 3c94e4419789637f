/-! The reference's quarter: who is ruined; the quarter -/
section ML3
variable {g : jG} {d : Nat} {h hs : jH} {m : Nat} {μ ν : MW} {i k n : Int32} {T : Td} {σ τ : St} {lim : Int32}
/-- σ when debts have grown; ρ when they have gone -/
def rho (T : Td) (σ : St) : St := mov T σ (sN σ)
def τ3 (T : Td) (lim : Int32) (σ : St) (j : Nat) : St := setR (setR (setR (setR (τ2 T σ (sN σ)) 4 (fst j ((rho T σ).2 4) ((τ2 T σ (sN σ)).2 4))) 3 (fst j (ruG lim (rho T σ)) (σ.2 3))) 2 (fst j (ruC lim (rho T σ)) (σ.2 2))) 5 (fst j (ruH (rho T σ)) (σ.2 5))
theorem St_ext {a b : St} (h1 : a.1 = b.1) (h2 : ∀ r, r < 6 → a.2 r = b.2 r) (h3 : ∀ r, 6 ≤ r → a.2 r = b.2 r) : a = b := by
  refine Prod.ext h1 (funext fun r => ?_)
  by_cases h : r < 6
  · exact h2 r h
  · exact h3 r (by omega)
theorem setR_at {τ : St} {r : Nat} {f : Nat → Int32} : (setR τ r f).2 r = f := if_pos rfl
theorem setR_ne {τ : St} {r q : Nat} {f : Nat → Int32} (h : ¬ q = r) : (setR τ r f).2 q = τ.2 q := if_neg h
theorem setR_same {τ : St} {r : Nat} : setR τ r (τ.2 r) = τ := by
  refine Prod.ext rfl (funext fun q => ?_)
  show (if q = r then τ.2 r else τ.2 q) = τ.2 q
  by_cases h : q = r
  · rw [if_pos h, h]
  · rw [if_neg h]
theorem τ3_0 : τ3 T lim σ 0 = τ2 T σ (sN σ) := by
  unfold τ3
  rw [fst_0, fst_0, fst_0, fst_0]
  refine Prod.ext rfl (funext fun q => ?_)
  show (if q = 5 then σ.2 5 else if q = 2 then σ.2 2 else if q = 3 then σ.2 3 else if q = 4 then (τ2 T σ (sN σ)).2 4 else (τ2 T σ (sN σ)).2 q) = (τ2 T σ (sN σ)).2 q
  by_cases h5 : q = 5
  · rw [if_pos h5, h5]; rfl
  · rw [if_neg h5]
    by_cases h2 : q = 2
    · rw [if_pos h2, h2]; rfl
    · rw [if_neg h2]
      by_cases h3 : q = 3
      · rw [if_pos h3, h3]; rfl
      · rw [if_neg h3]
        by_cases h4 : q = 4
        · rw [if_pos h4, h4]
        · rw [if_neg h4]
theorem rho_at {j : Nat} (hj : j < sN σ) : (rho T σ).2 4 j = jmin (σ.2 4 j - lef T σ j + cam T σ (sN σ) j) 999999 := by
  show fst (sN σ) (moD T σ) (σ.2 4) j = _
  unfold fst
  rw [if_pos hj]
  rfl
/-- the end of the loop -/
theorem τ3_N (e1 : (rho T σ).1 2 = k) : setI (τ3 T lim σ (sN σ)) 2 (k + 1) = setI (rui lim (rho T σ) (sN σ)) 2 ((rho T σ).1 2 + 1) := by
  have e4 : fst (sN σ) ((rho T σ).2 4) ((τ2 T σ (sN σ)).2 4) = (rho T σ).2 4 := by
    funext i
    unfold fst
    by_cases hi : i < sN σ
    · rw [if_pos hi]
    · rw [if_neg hi]
      show fst (sN σ) (fun i => σ.2 4 i - lef T σ i) (σ.2 4) i = fst (sN σ) (moD T σ) (σ.2 4) i
      unfold fst
      rw [if_neg hi, if_neg hi]
  unfold τ3
  rw [e4, e1]
  refine Prod.ext (funext fun q => ?_) (funext fun q => ?_)
  · rfl
  · show (if q = 5 then _ else if q = 2 then _ else if q = 3 then _ else if q = 4 then (rho T σ).2 4 else (τ2 T σ (sN σ)).2 q) = (if q = 5 then _ else if q = 2 then _ else if q = 3 then _ else (rho T σ).2 q)
    by_cases h5 : q = 5
    · rw [if_pos h5, if_pos h5]; rfl
    · rw [if_neg h5, if_neg h5]
      by_cases h2 : q = 2
      · rw [if_pos h2, if_pos h2]; rfl
      · rw [if_neg h2, if_neg h2]
        by_cases h3 : q = 3
        · rw [if_pos h3, if_pos h3]; rfl
        · rw [if_neg h3, if_neg h3]
          by_cases h4 : q = 4
          · rw [if_pos h4, h4]
          · rw [if_neg h4]
            show (if q = 4 then _ else σ.2 q) = (if q = 4 then _ else σ.2 q)
            rw [if_neg h4, if_neg h4]
def L3 (μ ν : MW) (T : Td) (lim : Int32) (σ : St) (paid : Int32) (j : Nat) : Prop := qr μ ν ∧ ν.1 23 = paid ∧ ν.1 24 = ruN lim (rho T σ) j ∧ ∀ i, i < sN σ → ν.2.1 8 i = cam T σ (sN σ) i
theorem loop_196 {j : Nat} (hj : j < 7) (hb : τ.2 5 j = σ.2 5 j) {P : jO → jH → Prop} (next : J g mX12_quarter (d + 6) hs P 129 [(0, .ref m), (1, .int (nI (j + 1)))] [] (mw h m (mS ν (setR τ 5 (upd (τ.2 5) j (ruH σ j)))))) : J g mX12_quarter (d + 6) hs P 196 [(0, .ref m), (1, .int (nI j))] [] (mw h m (mS ν τ)) := by
  have i43 : vp_in ((43 : Int32) + nI j) 3240 := kin (b := 43) (by omega)
  have x43 : ix ((43 : Int32) + nI j) = 43 + j := kx (b := 43) (by omega)
  have k43 : jmax 0 (kn (mS ν τ) (ix ((43 : Int32) + nI j)) - 1) = ruH σ j := by
    have e : kn (mS ν τ) (43 + j) = τ.2 5 j := kj (b := 43) (r := 5) rfl (by decide) hj
    rw [x43, e, hb, jmax_c]
    rfl
  refine bX12_quarter_196 ⟨_, mw_o, _, rfl, _, mw_o, _, rfl, _, _, mw_1, i43, _, _, mw_1, i43, fun h1 p1 => ?_⟩
  replace p1 : h1 = mw h m (mA (mS ν τ) 1 (upd (kn (mS ν τ)) (ix ((43 : Int32) + nI j)) (jmax 0 (kn (mS ν τ) (ix ((43 : Int32) + nI j)) - 1)))) := p1.trans (mw_p1 _)
  rw [k43] at p1
  replace p1 : h1 = mw h m (mS ν (setR τ 5 (upd (τ.2 5) j (ruH σ j)))) := p1.trans (congrArg (mw h m) (mS_set (b := 43) (r := 5) rfl (by decide) hj (by omega) rfl))
  subst p1
  rw [nI_1]
  exact next
theorem τ3_rows {j : Nat} : (τ3 T lim σ j).2 4 = fst j ((rho T σ).2 4) ((τ2 T σ (sN σ)).2 4) ∧ (τ3 T lim σ j).2 3 = fst j (ruG lim (rho T σ)) (σ.2 3) ∧ (τ3 T lim σ j).2 2 = fst j (ruC lim (rho T σ)) (σ.2 2) ∧ (τ3 T lim σ j).2 5 = fst j (ruH (rho T σ)) (σ.2 5) := ⟨rfl, rfl, rfl, rfl⟩
/-- one house more -/
theorem τ3_S {j : Nat} {a b c e : Nat → Int32} (h4 : a = fst (j + 1) ((rho T σ).2 4) ((τ2 T σ (sN σ)).2 4)) (h3 : b = fst (j + 1) (ruG lim (rho T σ)) (σ.2 3)) (h2 : c = fst (j + 1) (ruC lim (rho T σ)) (σ.2 2)) (h5 : e = fst (j + 1) (ruH (rho T σ)) (σ.2 5)) : setR (setR (setR (setR (τ3 T lim σ j) 4 a) 3 b) 2 c) 5 e = τ3 T lim σ (j + 1) := by
  subst h4 h3 h2 h5
  refine Prod.ext rfl (funext fun q => ?_)
  unfold τ3
  show (if q = 5 then _ else if q = 2 then _ else if q = 3 then _ else if q = 4 then _ else (if q = 5 then _ else if q = 2 then _ else if q = 3 then _ else if q = 4 then _ else (τ2 T σ (sN σ)).2 q)) = (if q = 5 then _ else if q = 2 then _ else if q = 3 then _ else if q = 4 then _ else (τ2 T σ (sN σ)).2 q)
  by_cases h5 : q = 5
  · rw [if_pos h5, if_pos h5]
  · rw [if_neg h5, if_neg h5, if_neg h5]
    by_cases h2 : q = 2
    · rw [if_pos h2, if_pos h2]
    · rw [if_neg h2, if_neg h2, if_neg h2]
      by_cases h3 : q = 3
      · rw [if_pos h3, if_pos h3]
      · rw [if_neg h3, if_neg h3, if_neg h3]
        by_cases h4 : q = 4
        · rw [if_pos h4, if_pos h4]
        · rw [if_neg h4, if_neg h4, if_neg h4]
theorem loop_129 (S : sok σ) (hg : ∀ i, i < sN σ → σ.2 3 i = 0 ∨ σ.2 3 i = 1) (E3 : kn μ 3 = lim) {paid : Int32} {P : jO → jH → Prop} (next : ∀ ν, L3 μ ν T lim σ paid (sN σ) → P (.inl none) (mw h m (mS ν (setI (τ3 T lim σ (sN σ)) 2 (σ.1 2 + 1))))) : ∀ r j ν, sN σ = j + r → L3 μ ν T lim σ paid j → J g mX12_quarter (d + 6) hs P 129 [(0, .ref m), (1, .int (nI j))] [] (mw h m (mS ν (τ3 T lim σ j))) := by
  have h7 := S.2
  intro r
  induction r with
  | zero =>
    intro j ν hj L
    have ej : sN σ = j := by omega
    refine bX12_quarter_129 ⟨_, mw_o, ?_⟩
    refine m_houses.pi (fun r h' hr => ?_) (fun E h' f => f.elim)
    obtain ⟨rfl, rfl⟩ := hr
    refine ⟨fun c => ?_, fun _ => ⟨_, mw_o, _, rfl, _, _, mw_1, mk3240 (j := 51) (by decide), _, _, mw_1, mk3240 (j := 51) (by decide), fun h1 p1 => ?_⟩⟩
    · have c' : nI j < σ.1 0 := c
      rw [S.1] at c'
      exact absurd c' (nI_nlt (by omega) (by omega))
    · have key := next ν (ej ▸ L)
      rw [ej] at key
      have e51 : mA (mS ν (τ3 T lim σ j)) 1 (upd (kn (mS ν (τ3 T lim σ j))) 51 (σ.1 2 + 1)) = mS ν (setI (τ3 T lim σ j) 2 (σ.1 2 + 1)) := by
        rw [mS_kn, kS_set51]
        unfold mS
        rw [mA_mA]
      replace p1 : h1 = mw h m (mS ν (setI (τ3 T lim σ j) 2 (σ.1 2 + 1))) := p1.trans ((mw_p1 _).trans (congrArg (mw h m) e51))
      subst p1
      exact key
  | succ r ih =>
    intro j ν hj L
    obtain ⟨l1, l2, l3, l4⟩ := L
    have hjn : nI j < σ.1 0 := by rw [S.1]; exact nI_lt (by omega) (by omega)
    have hjs : j < sN σ := by omega
    have hj7 : j < 7 := by omega
    have hij : vp_in (nI j) 7 := vp_in_nI (by omega) (by decide)
    have hix : ix (nI j) = j := ix_nI (by omega)
    have i36 : vp_in ((36 : Int32) + nI j) 3240 := kin (b := 36) (by omega)
    have x36 : ix ((36 : Int32) + nI j) = 36 + j := kx (b := 36) (by omega)
    have k36 : kn (mS ν (τ3 T lim σ j)) (ix ((36 : Int32) + nI j)) = σ.2 4 j - lef T σ j := by
      have e : kn (mS ν (τ3 T lim σ j)) (36 + j) = (τ3 T lim σ j).2 4 j := kj (b := 36) (r := 4) rfl (by decide) hj7
      rw [x36, e]
      show fst j _ (fst (sN σ) (fun i => σ.2 4 i - lef T σ i) (σ.2 4)) j = _
      rw [fst_at]
      unfold fst
      rw [if_pos hjs]
    have ed : jmin 999999 (kn (mS ν (τ3 T lim σ j)) (ix ((36 : Int32) + nI j)) + ν.2.1 8 (ix (nI j))) = (rho T σ).2 4 j := by
      rw [k36, hix, l4 j hjs, rho_at hjs, jmin_c]
    refine bX12_quarter_129 ⟨_, mw_o, ?_⟩
    refine m_houses.pi (fun r h' hr => ?_) (fun E h' f => f.elim)
    obtain ⟨rfl, rfl⟩ := hr
    refine ⟨fun _ => ⟨_, mw_o, _, rfl, _, mw_o, _, rfl, _, _, mw_1, i36, _, mw_o, _, rfl, _, _, mw_8, hij, ?_⟩, fun c => absurd hjn c⟩
    refine m_capped.pi (fun r h' hr => ?_) (fun E h' f => f.elim)
    obtain ⟨hr, rfl⟩ := hr
    replace hr : r = (rho T σ).2 4 j := hr.trans ed
    subst hr
    refine ⟨_, _, mw_1, i36, fun h1 p1 => ?_⟩
    have e4 : upd ((τ3 T lim σ j).2 4) j ((rho T σ).2 4 j) = fst (j + 1) ((rho T σ).2 4) ((τ2 T σ (sN σ)).2 4) := by
      rw [τ3_rows.1]
      exact fst_upd rfl
    replace p1 : h1 = mw h m (mS ν (setR (τ3 T lim σ j) 4 (upd ((τ3 T lim σ j).2 4) j ((rho T σ).2 4 j)))) := p1.trans ((mw_p1 _).trans (congrArg (mw h m) (mS_set (b := 36) (r := 4) rfl (by decide) hj7 (by omega) rfl)))
    rw [e4] at p1
    subst p1
    generalize hτ : setR (τ3 T lim σ j) 4 (fst (j + 1) ((rho T σ).2 4) ((τ2 T σ (sN σ)).2 4)) = τ
    have t4 : τ.2 4 j = (rho T σ).2 4 j := by
      rw [← hτ]
      show fst (j + 1) _ _ j = _
      unfold fst
      rw [if_pos (Nat.lt_succ_self j)]
    have t3 : τ.2 3 = fst j (ruG lim (rho T σ)) (σ.2 3) := by rw [← hτ]; rfl
    have t2 : τ.2 2 = fst j (ruC lim (rho T σ)) (σ.2 2) := by rw [← hτ]; rfl
    have t5 : τ.2 5 = fst j (ruH (rho T σ)) (σ.2 5) := by rw [← hτ]; rfl
    have k29 : kn (mS ν τ) (29 + j) = σ.2 3 j := by
      have e : kn (mS ν τ) (29 + j) = τ.2 3 j := kj (b := 29) (r := 3) rfl (by decide) hj7
      rw [e, t3, fst_at]
    have k36' : kn (mS ν τ) (ix ((36 : Int32) + nI j)) = (rho T σ).2 4 j := by
      have e : kn (mS ν τ) (36 + j) = τ.2 4 j := kj (b := 36) (r := 4) rfl (by decide) hj7
      rw [x36, e, t4]
    have k3 : kn (mS ν τ) 3 = lim := by
      rw [mS_kn, kS_ot (by omega), l1.k]
      exact E3
    have stay : ruB lim (rho T σ) j = false → J g mX12_quarter (d + 6) hs P 196 [(0, .ref m), (1, .int (nI j))] [] (mw h m (mS ν τ)) := by
      intro hb
      refine loop_196 (σ := rho T σ) hj7 (by rw [t5]; exact fst_at) ?_
      have e5 : upd (τ.2 5) j (ruH (rho T σ) j) = fst (j + 1) (ruH (rho T σ)) (σ.2 5) := by rw [t5]; exact fst_upd rfl
      rw [e5]
      have es : setR τ 5 (fst (j + 1) (ruH (rho T σ)) (σ.2 5)) = τ3 T lim σ (j + 1) := by
        have h3 : τ.2 3 = fst (j + 1) (ruG lim (rho T σ)) (σ.2 3) := by
          rw [t3, fst_skip]
          unfold ruG
          rw [if_neg (by rw [hb]; decide)]
          rfl
        have h2 : τ.2 2 = fst (j + 1) (ruC lim (rho T σ)) (σ.2 2) := by
          rw [t2, fst_skip]
          unfold ruC
          rw [if_neg (by rw [hb]; decide)]
          rfl
        have key := τ3_S (T := T) (lim := lim) (σ := σ) (j := j) rfl h3 h2 rfl
        rw [hτ, setR_same, setR_same] at key
        exact key
      rw [es]
      refine ih (j + 1) ν (by omega) ⟨l1, l2, ?_, l4⟩
      rw [l3]
      show _ = ruN lim (rho T σ) j + bI (ruB lim (rho T σ) j)
      rw [hb]
      exact (Int32.add_zero _).symm
    refine ⟨_, mw_o, ?_⟩
    refine (m_isGone (d := d + 4) hj7).pi (fun r h' hr => ?_) (fun E h' f => f.elim)
    obtain ⟨hr, rfl⟩ := hr
    rw [k29] at hr
    refine ⟨fun q => ⟨_, mw_o, _, rfl, _, _, mw_1, i36, _, mw_o, _, rfl, _, _, mw_1, mk3240 (j := 3) (by decide), fun q2 => ⟨_, mw_o, ?_⟩, fun q2 => stay ?_⟩, fun q => stay ?_⟩
    · have q2' : kn (mS ν τ) 3 < kn (mS ν τ) (ix ((36 : Int32) + nI j)) := q2
      rw [k3, k36'] at q2'
      have g0 : σ.2 3 j = 0 := by
        rcases hg j hjs with c | c
        · exact c
        · rw [hr, c] at q; exact absurd q (by decide)
      have hb : ruB lim (rho T σ) j = true := decide_eq_true ⟨g0, q2'⟩
      refine (m_ruins (d := d + 4) hj7).pv (fun h' hr => ?_) (fun E h' f => f.elim)
      subst hr
      rw [mS_I]
      refine loop_196 (σ := rho T σ) hj7 (by show τ.2 5 j = _; rw [t5]; exact fst_at) ?_
      have e5 : upd (τ.2 5) j (ruH (rho T σ) j) = fst (j + 1) (ruH (rho T σ)) (σ.2 5) := by rw [t5]; exact fst_upd rfl
      show J g mX12_quarter (d + 6) hs P 129 _ [] (mw h m (mS _ (setR (setR (setR τ 3 (upd (τ.2 3) j 1)) 2 (upd (τ.2 2) j 0)) 5 (upd (τ.2 5) j (ruH (rho T σ) j)))))
      have h3 : upd (τ.2 3) j 1 = fst (j + 1) (ruG lim (rho T σ)) (σ.2 3) := by
        rw [t3]
        refine fst_upd ?_
        unfold ruG
        rw [if_pos hb]
      have h2 : upd (τ.2 2) j 0 = fst (j + 1) (ruC lim (rho T σ)) (σ.2 2) := by
        rw [t2]
        refine fst_upd ?_
        unfold ruC
        rw [if_pos hb]
      have key := τ3_S (T := T) (lim := lim) (σ := σ) (j := j) rfl h3 h2 rfl
      rw [hτ] at key
      rw [e5, key]
      refine ih (j + 1) _ (by omega) ⟨l1.tr (qr_I _ (Or.inr rfl) _), l2, ?_, l4⟩
      show ν.1 24 + 1 = ruN lim (rho T σ) j + bI (ruB lim (rho T σ) j)
      rw [l3, hb]
      rfl
    · have q2' : ¬ kn (mS ν τ) 3 < kn (mS ν τ) (ix ((36 : Int32) + nI j)) := q2
      rw [k3, k36'] at q2'
      exact decide_eq_false (fun c => q2' c.2)
    · refine decide_eq_false (fun c => ?_)
      have c1 : σ.2 3 j = 0 := c.1
      rw [hr, c1] at q
      exact q (by decide)
end ML3
