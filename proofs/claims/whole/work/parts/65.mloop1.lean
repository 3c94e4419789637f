/-! The reference's quarter: all earn, debts grow -/
/-- the same but what a quarter leaves for a while -/
def qr (μ ν : MW) : Prop := (∀ k, ¬ k = 23 → ¬ k = 24 → ν.1 k = μ.1 k) ∧ ν.2.2 = μ.2.2 ∧ ∀ j, ¬ j = 6 → ¬ j = 7 → ¬ j = 8 → ¬ j = 9 → ν.2.1 j = μ.2.1 j
theorem qr.rf (μ : MW) : qr μ μ := ⟨fun _ _ _ => rfl, rfl, fun _ _ _ _ _ => rfl⟩
theorem qr.tr {a b c : MW} (x : qr a b) (y : qr b c) : qr a c := ⟨fun k h1 h2 => (y.1 k h1 h2).trans (x.1 k h1 h2), y.2.1.trans x.2.1, fun j h1 h2 h3 h4 => (y.2.2 j h1 h2 h3 h4).trans (x.2.2 j h1 h2 h3 h4)⟩
theorem mscr.q {a b : MW} (x : mscr a b) : qr a b := ⟨fun k _ _ => by rw [x.1], x.2.1, fun j h1 h2 _ _ => x.2.2 j h1 h2⟩
theorem qr_I (μ : MW) {k : Nat} (hk : k = 23 ∨ k = 24) (v : Int32) : qr μ (mI μ k v) := ⟨fun i h1 h2 => if_neg (by omega), rfl, fun _ _ _ _ _ => rfl⟩
theorem qr_A (μ : MW) {j : Nat} (hj : j = 6 ∨ j = 7 ∨ j = 8 ∨ j = 9) (f : Nat → Int32) : qr μ (mA μ j f) := ⟨fun _ _ _ => rfl, rfl, fun i h1 h2 h3 h4 => if_neg (by omega)⟩
theorem qr.k {a b : MW} (x : qr a b) : kn b = kn a := x.2.2 1 (by decide) (by decide) (by decide) (by decide)
theorem upd_id (f : Nat → Int32) (j : Nat) : upd f j (f j) = f := by
  funext i
  unfold upd
  by_cases h : i = j
  · rw [if_pos h, h]
  · rw [if_neg h]
section ML1
variable {g : jG} {d : Nat} {h hs : jH} {m : Nat} {μ ν : MW} {i k n : Int32} {T : Td} {σ τ : St}
theorem mS_A {j : Nat} (hj : ¬ j = 1) {f : Nat → Int32} : mA (mS ν τ) j f = mS (mA ν j f) τ := by
  unfold mS
  rw [mA_c (fun c => hj c.symm)]
  have e : kn (mA ν j f) = kn ν := if_neg (fun c => hj c.symm)
  rw [e]
theorem mS_I {k : Nat} {v : Int32} : mI (mS ν τ) k v = mS (mI ν k v) τ := rfl
/-- debts when all have earned and debts have grown -/
def D1 (T : Td) (σ : St) : Nat → Int32 := (pas1 T σ).2 4
theorem D1_at {j : Nat} (hj : j < sN σ) : D1 T σ j = jmin 999999 (stDebt T σ j + grow T σ (nI j) (stDebt T σ j)) := by
  have e : (stl T σ (sN σ)).2 4 j = stDebt T σ j := by
    show fst (sN σ) (stDebt T σ) (σ.2 4) j = _
    unfold fst
    rw [if_pos hj]
  show fst (sN σ) (gwD T (stl T σ (sN σ))) ((stl T σ (sN σ)).2 4) j = _
  unfold fst
  rw [if_pos hj]
  unfold gwD
  rw [e, jmin_c]
  rfl
theorem ea_C {j : Nat} (rc : rng (σ.2 2 j)) (re : rng (σ.2 0 j)) (rs : rng (σ.2 1 j)) : jmax 0 (eaC σ j) = stC2 σ j := by
  unfold eaC stC2 stC1
  rw [jmax_c, jmin_c]
theorem ea_D {j : Nat} (rc : rng (σ.2 2 j)) (re : rng (σ.2 0 j)) (rs : rng (σ.2 1 j)) (rb : rng (σ.2 4 j)) : eaD σ j = stD1 σ j := by
  have t1 : (σ.2 2 j + σ.2 0 j).toInt = (σ.2 2 j).toInt + (σ.2 0 j).toInt := tI_add (by have := rc; have := re; unfold rng at *; omega)
  have t2 : (stC1 σ j).toInt = (σ.2 2 j).toInt + (σ.2 0 j).toInt - (σ.2 1 j).toInt := by
    unfold stC1
    rw [tI_sub (by rw [t1]; unfold rng at *; omega), t1]
  have z0 : (0 : Int32).toInt = 0 := rfl
  have z9 : (999999 : Int32).toInt = 999999 := rfl
  unfold eaD stD1
  have ee : eaC σ j = jmin 999999 (stC1 σ j) := rfl
  by_cases c : stC1 σ j < 0
  · rw [if_pos c]
    have e1 : eaC σ j = stC1 σ j := by
      rw [ee]
      unfold jmin
      rw [if_pos (by rw [Int32.lt_iff_toInt_lt] at c ⊢; rw [z0] at c; rw [z9]; omega)]
    have tn : (-(stC1 σ j)).toInt = -(stC1 σ j).toInt := by
      rw [← Int32.zero_sub, tI_sub (by rw [z0]; unfold rng at *; omega), z0]
      omega
    have e2 : jmax 0 (-(stC1 σ j)) = -(stC1 σ j) := by
      unfold jmax
      rw [if_pos]
      rw [Int32.lt_iff_toInt_lt] at c ⊢
      rw [tn]
      omega
    rw [e1, e2, jmin_c]
    congr 1
    apply Int32.toInt_inj.mp
    rw [tI_add (by rw [tn]; unfold rng at *; omega), tI_sub (by unfold rng at *; omega), tn]
    omega
  · rw [if_neg c]
    have tc : (eaC σ j).toInt ≤ 999999 ∧ 0 ≤ (eaC σ j).toInt := by
      rw [ee]
      unfold jmin
      rw [Int32.lt_iff_toInt_lt] at c
      by_cases c2 : stC1 σ j < 999999
      · rw [if_pos c2]
        rw [Int32.lt_iff_toInt_lt] at c2
        omega
      · rw [if_neg c2]
        omega
    have e2 : jmax 0 (-(eaC σ j)) = 0 := by
      unfold jmax
      rw [if_neg]
      rw [Int32.lt_iff_toInt_lt, ← Int32.zero_sub, tI_sub (by rw [z0]; omega), z0]
      omega
    rw [e2, Int32.add_zero]
    exact cap_rng rb
def τ1 (T : Td) (σ : St) (j : Nat) : St := setR (setR σ 2 (fst j (stCash T σ) (σ.2 2))) 4 (fst j (D1 T σ) (σ.2 4))
theorem τ1_0 : τ1 T σ 0 = σ := by
  unfold τ1
  rw [fst_0, fst_0]
  refine Prod.ext rfl (funext fun q => ?_)
  show (if q = 4 then σ.2 4 else if q = 2 then σ.2 2 else σ.2 q) = σ.2 q
  by_cases h : q = 4
  · rw [if_pos h, h]
  · rw [if_neg h]
    by_cases h2 : q = 2
    · rw [if_pos h2, h2]
    · rw [if_neg h2]
/-- a house in its turn: how its cash and debt stand after it has earned, when it is not gone -/
theorem τ1_e {j : Nat} (hj : j < sN σ) (B : stB σ) (h0 : σ.2 3 j = 0) : eaS T σ (τ1 T σ j) j = setR (setR σ 2 (fst (j + 1) (stCash T σ) (σ.2 2))) 4 (upd (fst j (D1 T σ) (σ.2 4)) j (stDebt T σ j)) := by
  obtain ⟨_, B2, _⟩ := B
  obtain ⟨_, r0, r1, r2, r4⟩ := B2 j hj
  have c2 : (τ1 T σ j).2 2 j = σ.2 2 j := fst_at
  have c4 : (τ1 T σ j).2 4 j = σ.2 4 j := fst_at
  have eC : eaC (τ1 T σ j) j = eaC σ j := by unfold eaC; rw [c2]; rfl
  have eD : eaD (τ1 T σ j) j = eaD σ j := by unfold eaD; rw [eC, c4]
  have eP : eaP T σ (τ1 T σ j) j = stP T σ j := by
    unfold eaP stP
    rw [eC, eD, ea_C r2 r0 r1, ea_D r2 r0 r1 r4, if_pos h0]
  unfold eaS
  rw [eP, eC, eD, ea_C r2 r0 r1, ea_D r2 r0 r1 r4]
  show setR (setR (setR (setR σ 2 (fst j (stCash T σ) (σ.2 2))) 4 (fst j (D1 T σ) (σ.2 4))) 2 (upd (fst j (stCash T σ) (σ.2 2)) j (stC2 σ j - stP T σ j))) 4 (upd (fst j (D1 T σ) (σ.2 4)) j (stD1 σ j - stP T σ j)) = _
  have e1 : stC2 σ j - stP T σ j = stCash T σ j := by unfold stCash; rw [if_pos h0]
  have e2 : stD1 σ j - stP T σ j = stDebt T σ j := by unfold stDebt; rw [if_pos h0]
  rw [fst_upd e1, e2, setR_c (r := 4) (r' := 2) (by decide), setR_setR, setR_setR]
theorem eaP_e {j : Nat} (hj : j < sN σ) (B : stB σ) (h0 : σ.2 3 j = 0) : eaP T σ (τ1 T σ j) j = stP T σ j := by
  obtain ⟨_, B2, _⟩ := B
  obtain ⟨_, r0, r1, r2, r4⟩ := B2 j hj
  have c2 : (τ1 T σ j).2 2 j = σ.2 2 j := fst_at
  have c4 : (τ1 T σ j).2 4 j = σ.2 4 j := fst_at
  have eC : eaC (τ1 T σ j) j = eaC σ j := by unfold eaC; rw [c2]; rfl
  have eD : eaD (τ1 T σ j) j = eaD σ j := by unfold eaD; rw [eC, c4]
  unfold eaP stP
  rw [eC, eD, ea_C r2 r0 r1, ea_D r2 r0 r1 r4, if_pos h0]
theorem loop_33 {j : Nat} (hj : j < sN σ) (S : sok σ) (E : encT (kn ν) T) {P : jO → jH → Prop} (next : ∀ ν', mscr ν ν' → J g mX12_quarter (d + 6) hs P 12 [(0, .ref m), (1, .int (nI (j + 1)))] [] (mw h m (mA (mA (mS ν' (τ1 T σ (j + 1))) 9 (upd (ν.2.1 9) j (D1 T σ j))) 8 (upd (ν.2.1 8) j 0)))) :
    J g mX12_quarter (d + 6) hs P 33 [(0, .ref m), (1, .int (nI j))] [] (mw h m (mS ν (setR (setR σ 2 (fst (j + 1) (stCash T σ) (σ.2 2))) 4 (upd (fst j (D1 T σ) (σ.2 4)) j (stDebt T σ j))))) := by
  have h7 := S.2
  have x36 : ix ((36 : Int32) + nI j) = 36 + j := kx (b := 36) (by omega)
  have i36 : vp_in ((36 : Int32) + nI j) 3240 := kin (b := 36) (by omega)
  have hij : vp_in (nI j) 7 := vp_in_nI (by omega) (by decide)
  have hix : ix (nI j) = j := ix_nI (by omega)
  generalize hτ : setR (setR σ 2 (fst (j + 1) (stCash T σ) (σ.2 2))) 4 (upd (fst j (D1 T σ) (σ.2 4)) j (stDebt T σ j)) = τ
  have t4 : τ.2 4 j = stDebt T σ j := by rw [← hτ]; show upd _ j _ j = _; unfold upd; rw [if_pos rfl]
  have t1 : τ.1 2 = σ.1 2 := by rw [← hτ]; rfl
  have a36 : kn (mS ν τ) (ix ((36 : Int32) + nI j)) = stDebt T σ j := by rw [x36]; exact (kj (b := 36) (r := 4) rfl (by decide) (by omega)).trans t4
  have ET : encT (kn (mS ν τ)) T := by rw [mS_kn]; exact encT_kS E
  refine bX12_quarter_33 ⟨_, mw_o, _, rfl, _, mw_o, _, rfl, _, _, mw_1, i36, _, mw_o, _, rfl, _, _, mw_1, i36, _, mw_o, ?_⟩
  show Con g mX12_growsBy (d + 5) [.ref m, .int (nI j), .int (kn (mS ν τ) (ix ((36 : Int32) + nI j)))] (mw h m (mS ν τ)) _
  rw [a36]
  refine (m_growsBy (d := d + 1) (N := 0) (μ := mS ν τ) (σ := σ) (T := T) (by omega) t1 ET.2.2.2.2.1).pi (fun r h' hr => ?_) (fun E h' f => f.elim)
  obtain ⟨rfl, μ', hs', rfl⟩ := hr
  obtain ⟨ν2, hs2, rfl⟩ := mS_scr hs'
  have ed : jmin 999999 (kn (mS ν τ) (ix ((36 : Int32) + nI j)) + grow T σ (nI j) (stDebt T σ j)) = D1 T σ j := by rw [a36]; exact (D1_at hj).symm
  refine m_capped.pi (fun r h' hr => ?_) (fun E h' f => f.elim)
  obtain ⟨hr, rfl⟩ := hr
  replace hr : r = D1 T σ j := hr.trans ed
  subst hr
  refine ⟨_, _, mw_1, i36, fun h1 p1 => ?_⟩
  have es : setR τ 4 (upd (τ.2 4) j (D1 T σ j)) = τ1 T σ (j + 1) := by
    rw [← hτ]
    show setR (setR (setR σ 2 (fst (j + 1) (stCash T σ) (σ.2 2))) 4 (upd (fst j (D1 T σ) (σ.2 4)) j (stDebt T σ j))) 4 (upd (upd (fst j (D1 T σ) (σ.2 4)) j (stDebt T σ j)) j (D1 T σ j)) = _
    rw [upd_upd, setR_setR, fst_upd rfl]
    rfl
  replace p1 : h1 = mw h m (mS ν2 (τ1 T σ (j + 1))) := p1.trans ((mw_p1 _).trans (congrArg (mw h m) ((mS_set (μ := ν2) (τ := τ) (b := 36) (r := 4) (v := D1 T σ j) rfl (by decide) (by omega) (by omega) rfl).trans (congrArg (mS ν2) es))))
  subst p1
  have b4 : (τ1 T σ (j + 1)).2 4 j = D1 T σ j := by
    show fst (j + 1) (D1 T σ) (σ.2 4) j = _
    unfold fst
    rw [if_pos (Nat.lt_succ_self j)]
  have a36' : kn (mS ν2 (τ1 T σ (j + 1))) (ix ((36 : Int32) + nI j)) = D1 T σ j := by rw [x36]; exact (kj (b := 36) (r := 4) rfl (by decide) (by omega)).trans b4
  refine ⟨_, mw_o, _, rfl, _, mw_o, _, rfl, _, _, mw_1, i36, _, _, mw_9, hij, fun h1 p1 => ?_⟩
  replace p1 : h1 = mw h m (mA (mS ν2 (τ1 T σ (j + 1))) 9 (upd (ν2.2.1 9) (ix (nI j)) (kn (mS ν2 (τ1 T σ (j + 1))) (ix ((36 : Int32) + nI j))))) := p1.trans (mw_p9 _)
  rw [a36', hix, hs2.2.2 9 (by decide) (by decide)] at p1
  subst p1
  refine ⟨_, mw_o, _, rfl, _, _, mw_8, hij, fun h1 p1 => ?_⟩
  replace p1 : h1 = mw h m (mA (mA (mS ν2 (τ1 T σ (j + 1))) 9 (upd (ν.2.1 9) j (D1 T σ j))) 8 (upd (ν2.2.1 8) (ix (nI j)) 0)) := p1.trans (mw_p8 _)
  rw [hix, hs2.2.2 8 (by decide) (by decide)] at p1
  subst p1
  rw [nI_1]
  exact next ν2 hs2
/-- all houses so far have earned: how the world stands -/
def L1 (μ ν : MW) (T : Td) (σ : St) (j : Nat) : Prop := qr μ ν ∧ ν.1 23 = sumN (stP T σ) j ∧ ν.1 24 = 0 ∧ ∀ i, i < j → ν.2.1 9 i = D1 T σ i ∧ ν.2.1 8 i = 0
theorem τ1_g {j : Nat} (hj : j < sN σ) (hg : σ.2 3 j = 1) : τ1 T σ j = setR (setR σ 2 (fst (j + 1) (stCash T σ) (σ.2 2))) 4 (upd (fst j (D1 T σ) (σ.2 4)) j (stDebt T σ j)) := by
  have e1 : stCash T σ j = σ.2 2 j := by unfold stCash; rw [if_neg (by rw [hg]; decide)]
  have e2 : stDebt T σ j = σ.2 4 j := by unfold stDebt; rw [if_neg (by rw [hg]; decide)]
  have e3 : upd (fst j (D1 T σ) (σ.2 4)) j (stDebt T σ j) = fst j (D1 T σ) (σ.2 4) := by
    rw [e2]
    have : σ.2 4 j = fst j (D1 T σ) (σ.2 4) j := fst_at.symm
    rw [this]
    exact upd_id _ _
  rw [fst_skip e1, e3]
  rfl
theorem loop_12 (B : stB σ) (E : encT (kn μ) T) {P : jO → jH → Prop} (next : ∀ ν, L1 μ ν T σ (sN σ) → J g mX12_quarter (d + 6) hs P 99 [(0, .ref m), (1, .int 0)] [] (mw h m (mS ν (τ1 T σ (sN σ))))) : ∀ r j ν, sN σ = j + r → L1 μ ν T σ j → J g mX12_quarter (d + 6) hs P 12 [(0, .ref m), (1, .int (nI j))] [] (mw h m (mS ν (τ1 T σ j))) := by
  have S := B.1
  have h7 := S.2
  intro r
  induction r with
  | zero =>
    intro j ν hj L
    have : sN σ = j := by omega
    refine bX12_quarter_12 ⟨_, mw_o, ?_⟩
    refine m_houses.pi (fun r h' hr => ?_) (fun E h' f => f.elim)
    obtain ⟨rfl, rfl⟩ := hr
    refine ⟨fun c => ?_, fun _ => ?_⟩
    · have c' : nI j < σ.1 0 := c
      rw [S.1] at c'
      exact absurd c' (nI_nlt (by omega) (by omega))
    · have key := next ν (this ▸ L)
      rw [this] at key
      exact key
  | succ r ih =>
    intro j ν hj L
    obtain ⟨l1, l2, l3, l4⟩ := L
    have hjn : nI j < σ.1 0 := by rw [S.1]; exact nI_lt (by omega) (by omega)
    have hjs : j < sN σ := by omega
    have EN : encT (kn ν) T := by rw [l1.k]; exact E
    have g3 : kn (mS ν (τ1 T σ j)) (29 + j) = σ.2 3 j := kj (b := 29) (r := 3) rfl (by decide) (by omega)
    have hh : sHas σ (nI j) = true := decide_eq_true ⟨nI_pos (by omega), hjn⟩
    refine bX12_quarter_12 ⟨_, mw_o, ?_⟩
    refine m_houses.pi (fun r h' hr => ?_) (fun E h' f => f.elim)
    obtain ⟨rfl, rfl⟩ := hr
    refine ⟨fun _ => ⟨_, mw_o, ?_⟩, fun c => absurd hjn c⟩
    refine (m_isGone (d := d + 4) (by omega)).pi (fun r h' hr => ?_) (fun E h' f => f.elim)
    obtain ⟨hr, rfl⟩ := hr
    rw [g3] at hr
    have go : ∀ ν', mscr ν ν' → ∀ ν'', ν''.1 23 = sumN (stP T σ) (j + 1) → ν''.1 24 = 0 → qr ν' ν'' → ν''.2.1 = ν'.2.1 → (∀ ν3, mscr ν'' ν3 → J g mX12_quarter (d + 6) hs P 12 [(0, .ref m), (1, .int (nI (j + 1)))] [] (mw h m (mA (mA (mS ν3 (τ1 T σ (j + 1))) 9 (upd (ν''.2.1 9) j (D1 T σ j))) 8 (upd (ν''.2.1 8) j 0)))) := by
      intro ν' s1 ν'' a23 a24 q1 aA ν3 s3
      rw [mS_A (by decide), mS_A (by decide)]
      refine ih (j + 1) _ (by omega) ⟨?_, ?_, ?_, ?_⟩
      · exact (l1.tr (s1.q.tr (q1.tr s3.q))).tr ((qr_A _ (by decide) _).tr (qr_A _ (by decide) _))
      · show ν3.1 23 = _
        rw [s3.1, a23]
      · show ν3.1 24 = _
        rw [s3.1, a24]
      · intro i hi
        have e9 : ν''.2.1 9 = ν.2.1 9 := by rw [aA]; exact s1.2.2 9 (by decide) (by decide)
        have e8 : ν''.2.1 8 = ν.2.1 8 := by rw [aA]; exact s1.2.2 8 (by decide) (by decide)
        show upd (ν''.2.1 9) j (D1 T σ j) i = _ ∧ upd (ν''.2.1 8) j 0 i = 0
        rw [e9, e8]
        unfold upd
        by_cases hij : i = j
        · rw [if_pos hij, if_pos hij, hij]
          exact ⟨rfl, rfl⟩
        · rw [if_neg hij, if_neg hij]
          exact l4 i (by omega)
    refine ⟨fun q => ⟨_, mw_o, ?_⟩, fun q => ?_⟩
    · have hg : σ.2 3 j = 0 := by
        rcases (B.2.1 j hjs).1 with c | c
        · exact c
        · rw [hr, c] at q
          exact absurd q (by decide)
      refine (m_earn (μ := ν) (τ := τ1 T σ j) (σ := σ) (by omega) hh rfl rfl rfl EN).pv (fun h' hr => ?_) (fun E h' f => f.elim)
      obtain ⟨ν', s1, rfl⟩ := hr
      rw [τ1_e hjs B hg, eaP_e hjs B hg, l2]
      rw [mS_I]
      refine loop_33 (ν := mI ν' 23 (sumN (stP T σ) j + stP T σ j)) hjs S (by show encT (kn ν') T; rw [s1.q.k]; exact EN) (fun ν3 s3 => ?_)
      exact go ν' s1 (mI ν' 23 (sumN (stP T σ) j + stP T σ j)) rfl (by show ν'.1 24 = 0; rw [s1.1]; exact l3) (qr_I _ (Or.inl rfl) _) rfl ν3 s3
    · have hg : σ.2 3 j = 1 := by
        rcases (B.2.1 j hjs).1 with c | c
        · rw [hr, c] at q
          exact absurd (by decide) q
        · exact c
      rw [τ1_g hjs hg]
      refine loop_33 hjs S EN (fun ν3 s3 => ?_)
      refine go ν (mscr.rf ν) ν ?_ l3 (qr.rf ν) rfl ν3 s3
      show ν.1 23 = sumN (stP T σ) j + stP T σ j
      have : stP T σ j = 0 := by unfold stP; rw [if_neg (by rw [hg]; decide)]
      rw [l2, this, Int32.add_zero]
end ML1
