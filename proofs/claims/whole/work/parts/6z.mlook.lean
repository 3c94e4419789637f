/-! The reference: what is seen -/
section MLK
variable {g : jG} {d : Nat} {h : jH} {m : Nat} {μ ν : MW} {i k n w : Int32} {T : Td} {σ τ β : St} {I A : List Nat} {N : Nat} {v : Int64} {Y : Nat → Ty} {K : Nat → Int32} {f : Nat → Int64} {δ : Ds}
theorem t7 : ∀ n, n < 694 → (7 : Int32) * nI n = nI (7 * n) := by decide +kernel
theorem m_addsFit {F two : Nat} (B : stB τ) (E : encT (kn μ) T) (hF : F < 693) (h2 : two < 693) (e32 : μ.1 32 = nI F) : Con g mX12_addsFit (d + 7) [.ref m, .int (nI two)] (mw h m (mS μ τ)) (wPv h m (fun ν => ∃ μ', dif [23, 24, 32] [6, 7, 8, 9, 13, 14] μ μ' ∧ μ'.1 32 = nI (F + 1) ∧ μ'.2.1 13 = upd (μ.2.1 13) F (nI (100 * (two / 99) + (two % 99 + 1))) ∧ (∀ x, μ'.2.1 14 x = if 7 * F ≤ x ∧ x < 7 * F + sN τ then pasCame T τ (x - 7 * F) else μ.2.1 14 x) ∧ ν = mS μ' (pas T T.1.2.2 τ))) := by
  have S := B.1
  have h7 := S.2
  have Sp : sok (pas T T.1.2.2 τ) := (stB_pas B).1
  have eN : sN (pas T T.1.2.2 τ) = sN τ := by unfold sN; rw [pas_1]
  refine con_of km_X12_addsFit.1.2.2.2.2 (Nat.le_of_ble_eq_true rfl) rfl (wX12_addsFit_0 ⟨_, m_quarterW (d := d) (σ := τ) B E, fun μ1 q => ?_⟩)
  obtain ⟨μ2, q1, -, -, q8, rfl⟩ := q
  have a32 : μ2.1 32 = nI F := (q1.1 32 (by decide) (by decide)).trans e32
  have loop : ∀ r j G, j + r = sN τ → (∀ x, G x = if 7 * F ≤ x ∧ x < 7 * F + j then pasCame T τ (x - 7 * F) else μ.2.1 14 x) → J g mX12_addsFit (d + 7) (mw h m (mS μ τ)) (wPv h m (fun ν => ∃ μ', dif [23, 24, 32] [6, 7, 8, 9, 13, 14] μ μ' ∧ μ'.1 32 = nI (F + 1) ∧ μ'.2.1 13 = upd (μ.2.1 13) F (nI (100 * (two / 99) + (two % 99 + 1))) ∧ (∀ x, μ'.2.1 14 x = if 7 * F ≤ x ∧ x < 7 * F + sN τ then pasCame T τ (x - 7 * F) else μ.2.1 14 x) ∧ ν = mS μ' (pas T T.1.2.2 τ))) 6 [(0, .ref m), (1, .int (nI two)), (2, .int (nI j))] [] (mw h m (mS (mA μ2 14 G) (pas T T.1.2.2 τ))) := by
    intro r
    induction r with
    | zero =>
      intro j G hj hG
      have : j = sN τ := by omega
      subst this
      refine wX12_addsFit_6 ⟨_, m_housesS (σ := pas T T.1.2.2 τ), fun f => ?_, fun _ => ?_⟩
      · rw [Sp.1, eN] at f
        exact absurd f (nI_nlt (by omega) (by omega))
      · have e1 : (mS (mA μ2 14 G) (pas T T.1.2.2 τ)).1 32 = nI F := a32
        rw [e1, t99v _ h2, ix_nI (by omega)]
        refine ⟨vp_in_nI (by omega) (by decide), _, ⟨mI (mA (mA μ2 14 G) 13 (upd (μ2.2.1 13) F (nI (100 * (two / 99) + (two % 99 + 1))))) 32 (nI (F + 1)), ?_, mI_at 32 _, ?_, hG, ?_⟩, rfl⟩
        · exact (((qr.df q1).up (by decide) (by decide)).tr (dif_A (by decide) _)).tr ((dif_A (by decide) _).tr (dif_I (by decide) _))
        · show upd (μ2.2.1 13) F _ = _
          rw [q1.2.2 13 (by decide) (by decide) (by decide) (by decide)]
        · rw [mS_A (by decide), mS_I]
          show mS (mI _ 32 ((mS _ _).1 32 + 1)) _ = _
          rw [show (mS (mA (mA μ2 14 G) 13 (upd ((mS (mA μ2 14 G) (pas T T.1.2.2 τ)).2.1 13) F (nI (100 * (two / 99) + (two % 99 + 1))))) (pas T T.1.2.2 τ)).1 32 = nI F from a32, nI_1]
          rfl
    | succ r ih =>
      intro j G hj hG
      refine wX12_addsFit_6 ⟨_, m_housesS (σ := pas T T.1.2.2 τ), fun _ => ?_, fun f => ?_⟩
      · have e1 : (mS (mA μ2 14 G) (pas T T.1.2.2 τ)).1 32 = nI F := a32
        have e8 : (mS (mA μ2 14 G) (pas T T.1.2.2 τ)).2.1 8 (ix (nI j)) = pasCame T τ j := by
          rw [ix_nI (by omega)]; exact q8 j (by omega)
        rw [e1, e8, t7 F (by omega), nI_plus, ix_nI (by omega), mS_A (by decide), mA_mA, nI_1]
        refine ⟨vp_in_nI (by omega) (by decide), vp_in_nI (by omega) (by decide), ih (j + 1) _ (by omega) (fun x => ?_)⟩
        show upd G (7 * F + j) (pasCame T τ j) x = _
        unfold upd
        by_cases c : x = 7 * F + j
        · rw [if_pos c, if_pos (by omega), c, Nat.add_sub_cancel_left]
        · rw [if_neg c, hG]
          by_cases c2 : 7 * F ≤ x ∧ x < 7 * F + j
          · rw [if_pos c2, if_pos (by omega)]
          · rw [if_neg c2, if_neg (by omega)]
      · rw [Sp.1, eN] at f
        exact absurd (nI_lt (by omega) (by omega)) f
  have e0 : mA μ2 14 (μ2.2.1 14) = μ2 := by
    unfold mA
    have e2 : (fun i => if i = 14 then μ2.2.1 14 else μ2.2.1 i) = μ2.2.1 := by
      funext i
      by_cases c : i = 14
      · rw [if_pos c, c]
      · rw [if_neg c]
    rw [e2]
  have z := loop (sN τ) 0 (μ2.2.1 14) (by omega) (fun x => by rw [if_neg (by omega), q1.2.2 14 (by decide) (by decide) (by decide) (by decide)])
  rw [e0] at z
  exact z
theorem lay_85 {hs : jH} {P : jO → jH → Prop} {x3 : Int32} {M x : Nat} (B : stB τ) (E : encT (kn μ) T) (c : trOk i = true) (y : tysAt μ Y) (hM : M ≤ 30) (eM : (Y (ix i)).1 = nI M) (hx : x < sN τ) (Ya : asd μ σ)
    (yes : fitR T τ (Y (ix i)).2.2 x M 0 = true → ∀ μ', qr μ μ' → J g mX12_laysFits (d + 8) hs P 160 [(0, .ref m), (1, .int i), (2, .int (nI x)), (3, .int x3), (4, .int 1)] [] (mw h m (mS μ' (pN T τ M))))
    (no : fitR T τ (Y (ix i)).2.2 x M 0 = false → ∀ μ' j, qr μ μ' → J g mX12_laysFits (d + 8) hs P 160 [(0, .ref m), (1, .int i), (2, .int (nI x)), (3, .int x3), (4, .int 0)] [] (mw h m (mS μ' (pN T τ j)))) :
    J g mX12_laysFits (d + 8) hs P 85 [(0, .ref m), (1, .int i), (2, .int (nI x)), (3, .int x3), (4, .int 1), (5, .int 0)] [] (mw h m (mS μ τ)) := by
  have h7 := B.1.2
  have tq : ∀ {μ'}, qr μ μ' → tysAt μ' Y := fun q => dif.ty (qr.df q) (by decide) (by decide) y
  have bad : ∀ {hs j μ'} j', fitR T τ (Y (ix i)).2.2 x M 0 = false → qr μ μ' → (∀ μ' j, qr μ μ' → J g mX12_laysFits (d + 8) hs P 160 [(0, .ref m), (1, .int i), (2, .int (nI x)), (3, .int x3), (4, .int 0)] [] (mw h m (mS μ' (pN T τ j)))) → J g mX12_laysFits (d + 8) hs P 85 [(0, .ref m), (1, .int i), (2, .int (nI x)), (3, .int x3), (4, .int 0), (5, .int j')] [] (mw h m (mS μ' (pN T τ j))) := by
    intro hs j μ' j' h0 q no
    exact wX12_laysFits_85 ⟨(ty_many (tq q) c).1, fun _ => ⟨fun _ => no μ' j q, fun f => absurd rfl f⟩, fun _ => no μ' j q⟩
  have loop : ∀ r j μ', j + r = M → qr μ μ' → fitR T τ (Y (ix i)).2.2 x M 0 = fitR T τ (Y (ix i)).2.2 x r j → J g mX12_laysFits (d + 8) hs P 85 [(0, .ref m), (1, .int i), (2, .int (nI x)), (3, .int x3), (4, .int 1), (5, .int (nI j))] [] (mw h m (mS μ' (pN T τ j))) := by
    intro r
    induction r with
    | zero =>
      intro j μ' hj q hf
      have : j = M := by omega
      subst this
      obtain ⟨y1, y2⟩ := ty_many (tq q) c
      have y3 : (mS μ' (pN T τ j)).2.1 16 (ix i) = nI j := y2.trans eM
      refine wX12_laysFits_85 ⟨y1, fun f => ?_, fun _ => yes hf μ' q⟩
      rw [y3] at f
      exact absurd f (nI_nlt (by omega) (by omega))
    | succ r ih =>
      intro j μ' hj q hf
      obtain ⟨y1, y2⟩ := ty_many (tq q) c
      have y3 : (mS μ' (pN T τ j)).2.1 16 (ix i) = nI M := y2.trans eM
      have Bj := stB_pasN (T := T) (lim := T.1.2.2) B j
      refine wX12_laysFits_85 ⟨y1, fun _ => ⟨fun f => absurd f (by decide), fun _ => ⟨_, m_quarterW (d := d + 1) (σ := pN T τ j) Bj (by rw [q.k]; exact E), fun μ3 q3 => ?_⟩⟩, fun f => ?_⟩
      · obtain ⟨μ4, q4, -, -, q8, rfl⟩ := q3
        have q5 := q.tr q4
        obtain ⟨z1, z2⟩ := ty_at (tq q5) c j (by omega)
        have z3 : (mS μ4 (pas T T.1.2.2 (pN T τ j))).2.2 (ix (30 * i + nI j)) = (Y (ix i)).2.2 j := z2
        have e8 : (mS μ4 (pas T T.1.2.2 (pN T τ j))).2.1 8 (ix (nI x)) = pasCame T (pN T τ j) x := by
          rw [ix_nI (by omega)]; exact q8 x (by rw [pN_N]; exact hx)
        have ef : fitR T τ (Y (ix i)).2.2 x (r + 1) j = if seenOk T τ (Y (ix i)).2.2 x j = true then fitR T τ (Y (ix i)).2.2 x r (j + 1) else false := rfl
        rw [z3, e8, nI_1]
        have good : seenOk T τ (Y (ix i)).2.2 x j = true → J g mX12_laysFits (d + 8) hs P 85 [(0, .ref m), (1, .int i), (2, .int (nI x)), (3, .int x3), (4, .int 1), (5, .int (nI (j + 1)))] [] (mw h m (mS μ4 (pas T T.1.2.2 (pN T τ j)))) := fun ok => by
          rw [ef, if_pos ok] at hf
          exact ih (j + 1) μ4 (by omega) q5 hf
        refine ⟨z1, fun f => good (decide_eq_true (Or.inl f)), fun f => ⟨z1, vp_in_nI (by omega) (by decide), fun f2 => good (decide_eq_true (Or.inr f2)), fun f2 => ?_⟩⟩
        have h0 : fitR T τ (Y (ix i)).2.2 x M 0 = false := by
          rw [hf, ef, if_neg (fun q => (of_decide_eq_true q).elim f f2)]
        exact bad (j := j + 1) (nI (j + 1)) h0 q5 (no h0)
      · rw [y3] at f
        exact absurd (nI_lt (by omega) (by omega)) f
  exact loop M 0 μ (by omega) (qr.rf μ) rfl
theorem m_laysFits {M x : Nat} (B : stB σ) (E : encT (kn μ) T) (b : encB (kn μ) β) (D : dB β) (eb : β.1 0 = σ.1 0) (c : trOk i = true) (y : tysAt μ Y) (hM : M ≤ 30) (eM : (Y (ix i)).1 = nI M) (hx : x < sN σ) : Con g mX12_laysFits (d + 8) [.ref m, .int i, .int (nI x)] (mw h m (mS μ σ)) (wPv h m (fun ν => ∃ μ', ms μ μ' ∧ μ'.1 4 = μ.1 4 ∧ fitsA T β (Y (ix i)).2.2 x M (99 * sN σ) μ' ∧ ν = mS μ' σ)) := by
  have S := B.1
  have h7 := S.2
  have eN : sN β = sN σ := by unfold sN; rw [eb]
  refine con_of km_X12_laysFits.1.2.2.2.2 (Nat.le_of_ble_eq_true rfl) rfl (wX12_laysFits_0 ?_)
  rw [mS_I]
  have loop : ∀ r n μ', n + r = 99 * sN σ → ms μ μ' → μ'.1 4 = μ.1 4 → fitsA T β (Y (ix i)).2.2 x M n μ' → J g mX12_laysFits (d + 8) (mw h m (mS μ σ)) (wPv h m (fun ν => ∃ μ', ms μ μ' ∧ μ'.1 4 = μ.1 4 ∧ fitsA T β (Y (ix i)).2.2 x M (99 * sN σ) μ' ∧ ν = mS μ' σ)) 7 [(0, .ref m), (1, .int i), (2, .int (nI x)), (3, .int (nI n))] [] (mw h m (mS μ' σ)) := by
    intro r
    induction r with
    | zero =>
      intro n μ' hn q q4 qf
      have : n = 99 * sN σ := by omega
      subst this
      refine wX12_laysFits_7 ⟨_, m_housesS (σ := σ), fun f => ?_, fun _ => ⟨_, ⟨μ', q, q4, qf, rfl⟩, rfl⟩⟩
      rw [S.1, t99n _ (by omega)] at f
      exact absurd f (nI_nlt (by omega) (by omega))
    | succ r ih =>
      intro n μ' hn q q4 qf
      have hn2 : n < 693 := by omega
      obtain ⟨e99, e98⟩ := t99 n hn2
      refine wX12_laysFits_7 ⟨_, m_housesS (σ := σ), fun _ => ⟨_, m_putsAside (d := d + 6) (σ := σ), fun μ1 q1 => ?_⟩, fun f => ?_⟩
      · obtain ⟨μ2, d2, a2, rfl⟩ := q1
        have s2 : ms μ μ2 := q.tr (d2.up (by decide) (by decide))
        have k2 := s2.kk
        have Bh := stB_hid (β := β) (two := n) D (by omega)
        have eh : (hid β n).1 0 = σ.1 0 := eb
        have f4 : μ2.1 4 = μ.1 4 := (d2.1 4 (by decide)).trans q4
        have fA : fitsA T β (Y (ix i)).2.2 x M n μ2 := by
          obtain ⟨u1, u2⟩ := qf
          refine ⟨(d2.1 32 (by decide)).trans u1, fun δ i hi => ?_⟩
          rw [d2.2.2 13 (by decide), d2.2.2 14 (by decide)]
          exact u2 δ i hi
        have is0 : isHid T β (Y (ix i)).2.2 x M n = fitR T (hid β n) (Y (ix i)).2.2 x M 0 := by
          unfold isHid
          rw [decide_eq_true (show n / 99 < sN β by omega), Bool.true_and]
        have back : ∀ {μ3 τ}, ms μ μ3 → μ3.1 4 = μ.1 4 → asd μ3 σ → τ.1 0 = σ.1 0 → fitsA T β (Y (ix i)).2.2 x M (n + 1) μ3 → J g mX12_laysFits (d + 8) (mw h m (mS μ σ)) (wPv h m (fun ν => ∃ μ', ms μ μ' ∧ μ'.1 4 = μ.1 4 ∧ fitsA T β (Y (ix i)).2.2 x M (99 * sN σ) μ' ∧ ν = mS μ' σ)) 170 [(0, .ref m), (1, .int i), (2, .int (nI x)), (3, .int (nI n))] [] (mw h m (mS μ3 τ)) := by
          intro μ3 τ s3 f3 a3 et fa
          refine wX12_laysFits_170 ⟨_, m_putsBack (d := d + 6) (τ := τ) a3 et, fun μ4 q4' => ?_⟩
          subst q4'
          rw [nI_1]
          exact ih (n + 1) μ3 (by omega) s3 f3 fa
        have nx := lay_85 (g := g) (d := d) (h := h) (m := m) (hs := mw h m (mS μ σ)) (μ := μ2) (T := T) (τ := hid β n) (σ := σ) (i := i) (Y := Y) (x3 := nI n) (M := M) (x := x) (P := wPv h m (fun ν => ∃ μ', ms μ μ' ∧ μ'.1 4 = μ.1 4 ∧ fitsA T β (Y (ix i)).2.2 x M (99 * sN σ) μ' ∧ ν = mS μ' σ)) Bh (by rw [k2]; exact E) c (s2.ty y) hM eM (by show x < sN β; omega) a2
          (fun yes μ3 q3 => ?_) (fun no μ3 j q3 => ?_)
        · have e : setR β 4 (upd (β.2 4) (n / 99) (β.2 4 (n / 99) + ((nI n - nI n / 99 * 99) + 1))) = hid β n := by
            rw [e98]; rfl
          refine lay_25 (d := d + 7) (q := n / 99) (by rw [k2]; exact b) eb (by omega) e99 ?_
          rw [e]
          exact nx
        · have F1 := hidN_le (T := T) (β := β) (f := (Y (ix i)).2.2) (x := x) (M := M) n
          have s3 : ms μ μ3 := s2.tr q3.q.s
          refine wX12_laysFits_160 ⟨fun f => absurd f (by decide), fun _ => ⟨_, m_addsFit (d := d) (μ := μ3) (τ := pN T (hid β n) M) (T := T) (F := hidN T β (Y (ix i)).2.2 x M n) (two := n) (stB_pasN Bh M) (by rw [s3.kk]; exact E) (by omega) hn2 ((q3.1 32 (by decide) (by decide)).trans fA.1), fun μ4 q4' => ?_⟩⟩
          obtain ⟨μ5, q5, q6, q7, q8, rfl⟩ := q4'
          refine back (s3.tr (q5.up (by decide) (by decide))) ((q5.1 4 (by decide)).trans ((q3.1 4 (by decide) (by decide)).trans f4)) (dif.asd q5 (by decide) (q3.asd a2)) (by rw [pas_1, pN_1]; exact eh) ?_
          have eh1 : hidN T β (Y (ix i)).2.2 x M (n + 1) = hidN T β (Y (ix i)).2.2 x M n + 1 := if_pos (is0.trans yes)
          refine ⟨by rw [eh1]; exact q6, fun δ i' hi' => ?_⟩
          have ed : hidD T β (Y (ix i)).2.2 x M δ (n + 1) = dNote (hidD T β (Y (ix i)).2.2 x M δ n) (hidN T β (Y (ix i)).2.2 x M n) (nI (100 * (n / 99) + (n % 99 + 1))) (pasCame T (pasN T T.1.2.2 (hid β n) M)) := if_pos (is0.trans yes)
          have d1 : (hidD T β (Y (ix i)).2.2 x M δ (n + 1)).2.1 = upd (hidD T β (Y (ix i)).2.2 x M δ n).2.1 (hidN T β (Y (ix i)).2.2 x M n) (nI (100 * (n / 99) + (n % 99 + 1))) := by
            rw [ed]
            exact dGs_2 7
          have d2' : ∀ j, j < 7 → (hidD T β (Y (ix i)).2.2 x M δ (n + 1)).2.2 j = upd ((hidD T β (Y (ix i)).2.2 x M δ n).2.2 j) (hidN T β (Y (ix i)).2.2 x M n) (pasCame T (pasN T T.1.2.2 (hid β n) M) j) := fun j hj => by
            rw [ed]
            exact (dGs_3 7).trans (if_pos hj)
          rw [eh1] at hi'
          rw [d1]
          by_cases ci : i' = hidN T β (Y (ix i)).2.2 x M n
          · refine ⟨?_, fun j hj => ?_⟩
            · rw [q7, ci]
              unfold upd
              rw [if_pos rfl, if_pos rfl]
            · rw [d2' j (by omega), q8, if_pos ⟨by rw [ci]; omega, by rw [ci, pN_N]; show _ < _ + sN β; omega⟩, ci, Nat.add_sub_cancel_left]
              unfold upd
              rw [if_pos rfl]
          · obtain ⟨u1, u2⟩ := fA.2 δ i' (by omega)
            refine ⟨?_, fun j hj => ?_⟩
            · rw [q7]
              unfold upd
              rw [if_neg ci, if_neg ci, q3.2.2 13 (by decide) (by decide) (by decide) (by decide)]
              exact u1
            · rw [d2' j (by omega), q8, if_neg (by omega), q3.2.2 14 (by decide) (by decide) (by decide) (by decide)]
              unfold upd
              rw [if_neg ci]
              exact u2 j hj
        · refine wX12_laysFits_160 ⟨fun _ => ?_, fun f => absurd rfl f⟩
          refine back (s2.tr q3.q.s) ((q3.1 4 (by decide) (by decide)).trans f4) (q3.asd a2) (by rw [pN_1]; exact eh) ?_
          have ng : ¬ isHid T β (Y (ix i)).2.2 x M n = true := by rw [is0, no]; decide
          have eh1 : hidN T β (Y (ix i)).2.2 x M (n + 1) = hidN T β (Y (ix i)).2.2 x M n := if_neg ng
          refine ⟨by rw [eh1]; exact (q3.1 32 (by decide) (by decide)).trans fA.1, fun δ i' hi' => ?_⟩
          have ed : hidD T β (Y (ix i)).2.2 x M δ (n + 1) = hidD T β (Y (ix i)).2.2 x M δ n := if_neg ng
          rw [ed, q3.2.2 13 (by decide) (by decide) (by decide) (by decide), q3.2.2 14 (by decide) (by decide) (by decide) (by decide)]
          rw [eh1] at hi'
          exact fA.2 δ i' hi'
      · rw [S.1, t99n _ (by omega)] at f
        exact absurd (nI_lt (by omega) (by omega)) f
  exact loop (99 * sN σ) 0 (mI μ 32 0) (by omega) (dif_I (by decide) _) rfl ⟨mI_at 32 0, fun δ i hi => absurd hi (Nat.not_lt_zero i)⟩
end MLK
