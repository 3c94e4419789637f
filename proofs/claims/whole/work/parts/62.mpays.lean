/-! The reference: what is paid, how debts grow, who takes -/
def wq (k : Nat) (q : Nat → Int32) : Nat → Int32 := fun j => if dom k j = true then (if j = 6 then q 4 else q j) else 0
def mLaw (K : Nat → Int32) (k a b : Nat) (L : Law) : Prop := match L with
  | none => K a = 0
  | some f => ∃ code, 0 < code.length ∧ mCode K a b code ∧ ∀ q, mEv q code [] = some [f (wq k q)]
def encS (K : Nat → Int32) (σ : St) : Prop := K 1 = σ.1 0 ∧ K 50 = σ.1 1 ∧ K 51 = σ.1 2 ∧ ∀ r i, r < 6 → i < 7 → K (8 + (7 * r + i)) = σ.2 r i
def encT (K : Nat → Int32) (T : Td) : Prop := K 0 = T.1.2.1 ∧ (K 2 = T.1.1 ∧ (T.1.1 = 0 ∨ T.1.1 = 1)) ∧ K 3 = T.1.2.2 ∧ mLaw K 0 4 536 T.2.2.1 ∧ mLaw K 1 5 1436 T.2.2.2.1 ∧ mLaw K 2 6 2336 T.2.2.2.2
/-- the same but stack and questions -/
def mscr (μ μ' : MW) : Prop := μ'.1 = μ.1 ∧ μ'.2.2 = μ.2.2 ∧ ∀ j, ¬ j = 6 → ¬ j = 7 → μ'.2.1 j = μ.2.1 j
theorem mscr.rf (μ : MW) : mscr μ μ := ⟨rfl, rfl, fun _ _ _ => rfl⟩
theorem mscr.tr {a b c : MW} (x : mscr a b) (y : mscr b c) : mscr a c := ⟨y.1.trans x.1, y.2.1.trans x.2.1, fun j h1 h2 => (y.2.2 j h1 h2).trans (x.2.2 j h1 h2)⟩
theorem mscr_6 (μ : MW) (f : Nat → Int32) : mscr μ (mA μ 6 f) := ⟨rfl, rfl, fun j h1 _ => if_neg h1⟩
theorem mscr_7 (μ : MW) (f : Nat → Int32) : mscr μ (mA μ 7 f) := ⟨rfl, rfl, fun j _ h2 => if_neg h2⟩
theorem mLaw.of {K K' : Nat → Int32} {k a b : Nat} {L : Law} (H : mLaw K k a b L) (e0 : K' a = K a) (e : ∀ j, j < 900 → K' (b + j) = K (b + j)) : mLaw K' k a b L := by
  cases L with
  | none => exact e0.trans H
  | some f =>
    obtain ⟨code, h1, ⟨h2, h3, h4⟩, h5⟩ := H
    exact ⟨code, h1, ⟨e0.trans h2, h3, fun j hj => (h4 j hj).trans (by rw [e j (by omega)])⟩, h5⟩
theorem jmin_c (a b : Int32) : jmin a b = jmin b a := by
  unfold jmin
  split <;> split <;> rename_i h1 h2
  · exact absurd h1 (by rw [Int32.lt_iff_toInt_lt] at h1 h2 ⊢; omega)
  · rfl
  · rfl
  · apply Int32.toInt_inj.mp
    rw [Int32.lt_iff_toInt_lt] at h1 h2
    omega
theorem jmax_c (a b : Int32) : jmax a b = jmax b a := by
  unfold jmax
  split <;> split <;> rename_i h1 h2
  · exact absurd h1 (by rw [Int32.lt_iff_toInt_lt] at h1 h2 ⊢; omega)
  · rfl
  · rfl
  · apply Int32.toInt_inj.mp
    rw [Int32.lt_iff_toInt_lt] at h1 h2
    omega
theorem jmax0_min0 (x : Int32) : jmax 0 (jmin 0 x) = 0 := by
  unfold jmin
  by_cases h : x < 0
  · rw [if_pos h]
    exact if_neg (fun c => by rw [Int32.lt_iff_toInt_lt] at h c; omega)
  · rw [if_neg h]
    exact if_neg (by decide)
section MPY
variable {g : jG} {d : Nat} {h hs : jH} {m : Nat} {μ : MW} {i k n : Int32} {T : Td} {σ : St}
theorem m_capped : Con g mX12_capped (d + 1) [.int i] h (jPi (fun r h' => r = jmin 999999 i ∧ h' = h) no2) :=
  con_of km_X12_capped.1.2.2.2.2 (Nat.le_of_ble_eq_true rfl) rfl (bX12_capped_0 ⟨rfl, rfl⟩)
def ask3 (q : Nat → Int32) (K : Nat → Int32) (debt house : Int32) : Nat → Int32 := upd (upd (upd q 0 debt) 1 house) 2 (K 51 - K 51 / 1000 * 1000)
theorem m_asks : Con g mX12_asks (d + 1) [.ref m, .int i, .int k] (mw h m μ) (jPv (fun h' => h' = mw h m (mA μ 7 (ask3 (μ.2.1 7) (kn μ) i k))) no2) := by
  refine con_of km_X12_asks.1.2.2.2.2 (Nat.le_of_ble_eq_true rfl) rfl (bX12_asks_0 ⟨_, mw_o, _, rfl, _, _, mw_7, vp_in_nI (n := 0) (by decide) (by decide), fun h1 e1 => ?_⟩)
  replace e1 := e1.trans (mw_p7 _)
  subst e1
  refine ⟨_, mw_o, _, rfl, _, _, mw_7, vp_in_nI (n := 1) (by decide) (by decide), fun h1 e1 => ?_⟩
  replace e1 := e1.trans (mw_p7 _)
  rw [mA_mA] at e1
  subst e1
  refine ⟨_, mw_o, _, rfl, _, mw_o, _, rfl, _, _, mw_1, mk3240 (j := 51) (by decide), _, _, mw_7, vp_in_nI (n := 2) (by decide) (by decide), fun h1 e1 => ?_⟩
  replace e1 := e1.trans (mw_p7 _)
  rw [mA_mA] at e1
  exact e1
theorem m_isGone {j : Nat} (hj : j < 7) : Con g mX12_isGone (d + 1) [.ref m, .int (nI j)] (mw h m μ) (jPi (fun r h' => r = bI (decide (kn μ (29 + j) = 1)) ∧ h' = mw h m μ) no2) := by
  have e : (29 : Int32) + nI j = nI (29 + j) := nI_plus 29 j
  have hx : ix ((29 : Int32) + nI j) = 29 + j := by rw [e]; exact ix_nI (by omega)
  refine con_of km_X12_isGone.1.2.2.2.2 (Nat.le_of_ble_eq_true rfl) rfl (bX12_isGone_0 ⟨_, mw_o, _, rfl, _, _, mw_1, by rw [e]; exact mk3240 (by omega), fun q => ?_, fun q => ?_⟩)
  · have q' : kn μ (ix ((29 : Int32) + nI j)) = 1 := q
    rw [hx] at q'
    exact ⟨by rw [decide_eq_true q']; rfl, rfl⟩
  · have q' : ¬ kn μ (ix ((29 : Int32) + nI j)) = 1 := q
    rw [hx] at q'
    exact ⟨by rw [decide_eq_false q']; rfl, rfl⟩
theorem m_next {j N : Nat} (hj : j < N) (hN : N ≤ 7) (eN : kn μ 1 = nI N) (eR : kn μ 2 = T.1.1 ∧ (T.1.1 = 0 ∨ T.1.1 = 1)) : Con g mX12_next (d + 2) [.ref m, .int (nI j)] (mw h m μ) (jPi (fun r h' => r = nxt T (nI j) (nI N) ∧ h' = mw h m μ) no2) := by
  refine con_of km_X12_next.1.2.2.2.2 (Nat.le_of_ble_eq_true rfl) rfl (bX12_next_0 ⟨_, mw_o, ?_⟩)
  refine m_houses.pi (fun r h' hr => ?_) (fun E h' f => f.elim)
  obtain ⟨rfl, rfl⟩ := hr
  obtain ⟨N', rfl⟩ : ∃ N', N = N' + 1 := ⟨N - 1, by omega⟩
  have ep : nI (N' + 1) - 1 = nI N' := nI_pred N'
  rw [eN, ep]
  have en : nxt T (nI j) (nI (N' + 1)) = if nI (j + 1) < nI (N' + 1) then nI (j + 1) else if T.1.1 = 0 then -1 else 0 := by
    unfold nxt
    rw [nI_1]
  refine ⟨fun q => ?_, fun q => ⟨_, mw_o, _, rfl, _, _, mw_1, mk3240 (j := 2) (by decide), fun q2 => ?_, fun q2 => ?_⟩⟩
  · have := (nI_ltI (by omega) (by omega)).mp q
    rw [en, if_pos (nI_lt (by omega) (by omega)), nI_1]
    exact ⟨rfl, rfl⟩
  · have q2' : kn μ 2 = 1 := q2
    have hlt : ¬ nI (j + 1) < nI (N' + 1) := fun c => q (nI_lt (by have := (nI_ltI (by omega) (by omega)).mp c; omega) (by omega))
    rw [en, if_neg hlt, if_neg (by rw [← eR.1, q2']; decide)]
    exact ⟨rfl, rfl⟩
  · have q2' : ¬ kn μ 2 = 1 := q2
    have hlt : ¬ nI (j + 1) < nI (N' + 1) := fun c => q (nI_lt (by have := (nI_ltI (by omega) (by omega)).mp c; omega) (by omega))
    have h0 : T.1.1 = 0 := by
      rcases eR.2 with c | c
      · exact c
      · rw [eR.1, c] at q2'; exact absurd rfl q2'
    rw [en, if_neg hlt, if_pos h0]
    exact ⟨rfl, rfl⟩
theorem m_growsBy {j N : Nat} (hj : j < 7) (e51 : kn μ 51 = σ.1 2) (L : mLaw (kn μ) 1 5 1436 T.2.2.2.1) : Con g mX12_growsBy (d + 4) [.ref m, .int (nI j), .int n] (mw h m μ) (jPi (fun r h' => r = grow T σ (nI j) n ∧ ∃ μ', mscr μ μ' ∧ h' = mw h m μ') no2) := by
  refine con_of km_X12_growsBy.1.2.2.2.2 (Nat.le_of_ble_eq_true rfl) rfl (bX12_growsBy_0 ⟨fun q => ?_, fun q => ⟨_, mw_o, _, rfl, _, _, mw_1, mk3240 (j := 5) (by decide), fun q2 => ?_, fun q2 => ⟨_, mw_o, ?_⟩⟩⟩)
  · refine ⟨?_, μ, mscr.rf μ, rfl⟩
    unfold grow
    cases T.2.2.2.1 with
    | none => rfl
    | some f => exact (if_pos q).symm
  · have q2' : kn μ 5 = 0 := q2
    refine ⟨?_, μ, mscr.rf μ, rfl⟩
    revert L
    unfold grow
    cases T.2.2.2.1 with
    | none => intro _; rfl
    | some f =>
      rintro ⟨code, h0, ⟨h1, h2, _⟩, _⟩
      rw [q2'] at h1
      have := (nI_eq (a := 0) (b := code.length) (by omega) (by omega)).mp h1
      omega
  · have q2' : ¬ kn μ 5 = 0 := q2
    refine m_asks.pv (fun h' e => ?_) (fun E h' f => f.elim)
    subst e
    refine ⟨_, mw_o, ?_⟩
    revert L
    unfold grow
    cases T.2.2.2.1 with
    | none => intro L; exact absurd L q2'
    | some f =>
      rintro ⟨code, h0, hc, hv⟩
      have C := m_lawOf (g := g) (d := d) (h := h) (m := m) (μ := mA μ 7 (ask3 (μ.2.1 7) (kn μ) n (nI j))) (a := 5) (b := 1436) hc (by decide) (by decide) (hv _)
      refine C.pi (fun r h' hr => ?_) (fun E h' f => f.elim)
      obtain ⟨rfl, S', rfl⟩ := hr
      refine ⟨?_, _, (mscr_7 μ _).tr (mscr_6 _ _), rfl⟩
      have ew : wq 1 ((mA μ 7 (ask3 (μ.2.1 7) (kn μ) n (nI j))).2.1 7) = envG n (nI j) (σ.1 2) := by
        show wq 1 (ask3 (μ.2.1 7) (kn μ) n (nI j)) = _
        funext x
        have hx : x = 0 ∨ x = 1 ∨ x = 2 ∨ 3 ≤ x := by omega
        rcases hx with rfl | rfl | rfl | hx
        · rfl
        · rfl
        · show kn μ 51 - kn μ 51 / 1000 * 1000 = _
          rw [e51]
          rfl
        · unfold wq envG dom
          rw [if_neg (by simp; omega), if_neg (by omega), if_neg (by omega), if_neg (by omega)]
      rw [ew]
      show jmax 0 (jmin 999 _) = if n = 0 then 0 else _
      rw [if_neg q, jmax_c, jmin_c]
theorem kx {b j : Nat} (hj : b + j < 3240) : ix (nI b + nI j) = b + j := by rw [nI_plus]; exact ix_nI (by omega)
theorem kin {b j : Nat} (hj : b + j < 3240) : vp_in (nI b + nI j) 3240 := by rw [nI_plus]; exact mk3240 hj
theorem m_paysNow {j : Nat} {c b : Int32} (hj : j < 7) (hh : sHas σ (nI j) = true) (e51 : kn μ 51 = σ.1 2) (ec : kn μ (22 + j) = c) (eb : kn μ (36 + j) = b) (e0 : kn μ (8 + j) = σ.2 0 j) (e1 : kn μ (15 + j) = σ.2 1 j) (L : mLaw (kn μ) 0 4 536 T.2.2.1) : Con g mX12_paysNow (d + 4) [.ref m, .int (nI j)] (mw h m μ) (jPi (fun r h' => r = pay T σ (nI j) c b ∧ ∃ μ', mscr μ μ' ∧ h' = mw h m μ') no2) := by
  have x22 : ix ((22 : Int32) + nI j) = 22 + j := kx (b := 22) (by omega)
  have x36 : ix ((36 : Int32) + nI j) = 36 + j := kx (b := 36) (by omega)
  have x8 : ix ((8 : Int32) + nI j) = 8 + j := kx (b := 8) (by omega)
  have x15 : ix ((15 : Int32) + nI j) = 15 + j := kx (b := 15) (by omega)
  have i22 : vp_in ((22 : Int32) + nI j) 3240 := kin (b := 22) (by omega)
  have i36 : vp_in ((36 : Int32) + nI j) 3240 := kin (b := 36) (by omega)
  have i8 : vp_in ((8 : Int32) + nI j) 3240 := kin (b := 8) (by omega)
  have i15 : vp_in ((15 : Int32) + nI j) 3240 := kin (b := 15) (by omega)
  have hxj : ix (nI j) = j := ix_nI (by omega)
  refine con_of km_X12_paysNow.1.2.2.2.2 (Nat.le_of_ble_eq_true rfl) rfl (bX12_paysNow_0 ⟨_, mw_o, _, rfl, _, _, mw_1, i22, _, mw_o, _, rfl, _, _, mw_1, i36, _, mw_o, _, rfl, _, _, mw_1, mk3240 (j := 4) (by decide), fun q => ?_, fun q => ⟨_, mw_o, _, rfl, _, _, mw_1, i36, _, mw_o, ?_⟩⟩)
  · have q' : kn μ 4 = 0 := q
    refine ⟨?_, μ, mscr.rf μ, rfl⟩
    show jmin (kn μ (ix ((22 : Int32) + nI j))) (kn μ (ix ((36 : Int32) + nI j))) = _
    rw [x22, x36, ec, eb]
    revert L
    unfold pay
    cases T.2.2.1 with
    | none => intro _; rfl
    | some f =>
      rintro ⟨code, h0, ⟨h1, h2, _⟩, _⟩
      rw [q'] at h1
      have := (nI_eq (a := 0) (b := code.length) (by omega) (by omega)).mp h1
      omega
  · have q' : ¬ kn μ 4 = 0 := q
    refine m_asks.pv (fun h' e => ?_) (fun E h' f => f.elim)
    have e' : h' = mw h m (mA μ 7 (ask3 (μ.2.1 7) (kn μ) b (nI j))) := by
      rw [e]
      show mw h m (mA μ 7 (ask3 (μ.2.1 7) (kn μ) (kn μ (ix ((36 : Int32) + nI j))) (nI j))) = _
      rw [x36, eb]
    subst e'
    clear e
    refine ⟨_, mw_o, _, rfl, _, mw_o, _, rfl, _, _, mw_1, i22, _, _, mw_7, vp_in_nI (n := 3) (by decide) (by decide), fun h1 p1 => ?_⟩
    replace p1 : h1 = mw h m (mA μ 7 (upd (ask3 (μ.2.1 7) (kn μ) b (nI j)) 3 c)) := by
      refine p1.trans ((mw_p7 _).trans ?_)
      rw [mA_mA]
      show mw h m (mA μ 7 (upd (ask3 (μ.2.1 7) (kn μ) b (nI j)) 3 (kn μ (ix ((22 : Int32) + nI j))))) = _
      rw [x22, ec]
    subst p1
    refine ⟨_, mw_o, _, rfl, _, mw_o, _, rfl, _, _, mw_1, i8, _, _, mw_7, vp_in_nI (n := 4) (by decide) (by decide), fun h1 p1 => ?_⟩
    replace p1 : h1 = mw h m (mA μ 7 (upd (upd (ask3 (μ.2.1 7) (kn μ) b (nI j)) 3 c) 4 (σ.2 0 j))) := by
      refine p1.trans ((mw_p7 _).trans ?_)
      rw [mA_mA]
      show mw h m (mA μ 7 (upd (upd (ask3 (μ.2.1 7) (kn μ) b (nI j)) 3 c) 4 (kn μ (ix ((8 : Int32) + nI j))))) = _
      rw [x8, e0]
    subst p1
    refine ⟨_, mw_o, _, rfl, _, mw_o, _, rfl, _, _, mw_1, i15, _, _, mw_7, vp_in_nI (n := 5) (by decide) (by decide), fun h1 p1 => ?_⟩
    replace p1 : h1 = mw h m (mA μ 7 (upd (upd (upd (ask3 (μ.2.1 7) (kn μ) b (nI j)) 3 c) 4 (σ.2 0 j)) 5 (σ.2 1 j))) := by
      refine p1.trans ((mw_p7 _).trans ?_)
      rw [mA_mA]
      show mw h m (mA μ 7 (upd (upd (upd (ask3 (μ.2.1 7) (kn μ) b (nI j)) 3 c) 4 (σ.2 0 j)) 5 (kn μ (ix ((15 : Int32) + nI j))))) = _
      rw [x15, e1]
    subst p1
    refine ⟨_, mw_o, ?_⟩
    revert L
    unfold pay
    cases T.2.2.1 with
    | none => intro L; exact absurd L q'
    | some f =>
      rintro ⟨code, h0, hc, hv⟩
      have C := m_lawOf (g := g) (d := d) (h := h) (m := m) (μ := mA μ 7 (upd (upd (upd (ask3 (μ.2.1 7) (kn μ) b (nI j)) 3 c) 4 (σ.2 0 j)) 5 (σ.2 1 j))) (a := 4) (b := 536) hc (by decide) (by decide) (hv _)
      refine C.pi (fun r h' hr => ?_) (fun E h' f => f.elim)
      obtain ⟨rfl, S', rfl⟩ := hr
      refine ⟨?_, _, (mscr_7 μ _).tr (mscr_6 _ _), rfl⟩
      have ew : wq 0 ((mA μ 7 (upd (upd (upd (ask3 (μ.2.1 7) (kn μ) b (nI j)) 3 c) 4 (σ.2 0 j)) 5 (σ.2 1 j))).2.1 7) = envP b (nI j) (σ.1 2) c (σ.2 0 (ix (nI j))) (σ.2 1 (ix (nI j))) := by
        rw [hxj]
        show wq 0 (upd (upd (upd (ask3 (μ.2.1 7) (kn μ) b (nI j)) 3 c) 4 (σ.2 0 j)) 5 (σ.2 1 j)) = _
        funext x
        have hx : x = 0 ∨ x = 1 ∨ x = 2 ∨ x = 3 ∨ x = 4 ∨ x = 5 ∨ 6 ≤ x := by omega
        rcases hx with rfl | rfl | rfl | rfl | rfl | rfl | hx
        · rfl
        · rfl
        · show kn μ 51 - kn μ 51 / 1000 * 1000 = _
          rw [e51]
          rfl
        · rfl
        · rfl
        · rfl
        · unfold wq envP dom
          rw [if_neg (by simp; omega), if_neg (by omega), if_neg (by omega), if_neg (by omega), if_neg (by omega), if_neg (by omega), if_neg (by omega)]
      rw [ew]
      show jmax 0 (jmin (jmin (kn μ (ix ((22 : Int32) + nI j))) (kn μ (ix ((36 : Int32) + nI j)))) _) = _
      rw [x22, x36, ec, eb]
      show _ = if jmin c b = 0 ∨ sHas σ (nI j) = false then _ else _
      by_cases z : jmin c b = 0
      · rw [if_pos (Or.inl z), z, jmax0_min0]
      · rw [if_neg (by rintro (q1 | q1); exact z q1; rw [hh] at q1; exact Bool.noConfusion q1), jmax_c, jmin_c]
theorem m_takesIt {N j t : Nat} {b w : Int32} (ht : t < 7) (hn : nxt T (nI j) (σ.1 0) = nI t) (hh : sHas σ (nI t) = true) (e51 : kn μ 51 = σ.1 2) (ec : kn μ (22 + t) = σ.2 2 t) (ew0 : w = σ.2 4 t) (L : mLaw (kn μ) 2 6 2336 T.2.2.2.2) : Con g mX12_takesIt (d + 4) [.ref m, .int (nI t), .int b, .int w] (mw h m μ) (jPi (fun r h' => r = bI (take T σ (nI j) b) ∧ ∃ μ', mscr μ μ' ∧ h' = mw h m μ') no2) := by
  have x22 : ix ((22 : Int32) + nI t) = 22 + t := kx (b := 22) (by omega)
  have i22 : vp_in ((22 : Int32) + nI t) 3240 := kin (b := 22) (by omega)
  have hxt : ix (nI t) = t := ix_nI (by omega)
  refine con_of km_X12_takesIt.1.2.2.2.2 (Nat.le_of_ble_eq_true rfl) rfl (bX12_takesIt_0 ⟨_, mw_o, _, rfl, _, _, mw_1, mk3240 (j := 6) (by decide), fun q => ?_, fun q => ⟨_, mw_o, ?_⟩⟩)
  · have q' : kn μ 6 = 0 := q
    refine ⟨?_, μ, mscr.rf μ, rfl⟩
    revert L
    unfold take
    cases T.2.2.2.2 with
    | none => intro _; rfl
    | some f =>
      rintro ⟨code, h0, ⟨h1, h2, _⟩, _⟩
      rw [q'] at h1
      have := (nI_eq (a := 0) (b := code.length) (by omega) (by omega)).mp h1
      omega
  · have q' : ¬ kn μ 6 = 0 := q
    refine m_asks.pv (fun h' e => ?_) (fun E h' f => f.elim)
    subst e
    refine ⟨_, mw_o, _, rfl, _, mw_o, _, rfl, _, _, mw_1, i22, _, _, mw_7, vp_in_nI (n := 3) (by decide) (by decide), fun h1 p1 => ?_⟩
    replace p1 : h1 = mw h m (mA μ 7 (upd (ask3 (μ.2.1 7) (kn μ) b (nI t)) 3 (σ.2 2 t))) := by
      refine p1.trans ((mw_p7 _).trans ?_)
      rw [mA_mA]
      show mw h m (mA μ 7 (upd (ask3 (μ.2.1 7) (kn μ) b (nI t)) 3 (kn μ (ix ((22 : Int32) + nI t))))) = _
      rw [x22, ec]
    subst p1
    refine ⟨_, mw_o, _, rfl, _, _, mw_7, vp_in_nI (n := 4) (by decide) (by decide), fun h1 p1 => ?_⟩
    replace p1 : h1 = mw h m (mA μ 7 (upd (upd (ask3 (μ.2.1 7) (kn μ) b (nI t)) 3 (σ.2 2 t)) 4 w)) := by
      refine p1.trans ((mw_p7 _).trans ?_)
      rw [mA_mA]
      rfl
    subst p1
    refine ⟨_, mw_o, ?_⟩
    revert L
    unfold take
    cases T.2.2.2.2 with
    | none => intro L; exact absurd L q'
    | some f =>
      rintro ⟨code, h0, hc, hv⟩
      have C := m_lawOf (g := g) (d := d) (h := h) (m := m) (μ := mA μ 7 (upd (upd (ask3 (μ.2.1 7) (kn μ) b (nI t)) 3 (σ.2 2 t)) 4 w)) (a := 6) (b := 2336) hc (by decide) (by decide) (hv _)
      refine C.pi (fun r h' hr => ?_) (fun E h' f => f.elim)
      obtain ⟨rfl, S', rfl⟩ := hr
      have ew : wq 2 ((mA μ 7 (upd (upd (ask3 (μ.2.1 7) (kn μ) b (nI t)) 3 (σ.2 2 t)) 4 w)).2.1 7) = envT b (nI t) (σ.1 2) (σ.2 2 t) (σ.2 4 t) := by
        show wq 2 (upd (upd (ask3 (μ.2.1 7) (kn μ) b (nI t)) 3 (σ.2 2 t)) 4 w) = _
        funext x
        have hx : x = 0 ∨ x = 1 ∨ x = 2 ∨ x = 3 ∨ x = 4 ∨ x = 5 ∨ x = 6 ∨ 7 ≤ x := by omega
        rcases hx with rfl | rfl | rfl | rfl | rfl | rfl | rfl | hx
        · rfl
        · rfl
        · show kn μ 51 - kn μ 51 / 1000 * 1000 = _
          rw [e51]
          rfl
        · rfl
        · rfl
        · rfl
        · exact ew0
        · unfold wq envT dom
          rw [if_neg (by simp; omega), if_neg (by omega), if_neg (by omega), if_neg (by omega), if_neg (by omega), if_neg (by omega)]
      rw [ew]
      have et : (if sHas σ (nxt T (nI j) (σ.1 0)) = false then true else decide (f (envT b (nxt T (nI j) (σ.1 0)) (σ.1 2) (σ.2 2 (ix (nxt T (nI j) (σ.1 0)))) (σ.2 4 (ix (nxt T (nI j) (σ.1 0))))) = 1)) = decide (f (envT b (nI t) (σ.1 2) (σ.2 2 t) (σ.2 4 t)) = 1) := by
        rw [hn, hxt, if_neg (by rw [hh]; decide)]
      refine ⟨fun q2 => ⟨?_, _, (mscr_7 μ _).tr (mscr_6 _ _), rfl⟩, fun q2 => ⟨?_, _, (mscr_7 μ _).tr (mscr_6 _ _), rfl⟩⟩
      · show (1 : Int32) = bI (if sHas σ (nxt T (nI j) (σ.1 0)) = false then true else _)
        rw [et, decide_eq_true q2]
        rfl
      · show (0 : Int32) = bI (if sHas σ (nxt T (nI j) (σ.1 0)) = false then true else _)
        rw [et, decide_eq_false q2]
        rfl
end MPY
