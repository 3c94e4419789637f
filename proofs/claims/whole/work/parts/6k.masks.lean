/-! The reference: what is asked of houses -/
def hHouse (T : Td) (σ : St) (i k : Int32) : An Int32 := if sHas σ i = false then .inl nse else if k = 0 then .inr (σ.2 4 (ix i)) else if k = 1 then .inr (σ.2 5 (ix i)) else if k = 2 then .inr (nxt T i (σ.1 0)) else .inl iae
def hHold (σ : St) (i k : Int32) : An Int32 := if sHas σ i = false then .inl nse else if k = 0 then .inr (σ.2 0 (ix i)) else if k = 1 then .inr (σ.2 1 (ix i)) else if k = 2 then .inr (σ.2 2 (ix i)) else if k = 3 then .inr (σ.2 3 (ix i)) else .inl iae
def hPays (T : Td) (σ : St) (i : Int32) : An Int32 := if sHas σ i = false then .inl nse else if sGone σ i = true then .inl ise else .inr (pay T σ i (σ.2 2 (ix i)) (σ.2 4 (ix i)))
def hGrows (T : Td) (σ : St) (i n : Int32) : An Int32 := if sHas σ i = false then .inl nse else if inN n 0 999999 = false then .inl iae else .inr (grow T σ i n)
def hTakes (T : Td) (σ : St) (i n : Int32) : An Int32 := if sHas σ i = false then .inl nse else if inN n 0 999999 = false then .inl iae else .inr (bI (take T σ i n))
section MAS
variable {g : jG} {d : Nat} {h : jH} {m : Nat} {μ ν : MW} {i k n : Int32} {T : Td} {σ τ : St} {I A : List Nat}
theorem ne_ns : ¬ nse = ise := by unfold nse ise; decide
theorem ne_si : ¬ ise = iae := by unfold iae ise; decide
theorem cod_s2 {xs : List String} : codE (nse :: ise :: xs) ise 1 = 2 := (cod_n (fun c => ne_ns c.symm)).trans cod_i
theorem mscr.s {a b : MW} (x : mscr a b) : dq a b := x.q.q
theorem scr_w {f : jM} {as : List Value} {v : Int32} {D : Nat} (C : Con g f D as (mw h m μ) (jPi (fun r h' => r = v ∧ ∃ μ', mscr μ μ' ∧ h' = mw h m μ') no2)) : Con g f D as (mw h m μ) (wPi h m (fun r ν => r = v ∧ mscr μ ν)) :=
  C.pi (fun r h' q => by obtain ⟨q1, μ', q2, q3⟩ := q; exact ⟨μ', ⟨q1, q2⟩, q3⟩) (fun _ _ f => f)
theorem inN_no {a : Nat} {b : Nat} (hb : b < 2 ^ 31) (e : inN k 0 (nI b) = false) (ha : a ≤ b) : ¬ k = nI a := by
  intro c
  have := of_decide_eq_false e
  rw [c] at this
  exact this ⟨nI_nlt (b := 0) (by omega) (by omega), nI_nlt ha (by omega)⟩
theorem m_house (B : stB σ) (E : encT (kn μ) T) : Con g mX12_house (d + 4) [.ref m, .int i, .int k] (mw h m (mS μ σ)) (wPi h m (mAns μ σ [nse, iae] (hHouse T σ i k))) := by
  unfold hHouse
  refine con_of km_X12_house.1.2.2.2.2 (Nat.le_of_ble_eq_true rfl) rfl (wX12_house_0 ⟨_, m_isHouse (σ := σ), fun c => ?_, fun c => ⟨_, m_within, fun c2 => ?_, fun c2 => ?_⟩⟩)
  · rw [if_pos (has0 B.1 c)]
    exact wX12_house_31 ⟨fun _ => ⟨_, fin_1 cod_i.symm, rfl⟩, fun q => absurd (thr_p (by decide)) q⟩
  · have hk := in0 (a := 0) (b := 2) rfl rfl c2
    rw [if_neg (by rw [has1 B.1 c]; decide), if_neg (show ¬ k = 0 from inN_no (a := 0) (b := 2) (by decide) hk (by decide)), if_neg (show ¬ k = 1 from inN_no (a := 1) (b := 2) (by decide) hk (by decide)), if_neg (show ¬ k = 2 from inN_no (a := 2) (b := 2) (by decide) hk (by decide))]
    exact wX12_house_31 ⟨fun _ => ⟨_, fin_1 cod_2.symm, rfl⟩, fun q => absurd (thr_p (by decide)) q⟩
  · have hk := in1 (a := 0) (b := 2) rfl rfl c2
    obtain ⟨ek, -, hk2⟩ := inN_nI (a := 0) (b := 2) (by decide) (by decide) hk
    obtain ⟨h1, ei, h7⟩ := sHas_ix B.1 (has1 B.1 c)
    rw [if_neg (by rw [has1 B.1 c]; decide)]
    refine wX12_house_31 ⟨fun q => absurd q thr_n, fun _ => ⟨fun q => ?_, fun q => ⟨fun q2 => ?_, fun q2 => ?_⟩⟩⟩
    · rw [if_pos q]
      refine ⟨by rw [ei]; exact kin (b := 36) (by omega), _, fin_0 (ms_4 0) (mI_at 4 0) ?_, rfl⟩
      rw [ei, show ix ((36 : Int32) + nI (ix i)) = 36 + ix i from kx (b := 36) (by omega), ix_nI (by omega)]
      exact kS_at (b := 36) (r := 4) rfl (by decide) (by omega)
    · rw [if_neg q, if_pos q2]
      refine ⟨by rw [ei]; exact kin (b := 43) (by omega), _, fin_0 (ms_4 0) (mI_at 4 0) ?_, rfl⟩
      rw [ei, show ix ((43 : Int32) + nI (ix i)) = 43 + ix i from kx (b := 43) (by omega), ix_nI (by omega)]
      exact kS_at (b := 43) (r := 5) rfl (by decide) (by omega)
    · have e2 : k = 2 := by
        rcases (show ix k = 0 ∨ ix k = 1 ∨ ix k = 2 by omega) with c | c | c
        · rw [c] at ek; exact absurd ek q
        · rw [c] at ek; exact absurd ek q2
        · rw [c] at ek; exact ek
      rw [if_neg q, if_neg q2, if_pos e2]
      have C := m_next (g := g) (d := d + 1) (h := h) (m := m) (μ := mS (mI μ 4 0) σ) (T := T) (j := ix i) (N := sN σ) h1 h7 B.1.1 (encT_kS (τ := σ) E).2.1
      rw [← ei, ← B.1.1] at C
      exact ⟨_, C, _, fin_0 (ms_4 0) (mI_at 4 0) rfl, rfl⟩
theorem m_household (B : stB σ) : Con g mX12_household (d + 4) [.ref m, .int i, .int k] (mw h m (mS μ σ)) (wPi h m (mAns μ σ [nse, iae] (hHold σ i k))) := by
  unfold hHold
  refine con_of km_X12_household.1.2.2.2.2 (Nat.le_of_ble_eq_true rfl) rfl (wX12_household_0 ⟨_, m_isHouse (σ := σ), fun c => ?_, fun c => ⟨_, m_within, fun c2 => ?_, fun c2 => ?_⟩⟩)
  · rw [if_pos (has0 B.1 c)]
    exact wX12_household_31 ⟨fun _ => ⟨_, fin_1 cod_i.symm, rfl⟩, fun q => absurd (thr_p (by decide)) q⟩
  · have hk := in0 (a := 0) (b := 3) rfl rfl c2
    rw [if_neg (by rw [has1 B.1 c]; decide), if_neg (show ¬ k = 0 from inN_no (a := 0) (b := 3) (by decide) hk (by decide)), if_neg (show ¬ k = 1 from inN_no (a := 1) (b := 3) (by decide) hk (by decide)), if_neg (show ¬ k = 2 from inN_no (a := 2) (b := 3) (by decide) hk (by decide)), if_neg (show ¬ k = 3 from inN_no (a := 3) (b := 3) (by decide) hk (by decide))]
    exact wX12_household_31 ⟨fun _ => ⟨_, fin_1 cod_2.symm, rfl⟩, fun q => absurd (thr_p (by decide)) q⟩
  · have hk := in1 (a := 0) (b := 3) rfl rfl c2
    obtain ⟨ek, -, hk2⟩ := inN_nI (a := 0) (b := 3) (by decide) (by decide) hk
    obtain ⟨h1, ei, h7⟩ := sHas_ix B.1 (has1 B.1 c)
    rw [if_neg (by rw [has1 B.1 c]; decide)]
    have er : ∀ r, r < 4 → (8 : Int32) + 7 * nI r = nI (8 + 7 * r) := by decide
    have ex : (8 + 7 * k) + i = nI (8 + 7 * ix k) + nI (ix i) := by rw [← er _ (by omega), ← ek, ← ei]
    have ev : kn (mI (mS μ σ) 4 0) (ix ((8 + 7 * k) + i)) = σ.2 (ix k) (ix i) := by
      rw [ex, kx (by omega)]
      exact kS_at (b := 8 + 7 * ix k) (r := ix k) rfl (by omega) (by omega)
    refine wX12_household_31 ⟨fun q => absurd q thr_n, fun _ => ⟨by rw [ex]; exact kin (by omega), ?_⟩⟩
    rw [ev]
    rcases (show ix k = 0 ∨ ix k = 1 ∨ ix k = 2 ∨ ix k = 3 by omega) with c | c | c | c
    · rw [c] at ek ⊢; rw [ek]
      exact ⟨_, fin_0 (ms_4 0) (mI_at 4 0) rfl, rfl⟩
    · rw [c] at ek ⊢; rw [ek]
      exact ⟨_, fin_0 (ms_4 0) (mI_at 4 0) rfl, rfl⟩
    · rw [c] at ek ⊢; rw [ek]
      exact ⟨_, fin_0 (ms_4 0) (mI_at 4 0) rfl, rfl⟩
    · rw [c] at ek ⊢; rw [ek]
      exact ⟨_, fin_0 (ms_4 0) (mI_at 4 0) rfl, rfl⟩
theorem m_pays (B : stB σ) (E : encT (kn μ) T) : Con g mX12_pays (d + 6) [.ref m, .int i] (mw h m (mS μ σ)) (wPi h m (mAns μ σ [nse, ise] (hPays T σ i))) := by
  unfold hPays
  refine con_of km_X12_pays.1.2.2.2.2 (Nat.le_of_ble_eq_true rfl) rfl (wX12_pays_0 ⟨_, m_isHouse (σ := σ), fun c => ?_, fun c => ?_⟩)
  · rw [if_pos (has0 B.1 c)]
    exact wX12_pays_27 ⟨fun _ => ⟨_, fin_1 cod_i.symm, rfl⟩, fun q => absurd (thr_p (by decide)) q⟩
  · have hh := has1 B.1 c
    obtain ⟨h1, ei, h7⟩ := sHas_ix B.1 hh
    rw [if_neg (by rw [hh]; decide), has_g B.1 hh]
    have C := m_isGoneS (g := g) (d := d + 4) (h := h) (m := m) (μ := μ) (σ := σ) (j := ix i) (by omega)
    rw [← ei] at C
    refine ⟨_, C, fun c3 => ?_, fun c3 => ?_⟩
    · rw [if_neg (by rw [bI0 c3]; decide)]
      refine wX12_pays_27 ⟨fun q => absurd q thr_n, fun _ => ?_⟩
      have C := m_paysNow (g := g) (d := d + 1) (h := h) (m := m) (μ := mS (mI μ 4 0) σ) (σ := σ) (T := T) (c := σ.2 2 (ix i)) (b := σ.2 4 (ix i)) (j := ix i) (by omega) (by rw [← ei]; exact hh) rfl (kS_at (b := 22) (r := 2) rfl (by decide) (by omega)) (kS_at (b := 36) (r := 4) rfl (by decide) (by omega)) (kS_at (b := 8) (r := 0) rfl (by decide) (by omega)) (kS_at (b := 15) (r := 1) rfl (by decide) (by omega)) (encT_kS E).2.2.2.1
      rw [← ei] at C
      refine ⟨_, scr_w C, fun r ν q => ?_⟩
      obtain ⟨hr, s⟩ := q
      obtain ⟨μ2, s2, rfl⟩ := mS_scr (μ := mI μ 4 0) (τ := σ) s
      exact ⟨_, fin_0 (ms_q s2.s).1 (ms_q s2.s).2 hr, rfl⟩
    · rw [if_pos (bI1 c3)]
      exact wX12_pays_27 ⟨fun _ => ⟨_, fin_1 cod_s2.symm, rfl⟩, fun q => absurd (thr_p (by decide)) q⟩
theorem m_grows (B : stB σ) (E : encT (kn μ) T) : Con g mX12_grows (d + 6) [.ref m, .int i, .int n] (mw h m (mS μ σ)) (wPi h m (mAns μ σ [nse, iae] (hGrows T σ i n))) := by
  unfold hGrows
  refine con_of km_X12_grows.1.2.2.2.2 (Nat.le_of_ble_eq_true rfl) rfl (wX12_grows_0 ⟨_, m_isHouse (σ := σ), fun c => ?_, fun c => ⟨_, m_within, fun c2 => ?_, fun c2 => ?_⟩⟩)
  · rw [if_pos (has0 B.1 c)]
    exact wX12_grows_31 ⟨fun _ => ⟨_, fin_1 cod_i.symm, rfl⟩, fun q => absurd (thr_p (by decide)) q⟩
  · rw [if_neg (by rw [has1 B.1 c]; decide), if_pos (in0 (a := 0) (b := 999999) rfl rfl c2)]
    exact wX12_grows_31 ⟨fun _ => ⟨_, fin_1 cod_2.symm, rfl⟩, fun q => absurd (thr_p (by decide)) q⟩
  · have hn := in1 (a := 0) (b := 999999) rfl rfl c2
    have hh := has1 B.1 c
    obtain ⟨h1, ei, h7⟩ := sHas_ix B.1 hh
    rw [if_neg (by rw [hh]; decide), if_neg (by rw [hn]; decide)]
    refine wX12_grows_31 ⟨fun q => absurd q thr_n, fun _ => ?_⟩
    have C := m_growsBy (g := g) (d := d + 1) (h := h) (m := m) (μ := mS (mI μ 4 0) σ) (σ := σ) (T := T) (j := ix i) (N := 0) (n := n) (by omega) rfl (encT_kS E).2.2.2.2.1
    rw [← ei] at C
    refine ⟨_, scr_w C, fun r ν q => ?_⟩
    obtain ⟨hr, s⟩ := q
    obtain ⟨μ2, s2, rfl⟩ := mS_scr (μ := mI μ 4 0) (τ := σ) s
    exact ⟨_, fin_0 (ms_q s2.s).1 (ms_q s2.s).2 hr, rfl⟩
theorem nxt_in {j : Nat} (S : sok σ) (hj : j < sN σ) : nxt T (nI j) (σ.1 0) = -1 ∨ ∃ t, t < sN σ ∧ nxt T (nI j) (σ.1 0) = nI t := by
  have h7 := S.2
  unfold nxt
  rw [S.1, nI_1]
  by_cases c : j + 1 < sN σ
  · rw [if_pos (nI_lt c (by omega))]
    exact Or.inr ⟨j + 1, c, rfl⟩
  · rw [if_neg (fun q => c ((nI_ltI (by omega) (by omega)).mp q))]
    by_cases c2 : T.1.1 = 0
    · rw [if_pos c2]; exact Or.inl rfl
    · rw [if_neg c2]; exact Or.inr ⟨0, by omega, rfl⟩
theorem m_takes (B : stB σ) (E : encT (kn μ) T) : Con g mX12_takes (d + 6) [.ref m, .int i, .int n] (mw h m (mS μ σ)) (wPi h m (mAns μ σ [nse, iae] (hTakes T σ i n))) := by
  unfold hTakes
  refine con_of km_X12_takes.1.2.2.2.2 (Nat.le_of_ble_eq_true rfl) rfl (wX12_takes_0 ⟨_, m_isHouse (σ := σ), fun c => ?_, fun c => ⟨_, m_within, fun c2 => ?_, fun c2 => ?_⟩⟩)
  · rw [if_pos (has0 B.1 c)]
    exact wX12_takes_31 ⟨fun _ => ⟨_, fin_1 cod_i.symm, rfl⟩, fun q => absurd (thr_p (by decide)) q⟩
  · rw [if_neg (by rw [has1 B.1 c]; decide), if_pos (in0 (a := 0) (b := 999999) rfl rfl c2)]
    exact wX12_takes_31 ⟨fun _ => ⟨_, fin_1 cod_2.symm, rfl⟩, fun q => absurd (thr_p (by decide)) q⟩
  · have hn := in1 (a := 0) (b := 999999) rfl rfl c2
    have hh := has1 B.1 c
    obtain ⟨h1, ei, h7⟩ := sHas_ix B.1 hh
    rw [if_neg (by rw [hh]; decide), if_neg (by rw [hn]; decide)]
    have C := m_next (g := g) (d := d + 3) (h := h) (m := m) (μ := mS (mI μ 4 0) σ) (T := T) (j := ix i) (N := sN σ) h1 h7 B.1.1 (encT_kS (τ := σ) E).2.1
    rw [← ei, ← B.1.1] at C
    refine wX12_takes_31 ⟨fun q => absurd q thr_n, fun _ => ⟨_, C, fun q => ?_, fun q => ?_⟩⟩
    · refine ⟨_, fin_0 (ms_4 0) (mI_at 4 0) ?_, rfl⟩
      have nh : sHas σ (-1) = false := decide_eq_false (fun f => f.1 (by decide))
      unfold take
      cases T.2.2.2.2 with
      | none => rfl
      | some f =>
        show 1 = bI (if _ then _ else _)
        rw [q, if_pos nh]; rfl
    · rw [ei] at q ⊢
      rcases nxt_in (T := T) B.1 h1 with c | ⟨t, ht, et⟩
      · exact absurd c q
      · rw [et]
        refine ⟨kin (b := 36) (by omega), ?_⟩
        have ew : kn (mI (mS μ σ) 4 0) (ix ((36 : Int32) + nI t)) = σ.2 4 t := by
          rw [show ix ((36 : Int32) + nI t) = 36 + t from kx (b := 36) (by omega)]
          exact kS_at (b := 36) (r := 4) rfl (by decide) (by omega)
        rw [ew]
        have C := m_takesIt (g := g) (d := d + 1) (h := h) (m := m) (μ := mS (mI μ 4 0) σ) (σ := σ) (T := T) (N := 0) (j := ix i) (t := t) (b := n) (w := σ.2 4 t) (by omega) et (decide_eq_true ⟨nI_pos (by omega), by rw [B.1.1]; exact nI_lt ht (by omega)⟩) rfl (kS_at (b := 22) (r := 2) rfl (by decide) (by omega)) rfl (encT_kS E).2.2.2.2.2
        refine ⟨_, scr_w C, fun r ν q => ?_⟩
        obtain ⟨hr, s⟩ := q
        obtain ⟨μ2, s2, rfl⟩ := mS_scr (μ := mI μ 4 0) (τ := σ) s
        refine ⟨fun c => ⟨_, fin_0 (ms_q s2.s).1 (ms_q s2.s).2 ?_, rfl⟩, fun c => ⟨_, fin_0 (ms_q s2.s).1 (ms_q s2.s).2 ?_, rfl⟩⟩
        · rw [← hr, c]
        · have c' : take T σ (nI (ix i)) n = true := bI1 (by rw [← hr]; exact c)
          rw [c']; rfl
end MAS
