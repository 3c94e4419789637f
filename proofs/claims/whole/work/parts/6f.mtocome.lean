/-! The reference: debts, cash, ruin to come -/
def sH (σ : St) (what : Nat) : Int32 := sumN (σ.2 what) (sN σ)
section MAC
variable {g : jG} {d : Nat} {h : jH} {m : Nat} {μ ν : MW} {i k n : Int32} {T : Td} {σ τ : St} {I A : List Nat}
theorem bI0 {b : Bool} (c : bI b = 0) : b = false := (bI_0 rfl).1.mp c
theorem bI1 {b : Bool} (c : ¬ bI b = 0) : b = true := (bI_0 rfl).2.mp c
theorem has0 (S : sok σ) (c : bI (lHas σ i.toInt64) = 0) : sHas σ i = false := by rw [← lHas_n S]; exact bI0 c
theorem has1 (S : sok σ) (c : ¬ bI (lHas σ i.toInt64) = 0) : sHas σ i = true := by rw [← lHas_n S]; exact bI1 c
theorem in0 {x a b : Int32} {A B : Int64} (hA : A = a.toInt64) (hB : B = b.toInt64) (c : bI (inL x.toInt64 A B) = 0) : inN x a b = false := by rw [← inL_n hA hB]; exact bI0 c
theorem in1 {x a b : Int32} {A B : Int64} (hA : A = a.toInt64) (hB : B = b.toInt64) (c : ¬ bI (inL x.toInt64 A B) = 0) : inN x a b = true := by rw [← inL_n hA hB]; exact bI1 c
theorem cod_2 : codE [nse, iae] iae 1 = 2 := (cod_n iae_ni).trans cod_i
theorem thr_p {v : Int32} (c : 0 < v) : 0 < (mI μ 4 v).1 4 := by rw [mI_at]; exact c
theorem fin_f {α : Type} {E : String} {xs : List String} {r : Int32} {r' : α} {ν : MW} (q : r = 0 ∧ ν = mI (mI (mS μ σ) 4 0) 4 1) : mAns μ σ (E :: xs) (.inl E) r' ν := ⟨mI (mI μ 4 0) 4 1, (ms_4 0).tr (ms_4 1), (mI_at 4 1).trans cod_i.symm, (fun v f => by cases f), q.2⟩
theorem thr_n : ¬ 0 < (mI μ 4 0).1 4 := by rw [mI_at]; decide
def hDebtIn (T : Td) (σ : St) (i n : Int32) : An Int32 := if sHas σ i = false then .inl nse else if inN n 0 200 = false then .inl iae else .inr ((pN T σ (ix n)).2 4 (ix i))
theorem m_debtIn (B : stB σ) (E : encT (kn μ) T) : Con g mX12_debtIn (d + 9) [.ref m, .int i, .int n] (mw h m (mS μ σ)) (wPi h m (mAns μ σ [nse, iae] (hDebtIn T σ i n))) := by
  unfold hDebtIn
  refine con_of km_X12_debtIn.1.2.2.2.2 (Nat.le_of_ble_eq_true rfl) rfl (wX12_debtIn_0 ⟨_, m_isHouse (σ := σ), fun c => ?_, fun c => ⟨_, m_within, fun c2 => ?_, fun c2 => ?_⟩⟩)
  · rw [if_pos (has0 B.1 c)]
    exact wX12_debtIn_31 ⟨fun _ => ⟨_, fin_1 cod_i.symm, rfl⟩, fun q => absurd (thr_p (by decide)) q⟩
  · rw [if_neg (by rw [has1 B.1 c]; decide), if_pos (in0 (a := 0) (b := 200) rfl rfl c2)]
    exact wX12_debtIn_31 ⟨fun _ => ⟨_, fin_1 cod_2.symm, rfl⟩, fun q => absurd (thr_p (by decide)) q⟩
  · have hn := in1 (a := 0) (b := 200) rfl rfl c2
    obtain ⟨en, -, hn2⟩ := inN_nI (a := 0) (b := 200) (by decide) (by decide) hn
    obtain ⟨h1, ei, h7⟩ := sHas_ix B.1 (has1 B.1 c)
    rw [if_neg (by rw [has1 B.1 c]; decide), if_neg (by rw [hn]; decide)]
    refine wX12_debtIn_31 ⟨fun q => absurd q thr_n, fun _ => ?_⟩
    have C := m_later (g := g) (d := d) (h := h) (m := m) (μ := mI μ 4 0) (σ := σ) (T := T) B E (n := ix n) (by omega) (x := 36 + i) (by rw [ei]; exact kin (b := 36) (by omega))
    rw [← en] at C
    refine ⟨_, C, fun r ν q => ?_⟩
    obtain ⟨e, μ', q, rfl⟩ := q
    refine ⟨_, fin_0 (ms_q q).1 (ms_q q).2 (e.trans ?_), rfl⟩
    rw [ei, show ix ((36 : Int32) + nI (ix i)) = 36 + ix i from kx (b := 36) (by omega), ix_nI (by omega)]
    exact kS_at (b := 36) (r := 4) rfl (by decide) (by omega)
def hCashIn (T : Td) (σ : St) (i n : Int32) : An Int32 := if sHas σ i = false then .inl nse else if inN n 0 200 = false then .inl iae else .inr ((pN T σ (ix n)).2 2 (ix i))
theorem m_cashIn (B : stB σ) (E : encT (kn μ) T) : Con g mX12_cashIn (d + 9) [.ref m, .int i, .int n] (mw h m (mS μ σ)) (wPi h m (mAns μ σ [nse, iae] (hCashIn T σ i n))) := by
  unfold hCashIn
  refine con_of km_X12_cashIn.1.2.2.2.2 (Nat.le_of_ble_eq_true rfl) rfl (wX12_cashIn_0 ⟨_, m_isHouse (σ := σ), fun c => ?_, fun c => ⟨_, m_within, fun c2 => ?_, fun c2 => ?_⟩⟩)
  · rw [if_pos (has0 B.1 c)]
    exact wX12_cashIn_31 ⟨fun _ => ⟨_, fin_1 cod_i.symm, rfl⟩, fun q => absurd (thr_p (by decide)) q⟩
  · rw [if_neg (by rw [has1 B.1 c]; decide), if_pos (in0 (a := 0) (b := 200) rfl rfl c2)]
    exact wX12_cashIn_31 ⟨fun _ => ⟨_, fin_1 cod_2.symm, rfl⟩, fun q => absurd (thr_p (by decide)) q⟩
  · have hn := in1 (a := 0) (b := 200) rfl rfl c2
    obtain ⟨en, -, hn2⟩ := inN_nI (a := 0) (b := 200) (by decide) (by decide) hn
    obtain ⟨h1, ei, h7⟩ := sHas_ix B.1 (has1 B.1 c)
    rw [if_neg (by rw [has1 B.1 c]; decide), if_neg (by rw [hn]; decide)]
    refine wX12_cashIn_31 ⟨fun q => absurd q thr_n, fun _ => ?_⟩
    have C := m_later (g := g) (d := d) (h := h) (m := m) (μ := mI μ 4 0) (σ := σ) (T := T) B E (n := ix n) (by omega) (x := 22 + i) (by rw [ei]; exact kin (b := 22) (by omega))
    rw [← en] at C
    refine ⟨_, C, fun r ν q => ?_⟩
    obtain ⟨e, μ', q, rfl⟩ := q
    refine ⟨_, fin_0 (ms_q q).1 (ms_q q).2 (e.trans ?_), rfl⟩
    rw [ei, show ix ((22 : Int32) + nI (ix i)) = 22 + ix i from kx (b := 22) (by omega), ix_nI (by omega)]
    exact kS_at (b := 22) (r := 2) rfl (by decide) (by omega)
def hSeaIn (T : Td) (σ : St) (n : Int32) : An Int32 := if inN n 0 200 = false then .inl iae else .inr ((pN T σ (ix n)).1 1)
theorem m_seaIn (B : stB σ) (E : encT (kn μ) T) : Con g mX12_seaIn (d + 9) [.ref m, .int n] (mw h m (mS μ σ)) (wPi h m (mAns μ σ [iae] (hSeaIn T σ n))) := by
  unfold hSeaIn
  refine con_of km_X12_seaIn.1.2.2.2.2 (Nat.le_of_ble_eq_true rfl) rfl (wX12_seaIn_0 ⟨_, m_within, fun c2 => ?_, fun c2 => ?_⟩)
  · rw [if_pos (in0 (a := 0) (b := 200) rfl rfl c2)]
    exact ⟨_, m_fails, fun r ν q => ⟨_, fin_f q, rfl⟩⟩
  · have hn := in1 (a := 0) (b := 200) rfl rfl c2
    obtain ⟨en, -, hn2⟩ := inN_nI (a := 0) (b := 200) (by decide) (by decide) hn
    rw [if_neg (by rw [hn]; decide)]
    have C := m_later (g := g) (d := d) (h := h) (m := m) (μ := mI μ 4 0) (σ := σ) (T := T) B E (n := ix n) (by omega) (x := 50) (mk3240 (j := 50) (by decide))
    rw [← en] at C
    refine ⟨_, C, fun r ν q => ?_⟩
    obtain ⟨e, μ', q, rfl⟩ := q
    exact ⟨_, fin_0 (ms_q q).1 (ms_q q).2 (e.trans rfl), rfl⟩
end MAC
