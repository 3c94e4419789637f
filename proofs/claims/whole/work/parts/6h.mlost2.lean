/-! The reference: the lost, what comes by -/
section MLO
variable {g : jG} {d : Nat} {h : jH} {m : Nat} {μ ν : MW} {i k n : Int32} {T : Td} {σ τ : St} {I A : List Nat}
theorem dr.q {a b : MW} (x : dr a b) : dq a b := x.up (by decide) (by decide)
theorem qr.r {a b : MW} (x : qr a b) : dr a b := x.df.up (by decide) (by decide)
theorem dr.kk {a b : MW} (x : dr a b) : kn b = kn a := dif.kk x (by decide)
theorem dr.asd {a b : MW} (x : dr a b) (y : asd a σ) : asd b σ := dif.asd x (by decide) y
theorem dr.tr {a b c : MW} (x : dr a b) (y : dr b c) : dr a c := dif.tr x y
theorem dr_27 (v : Int32) : dr μ (mI μ 27 v) := dif_I (by decide) v
theorem pN_1 {j : Nat} : (pN T σ j).1 0 = σ.1 0 := pasN_1 j
theorem pN_N {j : Nat} : sN (pN T σ j) = sN σ := by unfold sN; rw [pN_1]
theorem m_size {s : Nat} (hs : s < 128) : Con g mX12_size (d + 1) [.int (nI s)] (mw h m μ) (wv h m μ (nI (popN 7 s))) := by
  have loop : ∀ b s c, s < b → s < 128 → c + popN 7 s < 1000 → J g mX12_size (d + 1) (mw h m μ) (wv h m μ (nI (c + popN 7 s))) 4 [(1, .int (nI c)), (2, .int (nI s))] [] (mw h m μ) := by
    intro b
    induction b with
    | zero => intro s c hb; omega
    | succ b ih =>
      intro s c hb hs hc
      refine wX12_size_4 ⟨fun q => ?_, fun q => ?_⟩
      · have : s = 0 := by
          have e := congrArg ix q
          rw [ix_nI (by omega)] at e
          exact e
        subst this
        exact ⟨rfl, rfl⟩
      · have hs0 : ¬ s = 0 := fun e => q (by rw [e]; rfl)
        obtain ⟨e1, e2, e3⟩ := and_pr s hs hs0
        rw [e1, nI_1, e2, show c + (popN 7 (s &&& (s - 1)) + 1) = c + 1 + popN 7 (s &&& (s - 1)) by omega]
        exact ih _ (c + 1) (by omega) (by omega) (by omega)
  have hp : popN 7 s ≤ 7 := by rw [pop_bit]; exact bcnt_max _ 7
  have L := loop (s + 1) s 0 (by omega) hs (by omega)
  rw [Nat.zero_add] at L
  exact con_of km_X12_size.1.2.2.2.2 (Nat.le_of_ble_eq_true rfl) rfl (wX12_size_0 L)
theorem m_has {s j : Nat} (hs : s < 128) (hj : j < 7) : Con g mX12_has (d + 1) [.int (nI s), .int (nI j)] (mw h m μ) (wv h m μ (bI (Nat.testBit s j))) := by
  refine con_of km_X12_has.1.2.2.2.2 (Nat.le_of_ble_eq_true rfl) rfl (wX12_has_0 ⟨fun c => ⟨?_, rfl⟩, fun c => ⟨?_, rfl⟩⟩)
  · rw [(bit_in s hs j hj).mp c]; rfl
  · have : Nat.testBit s j = false := by
      cases e : Nat.testBit s j with
      | false => rfl
      | true => exact absurd ((bit_in s hs j hj).mpr e) c
    rw [this]; rfl
theorem m_housesS : Con g mX12_houses (d + 1) [.ref m] (mw h m (mS μ σ)) (wv h m (mS μ σ) (σ.1 0)) := m_houses
theorem lost_or {f : Nat → Bool} {j : Nat} (hj : j < 7) : (f j = true → (nI (bset f j) ||| ((1 : Int32) <<< (nI j &&& 31))) = nI (bset f (j + 1))) ∧ (f j = false → (nI (bset f j) ||| 0) = nI (bset f (j + 1))) := by
  refine ⟨fun c => ?_, fun c => ?_⟩
  · rw [or_bit _ (bset_nat f (by omega)) j hj, bset_or f j c]
  · rw [or_0 _ (bset_nat f (by omega))]
    show _ = nI ((if f j = true then 2 ^ j else 0) + bset f j)
    rw [if_neg (by rw [c]; decide), Nat.zero_add]
/-- what lostFromHere leaves -/
def lfh (T : Td) (μ : MW) (σ τ : St) (n : Nat) : Int32 → MW → Prop := fun r ν => r = nI (bcnt (lstB T τ n) (sN τ)) ∧ ∃ μ', dr μ μ' ∧ μ'.1 27 = nI (bset (lstB T τ n) (sN τ)) ∧ ν = mS μ' σ
theorem m_lostFromHere (B : stB τ) (E : encT (kn μ) T) (Y : asd μ σ) (e0 : τ.1 0 = σ.1 0) {n : Nat} (hn : n < 1000000) : Con g mX12_lostFromHere (d + 8) [.ref m, .int (nI n)] (mw h m (mS μ τ)) (wPi h m (lfh T μ σ τ n)) := by
  have S := B.1
  have h7 := S.2
  have S' : sok (pN T τ n) := (stB_pasN B n).1
  have eN : sN (pN T τ n) = sN τ := pN_N
  -- the second loop
  have loop2 : ∀ r j μ', j + r = sN τ → dr μ μ' → μ'.1 27 = nI (bset (goneB (pN T τ n)) j) → J g mX12_lostFromHere (d + 8) (mw h m (mS μ τ)) (wPi h m (lfh T μ σ τ n)) 62 [(0, .ref m), (2, .int (nI (bset (goneB τ) (sN τ)))), (3, .int (nI j))] [] (mw h m (mS μ' (pN T τ n))) := by
    intro r
    induction r with
    | zero =>
      intro j μ' hj hd h27
      have : j = sN τ := by omega
      subst this
      refine wX12_lostFromHere_62 ⟨_, m_housesS (σ := pN T τ n), fun c => ?_, fun _ => ?_⟩
      · rw [S'.1, eN] at c
        exact absurd c (nI_nlt (by omega) (by omega))
      · have ev : ((mS μ' (pN T τ n)).1 27 &&& (nI (bset (goneB τ) (sN τ)) ^^^ (-1))) = nI (bset (lstB T τ n) (sN τ)) := by
          show (μ'.1 27 &&& _) = _
          rw [h27, and_no _ (bset_nat _ h7) _ (bset_nat _ h7), bset_an _ _ h7]
          rfl
        rw [ev, mS_I]
        have hd2 : dr μ (mI μ' 27 (nI (bset (lstB T τ n) (sN τ)))) := hd.tr (dr_27 _)
        refine ⟨_, m_putsBack (σ := σ) (τ := pN T τ n) (hd2.asd Y) (pN_1.trans e0), fun μ1 q => ?_⟩
        subst q
        have e27 : (mS (mI μ' 27 (nI (bset (lstB T τ n) (sN τ)))) σ).1 27 = nI (bset (lstB T τ n) (sN τ)) := by rw [mS_at]; exact mI_at _ _
        rw [e27]
        refine ⟨_, m_size (bset_nat _ h7), _, ⟨?_, _, hd2, e27, rfl⟩, rfl⟩
        rw [pop_set _ h7]
    | succ r ih =>
      intro j μ' hj hd h27
      obtain ⟨o1, o2⟩ := lost_or (f := goneB (pN T τ n)) (j := j) (by omega)
      refine wX12_lostFromHere_62 ⟨_, m_housesS (σ := pN T τ n), fun _ => ⟨_, m_isGoneS (σ := pN T τ n) (j := j) (by omega), fun c => ?_, fun c => ?_⟩, fun c => ?_⟩
      · have c' := bI0 c
        refine wX12_lostFromHere_90 ?_
        rw [mS_I, nI_1, mS_at, h27, o2 c']
        exact ih (j + 1) _ (by omega) (hd.tr (dr_27 _)) (mI_at _ _)
      · have c' := bI1 c
        refine wX12_lostFromHere_90 ?_
        rw [mS_I, nI_1, mS_at, h27, o1 c']
        exact ih (j + 1) _ (by omega) (hd.tr (dr_27 _)) (mI_at _ _)
      · rw [S'.1, eN] at c
        exact absurd (nI_lt (by omega) (by omega)) c
  -- the first loop
  have loop1 : ∀ r j μ', j + r = sN τ → dr μ μ' → μ'.1 27 = nI (bset (goneB τ) j) → J g mX12_lostFromHere (d + 8) (mw h m (mS μ τ)) (wPi h m (lfh T μ σ τ n)) 7 [(0, .ref m), (1, .int (nI n)), (2, .int (nI j))] [] (mw h m (mS μ' τ)) := by
    intro r
    induction r with
    | zero =>
      intro j μ' hj hd h27
      have : j = sN τ := by omega
      subst this
      refine wX12_lostFromHere_7 ⟨_, m_housesS (σ := τ), fun c => ?_, fun _ => ?_⟩
      · rw [S.1] at c
        exact absurd c (nI_nlt (by omega) (by omega))
      · refine ⟨_, m_goesOn (σ := τ) (T := T) B (by rw [hd.kk]; exact E) hn, fun μ1 q => ?_⟩
        obtain ⟨μ2, q2, rfl⟩ := q
        rw [mS_I, mS_at, h27]
        exact loop2 (sN τ) 0 _ (by omega) (hd.tr (q2.r.tr (dr_27 _))) (mI_at _ _)
    | succ r ih =>
      intro j μ' hj hd h27
      obtain ⟨o1, o2⟩ := lost_or (f := goneB τ) (j := j) (by omega)
      refine wX12_lostFromHere_7 ⟨_, m_housesS (σ := τ), fun _ => ⟨_, m_isGoneS (σ := τ) (j := j) (by omega), fun c => ?_, fun c => ?_⟩, fun c => ?_⟩
      · have c' := bI0 c
        refine wX12_lostFromHere_35 ?_
        rw [mS_I, nI_1, mS_at, h27, o2 c']
        exact ih (j + 1) _ (by omega) (hd.tr (dr_27 _)) (mI_at _ _)
      · have c' := bI1 c
        refine wX12_lostFromHere_35 ?_
        rw [mS_I, nI_1, mS_at, h27, o1 c']
        exact ih (j + 1) _ (by omega) (hd.tr (dr_27 _)) (mI_at _ _)
      · rw [S.1] at c
        exact absurd (nI_lt (by omega) (by omega)) c
  refine con_of km_X12_lostFromHere.1.2.2.2.2 (Nat.le_of_ble_eq_true rfl) rfl (wX12_lostFromHere_0 ?_)
  rw [mS_I]
  exact loop1 (sN τ) 0 _ (by omega) (dr_27 _) (mI_at _ _)
end MLO
