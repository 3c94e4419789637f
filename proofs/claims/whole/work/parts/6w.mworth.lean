/-! The reference: the least limit, what a household is worth -/
def tdL (T : Td) (v : Int32) : Td := ((T.1.1, T.1.2.1, v), T.2)
def llM (T : Td) (σ : St) (n : Nat) : Nat → Nat → Int32
  | 0, _ => -1
  | c + 1, x => if lsV (tdL T (nI x)) σ n = 0 then nI x else llM T σ n c (x + 1)
def hLeast (T : Td) (σ : St) (n : Int32) : An Int32 := if inN n 1 20 = false then .inl iae else .inr (llM T σ (ix n) 1000 0)
def rnS (σ : St) (i : Nat) : St := setR (setR σ 3 (upd (σ.2 3) i 1)) 2 (upd (σ.2 2) i 0)
def wtM (T : Td) (σ : St) (i n : Nat) : Int32 := lsV T (rnS σ i) n - nI (bcnt (fun k => lstB T σ n k && !decide (k = i)) (sN σ))
def hWorth (T : Td) (σ : St) (i n : Int32) : An Int32 := if sHas σ i = false then .inl nse else if inN n 1 20 = false then .inl iae else if sGone σ i = true then .inl ise else .inr (wtM T σ (ix i) (ix n))
def plM (T : Td) (σ : St) (n : Nat) : Nat → Nat → Int32 → Int32
  | 0, _, b => b
  | c + 1, x, b => if goneB σ x = false ∧ 0 < wtM T σ x n then plM T σ n c (x + 1) (nI x) else plM T σ n c (x + 1) b
def hPillar (T : Td) (σ : St) (n : Int32) : An Int32 := if inN n 1 20 = false then .inl iae else .inr (plM T σ (ix n) (sN σ) 0 (-1))
/-- the same but the limit and scratch -/
def liW (μ μ' : MW) (v : Int32) : Prop := kn μ' = upd (kn μ) 3 v ∧ ms (mA μ 1 (kn μ')) μ' ∧ μ'.1 4 = 0
section MWO
variable {g : jG} {d : Nat} {h : jH} {m : Nat} {μ ν : MW} {i k n w : Int32} {T : Td} {σ τ : St} {I A : List Nat} {N : Nat} {K : Nat → Int32}
theorem kS_set3 {v : Int32} : upd (kS K τ) 3 v = kS (upd K 3 v) τ := by
  funext x
  by_cases c : x = 3
  · subst c
    rw [kS_ot (by omega)]
    unfold upd
    rw [if_pos rfl, if_pos rfl]
  · show (if x = 3 then v else kS K τ x) = kS (upd K 3 v) τ x
    rw [if_neg c]
    unfold kS
    rw [show upd K 3 v x = K x from if_neg c]
theorem encT_3 {v : Int32} (E : encT K T) : encT (upd K 3 v) (tdL T v) := by
  obtain ⟨e0, e2, e3, l1, l2, l3⟩ := E
  have f : ∀ x, ¬ x = 3 → upd K 3 v x = K x := fun x hx => if_neg hx
  exact ⟨(f 0 (by decide)).trans e0, ⟨(f 2 (by decide)).trans e2.1, e2.2⟩, if_pos rfl, l1.of (f 4 (by decide)) (fun j _ => f _ (by omega)), l2.of (f 5 (by decide)) (fun j _ => f _ (by omega)), l3.of (f 6 (by decide)) (fun j _ => f _ (by omega))⟩
theorem upd_upd3 {v v' : Int32} : upd (upd K 3 v) 3 v' = upd K 3 v' := by
  funext x
  unfold upd
  split <;> rfl
theorem upd_self3 : upd K 3 (K 3) = K := by
  funext x
  unfold upd
  by_cases c : x = 3
  · rw [if_pos c, c]
  · rw [if_neg c]
theorem liW.up {μ' : MW} {v v' : Int32} (x : liW μ μ' v) : liW μ (mA μ' 1 (upd (kn μ') 3 v')) v' := by
  obtain ⟨a, b, c⟩ := x
  refine ⟨?_, ?_, c⟩
  · show upd (kn μ') 3 v' = _
    rw [a, upd_upd3]
  · exact dif_K b
theorem liW.q {μ' μ2 : MW} {v : Int32} (x : liW μ μ' v) (q : dq μ' μ2) : liW μ μ2 v := by
  obtain ⟨a, b, c⟩ := x
  have k := q.kk
  exact ⟨by rw [k]; exact a, by rw [k]; exact ms.tr b q.s, (q.1 4 (by decide)).trans c⟩
theorem liW.back {μ' : MW} {v : Int32} (x : liW μ μ' v) : ms μ (mA μ' 1 (upd (kn μ') 3 (kn μ 3))) := by
  obtain ⟨a, b, -⟩ := x
  rw [a, upd_upd3, upd_self3]
  have z := dif_K (f' := kn μ) b
  rw [mA_kn] at z
  exact z
theorem mS_lim {v : Int32} : mA (mS μ σ) 1 (upd (kn (mS μ σ)) 3 v) = mS (mA μ 1 (upd (kn μ) 3 v)) σ := by
  rw [mS_kn, kS_set3]
  exact mA_mA.trans mA_mA.symm
theorem lsV_0 {n : Nat} (S : sok σ) : lsV T σ n = 0 ↔ lstN T σ n = 0 := by
  have h7 := S.2
  have := bcnt_max (lstB T σ n) (sN σ)
  unfold lsV
  constructor
  · intro c
    have e := congrArg Int32.toInt c
    rw [nI_toInt (by unfold lstN; omega), show (0 : Int32).toInt = 0 from rfl] at e
    omega
  · intro c; rw [c]; rfl
theorem m_leastLimit (B : stB σ) (E : encT (kn μ) T) : Con g mX12_leastLimit (d + 10) [.ref m, .int n] (mw h m (mS μ σ)) (wPi h m (mAns μ σ [iae] (hLeast T σ n))) := by
  have S := B.1
  unfold hLeast
  refine con_of km_X12_leastLimit.1.2.2.2.2 (Nat.le_of_ble_eq_true rfl) rfl (wX12_leastLimit_0 ⟨_, m_isSoon (d := d + 7), fun c => ?_, fun c => ?_⟩)
  · rw [if_pos (bI0 c)]
    exact ⟨_, m_fails, fun r ν q => ⟨_, fin_f q, rfl⟩⟩
  · have hn := bI1 c
    obtain ⟨en, -, hn2⟩ := inN_nI (a := 1) (b := 20) (by decide) (by decide) hn
    rw [if_neg (by rw [hn]; decide)]
    generalize hM : ix n = M at en hn2 ⊢
    subst en
    have last : ∀ {hs} {x3 v} {μ'}, liW (mI μ 4 0) μ' v → J g mX12_leastLimit (d + 10) hs (wPi h m (mAns μ σ [iae] (.inr x3))) 68 [(0, .ref m), (2, .int (kn μ 3)), (3, .int x3)] [] (mw h m (mS μ' σ)) := by
      intro hs x3 v μ' q
      refine wX12_leastLimit_68 ?_
      rw [mS_lim]
      exact ⟨_, fin_0 ((ms_4 0).tr q.back) q.2.2 rfl, rfl⟩
    have loop : ∀ c x v μ', x + c = 1000 → liW (mI μ 4 0) μ' v → J g mX12_leastLimit (d + 10) (mw h m (mS μ σ)) (wPi h m (mAns μ σ [iae] (.inr (llM T σ M c x)))) 30 [(0, .ref m), (1, .int (nI M)), (2, .int (kn μ 3)), (3, .int (-1)), (4, .int (nI x))] [] (mw h m (mS μ' σ)) := by
      intro c
      induction c with
      | zero =>
        intro x v μ' hx q
        exact wX12_leastLimit_30 ⟨fun _ => last q, fun f => absurd (nI_lt (a := 999) (by omega) (by omega)) f⟩
      | succ c ih =>
        intro x v μ' hx q
        refine wX12_leastLimit_30 ⟨fun f => absurd f (nI_nlt (a := 999) (by omega) (by omega)), fun _ => ⟨fun _ => ?_, fun f => absurd rfl f⟩⟩
        rw [mS_lim]
        have q2 := q.up (v' := nI x)
        have E2 : encT (kn (mA μ' 1 (upd (kn μ') 3 (nI x)))) (tdL T (nI x)) := by
          rw [q2.1]
          exact encT_3 E
        refine ⟨_, m_lostNow (d := d) (μ := mA μ' 1 (upd (kn μ') 3 (nI x))) (σ := σ) (T := tdL T (nI x)) B E2 (by omega), fun r μ1 q1 => ?_⟩
        obtain ⟨rfl, μ2, d2, -, rfl⟩ := q1
        have q3 := liW.q q2 d2
        rw [nI_1]
        refine ⟨fun f => ?_, fun f => ?_⟩
        · rw [show llM T σ M (c + 1) x = nI x from if_pos f]
          exact wX12_leastLimit_30 ⟨fun _ => last q3, fun _ => ⟨fun f2 => absurd f2 (nI_m1 (by omega)), fun _ => last q3⟩⟩
        · rw [show llM T σ M (c + 1) x = llM T σ M c (x + 1) from if_neg f]
          exact ih (x + 1) _ μ2 (by omega) q3
    rw [mS_I]
    have k3 : kn (mS (mI μ 4 0) σ) 3 = kn μ 3 := kS_ot (τ := σ) (K := kn μ) (x := 3) (by omega)
    rw [k3]
    refine loop 1000 0 (kn μ 3) (mI μ 4 0) rfl ⟨upd_self3.symm, ?_, mI_at 4 0⟩
    rw [mA_kn]
    exact dif.rf _
/-! what a household is worth -/
theorem bset_1 {i n : Nat} (hi : i < n) : bset (fun k => decide (k = i)) n = 2 ^ i := by
  apply Nat.eq_of_testBit_eq
  intro j
  rw [bset_bit, Nat.testBit_two_pow]
  by_cases c : j = i
  · subst c
    rw [decide_eq_true hi, decide_eq_true rfl]
    simp
  · have : ¬ i = j := fun f => c f.symm
    simp [c, this]
theorem m_worthOf {i : Nat} (B : stB σ) (E : encT (kn μ) T) (hi : i < sN σ) (hN : N < 1000000) : Con g mX12_worthOf (d + 10) [.ref m, .int (nI i), .int (nI N)] (mw h m (mS μ σ)) (wPi h m (fun r ν => r = wtM T σ i N ∧ ∃ μ', dq μ μ' ∧ ν = mS μ' σ)) := by
  have S := B.1
  have h7 := S.2
  refine con_of km_X12_worthOf.1.2.2.2.2 (Nat.le_of_ble_eq_true rfl) rfl (wX12_worthOf_0 ⟨_, m_lostNow (d := d) (σ := σ) (T := T) B E hN, fun r μ1 q1 => ?_⟩)
  obtain ⟨rfl, μ2, d2, h27, rfl⟩ := q1
  have e27 : ((mS μ2 σ).1 27 &&& (((1 : Int32) <<< (nI i &&& 31)) ^^^ (-1))) = nI (bset (fun k => lstB T σ N k && !decide (k = i)) (sN σ)) := by
    show (μ2.1 27 &&& _) = _
    rw [h27, shl_t i (by omega), ← bset_1 hi, and_no _ (bset_nat _ h7) _ (bset_nat _ h7), bset_an _ _ h7]
  rw [e27]
  refine ⟨_, m_size (bset_nat _ h7), _, m_putsAside (d := d + 8) (σ := σ), fun μ3 q3 => ?_⟩
  obtain ⟨μ4, d4, a4, rfl⟩ := q3
  rw [pop_set _ h7]
  have q4 : dq μ μ4 := dif.tr d2 (d4.up (by decide) (by decide))
  refine ⟨kin (b := 29) (by omega), kin (b := 22) (by omega), ?_⟩
  rw [mS_set (b := 29) (r := 3) (j := i) (v := 1) (f := upd (kn (mS μ4 σ)) (ix (29 + nI i)) 1) rfl (by decide) (by omega) (by omega) rfl]
  rw [mS_set (b := 22) (r := 2) (j := i) (v := 0) (f := upd (kn (mS μ4 (setR σ 3 (upd (σ.2 3) i 1)))) (ix (22 + nI i)) 0) rfl (by decide) (by omega) (by omega) rfl]
  have Br : stB (rnS σ i) := by
    refine stB_set (σ := σ) rfl B (fun x hx => ?_)
    have R := B.2.1 x hx
    refine ⟨?_, R.2.1, R.2.2.1, ?_, R.2.2.2.2⟩
    · show upd (σ.2 3) i 1 x = 0 ∨ upd (σ.2 3) i 1 x = 1
      unfold upd
      split
      · exact Or.inr rfl
      · exact R.1
    · show rng (upd (σ.2 2) i 0 x)
      unfold upd
      split
      · unfold rng; decide
      · exact R.2.2.2.1
  refine ⟨_, m_lostOf (d := d + 1) (μ := μ4) (σ := σ) (τ := rnS σ i) (T := T) Br (q4.e E) a4 rfl hN, fun r μ5 q5 => ?_⟩
  obtain ⟨rfl, μ6, d6, rfl⟩ := q5
  exact ⟨_, ⟨rfl, μ6, dif.tr q4 d6.q, rfl⟩, rfl⟩
theorem m_worth (B : stB σ) (E : encT (kn μ) T) : Con g mX12_worth (d + 11) [.ref m, .int i, .int n] (mw h m (mS μ σ)) (wPi h m (mAns μ σ [nse, iae, ise] (hWorth T σ i n))) := by
  have S := B.1
  have h7 := S.2
  refine con_of km_X12_worth.1.2.2.2.2 (Nat.le_of_ble_eq_true rfl) rfl (wX12_worth_0 ⟨_, m_isLivingOut (d := d + 7) (σ := σ) B.1, fun r μ1 q => ?_⟩)
  obtain ⟨hr, rfl⟩ := q
  subst hr
  refine ⟨fun c => ?_, fun c => ?_⟩
  · obtain ⟨hh, hn, hg, c0⟩ := liv_1 c
    obtain ⟨h1, ei, -⟩ := sHas_ix S hh
    obtain ⟨en, -, hn2⟩ := inN_nI (a := 1) (b := 20) (by decide) (by decide) hn
    unfold hWorth
    rw [if_neg (by rw [hh]; decide), if_neg (by rw [hn]; decide), if_neg (by rw [hg]; decide), c0, mS_I]
    have C := m_worthOf (g := g) (d := d) (h := h) (m := m) (μ := mI μ 4 0) (σ := σ) (T := T) (N := ix n) B E h1 (by omega)
    rw [← en, ← ei] at C
    refine ⟨_, C, fun r μ1 q1 => ?_⟩
    obtain ⟨rfl, μ2, q2, rfl⟩ := q1
    exact ⟨_, fin_0 (ms_q q2).1 (ms_q q2).2 rfl, rfl⟩
  · have c0 := of_decide_eq_true (bI1 c)
    exact ⟨_, fin_liv c0 (fun f => if_pos f) (fun f f2 => (if_neg f).trans (if_pos f2)) (fun f f2 f3 => (if_neg f).trans ((if_neg f2).trans (if_pos f3))), rfl⟩
theorem m_pillar (B : stB σ) (E : encT (kn μ) T) : Con g mX12_pillar (d + 11) [.ref m, .int n] (mw h m (mS μ σ)) (wPi h m (mAns μ σ [iae] (hPillar T σ n))) := by
  have S := B.1
  have h7 := S.2
  unfold hPillar
  refine con_of km_X12_pillar.1.2.2.2.2 (Nat.le_of_ble_eq_true rfl) rfl (wX12_pillar_0 ⟨_, m_isSoon (d := d + 8), fun c => ?_, fun c => ?_⟩)
  · rw [if_pos (bI0 c)]
    exact ⟨_, m_fails, fun r ν q => ⟨_, fin_f q, rfl⟩⟩
  · have hn := bI1 c
    obtain ⟨en, -, hn2⟩ := inN_nI (a := 1) (b := 20) (by decide) (by decide) hn
    rw [if_neg (by rw [hn]; decide), mS_I]
    generalize hM : ix n = M at en hn2 ⊢
    subst en
    have loop : ∀ c x b μ', x + c = sN σ → ms μ μ' → μ'.1 4 = 0 → J g mX12_pillar (d + 11) (mw h m (mS μ σ)) (wPi h m (mAns μ σ [iae] (.inr (plM T σ M c x b)))) 22 [(0, .ref m), (1, .int (nI M)), (2, .int b), (3, .int (nI x))] [] (mw h m (mS μ' σ)) := by
      intro c
      induction c with
      | zero =>
        intro x b μ' hx q q4
        refine wX12_pillar_22 ⟨_, m_housesS (σ := σ), fun f => ?_, fun _ => ⟨_, fin_0 q q4 rfl, rfl⟩⟩
        rw [S.1] at f
        exact absurd f (nI_nlt (by omega) (by omega))
      | succ c ih =>
        intro x b μ' hx q q4
        refine wX12_pillar_22 ⟨_, m_housesS (σ := σ), fun _ => ⟨_, m_isGoneS (d := d + 9) (σ := σ) (by omega), fun f => ?_, fun f => ?_⟩, fun f => ?_⟩
        · have hg : goneB σ x = false := bI0 f
          refine ⟨_, m_worthOf (d := d) (μ := μ') (σ := σ) (T := T) (N := M) B (by rw [q.kk]; exact E) (by omega) (by omega), fun r μ1 q1 => ?_⟩
          obtain ⟨rfl, μ2, q2, rfl⟩ := q1
          have q6 := q.tr q2.s
          have q7 : μ2.1 4 = 0 := (q2.1 4 (by decide)).trans q4
          rw [nI_1]
          refine ⟨fun f3 => ?_, fun f3 => ?_⟩
          · rw [show plM T σ M (c + 1) x b = plM T σ M c (x + 1) (nI x) from if_pos ⟨hg, f3⟩]
            exact ih (x + 1) _ μ2 (by omega) q6 q7
          · rw [show plM T σ M (c + 1) x b = plM T σ M c (x + 1) b from if_neg (fun f => f3 f.2)]
            exact ih (x + 1) _ μ2 (by omega) q6 q7
        · have hg : goneB σ x = true := bI1 f
          rw [nI_1, show plM T σ M (c + 1) x b = plM T σ M c (x + 1) b from if_neg (fun f => by rw [hg] at f; exact absurd f.1 (by decide))]
          exact ih (x + 1) _ μ' (by omega) q q4
        · rw [S.1] at f
          exact absurd (nI_lt (by omega) (by omega)) f
    exact loop (sN σ) 0 (-1) _ (by omega) (ms_4 0) (mI_at 4 0)
end MWO
