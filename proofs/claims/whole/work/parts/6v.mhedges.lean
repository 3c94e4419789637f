/-! The reference: hedges, gifts that save -/
def hdS (σ : St) (s : Nat) (v : Int32) (j : Nat) : St := setR σ 5 (hdg (σ.2 5) s v j)
def sml (s : Nat) : Option Nat → Bool
  | none => true
  | some t => decide (popN 7 s < popN 7 t)
def hdL (T : Td) (σ : St) (i n : Nat) : Nat → Nat → Option Nat → Option Nat
  | 0, _, b => b
  | c + 1, s, b => if sml s b = true ∧ lstB T (hdS σ s (nI n) (sN σ)) n i = false then hdL T σ i n c (s + 1) (some s) else hdL T σ i n c (s + 1) b
def hdN : Option Nat → Int32
  | none => -1
  | some t => nI t
def hdR (w : Int32) : Option Nat → Int32
  | none => -1
  | some t => if w = 1 then nI t else nI (popN 7 t)
def hHedges (T : Td) (σ : St) (i n w : Int32) : An Int32 := if sHas σ i = false then .inl nse else if inN n 1 20 = false then .inl iae else if inN w 0 1 = false then .inl iae else if sGone σ i = true then .inl ise else .inr (hdR w (hdL T σ (ix i) (ix n) (2 ^ sN σ) 0 none))
def bgL (T : Td) (σ : St) (n : Nat) : Nat → Nat → Int32 → Int32 → Int32
  | 0, _, b, _ => b
  | c + 1, x, b, l => if lsV T (setR σ 5 (upd (σ.2 5) x (nI n))) n < l then bgL T σ n c (x + 1) (nI x) (lsV T (setR σ 5 (upd (σ.2 5) x (nI n))) n) else bgL T σ n c (x + 1) b l
def hBestHedge (T : Td) (σ : St) (n : Int32) : An Int32 := if inN n 1 20 = false then .inl iae else .inr (bgL T σ (ix n) (sN σ) 0 (-1) (lsV T σ (ix n)))
def gvS (σ : St) (i x : Nat) : St := setR σ 2 (upd (σ.2 2) i (jmin 999999 (σ.2 2 i + nI x)))
def svL (T : Td) (σ : St) (i n : Nat) : Nat → Nat → Int32
  | 0, _ => -1
  | c + 1, x => if lstB T (gvS σ i x) n i = false then nI x else svL T σ i n c (x + 1)
def hSaves (T : Td) (σ : St) (i n : Int32) : An Int32 := if sHas σ i = false then .inl nse else if inN n 1 20 = false then .inl iae else if sGone σ i = true then .inl ise else .inr (svL T σ (ix i) (ix n) 1000 0)
section MHG
variable {g : jG} {d : Nat} {h : jH} {m : Nat} {μ ν : MW} {i k n w : Int32} {T : Td} {σ τ : St} {I A : List Nat} {N : Nat}
theorem shl_t : ∀ n, n < 8 → ((1 : Int32) <<< (nI n &&& 31)) = nI (2 ^ n) := by decide +kernel
theorem hdS_0 {s : Nat} {v : Int32} : hdS σ s v 0 = σ := by
  unfold hdS
  have e : hdg (σ.2 5) s v 0 = σ.2 5 := by
    funext k
    exact if_neg (fun f => absurd f.1 (Nat.not_lt_zero k))
  rw [e, setR_same]
theorem hdS_y {s j : Nat} {v : Int32} (c : Nat.testBit s j = true) : setR (hdS σ s v j) 5 (upd ((hdS σ s v j).2 5) j v) = hdS σ s v (j + 1) := by
  unfold hdS
  rw [setR_setR, setR_at]
  have e : upd (hdg (σ.2 5) s v j) j v = hdg (σ.2 5) s v (j + 1) := by
    funext k
    unfold upd hdg
    by_cases c1 : k = j
    · rw [if_pos c1, if_pos ⟨by omega, by rw [c1]; exact c⟩]
    · rw [if_neg c1]
      by_cases c2 : k < j ∧ Nat.testBit s k = true
      · rw [if_pos c2, if_pos ⟨by omega, c2.2⟩]
      · rw [if_neg c2, if_neg (fun f => c2 ⟨by omega, f.2⟩)]
  rw [e]
theorem hdS_n {s j : Nat} {v : Int32} (c : Nat.testBit s j = false) : hdS σ s v j = hdS σ s v (j + 1) := by
  unfold hdS
  have e : hdg (σ.2 5) s v j = hdg (σ.2 5) s v (j + 1) := by
    funext k
    unfold hdg
    by_cases c2 : k < j ∧ Nat.testBit s k = true
    · rw [if_pos c2, if_pos ⟨by omega, c2.2⟩]
    · rw [if_neg c2, if_neg (fun f => c2 ⟨by
        by_cases q : k = j
        · rw [q, c] at f; exact absurd f.2 (by decide)
        · omega, f.2⟩)]
  rw [e]
theorem hed_106 {hs : jH} {P : jO → jH → Prop} {i s : Nat} {x4 x3 : Int32} (B : stB σ) (E : encT (kn μ) T) (Y : asd μ σ) (hN : N < 1000000) (hi : i < sN σ) (hs7 : s < 128) (next : ∀ μ', dr μ μ' → J g mX12_hedges (d + 10) hs P 66 [(0, .ref m), (1, .int (nI i)), (2, .int (nI N)), (3, .int x3), (4, .int (if lstB T (hdS σ s (nI N) (sN σ)) N i = false then nI s else x4)), (5, .int (nI (s + 1)))] [] (mw h m (mS μ' σ))) : J g mX12_hedges (d + 10) hs P 106 [(0, .ref m), (1, .int (nI i)), (2, .int (nI N)), (3, .int x3), (4, .int x4), (5, .int (nI s)), (6, .int 0)] [] (mw h m (mS μ σ)) := by
  have S := B.1
  have h7 := S.2
  have loop : ∀ r j, j + r = sN σ → J g mX12_hedges (d + 10) hs P 106 [(0, .ref m), (1, .int (nI i)), (2, .int (nI N)), (3, .int x3), (4, .int x4), (5, .int (nI s)), (6, .int (nI j))] [] (mw h m (mS μ (hdS σ s (nI N) j))) := by
    intro r
    induction r with
    | zero =>
      intro j hj
      have : j = sN σ := by omega
      subst this
      have Bt : stB (hdS σ s (nI N) (sN σ)) := stB_hedge B _
      refine wX12_hedges_106 ⟨_, m_housesS (σ := hdS σ s (nI N) (sN σ)), fun f => ?_, fun _ => ⟨_, m_isLostFromHere (d := d) (σ := σ) (τ := hdS σ s (nI N) (sN σ)) (T := T) Bt E Y rfl hN hi, fun r μ1 q1 => ?_⟩⟩
      · rw [show (hdS σ s (nI N) (sN σ)).1 0 = σ.1 0 from rfl, S.1] at f
        exact absurd f (nI_nlt (by omega) (by omega))
      · obtain ⟨rfl, μ2, d2, rfl⟩ := q1
        have z := next μ2 d2
        rw [nI_1]
        refine ⟨fun f => ?_, fun f => ?_⟩
        · rw [if_pos (bI0 f)] at z
          exact z
        · rw [if_neg (by rw [bI1 f]; decide)] at z
          exact z
    | succ r ih =>
      intro j hj
      refine wX12_hedges_106 ⟨_, m_housesS (σ := hdS σ s (nI N) j), fun _ => ⟨_, m_has hs7 (by omega), fun f => ?_, fun f => ⟨kin (b := 43) (by omega), ?_⟩⟩, fun f => ?_⟩
      · rw [hdS_n (bI0 f), nI_1]
        exact ih (j + 1) (by omega)
      · rw [mS_set (b := 43) (r := 5) (j := j) (v := nI N) (f := upd (kn (mS μ (hdS σ s (nI N) j))) (ix (43 + nI j)) (nI N)) rfl (by decide) (by omega) (by omega) rfl, hdS_y (bI1 f), nI_1]
        exact ih (j + 1) (by omega)
      · rw [show (hdS σ s (nI N) j).1 0 = σ.1 0 from rfl, S.1] at f
        exact absurd (nI_lt (by omega) (by omega)) f
  have z := loop (sN σ) 0 (by omega)
  rw [hdS_0] at z
  exact z
theorem hdN_1 {b : Option Nat} (hb : ∀ t, b = some t → t < 128) : hdN b = -1 ↔ b = none := by
  match b with
  | none => exact ⟨fun _ => rfl, fun _ => rfl⟩
  | some t => exact ⟨fun f => absurd f (nI_m1 (by have := hb t rfl; omega)), fun f => by cases f⟩
theorem m_hedges (B : stB σ) (E : encT (kn μ) T) : Con g mX12_hedges (d + 10) [.ref m, .int i, .int n, .int w] (mw h m (mS μ σ)) (wPi h m (mAns μ σ [nse, iae, ise] (hHedges T σ i n w))) := by
  have S := B.1
  have h7 := S.2
  have p7 : 2 ^ sN σ ≤ 128 := Nat.pow_le_pow_right (n := 2) (by decide) h7
  have ref : ∀ {hs} {E0 : String} {c : Int32}, hHedges T σ i n w = .inl E0 → c = codE [nse, iae, ise] E0 1 → 0 < c → J g mX12_hedges (d + 10) hs (wPi h m (mAns μ σ [nse, iae, ise] (hHedges T σ i n w))) 48 [(0, .ref m), (1, .int i), (2, .int n), (3, .int w)] [.int c, .ref m] (mw h m (mS μ σ)) := fun e e2 e3 => by
    rw [e]
    exact wX12_hedges_48 ⟨fun _ => ⟨_, fin_1 e2, rfl⟩, fun f => absurd (thr_p e3) f⟩
  refine con_of km_X12_hedges.1.2.2.2.2 (Nat.le_of_ble_eq_true rfl) rfl (wX12_hedges_0 ⟨_, m_isHouse (σ := σ), fun c1 => ?_, fun c1 => ⟨_, m_isSoon (d := d + 7), fun c2 => ?_, fun c2 => ⟨_, m_within, fun c3 => ?_, fun c3 => ?_⟩⟩⟩)
  · exact ref (if_pos (has0 S c1)) cod_i.symm (by decide)
  · have hh := has1 S c1
    exact wX12_hedges_31 (ref ((if_neg (by rw [hh]; decide)).trans (if_pos (bI0 c2))) ((cod_n iae_ni).trans cod_i).symm (by decide))
  · have hh := has1 S c1
    have hn := bI1 c2
    exact wX12_hedges_31 (ref ((if_neg (by rw [hh]; decide)).trans ((if_neg (by rw [hn]; decide)).trans (if_pos (in0 (a := 0) (b := 1) rfl rfl c3)))) ((cod_n iae_ni).trans cod_i).symm (by decide))
  · have hh := has1 S c1
    have hn := bI1 c2
    have hw := in1 (a := 0) (b := 1) rfl rfl c3
    obtain ⟨h1, ei, -⟩ := sHas_ix S hh
    obtain ⟨en, -, hn2⟩ := inN_nI (a := 1) (b := 20) (by decide) (by decide) hn
    have e0 : hHedges T σ i n w = if sGone σ i = true then .inl ise else .inr (hdR w (hdL T σ (ix i) (ix n) (2 ^ sN σ) 0 none)) := (if_neg (by rw [hh]; decide)).trans ((if_neg (by rw [hn]; decide)).trans (if_neg (by rw [hw]; decide)))
    have C := m_isGoneS (g := g) (d := d + 8) (h := h) (m := m) (μ := μ) (σ := σ) (j := ix i) (by omega)
    rw [← ei] at C
    refine ⟨_, C, fun c4 => ?_, fun c4 => ?_⟩
    · have hg : sGone σ i = false := by rw [has_g S hh]; exact bI0 c4
      rw [e0, if_neg (by rw [hg]; decide)]
      refine wX12_hedges_48 ⟨fun f => absurd f thr_n, fun _ => ?_⟩
      rw [mS_I]
      generalize hM : ix n = M at en hn2 ⊢
      generalize hJ : ix i = j at ei h1 ⊢
      subst en
      subst ei
      have loop : ∀ c s b μ', s + c = 2 ^ sN σ → (∀ t, b = some t → t < 128) → ms μ μ' → μ'.1 4 = 0 → J g mX12_hedges (d + 10) (mw h m (mS μ σ)) (wPi h m (mAns μ σ [nse, iae, ise] (.inr (hdR w (hdL T σ j M c s b))))) 66 [(0, .ref m), (1, .int (nI j)), (2, .int (nI M)), (3, .int w), (4, .int (hdN b)), (5, .int (nI s))] [] (mw h m (mS μ' σ)) := by
        intro c
        induction c with
        | zero =>
          intro s b μ' hc hb q q4
          refine wX12_hedges_66 ⟨_, m_housesS (σ := σ), fun f => ?_, fun _ => ⟨fun f => ?_, fun f => ⟨fun f2 => ?_, fun f2 => ?_⟩⟩⟩
          · rw [S.1, shl_t _ (by omega)] at f
            exact absurd f (nI_nlt (by omega) (by omega))
          · have := (hdN_1 hb).mp f
            subst this
            exact ⟨_, fin_0 q q4 rfl, rfl⟩
          · match b, hb with
            | none, _ => exact absurd rfl f
            | some t, hb => exact ⟨_, fin_0 q q4 (if_pos f2).symm, rfl⟩
          · match b, hb with
            | none, _ => exact absurd rfl f
            | some t, hb => exact ⟨_, m_size (hb t rfl), _, fin_0 q q4 (if_neg f2).symm, rfl⟩
        | succ c ih =>
          intro s b μ' hc hb q q4
          have hs7 : s < 128 := by omega
          have big : sml s b = true → J g mX12_hedges (d + 10) (mw h m (mS μ σ)) (wPi h m (mAns μ σ [nse, iae, ise] (.inr (hdR w (hdL T σ j M (c + 1) s b))))) 99 [(0, .ref m), (1, .int (nI j)), (2, .int (nI M)), (3, .int w), (4, .int (hdN b)), (5, .int (nI s))] [] (mw h m (mS μ' σ)) := fun hb2 => by
            refine wX12_hedges_99 ⟨_, m_putsAside (d := d + 8) (σ := σ), fun μ1 q1 => ?_⟩
            obtain ⟨μ2, d2, a2, rfl⟩ := q1
            have q2 : dq μ' μ2 := d2.up (by decide) (by decide)
            refine hed_106 (d := d) (T := T) B (q2.e (by rw [q.kk]; exact E)) a2 (by omega) h1 hs7 (fun μ3 d3 => ?_)
            have q9 := q.tr (q2.s.tr d3.q.s)
            have q10 : μ3.1 4 = 0 := (d3.1 4 (by decide)).trans ((d2.1 4 (by decide)).trans q4)
            by_cases c5 : lstB T (hdS σ s (nI M) (sN σ)) M j = false
            · rw [if_pos c5, show hdL T σ j M (c + 1) s b = hdL T σ j M c (s + 1) (some s) from if_pos ⟨hb2, c5⟩]
              exact ih (s + 1) (some s) μ3 (by omega) (fun t ht => by cases ht; exact hs7) q9 q10
            · rw [if_neg c5, show hdL T σ j M (c + 1) s b = hdL T σ j M c (s + 1) b from if_neg (fun f => c5 f.2)]
              exact ih (s + 1) b μ3 (by omega) hb q9 q10
          refine wX12_hedges_66 ⟨_, m_housesS (σ := σ), fun _ => ⟨fun f => ?_, fun f => ?_⟩, fun f => ?_⟩
          · have := (hdN_1 hb).mp f
            subst this
            exact big rfl
          · match b, hb with
            | none, _ => exact absurd rfl f
            | some t, hb =>
              have pl : ∀ s, popN 7 s < 100 := fun s => by
                rw [pop_bit]
                have := bcnt_max (fun i => Nat.testBit s i) 7
                omega
              refine ⟨_, m_size hs7, _, m_size (hb t rfl), fun f2 => big (decide_eq_true ((nI_lti (by have := pl s; omega) (by have := pl t; omega)).mp f2)), fun f2 => ?_⟩
              rw [show hdL T σ j M (c + 1) s (some t) = hdL T σ j M c (s + 1) (some t) from if_neg (fun f3 => f2 ((nI_lti (by have := pl s; omega) (by have := pl t; omega)).mpr (of_decide_eq_true f3.1))), nI_1]
              exact ih (s + 1) (some t) μ' (by omega) hb q q4
          · rw [S.1, shl_t _ (by omega)] at f
            exact absurd (nI_lt (by omega) (by omega)) f
      exact loop (2 ^ sN σ) 0 none _ (by omega) (fun t ht => by cases ht) (ms_4 0) (mI_at 4 0)
    · have hg : sGone σ i = true := by rw [has_g S hh]; exact bI1 c4
      exact ref (e0.trans (if_pos hg)) ((cod_n (fun f => ne_nis f.symm)).trans ((cod_n ne_iis).trans cod_i)).symm (by decide)
theorem m_bestHedge (B : stB σ) (E : encT (kn μ) T) : Con g mX12_bestHedge (d + 10) [.ref m, .int n] (mw h m (mS μ σ)) (wPi h m (mAns μ σ [iae] (hBestHedge T σ n))) := by
  have S := B.1
  have h7 := S.2
  unfold hBestHedge
  refine con_of km_X12_bestHedge.1.2.2.2.2 (Nat.le_of_ble_eq_true rfl) rfl (wX12_bestHedge_0 ⟨_, m_isSoon (d := d + 7), fun c => ?_, fun c => ?_⟩)
  · rw [if_pos (bI0 c)]
    exact ⟨_, m_fails, fun r ν q => ⟨_, fin_f q, rfl⟩⟩
  · have hn := bI1 c
    obtain ⟨en, -, hn2⟩ := inN_nI (a := 1) (b := 20) (by decide) (by decide) hn
    rw [if_neg (by rw [hn]; decide)]
    generalize hM : ix n = M at en hn2 ⊢
    subst en
    have loop : ∀ c x b l μ', x + c = sN σ → ms μ μ' → μ'.1 4 = 0 → J g mX12_bestHedge (d + 10) (mw h m (mS μ σ)) (wPi h m (mAns μ σ [iae] (.inr (bgL T σ M c x b l)))) 29 [(0, .ref m), (1, .int (nI M)), (2, .int b), (3, .int l), (4, .int (nI x))] [] (mw h m (mS μ' σ)) := by
      intro c
      induction c with
      | zero =>
        intro x b l μ' hx q q4
        refine wX12_bestHedge_29 ⟨_, m_housesS (σ := σ), fun f => ?_, fun _ => ⟨_, fin_0 q q4 rfl, rfl⟩⟩
        rw [S.1] at f
        exact absurd f (nI_nlt (by omega) (by omega))
      | succ c ih =>
        intro x b l μ' hx q q4
        refine wX12_bestHedge_29 ⟨_, m_housesS (σ := σ), fun _ => ⟨_, m_putsAside (d := d + 8) (σ := σ), fun μ1 q1 => ?_⟩, fun f => ?_⟩
        · obtain ⟨μ2, d2, a2, rfl⟩ := q1
          have q2 : dq μ' μ2 := d2.up (by decide) (by decide)
          refine ⟨kin (b := 43) (by omega), ?_⟩
          rw [mS_set (b := 43) (r := 5) (j := x) (v := nI M) (f := upd (kn (mS μ2 σ)) (ix (43 + nI x)) (nI M)) rfl (by decide) (by omega) (by omega) rfl]
          refine ⟨_, m_lostOf (d := d + 1) (σ := σ) (τ := setR σ 5 (upd (σ.2 5) x (nI M))) (T := T) (stB_hedge B _) (q2.e (by rw [q.kk]; exact E)) a2 rfl (by omega), fun r μ4 q4' => ?_⟩
          obtain ⟨rfl, μ5, d5, rfl⟩ := q4'
          have q6 := q.tr (q2.s.tr d5.q.s)
          have q7 : μ5.1 4 = 0 := (d5.1 4 (by decide)).trans ((d2.1 4 (by decide)).trans q4)
          rw [nI_1]
          refine ⟨fun f3 => ?_, fun f3 => ?_⟩
          · rw [show bgL T σ M (c + 1) x b l = bgL T σ M c (x + 1) (nI x) (lsV T (setR σ 5 (upd (σ.2 5) x (nI M))) M) from if_pos f3]
            exact ih (x + 1) _ _ μ5 (by omega) q6 q7
          · rw [show bgL T σ M (c + 1) x b l = bgL T σ M c (x + 1) b l from if_neg f3]
            exact ih (x + 1) _ _ μ5 (by omega) q6 q7
        · rw [S.1] at f
          exact absurd (nI_lt (by omega) (by omega)) f
    refine ⟨_, m_lostNow (d := d) (μ := mI μ 4 0) (σ := σ) (T := T) B E (by omega), fun r μ1 q1 => ?_⟩
    obtain ⟨rfl, μ2, q2, -, rfl⟩ := q1
    exact loop (sN σ) 0 (-1) _ μ2 (by omega) (ms_q q2).1 (ms_q q2).2
/-! the least gift that saves -/
theorem liv_1 (c : bI (decide (¬ livC σ i n = 0)) = 0) : sHas σ i = true ∧ inN n 1 20 = true ∧ sGone σ i = false ∧ livC σ i n = 0 := by
  have c := of_decide_eq_false (bI0 c)
  have c0 : livC σ i n = 0 := Classical.byContradiction c
  refine ⟨?_, ?_, ?_, c0⟩
  all_goals unfold livC at c0
  · cases hh : sHas σ i with
    | true => rfl
    | false => rw [if_pos hh] at c0; exact absurd c0 (by decide)
  · by_cases c1 : sHas σ i = false
    · rw [if_pos c1] at c0; exact absurd c0 (by decide)
    · rw [if_neg c1] at c0
      cases hh : inN n 1 20 with
      | true => rfl
      | false => rw [if_pos hh] at c0; exact absurd c0 (by decide)
  · by_cases c1 : sHas σ i = false
    · rw [if_pos c1] at c0; exact absurd c0 (by decide)
    · rw [if_neg c1] at c0
      by_cases c2 : inN n 1 20 = false
      · rw [if_pos c2] at c0; exact absurd c0 (by decide)
      · rw [if_neg c2] at c0
        cases hh : sGone σ i with
        | false => rfl
        | true => rw [if_pos hh] at c0; exact absurd c0 (by decide)
theorem fin_liv {α : Type} {r : α} {X : An α} (c : ¬ livC σ i n = 0) (e1 : sHas σ i = false → X = .inl nse) (e2 : ¬ sHas σ i = false → inN n 1 20 = false → X = .inl iae) (e3 : ¬ sHas σ i = false → ¬ inN n 1 20 = false → sGone σ i = true → X = .inl ise) : mAns μ σ [nse, iae, ise] X r (mI (mS μ σ) 4 (livC σ i n)) := by
  unfold livC at c ⊢
  by_cases h1 : sHas σ i = false
  · rw [if_pos h1, e1 h1]
    exact fin_1 cod_i.symm
  · rw [if_neg h1] at c ⊢
    by_cases h2 : inN n 1 20 = false
    · rw [if_pos h2, e2 h1 h2]
      exact fin_1 ((cod_n iae_ni).trans cod_i).symm
    · rw [if_neg h2] at c ⊢
      by_cases h3 : sGone σ i = true
      · rw [if_pos h3, e3 h1 h2 h3]
        exact fin_1 ((cod_n (fun f => ne_nis f.symm)).trans ((cod_n ne_iis).trans cod_i)).symm
      · rw [if_neg h3] at c
        exact absurd rfl c
theorem stB_cash (B : stB σ) {i : Nat} {v : Int32} (hv : rng v) : stB (setR σ 2 (upd (σ.2 2) i v)) := by
  refine stB_set (σ := σ) rfl B (fun x hx => ?_)
  have R := B.2.1 x hx
  refine ⟨R.1, R.2.1, R.2.2.1, ?_, R.2.2.2.2⟩
  show rng (upd (σ.2 2) i v x)
  unfold upd
  split
  · exact hv
  · exact R.2.2.2.1
theorem rng_min {a : Int32} {x : Nat} (r : rng a) (hx : x < 1000) : rng (jmin 999999 (a + nI x)) := by
  unfold rng at *
  have e := jmin_t 999999 (a + nI x)
  have e2 : (a + nI x).toInt = a.toInt + x := by
    rw [tI_add (by rw [nI_toInt (by omega)]; omega), nI_toInt (by omega)]
  rw [e, e2, show (999999 : Int32).toInt = 999999 from rfl]
  split <;> omega
theorem m_saves (B : stB σ) (E : encT (kn μ) T) : Con g mX12_saves (d + 10) [.ref m, .int i, .int n] (mw h m (mS μ σ)) (wPi h m (mAns μ σ [nse, iae, ise] (hSaves T σ i n))) := by
  have S := B.1
  have h7 := S.2
  refine con_of km_X12_saves.1.2.2.2.2 (Nat.le_of_ble_eq_true rfl) rfl (wX12_saves_0 ⟨_, m_isLivingOut (d := d + 6) (σ := σ) B.1, fun r μ1 q => ?_⟩)
  obtain ⟨hr, rfl⟩ := q
  subst hr
  refine ⟨fun c => ?_, fun c => ?_⟩
  · obtain ⟨hh, hn, hg, c0⟩ := liv_1 c
    obtain ⟨h1, ei, -⟩ := sHas_ix S hh
    obtain ⟨en, -, hn2⟩ := inN_nI (a := 1) (b := 20) (by decide) (by decide) hn
    unfold hSaves
    rw [if_neg (by rw [hh]; decide), if_neg (by rw [hn]; decide), if_neg (by rw [hg]; decide), c0, mS_I]
    generalize hM : ix n = M at en hn2 ⊢
    generalize hJ : ix i = j at ei h1 ⊢
    subst en
    subst ei
    have loop : ∀ c x μ', x + c = 1000 → ms μ μ' → μ'.1 4 = 0 → J g mX12_saves (d + 10) (mw h m (mS μ σ)) (wPi h m (mAns μ σ [nse, iae, ise] (.inr (svL T σ j M c x)))) 13 [(0, .ref m), (1, .int (nI j)), (2, .int (nI M)), (3, .int (nI x))] [] (mw h m (mS μ' σ)) := by
      intro c
      induction c with
      | zero =>
        intro x μ' hx q q4
        refine wX12_saves_13 ⟨fun _ => ⟨_, fin_0 q q4 rfl, rfl⟩, fun f => absurd (nI_lt (a := 999) (by omega) (by omega)) f⟩
      | succ c ih =>
        intro x μ' hx q q4
        refine wX12_saves_13 ⟨fun f => absurd f (nI_nlt (a := 999) (by omega) (by omega)), fun _ => ⟨_, m_putsAside (d := d + 8) (σ := σ), fun μ1 q1 => ?_⟩⟩
        obtain ⟨μ2, d2, a2, rfl⟩ := q1
        have q2 : dq μ' μ2 := d2.up (by decide) (by decide)
        have e22 : kn (mS μ2 σ) (ix (22 + nI j)) = σ.2 2 j := by
          rw [show ix ((22 : Int32) + nI j) = 22 + j from kx (b := 22) (by omega), kj (b := 22) (r := 2) rfl (by decide) (by omega)]
        rw [e22]
        refine ⟨kin (b := 22) (by omega), _, m_capped, kin (b := 22) (by omega), ?_⟩
        rw [mS_set (b := 22) (r := 2) (j := j) (v := jmin 999999 (σ.2 2 j + nI x)) (f := upd (kn (mS μ2 σ)) (ix (22 + nI j)) (jmin 999999 (σ.2 2 j + nI x))) rfl (by decide) (by omega) (by omega) rfl]
        refine ⟨_, m_isLostFromHere (d := d) (σ := σ) (τ := gvS σ j x) (T := T) (stB_cash B (rng_min (B.2.1 j h1).2.2.2.1 (by omega))) (q2.e (by rw [q.kk]; exact E)) a2 rfl (by omega) h1, fun r μ4 q4' => ?_⟩
        obtain ⟨rfl, μ5, d5, rfl⟩ := q4'
        have q6 := q.tr (q2.s.tr d5.q.s)
        have q7 : μ5.1 4 = 0 := (d5.1 4 (by decide)).trans ((d2.1 4 (by decide)).trans q4)
        rw [nI_1]
        refine ⟨fun f3 => ?_, fun f3 => ?_⟩
        · rw [show svL T σ j M (c + 1) x = nI x from if_pos (bI0 f3)]
          exact ⟨_, fin_0 q6 q7 rfl, rfl⟩
        · rw [show svL T σ j M (c + 1) x = svL T σ j M c (x + 1) from if_neg (by rw [bI1 f3]; decide)]
          exact ih (x + 1) μ5 (by omega) q6 q7
    exact loop 1000 0 _ rfl (ms_4 0) (mI_at 4 0)
  · have c0 := of_decide_eq_true (bI1 c)
    exact ⟨_, fin_liv c0 (fun f => if_pos f) (fun f f2 => (if_neg f).trans (if_pos f2)) (fun f f2 f3 => (if_neg f).trans ((if_neg f2).trans (if_pos f3))), rfl⟩
end MHG
