/-! The reference: told deeds are done; trays; judge -/
/-- a tray lies in the world -/
def tyAt (μ : MW) (j : Nat) (θ : Ty) : Prop := (μ.2.1 15 j = θ.2.1 ∧ μ.2.1 16 j = θ.1) ∧ ∀ k, k < 30 → μ.2.2 (30 * j + k) = θ.2.2 k
def tysAt (μ : MW) (Y : Nat → Ty) : Prop := ∀ j, j < 4 → tyAt μ j (Y j)
def tysOk (Y : Nat → Ty) : Prop := ∀ j, j < 4 → ∃ M, M ≤ 30 ∧ (Y j).1 = nI M
def trE (Y : Nat → Ty) (i : Int32) : Option String := if trOk i = false then some nse else if (Y (ix i)).2.1 = -1 then some ise else none
def trC (Y : Nat → Ty) (i : Int32) : Int32 := if trOk i = false then 1 else if (Y (ix i)).2.1 = -1 then 2 else 0
def hJudge (T : Td) (Y : Nat → Ty) (σ : St) (i w : Int32) : An Int32 := match trE Y i with
  | some E => .inl E
  | none => if inN w 0 3 = false then .inl iae else .inr (judV (judL T T.1.2.2 (Y (ix i)).2.2 (ix (Y (ix i)).1) 0 σ) w)
section MTR
variable {g : jG} {d : Nat} {h : jH} {m : Nat} {μ ν : MW} {i k n w : Int32} {T : Td} {σ τ : St} {I A : List Nat} {N : Nat} {K K' : Nat → Int32} {ξ ζ : Hs} {v : Int64} {Y : Nat → Ty}
theorem carF_n {lim : Int32} {n : Nat} (hn : n < 400) : carF T lim σ (nI n).toInt64 = if n < 100 then sExch σ (nI (n / 10 % 10)) (nI (n % 10)) else if n < 200 ∧ sHas σ (nI (n % 10)) = true then setR σ 5 (upd (σ.2 5) (ix (nI (n % 10))) 4) else if 200 ≤ n ∧ n < 300 then sPay σ (nI (n % 10)) 999999 else sGive σ (nI (n / 10 % 10)) (nI (n % 10)) 10 := by
  obtain ⟨-, b, -, d, e, f, -⟩ := tol_u n hn
  obtain ⟨s0, s1, s2⟩ := nI_s (n / 100) (by omega)
  unfold carF
  rw [if_neg b, d, e, f]
  by_cases c1 : n < 100
  · rw [if_pos c1, if_pos (s0.mpr (by omega))]
  · rw [if_neg c1, if_neg (fun q => c1 (by have := s0.mp q; omega))]
    by_cases c2 : n < 200 ∧ sHas σ (nI (n % 10)) = true
    · rw [if_pos c2, if_pos ⟨s1.mpr (by omega), c2.2⟩]
    · rw [if_neg c2, if_neg (fun q => c2 ⟨by have := s1.mp q.1; omega, q.2⟩)]
      by_cases c3 : 200 ≤ n ∧ n < 300
      · rw [if_pos c3, if_pos (s2.mpr (by omega))]
      · rw [if_neg c3, if_neg (fun q => c3 (by have := s2.mp q; omega))]
/-- a told deed that nothing speaks against -/
theorem why_0 (c : whyF σ v = 0) : v = -1 ∨ ∃ n, n < 400 ∧ v = (nI n).toInt64 ∧ (n < 100 → sWhySwap σ (nI (n / 10 % 10)) (nI (n % 10)) = 0) ∧ (100 ≤ n → n < 200 → n < 110 ∧ sHas σ (nI (n % 10)) = true) ∧ (200 ≤ n → n < 300 → n < 210 ∧ sWhyPay σ (nI (n % 10)) = 0) ∧ (300 ≤ n → sWhyGift σ (nI (n / 10 % 10)) (nI (n % 10)) 10 = 0) := by
  by_cases c1 : v = -1
  · exact Or.inl c1
  · refine Or.inr ?_
    by_cases cx : v < 0 ∨ 399 < v
    · rw [why_x c1 cx] at c; exact absurd c (by decide)
    · obtain ⟨n, hn, rfl⟩ := tol_n (fun q => cx (Or.inl q)) (fun q => cx (Or.inr q))
      rw [why_n hn] at c
      refine ⟨n, hn, rfl, fun q => by rw [if_pos q] at c; exact c, fun q q2 => ?_, fun q q2 => ?_, fun q => ?_⟩
      · rw [if_neg (by omega), if_pos q2] at c
        by_cases c3 : n < 110
        · rw [if_pos c3] at c
          refine ⟨c3, ?_⟩
          by_cases c4 : sHas σ (nI (n % 10)) = false
          · rw [if_pos c4] at c; exact absurd c (by decide)
          · cases hh : sHas σ (nI (n % 10)) with
            | true => rfl
            | false => exact absurd hh c4
        · rw [if_neg c3] at c; exact absurd c (by decide)
      · rw [if_neg (by omega), if_neg (by omega), if_pos q2] at c
        by_cases c3 : n < 210
        · rw [if_pos c3] at c; exact ⟨c3, c⟩
        · rw [if_neg c3] at c; exact absurd c (by decide)
      · rw [if_neg (by omega), if_neg (by omega), if_neg (by omega)] at c; exact c
theorem stB_carF {lim : Int32} (B : stB σ) (c : whyF σ v = 0) : stB (carF T lim σ v) := by
  rcases why_0 c with rfl | ⟨n, hn, rfl, c1, c2, c3, c4⟩
  · exact stB_pas B
  · rw [carF_n hn]
    by_cases q1 : n < 100
    · rw [if_pos q1]; exact stB_exch B
    · rw [if_neg q1]
      by_cases q2 : n < 200 ∧ sHas σ (nI (n % 10)) = true
      · rw [if_pos q2]; exact stB_hedge B _
      · rw [if_neg q2]
        by_cases q3 : 200 ≤ n ∧ n < 300
        · rw [if_pos q3]; exact stB_pay B (by decide)
        · rw [if_neg q3]
          have q4 : 300 ≤ n := by
            by_cases q : 300 ≤ n
            · exact q
            · exact absurd ⟨by omega, (c2 (by omega) (by omega)).2⟩ q2
          have g0 := gif_0 (c4 q4)
          exact stB_give B g0.1 g0.2.1 (by decide) (by decide) (gif_1 (c4 q4))
theorem m_does (B : stB σ) (E : encT (kn μ) T) (c : whyF σ v = 0) : Con g mX12_does (d + 7) [.ref m, .int v.toInt32] (mw h m (mS μ σ)) (wPv h m (fun ν => ∃ μ', qr μ μ' ∧ ν = mS μ' (carF T T.1.2.2 σ v))) := by
  have S := B.1
  rcases why_0 c with rfl | ⟨n, hn, rfl, c1, c2, c3, c4⟩
  · refine con_of km_X12_does.1.2.2.2.2 (Nat.le_of_ble_eq_true rfl) rfl (wX12_does_0 ⟨fun _ => ⟨_, m_quarterW (σ := σ) B E, fun μ1 q => ?_⟩, fun q => absurd (by decide) q⟩)
    obtain ⟨μ', q1, -, -, -, rfl⟩ := q
    exact ⟨_, ⟨μ', q1, rfl⟩, rfl⟩
  · rw [show (nI n).toInt64.toInt32 = nI n from i64_32]
    obtain ⟨w0, w1, w2, w3, w4, w5, w6, w7, w8⟩ := tol_w n hn
    have W := carF_n (T := T) (lim := T.1.2.2) (σ := σ) hn
    refine con_of km_X12_does.1.2.2.2.2 (Nat.le_of_ble_eq_true rfl) rfl (wX12_does_0 ⟨fun q => absurd q w0, fun _ => ⟨fun q => ?_, fun q1 => ⟨fun q => ?_, fun q2 => ⟨fun q => ?_, fun q3 => ?_⟩⟩⟩⟩)
    · have q := w1.mp q
      obtain ⟨hi, hk, -⟩ := swp_0 (c1 q)
      obtain ⟨i1, i2, h7⟩ := sHas_ix S hi
      obtain ⟨k1, k2, -⟩ := sHas_ix S hk
      rw [w4, w5 q, W, if_pos q]
      have C := m_swaps (g := g) (d := d + 5) (h := h) (m := m) (μ := μ) (σ := σ) (i := ix (nI (n / 10 % 10))) (k := ix (nI (n % 10))) (by omega) (by omega)
      rw [← i2, ← k2, exN_ex hi hk] at C
      exact ⟨_, C, fun μ1 q2 => ⟨_, ⟨μ, qr.rf μ, q2⟩, rfl⟩⟩
    · have q := w2.mp q
      have q1 : ¬ n < 100 := fun f => q1 (w1.mpr f)
      obtain ⟨q5, hh⟩ := c2 (by omega) q
      obtain ⟨i1, i2, h7⟩ := sHas_ix S hh
      rw [W, if_neg q1, if_pos ⟨q, hh⟩, w6 (by omega) q5]
      have e : ix (nI (n % 10)) = n % 10 := ix_nI (by omega)
      rw [e] at i1
      refine ⟨kin (by omega), _, ⟨μ, qr.rf μ, ?_⟩, rfl⟩
      rw [e]
      exact mS_set (b := 43) (r := 5) (j := n % 10) rfl (by decide) (by omega) (by omega) rfl
    · have q := w3.mp q
      have q2 : ¬ n < 200 := fun f => q2 (w2.mpr f)
      obtain ⟨q5, hp⟩ := c3 (by omega) q
      rw [W, if_neg (by omega), if_neg (fun f => q2 f.1), if_pos ⟨by omega, q⟩, w7 (by omega) q5]
      exact ⟨_, m_paysOff (σ := σ) S (pay_0 hp), fun r μ1 q2 => ⟨_, ⟨μ, qr.rf μ, q2.2⟩, rfl⟩⟩
    · have q3 : ¬ n < 300 := fun f => q3 (w3.mpr f)
      have g0 := gif_0 (c4 (by omega))
      rw [W, if_neg (by omega), if_neg (fun f => q3 (by omega)), if_neg (fun f => q3 f.2), w4, w8 (by omega)]
      exact ⟨_, m_gives (σ := σ) S g0.1 g0.2.1, fun μ1 q2 => ⟨_, ⟨μ, qr.rf μ, q2⟩, rfl⟩⟩
/-! trays -/
theorem tysAt.of {a b : MW} (y : tysAt a Y) (e1 : b.2.1 15 = a.2.1 15) (e2 : b.2.1 16 = a.2.1 16) (e3 : b.2.2 = a.2.2) : tysAt b Y := fun j hj => by
  unfold tyAt
  rw [e1, e2, e3]
  exact y j hj
theorem dif.ty {a b : MW} (x : dif I A a b) (h1 : ¬ 15 ∈ A) (h2 : ¬ 16 ∈ A) (y : tysAt a Y) : tysAt b Y := y.of (x.2.2 15 h1) (x.2.2 16 h2) x.2.1
theorem trOk_n (c : trOk i = true) : i = nI (ix i) ∧ ix i < 4 := by
  have c := of_decide_eq_true c
  rw [Int32.lt_iff_toInt_lt, Int32.lt_iff_toInt_lt, show (0 : Int32).toInt = 0 from rfl, show (4 : Int32).toInt = 4 from rfl] at c
  have e : ix i = i.toInt.toNat := rfl
  refine ⟨?_, by rw [e]; omega⟩
  apply Int32.toInt_inj.mp
  rw [e, nI_toInt (by omega)]
  omega
theorem trOk_in : inN i 0 3 = trOk i := by
  unfold inN trOk
  refine decide_eq_decide.mpr (and_congr Iff.rfl ?_)
  rw [Int32.lt_iff_toInt_lt, Int32.lt_iff_toInt_lt, show (3 : Int32).toInt = 3 from rfl, show (4 : Int32).toInt = 4 from rfl]
  omega
theorem m_isTray : Con g mX12_isTray (d + 2) [.int i] (mw h m μ) (wv h m μ (bI (trOk i))) := by
  refine con_of km_X12_isTray.1.2.2.2.2 (Nat.le_of_ble_eq_true rfl) rfl (wX12_isTray_0 ⟨_, m_within, bI_01 _, ?_, rfl⟩)
  rw [show inL i.toInt64 0 3 = inN i 0 3 from inL_n (a := 0) (b := 3) rfl rfl, trOk_in]
theorem m_trayFault (y : tysAt μ Y) : Con g mX12_trayFault (d + 3) [.ref m, .int i] (mw h m μ) (wv h m μ (trC Y i)) := by
  unfold trC
  refine con_of km_X12_trayFault.1.2.2.2.2 (Nat.le_of_ble_eq_true rfl) rfl (wX12_trayFault_0 ⟨_, m_isTray, fun c => ⟨(if_pos (bI0 c)).symm, rfl⟩, fun c => ?_⟩)
  have c := bI1 c
  obtain ⟨t1, t2⟩ := trOk_n c
  have c0 : ¬ trOk i = false := by rw [c]; decide
  obtain ⟨⟨y1, -⟩, -⟩ := y (ix i) t2
  rw [y1, if_neg c0]
  exact ⟨by rw [t1]; exact vp_in_nI t2 (by decide), fun q => ⟨(if_pos q).symm, rfl⟩, fun q => ⟨(if_neg q).symm, rfl⟩⟩
theorem trC_0 : trC Y i = 0 ↔ trE Y i = none := by
  unfold trC trE
  by_cases c : trOk i = false
  · rw [if_pos c, if_pos c]; decide
  · rw [if_neg c, if_neg c]
    by_cases c2 : (Y (ix i)).2.1 = -1
    · rw [if_pos c2, if_pos c2]; decide
    · rw [if_neg c2, if_neg c2]; exact ⟨fun _ => rfl, fun _ => rfl⟩
theorem trE_n (c : trE Y i = none) : trOk i = true ∧ ¬ (Y (ix i)).2.1 = -1 := by
  unfold trE at c
  by_cases c1 : trOk i = false
  · rw [if_pos c1] at c; cases c
  · rw [if_neg c1] at c
    by_cases c2 : (Y (ix i)).2.1 = -1
    · rw [if_pos c2] at c; cases c
    · cases hh : trOk i with
      | true => exact ⟨rfl, c2⟩
      | false => exact absurd hh c1
theorem ne_nis : ¬ nse = ise := by unfold nse ise; decide
theorem ne_iis : ¬ ise = iae := by unfold iae ise; decide
/-- the number of a tray's fault -/
theorem trC_c {E : String} {xs : List String} (c : trE Y i = some E) : trC Y i = codE (nse :: ise :: xs) E 1 ∧ 0 < trC Y i := by
  unfold trE at c
  unfold trC
  by_cases c1 : trOk i = false
  · rw [if_pos c1] at c ⊢
    cases c
    exact ⟨cod_i.symm, by decide⟩
  · rw [if_neg c1] at c ⊢
    by_cases c2 : (Y (ix i)).2.1 = -1
    · rw [if_pos c2] at c ⊢
      cases c
      exact ⟨((cod_n (fun f => ne_nis f.symm)).trans cod_i).symm, by decide⟩
    · rw [if_neg c2] at c; cases c
theorem cod_3 : codE [nse, ise, iae] iae 1 = 3 := (cod_n iae_ni).trans ((cod_n (fun f => ne_iis f.symm)).trans cod_i)
theorem m30 : ∀ a, a < 4 → (30 : Int32) * nI a = nI (30 * a) := by decide
theorem ty_at (y : tysAt μ Y) (c : trOk i = true) (k : Nat) (hk : k < 30) : vp_in (30 * i + nI k) 120 ∧ μ.2.2 (ix (30 * i + nI k)) = (Y (ix i)).2.2 k := by
  obtain ⟨t1, t2⟩ := trOk_n c
  have e : (30 : Int32) * i + nI k = nI (30 * ix i + k) := by
    rw [t1, ix_nI (by omega), m30 _ t2, nI_add]
  rw [e, ix_nI (by omega)]
  exact ⟨vp_in_nI (by omega) (by decide), (y (ix i) t2).2 k hk⟩
theorem ty_many (y : tysAt μ Y) (c : trOk i = true) : vp_in i 4 ∧ μ.2.1 16 (ix i) = (Y (ix i)).1 := by
  obtain ⟨t1, t2⟩ := trOk_n c
  exact ⟨by rw [t1]; exact vp_in_nI t2 (by decide), (y (ix i) t2).1.2⟩
theorem tysAt.s (y : tysAt μ Y) : tysAt (mS μ σ) Y := y.of rfl rfl rfl
theorem tysAt.mi (y : tysAt μ Y) {v : Int32} : tysAt (mI μ 4 v) Y := y.of rfl rfl rfl
theorem ms.ty {a b : MW} (x : ms a b) (y : tysAt a Y) : tysAt b Y := dif.ty x (by decide) (by decide) y
theorem ms.kk {a b : MW} (x : ms a b) : kn b = kn a := dif.kk x (by decide)
theorem nI_m1 {j : Nat} (hj : j < 2 ^ 31) : ¬ nI j = -1 := fun c => by
  have := congrArg Int32.toInt c
  rw [nI_toInt hj, show (-1 : Int32).toInt = -1 from rfl] at this
  omega
/-! judge -/
theorem jud_122 {hs : jH} {α : St} {x3 x4 : Int32} {μ' : MW} {xs : List String} (B : stB α) (e0 : α.1 0 = σ.1 0) (Y' : asd μ' σ) (q : ms μ μ') (q4 : μ'.1 4 = 0) (hw : inN w 0 3 = true) : J g mX12_judge (d + 3) hs (wPi h m (mAns μ σ xs (.inr (judV (x3, x4, α) w)))) 122 [(0, .ref m), (2, .int w), (3, .int x3), (4, .int x4)] [] (mw h m (mS μ' α)) := by
  have C := m_sumOf (g := g) (d := d) (h := h) (m := m) (μ := μ') (σ := α) (b := 36) (r := 4) rfl (by decide) B.1
  refine wX12_judge_122 ⟨_, C, _, m_putsBack (τ := α) Y' e0, fun μ1 q1 => ?_⟩
  subst q1
  unfold judV
  refine ⟨fun c => ⟨_, fin_0 q q4 ?_, rfl⟩, fun c => ⟨fun c2 => ⟨_, fin_0 q q4 ?_, rfl⟩, fun c2 => ⟨fun c3 => ⟨_, fin_0 q q4 ?_, rfl⟩, fun c3 => ⟨_, fin_0 q q4 ?_, rfl⟩⟩⟩⟩
  · rw [if_pos c]
  · rw [if_neg c, if_pos c2]
  · rw [if_neg c, if_neg c2, if_pos c3]
  · rw [if_neg c, if_neg c2, if_neg c3]; exact kS_51 (K := kn μ')
theorem jud_54 {hs : jH} {xs : List String} {M : Nat} (hM : M ≤ 30) (eM : (Y (ix i)).1 = nI M) (E : encT (kn μ) T) (c : trOk i = true) (y : tysAt μ Y) (hw : inN w 0 3 = true) : ∀ r j α μ', j + r = M → stB α → α.1 0 = σ.1 0 → asd μ' σ → ms μ μ' → μ'.1 4 = 0 → J g mX12_judge (d + 8) hs (wPi h m (mAns μ σ xs (.inr (judV (judL T T.1.2.2 (Y (ix i)).2.2 r j α) w)))) 54 [(0, .ref m), (1, .int i), (2, .int w), (3, .int (-1)), (4, .int 0), (5, .int (nI j))] [] (mw h m (mS μ' α)) := by
  intro r
  induction r with
  | zero =>
    intro j α μ' hj B e0 Y' q q4
    obtain ⟨y1, y2⟩ := ty_many (q.ty y) c
    have y3 : (mS μ' α).2.1 16 (ix i) = nI M := y2.trans eM
    refine wX12_judge_54 ⟨y1, fun f => ?_, fun _ => ?_⟩
    · rw [y3] at f
      exact absurd f (nI_nlt (by omega) (by omega))
    · exact jud_122 (d := d + 5) B e0 Y' q q4 hw
  | succ r ih =>
    intro j α μ' hj B e0 Y' q q4
    obtain ⟨y1, y2⟩ := ty_many (q.ty y) c
    have y3 : (mS μ' α).2.1 16 (ix i) = nI M := y2.trans eM
    obtain ⟨z1, z2⟩ := ty_at (q.ty y) c j (by omega)
    have z3 : (mS μ' α).2.2 (ix (30 * i + nI j)) = (Y (ix i)).2.2 j := z2
    refine wX12_judge_54 ⟨y1, fun _ => ⟨fun _ => ⟨z1, ?_⟩, fun f => absurd rfl f⟩, fun f => ?_⟩
    · rw [z3]
      refine ⟨_, m_whyTold (d := d + 2) (σ := α) B, fun f => ⟨z1, _, m_does (σ := α) (T := T) B (by rw [q.kk]; exact E) f, fun μ1 q1 => ?_⟩, fun f => ?_⟩
      · obtain ⟨μ2, q2, rfl⟩ := q1
        rw [nI_1, f]
        have e : judL T T.1.2.2 (Y (ix i)).2.2 (r + 1) j α = judL T T.1.2.2 (Y (ix i)).2.2 r (j + 1) (carF T T.1.2.2 α ((Y (ix i)).2.2 j)) := if_pos f
        rw [e]
        exact ih (j + 1) _ μ2 (by omega) (stB_carF B f) (carF_1.trans e0) (q2.asd Y') (q.tr q2.q.s) ((q2.1 4 (by decide) (by decide)).trans q4)
      · have e : judL T T.1.2.2 (Y (ix i)).2.2 (r + 1) j α = (nI j, whyF α ((Y (ix i)).2.2 j), α) := if_neg f
        rw [e]
        refine wX12_judge_54 ⟨y1, fun _ => ⟨fun f2 => absurd f2 (nI_m1 (by omega)), fun _ => ?_⟩, fun _ => ?_⟩
        · exact jud_122 (d := d + 5) B e0 Y' q q4 hw
        · exact jud_122 (d := d + 5) B e0 Y' q q4 hw
    · rw [y3] at f
      exact absurd (nI_lt (by omega) (by omega)) f
theorem m_judge (B : stB σ) (E : encT (kn μ) T) (y : tysAt μ Y) (Z : tysOk Y) : Con g mX12_judge (d + 8) [.ref m, .int i, .int w] (mw h m (mS μ σ)) (wPi h m (mAns μ σ [nse, ise, iae] (hJudge T Y σ i w))) := by
  unfold hJudge
  refine con_of km_X12_judge.1.2.2.2.2 (Nat.le_of_ble_eq_true rfl) rfl (wX12_judge_0 ⟨_, m_trayFault (d := d + 4) (μ := mS μ σ) (Y := Y) y.s, fun c => ⟨_, m_within, fun c2 => ?_, fun c2 => ?_⟩, fun c => ?_⟩)
  · rw [mI_at] at c
    rw [trC_0.mp c]
    refine wX12_judge_33 ⟨fun _ => ⟨_, ⟨mI (mI μ 4 (trC Y i)) 4 3, (ms_4 _).tr (ms_4 3), (mI_at 4 3).trans ?_, fun v f => ?_, rfl⟩, rfl⟩, fun f => absurd (thr_p (by decide)) f⟩
    · show _ = cod _ (if _ then _ else _)
      rw [if_pos (in0 (a := 0) (b := 3) rfl rfl c2)]
      exact cod_3.symm
    · replace f : (if inN w 0 3 = false then .inl iae else .inr (judV (judL T T.1.2.2 (Y (ix i)).2.2 (ix (Y (ix i)).1) 0 σ) w) : An Int32) = .inr v := f
      rw [if_pos (in0 (a := 0) (b := 3) rfl rfl c2)] at f
      cases f
  · rw [mI_at] at c
    have hw := in1 (a := 0) (b := 3) rfl rfl c2
    have hw2 : ¬ inN w 0 3 = false := by rw [hw]; decide
    have tn := trC_0.mp c
    obtain ⟨t1, t2⟩ := trE_n tn
    rw [tn, c]
    show J g mX12_judge (d + 8) _ (wPi h m (mAns μ σ [nse, ise, iae] (if inN w 0 3 = false then .inl iae else .inr (judV (judL T T.1.2.2 (Y (ix i)).2.2 (ix (Y (ix i)).1) 0 σ) w)))) 33 _ [] _
    rw [if_neg hw2, mS_I]
    obtain ⟨M, hM, eM⟩ := Z (ix i) (trOk_n t1).2
    rw [eM, ix_nI (by omega)]
    refine wX12_judge_33 ⟨fun f => absurd f (thr_n (μ := μ)), fun _ => ⟨_, m_putsAside (d := d + 6) (σ := σ), fun μ1 q => ?_⟩⟩
    obtain ⟨μ2, q1, q2, rfl⟩ := q
    have q3 : ms μ μ2 := (ms_4 0).tr (q1.up (by decide) (by decide))
    exact jud_54 hM eM E t1 y hw M 0 σ μ2 (by omega) B rfl q2 q3 ((q1.1 4 (by decide)).trans (mI_at 4 0))
  · rw [mI_at] at c
    cases hE : trE Y i with
    | none => exact absurd (trC_0.mpr hE) c
    | some E =>
      obtain ⟨c1, c2⟩ := trC_c (xs := [iae]) hE
      exact wX12_judge_33 ⟨fun _ => ⟨_, fin_1 c1, rfl⟩, fun f => absurd (thr_p c2) f⟩
end MTR
