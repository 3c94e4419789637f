/-! The law's loop -/
def lwOffs : Array Int := #[200, 273, 329, 354, 422, 490, 546, 614, 689, 726, 775, 843, 880, 936, 992, 1060, 1116, 1184, 1252, 1320, 1376, 1432, 1445, 1501, 1568, 1624, 1679, 1747, 1803, 1859, 1915, 1983, 2063, 2119, 2187, 2243, 2311, 2367, 2435, 2515, 2583, 2643, 2754, 2822, 2858, 2894]
theorem jn_L_8 : jNw RL 8 11 14 := ⟨RX11, TX11, tyX11, rfl, jin11, tyX11_ok, jw_in 30 (by decide +kernel), jw_in 31 (by decide +kernel), jw_in 1 (by decide +kernel)⟩
theorem jn_L_144 : jNw RL 144 12 38 := ⟨RX12, TX12, tyX12, rfl, jin12, tyX12_ok, jw_in 1418 (by decide +kernel), jw_in 1419 (by decide +kernel), jw_in 13 (by decide +kernel)⟩
theorem jl_L_143 : Cond.methodLink RL 143 mX11_init.1 ∈ lw_tbl := jw_in 32 (by decide +kernel)
theorem jl_L_146 : Cond.methodLink RL 146 mX12_init.1 ∈ lw_tbl := jw_in 1420 (by decide +kernel)
section LLP
variable {g : jG} {hs : jH} {H : jH} {o L j : Nat} {xs : Nat → Int32} {ω : CW} {μ : MW}
set_option maxRecDepth 4000 in
theorem cs_all (hN : jnc g) (hL : L ≤ 3072) (hj : 6 * j + 6 ≤ L) (I : LI g L xs o j H ω μ) (K : ∀ H' ω' ν, LNx g L xs o (j + 1) H' ω' ν → J g mL_law 121 hs PL 2959 (lvL g o (nI (6 * j))) [] (lh g H' o ω' ν)) (n : Nat) (hn : n < 46) : ∃ (tgt : Nat) (off : Int), lwOffs[n]? = some off ∧ ((40 : Nat) : Int) + off = (tgt : Int) ∧ J g mL_law 121 hs PL tgt (lvL g o (nI (6 * j))) [] (lh g H o ω μ) := by
  match n, hn with
  | 0, _ => exact ⟨240, 200, rfl, by decide, cs_0 hN hL hj I K⟩
  | 1, _ => exact ⟨313, 273, rfl, by decide, cs_1 hN hL hj I K⟩
  | 2, _ => exact ⟨369, 329, rfl, by decide, cs_2 hN hL hj I K⟩
  | 3, _ => exact ⟨394, 354, rfl, by decide, cs_3 hN hL hj I K⟩
  | 4, _ => exact ⟨462, 422, rfl, by decide, cs_4 hN hL hj I K⟩
  | 5, _ => exact ⟨530, 490, rfl, by decide, cs_5 hN hL hj I K⟩
  | 6, _ => exact ⟨586, 546, rfl, by decide, cs_6 hN hL hj I K⟩
  | 7, _ => exact ⟨654, 614, rfl, by decide, cs_7 hN hL hj I K⟩
  | 8, _ => exact ⟨729, 689, rfl, by decide, cs_8 hN hL hj I K⟩
  | 9, _ => exact ⟨766, 726, rfl, by decide, cs_9 hN hL hj I K⟩
  | 10, _ => exact ⟨815, 775, rfl, by decide, cs_10 hN hL hj I K⟩
  | 11, _ => exact ⟨883, 843, rfl, by decide, cs_11 hN hL hj I K⟩
  | 12, _ => exact ⟨920, 880, rfl, by decide, cs_12 hN hL hj I K⟩
  | 13, _ => exact ⟨976, 936, rfl, by decide, cs_13 hN hL hj I K⟩
  | 14, _ => exact ⟨1032, 992, rfl, by decide, cs_14 hN hL hj I K⟩
  | 15, _ => exact ⟨1100, 1060, rfl, by decide, cs_15 hN hL hj I K⟩
  | 16, _ => exact ⟨1156, 1116, rfl, by decide, cs_16 hN hL hj I K⟩
  | 17, _ => exact ⟨1224, 1184, rfl, by decide, cs_17 hN hL hj I K⟩
  | 18, _ => exact ⟨1292, 1252, rfl, by decide, cs_18 hN hL hj I K⟩
  | 19, _ => exact ⟨1360, 1320, rfl, by decide, cs_19 hN hL hj I K⟩
  | 20, _ => exact ⟨1416, 1376, rfl, by decide, cs_20 hN hL hj I K⟩
  | 21, _ => exact ⟨1472, 1432, rfl, by decide, cs_21 hN hL hj I K⟩
  | 22, _ => exact ⟨1485, 1445, rfl, by decide, cs_22 hN hL hj I K⟩
  | 23, _ => exact ⟨1541, 1501, rfl, by decide, cs_23 hN hL hj I K⟩
  | 24, _ => exact ⟨1608, 1568, rfl, by decide, cs_24 hN hL hj I K⟩
  | 25, _ => exact ⟨1664, 1624, rfl, by decide, cs_25 hN hL hj I K⟩
  | 26, _ => exact ⟨1719, 1679, rfl, by decide, cs_26 hN hL hj I K⟩
  | 27, _ => exact ⟨1787, 1747, rfl, by decide, cs_27 hN hL hj I K⟩
  | 28, _ => exact ⟨1843, 1803, rfl, by decide, cs_28 hN hL hj I K⟩
  | 29, _ => exact ⟨1899, 1859, rfl, by decide, cs_29 hN hL hj I K⟩
  | 30, _ => exact ⟨1955, 1915, rfl, by decide, cs_30 hN hL hj I K⟩
  | 31, _ => exact ⟨2023, 1983, rfl, by decide, cs_31 hN hL hj I K⟩
  | 32, _ => exact ⟨2103, 2063, rfl, by decide, cs_32 hN hL hj I K⟩
  | 33, _ => exact ⟨2159, 2119, rfl, by decide, cs_33 hN hL hj I K⟩
  | 34, _ => exact ⟨2227, 2187, rfl, by decide, cs_34 hN hL hj I K⟩
  | 35, _ => exact ⟨2283, 2243, rfl, by decide, cs_35 hN hL hj I K⟩
  | 36, _ => exact ⟨2351, 2311, rfl, by decide, cs_36 hN hL hj I K⟩
  | 37, _ => exact ⟨2407, 2367, rfl, by decide, cs_37 hN hL hj I K⟩
  | 38, _ => exact ⟨2475, 2435, rfl, by decide, cs_38 hN hL hj I K⟩
  | 39, _ => exact ⟨2555, 2515, rfl, by decide, cs_39 hN hL hj I K⟩
  | 40, _ => exact ⟨2623, 2583, rfl, by decide, cs_40 hN hL hj I K⟩
  | 41, _ => exact ⟨2683, 2643, rfl, by decide, cs_41 hN hL hj I K⟩
  | 42, _ => exact ⟨2794, 2754, rfl, by decide, cs_42 hN hL hj I K⟩
  | 43, _ => exact ⟨2862, 2822, rfl, by decide, cs_43 hN hL hj I K⟩
  | 44, _ => exact ⟨2898, 2858, rfl, by decide, cs_44 hN hL hj I K⟩
  | 45, _ => exact ⟨2934, 2894, rfl, by decide, cs_45 hN hL hj I K⟩
  | n + 46, h => omega
set_option maxRecDepth 20000 in
theorem LNx.more (x : LNx g L xs o j H ω μ) : LNx g L xs o (j + 1) H ω μ := ⟨x.1, x.2.1, x.2.2.1, by have := x.2.2.2.1; omega, by have := x.2.2.2.2; omega⟩
set_option maxRecDepth 20000 in
theorem lawl_loop (hN : jnc g) (hL : L ≤ 3072) : ∀ n j H ω μ, L ≤ 6 * j + n → j ≤ 512 → LNx g L xs o j H ω μ → J g mL_law 121 hs PL 23 (lvL g o (nI (6 * j))) [] (lh g H o ω μ) := by
  intro n
  induction n with
  | zero =>
    intro j H ω μ hn hj I
    refine jr_iload 0 dL_law_23 rfl ?_
    refine jr_aload_n 4 dL_law_25 rfl rfl ?_
    refine jr_alen (ty := .int) (v := nI L) dL_law_26 rfl I.1.sc rfl ?_
    refine jr_bipush (v := 6) dL_law_27 rfl ?_
    refine jr_isub dL_law_29 ?_
    refine jr_icmp_gt (tgt := 2965) dL_law_30 (by decide) (fun _ => ?_) (fun c => ?_)
    · refine jr_iconst (v := 1) dL_law_2965 rfl ?_
      exact jr_iret (ty := .boolean) rfl rfl dL_law_2966 rfl
    · refine absurd ?_ c
      have t6 : (6 : Int32).toInt = 6 := rfl
      rw [Int32.lt_iff_toInt_lt, tI_sub (by rw [nI_toInt (by omega), t6]; omega), nI_toInt (by omega), nI_toInt (by omega), t6]
      omega
  | succ n ih =>
    intro j H ω μ hn hj I
    refine jr_iload 0 dL_law_23 rfl ?_
    refine jr_aload_n 4 dL_law_25 rfl rfl ?_
    refine jr_alen (ty := .int) (v := nI L) dL_law_26 rfl I.1.sc rfl ?_
    refine jr_bipush (v := 6) dL_law_27 rfl ?_
    refine jr_isub dL_law_29 ?_
    refine jr_icmp_gt (tgt := 2965) dL_law_30 (by decide) (fun _ => ?_) (fun c => ?_)
    · refine jr_iconst (v := 1) dL_law_2965 rfl ?_
      exact jr_iret (ty := .boolean) rfl rfl dL_law_2966 rfl
    · have t6 : (6 : Int32).toInt = 6 := rfl
      rw [Int32.lt_iff_toInt_lt, tI_sub (by rw [nI_toInt (by omega), t6]; omega), nI_toInt (by omega), nI_toInt (by omega), t6] at c
      have h6 : 6 * j + 6 ≤ L := by omega
      have K : ∀ H' ω' ν, LNx g L xs o (j + 1) H' ω' ν → J g mL_law 121 hs PL 2959 (lvL g o (nI (6 * j))) [] (lh g H' o ω' ν) := by
        intro H' ω' ν I'
        refine jr_iinc (v := nI (6 * (j + 1))) (lv' := lvL g o (nI (6 * (j + 1)))) 0 dL_law_2959 rfl (by rw [show Int32.ofInt 6 = nI 6 from rfl, nI_plus]; rfl) (by decide) rfl ?_
        exact jr_goto (tgt := 23) dL_law_2962 (by decide) (ih (j + 1) H' ω' ν (by omega) (by omega) I')
      refine jr_aload_n 4 dL_law_33 rfl rfl ?_
      refine jr_iload 0 dL_law_34 rfl ?_
      refine jr_sald dL_law_36 I.1.sc (vp_in_nI (by omega) (by omega)) ?_
      refine jr_bipush (v := 63) dL_law_37 rfl ?_
      refine jr_iand dL_law_39 ?_
      generalize (xs (nI (6 * j)).toNatClampNeg &&& 63 : Int32) = y
      by_cases c1 : y.toInt < 0 ∨ 45 < y.toInt
      · exact jr_tableOut (tgt := 2959) dL_law_40 c1 (by decide) (K H ω μ I.more)
      · obtain ⟨tgt, off, a1, a2, a3⟩ := cs_all hN hL h6 (I.go (by omega)) K y.toInt.toNat (by omega)
        exact jr_tableIn (tgt := tgt) dL_law_40 (fun z => c1 (Or.inl z)) (fun z => c1 (Or.inr z)) (by rw [Int.sub_zero]; exact a1) a2 a3
end LLP
/-! The law's start -/
def arr0 : va_E := .inl (10, (0, .inl (fun _ => 0)))
/-- the heap at the law's entry -/
def h00 (g : jG) (L : Nat) (xs : Nat → Int32) : jH := (fun q => if q = g.2.2.1 then some (.inl (11, (L, .inl xs))) else if q = g.2.2.2.2.2.2 then some arr0 else none, jB0 g, 0)
section LST
variable {g : jG} {hs : jH} {H : jH} {o L j : Nat} {xs : Nat → Int32} {ω : CW} {μ : MW}
set_option maxRecDepth 20000 in
theorem told_0 {H : jH} (B : LawAt H g.2.2.2.2.2.2 0 none) (hb : g.2.2.2.2.2.2 < o) (hz : o + 415 ≤ H.2.1) : TOK g o H (o + 2, T0 g, σ0) := by
  intro H' ω' e
  have N : LawAt (cw g H' o ω') g.2.2.2.2.2.2 0 none := LawAt.of (L := none) B ((cw_out (by omega)).trans (e _ (by omega) (by omega)))
  have C : ∀ k, k < 8 → (cw g H' o ω').1 (o + (2 + k)) = some (tcells g (o + 2) k) := fun k hk => cw_at (c := tcells g (o + 2)) 2 rfl 2 (by decide) (by decide) hk
  refine ⟨⟨C 0 (by decide), N, N, N⟩, ?_, ⟨rfl, Nat.zero_le _⟩, Or.inl rfl, Or.inl hb, Or.inl hb, Or.inl hb⟩
  refine (layTold_SAt (g := g) (h := H') (t := o + 2) (s := 0)).of (fun q a b => ?_)
  obtain ⟨k, rfl⟩ : ∃ k, q = o + (2 + k) := ⟨q - (o + 2), by omega⟩
  have hk : k < 8 := by omega
  rw [C k hk]
  have hl : (layTold g (o + 2)).length = 8 := rfl
  show some (tcells g (o + 2) k) = (if o + 2 ≤ o + (2 + k) ∧ o + (2 + k) < o + 2 + (layTold g (o + 2)).length then (layTold g (o + 2))[o + (2 + k) - (o + 2)]? else H'.1 (o + (2 + k)))
  rw [if_pos (by rw [hl]; omega), show o + (2 + k) - (o + 2) = k by omega]
  rcases (by omega : k = 0 ∨ k = 1 ∨ k = 2 ∨ k = 3 ∨ k = 4 ∨ k = 5 ∨ k = 6 ∨ k = 7) with rfl | rfl | rfl | rfl | rfl | rfl | rfl | rfl <;> rfl
set_option maxRecDepth 20000 in
theorem law_body (hN : jnc g) (hL : L ≤ 3072) (hb : g.2.2.1 < jB0 g) (hn : g.2.2.2.2.2.2 < jB0 g) (hz : g.2.2.2.2.2.2 = g.2.2.1 → L = 0) : J g mL_law 121 hs PL 0 [(0, .ref g.2.2.1)] [] (h00 g L xs) := by
  refine jr_newE (fs := [.null, .int 0, .int 0, .int 0, .null, .null, .null, .null, .null, .null, .null, .null, .null, .int 0]) jn_L_8 jfs_11 ⟨by show jB0 g + 1 ≤ _; omega, by show 0 + 14 ≤ 7293034; omega⟩ dL_law_0 (fun q h1 eq eh => ?_)
  subst eq eh
  refine jr_dup dL_law_3 rfl ?_
  refine jr_cIv (As := []) (st := [.ref (h00 g L xs).2.1]) jl_L_143 km_X11_init rfl rfl dL_law_4 (Nat.le_of_ble_eq_true rfl) ((w_new (d := 116) (h := h00 g L xs) ⟨by show jB0 g + 396 ≤ _; omega, by show 0 + 14014 ≤ 7293034; omega⟩).pv (fun _ q => q) (fun E h' f => f.elim)) (fun h' e => ?_)
  subst e
  refine jr_astore_n (lv' := [(1, .ref (jB0 g)), (0, .ref g.2.2.1)]) dL_law_7 rfl (by decide) rfl ?_
  refine jr_newE (fs := [.null, .null, .null, .null, .int 0, .null, .int 0, .int 0, .int 0, .int 0, .int 0, .int 0, .int 0, .int 0, .int 0, .int 0, .int 0, .int 0, .int 0, .null, .null, .null, .null, .int 0, .int 0, .null, .int 0, .int 0, .null, .null, .int 0, .int 0, .int 0, .null, .null, .null, .null, .null]) jn_L_144 jfs_12 ⟨by show jB0 g + 396 + 1 ≤ _; omega, by show 0 + 12932 + 38 ≤ 7293034; omega⟩ dL_law_8 (fun q h1 eq eh => ?_)
  subst eq eh
  refine jr_dup dL_law_11 rfl ?_
  generalize hω : ω0 g (h00 g L xs).2.1 = ω
  generalize h1e : cw g ((h00 g L xs).1, (h00 g L xs).2.1 + 396, (h00 g L xs).2.2 + 12932) (h00 g L xs).2.1 ω = h1
  have z1 : h1.2 = (jB0 g + 396, 0 + 12932) := by rw [← h1e]; rfl
  have z11 : h1.2.1 = jB0 g + 396 := by rw [z1]
  have z12 : h1.2.2 = 12932 := by rw [z1]
  refine jr_cIv (As := []) (st := [.ref h1.2.1]) jl_L_146 km_X12_init rfl rfl dL_law_12 (Nat.le_of_ble_eq_true rfl) ((m_new (d := 119) (h := h1) ⟨by omega, by omega⟩).pv (fun _ q => q) (fun E h' f => f.elim)) (fun h' e => ?_)
  subst e
  rw [z11, z12]
  refine jr_astore_n (lv' := [(2, .ref (jB0 g + 396)), (1, .ref (jB0 g)), (0, .ref g.2.2.1)]) dL_law_15 rfl (by decide) rfl ?_
  refine jr_iconst (v := 1) dL_law_16 rfl ?_
  refine jr_new_long (N := 1) rfl (by decide) ⟨by show jB0 g + 396 + 18 + 1 ≤ _; omega, by show 12932 + 22955 + 1 ≤ 7293034; omega⟩ dL_law_17 (fun q h2 eq eh => ?_)
  subst eq eh
  refine jr_astore_n (lv' := [(3, .ref (jB0 g + 414)), (2, .ref (jB0 g + 396)), (1, .ref (jB0 g)), (0, .ref g.2.2.1)]) dL_law_19 rfl (by decide) rfl ?_
  refine jr_iconst (v := 0) dL_law_20 rfl ?_
  refine jr_istore (lv' := lvL g (jB0 g) (nI (6 * 0))) dL_law_21 (by decide) rfl ?_
  let H : jH := (fun q => if q = jB0 g + 414 then some (outc (fun _ => 0)) else (h00 g L xs).1 q, jB0 g + 415, 35888)
  have eH : jnew (mw (h1.1, jB0 g + 396 + 18, 12932 + 22955) (jB0 g + 396) μ0) (.inl (3, (1, .inr (.inl (fun _ => 0))))) 1 = lh g H (jB0 g) ω μ0 := by
    rw [lh_m, ← h1e]
    refine Prod.ext (funext fun q => ?_) rfl
    show (if q = jB0 g + 396 + 18 then some (outc (fun _ => 0)) else (if jB0 g + 396 ≤ q ∧ q < jB0 g + 396 + 18 then some (mcell (jB0 g + 396) μ0 (q - (jB0 g + 396))) else (if jB0 g ≤ q ∧ q < jB0 g + 396 then some (pick (regs g (jB0 g) ω) (q - jB0 g)) else (h00 g L xs).1 q)))
      = (if jB0 g + 396 ≤ q ∧ q < jB0 g + 396 + 18 then some (mcell (jB0 g + 396) μ0 (q - (jB0 g + 396))) else (if jB0 g ≤ q ∧ q < jB0 g + 396 then some (pick (regs g (jB0 g) ω) (q - jB0 g)) else (if q = jB0 g + 414 then some (outc (fun _ => 0)) else (h00 g L xs).1 q)))
    by_cases c1 : q = jB0 g + 396 + 18
    · rw [if_pos c1, if_neg (by omega), if_neg (by omega), if_pos (by omega)]
    · rw [if_neg c1]
      by_cases c2 : jB0 g + 396 ≤ q ∧ q < jB0 g + 396 + 18
      · rw [if_pos c2, if_pos c2]
      · rw [if_neg c2, if_neg c2]
        by_cases c3 : jB0 g ≤ q ∧ q < jB0 g + 396
        · rw [if_pos c3, if_pos c3]
        · rw [if_neg c3, if_neg c3, if_neg (by omega)]
  show J g mL_law 121 hs PL 23 (lvL g (jB0 g) (nI (6 * 0))) [] (jnew (mw (h1.1, jB0 g + 396 + 18, 12932 + 22955) (jB0 g + 396) μ0) (.inl (3, (1, .inr (.inl (fun _ => 0))))) 1)
  rw [eH]
  have e1 : H.1 g.2.2.1 = some (.inl (11, (L, .inl xs))) := (if_neg (by omega)).trans (if_pos rfl)
  have e2 : LawAt H g.2.2.2.2.2.2 0 none := by
    by_cases c : g.2.2.2.2.2.2 = g.2.2.1
    · rw [c]
      exact ⟨11, (L, .inl xs), e1, ⟨_, rfl⟩, hz c⟩
    · exact ⟨10, (0, .inl (fun _ => 0)), (if_neg (by omega)).trans ((if_neg c).trans (if_pos rfl)), ⟨_, rfl⟩, rfl⟩
  have hω' : ω = ω0 g (jB0 g) := hω.symm
  refine lawl_loop hN hL L 0 H ω μ0 (by omega) (by omega) ⟨⟨e1, e2, ⟨_, if_pos rfl⟩, ⟨hb, hn⟩, Nat.le_refl _⟩, ?_, ⟨?_, fun τ hτ => ?_⟩, Nat.le_refl _, by show 35888 ≤ 36000 + 959 * 0; omega⟩
  · rw [hω']; exact rel_0
  · rw [hω']; exact ko_0 (by show jB0 g + 2 < jB0 g + 415; omega)
  · rw [hω'] at hτ
    rcases hτ with c | ⟨i, _, c⟩
    · rw [c]
      exact told_0 e2 hn (Nat.le_refl _)
    · exact (Option.some_ne_none _ c.symm).elim
end LST
