section
variable {g : jG} {d : Nat} {hs : jH} {P : jO → jH → Prop} {h : jH} {m : Nat} {μ : MW}
set_option maxRecDepth 20000 in
theorem wX12_pays_0 {x1 : Int32} (k : ∃ r1 : Int32, Con g mX12_isHouse d [.ref m, .long x1.toInt64] (mw h m μ) (jPi (fun r h' => r = r1 ∧ h' = (mw h m μ)) no2) ∧ (r1 = 0 → J g mX12_pays (d + 1) hs P 27 [(0, .ref m), (1, .int x1)] [.int 1, .ref m] (mw h m μ)) ∧ (¬ r1 = 0 → ∃ r6 : Int32, Con g mX12_isGone d [.ref m, .int x1] (mw h m μ) (jPi (fun r h' => r = r6 ∧ h' = (mw h m μ)) no2) ∧ (r6 = 0 → J g mX12_pays (d + 1) hs P 27 [(0, .ref m), (1, .int x1)] [.int 0, .ref m] (mw h m μ)) ∧ (¬ r6 = 0 → J g mX12_pays (d + 1) hs P 27 [(0, .ref m), (1, .int x1)] [.int 2, .ref m] (mw h m μ)))) : J g mX12_pays (d + 1) hs P 0 [(0, .ref m), (1, .int x1)] [] (mw h m μ) := by
  refine jr_aload_n 0 dX12_pays_0 rfl rfl ?_
  refine jr_aload_n 0 dX12_pays_1 rfl rfl ?_
  refine jr_iload_n 1 dX12_pays_2 rfl rfl ?_
  refine jr_i2l dX12_pays_3 ?_
  obtain ⟨r1z, C5, k⟩ := k
  refine jr_cVi (As := [.long x1.toInt64]) jl_X12_313 km_X12_isHouse rfl rfl dX12_pays_4 mw_o (Nat.le_of_ble_eq_true rfl) (C5.pi (fun _ _ q => q) (fun E h' f => f.elim)) (fun r1 h2 q3 => ?_)
  obtain ⟨q3, q4⟩ := q3
  subst q4
  subst q3
  refine jr_if_ne (tgt := 14) dX12_pays_7 (by decide) (fun c7 => ?_) (fun c7 => ?_)
  · have k := k.2 c7
    refine jr_aload_n 0 dX12_pays_14 rfl rfl ?_
    refine jr_iload_n 1 dX12_pays_15 rfl rfl ?_
    obtain ⟨r6z, C10, k⟩ := k
    refine jr_cVi (As := [.int x1]) jl_X12_291 km_X12_isGone rfl rfl dX12_pays_16 mw_o (Nat.le_of_ble_eq_true rfl) (C10.pi (fun _ _ q => q) (fun E h' f => f.elim)) (fun r6 h7 q8 => ?_)
    obtain ⟨q8, q9⟩ := q8
    subst q9
    subst q8
    refine jr_if_eq (tgt := 26) dX12_pays_19 (by decide) (fun c19 => ?_) (fun c19 => ?_)
    · have k := k.1 c19
      refine jr_iconst (v := 0) dX12_pays_26 (by decide) ?_
      exact jr_sub [0, 1] rfl k
    · have k := k.2 c19
      refine jr_iconst (v := 2) dX12_pays_22 (by decide) ?_
      refine jr_goto (tgt := 27) dX12_pays_23 (by decide) ?_
      exact jr_sub [0, 1] rfl k
  · have k := k.1 c7
    refine jr_iconst (v := 1) dX12_pays_10 (by decide) ?_
    refine jr_goto (tgt := 27) dX12_pays_11 (by decide) ?_
    exact jr_sub [0, 1] rfl k
set_option maxRecDepth 20000 in
theorem wX12_pays_27 {x1 : Int32} {s1 : Int32} (k : (0 < (((mI μ 4 s1)).1 4) → P (.inl (some (.int 0))) (mw h m (mI μ 4 s1))) ∧ (¬ 0 < (((mI μ 4 s1)).1 4) → ∃ Q9 : Int32 → MW → Prop, Con g mX12_paysNow d [.ref m, .int x1] (mw h m (mI μ 4 s1)) (wPi h m Q9) ∧ ∀ (r3 : Int32) (μ8 : MW), Q9 r3 μ8 → P (.inl (some (.int r3))) (mw h m μ8))) : J g mX12_pays (d + 1) hs P 27 [(0, .ref m), (1, .int x1)] [.int s1, .ref m] (mw h m μ) := by
  refine jr_putE jp_X12_67 dX12_pays_27 mw_o (Nat.le_of_ble_eq_true rfl) rfl rfl (fun h1 e2 => ?_)
  replace e2 := e2.trans (mw_pI 4 s1)
  subst e2
  refine jr_aload_n 0 dX12_pays_30 rfl rfl ?_
  refine jr_get jf_X12_67 dX12_pays_31 mw_o rfl ?_
  refine jr_if_le (tgt := 41) dX12_pays_34 (by decide) (fun c34 => ?_) (fun c34 => ?_)
  · have k := k.2 c34
    refine jr_aload_n 0 dX12_pays_41 rfl rfl ?_
    refine jr_iload_n 1 dX12_pays_42 rfl rfl ?_
    obtain ⟨Q9, C7, k⟩ := k
    refine jr_cVi (As := [.int x1]) jl_X12_282 km_X12_paysNow rfl rfl dX12_pays_43 mw_o (Nat.le_of_ble_eq_true rfl) (Con.pi C7 (fun _ _ q => q) (fun E h' f => f.elim)) (fun r3 h4 q5 => ?_)
    obtain ⟨μ8, q5, q6⟩ := q5
    subst q6
    have k := k r3 μ8 q5
    exact jr_iret (ty := .int) rfl rfl dX12_pays_46 k
  · have k := k.1 c34
    refine jr_iconst (v := 0) dX12_pays_37 (by decide) ?_
    refine jr_goto (tgt := 46) dX12_pays_38 (by decide) ?_
    exact jr_iret (ty := .int) rfl rfl dX12_pays_46 k
set_option maxRecDepth 20000 in
theorem wX12_grows_0 {x1 : Int32} {x2 : Int32} (k : ∃ r1 : Int32, Con g mX12_isHouse d [.ref m, .long x1.toInt64] (mw h m μ) (jPi (fun r h' => r = r1 ∧ h' = (mw h m μ)) no2) ∧ (r1 = 0 → J g mX12_grows (d + 1) hs P 31 [(0, .ref m), (1, .int x1), (2, .int x2)] [.int 1, .ref m] (mw h m μ)) ∧ (¬ r1 = 0 → ∃ r6 : Int32, Con g mX12_within d [.long x2.toInt64, .long 0, .long 999999] (mw h m μ) (jPi (fun r h' => r = r6 ∧ h' = (mw h m μ)) no2) ∧ (r6 = 0 → J g mX12_grows (d + 1) hs P 31 [(0, .ref m), (1, .int x1), (2, .int x2)] [.int 2, .ref m] (mw h m μ)) ∧ (¬ r6 = 0 → J g mX12_grows (d + 1) hs P 31 [(0, .ref m), (1, .int x1), (2, .int x2)] [.int 0, .ref m] (mw h m μ)))) : J g mX12_grows (d + 1) hs P 0 [(0, .ref m), (1, .int x1), (2, .int x2)] [] (mw h m μ) := by
  refine jr_aload_n 0 dX12_grows_0 rfl rfl ?_
  refine jr_aload_n 0 dX12_grows_1 rfl rfl ?_
  refine jr_iload_n 1 dX12_grows_2 rfl rfl ?_
  refine jr_i2l dX12_grows_3 ?_
  obtain ⟨r1z, C5, k⟩ := k
  refine jr_cVi (As := [.long x1.toInt64]) jl_X12_313 km_X12_isHouse rfl rfl dX12_grows_4 mw_o (Nat.le_of_ble_eq_true rfl) (C5.pi (fun _ _ q => q) (fun E h' f => f.elim)) (fun r1 h2 q3 => ?_)
  obtain ⟨q3, q4⟩ := q3
  subst q4
  subst q3
  refine jr_if_ne (tgt := 14) dX12_grows_7 (by decide) (fun c7 => ?_) (fun c7 => ?_)
  · have k := k.2 c7
    refine jr_iload_n 2 dX12_grows_14 rfl rfl ?_
    refine jr_i2l dX12_grows_15 ?_
    refine jr_lconst (v := 0) dX12_grows_16 (by decide) ?_
    refine jr_ldc2 (v := 999999) jk_X12_321 dX12_grows_17 ?_
    obtain ⟨r6z, C10, k⟩ := k
    refine jr_cSi (As := [.long x2.toInt64, .long 0, .long 999999]) jl_X12_128 km_X12_within rfl rfl dX12_grows_20 (Nat.le_of_ble_eq_true rfl) (C10.pi (fun _ _ q => q) (fun E h' f => f.elim)) (fun r6 h7 q8 => ?_)
    obtain ⟨q8, q9⟩ := q8
    subst q9
    subst q8
    refine jr_if_eq (tgt := 30) dX12_grows_23 (by decide) (fun c23 => ?_) (fun c23 => ?_)
    · have k := k.1 c23
      refine jr_iconst (v := 2) dX12_grows_30 (by decide) ?_
      exact jr_sub [0, 1, 2] rfl k
    · have k := k.2 c23
      refine jr_iconst (v := 0) dX12_grows_26 (by decide) ?_
      refine jr_goto (tgt := 31) dX12_grows_27 (by decide) ?_
      exact jr_sub [0, 1, 2] rfl k
  · have k := k.1 c7
    refine jr_iconst (v := 1) dX12_grows_10 (by decide) ?_
    refine jr_goto (tgt := 31) dX12_grows_11 (by decide) ?_
    exact jr_sub [0, 1, 2] rfl k
set_option maxRecDepth 20000 in
theorem wX12_grows_31 {x1 : Int32} {x2 : Int32} {s1 : Int32} (k : (0 < (((mI μ 4 s1)).1 4) → P (.inl (some (.int 0))) (mw h m (mI μ 4 s1))) ∧ (¬ 0 < (((mI μ 4 s1)).1 4) → ∃ Q9 : Int32 → MW → Prop, Con g mX12_growsBy d [.ref m, .int x1, .int x2] (mw h m (mI μ 4 s1)) (wPi h m Q9) ∧ ∀ (r3 : Int32) (μ8 : MW), Q9 r3 μ8 → P (.inl (some (.int r3))) (mw h m μ8))) : J g mX12_grows (d + 1) hs P 31 [(0, .ref m), (1, .int x1), (2, .int x2)] [.int s1, .ref m] (mw h m μ) := by
  refine jr_putE jp_X12_67 dX12_grows_31 mw_o (Nat.le_of_ble_eq_true rfl) rfl rfl (fun h1 e2 => ?_)
  replace e2 := e2.trans (mw_pI 4 s1)
  subst e2
  refine jr_aload_n 0 dX12_grows_34 rfl rfl ?_
  refine jr_get jf_X12_67 dX12_grows_35 mw_o rfl ?_
  refine jr_if_le (tgt := 45) dX12_grows_38 (by decide) (fun c38 => ?_) (fun c38 => ?_)
  · have k := k.2 c38
    refine jr_aload_n 0 dX12_grows_45 rfl rfl ?_
    refine jr_iload_n 1 dX12_grows_46 rfl rfl ?_
    refine jr_iload_n 2 dX12_grows_47 rfl rfl ?_
    obtain ⟨Q9, C7, k⟩ := k
    refine jr_cVi (As := [.int x1, .int x2]) jl_X12_297 km_X12_growsBy rfl rfl dX12_grows_48 mw_o (Nat.le_of_ble_eq_true rfl) (Con.pi C7 (fun _ _ q => q) (fun E h' f => f.elim)) (fun r3 h4 q5 => ?_)
    obtain ⟨μ8, q5, q6⟩ := q5
    subst q6
    have k := k r3 μ8 q5
    exact jr_iret (ty := .int) rfl rfl dX12_grows_51 k
  · have k := k.1 c38
    refine jr_iconst (v := 0) dX12_grows_41 (by decide) ?_
    refine jr_goto (tgt := 51) dX12_grows_42 (by decide) ?_
    exact jr_iret (ty := .int) rfl rfl dX12_grows_51 k
set_option maxRecDepth 20000 in
theorem wX12_takes_0 {x1 : Int32} {x2 : Int32} (k : ∃ r1 : Int32, Con g mX12_isHouse d [.ref m, .long x1.toInt64] (mw h m μ) (jPi (fun r h' => r = r1 ∧ h' = (mw h m μ)) no2) ∧ (r1 = 0 → J g mX12_takes (d + 1) hs P 31 [(0, .ref m), (1, .int x1), (2, .int x2)] [.int 1, .ref m] (mw h m μ)) ∧ (¬ r1 = 0 → ∃ r6 : Int32, Con g mX12_within d [.long x2.toInt64, .long 0, .long 999999] (mw h m μ) (jPi (fun r h' => r = r6 ∧ h' = (mw h m μ)) no2) ∧ (r6 = 0 → J g mX12_takes (d + 1) hs P 31 [(0, .ref m), (1, .int x1), (2, .int x2)] [.int 2, .ref m] (mw h m μ)) ∧ (¬ r6 = 0 → J g mX12_takes (d + 1) hs P 31 [(0, .ref m), (1, .int x1), (2, .int x2)] [.int 0, .ref m] (mw h m μ)))) : J g mX12_takes (d + 1) hs P 0 [(0, .ref m), (1, .int x1), (2, .int x2)] [] (mw h m μ) := by
  refine jr_aload_n 0 dX12_takes_0 rfl rfl ?_
  refine jr_aload_n 0 dX12_takes_1 rfl rfl ?_
  refine jr_iload_n 1 dX12_takes_2 rfl rfl ?_
  refine jr_i2l dX12_takes_3 ?_
  obtain ⟨r1z, C5, k⟩ := k
  refine jr_cVi (As := [.long x1.toInt64]) jl_X12_313 km_X12_isHouse rfl rfl dX12_takes_4 mw_o (Nat.le_of_ble_eq_true rfl) (C5.pi (fun _ _ q => q) (fun E h' f => f.elim)) (fun r1 h2 q3 => ?_)
  obtain ⟨q3, q4⟩ := q3
  subst q4
  subst q3
  refine jr_if_ne (tgt := 14) dX12_takes_7 (by decide) (fun c7 => ?_) (fun c7 => ?_)
  · have k := k.2 c7
    refine jr_iload_n 2 dX12_takes_14 rfl rfl ?_
    refine jr_i2l dX12_takes_15 ?_
    refine jr_lconst (v := 0) dX12_takes_16 (by decide) ?_
    refine jr_ldc2 (v := 999999) jk_X12_321 dX12_takes_17 ?_
    obtain ⟨r6z, C10, k⟩ := k
    refine jr_cSi (As := [.long x2.toInt64, .long 0, .long 999999]) jl_X12_128 km_X12_within rfl rfl dX12_takes_20 (Nat.le_of_ble_eq_true rfl) (C10.pi (fun _ _ q => q) (fun E h' f => f.elim)) (fun r6 h7 q8 => ?_)
    obtain ⟨q8, q9⟩ := q8
    subst q9
    subst q8
    refine jr_if_eq (tgt := 30) dX12_takes_23 (by decide) (fun c23 => ?_) (fun c23 => ?_)
    · have k := k.1 c23
      refine jr_iconst (v := 2) dX12_takes_30 (by decide) ?_
      exact jr_sub [0, 1, 2] rfl k
    · have k := k.2 c23
      refine jr_iconst (v := 0) dX12_takes_26 (by decide) ?_
      refine jr_goto (tgt := 31) dX12_takes_27 (by decide) ?_
      exact jr_sub [0, 1, 2] rfl k
  · have k := k.1 c7
    refine jr_iconst (v := 1) dX12_takes_10 (by decide) ?_
    refine jr_goto (tgt := 31) dX12_takes_11 (by decide) ?_
    exact jr_sub [0, 1, 2] rfl k
set_option maxRecDepth 20000 in
theorem wX12_takes_31 {x1 : Int32} {x2 : Int32} {s1 : Int32} (k : (0 < (((mI μ 4 s1)).1 4) → P (.inl (some (.int 0))) (mw h m (mI μ 4 s1))) ∧ (¬ 0 < (((mI μ 4 s1)).1 4) → ∃ r3 : Int32, Con g mX12_next d [.ref m, .int x1] (mw h m (mI μ 4 s1)) (jPi (fun r h' => r = r3 ∧ h' = (mw h m (mI μ 4 s1))) no2) ∧ (r3 = (-1) → P (.inl (some (.int 1))) (mw h m (mI μ 4 s1))) ∧ (¬ r3 = (-1) → vp_in ((36 + r3)) 3240 ∧ ∃ Q15 : Int32 → MW → Prop, Con g mX12_takesIt d [.ref m, .int r3, .int x2, .int (kn ((mI μ 4 s1)) (ix ((36 + r3))))] (mw h m (mI μ 4 s1)) (wPi h m Q15) ∧ ∀ (r9 : Int32) (μ14 : MW), Q15 r9 μ14 → (r9 = 0 → P (.inl (some (.int 0))) (mw h m μ14)) ∧ (¬ r9 = 0 → P (.inl (some (.int 1))) (mw h m μ14))))) : J g mX12_takes (d + 1) hs P 31 [(0, .ref m), (1, .int x1), (2, .int x2)] [.int s1, .ref m] (mw h m μ) := by
  refine jr_putE jp_X12_67 dX12_takes_31 mw_o (Nat.le_of_ble_eq_true rfl) rfl rfl (fun h1 e2 => ?_)
  replace e2 := e2.trans (mw_pI 4 s1)
  subst e2
  refine jr_aload_n 0 dX12_takes_34 rfl rfl ?_
  refine jr_get jf_X12_67 dX12_takes_35 mw_o rfl ?_
  refine jr_if_le (tgt := 43) dX12_takes_38 (by decide) (fun c38 => ?_) (fun c38 => ?_)
  · have k := k.2 c38
    refine jr_aload_n 0 dX12_takes_43 rfl rfl ?_
    refine jr_iload_n 1 dX12_takes_44 rfl rfl ?_
    obtain ⟨r3z, C7, k⟩ := k
    refine jr_cVi (As := [.int x1]) jl_X12_306 km_X12_next rfl rfl dX12_takes_45 mw_o (Nat.le_of_ble_eq_true rfl) (C7.pi (fun _ _ q => q) (fun E h' f => f.elim)) (fun r3 h4 q5 => ?_)
    obtain ⟨q5, q6⟩ := q5
    subst q6
    subst q5
    refine jr_istore_n (lv' := [(3, .int r3), (0, .ref m), (1, .int x1), (2, .int x2)]) dX12_takes_48 rfl (by decide) rfl ?_
    refine jr_iload_n 0 dX12_takes_49 rfl rfl ?_
    refine jr_iconst (v := (-1)) dX12_takes_50 (by decide) ?_
    refine jr_icmp_eq (tgt := 72) dX12_takes_51 (by decide) (fun c51 => ?_) (fun c51 => ?_)
    · have k := k.1 c51
      refine jr_iconst (v := 1) dX12_takes_72 (by decide) ?_
      refine jr_goto (tgt := 77) dX12_takes_73 (by decide) ?_
      exact jr_iret (ty := .boolean) rfl rfl dX12_takes_77 k
    · have k := k.2 c51
      refine jr_aload_n 1 dX12_takes_54 rfl rfl ?_
      refine jr_iload_n 0 dX12_takes_55 rfl rfl ?_
      refine jr_iload_n 3 dX12_takes_56 rfl rfl ?_
      refine jr_aload_n 1 dX12_takes_57 rfl rfl ?_
      refine jr_get jf_X12_9 dX12_takes_58 mw_o rfl ?_
      refine jr_bipush (v := 36) dX12_takes_61 (by decide) ?_
      refine jr_iload_n 0 dX12_takes_63 rfl rfl ?_
      refine jr_iadd dX12_takes_64 ?_
      obtain ⟨e8, k⟩ := k
      refine jr_iald dX12_takes_65 mw_1 e8 ?_
      obtain ⟨Q15, C13, k⟩ := k
      refine jr_cVi (As := [.int r3, .int x2, .int (kn ((mI μ 4 s1)) (ix ((36 + r3))))]) jl_X12_309 km_X12_takesIt rfl rfl dX12_takes_66 mw_o (Nat.le_of_ble_eq_true rfl) (Con.pi C13 (fun _ _ q => q) (fun E h' f => f.elim)) (fun r9 h10 q11 => ?_)
      obtain ⟨μ14, q11, q12⟩ := q11
      subst q12
      have k := k r9 μ14 q11
      refine jr_if_eq (tgt := 76) dX12_takes_69 (by decide) (fun c69 => ?_) (fun c69 => ?_)
      · have k := k.1 c69
        refine jr_iconst (v := 0) dX12_takes_76 (by decide) ?_
        exact jr_iret (ty := .boolean) rfl rfl dX12_takes_77 k
      · have k := k.2 c69
        refine jr_iconst (v := 1) dX12_takes_72 (by decide) ?_
        refine jr_goto (tgt := 77) dX12_takes_73 (by decide) ?_
        exact jr_iret (ty := .boolean) rfl rfl dX12_takes_77 k
  · have k := k.1 c38
    refine jr_iconst (v := 0) dX12_takes_41 (by decide) ?_
    exact jr_iret (ty := .boolean) rfl rfl dX12_takes_42 k
set_option maxRecDepth 20000 in
theorem wX12_keeps_0  (k : ((kn μ 7) = 10 → J g mX12_keeps (d + 1) hs P 15 [(0, .ref m), (1, .int 96)] [] (mw h m μ)) ∧ (¬ (kn μ 7) = 10 → J g mX12_keeps (d + 1) hs P 56 [(0, .ref m), (1, .int 0)] [] (mw h m μ))) : J g mX12_keeps (d + 1) hs P 0 [(0, .ref m)] [] (mw h m μ) := by
  refine jr_aload_n 0 dX12_keeps_0 rfl rfl ?_
  refine jr_get jf_X12_9 dX12_keeps_1 mw_o rfl ?_
  refine jr_bipush (v := 7) dX12_keeps_4 (by decide) ?_
  refine jr_iald dX12_keeps_6 mw_1 (vp_in_nI (n := 7) (by decide) (by decide)) ?_
  refine jr_bipush (v := 10) dX12_keeps_7 (by decide) ?_
  refine jr_icmp_ne (tgt := 54) dX12_keeps_9 (by decide) (fun c9 => ?_) (fun c9 => ?_)
  · have k := k.2 c9
    refine jr_iconst (v := 0) dX12_keeps_54 (by decide) ?_
    refine jr_istore_n (lv' := [(1, .int 0), (0, .ref m)]) dX12_keeps_55 rfl (by decide) rfl ?_
    exact jr_sub [1, 0] rfl k
  · have k := k.1 c9
    refine jr_bipush (v := 96) dX12_keeps_12 (by decide) ?_
    refine jr_istore_n (lv' := [(1, .int 96), (0, .ref m)]) dX12_keeps_14 rfl (by decide) rfl ?_
    exact jr_sub [1, 0] rfl k
set_option maxRecDepth 20000 in
theorem wX12_keeps_15 {x1 : Int32} (k : (x1 < 492 → vp_in ((x1 + 44)) 3240 ∧ vp_in x1 3240 ∧ J g mX12_keeps (d + 1) hs P 15 [(0, .ref m), (1, .int (x1 + 1))] [] (mw h m (mA μ 1 (upd (kn μ) (ix x1) ((kn μ (ix ((x1 + 44))))))))) ∧ (¬ x1 < 492 → J g mX12_keeps (d + 1) hs P 56 [(0, .ref m), (1, .int 0)] [] (mw h m (mA μ 1 (upd (kn μ) 7 (((kn μ 7) - 1))))))) : J g mX12_keeps (d + 1) hs P 15 [(0, .ref m), (1, .int x1)] [] (mw h m μ) := by
  refine jr_iload_n 1 dX12_keeps_15 rfl rfl ?_
  refine jr_sipush (v := 492) dX12_keeps_16 (by decide) ?_
  refine jr_icmp_ge (tgt := 43) dX12_keeps_19 (by decide) (fun c19 => ?_) (fun c19 => ?_)
  · have k := k.2 c19
    refine jr_aload_n 0 dX12_keeps_43 rfl rfl ?_
    refine jr_get jf_X12_9 dX12_keeps_44 mw_o rfl ?_
    refine jr_bipush (v := 7) dX12_keeps_47 (by decide) ?_
    refine jr_dup2 dX12_keeps_49 rfl rfl ?_
    refine jr_iald dX12_keeps_50 mw_1 (vp_in_nI (n := 7) (by decide) (by decide)) ?_
    refine jr_iconst (v := 1) dX12_keeps_51 (by decide) ?_
    refine jr_isub dX12_keeps_52 ?_
    refine jr_iastE dX12_keeps_53 mw_1 (vp_in_nI (n := 7) (by decide) (by decide)) (fun h1 e2 => ?_)
    replace e2 : h1 = mw h m (mA μ 1 (upd (kn μ) 7 (((kn μ 7) - 1)))) := e2.trans (mw_pA (by decide) (by decide) _)
    subst e2
    refine jr_iconst (v := 0) dX12_keeps_54 (by decide) ?_
    refine jr_istore_n (lv' := [(1, .int 0), (0, .ref m)]) dX12_keeps_55 rfl (by decide) rfl ?_
    exact jr_sub [1, 0] rfl k
  · have k := k.1 c19
    refine jr_aload_n 0 dX12_keeps_22 rfl rfl ?_
    refine jr_get jf_X12_9 dX12_keeps_23 mw_o rfl ?_
    refine jr_iload_n 1 dX12_keeps_26 rfl rfl ?_
    refine jr_aload_n 0 dX12_keeps_27 rfl rfl ?_
    refine jr_get jf_X12_9 dX12_keeps_28 mw_o rfl ?_
    refine jr_iload_n 1 dX12_keeps_31 rfl rfl ?_
    refine jr_bipush (v := 44) dX12_keeps_32 (by decide) ?_
    refine jr_iadd dX12_keeps_34 ?_
    obtain ⟨e4, k⟩ := k
    refine jr_iald dX12_keeps_35 mw_1 e4 ?_
    obtain ⟨e7, k⟩ := k
    refine jr_iastE dX12_keeps_36 mw_1 e7 (fun h5 e6 => ?_)
    replace e6 : h5 = mw h m (mA μ 1 (upd (kn μ) (ix x1) ((kn μ (ix ((x1 + 44))))))) := e6.trans (mw_pA (by decide) (by decide) _)
    subst e6
    refine jr_iinc (v := (x1 + 1)) (lv' := [(1, .int (x1 + 1)), (0, .ref m)]) 1 dX12_keeps_37 rfl rfl (by decide) rfl ?_
    refine jr_goto (tgt := 15) dX12_keeps_40 (by decide) ?_
    exact jr_sub [1, 0] rfl k
set_option maxRecDepth 20000 in
theorem wX12_keeps_56 {x1 : Int32} (k : (x1 < 44 → vp_in ((8 + x1)) 3240 ∧ vp_in (((96 + (44 * (kn μ 7))) + x1)) 3240 ∧ J g mX12_keeps (d + 1) hs P 56 [(0, .ref m), (1, .int (x1 + 1))] [] (mw h m (mA μ 1 (upd (kn μ) (ix (((96 + (44 * (kn μ 7))) + x1))) ((kn μ (ix ((8 + x1))))))))) ∧ (¬ x1 < 44 → P (.inl none) (mw h m (mA μ 1 (upd (kn μ) 7 (((kn μ 7) + 1))))))) : J g mX12_keeps (d + 1) hs P 56 [(0, .ref m), (1, .int x1)] [] (mw h m μ) := by
  refine jr_iload_n 1 dX12_keeps_56 rfl rfl ?_
  refine jr_bipush (v := 44) dX12_keeps_57 (by decide) ?_
  refine jr_icmp_ge (tgt := 97) dX12_keeps_59 (by decide) (fun c59 => ?_) (fun c59 => ?_)
  · have k := k.2 c59
    refine jr_aload_n 0 dX12_keeps_97 rfl rfl ?_
    refine jr_get jf_X12_9 dX12_keeps_98 mw_o rfl ?_
    refine jr_bipush (v := 7) dX12_keeps_101 (by decide) ?_
    refine jr_dup2 dX12_keeps_103 rfl rfl ?_
    refine jr_iald dX12_keeps_104 mw_1 (vp_in_nI (n := 7) (by decide) (by decide)) ?_
    refine jr_iconst (v := 1) dX12_keeps_105 (by decide) ?_
    refine jr_iadd dX12_keeps_106 ?_
    refine jr_iastE dX12_keeps_107 mw_1 (vp_in_nI (n := 7) (by decide) (by decide)) (fun h1 e2 => ?_)
    replace e2 : h1 = mw h m (mA μ 1 (upd (kn μ) 7 (((kn μ 7) + 1)))) := e2.trans (mw_pA (by decide) (by decide) _)
    subst e2
    exact jr_vret rfl dX12_keeps_108 k
  · have k := k.1 c59
    refine jr_aload_n 0 dX12_keeps_62 rfl rfl ?_
    refine jr_get jf_X12_9 dX12_keeps_63 mw_o rfl ?_
    refine jr_bipush (v := 96) dX12_keeps_66 (by decide) ?_
    refine jr_bipush (v := 44) dX12_keeps_68 (by decide) ?_
    refine jr_aload_n 0 dX12_keeps_70 rfl rfl ?_
    refine jr_get jf_X12_9 dX12_keeps_71 mw_o rfl ?_
    refine jr_bipush (v := 7) dX12_keeps_74 (by decide) ?_
    refine jr_iald dX12_keeps_76 mw_1 (vp_in_nI (n := 7) (by decide) (by decide)) ?_
    refine jr_imul dX12_keeps_77 ?_
    refine jr_iadd dX12_keeps_78 ?_
    refine jr_iload_n 1 dX12_keeps_79 rfl rfl ?_
    refine jr_iadd dX12_keeps_80 ?_
    refine jr_aload_n 0 dX12_keeps_81 rfl rfl ?_
    refine jr_get jf_X12_9 dX12_keeps_82 mw_o rfl ?_
    refine jr_bipush (v := 8) dX12_keeps_85 (by decide) ?_
    refine jr_iload_n 1 dX12_keeps_87 rfl rfl ?_
    refine jr_iadd dX12_keeps_88 ?_
    obtain ⟨e4, k⟩ := k
    refine jr_iald dX12_keeps_89 mw_1 e4 ?_
    obtain ⟨e7, k⟩ := k
    refine jr_iastE dX12_keeps_90 mw_1 e7 (fun h5 e6 => ?_)
    replace e6 : h5 = mw h m (mA μ 1 (upd (kn μ) (ix (((96 + (44 * (kn μ 7))) + x1))) ((kn μ (ix ((8 + x1))))))) := e6.trans (mw_pA (by decide) (by decide) _)
    subst e6
    refine jr_iinc (v := (x1 + 1)) (lv' := [(1, .int (x1 + 1)), (0, .ref m)]) 1 dX12_keeps_91 rfl rfl (by decide) rfl ?_
    refine jr_goto (tgt := 56) dX12_keeps_94 (by decide) ?_
    exact jr_sub [1, 0] rfl k
set_option maxRecDepth 20000 in
theorem wX12_putsAside_0  (k : J g mX12_putsAside (d + 1) hs P 2 [(0, .ref m), (1, .int 0)] [] (mw h m μ)) : J g mX12_putsAside (d + 1) hs P 0 [(0, .ref m)] [] (mw h m μ) := by
  refine jr_iconst (v := 0) dX12_putsAside_0 (by decide) ?_
  refine jr_istore_n (lv' := [(1, .int 0), (0, .ref m)]) dX12_putsAside_1 rfl (by decide) rfl ?_
  exact jr_sub [1, 0] rfl k
set_option maxRecDepth 20000 in
theorem wX12_putsAside_2 {x1 : Int32} (k : (x1 < 44 → vp_in ((8 + x1)) 3240 ∧ vp_in x1 44 ∧ J g mX12_putsAside (d + 1) hs P 2 [(0, .ref m), (1, .int (x1 + 1))] [] (mw h m (mA μ 10 (upd (μ.2.1 10) (ix x1) ((kn μ (ix ((8 + x1))))))))) ∧ (¬ x1 < 44 → P (.inl none) (mw h m μ))) : J g mX12_putsAside (d + 1) hs P 2 [(0, .ref m), (1, .int x1)] [] (mw h m μ) := by
  refine jr_iload_n 1 dX12_putsAside_2 rfl rfl ?_
  refine jr_bipush (v := 44) dX12_putsAside_3 (by decide) ?_
  refine jr_icmp_ge (tgt := 29) dX12_putsAside_5 (by decide) (fun c5 => ?_) (fun c5 => ?_)
  · have k := k.2 c5
    exact jr_vret rfl dX12_putsAside_29 k
  · have k := k.1 c5
    refine jr_aload_n 0 dX12_putsAside_8 rfl rfl ?_
    refine jr_get jf_X12_42 dX12_putsAside_9 mw_o rfl ?_
    refine jr_iload_n 1 dX12_putsAside_12 rfl rfl ?_
    refine jr_aload_n 0 dX12_putsAside_13 rfl rfl ?_
    refine jr_get jf_X12_9 dX12_putsAside_14 mw_o rfl ?_
    refine jr_bipush (v := 8) dX12_putsAside_17 (by decide) ?_
    refine jr_iload_n 1 dX12_putsAside_19 rfl rfl ?_
    refine jr_iadd dX12_putsAside_20 ?_
    obtain ⟨e1, k⟩ := k
    refine jr_iald dX12_putsAside_21 mw_1 e1 ?_
    obtain ⟨e4, k⟩ := k
    refine jr_iastE dX12_putsAside_22 mw_10 e4 (fun h2 e3 => ?_)
    replace e3 : h2 = mw h m (mA μ 10 (upd (μ.2.1 10) (ix x1) ((kn μ (ix ((8 + x1))))))) := e3.trans (mw_pA (by decide) (by decide) _)
    subst e3
    refine jr_iinc (v := (x1 + 1)) (lv' := [(1, .int (x1 + 1)), (0, .ref m)]) 1 dX12_putsAside_23 rfl rfl (by decide) rfl ?_
    refine jr_goto (tgt := 2) dX12_putsAside_26 (by decide) ?_
    exact jr_sub [1, 0] rfl k
set_option maxRecDepth 20000 in
theorem wX12_putsBack_0  (k : J g mX12_putsBack (d + 1) hs P 2 [(0, .ref m), (1, .int 0)] [] (mw h m μ)) : J g mX12_putsBack (d + 1) hs P 0 [(0, .ref m)] [] (mw h m μ) := by
  refine jr_iconst (v := 0) dX12_putsBack_0 (by decide) ?_
  refine jr_istore_n (lv' := [(1, .int 0), (0, .ref m)]) dX12_putsBack_1 rfl (by decide) rfl ?_
  exact jr_sub [1, 0] rfl k
set_option maxRecDepth 20000 in
theorem wX12_putsBack_2 {x1 : Int32} (k : (x1 < 44 → vp_in x1 44 ∧ vp_in ((8 + x1)) 3240 ∧ J g mX12_putsBack (d + 1) hs P 2 [(0, .ref m), (1, .int (x1 + 1))] [] (mw h m (mA μ 1 (upd (kn μ) (ix ((8 + x1))) ((μ.2.1 10 (ix x1))))))) ∧ (¬ x1 < 44 → P (.inl none) (mw h m μ))) : J g mX12_putsBack (d + 1) hs P 2 [(0, .ref m), (1, .int x1)] [] (mw h m μ) := by
  refine jr_iload_n 1 dX12_putsBack_2 rfl rfl ?_
  refine jr_bipush (v := 44) dX12_putsBack_3 (by decide) ?_
  refine jr_icmp_ge (tgt := 29) dX12_putsBack_5 (by decide) (fun c5 => ?_) (fun c5 => ?_)
  · have k := k.2 c5
    exact jr_vret rfl dX12_putsBack_29 k
  · have k := k.1 c5
    refine jr_aload_n 0 dX12_putsBack_8 rfl rfl ?_
    refine jr_get jf_X12_9 dX12_putsBack_9 mw_o rfl ?_
    refine jr_bipush (v := 8) dX12_putsBack_12 (by decide) ?_
    refine jr_iload_n 1 dX12_putsBack_14 rfl rfl ?_
    refine jr_iadd dX12_putsBack_15 ?_
    refine jr_aload_n 0 dX12_putsBack_16 rfl rfl ?_
    refine jr_get jf_X12_42 dX12_putsBack_17 mw_o rfl ?_
    refine jr_iload_n 1 dX12_putsBack_20 rfl rfl ?_
    obtain ⟨e1, k⟩ := k
    refine jr_iald dX12_putsBack_21 mw_10 e1 ?_
    obtain ⟨e4, k⟩ := k
    refine jr_iastE dX12_putsBack_22 mw_1 e4 (fun h2 e3 => ?_)
    replace e3 : h2 = mw h m (mA μ 1 (upd (kn μ) (ix ((8 + x1))) ((μ.2.1 10 (ix x1))))) := e3.trans (mw_pA (by decide) (by decide) _)
    subst e3
    refine jr_iinc (v := (x1 + 1)) (lv' := [(1, .int (x1 + 1)), (0, .ref m)]) 1 dX12_putsBack_23 rfl rfl (by decide) rfl ?_
    refine jr_goto (tgt := 2) dX12_putsBack_26 (by decide) ?_
    exact jr_sub [1, 0] rfl k
set_option maxRecDepth 20000 in
theorem wX12_whyTwo_0 {x1 : Int64} {x3 : Int64} (k : ∃ r1 : Int32, Con g mX12_isHouse d [.ref m, .long x1] (mw h m μ) (jPi (fun r h' => r = r1 ∧ h' = (mw h m μ)) no2) ∧ (r1 = 0 → P (.inl (some (.int 1))) (mw h m μ)) ∧ (¬ r1 = 0 → ∃ r6 : Int32, Con g mX12_isHouse d [.ref m, .long x3] (mw h m μ) (jPi (fun r h' => r = r6 ∧ h' = (mw h m μ)) no2) ∧ (r6 = 0 → P (.inl (some (.int 1))) (mw h m μ)) ∧ (¬ r6 = 0 → (x1 = x3 → P (.inl (some (.int 1))) (mw h m μ)) ∧ (¬ x1 = x3 → P (.inl (some (.int 0))) (mw h m μ))))) : J g mX12_whyTwo (d + 1) hs P 0 [(0, .ref m), (1, .long x1), (3, .long x3)] [] (mw h m μ) := by
  refine jr_aload_n 0 dX12_whyTwo_0 rfl rfl ?_
  refine jr_lload_n 1 dX12_whyTwo_1 rfl rfl ?_
  obtain ⟨r1z, C5, k⟩ := k
  refine jr_cVi (As := [.long x1]) jl_X12_313 km_X12_isHouse rfl rfl dX12_whyTwo_2 mw_o (Nat.le_of_ble_eq_true rfl) (C5.pi (fun _ _ q => q) (fun E h' f => f.elim)) (fun r1 h2 q3 => ?_)
  obtain ⟨q3, q4⟩ := q3
  subst q4
  subst q3
  refine jr_if_eq (tgt := 26) dX12_whyTwo_5 (by decide) (fun c5 => ?_) (fun c5 => ?_)
  · have k := k.1 c5
    refine jr_iconst (v := 1) dX12_whyTwo_26 (by decide) ?_
    exact jr_iret (ty := .int) rfl rfl dX12_whyTwo_27 k
  · have k := k.2 c5
    refine jr_aload_n 0 dX12_whyTwo_8 rfl rfl ?_
    refine jr_lload_n 2 dX12_whyTwo_9 rfl rfl ?_
    obtain ⟨r6z, C10, k⟩ := k
    refine jr_cVi (As := [.long x3]) jl_X12_313 km_X12_isHouse rfl rfl dX12_whyTwo_10 mw_o (Nat.le_of_ble_eq_true rfl) (C10.pi (fun _ _ q => q) (fun E h' f => f.elim)) (fun r6 h7 q8 => ?_)
    obtain ⟨q8, q9⟩ := q8
    subst q9
    subst q8
    refine jr_if_eq (tgt := 26) dX12_whyTwo_13 (by decide) (fun c13 => ?_) (fun c13 => ?_)
    · have k := k.1 c13
      refine jr_iconst (v := 1) dX12_whyTwo_26 (by decide) ?_
      exact jr_iret (ty := .int) rfl rfl dX12_whyTwo_27 k
    · have k := k.2 c13
      refine jr_lload_n 1 dX12_whyTwo_16 rfl rfl ?_
      refine jr_lload_n 2 dX12_whyTwo_17 rfl rfl ?_
      refine jr_lcmp_eq (tgt := 26) dX12_whyTwo_18 dX12_whyTwo_19 (by decide) (fun c18 => ?_) (fun c18 => ?_)
      · have k := k.1 c18
        refine jr_iconst (v := 1) dX12_whyTwo_26 (by decide) ?_
        exact jr_iret (ty := .int) rfl rfl dX12_whyTwo_27 k
      · have k := k.2 c18
        refine jr_iconst (v := 0) dX12_whyTwo_22 (by decide) ?_
        refine jr_goto (tgt := 27) dX12_whyTwo_23 (by decide) ?_
        exact jr_iret (ty := .int) rfl rfl dX12_whyTwo_27 k
set_option maxRecDepth 20000 in
theorem wX12_whyGift_0 {x1 : Int64} {x3 : Int64} {x5 : Int64} (k : ∃ r1 : Int32, Con g mX12_whyTwo d [.ref m, .long x1, .long x3] (mw h m μ) (jPi (fun r h' => r = r1 ∧ h' = (mw h m μ)) no2) ∧ (r1 = 0 → ∃ r6 : Int32, Con g mX12_within d [.long x5, .long 1, .long 999] (mw h m μ) (jPi (fun r h' => r = r6 ∧ h' = (mw h m μ)) no2) ∧ (r6 = 0 → P (.inl (some (.int 1))) (mw h m μ)) ∧ (¬ r6 = 0 → ∃ r11 : Int32, Con g mX12_isGone d [.ref m, .int x1.toInt32] (mw h m μ) (jPi (fun r h' => r = r11 ∧ h' = (mw h m μ)) no2) ∧ (r11 = 0 → ∃ r16 : Int32, Con g mX12_isGone d [.ref m, .int x3.toInt32] (mw h m μ) (jPi (fun r h' => r = r16 ∧ h' = (mw h m μ)) no2) ∧ (r16 = 0 → vp_in ((22 + x1.toInt32)) 3240 ∧ (((kn μ (ix ((22 + x1.toInt32))))).toInt64 < x5 → P (.inl (some (.int 3))) (mw h m μ)) ∧ (¬ ((kn μ (ix ((22 + x1.toInt32))))).toInt64 < x5 → P (.inl (some (.int 0))) (mw h m μ))) ∧ (¬ r16 = 0 → P (.inl (some (.int 2))) (mw h m μ))) ∧ (¬ r11 = 0 → P (.inl (some (.int 2))) (mw h m μ)))) ∧ (¬ r1 = 0 → P (.inl (some (.int 1))) (mw h m μ))) : J g mX12_whyGift (d + 1) hs P 0 [(0, .ref m), (1, .long x1), (3, .long x3), (5, .long x5)] [] (mw h m μ) := by
  refine jr_aload_n 0 dX12_whyGift_0 rfl rfl ?_
  refine jr_lload_n 1 dX12_whyGift_1 rfl rfl ?_
  refine jr_lload_n 2 dX12_whyGift_2 rfl rfl ?_
  obtain ⟨r1z, C5, k⟩ := k
  refine jr_cVi (As := [.long x1, .long x3]) jl_X12_323 km_X12_whyTwo rfl rfl dX12_whyGift_3 mw_o (Nat.le_of_ble_eq_true rfl) (C5.pi (fun _ _ q => q) (fun E h' f => f.elim)) (fun r1 h2 q3 => ?_)
  obtain ⟨q3, q4⟩ := q3
  subst q4
  subst q3
  refine jr_if_ne (tgt := 21) dX12_whyGift_6 (by decide) (fun c6 => ?_) (fun c6 => ?_)
  · have k := k.2 c6
    refine jr_iconst (v := 1) dX12_whyGift_21 (by decide) ?_
    exact jr_iret (ty := .int) rfl rfl dX12_whyGift_22 k
  · have k := k.1 c6
    refine jr_lload 3 dX12_whyGift_9 rfl ?_
    refine jr_lconst (v := 1) dX12_whyGift_11 (by decide) ?_
    refine jr_ldc2 (v := 999) jk_X12_327 dX12_whyGift_12 ?_
    obtain ⟨r6z, C10, k⟩ := k
    refine jr_cSi (As := [.long x5, .long 1, .long 999]) jl_X12_128 km_X12_within rfl rfl dX12_whyGift_15 (Nat.le_of_ble_eq_true rfl) (C10.pi (fun _ _ q => q) (fun E h' f => f.elim)) (fun r6 h7 q8 => ?_)
    obtain ⟨q8, q9⟩ := q8
    subst q9
    subst q8
    refine jr_if_ne (tgt := 23) dX12_whyGift_18 (by decide) (fun c18 => ?_) (fun c18 => ?_)
    · have k := k.2 c18
      refine jr_aload_n 0 dX12_whyGift_23 rfl rfl ?_
      refine jr_lload_n 1 dX12_whyGift_24 rfl rfl ?_
      refine jr_l2i dX12_whyGift_25 ?_
      obtain ⟨r11z, C15, k⟩ := k
      refine jr_cVi (As := [.int x1.toInt32]) jl_X12_291 km_X12_isGone rfl rfl dX12_whyGift_26 mw_o (Nat.le_of_ble_eq_true rfl) (C15.pi (fun _ _ q => q) (fun E h' f => f.elim)) (fun r11 h12 q13 => ?_)
      obtain ⟨q13, q14⟩ := q13
      subst q14
      subst q13
      refine jr_if_ne (tgt := 41) dX12_whyGift_29 (by decide) (fun c29 => ?_) (fun c29 => ?_)
      · have k := k.2 c29
        refine jr_iconst (v := 2) dX12_whyGift_41 (by decide) ?_
        refine jr_goto (tgt := 67) dX12_whyGift_42 (by decide) ?_
        exact jr_iret (ty := .int) rfl rfl dX12_whyGift_67 k
      · have k := k.1 c29
        refine jr_aload_n 0 dX12_whyGift_32 rfl rfl ?_
        refine jr_lload_n 2 dX12_whyGift_33 rfl rfl ?_
        refine jr_l2i dX12_whyGift_34 ?_
        obtain ⟨r16z, C20, k⟩ := k
        refine jr_cVi (As := [.int x3.toInt32]) jl_X12_291 km_X12_isGone rfl rfl dX12_whyGift_35 mw_o (Nat.le_of_ble_eq_true rfl) (C20.pi (fun _ _ q => q) (fun E h' f => f.elim)) (fun r16 h17 q18 => ?_)
        obtain ⟨q18, q19⟩ := q18
        subst q19
        subst q18
        refine jr_if_eq (tgt := 45) dX12_whyGift_38 (by decide) (fun c38 => ?_) (fun c38 => ?_)
        · have k := k.1 c38
          refine jr_aload_n 0 dX12_whyGift_45 rfl rfl ?_
          refine jr_get jf_X12_9 dX12_whyGift_46 mw_o rfl ?_
          refine jr_bipush (v := 22) dX12_whyGift_49 (by decide) ?_
          refine jr_lload_n 1 dX12_whyGift_51 rfl rfl ?_
          refine jr_l2i dX12_whyGift_52 ?_
          refine jr_iadd dX12_whyGift_53 ?_
          obtain ⟨e21, k⟩ := k
          refine jr_iald dX12_whyGift_54 mw_1 e21 ?_
          refine jr_i2l dX12_whyGift_55 ?_
          refine jr_lload 3 dX12_whyGift_56 rfl ?_
          refine jr_lcmp_ge (tgt := 66) dX12_whyGift_58 dX12_whyGift_59 (by decide) (fun c58 => ?_) (fun c58 => ?_)
          · have k := k.2 c58
            refine jr_iconst (v := 0) dX12_whyGift_66 (by decide) ?_
            exact jr_iret (ty := .int) rfl rfl dX12_whyGift_67 k
          · have k := k.1 c58
            refine jr_iconst (v := 3) dX12_whyGift_62 (by decide) ?_
            refine jr_goto (tgt := 67) dX12_whyGift_63 (by decide) ?_
            exact jr_iret (ty := .int) rfl rfl dX12_whyGift_67 k
        · have k := k.2 c38
          refine jr_iconst (v := 2) dX12_whyGift_41 (by decide) ?_
          refine jr_goto (tgt := 67) dX12_whyGift_42 (by decide) ?_
          exact jr_iret (ty := .int) rfl rfl dX12_whyGift_67 k
    · have k := k.1 c18
      refine jr_iconst (v := 1) dX12_whyGift_21 (by decide) ?_
      exact jr_iret (ty := .int) rfl rfl dX12_whyGift_22 k
set_option maxRecDepth 20000 in
theorem wX12_canPay_0 {x1 : Int32} (k : vp_in ((22 + x1)) 3240 ∧ vp_in ((36 + x1)) 3240 ∧ P (.inl (some (.int ((jmin ((kn μ (ix ((22 + x1))))) ((kn μ (ix ((36 + x1)))))))))) (mw h m μ)) : J g mX12_canPay (d + 1) hs P 0 [(0, .ref m), (1, .int x1)] [] (mw h m μ) := by
  refine jr_aload_n 0 dX12_canPay_0 rfl rfl ?_
  refine jr_get jf_X12_9 dX12_canPay_1 mw_o rfl ?_
  refine jr_bipush (v := 22) dX12_canPay_4 (by decide) ?_
  refine jr_iload_n 1 dX12_canPay_6 rfl rfl ?_
  refine jr_iadd dX12_canPay_7 ?_
  obtain ⟨e1, k⟩ := k
  refine jr_iald dX12_canPay_8 mw_1 e1 ?_
  refine jr_aload_n 0 dX12_canPay_9 rfl rfl ?_
  refine jr_get jf_X12_9 dX12_canPay_10 mw_o rfl ?_
  refine jr_bipush (v := 36) dX12_canPay_13 (by decide) ?_
  refine jr_iload_n 1 dX12_canPay_15 rfl rfl ?_
  refine jr_iadd dX12_canPay_16 ?_
  obtain ⟨e2, k⟩ := k
  refine jr_iald dX12_canPay_17 mw_1 e2 ?_
  refine jr_mmin jl_X12_201 dX12_canPay_18 (Nat.le_of_ble_eq_true rfl) ?_
  exact jr_iret (ty := .int) rfl rfl dX12_canPay_21 k
set_option maxRecDepth 20000 in
theorem wX12_whyPay_0 {x1 : Int64} {x3 : Int64} (k : ∃ r1 : Int32, Con g mX12_isHouse d [.ref m, .long x1] (mw h m μ) (jPi (fun r h' => r = r1 ∧ h' = (mw h m μ)) no2) ∧ (r1 = 0 → P (.inl (some (.int 1))) (mw h m μ)) ∧ (¬ r1 = 0 → ∃ r6 : Int32, Con g mX12_within d [.long x3, .long 1, .long 999] (mw h m μ) (jPi (fun r h' => r = r6 ∧ h' = (mw h m μ)) no2) ∧ (r6 = 0 → P (.inl (some (.int 1))) (mw h m μ)) ∧ (¬ r6 = 0 → ∃ r11 : Int32, Con g mX12_isGone d [.ref m, .int x1.toInt32] (mw h m μ) (jPi (fun r h' => r = r11 ∧ h' = (mw h m μ)) no2) ∧ (r11 = 0 → ∃ r16 : Int32, Con g mX12_canPay d [.ref m, .int x1.toInt32] (mw h m μ) (jPi (fun r h' => r = r16 ∧ h' = (mw h m μ)) no2) ∧ (r16 = 0 → P (.inl (some (.int 3))) (mw h m μ)) ∧ (¬ r16 = 0 → P (.inl (some (.int 0))) (mw h m μ))) ∧ (¬ r11 = 0 → P (.inl (some (.int 2))) (mw h m μ))))) : J g mX12_whyPay (d + 1) hs P 0 [(0, .ref m), (1, .long x1), (3, .long x3)] [] (mw h m μ) := by
  refine jr_aload_n 0 dX12_whyPay_0 rfl rfl ?_
  refine jr_lload_n 1 dX12_whyPay_1 rfl rfl ?_
  obtain ⟨r1z, C5, k⟩ := k
  refine jr_cVi (As := [.long x1]) jl_X12_313 km_X12_isHouse rfl rfl dX12_whyPay_2 mw_o (Nat.le_of_ble_eq_true rfl) (C5.pi (fun _ _ q => q) (fun E h' f => f.elim)) (fun r1 h2 q3 => ?_)
  obtain ⟨q3, q4⟩ := q3
  subst q4
  subst q3
  refine jr_if_eq (tgt := 19) dX12_whyPay_5 (by decide) (fun c5 => ?_) (fun c5 => ?_)
  · have k := k.1 c5
    refine jr_iconst (v := 1) dX12_whyPay_19 (by decide) ?_
    exact jr_iret (ty := .int) rfl rfl dX12_whyPay_20 k
  · have k := k.2 c5
    refine jr_lload_n 2 dX12_whyPay_8 rfl rfl ?_
    refine jr_lconst (v := 1) dX12_whyPay_9 (by decide) ?_
    refine jr_ldc2 (v := 999) jk_X12_327 dX12_whyPay_10 ?_
    obtain ⟨r6z, C10, k⟩ := k
    refine jr_cSi (As := [.long x3, .long 1, .long 999]) jl_X12_128 km_X12_within rfl rfl dX12_whyPay_13 (Nat.le_of_ble_eq_true rfl) (C10.pi (fun _ _ q => q) (fun E h' f => f.elim)) (fun r6 h7 q8 => ?_)
    obtain ⟨q8, q9⟩ := q8
    subst q9
    subst q8
    refine jr_if_ne (tgt := 21) dX12_whyPay_16 (by decide) (fun c16 => ?_) (fun c16 => ?_)
    · have k := k.2 c16
      refine jr_aload_n 0 dX12_whyPay_21 rfl rfl ?_
      refine jr_lload_n 1 dX12_whyPay_22 rfl rfl ?_
      refine jr_l2i dX12_whyPay_23 ?_
      obtain ⟨r11z, C15, k⟩ := k
      refine jr_cVi (As := [.int x1.toInt32]) jl_X12_291 km_X12_isGone rfl rfl dX12_whyPay_24 mw_o (Nat.le_of_ble_eq_true rfl) (C15.pi (fun _ _ q => q) (fun E h' f => f.elim)) (fun r11 h12 q13 => ?_)
      obtain ⟨q13, q14⟩ := q13
      subst q14
      subst q13
      refine jr_if_eq (tgt := 34) dX12_whyPay_27 (by decide) (fun c27 => ?_) (fun c27 => ?_)
      · have k := k.1 c27
        refine jr_aload_n 0 dX12_whyPay_34 rfl rfl ?_
        refine jr_lload_n 1 dX12_whyPay_35 rfl rfl ?_
        refine jr_l2i dX12_whyPay_36 ?_
        obtain ⟨r16z, C20, k⟩ := k
        refine jr_cVi (As := [.int x1.toInt32]) jl_X12_329 km_X12_canPay rfl rfl dX12_whyPay_37 mw_o (Nat.le_of_ble_eq_true rfl) (C20.pi (fun _ _ q => q) (fun E h' f => f.elim)) (fun r16 h17 q18 => ?_)
        obtain ⟨q18, q19⟩ := q18
        subst q19
        subst q18
        refine jr_if_ne (tgt := 47) dX12_whyPay_40 (by decide) (fun c40 => ?_) (fun c40 => ?_)
        · have k := k.2 c40
          refine jr_iconst (v := 0) dX12_whyPay_47 (by decide) ?_
          exact jr_iret (ty := .int) rfl rfl dX12_whyPay_48 k
        · have k := k.1 c40
          refine jr_iconst (v := 3) dX12_whyPay_43 (by decide) ?_
          refine jr_goto (tgt := 48) dX12_whyPay_44 (by decide) ?_
          exact jr_iret (ty := .int) rfl rfl dX12_whyPay_48 k
      · have k := k.2 c27
        refine jr_iconst (v := 2) dX12_whyPay_30 (by decide) ?_
        refine jr_goto (tgt := 48) dX12_whyPay_31 (by decide) ?_
        exact jr_iret (ty := .int) rfl rfl dX12_whyPay_48 k
    · have k := k.1 c16
      refine jr_iconst (v := 1) dX12_whyPay_19 (by decide) ?_
      exact jr_iret (ty := .int) rfl rfl dX12_whyPay_20 k
set_option maxRecDepth 20000 in
theorem wX12_swaps_0 {x1 : Int32} {x2 : Int32} (k : J g mX12_swaps (d + 1) hs P 2 [(0, .ref m), (1, .int x1), (2, .int x2), (3, .int 0)] [] (mw h m μ)) : J g mX12_swaps (d + 1) hs P 0 [(0, .ref m), (1, .int x1), (2, .int x2)] [] (mw h m μ) := by
  refine jr_iconst (v := 0) dX12_swaps_0 (by decide) ?_
  refine jr_istore_n (lv' := [(3, .int 0), (0, .ref m), (1, .int x1), (2, .int x2)]) dX12_swaps_1 rfl (by decide) rfl ?_
  exact jr_sub [1, 2, 3, 0] rfl k
set_option maxRecDepth 20000 in
theorem wX12_swaps_2 {x1 : Int32} {x2 : Int32} {x3 : Int32} (k : (x3 < 4 → vp_in (((8 + (7 * x3)) + x1)) 3240 ∧ vp_in (((8 + (7 * x3)) + x2)) 3240 ∧ vp_in (((8 + (7 * x3)) + x1)) 3240 ∧ vp_in (((8 + (7 * x3)) + x2)) 3240 ∧ J g mX12_swaps (d + 1) hs P 2 [(0, .ref m), (1, .int x1), (2, .int x2), (3, .int (x3 + 1))] [] (mw h m (mA ((mA μ 1 (upd (kn μ) (ix (((8 + (7 * x3)) + x1))) ((kn μ (ix (((8 + (7 * x3)) + x2)))))))) 1 (upd (kn ((mA μ 1 (upd (kn μ) (ix (((8 + (7 * x3)) + x1))) ((kn μ (ix (((8 + (7 * x3)) + x2))))))))) (ix (((8 + (7 * x3)) + x2))) ((kn μ (ix (((8 + (7 * x3)) + x1))))))))) ∧ (¬ x3 < 4 → P (.inl none) (mw h m μ))) : J g mX12_swaps (d + 1) hs P 2 [(0, .ref m), (1, .int x1), (2, .int x2), (3, .int x3)] [] (mw h m μ) := by
  refine jr_iload_n 3 dX12_swaps_2 rfl rfl ?_
  refine jr_iconst (v := 4) dX12_swaps_3 (by decide) ?_
  refine jr_icmp_ge (tgt := 73) dX12_swaps_4 (by decide) (fun c4 => ?_) (fun c4 => ?_)
  · have k := k.2 c4
    exact jr_vret rfl dX12_swaps_73 k
  · have k := k.1 c4
    refine jr_aload_n 0 dX12_swaps_7 rfl rfl ?_
    refine jr_get jf_X12_9 dX12_swaps_8 mw_o rfl ?_
    refine jr_bipush (v := 8) dX12_swaps_11 (by decide) ?_
    refine jr_bipush (v := 7) dX12_swaps_13 (by decide) ?_
    refine jr_iload_n 3 dX12_swaps_15 rfl rfl ?_
    refine jr_imul dX12_swaps_16 ?_
    refine jr_iadd dX12_swaps_17 ?_
    refine jr_iload_n 1 dX12_swaps_18 rfl rfl ?_
    refine jr_iadd dX12_swaps_19 ?_
    obtain ⟨e1, k⟩ := k
    refine jr_iald dX12_swaps_20 mw_1 e1 ?_
    refine jr_istore (lv' := [(4, .int (kn μ (ix (((8 + (7 * x3)) + x1))))), (0, .ref m), (1, .int x1), (2, .int x2), (3, .int x3)]) dX12_swaps_21 (by decide) rfl ?_
    refine jr_aload_n 1 dX12_swaps_23 rfl rfl ?_
    refine jr_get jf_X12_9 dX12_swaps_24 mw_o rfl ?_
    refine jr_bipush (v := 8) dX12_swaps_27 (by decide) ?_
    refine jr_bipush (v := 7) dX12_swaps_29 (by decide) ?_
    refine jr_iload_n 4 dX12_swaps_31 rfl rfl ?_
    refine jr_imul dX12_swaps_32 ?_
    refine jr_iadd dX12_swaps_33 ?_
    refine jr_iload_n 2 dX12_swaps_34 rfl rfl ?_
    refine jr_iadd dX12_swaps_35 ?_
    refine jr_aload_n 1 dX12_swaps_36 rfl rfl ?_
    refine jr_get jf_X12_9 dX12_swaps_37 mw_o rfl ?_
    refine jr_bipush (v := 8) dX12_swaps_40 (by decide) ?_
    refine jr_bipush (v := 7) dX12_swaps_42 (by decide) ?_
    refine jr_iload_n 4 dX12_swaps_44 rfl rfl ?_
    refine jr_imul dX12_swaps_45 ?_
    refine jr_iadd dX12_swaps_46 ?_
    refine jr_iload_n 3 dX12_swaps_47 rfl rfl ?_
    refine jr_iadd dX12_swaps_48 ?_
    obtain ⟨e2, k⟩ := k
    refine jr_iald dX12_swaps_49 mw_1 e2 ?_
    obtain ⟨e5, k⟩ := k
    refine jr_iastE dX12_swaps_50 mw_1 e5 (fun h3 e4 => ?_)
    replace e4 : h3 = mw h m (mA μ 1 (upd (kn μ) (ix (((8 + (7 * x3)) + x1))) ((kn μ (ix (((8 + (7 * x3)) + x2))))))) := e4.trans (mw_pA (by decide) (by decide) _)
    subst e4
    refine jr_aload_n 1 dX12_swaps_51 rfl rfl ?_
    refine jr_get jf_X12_9 dX12_swaps_52 mw_o rfl ?_
    refine jr_bipush (v := 8) dX12_swaps_55 (by decide) ?_
    refine jr_bipush (v := 7) dX12_swaps_57 (by decide) ?_
    refine jr_iload_n 4 dX12_swaps_59 rfl rfl ?_
    refine jr_imul dX12_swaps_60 ?_
    refine jr_iadd dX12_swaps_61 ?_
    refine jr_iload_n 3 dX12_swaps_62 rfl rfl ?_
    refine jr_iadd dX12_swaps_63 ?_
    refine jr_iload 0 dX12_swaps_64 rfl ?_
    obtain ⟨e8, k⟩ := k
    refine jr_iastE dX12_swaps_66 mw_1 e8 (fun h6 e7 => ?_)
    replace e7 : h6 = mw h m (mA ((mA μ 1 (upd (kn μ) (ix (((8 + (7 * x3)) + x1))) ((kn μ (ix (((8 + (7 * x3)) + x2)))))))) 1 (upd (kn ((mA μ 1 (upd (kn μ) (ix (((8 + (7 * x3)) + x1))) ((kn μ (ix (((8 + (7 * x3)) + x2))))))))) (ix (((8 + (7 * x3)) + x2))) ((kn μ (ix (((8 + (7 * x3)) + x1))))))) := e7.trans (mw_pA (by decide) (by decide) _)
    subst e7
    refine jr_iinc (v := (x3 + 1)) (lv' := [(3, .int (x3 + 1)), (4, .int (kn μ (ix (((8 + (7 * x3)) + x1))))), (0, .ref m), (1, .int x1), (2, .int x2)]) 4 dX12_swaps_67 rfl rfl (by decide) rfl ?_
    refine jr_goto (tgt := 2) dX12_swaps_70 (by decide) ?_
    exact jr_sub [2, 3, 4, 0] rfl k
set_option maxRecDepth 20000 in
theorem wX12_gives_0 {x1 : Int32} {x2 : Int32} {x3 : Int32} (k : vp_in ((22 + x1)) 3240 ∧ vp_in ((22 + x1)) 3240 ∧ vp_in ((22 + x2)) 3240 ∧ ∃ r6 : Int32, Con g mX12_capped d [.int ((kn ((mA μ 1 (upd (kn μ) (ix ((22 + x1))) (((kn μ (ix ((22 + x1)))) - x3))))) (ix ((22 + x2)))) + x3)] (mw h m (mA μ 1 (upd (kn μ) (ix ((22 + x1))) (((kn μ (ix ((22 + x1)))) - x3))))) (jPi (fun r h' => r = r6 ∧ h' = (mw h m (mA μ 1 (upd (kn μ) (ix ((22 + x1))) (((kn μ (ix ((22 + x1)))) - x3)))))) no2) ∧ vp_in ((22 + x2)) 3240 ∧ P (.inl none) (mw h m (mA ((mA μ 1 (upd (kn μ) (ix ((22 + x1))) (((kn μ (ix ((22 + x1)))) - x3))))) 1 (upd (kn ((mA μ 1 (upd (kn μ) (ix ((22 + x1))) (((kn μ (ix ((22 + x1)))) - x3)))))) (ix ((22 + x2))) r6)))) : J g mX12_gives (d + 1) hs P 0 [(0, .ref m), (1, .int x1), (2, .int x2), (3, .int x3)] [] (mw h m μ) := by
  refine jr_aload_n 0 dX12_gives_0 rfl rfl ?_
  refine jr_get jf_X12_9 dX12_gives_1 mw_o rfl ?_
  refine jr_bipush (v := 22) dX12_gives_4 (by decide) ?_
  refine jr_iload_n 1 dX12_gives_6 rfl rfl ?_
  refine jr_iadd dX12_gives_7 ?_
  refine jr_dup2 dX12_gives_8 rfl rfl ?_
  obtain ⟨e1, k⟩ := k
  refine jr_iald dX12_gives_9 mw_1 e1 ?_
  refine jr_iload_n 3 dX12_gives_10 rfl rfl ?_
  refine jr_isub dX12_gives_11 ?_
  obtain ⟨e4, k⟩ := k
  refine jr_iastE dX12_gives_12 mw_1 e4 (fun h2 e3 => ?_)
  replace e3 : h2 = mw h m (mA μ 1 (upd (kn μ) (ix ((22 + x1))) (((kn μ (ix ((22 + x1)))) - x3)))) := e3.trans (mw_pA (by decide) (by decide) _)
  subst e3
  refine jr_aload_n 0 dX12_gives_13 rfl rfl ?_
  refine jr_get jf_X12_9 dX12_gives_14 mw_o rfl ?_
  refine jr_bipush (v := 22) dX12_gives_17 (by decide) ?_
  refine jr_iload_n 2 dX12_gives_19 rfl rfl ?_
  refine jr_iadd dX12_gives_20 ?_
  refine jr_aload_n 0 dX12_gives_21 rfl rfl ?_
  refine jr_get jf_X12_9 dX12_gives_22 mw_o rfl ?_
  refine jr_bipush (v := 22) dX12_gives_25 (by decide) ?_
  refine jr_iload_n 2 dX12_gives_27 rfl rfl ?_
  refine jr_iadd dX12_gives_28 ?_
  obtain ⟨e5, k⟩ := k
  refine jr_iald dX12_gives_29 mw_1 e5 ?_
  refine jr_iload_n 3 dX12_gives_30 rfl rfl ?_
  refine jr_iadd dX12_gives_31 ?_
  obtain ⟨r6z, C10, k⟩ := k
  refine jr_cSi (As := [.int ((kn ((mA μ 1 (upd (kn μ) (ix ((22 + x1))) (((kn μ (ix ((22 + x1)))) - x3))))) (ix ((22 + x2)))) + x3)]) jl_X12_279 km_X12_capped rfl rfl dX12_gives_32 (Nat.le_of_ble_eq_true rfl) (C10.pi (fun _ _ q => q) (fun E h' f => f.elim)) (fun r6 h7 q8 => ?_)
  obtain ⟨q8, q9⟩ := q8
  subst q9
  subst q8
  obtain ⟨e13, k⟩ := k
  refine jr_iastE dX12_gives_35 mw_1 e13 (fun h11 e12 => ?_)
  replace e12 : h11 = mw h m (mA ((mA μ 1 (upd (kn μ) (ix ((22 + x1))) (((kn μ (ix ((22 + x1)))) - x3))))) 1 (upd (kn ((mA μ 1 (upd (kn μ) (ix ((22 + x1))) (((kn μ (ix ((22 + x1)))) - x3)))))) (ix ((22 + x2))) r6)) := e12.trans (mw_pA (by decide) (by decide) _)
  subst e12
  exact jr_vret rfl dX12_gives_36 k
set_option maxRecDepth 20000 in
theorem wX12_paysOff_0 {x1 : Int32} {x2 : Int32} (k : ∃ r1 : Int32, Con g mX12_canPay d [.ref m, .int x1] (mw h m μ) (jPi (fun r h' => r = r1 ∧ h' = (mw h m μ)) no2) ∧ vp_in ((22 + x1)) 3240 ∧ vp_in ((22 + x1)) 3240 ∧ vp_in ((36 + x1)) 3240 ∧ vp_in ((36 + x1)) 3240 ∧ P (.inl (some (.int ((jmin x2 r1))))) (mw h m (mA ((mA μ 1 (upd (kn μ) (ix ((22 + x1))) (((kn μ (ix ((22 + x1)))) - (jmin x2 r1)))))) 1 (upd (kn ((mA μ 1 (upd (kn μ) (ix ((22 + x1))) (((kn μ (ix ((22 + x1)))) - (jmin x2 r1))))))) (ix ((36 + x1))) (((kn ((mA μ 1 (upd (kn μ) (ix ((22 + x1))) (((kn μ (ix ((22 + x1)))) - (jmin x2 r1)))))) (ix ((36 + x1)))) - (jmin x2 r1))))))) : J g mX12_paysOff (d + 1) hs P 0 [(0, .ref m), (1, .int x1), (2, .int x2)] [] (mw h m μ) := by
  refine jr_iload_n 2 dX12_paysOff_0 rfl rfl ?_
  refine jr_aload_n 0 dX12_paysOff_1 rfl rfl ?_
  refine jr_iload_n 1 dX12_paysOff_2 rfl rfl ?_
  obtain ⟨r1z, C5, k⟩ := k
  refine jr_cVi (As := [.int x1]) jl_X12_329 km_X12_canPay rfl rfl dX12_paysOff_3 mw_o (Nat.le_of_ble_eq_true rfl) (C5.pi (fun _ _ q => q) (fun E h' f => f.elim)) (fun r1 h2 q3 => ?_)
  obtain ⟨q3, q4⟩ := q3
  subst q4
  subst q3
  refine jr_mmin jl_X12_201 dX12_paysOff_6 (Nat.le_of_ble_eq_true rfl) ?_
  refine jr_istore_n (lv' := [(3, .int (jmin x2 r1)), (0, .ref m), (1, .int x1), (2, .int x2)]) dX12_paysOff_9 rfl (by decide) rfl ?_
  refine jr_aload_n 1 dX12_paysOff_10 rfl rfl ?_
  refine jr_get jf_X12_9 dX12_paysOff_11 mw_o rfl ?_
  refine jr_bipush (v := 22) dX12_paysOff_14 (by decide) ?_
  refine jr_iload_n 2 dX12_paysOff_16 rfl rfl ?_
  refine jr_iadd dX12_paysOff_17 ?_
  refine jr_dup2 dX12_paysOff_18 rfl rfl ?_
  obtain ⟨e6, k⟩ := k
  refine jr_iald dX12_paysOff_19 mw_1 e6 ?_
  refine jr_iload_n 0 dX12_paysOff_20 rfl rfl ?_
  refine jr_isub dX12_paysOff_21 ?_
  obtain ⟨e9, k⟩ := k
  refine jr_iastE dX12_paysOff_22 mw_1 e9 (fun h7 e8 => ?_)
  replace e8 : h7 = mw h m (mA μ 1 (upd (kn μ) (ix ((22 + x1))) (((kn μ (ix ((22 + x1)))) - (jmin x2 r1))))) := e8.trans (mw_pA (by decide) (by decide) _)
  subst e8
  refine jr_aload_n 1 dX12_paysOff_23 rfl rfl ?_
  refine jr_get jf_X12_9 dX12_paysOff_24 mw_o rfl ?_
  refine jr_bipush (v := 36) dX12_paysOff_27 (by decide) ?_
  refine jr_iload_n 2 dX12_paysOff_29 rfl rfl ?_
  refine jr_iadd dX12_paysOff_30 ?_
  refine jr_dup2 dX12_paysOff_31 rfl rfl ?_
  obtain ⟨e10, k⟩ := k
  refine jr_iald dX12_paysOff_32 mw_1 e10 ?_
  refine jr_iload_n 0 dX12_paysOff_33 rfl rfl ?_
  refine jr_isub dX12_paysOff_34 ?_
  obtain ⟨e13, k⟩ := k
  refine jr_iastE dX12_paysOff_35 mw_1 e13 (fun h11 e12 => ?_)
  replace e12 : h11 = mw h m (mA ((mA μ 1 (upd (kn μ) (ix ((22 + x1))) (((kn μ (ix ((22 + x1)))) - (jmin x2 r1)))))) 1 (upd (kn ((mA μ 1 (upd (kn μ) (ix ((22 + x1))) (((kn μ (ix ((22 + x1)))) - (jmin x2 r1))))))) (ix ((36 + x1))) (((kn ((mA μ 1 (upd (kn μ) (ix ((22 + x1))) (((kn μ (ix ((22 + x1)))) - (jmin x2 r1)))))) (ix ((36 + x1)))) - (jmin x2 r1))))) := e12.trans (mw_pA (by decide) (by decide) _)
  subst e12
  refine jr_iload_n 0 dX12_paysOff_36 rfl rfl ?_
  exact jr_iret (ty := .int) rfl rfl dX12_paysOff_37 k
set_option maxRecDepth 20000 in
theorem wX12_swap_0 {x1 : Int32} {x2 : Int32} (k : ∃ r3 : Int32, Con g mX12_whyTwo d [.ref m, .long x1.toInt64, .long x2.toInt64] (mw h m (mI μ 4 0)) (jPi (fun r h' => r = r3 ∧ h' = (mw h m (mI μ 4 0))) no2) ∧ (r3 = 0 → ∃ Q14 : MW → Prop, Con g mX12_keeps d [.ref m] (mw h m (mI μ 4 0)) (wPv h m Q14) ∧ ∀ μ13 : MW, Q14 μ13 → ∃ Q21 : MW → Prop, Con g mX12_swaps d [.ref m, .int x1, .int x2] (mw h m μ13) (wPv h m Q21) ∧ ∀ μ20 : MW, Q21 μ20 → vp_in ((36 + x1)) 3240 ∧ vp_in ((36 + x2)) 3240 ∧ P (.inl (some (.int (((kn μ20 (ix ((36 + x1)))) + (kn μ20 (ix ((36 + x2))))))))) (mw h m μ20)) ∧ (¬ r3 = 0 → P (.inl (some (.int ((-1))))) (mw h m (mI μ 4 0)))) : J g mX12_swap (d + 1) hs P 0 [(0, .ref m), (1, .int x1), (2, .int x2)] [] (mw h m μ) := by
  refine jr_aload_n 0 dX12_swap_0 rfl rfl ?_
  refine jr_iconst (v := 0) dX12_swap_1 (by decide) ?_
  refine jr_putE jp_X12_67 dX12_swap_2 mw_o (Nat.le_of_ble_eq_true rfl) rfl rfl (fun h1 e2 => ?_)
  replace e2 := e2.trans (mw_pI 4 ((0 : Int32)))
  subst e2
  refine jr_aload_n 0 dX12_swap_5 rfl rfl ?_
  refine jr_iload_n 1 dX12_swap_6 rfl rfl ?_
  refine jr_i2l dX12_swap_7 ?_
  refine jr_iload_n 2 dX12_swap_8 rfl rfl ?_
  refine jr_i2l dX12_swap_9 ?_
  obtain ⟨r3z, C7, k⟩ := k
  refine jr_cVi (As := [.long x1.toInt64, .long x2.toInt64]) jl_X12_323 km_X12_whyTwo rfl rfl dX12_swap_10 mw_o (Nat.le_of_ble_eq_true rfl) (C7.pi (fun _ _ q => q) (fun E h' f => f.elim)) (fun r3 h4 q5 => ?_)
  obtain ⟨q5, q6⟩ := q5
  subst q6
  subst q5
  refine jr_if_eq (tgt := 18) dX12_swap_13 (by decide) (fun c13 => ?_) (fun c13 => ?_)
  · have k := k.1 c13
    refine jr_aload_n 0 dX12_swap_18 rfl rfl ?_
    obtain ⟨Q14, C12, k⟩ := k
    refine jr_cVv (As := []) jl_X12_332 km_X12_keeps rfl rfl dX12_swap_19 mw_o (Nat.le_of_ble_eq_true rfl) (Con.pv C12 (fun _ q => q) (fun E h' f => f.elim)) (fun h9 q10 => ?_)
    obtain ⟨μ13, q10, q11⟩ := q10
    subst q11
    have k := k μ13 q10
    refine jr_aload_n 0 dX12_swap_22 rfl rfl ?_
    refine jr_iload_n 1 dX12_swap_23 rfl rfl ?_
    refine jr_iload_n 2 dX12_swap_24 rfl rfl ?_
    obtain ⟨Q21, C19, k⟩ := k
    refine jr_cVv (As := [.int x1, .int x2]) jl_X12_335 km_X12_swaps rfl rfl dX12_swap_25 mw_o (Nat.le_of_ble_eq_true rfl) (Con.pv C19 (fun _ q => q) (fun E h' f => f.elim)) (fun h16 q17 => ?_)
    obtain ⟨μ20, q17, q18⟩ := q17
    subst q18
    have k := k μ20 q17
    refine jr_aload_n 0 dX12_swap_28 rfl rfl ?_
    refine jr_get jf_X12_9 dX12_swap_29 mw_o rfl ?_
    refine jr_bipush (v := 36) dX12_swap_32 (by decide) ?_
    refine jr_iload_n 1 dX12_swap_34 rfl rfl ?_
    refine jr_iadd dX12_swap_35 ?_
    obtain ⟨e22, k⟩ := k
    refine jr_iald dX12_swap_36 mw_1 e22 ?_
    refine jr_aload_n 0 dX12_swap_37 rfl rfl ?_
    refine jr_get jf_X12_9 dX12_swap_38 mw_o rfl ?_
    refine jr_bipush (v := 36) dX12_swap_41 (by decide) ?_
    refine jr_iload_n 2 dX12_swap_43 rfl rfl ?_
    refine jr_iadd dX12_swap_44 ?_
    obtain ⟨e23, k⟩ := k
    refine jr_iald dX12_swap_45 mw_1 e23 ?_
    refine jr_iadd dX12_swap_46 ?_
    exact jr_iret (ty := .int) rfl rfl dX12_swap_47 k
  · have k := k.2 c13
    refine jr_iconst (v := (-1)) dX12_swap_16 (by decide) ?_
    exact jr_iret (ty := .int) rfl rfl dX12_swap_17 k
set_option maxRecDepth 20000 in
theorem wX12_gift_0 {x1 : Int32} {x2 : Int32} {x3 : Int32} (k : ∃ r3 : Int32, Con g mX12_whyGift d [.ref m, .long x1.toInt64, .long x2.toInt64, .long x3.toInt64] (mw h m (mI μ 4 0)) (jPi (fun r h' => r = r3 ∧ h' = (mw h m (mI μ 4 0))) no2) ∧ (r3 = 0 → ∃ Q14 : MW → Prop, Con g mX12_keeps d [.ref m] (mw h m (mI μ 4 0)) (wPv h m Q14) ∧ ∀ μ13 : MW, Q14 μ13 → ∃ Q21 : MW → Prop, Con g mX12_gives d [.ref m, .int x1, .int x2, .int x3] (mw h m μ13) (wPv h m Q21) ∧ ∀ μ20 : MW, Q21 μ20 → vp_in ((22 + x1)) 3240 ∧ P (.inl (some (.int ((kn μ20 (ix ((22 + x1)))))))) (mw h m μ20)) ∧ (¬ r3 = 0 → P (.inl (some (.int ((-r3))))) (mw h m (mI μ 4 0)))) : J g mX12_gift (d + 1) hs P 0 [(0, .ref m), (1, .int x1), (2, .int x2), (3, .int x3)] [] (mw h m μ) := by
  refine jr_aload_n 0 dX12_gift_0 rfl rfl ?_
  refine jr_iconst (v := 0) dX12_gift_1 (by decide) ?_
  refine jr_putE jp_X12_67 dX12_gift_2 mw_o (Nat.le_of_ble_eq_true rfl) rfl rfl (fun h1 e2 => ?_)
  replace e2 := e2.trans (mw_pI 4 ((0 : Int32)))
  subst e2
  refine jr_aload_n 0 dX12_gift_5 rfl rfl ?_
  refine jr_iload_n 1 dX12_gift_6 rfl rfl ?_
  refine jr_i2l dX12_gift_7 ?_
  refine jr_iload_n 2 dX12_gift_8 rfl rfl ?_
  refine jr_i2l dX12_gift_9 ?_
  refine jr_iload_n 3 dX12_gift_10 rfl rfl ?_
  refine jr_i2l dX12_gift_11 ?_
  obtain ⟨r3z, C7, k⟩ := k
  refine jr_cVi (As := [.long x1.toInt64, .long x2.toInt64, .long x3.toInt64]) jl_X12_338 km_X12_whyGift rfl rfl dX12_gift_12 mw_o (Nat.le_of_ble_eq_true rfl) (C7.pi (fun _ _ q => q) (fun E h' f => f.elim)) (fun r3 h4 q5 => ?_)
  obtain ⟨q5, q6⟩ := q5
  subst q6
  subst q5
  refine jr_istore (lv' := [(4, .int r3), (0, .ref m), (1, .int x1), (2, .int x2), (3, .int x3)]) dX12_gift_15 (by decide) rfl ?_
  refine jr_iload 0 dX12_gift_17 rfl ?_
  refine jr_if_eq (tgt := 26) dX12_gift_19 (by decide) (fun c19 => ?_) (fun c19 => ?_)
  · have k := k.1 c19
    refine jr_aload_n 1 dX12_gift_26 rfl rfl ?_
    obtain ⟨Q14, C12, k⟩ := k
    refine jr_cVv (As := []) jl_X12_332 km_X12_keeps rfl rfl dX12_gift_27 mw_o (Nat.le_of_ble_eq_true rfl) (Con.pv C12 (fun _ q => q) (fun E h' f => f.elim)) (fun h9 q10 => ?_)
    obtain ⟨μ13, q10, q11⟩ := q10
    subst q11
    have k := k μ13 q10
    refine jr_aload_n 1 dX12_gift_30 rfl rfl ?_
    refine jr_iload_n 2 dX12_gift_31 rfl rfl ?_
    refine jr_iload_n 3 dX12_gift_32 rfl rfl ?_
    refine jr_iload_n 4 dX12_gift_33 rfl rfl ?_
    obtain ⟨Q21, C19, k⟩ := k
    refine jr_cVv (As := [.int x1, .int x2, .int x3]) jl_X12_342 km_X12_gives rfl rfl dX12_gift_34 mw_o (Nat.le_of_ble_eq_true rfl) (Con.pv C19 (fun _ q => q) (fun E h' f => f.elim)) (fun h16 q17 => ?_)
    obtain ⟨μ20, q17, q18⟩ := q17
    subst q18
    have k := k μ20 q17
    refine jr_aload_n 1 dX12_gift_37 rfl rfl ?_
    refine jr_get jf_X12_9 dX12_gift_38 mw_o rfl ?_
    refine jr_bipush (v := 22) dX12_gift_41 (by decide) ?_
    refine jr_iload_n 2 dX12_gift_43 rfl rfl ?_
    refine jr_iadd dX12_gift_44 ?_
    obtain ⟨e22, k⟩ := k
    refine jr_iald dX12_gift_45 mw_1 e22 ?_
    exact jr_iret (ty := .int) rfl rfl dX12_gift_46 k
  · have k := k.2 c19
    refine jr_iload 0 dX12_gift_22 rfl ?_
    refine jr_ineg dX12_gift_24 ?_
    exact jr_iret (ty := .int) rfl rfl dX12_gift_25 k
set_option maxRecDepth 20000 in
theorem wX12_plant_0 {x1 : Int32} {x2 : Int32} (k : ∃ r1 : Int32, Con g mX12_isHouse d [.ref m, .long x1.toInt64] (mw h m μ) (jPi (fun r h' => r = r1 ∧ h' = (mw h m μ)) no2) ∧ (r1 = 0 → J g mX12_plant (d + 1) hs P 31 [(0, .ref m), (1, .int x1), (2, .int x2)] [.int 1, .ref m] (mw h m μ)) ∧ (¬ r1 = 0 → ∃ r6 : Int32, Con g mX12_within d [.long x2.toInt64, .long 0, .long 20] (mw h m μ) (jPi (fun r h' => r = r6 ∧ h' = (mw h m μ)) no2) ∧ (r6 = 0 → J g mX12_plant (d + 1) hs P 31 [(0, .ref m), (1, .int x1), (2, .int x2)] [.int 2, .ref m] (mw h m μ)) ∧ (¬ r6 = 0 → J g mX12_plant (d + 1) hs P 31 [(0, .ref m), (1, .int x1), (2, .int x2)] [.int 0, .ref m] (mw h m μ)))) : J g mX12_plant (d + 1) hs P 0 [(0, .ref m), (1, .int x1), (2, .int x2)] [] (mw h m μ) := by
  refine jr_aload_n 0 dX12_plant_0 rfl rfl ?_
  refine jr_aload_n 0 dX12_plant_1 rfl rfl ?_
  refine jr_iload_n 1 dX12_plant_2 rfl rfl ?_
  refine jr_i2l dX12_plant_3 ?_
  obtain ⟨r1z, C5, k⟩ := k
  refine jr_cVi (As := [.long x1.toInt64]) jl_X12_313 km_X12_isHouse rfl rfl dX12_plant_4 mw_o (Nat.le_of_ble_eq_true rfl) (C5.pi (fun _ _ q => q) (fun E h' f => f.elim)) (fun r1 h2 q3 => ?_)
  obtain ⟨q3, q4⟩ := q3
  subst q4
  subst q3
  refine jr_if_ne (tgt := 14) dX12_plant_7 (by decide) (fun c7 => ?_) (fun c7 => ?_)
  · have k := k.2 c7
    refine jr_iload_n 2 dX12_plant_14 rfl rfl ?_
    refine jr_i2l dX12_plant_15 ?_
    refine jr_lconst (v := 0) dX12_plant_16 (by decide) ?_
    refine jr_ldc2 (v := 20) jk_X12_346 dX12_plant_17 ?_
    obtain ⟨r6z, C10, k⟩ := k
    refine jr_cSi (As := [.long x2.toInt64, .long 0, .long 20]) jl_X12_128 km_X12_within rfl rfl dX12_plant_20 (Nat.le_of_ble_eq_true rfl) (C10.pi (fun _ _ q => q) (fun E h' f => f.elim)) (fun r6 h7 q8 => ?_)
    obtain ⟨q8, q9⟩ := q8
    subst q9
    subst q8
    refine jr_if_eq (tgt := 30) dX12_plant_23 (by decide) (fun c23 => ?_) (fun c23 => ?_)
    · have k := k.1 c23
      refine jr_iconst (v := 2) dX12_plant_30 (by decide) ?_
      exact jr_sub [0, 1, 2] rfl k
    · have k := k.2 c23
      refine jr_iconst (v := 0) dX12_plant_26 (by decide) ?_
      refine jr_goto (tgt := 31) dX12_plant_27 (by decide) ?_
      exact jr_sub [0, 1, 2] rfl k
  · have k := k.1 c7
    refine jr_iconst (v := 1) dX12_plant_10 (by decide) ?_
    refine jr_goto (tgt := 31) dX12_plant_11 (by decide) ?_
    exact jr_sub [0, 1, 2] rfl k
set_option maxRecDepth 20000 in
theorem wX12_plant_31 {x1 : Int32} {x2 : Int32} {s1 : Int32} (k : (0 < (((mI μ 4 s1)).1 4) → P (.inl (some (.int 0))) (mw h m (mI μ 4 s1))) ∧ (¬ 0 < (((mI μ 4 s1)).1 4) → ∃ Q9 : MW → Prop, Con g mX12_keeps d [.ref m] (mw h m (mI μ 4 s1)) (wPv h m Q9) ∧ ∀ μ8 : MW, Q9 μ8 → vp_in ((43 + x1)) 3240 ∧ vp_in ((43 + x1)) 3240 ∧ P (.inl (some (.int ((kn μ8 (ix ((43 + x1)))))))) (mw h m (mA μ8 1 (upd (kn μ8) (ix ((43 + x1))) x2))))) : J g mX12_plant (d + 1) hs P 31 [(0, .ref m), (1, .int x1), (2, .int x2)] [.int s1, .ref m] (mw h m μ) := by
  refine jr_putE jp_X12_67 dX12_plant_31 mw_o (Nat.le_of_ble_eq_true rfl) rfl rfl (fun h1 e2 => ?_)
  replace e2 := e2.trans (mw_pI 4 s1)
  subst e2
  refine jr_aload_n 0 dX12_plant_34 rfl rfl ?_
  refine jr_get jf_X12_67 dX12_plant_35 mw_o rfl ?_
  refine jr_if_le (tgt := 43) dX12_plant_38 (by decide) (fun c38 => ?_) (fun c38 => ?_)
  · have k := k.2 c38
    refine jr_aload_n 0 dX12_plant_43 rfl rfl ?_
    obtain ⟨Q9, C7, k⟩ := k
    refine jr_cVv (As := []) jl_X12_332 km_X12_keeps rfl rfl dX12_plant_44 mw_o (Nat.le_of_ble_eq_true rfl) (Con.pv C7 (fun _ q => q) (fun E h' f => f.elim)) (fun h4 q5 => ?_)
    obtain ⟨μ8, q5, q6⟩ := q5
    subst q6
    have k := k μ8 q5
    refine jr_aload_n 0 dX12_plant_47 rfl rfl ?_
    refine jr_get jf_X12_9 dX12_plant_48 mw_o rfl ?_
    refine jr_bipush (v := 43) dX12_plant_51 (by decide) ?_
    refine jr_iload_n 1 dX12_plant_53 rfl rfl ?_
    refine jr_iadd dX12_plant_54 ?_
    obtain ⟨e10, k⟩ := k
    refine jr_iald dX12_plant_55 mw_1 e10 ?_
    refine jr_istore_n (lv' := [(3, .int (kn μ8 (ix ((43 + x1))))), (0, .ref m), (1, .int x1), (2, .int x2)]) dX12_plant_56 rfl (by decide) rfl ?_
    refine jr_aload_n 1 dX12_plant_57 rfl rfl ?_
    refine jr_get jf_X12_9 dX12_plant_58 mw_o rfl ?_
    refine jr_bipush (v := 43) dX12_plant_61 (by decide) ?_
    refine jr_iload_n 2 dX12_plant_63 rfl rfl ?_
    refine jr_iadd dX12_plant_64 ?_
    refine jr_iload_n 3 dX12_plant_65 rfl rfl ?_
    obtain ⟨e13, k⟩ := k
    refine jr_iastE dX12_plant_66 mw_1 e13 (fun h11 e12 => ?_)
    replace e12 : h11 = mw h m (mA μ8 1 (upd (kn μ8) (ix ((43 + x1))) x2)) := e12.trans (mw_pA (by decide) (by decide) _)
    subst e12
    refine jr_iload_n 0 dX12_plant_67 rfl rfl ?_
    exact jr_iret (ty := .int) rfl rfl dX12_plant_68 k
  · have k := k.1 c38
    refine jr_iconst (v := 0) dX12_plant_41 (by decide) ?_
    exact jr_iret (ty := .int) rfl rfl dX12_plant_42 k
set_option maxRecDepth 20000 in
theorem wX12_payOff_0 {x1 : Int32} {x2 : Int32} (k : ∃ r3 : Int32, Con g mX12_whyPay d [.ref m, .long x1.toInt64, .long x2.toInt64] (mw h m (mI μ 4 0)) (jPi (fun r h' => r = r3 ∧ h' = (mw h m (mI μ 4 0))) no2) ∧ (r3 = 0 → ∃ Q14 : MW → Prop, Con g mX12_keeps d [.ref m] (mw h m (mI μ 4 0)) (wPv h m Q14) ∧ ∀ μ13 : MW, Q14 μ13 → ∃ Q21 : Int32 → MW → Prop, Con g mX12_paysOff d [.ref m, .int x1, .int x2] (mw h m μ13) (wPi h m Q21) ∧ ∀ (r15 : Int32) (μ20 : MW), Q21 r15 μ20 → P (.inl (some (.int r15))) (mw h m μ20)) ∧ (¬ r3 = 0 → P (.inl (some (.int ((-r3))))) (mw h m (mI μ 4 0)))) : J g mX12_payOff (d + 1) hs P 0 [(0, .ref m), (1, .int x1), (2, .int x2)] [] (mw h m μ) := by
  refine jr_aload_n 0 dX12_payOff_0 rfl rfl ?_
  refine jr_iconst (v := 0) dX12_payOff_1 (by decide) ?_
  refine jr_putE jp_X12_67 dX12_payOff_2 mw_o (Nat.le_of_ble_eq_true rfl) rfl rfl (fun h1 e2 => ?_)
  replace e2 := e2.trans (mw_pI 4 ((0 : Int32)))
  subst e2
  refine jr_aload_n 0 dX12_payOff_5 rfl rfl ?_
  refine jr_iload_n 1 dX12_payOff_6 rfl rfl ?_
  refine jr_i2l dX12_payOff_7 ?_
  refine jr_iload_n 2 dX12_payOff_8 rfl rfl ?_
  refine jr_i2l dX12_payOff_9 ?_
  obtain ⟨r3z, C7, k⟩ := k
  refine jr_cVi (As := [.long x1.toInt64, .long x2.toInt64]) jl_X12_348 km_X12_whyPay rfl rfl dX12_payOff_10 mw_o (Nat.le_of_ble_eq_true rfl) (C7.pi (fun _ _ q => q) (fun E h' f => f.elim)) (fun r3 h4 q5 => ?_)
  obtain ⟨q5, q6⟩ := q5
  subst q6
  subst q5
  refine jr_istore_n (lv' := [(3, .int r3), (0, .ref m), (1, .int x1), (2, .int x2)]) dX12_payOff_13 rfl (by decide) rfl ?_
  refine jr_iload_n 0 dX12_payOff_14 rfl rfl ?_
  refine jr_if_eq (tgt := 21) dX12_payOff_15 (by decide) (fun c15 => ?_) (fun c15 => ?_)
  · have k := k.1 c15
    refine jr_aload_n 1 dX12_payOff_21 rfl rfl ?_
    obtain ⟨Q14, C12, k⟩ := k
    refine jr_cVv (As := []) jl_X12_332 km_X12_keeps rfl rfl dX12_payOff_22 mw_o (Nat.le_of_ble_eq_true rfl) (Con.pv C12 (fun _ q => q) (fun E h' f => f.elim)) (fun h9 q10 => ?_)
    obtain ⟨μ13, q10, q11⟩ := q10
    subst q11
    have k := k μ13 q10
    refine jr_aload_n 1 dX12_payOff_25 rfl rfl ?_
    refine jr_iload_n 2 dX12_payOff_26 rfl rfl ?_
    refine jr_iload_n 3 dX12_payOff_27 rfl rfl ?_
    obtain ⟨Q21, C19, k⟩ := k
    refine jr_cVi (As := [.int x1, .int x2]) jl_X12_351 km_X12_paysOff rfl rfl dX12_payOff_28 mw_o (Nat.le_of_ble_eq_true rfl) (Con.pi C19 (fun _ _ q => q) (fun E h' f => f.elim)) (fun r15 h16 q17 => ?_)
    obtain ⟨μ20, q17, q18⟩ := q17
    subst q18
    have k := k r15 μ20 q17
    exact jr_iret (ty := .int) rfl rfl dX12_payOff_31 k
  · have k := k.2 c15
    refine jr_iload_n 0 dX12_payOff_18 rfl rfl ?_
    refine jr_ineg dX12_payOff_19 ?_
    exact jr_iret (ty := .int) rfl rfl dX12_payOff_20 k
set_option maxRecDepth 20000 in
theorem wX12_quarters_0 {x1 : Int32} (k : ∃ r3 : Int32, Con g mX12_within d [.long x1.toInt64, .long 1, .long 99] (mw h m (mI μ 4 0)) (jPi (fun r h' => r = r3 ∧ h' = (mw h m (mI μ 4 0))) no2) ∧ (r3 = 0 → ∃ Q21 : Int32 → MW → Prop, Con g mX12_fails d [.ref m, .int 1] (mw h m (mI μ 4 0)) (wPi h m Q21) ∧ ∀ (r15 : Int32) (μ20 : MW), Q21 r15 μ20 → P (.inl (some (.int r15))) (mw h m μ20)) ∧ (¬ r3 = 0 → ∃ Q14 : MW → Prop, Con g mX12_keeps d [.ref m] (mw h m (mI μ 4 0)) (wPv h m Q14) ∧ ∀ μ13 : MW, Q14 μ13 → J g mX12_quarters (d + 1) hs P 31 [(0, .ref m), (1, .int x1), (2, .int 0), (3, .int 0)] [] (mw h m μ13))) : J g mX12_quarters (d + 1) hs P 0 [(0, .ref m), (1, .int x1)] [] (mw h m μ) := by
  refine jr_aload_n 0 dX12_quarters_0 rfl rfl ?_
  refine jr_iconst (v := 0) dX12_quarters_1 (by decide) ?_
  refine jr_putE jp_X12_67 dX12_quarters_2 mw_o (Nat.le_of_ble_eq_true rfl) rfl rfl (fun h1 e2 => ?_)
  replace e2 := e2.trans (mw_pI 4 ((0 : Int32)))
  subst e2
  refine jr_iload_n 1 dX12_quarters_5 rfl rfl ?_
  refine jr_i2l dX12_quarters_6 ?_
  refine jr_lconst (v := 1) dX12_quarters_7 (by decide) ?_
  refine jr_ldc2 (v := 99) jk_X12_354 dX12_quarters_8 ?_
  obtain ⟨r3z, C7, k⟩ := k
  refine jr_cSi (As := [.long x1.toInt64, .long 1, .long 99]) jl_X12_128 km_X12_within rfl rfl dX12_quarters_11 (Nat.le_of_ble_eq_true rfl) (C7.pi (fun _ _ q => q) (fun E h' f => f.elim)) (fun r3 h4 q5 => ?_)
  obtain ⟨q5, q6⟩ := q5
  subst q6
  subst q5
  refine jr_if_ne (tgt := 23) dX12_quarters_14 (by decide) (fun c14 => ?_) (fun c14 => ?_)
  · have k := k.2 c14
    refine jr_aload_n 0 dX12_quarters_23 rfl rfl ?_
    obtain ⟨Q14, C12, k⟩ := k
    refine jr_cVv (As := []) jl_X12_332 km_X12_keeps rfl rfl dX12_quarters_24 mw_o (Nat.le_of_ble_eq_true rfl) (Con.pv C12 (fun _ q => q) (fun E h' f => f.elim)) (fun h9 q10 => ?_)
    obtain ⟨μ13, q10, q11⟩ := q10
    subst q11
    have k := k μ13 q10
    refine jr_iconst (v := 0) dX12_quarters_27 (by decide) ?_
    refine jr_istore_n (lv' := [(2, .int 0), (0, .ref m), (1, .int x1)]) dX12_quarters_28 rfl (by decide) rfl ?_
    refine jr_iconst (v := 0) dX12_quarters_29 (by decide) ?_
    refine jr_istore_n (lv' := [(3, .int 0), (2, .int 0), (0, .ref m), (1, .int x1)]) dX12_quarters_30 rfl (by decide) rfl ?_
    exact jr_sub [2, 3, 1, 0] rfl k
  · have k := k.1 c14
    refine jr_aload_n 0 dX12_quarters_17 rfl rfl ?_
    refine jr_iconst (v := 1) dX12_quarters_18 (by decide) ?_
    obtain ⟨Q21, C19, k⟩ := k
    refine jr_cVi (As := [.int 1]) jl_X12_234 km_X12_fails rfl rfl dX12_quarters_19 mw_o (Nat.le_of_ble_eq_true rfl) (Con.pi C19 (fun _ _ q => q) (fun E h' f => f.elim)) (fun r15 h16 q17 => ?_)
    obtain ⟨μ20, q17, q18⟩ := q17
    subst q18
    have k := k r15 μ20 q17
    exact jr_iret (ty := .int) rfl rfl dX12_quarters_22 k
set_option maxRecDepth 20000 in
theorem wX12_quarters_31 {x1 : Int32} {x2 : Int32} {x3 : Int32} (k : (x3 < x1 → ∃ Q7 : MW → Prop, Con g mX12_quarter d [.ref m] (mw h m μ) (wPv h m Q7) ∧ ∀ μ6 : MW, Q7 μ6 → J g mX12_quarters (d + 1) hs P 31 [(0, .ref m), (1, .int x1), (2, .int (x2 + (μ6.1 24))), (3, .int (x3 + 1))] [] (mw h m μ6)) ∧ (¬ x3 < x1 → P (.inl (some (.int x2))) (mw h m μ))) : J g mX12_quarters (d + 1) hs P 31 [(0, .ref m), (1, .int x1), (2, .int x2), (3, .int x3)] [] (mw h m μ) := by
  refine jr_iload_n 3 dX12_quarters_31 rfl rfl ?_
  refine jr_iload_n 1 dX12_quarters_32 rfl rfl ?_
  refine jr_icmp_ge (tgt := 53) dX12_quarters_33 (by decide) (fun c33 => ?_) (fun c33 => ?_)
  · have k := k.2 c33
    refine jr_iload_n 2 dX12_quarters_53 rfl rfl ?_
    exact jr_iret (ty := .int) rfl rfl dX12_quarters_54 k
  · have k := k.1 c33
    refine jr_aload_n 0 dX12_quarters_36 rfl rfl ?_
    obtain ⟨Q7, C5, k⟩ := k
    refine jr_cVv (As := []) jl_X12_356 km_X12_quarter rfl rfl dX12_quarters_37 mw_o (Nat.le_of_ble_eq_true rfl) (Con.pv C5 (fun _ q => q) (fun E h' f => f.elim)) (fun h2 q3 => ?_)
    obtain ⟨μ6, q3, q4⟩ := q3
    subst q4
    have k := k μ6 q3
    refine jr_iload_n 2 dX12_quarters_40 rfl rfl ?_
    refine jr_aload_n 0 dX12_quarters_41 rfl rfl ?_
    refine jr_get jf_X12_288 dX12_quarters_42 mw_o rfl ?_
    refine jr_iadd dX12_quarters_45 ?_
    refine jr_istore_n (lv' := [(2, .int (x2 + (μ6.1 24))), (0, .ref m), (1, .int x1), (3, .int x3)]) dX12_quarters_46 rfl (by decide) rfl ?_
    refine jr_iinc (v := (x3 + 1)) (lv' := [(3, .int (x3 + 1)), (2, .int (x2 + (μ6.1 24))), (0, .ref m), (1, .int x1)]) 3 dX12_quarters_47 rfl rfl (by decide) rfl ?_
    refine jr_goto (tgt := 31) dX12_quarters_50 (by decide) ?_
    exact jr_sub [2, 3, 1, 0] rfl k
set_option maxRecDepth 20000 in
theorem wX12_undo_0 {x1 : Int32} (k : ∃ r3 : Int32, Con g mX12_within d [.long x1.toInt64, .long 1, .long 10] (mw h m (mI μ 4 0)) (jPi (fun r h' => r = r3 ∧ h' = (mw h m (mI μ 4 0))) no2) ∧ (r3 = 0 → J g mX12_undo (d + 1) hs P 28 [(0, .ref m)] [] (mw h m (mI μ 4 0))) ∧ (¬ r3 = 0 → ((kn ((mI μ 4 0)) 7) < x1 → J g mX12_undo (d + 1) hs P 28 [(0, .ref m)] [] (mw h m (mI μ 4 0))) ∧ (¬ (kn ((mI μ 4 0)) 7) < x1 → J g mX12_undo (d + 1) hs P 47 [(0, .ref m), (2, .int 0)] [] (mw h m (mA ((mI μ 4 0)) 1 (upd (kn ((mI μ 4 0))) 7 (((kn ((mI μ 4 0)) 7) - x1)))))))) : J g mX12_undo (d + 1) hs P 0 [(0, .ref m), (1, .int x1)] [] (mw h m μ) := by
  refine jr_aload_n 0 dX12_undo_0 rfl rfl ?_
  refine jr_iconst (v := 0) dX12_undo_1 (by decide) ?_
  refine jr_putE jp_X12_67 dX12_undo_2 mw_o (Nat.le_of_ble_eq_true rfl) rfl rfl (fun h1 e2 => ?_)
  replace e2 := e2.trans (mw_pI 4 ((0 : Int32)))
  subst e2
  refine jr_iload_n 1 dX12_undo_5 rfl rfl ?_
  refine jr_i2l dX12_undo_6 ?_
  refine jr_lconst (v := 1) dX12_undo_7 (by decide) ?_
  refine jr_ldc2 (v := 10) jk_X12_358 dX12_undo_8 ?_
  obtain ⟨r3z, C7, k⟩ := k
  refine jr_cSi (As := [.long x1.toInt64, .long 1, .long 10]) jl_X12_128 km_X12_within rfl rfl dX12_undo_11 (Nat.le_of_ble_eq_true rfl) (C7.pi (fun _ _ q => q) (fun E h' f => f.elim)) (fun r3 h4 q5 => ?_)
  obtain ⟨q5, q6⟩ := q5
  subst q6
  subst q5
  refine jr_if_eq (tgt := 28) dX12_undo_14 (by decide) (fun c14 => ?_) (fun c14 => ?_)
  · have k := k.1 c14
    exact jr_sub [0] rfl k
  · have k := k.2 c14
    refine jr_iload_n 1 dX12_undo_17 rfl rfl ?_
    refine jr_aload_n 0 dX12_undo_18 rfl rfl ?_
    refine jr_get jf_X12_9 dX12_undo_19 mw_o rfl ?_
    refine jr_bipush (v := 7) dX12_undo_22 (by decide) ?_
    refine jr_iald dX12_undo_24 mw_1 (vp_in_nI (n := 7) (by decide) (by decide)) ?_
    refine jr_icmp_le (tgt := 34) dX12_undo_25 (by decide) (fun c25 => ?_) (fun c25 => ?_)
    · have k := k.2 c25
      refine jr_aload_n 0 dX12_undo_34 rfl rfl ?_
      refine jr_get jf_X12_9 dX12_undo_35 mw_o rfl ?_
      refine jr_bipush (v := 7) dX12_undo_38 (by decide) ?_
      refine jr_dup2 dX12_undo_40 rfl rfl ?_
      refine jr_iald dX12_undo_41 mw_1 (vp_in_nI (n := 7) (by decide) (by decide)) ?_
      refine jr_iload_n 1 dX12_undo_42 rfl rfl ?_
      refine jr_isub dX12_undo_43 ?_
      refine jr_iastE dX12_undo_44 mw_1 (vp_in_nI (n := 7) (by decide) (by decide)) (fun h8 e9 => ?_)
      replace e9 : h8 = mw h m (mA ((mI μ 4 0)) 1 (upd (kn ((mI μ 4 0))) 7 (((kn ((mI μ 4 0)) 7) - x1)))) := e9.trans (mw_pA (by decide) (by decide) _)
      subst e9
      refine jr_iconst (v := 0) dX12_undo_45 (by decide) ?_
      refine jr_istore_n (lv' := [(2, .int 0), (0, .ref m), (1, .int x1)]) dX12_undo_46 rfl (by decide) rfl ?_
      exact jr_sub [1, 0] rfl k
    · have k := k.1 c25
      exact jr_sub [0] rfl k
set_option maxRecDepth 20000 in
theorem wX12_undo_28  (k : ∃ Q7 : Int32 → MW → Prop, Con g mX12_fails d [.ref m, .int 1] (mw h m μ) (wPi h m Q7) ∧ ∀ (r1 : Int32) (μ6 : MW), Q7 r1 μ6 → P (.inl (some (.int r1))) (mw h m μ6)) : J g mX12_undo (d + 1) hs P 28 [(0, .ref m)] [] (mw h m μ) := by
  refine jr_aload_n 0 dX12_undo_28 rfl rfl ?_
  refine jr_iconst (v := 1) dX12_undo_29 (by decide) ?_
  obtain ⟨Q7, C5, k⟩ := k
  refine jr_cVi (As := [.int 1]) jl_X12_234 km_X12_fails rfl rfl dX12_undo_30 mw_o (Nat.le_of_ble_eq_true rfl) (Con.pi C5 (fun _ _ q => q) (fun E h' f => f.elim)) (fun r1 h2 q3 => ?_)
  obtain ⟨μ6, q3, q4⟩ := q3
  subst q4
  have k := k r1 μ6 q3
  exact jr_iret (ty := .int) rfl rfl dX12_undo_33 k
set_option maxRecDepth 20000 in
theorem wX12_undo_47 {x2 : Int32} (k : (x2 < 44 → vp_in (((96 + (44 * (kn μ 7))) + x2)) 3240 ∧ vp_in ((8 + x2)) 3240 ∧ J g mX12_undo (d + 1) hs P 47 [(0, .ref m), (2, .int (x2 + 1))] [] (mw h m (mA μ 1 (upd (kn μ) (ix ((8 + x2))) ((kn μ (ix (((96 + (44 * (kn μ 7))) + x2))))))))) ∧ (¬ x2 < 44 → P (.inl (some (.int ((kn μ 7))))) (mw h m μ))) : J g mX12_undo (d + 1) hs P 47 [(0, .ref m), (2, .int x2)] [] (mw h m μ) := by
  refine jr_iload_n 1 dX12_undo_47 rfl rfl ?_
  refine jr_bipush (v := 44) dX12_undo_48 (by decide) ?_
  refine jr_icmp_ge (tgt := 88) dX12_undo_50 (by decide) (fun c50 => ?_) (fun c50 => ?_)
  · have k := k.2 c50
    refine jr_aload_n 0 dX12_undo_88 rfl rfl ?_
    refine jr_get jf_X12_9 dX12_undo_89 mw_o rfl ?_
    refine jr_bipush (v := 7) dX12_undo_92 (by decide) ?_
    refine jr_iald dX12_undo_94 mw_1 (vp_in_nI (n := 7) (by decide) (by decide)) ?_
    exact jr_iret (ty := .int) rfl rfl dX12_undo_95 k
  · have k := k.1 c50
    refine jr_aload_n 0 dX12_undo_53 rfl rfl ?_
    refine jr_get jf_X12_9 dX12_undo_54 mw_o rfl ?_
    refine jr_bipush (v := 8) dX12_undo_57 (by decide) ?_
    refine jr_iload_n 1 dX12_undo_59 rfl rfl ?_
    refine jr_iadd dX12_undo_60 ?_
    refine jr_aload_n 0 dX12_undo_61 rfl rfl ?_
    refine jr_get jf_X12_9 dX12_undo_62 mw_o rfl ?_
    refine jr_bipush (v := 96) dX12_undo_65 (by decide) ?_
    refine jr_bipush (v := 44) dX12_undo_67 (by decide) ?_
    refine jr_aload_n 0 dX12_undo_69 rfl rfl ?_
    refine jr_get jf_X12_9 dX12_undo_70 mw_o rfl ?_
    refine jr_bipush (v := 7) dX12_undo_73 (by decide) ?_
    refine jr_iald dX12_undo_75 mw_1 (vp_in_nI (n := 7) (by decide) (by decide)) ?_
    refine jr_imul dX12_undo_76 ?_
    refine jr_iadd dX12_undo_77 ?_
    refine jr_iload_n 1 dX12_undo_78 rfl rfl ?_
    refine jr_iadd dX12_undo_79 ?_
    obtain ⟨e1, k⟩ := k
    refine jr_iald dX12_undo_80 mw_1 e1 ?_
    obtain ⟨e4, k⟩ := k
    refine jr_iastE dX12_undo_81 mw_1 e4 (fun h2 e3 => ?_)
    replace e3 : h2 = mw h m (mA μ 1 (upd (kn μ) (ix ((8 + x2))) ((kn μ (ix (((96 + (44 * (kn μ 7))) + x2))))))) := e3.trans (mw_pA (by decide) (by decide) _)
    subst e3
    refine jr_iinc (v := (x2 + 1)) (lv' := [(2, .int (x2 + 1)), (0, .ref m)]) 1 dX12_undo_82 rfl rfl (by decide) rfl ?_
    refine jr_goto (tgt := 47) dX12_undo_85 (by decide) ?_
    exact jr_sub [1, 0] rfl k
set_option maxRecDepth 20000 in
theorem wX12_trayFault_0 {x1 : Int32} (k : ∃ r1 : Int32, Con g mX12_isTray d [.int x1] (mw h m μ) (jPi (fun r h' => r = r1 ∧ h' = (mw h m μ)) no2) ∧ (r1 = 0 → P (.inl (some (.int 1))) (mw h m μ)) ∧ (¬ r1 = 0 → vp_in x1 4 ∧ ((μ.2.1 15 (ix x1)) = (-1) → P (.inl (some (.int 2))) (mw h m μ)) ∧ (¬ (μ.2.1 15 (ix x1)) = (-1) → P (.inl (some (.int 0))) (mw h m μ)))) : J g mX12_trayFault (d + 1) hs P 0 [(0, .ref m), (1, .int x1)] [] (mw h m μ) := by
  refine jr_iload_n 1 dX12_trayFault_0 rfl rfl ?_
  obtain ⟨r1z, C5, k⟩ := k
  refine jr_cSi (As := [.int x1]) jl_X12_360 km_X12_isTray rfl rfl dX12_trayFault_1 (Nat.le_of_ble_eq_true rfl) (C5.pi (fun _ _ q => q) (fun E h' f => f.elim)) (fun r1 h2 q3 => ?_)
  obtain ⟨q3, q4⟩ := q3
  subst q4
  subst q3
  refine jr_if_ne (tgt := 11) dX12_trayFault_4 (by decide) (fun c4 => ?_) (fun c4 => ?_)
  · have k := k.2 c4
    refine jr_aload_n 0 dX12_trayFault_11 rfl rfl ?_
    refine jr_get jf_X12_57 dX12_trayFault_12 mw_o rfl ?_
    refine jr_iload_n 1 dX12_trayFault_15 rfl rfl ?_
    obtain ⟨e6, k⟩ := k
    refine jr_iald dX12_trayFault_16 mw_15 e6 ?_
    refine jr_iconst (v := (-1)) dX12_trayFault_17 (by decide) ?_
    refine jr_icmp_ne (tgt := 25) dX12_trayFault_18 (by decide) (fun c18 => ?_) (fun c18 => ?_)
    · have k := k.2 c18
      refine jr_iconst (v := 0) dX12_trayFault_25 (by decide) ?_
      exact jr_iret (ty := .int) rfl rfl dX12_trayFault_26 k
    · have k := k.1 c18
      refine jr_iconst (v := 2) dX12_trayFault_21 (by decide) ?_
      refine jr_goto (tgt := 26) dX12_trayFault_22 (by decide) ?_
      exact jr_iret (ty := .int) rfl rfl dX12_trayFault_26 k
  · have k := k.1 c4
    refine jr_iconst (v := 1) dX12_trayFault_7 (by decide) ?_
    refine jr_goto (tgt := 26) dX12_trayFault_8 (by decide) ?_
    exact jr_iret (ty := .int) rfl rfl dX12_trayFault_26 k
set_option maxRecDepth 20000 in
theorem wX12_whyTold_0 {x1 : Int64} (k : (x1 = (-1) → P (.inl (some (.int 0))) (mw h m μ)) ∧ (¬ x1 = (-1) → ∃ r1 : Int32, Con g mX12_within d [.long x1, .long 0, .long 99] (mw h m μ) (jPi (fun r h' => r = r1 ∧ h' = (mw h m μ)) no2) ∧ (r1 = 0 → ∃ r6 : Int32, Con g mX12_within d [.long x1, .long 100, .long 109] (mw h m μ) (jPi (fun r h' => r = r6 ∧ h' = (mw h m μ)) no2) ∧ (r6 = 0 → ∃ r11 : Int32, Con g mX12_within d [.long x1, .long 200, .long 209] (mw h m μ) (jPi (fun r h' => r = r11 ∧ h' = (mw h m μ)) no2) ∧ (r11 = 0 → ∃ r16 : Int32, Con g mX12_within d [.long x1, .long 300, .long 399] (mw h m μ) (jPi (fun r h' => r = r16 ∧ h' = (mw h m μ)) no2) ∧ (r16 = 0 → P (.inl (some (.int 1))) (mw h m μ)) ∧ (¬ r16 = 0 → ∃ r21 : Int32, Con g mX12_whyGift d [.ref m, .long ((x1 - 300) / 10), .long (x1 - x1 / 10 * 10), .long 10] (mw h m μ) (jPi (fun r h' => r = r21 ∧ h' = (mw h m μ)) no2) ∧ P (.inl (some (.int r21))) (mw h m μ))) ∧ (¬ r11 = 0 → ∃ r26 : Int32, Con g mX12_whyPay d [.ref m, .long (x1 - 200), .long 1] (mw h m μ) (jPi (fun r h' => r = r26 ∧ h' = (mw h m μ)) no2) ∧ P (.inl (some (.int r26))) (mw h m μ))) ∧ (¬ r6 = 0 → ∃ r31 : Int32, Con g mX12_isHouse d [.ref m, .long (x1 - 100)] (mw h m μ) (jPi (fun r h' => r = r31 ∧ h' = (mw h m μ)) no2) ∧ (r31 = 0 → P (.inl (some (.int 1))) (mw h m μ)) ∧ (¬ r31 = 0 → P (.inl (some (.int 0))) (mw h m μ)))) ∧ (¬ r1 = 0 → ∃ r36 : Int32, Con g mX12_whyTwo d [.ref m, .long (x1 / 10), .long (x1 - x1 / 10 * 10)] (mw h m μ) (jPi (fun r h' => r = r36 ∧ h' = (mw h m μ)) no2) ∧ P (.inl (some (.int r36))) (mw h m μ)))) : J g mX12_whyTold (d + 1) hs P 0 [(0, .ref m), (1, .long x1)] [] (mw h m μ) := by
  refine jr_lload_n 1 dX12_whyTold_0 rfl rfl ?_
  refine jr_ldc2 (v := (-1)) jk_X12_363 dX12_whyTold_1 ?_
  refine jr_lcmp_ne (tgt := 10) dX12_whyTold_4 dX12_whyTold_5 (by decide) (fun c4 => ?_) (fun c4 => ?_)
  · have k := k.2 c4
    refine jr_lload_n 1 dX12_whyTold_10 rfl rfl ?_
    refine jr_lconst (v := 0) dX12_whyTold_11 (by decide) ?_
    refine jr_ldc2 (v := 99) jk_X12_354 dX12_whyTold_12 ?_
    obtain ⟨r1z, C5, k⟩ := k
    refine jr_cSi (As := [.long x1, .long 0, .long 99]) jl_X12_128 km_X12_within rfl rfl dX12_whyTold_15 (Nat.le_of_ble_eq_true rfl) (C5.pi (fun _ _ q => q) (fun E h' f => f.elim)) (fun r1 h2 q3 => ?_)
    obtain ⟨q3, q4⟩ := q3
    subst q4
    subst q3
    refine jr_if_eq (tgt := 36) dX12_whyTold_18 (by decide) (fun c18 => ?_) (fun c18 => ?_)
    · have k := k.1 c18
      refine jr_lload_n 1 dX12_whyTold_36 rfl rfl ?_
      refine jr_ldc2 (v := 100) jk_X12_365 dX12_whyTold_37 ?_
      refine jr_ldc2 (v := 109) jk_X12_367 dX12_whyTold_40 ?_
      obtain ⟨r6z, C10, k⟩ := k
      refine jr_cSi (As := [.long x1, .long 100, .long 109]) jl_X12_128 km_X12_within rfl rfl dX12_whyTold_43 (Nat.le_of_ble_eq_true rfl) (C10.pi (fun _ _ q => q) (fun E h' f => f.elim)) (fun r6 h7 q8 => ?_)
      obtain ⟨q8, q9⟩ := q8
      subst q9
      subst q8
      refine jr_if_eq (tgt := 67) dX12_whyTold_46 (by decide) (fun c46 => ?_) (fun c46 => ?_)
      · have k := k.1 c46
        refine jr_lload_n 1 dX12_whyTold_67 rfl rfl ?_
        refine jr_ldc2 (v := 200) jk_X12_369 dX12_whyTold_68 ?_
        refine jr_ldc2 (v := 209) jk_X12_371 dX12_whyTold_71 ?_
        obtain ⟨r11z, C15, k⟩ := k
        refine jr_cSi (As := [.long x1, .long 200, .long 209]) jl_X12_128 km_X12_within rfl rfl dX12_whyTold_74 (Nat.le_of_ble_eq_true rfl) (C15.pi (fun _ _ q => q) (fun E h' f => f.elim)) (fun r11 h12 q13 => ?_)
        obtain ⟨q13, q14⟩ := q13
        subst q14
        subst q13
        refine jr_if_eq (tgt := 91) dX12_whyTold_77 (by decide) (fun c77 => ?_) (fun c77 => ?_)
        · have k := k.1 c77
          refine jr_lload_n 1 dX12_whyTold_91 rfl rfl ?_
          refine jr_ldc2 (v := 300) jk_X12_373 dX12_whyTold_92 ?_
          refine jr_ldc2 (v := 399) jk_X12_375 dX12_whyTold_95 ?_
          obtain ⟨r16z, C20, k⟩ := k
          refine jr_cSi (As := [.long x1, .long 300, .long 399]) jl_X12_128 km_X12_within rfl rfl dX12_whyTold_98 (Nat.le_of_ble_eq_true rfl) (C20.pi (fun _ _ q => q) (fun E h' f => f.elim)) (fun r16 h17 q18 => ?_)
          obtain ⟨q18, q19⟩ := q18
          subst q19
          subst q18
          refine jr_if_eq (tgt := 128) dX12_whyTold_101 (by decide) (fun c101 => ?_) (fun c101 => ?_)
          · have k := k.1 c101
            refine jr_iconst (v := 1) dX12_whyTold_128 (by decide) ?_
            exact jr_iret (ty := .int) rfl rfl dX12_whyTold_129 k
          · have k := k.2 c101
            refine jr_aload_n 0 dX12_whyTold_104 rfl rfl ?_
            refine jr_lload_n 1 dX12_whyTold_105 rfl rfl ?_
            refine jr_ldc2 (v := 300) jk_X12_373 dX12_whyTold_106 ?_
            refine jr_lsub dX12_whyTold_109 ?_
            refine jr_ldc2 (v := 10) jk_X12_358 dX12_whyTold_110 ?_
            refine jr_ldiv dX12_whyTold_113 (by decide) ?_
            refine jr_lload_n 1 dX12_whyTold_114 rfl rfl ?_
            refine jr_ldc2 (v := 10) jk_X12_358 dX12_whyTold_115 ?_
            refine jr_lrem dX12_whyTold_118 (by decide) ?_
            refine jr_ldc2 (v := 10) jk_X12_358 dX12_whyTold_119 ?_
            obtain ⟨r21z, C25, k⟩ := k
            refine jr_cVi (As := [.long ((x1 - 300) / 10), .long (x1 - x1 / 10 * 10), .long 10]) jl_X12_338 km_X12_whyGift rfl rfl dX12_whyTold_122 mw_o (Nat.le_of_ble_eq_true rfl) (C25.pi (fun _ _ q => q) (fun E h' f => f.elim)) (fun r21 h22 q23 => ?_)
            obtain ⟨q23, q24⟩ := q23
            subst q24
            subst q23
            refine jr_goto (tgt := 129) dX12_whyTold_125 (by decide) ?_
            exact jr_iret (ty := .int) rfl rfl dX12_whyTold_129 k
        · have k := k.2 c77
          refine jr_aload_n 0 dX12_whyTold_80 rfl rfl ?_
          refine jr_lload_n 1 dX12_whyTold_81 rfl rfl ?_
          refine jr_ldc2 (v := 200) jk_X12_369 dX12_whyTold_82 ?_
          refine jr_lsub dX12_whyTold_85 ?_
          refine jr_lconst (v := 1) dX12_whyTold_86 (by decide) ?_
          obtain ⟨r26z, C30, k⟩ := k
          refine jr_cVi (As := [.long (x1 - 200), .long 1]) jl_X12_348 km_X12_whyPay rfl rfl dX12_whyTold_87 mw_o (Nat.le_of_ble_eq_true rfl) (C30.pi (fun _ _ q => q) (fun E h' f => f.elim)) (fun r26 h27 q28 => ?_)
          obtain ⟨q28, q29⟩ := q28
          subst q29
          subst q28
          exact jr_iret (ty := .int) rfl rfl dX12_whyTold_90 k
      · have k := k.2 c46
        refine jr_aload_n 0 dX12_whyTold_49 rfl rfl ?_
        refine jr_lload_n 1 dX12_whyTold_50 rfl rfl ?_
        refine jr_ldc2 (v := 100) jk_X12_365 dX12_whyTold_51 ?_
        refine jr_lsub dX12_whyTold_54 ?_
        obtain ⟨r31z, C35, k⟩ := k
        refine jr_cVi (As := [.long (x1 - 100)]) jl_X12_313 km_X12_isHouse rfl rfl dX12_whyTold_55 mw_o (Nat.le_of_ble_eq_true rfl) (C35.pi (fun _ _ q => q) (fun E h' f => f.elim)) (fun r31 h32 q33 => ?_)
        obtain ⟨q33, q34⟩ := q33
        subst q34
        subst q33
        refine jr_if_eq (tgt := 65) dX12_whyTold_58 (by decide) (fun c58 => ?_) (fun c58 => ?_)
        · have k := k.1 c58
          refine jr_iconst (v := 1) dX12_whyTold_65 (by decide) ?_
          exact jr_iret (ty := .int) rfl rfl dX12_whyTold_66 k
        · have k := k.2 c58
          refine jr_iconst (v := 0) dX12_whyTold_61 (by decide) ?_
          refine jr_goto (tgt := 66) dX12_whyTold_62 (by decide) ?_
          exact jr_iret (ty := .int) rfl rfl dX12_whyTold_66 k
    · have k := k.2 c18
      refine jr_aload_n 0 dX12_whyTold_21 rfl rfl ?_
      refine jr_lload_n 1 dX12_whyTold_22 rfl rfl ?_
      refine jr_ldc2 (v := 10) jk_X12_358 dX12_whyTold_23 ?_
      refine jr_ldiv dX12_whyTold_26 (by decide) ?_
      refine jr_lload_n 1 dX12_whyTold_27 rfl rfl ?_
      refine jr_ldc2 (v := 10) jk_X12_358 dX12_whyTold_28 ?_
      refine jr_lrem dX12_whyTold_31 (by decide) ?_
      obtain ⟨r36z, C40, k⟩ := k
      refine jr_cVi (As := [.long (x1 / 10), .long (x1 - x1 / 10 * 10)]) jl_X12_323 km_X12_whyTwo rfl rfl dX12_whyTold_32 mw_o (Nat.le_of_ble_eq_true rfl) (C40.pi (fun _ _ q => q) (fun E h' f => f.elim)) (fun r36 h37 q38 => ?_)
      obtain ⟨q38, q39⟩ := q38
      subst q39
      subst q38
      exact jr_iret (ty := .int) rfl rfl dX12_whyTold_35 k
  · have k := k.1 c4
    refine jr_iconst (v := 0) dX12_whyTold_8 (by decide) ?_
    exact jr_iret (ty := .int) rfl rfl dX12_whyTold_9 k
set_option maxRecDepth 20000 in
theorem wX12_does_0 {x1 : Int32} (k : (x1 = (-1) → ∃ Q31 : MW → Prop, Con g mX12_quarter d [.ref m] (mw h m μ) (wPv h m Q31) ∧ ∀ μ30 : MW, Q31 μ30 → P (.inl none) (mw h m μ30)) ∧ (¬ x1 = (-1) → (x1 < 100 → ∃ Q24 : MW → Prop, Con g mX12_swaps d [.ref m, .int (x1 / 10), .int (x1 - x1 / 10 * 10)] (mw h m μ) (wPv h m Q24) ∧ ∀ μ23 : MW, Q24 μ23 → P (.inl none) (mw h m μ23)) ∧ (¬ x1 < 100 → (x1 < 200 → vp_in (((43 + x1) - 100)) 3240 ∧ P (.inl none) (mw h m (mA μ 1 (upd (kn μ) (ix (((43 + x1) - 100))) 4)))) ∧ (¬ x1 < 200 → (x1 < 300 → ∃ Q14 : Int32 → MW → Prop, Con g mX12_paysOff d [.ref m, .int (x1 - 200), .int 999999] (mw h m μ) (wPi h m Q14) ∧ ∀ (r8 : Int32) (μ13 : MW), Q14 r8 μ13 → P (.inl none) (mw h m μ13)) ∧ (¬ x1 < 300 → ∃ Q7 : MW → Prop, Con g mX12_gives d [.ref m, .int ((x1 - 300) / 10), .int (x1 - x1 / 10 * 10), .int 10] (mw h m μ) (wPv h m Q7) ∧ ∀ μ6 : MW, Q7 μ6 → P (.inl none) (mw h m μ6)))))) : J g mX12_does (d + 1) hs P 0 [(0, .ref m), (1, .int x1)] [] (mw h m μ) := by
  refine jr_iload_n 1 dX12_does_0 rfl rfl ?_
  refine jr_iconst (v := (-1)) dX12_does_1 (by decide) ?_
  refine jr_icmp_ne (tgt := 12) dX12_does_2 (by decide) (fun c2 => ?_) (fun c2 => ?_)
  · have k := k.2 c2
    refine jr_iload_n 1 dX12_does_12 rfl rfl ?_
    refine jr_bipush (v := 100) dX12_does_13 (by decide) ?_
    refine jr_icmp_ge (tgt := 33) dX12_does_15 (by decide) (fun c15 => ?_) (fun c15 => ?_)
    · have k := k.2 c15
      refine jr_iload_n 1 dX12_does_33 rfl rfl ?_
      refine jr_sipush (v := 200) dX12_does_34 (by decide) ?_
      refine jr_icmp_ge (tgt := 56) dX12_does_37 (by decide) (fun c37 => ?_) (fun c37 => ?_)
      · have k := k.2 c37
        refine jr_iload_n 1 dX12_does_56 rfl rfl ?_
        refine jr_sipush (v := 300) dX12_does_57 (by decide) ?_
        refine jr_icmp_ge (tgt := 79) dX12_does_60 (by decide) (fun c60 => ?_) (fun c60 => ?_)
        · have k := k.2 c60
          refine jr_aload_n 0 dX12_does_79 rfl rfl ?_
          refine jr_iload_n 1 dX12_does_80 rfl rfl ?_
          refine jr_sipush (v := 300) dX12_does_81 (by decide) ?_
          refine jr_isub dX12_does_84 ?_
          refine jr_bipush (v := 10) dX12_does_85 (by decide) ?_
          refine jr_idiv dX12_does_87 (by decide) ?_
          refine jr_iload_n 1 dX12_does_88 rfl rfl ?_
          refine jr_bipush (v := 10) dX12_does_89 (by decide) ?_
          refine jr_irem dX12_does_91 (by decide) ?_
          refine jr_bipush (v := 10) dX12_does_92 (by decide) ?_
          obtain ⟨Q7, C5, k⟩ := k
          refine jr_cVv (As := [.int ((x1 - 300) / 10), .int (x1 - x1 / 10 * 10), .int 10]) jl_X12_342 km_X12_gives rfl rfl dX12_does_94 mw_o (Nat.le_of_ble_eq_true rfl) (Con.pv C5 (fun _ q => q) (fun E h' f => f.elim)) (fun h2 q3 => ?_)
          obtain ⟨μ6, q3, q4⟩ := q3
          subst q4
          have k := k μ6 q3
          exact jr_vret rfl dX12_does_97 k
        · have k := k.1 c60
          refine jr_aload_n 0 dX12_does_63 rfl rfl ?_
          refine jr_iload_n 1 dX12_does_64 rfl rfl ?_
          refine jr_sipush (v := 200) dX12_does_65 (by decide) ?_
          refine jr_isub dX12_does_68 ?_
          refine jr_ldcw (v := 999999) jk_X12_278 dX12_does_69 ?_
          obtain ⟨Q14, C12, k⟩ := k
          refine jr_cVi (As := [.int (x1 - 200), .int 999999]) jl_X12_351 km_X12_paysOff rfl rfl dX12_does_72 mw_o (Nat.le_of_ble_eq_true rfl) (Con.pi C12 (fun _ _ q => q) (fun E h' f => f.elim)) (fun r8 h9 q10 => ?_)
          obtain ⟨μ13, q10, q11⟩ := q10
          subst q11
          have k := k r8 μ13 q10
          refine jr_pop dX12_does_75 rfl ?_
          refine jr_goto (tgt := 97) dX12_does_76 (by decide) ?_
          exact jr_vret rfl dX12_does_97 k
      · have k := k.1 c37
        refine jr_aload_n 0 dX12_does_40 rfl rfl ?_
        refine jr_get jf_X12_9 dX12_does_41 mw_o rfl ?_
        refine jr_bipush (v := 43) dX12_does_44 (by decide) ?_
        refine jr_iload_n 1 dX12_does_46 rfl rfl ?_
        refine jr_iadd dX12_does_47 ?_
        refine jr_bipush (v := 100) dX12_does_48 (by decide) ?_
        refine jr_isub dX12_does_50 ?_
        refine jr_iconst (v := 4) dX12_does_51 (by decide) ?_
        obtain ⟨e17, k⟩ := k
        refine jr_iastE dX12_does_52 mw_1 e17 (fun h15 e16 => ?_)
        replace e16 : h15 = mw h m (mA μ 1 (upd (kn μ) (ix (((43 + x1) - 100))) 4)) := e16.trans (mw_pA (by decide) (by decide) _)
        subst e16
        refine jr_goto (tgt := 97) dX12_does_53 (by decide) ?_
        exact jr_vret rfl dX12_does_97 k
    · have k := k.1 c15
      refine jr_aload_n 0 dX12_does_18 rfl rfl ?_
      refine jr_iload_n 1 dX12_does_19 rfl rfl ?_
      refine jr_bipush (v := 10) dX12_does_20 (by decide) ?_
      refine jr_idiv dX12_does_22 (by decide) ?_
      refine jr_iload_n 1 dX12_does_23 rfl rfl ?_
      refine jr_bipush (v := 10) dX12_does_24 (by decide) ?_
      refine jr_irem dX12_does_26 (by decide) ?_
      obtain ⟨Q24, C22, k⟩ := k
      refine jr_cVv (As := [.int (x1 / 10), .int (x1 - x1 / 10 * 10)]) jl_X12_335 km_X12_swaps rfl rfl dX12_does_27 mw_o (Nat.le_of_ble_eq_true rfl) (Con.pv C22 (fun _ q => q) (fun E h' f => f.elim)) (fun h19 q20 => ?_)
      obtain ⟨μ23, q20, q21⟩ := q20
      subst q21
      have k := k μ23 q20
      refine jr_goto (tgt := 97) dX12_does_30 (by decide) ?_
      exact jr_vret rfl dX12_does_97 k
  · have k := k.1 c2
    refine jr_aload_n 0 dX12_does_5 rfl rfl ?_
    obtain ⟨Q31, C29, k⟩ := k
    refine jr_cVv (As := []) jl_X12_356 km_X12_quarter rfl rfl dX12_does_6 mw_o (Nat.le_of_ble_eq_true rfl) (Con.pv C29 (fun _ q => q) (fun E h' f => f.elim)) (fun h26 q27 => ?_)
    obtain ⟨μ30, q27, q28⟩ := q27
    subst q28
    have k := k μ30 q27
    refine jr_goto (tgt := 97) dX12_does_9 (by decide) ?_
    exact jr_vret rfl dX12_does_97 k
set_option maxRecDepth 20000 in
theorem wX12_sumOf_0 {x1 : Int32} (k : J g mX12_sumOf (d + 1) hs P 4 [(0, .ref m), (1, .int x1), (2, .int 0), (3, .int 0)] [] (mw h m μ)) : J g mX12_sumOf (d + 1) hs P 0 [(0, .ref m), (1, .int x1)] [] (mw h m μ) := by
  refine jr_iconst (v := 0) dX12_sumOf_0 (by decide) ?_
  refine jr_istore_n (lv' := [(2, .int 0), (0, .ref m), (1, .int x1)]) dX12_sumOf_1 rfl (by decide) rfl ?_
  refine jr_iconst (v := 0) dX12_sumOf_2 (by decide) ?_
  refine jr_istore_n (lv' := [(3, .int 0), (2, .int 0), (0, .ref m), (1, .int x1)]) dX12_sumOf_3 rfl (by decide) rfl ?_
  exact jr_sub [2, 3, 1, 0] rfl k
set_option maxRecDepth 20000 in
theorem wX12_sumOf_4 {x1 : Int32} {x2 : Int32} {x3 : Int32} (k : ∃ r1 : Int32, Con g mX12_houses d [.ref m] (mw h m μ) (jPi (fun r h' => r = r1 ∧ h' = (mw h m μ)) no2) ∧ (x3 < r1 → vp_in ((x1 + x3)) 3240 ∧ J g mX12_sumOf (d + 1) hs P 4 [(0, .ref m), (1, .int x1), (2, .int (x2 + (kn μ (ix ((x1 + x3)))))), (3, .int (x3 + 1))] [] (mw h m μ)) ∧ (¬ x3 < r1 → P (.inl (some (.int x2))) (mw h m μ))) : J g mX12_sumOf (d + 1) hs P 4 [(0, .ref m), (1, .int x1), (2, .int x2), (3, .int x3)] [] (mw h m μ) := by
  refine jr_iload_n 3 dX12_sumOf_4 rfl rfl ?_
  refine jr_aload_n 0 dX12_sumOf_5 rfl rfl ?_
  obtain ⟨r1z, C5, k⟩ := k
  refine jr_cVi (As := []) jl_X12_249 km_X12_houses rfl rfl dX12_sumOf_6 mw_o (Nat.le_of_ble_eq_true rfl) (C5.pi (fun _ _ q => q) (fun E h' f => f.elim)) (fun r1 h2 q3 => ?_)
  obtain ⟨q3, q4⟩ := q3
  subst q4
  subst q3
  refine jr_icmp_ge (tgt := 29) dX12_sumOf_9 (by decide) (fun c9 => ?_) (fun c9 => ?_)
  · have k := k.2 c9
    refine jr_iload_n 2 dX12_sumOf_29 rfl rfl ?_
    exact jr_iret (ty := .int) rfl rfl dX12_sumOf_30 k
  · have k := k.1 c9
    refine jr_iload_n 2 dX12_sumOf_12 rfl rfl ?_
    refine jr_aload_n 0 dX12_sumOf_13 rfl rfl ?_
    refine jr_get jf_X12_9 dX12_sumOf_14 mw_o rfl ?_
    refine jr_iload_n 1 dX12_sumOf_17 rfl rfl ?_
    refine jr_iload_n 3 dX12_sumOf_18 rfl rfl ?_
    refine jr_iadd dX12_sumOf_19 ?_
    obtain ⟨e6, k⟩ := k
    refine jr_iald dX12_sumOf_20 mw_1 e6 ?_
    refine jr_iadd dX12_sumOf_21 ?_
    refine jr_istore_n (lv' := [(2, .int (x2 + (kn μ (ix ((x1 + x3)))))), (0, .ref m), (1, .int x1), (3, .int x3)]) dX12_sumOf_22 rfl (by decide) rfl ?_
    refine jr_iinc (v := (x3 + 1)) (lv' := [(3, .int (x3 + 1)), (2, .int (x2 + (kn μ (ix ((x1 + x3)))))), (0, .ref m), (1, .int x1)]) 3 dX12_sumOf_23 rfl rfl (by decide) rfl ?_
    refine jr_goto (tgt := 4) dX12_sumOf_26 (by decide) ?_
    exact jr_sub [2, 3, 1, 0] rfl k
set_option maxRecDepth 20000 in
theorem wX12_judge_0 {x1 : Int32} {x2 : Int32} (k : ∃ r1 : Int32, Con g mX12_trayFault d [.ref m, .int x1] (mw h m μ) (jPi (fun r h' => r = r1 ∧ h' = (mw h m μ)) no2) ∧ ((((mI μ 4 r1)).1 4) = 0 → ∃ r8 : Int32, Con g mX12_within d [.long x2.toInt64, .long 0, .long 3] (mw h m (mI μ 4 r1)) (jPi (fun r h' => r = r8 ∧ h' = (mw h m (mI μ 4 r1))) no2) ∧ (r8 = 0 → J g mX12_judge (d + 1) hs P 33 [(0, .ref m), (1, .int x1), (2, .int x2)] [] (mw h m (mI ((mI μ 4 r1)) 4 3))) ∧ (¬ r8 = 0 → J g mX12_judge (d + 1) hs P 33 [(0, .ref m), (1, .int x1), (2, .int x2)] [] (mw h m (mI μ 4 r1)))) ∧ (¬ (((mI μ 4 r1)).1 4) = 0 → J g mX12_judge (d + 1) hs P 33 [(0, .ref m), (1, .int x1), (2, .int x2)] [] (mw h m (mI μ 4 r1)))) : J g mX12_judge (d + 1) hs P 0 [(0, .ref m), (1, .int x1), (2, .int x2)] [] (mw h m μ) := by
  refine jr_aload_n 0 dX12_judge_0 rfl rfl ?_
  refine jr_aload_n 0 dX12_judge_1 rfl rfl ?_
  refine jr_iload_n 1 dX12_judge_2 rfl rfl ?_
  obtain ⟨r1z, C5, k⟩ := k
  refine jr_cVi (As := [.int x1]) jl_X12_377 km_X12_trayFault rfl rfl dX12_judge_3 mw_o (Nat.le_of_ble_eq_true rfl) (C5.pi (fun _ _ q => q) (fun E h' f => f.elim)) (fun r1 h2 q3 => ?_)
  obtain ⟨q3, q4⟩ := q3
  subst q4
  subst q3
  refine jr_putE jp_X12_67 dX12_judge_6 mw_o (Nat.le_of_ble_eq_true rfl) rfl rfl (fun h6 e7 => ?_)
  replace e7 := e7.trans (mw_pI 4 r1)
  subst e7
  refine jr_aload_n 0 dX12_judge_9 rfl rfl ?_
  refine jr_get jf_X12_67 dX12_judge_10 mw_o rfl ?_
  refine jr_if_ne (tgt := 33) dX12_judge_13 (by decide) (fun c13 => ?_) (fun c13 => ?_)
  · have k := k.2 c13
    exact jr_sub [0, 1, 2] rfl k
  · have k := k.1 c13
    refine jr_iload_n 2 dX12_judge_16 rfl rfl ?_
    refine jr_i2l dX12_judge_17 ?_
    refine jr_lconst (v := 0) dX12_judge_18 (by decide) ?_
    refine jr_ldc2 (v := 3) jk_X12_319 dX12_judge_19 ?_
    obtain ⟨r8z, C12, k⟩ := k
    refine jr_cSi (As := [.long x2.toInt64, .long 0, .long 3]) jl_X12_128 km_X12_within rfl rfl dX12_judge_22 (Nat.le_of_ble_eq_true rfl) (C12.pi (fun _ _ q => q) (fun E h' f => f.elim)) (fun r8 h9 q10 => ?_)
    obtain ⟨q10, q11⟩ := q10
    subst q11
    subst q10
    refine jr_if_ne (tgt := 33) dX12_judge_25 (by decide) (fun c25 => ?_) (fun c25 => ?_)
    · have k := k.2 c25
      exact jr_sub [0, 1, 2] rfl k
    · have k := k.1 c25
      refine jr_aload_n 0 dX12_judge_28 rfl rfl ?_
      refine jr_iconst (v := 3) dX12_judge_29 (by decide) ?_
      refine jr_putE jp_X12_67 dX12_judge_30 mw_o (Nat.le_of_ble_eq_true rfl) rfl rfl (fun h13 e14 => ?_)
      replace e14 := e14.trans (mw_pI 4 ((3 : Int32)))
      subst e14
      exact jr_sub [0, 1, 2] rfl k
set_option maxRecDepth 20000 in
theorem wX12_judge_33 {x1 : Int32} {x2 : Int32} (k : (0 < (μ.1 4) → P (.inl (some (.int 0))) (mw h m μ)) ∧ (¬ 0 < (μ.1 4) → ∃ Q7 : MW → Prop, Con g mX12_putsAside d [.ref m] (mw h m μ) (wPv h m Q7) ∧ ∀ μ6 : MW, Q7 μ6 → J g mX12_judge (d + 1) hs P 54 [(0, .ref m), (1, .int x1), (2, .int x2), (3, .int (-1)), (4, .int 0), (5, .int 0)] [] (mw h m μ6))) : J g mX12_judge (d + 1) hs P 33 [(0, .ref m), (1, .int x1), (2, .int x2)] [] (mw h m μ) := by
  refine jr_aload_n 0 dX12_judge_33 rfl rfl ?_
  refine jr_get jf_X12_67 dX12_judge_34 mw_o rfl ?_
  refine jr_if_le (tgt := 42) dX12_judge_37 (by decide) (fun c37 => ?_) (fun c37 => ?_)
  · have k := k.2 c37
    refine jr_aload_n 0 dX12_judge_42 rfl rfl ?_
    obtain ⟨Q7, C5, k⟩ := k
    refine jr_cVv (As := []) jl_X12_380 km_X12_putsAside rfl rfl dX12_judge_43 mw_o (Nat.le_of_ble_eq_true rfl) (Con.pv C5 (fun _ q => q) (fun E h' f => f.elim)) (fun h2 q3 => ?_)
    obtain ⟨μ6, q3, q4⟩ := q3
    subst q4
    have k := k μ6 q3
    refine jr_iconst (v := (-1)) dX12_judge_46 (by decide) ?_
    refine jr_istore_n (lv' := [(3, .int (-1)), (0, .ref m), (1, .int x1), (2, .int x2)]) dX12_judge_47 rfl (by decide) rfl ?_
    refine jr_iconst (v := 0) dX12_judge_48 (by decide) ?_
    refine jr_istore (lv' := [(4, .int 0), (3, .int (-1)), (0, .ref m), (1, .int x1), (2, .int x2)]) dX12_judge_49 (by decide) rfl ?_
    refine jr_iconst (v := 0) dX12_judge_51 (by decide) ?_
    refine jr_istore (lv' := [(5, .int 0), (4, .int 0), (3, .int (-1)), (0, .ref m), (1, .int x1), (2, .int x2)]) dX12_judge_52 (by decide) rfl ?_
    exact jr_sub [3, 4, 5, 2, 1, 0] rfl k
  · have k := k.1 c37
    refine jr_iconst (v := 0) dX12_judge_40 (by decide) ?_
    exact jr_iret (ty := .int) rfl rfl dX12_judge_41 k
set_option maxRecDepth 20000 in
theorem wX12_judge_54 {x1 : Int32} {x2 : Int32} {x3 : Int32} {x4 : Int32} {x5 : Int32} (k : vp_in x1 4 ∧ (x5 < (μ.2.1 16 (ix x1)) → (x3 = (-1) → vp_in (((30 * x1) + x5)) 120 ∧ ∃ r3 : Int32, Con g mX12_whyTold d [.ref m, .long (μ.2.2 (ix (((30 * x1) + x5))))] (mw h m μ) (jPi (fun r h' => r = r3 ∧ h' = (mw h m μ)) no2) ∧ (r3 = 0 → vp_in (((30 * x1) + x5)) 120 ∧ ∃ Q15 : MW → Prop, Con g mX12_does d [.ref m, .int ((μ.2.2 (ix (((30 * x1) + x5))))).toInt32] (mw h m μ) (wPv h m Q15) ∧ ∀ μ14 : MW, Q15 μ14 → J g mX12_judge (d + 1) hs P 54 [(0, .ref m), (1, .int x1), (2, .int x2), (3, .int x3), (4, .int r3), (5, .int (x5 + 1))] [] (mw h m μ14)) ∧ (¬ r3 = 0 → J g mX12_judge (d + 1) hs P 54 [(0, .ref m), (1, .int x1), (2, .int x2), (3, .int x5), (4, .int r3), (5, .int (x5 + 1))] [] (mw h m μ))) ∧ (¬ x3 = (-1) → J g mX12_judge (d + 1) hs P 122 [(0, .ref m), (2, .int x2), (3, .int x3), (4, .int x4)] [] (mw h m μ))) ∧ (¬ x5 < (μ.2.1 16 (ix x1)) → J g mX12_judge (d + 1) hs P 122 [(0, .ref m), (2, .int x2), (3, .int x3), (4, .int x4)] [] (mw h m μ))) : J g mX12_judge (d + 1) hs P 54 [(0, .ref m), (1, .int x1), (2, .int x2), (3, .int x3), (4, .int x4), (5, .int x5)] [] (mw h m μ) := by
  refine jr_iload 5 dX12_judge_54 rfl ?_
  refine jr_aload_n 0 dX12_judge_56 rfl rfl ?_
  refine jr_get jf_X12_60 dX12_judge_57 mw_o rfl ?_
  refine jr_iload_n 1 dX12_judge_60 rfl rfl ?_
  obtain ⟨e1, k⟩ := k
  refine jr_iald dX12_judge_61 mw_16 e1 ?_
  refine jr_icmp_ge (tgt := 122) dX12_judge_62 (by decide) (fun c62 => ?_) (fun c62 => ?_)
  · have k := k.2 c62
    exact jr_sub [0, 2, 3, 4] rfl k
  · have k := k.1 c62
    refine jr_iload_n 3 dX12_judge_65 rfl rfl ?_
    refine jr_iconst (v := (-1)) dX12_judge_66 (by decide) ?_
    refine jr_icmp_ne (tgt := 122) dX12_judge_67 (by decide) (fun c67 => ?_) (fun c67 => ?_)
    · have k := k.2 c67
      exact jr_sub [0, 2, 3, 4] rfl k
    · have k := k.1 c67
      refine jr_aload_n 0 dX12_judge_70 rfl rfl ?_
      refine jr_aload_n 0 dX12_judge_71 rfl rfl ?_
      refine jr_get jf_X12_63 dX12_judge_72 mw_o rfl ?_
      refine jr_bipush (v := 30) dX12_judge_75 (by decide) ?_
      refine jr_iload_n 1 dX12_judge_77 rfl rfl ?_
      refine jr_imul dX12_judge_78 ?_
      refine jr_iload 5 dX12_judge_79 rfl ?_
      refine jr_iadd dX12_judge_81 ?_
      obtain ⟨e2, k⟩ := k
      refine jr_lald dX12_judge_82 mw_17 e2 ?_
      obtain ⟨r3z, C7, k⟩ := k
      refine jr_cVi (As := [.long (μ.2.2 (ix (((30 * x1) + x5))))]) jl_X12_383 km_X12_whyTold rfl rfl dX12_judge_83 mw_o (Nat.le_of_ble_eq_true rfl) (C7.pi (fun _ _ q => q) (fun E h' f => f.elim)) (fun r3 h4 q5 => ?_)
      obtain ⟨q5, q6⟩ := q5
      subst q6
      subst q5
      refine jr_istore (lv' := [(4, .int r3), (0, .ref m), (1, .int x1), (2, .int x2), (3, .int x3), (5, .int x5)]) dX12_judge_86 (by decide) rfl ?_
      refine jr_iload 0 dX12_judge_88 rfl ?_
      refine jr_if_ne (tgt := 113) dX12_judge_90 (by decide) (fun c90 => ?_) (fun c90 => ?_)
      · have k := k.2 c90
        refine jr_iload 5 dX12_judge_113 rfl ?_
        refine jr_istore_n (lv' := [(3, .int x5), (4, .int r3), (0, .ref m), (1, .int x1), (2, .int x2), (5, .int x5)]) dX12_judge_115 rfl (by decide) rfl ?_
        refine jr_iinc (v := (x5 + 1)) (lv' := [(5, .int (x5 + 1)), (3, .int x5), (4, .int r3), (0, .ref m), (1, .int x1), (2, .int x2)]) 5 dX12_judge_116 rfl rfl (by decide) rfl ?_
        refine jr_goto (tgt := 54) dX12_judge_119 (by decide) ?_
        exact jr_sub [3, 4, 5, 1, 2, 0] rfl k
      · have k := k.1 c90
        refine jr_aload_n 1 dX12_judge_93 rfl rfl ?_
        refine jr_aload_n 1 dX12_judge_94 rfl rfl ?_
        refine jr_get jf_X12_63 dX12_judge_95 mw_o rfl ?_
        refine jr_bipush (v := 30) dX12_judge_98 (by decide) ?_
        refine jr_iload_n 2 dX12_judge_100 rfl rfl ?_
        refine jr_imul dX12_judge_101 ?_
        refine jr_iload 5 dX12_judge_102 rfl ?_
        refine jr_iadd dX12_judge_104 ?_
        obtain ⟨e8, k⟩ := k
        refine jr_lald dX12_judge_105 mw_17 e8 ?_
        refine jr_l2i dX12_judge_106 ?_
        obtain ⟨Q15, C13, k⟩ := k
        refine jr_cVv (As := [.int ((μ.2.2 (ix (((30 * x1) + x5))))).toInt32]) jl_X12_386 km_X12_does rfl rfl dX12_judge_107 mw_o (Nat.le_of_ble_eq_true rfl) (Con.pv C13 (fun _ q => q) (fun E h' f => f.elim)) (fun h10 q11 => ?_)
        obtain ⟨μ14, q11, q12⟩ := q11
        subst q12
        have k := k μ14 q11
        refine jr_goto (tgt := 116) dX12_judge_110 (by decide) ?_
        refine jr_iinc (v := (x5 + 1)) (lv' := [(5, .int (x5 + 1)), (4, .int r3), (0, .ref m), (1, .int x1), (2, .int x2), (3, .int x3)]) 5 dX12_judge_116 rfl rfl (by decide) rfl ?_
        refine jr_goto (tgt := 54) dX12_judge_119 (by decide) ?_
        exact jr_sub [2, 3, 4, 5, 1, 0] rfl k
set_option maxRecDepth 20000 in
theorem wX12_judge_122 {x2 : Int32} {x3 : Int32} {x4 : Int32} (k : ∃ r1 : Int32, Con g mX12_sumOf d [.ref m, .int 36] (mw h m μ) (jPi (fun r h' => r = r1 ∧ h' = (mw h m μ)) no2) ∧ ∃ Q12 : MW → Prop, Con g mX12_putsBack d [.ref m] (mw h m μ) (wPv h m Q12) ∧ ∀ μ11 : MW, Q12 μ11 → (x2 = 0 → P (.inl (some (.int x3))) (mw h m μ11)) ∧ (¬ x2 = 0 → (x2 = 1 → P (.inl (some (.int x4))) (mw h m μ11)) ∧ (¬ x2 = 1 → (x2 = 2 → P (.inl (some (.int r1))) (mw h m μ11)) ∧ (¬ x2 = 2 → P (.inl (some (.int ((kn μ 51))))) (mw h m μ11))))) : J g mX12_judge (d + 1) hs P 122 [(0, .ref m), (2, .int x2), (3, .int x3), (4, .int x4)] [] (mw h m μ) := by
  refine jr_aload_n 0 dX12_judge_122 rfl rfl ?_
  refine jr_bipush (v := 36) dX12_judge_123 (by decide) ?_
  obtain ⟨r1z, C5, k⟩ := k
  refine jr_cVi (As := [.int 36]) jl_X12_389 km_X12_sumOf rfl rfl dX12_judge_125 mw_o (Nat.le_of_ble_eq_true rfl) (C5.pi (fun _ _ q => q) (fun E h' f => f.elim)) (fun r1 h2 q3 => ?_)
  obtain ⟨q3, q4⟩ := q3
  subst q4
  subst q3
  refine jr_istore (lv' := [(5, .int r1), (0, .ref m), (2, .int x2), (3, .int x3), (4, .int x4)]) dX12_judge_128 (by decide) rfl ?_
  refine jr_aload_n 1 dX12_judge_130 rfl rfl ?_
  refine jr_get jf_X12_9 dX12_judge_131 mw_o rfl ?_
  refine jr_bipush (v := 51) dX12_judge_134 (by decide) ?_
  refine jr_iald dX12_judge_136 mw_1 (vp_in_nI (n := 51) (by decide) (by decide)) ?_
  refine jr_istore (lv' := [(6, .int (kn μ 51)), (5, .int r1), (0, .ref m), (2, .int x2), (3, .int x3), (4, .int x4)]) dX12_judge_137 (by decide) rfl ?_
  refine jr_aload_n 2 dX12_judge_139 rfl rfl ?_
  obtain ⟨Q12, C10, k⟩ := k
  refine jr_cVv (As := []) jl_X12_392 km_X12_putsBack rfl rfl dX12_judge_140 mw_o (Nat.le_of_ble_eq_true rfl) (Con.pv C10 (fun _ q => q) (fun E h' f => f.elim)) (fun h7 q8 => ?_)
  obtain ⟨μ11, q8, q9⟩ := q8
  subst q9
  have k := k μ11 q8
  refine jr_iload_n 3 dX12_judge_143 rfl rfl ?_
  refine jr_if_ne (tgt := 151) dX12_judge_144 (by decide) (fun c144 => ?_) (fun c144 => ?_)
  · have k := k.2 c144
    refine jr_iload_n 3 dX12_judge_151 rfl rfl ?_
    refine jr_iconst (v := 1) dX12_judge_152 (by decide) ?_
    refine jr_icmp_ne (tgt := 161) dX12_judge_153 (by decide) (fun c153 => ?_) (fun c153 => ?_)
    · have k := k.2 c153
      refine jr_iload_n 3 dX12_judge_161 rfl rfl ?_
      refine jr_iconst (v := 2) dX12_judge_162 (by decide) ?_
      refine jr_icmp_ne (tgt := 171) dX12_judge_163 (by decide) (fun c163 => ?_) (fun c163 => ?_)
      · have k := k.2 c163
        refine jr_iload 0 dX12_judge_171 rfl ?_
        exact jr_iret (ty := .int) rfl rfl dX12_judge_173 k
      · have k := k.1 c163
        refine jr_iload 1 dX12_judge_166 rfl ?_
        refine jr_goto (tgt := 173) dX12_judge_168 (by decide) ?_
        exact jr_iret (ty := .int) rfl rfl dX12_judge_173 k
    · have k := k.1 c153
      refine jr_iload 5 dX12_judge_156 rfl ?_
      refine jr_goto (tgt := 173) dX12_judge_158 (by decide) ?_
      exact jr_iret (ty := .int) rfl rfl dX12_judge_173 k
  · have k := k.1 c144
    refine jr_iload_n 4 dX12_judge_147 rfl rfl ?_
    refine jr_goto (tgt := 173) dX12_judge_148 (by decide) ?_
    exact jr_iret (ty := .int) rfl rfl dX12_judge_173 k
set_option maxRecDepth 20000 in
theorem wX12_perform_0 {x1 : Int32} (k : ∃ r1 : Int32, Con g mX12_trayFault d [.ref m, .int x1] (mw h m μ) (jPi (fun r h' => r = r1 ∧ h' = (mw h m μ)) no2) ∧ (0 < (((mI μ 4 r1)).1 4) → P (.inl (some (.int 0))) (mw h m (mI μ 4 r1))) ∧ (¬ 0 < (((mI μ 4 r1)).1 4) → J g mX12_perform (d + 1) hs P 20 [(0, .ref m), (1, .int x1), (2, .int 0)] [] (mw h m (mI μ 4 r1)))) : J g mX12_perform (d + 1) hs P 0 [(0, .ref m), (1, .int x1)] [] (mw h m μ) := by
  refine jr_aload_n 0 dX12_perform_0 rfl rfl ?_
  refine jr_aload_n 0 dX12_perform_1 rfl rfl ?_
  refine jr_iload_n 1 dX12_perform_2 rfl rfl ?_
  obtain ⟨r1z, C5, k⟩ := k
  refine jr_cVi (As := [.int x1]) jl_X12_377 km_X12_trayFault rfl rfl dX12_perform_3 mw_o (Nat.le_of_ble_eq_true rfl) (C5.pi (fun _ _ q => q) (fun E h' f => f.elim)) (fun r1 h2 q3 => ?_)
  obtain ⟨q3, q4⟩ := q3
  subst q4
  subst q3
  refine jr_putE jp_X12_67 dX12_perform_6 mw_o (Nat.le_of_ble_eq_true rfl) rfl rfl (fun h6 e7 => ?_)
  replace e7 := e7.trans (mw_pI 4 r1)
  subst e7
  refine jr_aload_n 0 dX12_perform_9 rfl rfl ?_
  refine jr_get jf_X12_67 dX12_perform_10 mw_o rfl ?_
  refine jr_if_le (tgt := 18) dX12_perform_13 (by decide) (fun c13 => ?_) (fun c13 => ?_)
  · have k := k.2 c13
    refine jr_iconst (v := 0) dX12_perform_18 (by decide) ?_
    refine jr_istore_n (lv' := [(2, .int 0), (0, .ref m), (1, .int x1)]) dX12_perform_19 rfl (by decide) rfl ?_
    exact jr_sub [1, 2, 0] rfl k
  · have k := k.1 c13
    refine jr_iconst (v := 0) dX12_perform_16 (by decide) ?_
    exact jr_iret (ty := .int) rfl rfl dX12_perform_17 k
set_option maxRecDepth 20000 in
theorem wX12_perform_20 {x1 : Int32} {x2 : Int32} (k : vp_in x1 4 ∧ (x2 < (μ.2.1 16 (ix x1)) → vp_in (((30 * x1) + x2)) 120 ∧ ∃ r3 : Int32, Con g mX12_whyTold d [.ref m, .long (μ.2.2 (ix (((30 * x1) + x2))))] (mw h m μ) (jPi (fun r h' => r = r3 ∧ h' = (mw h m μ)) no2) ∧ (r3 = 0 → ∃ Q14 : MW → Prop, Con g mX12_keeps d [.ref m] (mw h m μ) (wPv h m Q14) ∧ ∀ μ13 : MW, Q14 μ13 → vp_in (((30 * x1) + x2)) 120 ∧ ∃ Q22 : MW → Prop, Con g mX12_does d [.ref m, .int ((μ13.2.2 (ix (((30 * x1) + x2))))).toInt32] (mw h m μ13) (wPv h m Q22) ∧ ∀ μ21 : MW, Q22 μ21 → J g mX12_perform (d + 1) hs P 20 [(0, .ref m), (1, .int x1), (2, .int (x2 + 1))] [] (mw h m μ21)) ∧ (¬ r3 = 0 → P (.inl (some (.int x2))) (mw h m μ))) ∧ (¬ x2 < (μ.2.1 16 (ix x1)) → P (.inl (some (.int x2))) (mw h m μ))) : J g mX12_perform (d + 1) hs P 20 [(0, .ref m), (1, .int x1), (2, .int x2)] [] (mw h m μ) := by
  refine jr_iload_n 2 dX12_perform_20 rfl rfl ?_
  refine jr_aload_n 0 dX12_perform_21 rfl rfl ?_
  refine jr_get jf_X12_60 dX12_perform_22 mw_o rfl ?_
  refine jr_iload_n 1 dX12_perform_25 rfl rfl ?_
  obtain ⟨e1, k⟩ := k
  refine jr_iald dX12_perform_26 mw_16 e1 ?_
  refine jr_icmp_ge (tgt := 74) dX12_perform_27 (by decide) (fun c27 => ?_) (fun c27 => ?_)
  · have k := k.2 c27
    refine jr_iload_n 2 dX12_perform_74 rfl rfl ?_
    exact jr_iret (ty := .int) rfl rfl dX12_perform_75 k
  · have k := k.1 c27
    refine jr_aload_n 0 dX12_perform_30 rfl rfl ?_
    refine jr_aload_n 0 dX12_perform_31 rfl rfl ?_
    refine jr_get jf_X12_63 dX12_perform_32 mw_o rfl ?_
    refine jr_bipush (v := 30) dX12_perform_35 (by decide) ?_
    refine jr_iload_n 1 dX12_perform_37 rfl rfl ?_
    refine jr_imul dX12_perform_38 ?_
    refine jr_iload_n 2 dX12_perform_39 rfl rfl ?_
    refine jr_iadd dX12_perform_40 ?_
    obtain ⟨e2, k⟩ := k
    refine jr_lald dX12_perform_41 mw_17 e2 ?_
    obtain ⟨r3z, C7, k⟩ := k
    refine jr_cVi (As := [.long (μ.2.2 (ix (((30 * x1) + x2))))]) jl_X12_383 km_X12_whyTold rfl rfl dX12_perform_42 mw_o (Nat.le_of_ble_eq_true rfl) (C7.pi (fun _ _ q => q) (fun E h' f => f.elim)) (fun r3 h4 q5 => ?_)
    obtain ⟨q5, q6⟩ := q5
    subst q6
    subst q5
    refine jr_if_ne (tgt := 74) dX12_perform_45 (by decide) (fun c45 => ?_) (fun c45 => ?_)
    · have k := k.2 c45
      refine jr_iload_n 2 dX12_perform_74 rfl rfl ?_
      exact jr_iret (ty := .int) rfl rfl dX12_perform_75 k
    · have k := k.1 c45
      refine jr_aload_n 0 dX12_perform_48 rfl rfl ?_
      obtain ⟨Q14, C12, k⟩ := k
      refine jr_cVv (As := []) jl_X12_332 km_X12_keeps rfl rfl dX12_perform_49 mw_o (Nat.le_of_ble_eq_true rfl) (Con.pv C12 (fun _ q => q) (fun E h' f => f.elim)) (fun h9 q10 => ?_)
      obtain ⟨μ13, q10, q11⟩ := q10
      subst q11
      have k := k μ13 q10
      refine jr_aload_n 0 dX12_perform_52 rfl rfl ?_
      refine jr_aload_n 0 dX12_perform_53 rfl rfl ?_
      refine jr_get jf_X12_63 dX12_perform_54 mw_o rfl ?_
      refine jr_bipush (v := 30) dX12_perform_57 (by decide) ?_
      refine jr_iload_n 1 dX12_perform_59 rfl rfl ?_
      refine jr_imul dX12_perform_60 ?_
      refine jr_iload_n 2 dX12_perform_61 rfl rfl ?_
      refine jr_iadd dX12_perform_62 ?_
      obtain ⟨e15, k⟩ := k
      refine jr_lald dX12_perform_63 mw_17 e15 ?_
      refine jr_l2i dX12_perform_64 ?_
      obtain ⟨Q22, C20, k⟩ := k
      refine jr_cVv (As := [.int ((μ13.2.2 (ix (((30 * x1) + x2))))).toInt32]) jl_X12_386 km_X12_does rfl rfl dX12_perform_65 mw_o (Nat.le_of_ble_eq_true rfl) (Con.pv C20 (fun _ q => q) (fun E h' f => f.elim)) (fun h17 q18 => ?_)
      obtain ⟨μ21, q18, q19⟩ := q18
      subst q19
      have k := k μ21 q18
      refine jr_iinc (v := (x2 + 1)) (lv' := [(2, .int (x2 + 1)), (0, .ref m), (1, .int x1)]) 2 dX12_perform_68 rfl rfl (by decide) rfl ?_
      refine jr_goto (tgt := 20) dX12_perform_71 (by decide) ?_
      exact jr_sub [1, 2, 0] rfl k
set_option maxRecDepth 20000 in
theorem wX12_draw_0 {x1 : Int32} (k : ¬ x1 = 0 ∧ (P (.inl (some (.int (((((((mI μ 26 (((1103515245 * (μ.1 26)) + 12345)))).1 26)).toUInt32 >>> ((16 : Int32).toUInt32 &&& Int32.toUInt32 31)).toInt32 - (((((mI μ 26 (((1103515245 * (μ.1 26)) + 12345)))).1 26)).toUInt32 >>> ((16 : Int32).toUInt32 &&& Int32.toUInt32 31)).toInt32 / x1 * x1))))) (mw h m (mI μ 26 (((1103515245 * (μ.1 26)) + 12345)))))) : J g mX12_draw (d + 1) hs P 0 [(0, .ref m), (1, .int x1)] [] (mw h m μ) := by
  refine jr_aload_n 0 dX12_draw_0 rfl rfl ?_
  refine jr_ldcw (v := 1103515245) jk_X12_395 dX12_draw_1 ?_
  refine jr_aload_n 0 dX12_draw_4 rfl rfl ?_
  refine jr_get jf_X12_396 dX12_draw_5 mw_o rfl ?_
  refine jr_imul dX12_draw_8 ?_
  refine jr_sipush (v := 12345) dX12_draw_9 (by decide) ?_
  refine jr_iadd dX12_draw_12 ?_
  refine jr_putE jp_X12_396 dX12_draw_13 mw_o (Nat.le_of_ble_eq_true rfl) rfl rfl (fun h1 e2 => ?_)
  replace e2 := e2.trans (mw_pI 26 (((1103515245 * (μ.1 26)) + 12345)))
  subst e2
  refine jr_aload_n 0 dX12_draw_16 rfl rfl ?_
  refine jr_get jf_X12_396 dX12_draw_17 mw_o rfl ?_
  refine jr_bipush (v := 16) dX12_draw_20 (by decide) ?_
  refine jr_iushr dX12_draw_22 ?_
  refine jr_iload_n 1 dX12_draw_23 rfl rfl ?_
  obtain ⟨c9, k⟩ := k
  refine jr_irem dX12_draw_24 c9 ?_
  exact jr_iret (ty := .int) rfl rfl dX12_draw_25 k
set_option maxRecDepth 20000 in
theorem wX12_year_0 {x1 : Int32} {x2 : Int32} (k : ∃ r3 : Int32, Con g mX12_within d [.long x2.toInt64, .long 1, .long 30] (mw h m (mI μ 4 0)) (jPi (fun r h' => r = r3 ∧ h' = (mw h m (mI μ 4 0))) no2) ∧ (r3 = 0 → ∃ Q16 : Int32 → MW → Prop, Con g mX12_fails d [.ref m, .int 1] (mw h m (mI μ 4 0)) (wPi h m Q16) ∧ ∀ (r10 : Int32) (μ15 : MW), Q16 r10 μ15 → P (.inl (some (.int r10))) (mw h m μ15)) ∧ (¬ r3 = 0 → J g mX12_year (d + 1) hs P 33 [(0, .ref m), (2, .int x2), (3, .int 0), (4, .int 0)] [] (mw h m (mI ((mI μ 4 0)) 26 x1)))) : J g mX12_year (d + 1) hs P 0 [(0, .ref m), (1, .int x1), (2, .int x2)] [] (mw h m μ) := by
  refine jr_aload_n 0 dX12_year_0 rfl rfl ?_
  refine jr_iconst (v := 0) dX12_year_1 (by decide) ?_
  refine jr_putE jp_X12_67 dX12_year_2 mw_o (Nat.le_of_ble_eq_true rfl) rfl rfl (fun h1 e2 => ?_)
  replace e2 := e2.trans (mw_pI 4 ((0 : Int32)))
  subst e2
  refine jr_iload_n 2 dX12_year_5 rfl rfl ?_
  refine jr_i2l dX12_year_6 ?_
  refine jr_lconst (v := 1) dX12_year_7 (by decide) ?_
  refine jr_ldc2 (v := 30) jk_X12_399 dX12_year_8 ?_
  obtain ⟨r3z, C7, k⟩ := k
  refine jr_cSi (As := [.long x2.toInt64, .long 1, .long 30]) jl_X12_128 km_X12_within rfl rfl dX12_year_11 (Nat.le_of_ble_eq_true rfl) (C7.pi (fun _ _ q => q) (fun E h' f => f.elim)) (fun r3 h4 q5 => ?_)
  obtain ⟨q5, q6⟩ := q5
  subst q6
  subst q5
  refine jr_if_ne (tgt := 23) dX12_year_14 (by decide) (fun c14 => ?_) (fun c14 => ?_)
  · have k := k.2 c14
    refine jr_aload_n 0 dX12_year_23 rfl rfl ?_
    refine jr_iload_n 1 dX12_year_24 rfl rfl ?_
    refine jr_putE jp_X12_396 dX12_year_25 mw_o (Nat.le_of_ble_eq_true rfl) rfl rfl (fun h8 e9 => ?_)
    replace e9 := e9.trans (mw_pI 26 x1)
    subst e9
    refine jr_iconst (v := 0) dX12_year_28 (by decide) ?_
    refine jr_istore_n (lv' := [(3, .int 0), (0, .ref m), (1, .int x1), (2, .int x2)]) dX12_year_29 rfl (by decide) rfl ?_
    refine jr_iconst (v := 0) dX12_year_30 (by decide) ?_
    refine jr_istore (lv' := [(4, .int 0), (3, .int 0), (0, .ref m), (1, .int x1), (2, .int x2)]) dX12_year_31 (by decide) rfl ?_
    exact jr_sub [2, 4, 1, 0] rfl k
  · have k := k.1 c14
    refine jr_aload_n 0 dX12_year_17 rfl rfl ?_
    refine jr_iconst (v := 1) dX12_year_18 (by decide) ?_
    obtain ⟨Q16, C14, k⟩ := k
    refine jr_cVi (As := [.int 1]) jl_X12_234 km_X12_fails rfl rfl dX12_year_19 mw_o (Nat.le_of_ble_eq_true rfl) (Con.pi C14 (fun _ _ q => q) (fun E h' f => f.elim)) (fun r10 h11 q12 => ?_)
    obtain ⟨μ15, q12, q13⟩ := q12
    subst q13
    have k := k r10 μ15 q12
    exact jr_iret (ty := .int) rfl rfl dX12_year_22 k
set_option maxRecDepth 20000 in
theorem wX12_year_33 {x2 : Int32} {x3 : Int32} {x4 : Int32} (k : (x4 < x2 → ∃ Q7 : Int32 → MW → Prop, Con g mX12_draw d [.ref m, .int 6] (mw h m μ) (wPi h m Q7) ∧ ∀ (r1 : Int32) (μ6 : MW), Q7 r1 μ6 → (1 < r1 → ∃ r8 : Int32, Con g mX12_houses d [.ref m] (mw h m μ6) (jPi (fun r h' => r = r8 ∧ h' = (mw h m μ6)) no2) ∧ (r8 = 0 → J g mX12_year (d + 1) hs P 33 [(0, .ref m), (2, .int x2), (3, .int x3), (4, .int (x4 + 1))] [] (mw h m μ6)) ∧ (¬ r8 = 0 → J g mX12_year (d + 1) hs P 63 [(0, .ref m), (2, .int x2), (3, .int x3), (4, .int x4), (5, .int r1)] [] (mw h m μ6))) ∧ (¬ 1 < r1 → J g mX12_year (d + 1) hs P 63 [(0, .ref m), (2, .int x2), (3, .int x3), (4, .int x4), (5, .int r1)] [] (mw h m μ6))) ∧ (¬ x4 < x2 → P (.inl (some (.int x3))) (mw h m μ))) : J g mX12_year (d + 1) hs P 33 [(0, .ref m), (2, .int x2), (3, .int x3), (4, .int x4)] [] (mw h m μ) := by
  refine jr_iload 3 dX12_year_33 rfl ?_
  refine jr_iload_n 1 dX12_year_35 rfl rfl ?_
  refine jr_icmp_ge (tgt := 113) dX12_year_36 (by decide) (fun c36 => ?_) (fun c36 => ?_)
  · have k := k.2 c36
    refine jr_iload_n 2 dX12_year_113 rfl rfl ?_
    exact jr_iret (ty := .int) rfl rfl dX12_year_114 k
  · have k := k.1 c36
    refine jr_aload_n 0 dX12_year_39 rfl rfl ?_
    refine jr_bipush (v := 6) dX12_year_40 (by decide) ?_
    obtain ⟨Q7, C5, k⟩ := k
    refine jr_cVi (As := [.int 6]) jl_X12_401 km_X12_draw rfl rfl dX12_year_42 mw_o (Nat.le_of_ble_eq_true rfl) (Con.pi C5 (fun _ _ q => q) (fun E h' f => f.elim)) (fun r1 h2 q3 => ?_)
    obtain ⟨μ6, q3, q4⟩ := q3
    subst q4
    have k := k r1 μ6 q3
    refine jr_istore (lv' := [(5, .int r1), (0, .ref m), (2, .int x2), (3, .int x3), (4, .int x4)]) dX12_year_45 (by decide) rfl ?_
    refine jr_iload 0 dX12_year_47 rfl ?_
    refine jr_iconst (v := 1) dX12_year_49 (by decide) ?_
    refine jr_icmp_le (tgt := 63) dX12_year_50 (by decide) (fun c50 => ?_) (fun c50 => ?_)
    · have k := k.2 c50
      exact jr_sub [1, 2, 3, 4, 0] rfl k
    · have k := k.1 c50
      refine jr_aload_n 1 dX12_year_53 rfl rfl ?_
      obtain ⟨r8z, C12, k⟩ := k
      refine jr_cVi (As := []) jl_X12_249 km_X12_houses rfl rfl dX12_year_54 mw_o (Nat.le_of_ble_eq_true rfl) (C12.pi (fun _ _ q => q) (fun E h' f => f.elim)) (fun r8 h9 q10 => ?_)
      obtain ⟨q10, q11⟩ := q10
      subst q11
      subst q10
      refine jr_if_ne (tgt := 63) dX12_year_57 (by decide) (fun c57 => ?_) (fun c57 => ?_)
      · have k := k.2 c57
        exact jr_sub [1, 2, 3, 4, 0] rfl k
      · have k := k.1 c57
        refine jr_goto (tgt := 107) dX12_year_60 (by decide) ?_
        refine jr_iinc (v := (x4 + 1)) (lv' := [(4, .int (x4 + 1)), (5, .int r1), (0, .ref m), (2, .int x2), (3, .int x3)]) 4 dX12_year_107 rfl rfl (by decide) rfl ?_
        refine jr_goto (tgt := 33) dX12_year_110 (by decide) ?_
        exact jr_sub [2, 3, 4, 0] rfl k
set_option maxRecDepth 20000 in
theorem wX12_year_63 {x2 : Int32} {x3 : Int32} {x4 : Int32} {x5 : Int32} (k : (x5 < 2 → J g mX12_year (d + 1) hs P 79 [(0, .ref m), (2, .int x2), (3, .int x3), (4, .int x4)] [.int (-1)] (mw h m μ)) ∧ (¬ x5 < 2 → ∃ Q7 : Int32 → MW → Prop, Con g mX12_drawn d [.ref m, .int x5] (mw h m μ) (wPi h m Q7) ∧ ∀ (r1 : Int32) (μ6 : MW), Q7 r1 μ6 → J g mX12_year (d + 1) hs P 79 [(0, .ref m), (2, .int x2), (3, .int x3), (4, .int x4)] [.int r1] (mw h m μ6))) : J g mX12_year (d + 1) hs P 63 [(0, .ref m), (2, .int x2), (3, .int x3), (4, .int x4), (5, .int x5)] [] (mw h m μ) := by
  refine jr_iload 4 dX12_year_63 rfl ?_
  refine jr_iconst (v := 2) dX12_year_65 (by decide) ?_
  refine jr_icmp_ge (tgt := 73) dX12_year_66 (by decide) (fun c66 => ?_) (fun c66 => ?_)
  · have k := k.2 c66
    refine jr_aload_n 0 dX12_year_73 rfl rfl ?_
    refine jr_iload 4 dX12_year_74 rfl ?_
    obtain ⟨Q7, C5, k⟩ := k
    refine jr_cVi (As := [.int x5]) jl_X12_404 km_X12_drawn rfl rfl dX12_year_76 mw_o (Nat.le_of_ble_eq_true rfl) (Con.pi C5 (fun _ _ q => q) (fun E h' f => f.elim)) (fun r1 h2 q3 => ?_)
    obtain ⟨μ6, q3, q4⟩ := q3
    subst q4
    have k := k r1 μ6 q3
    exact jr_sub [0, 1, 2, 3] rfl k
  · have k := k.1 c66
    refine jr_iconst (v := (-1)) dX12_year_69 (by decide) ?_
    refine jr_goto (tgt := 79) dX12_year_70 (by decide) ?_
    exact jr_sub [0, 1, 2, 3] rfl k
set_option maxRecDepth 20000 in
theorem wX12_year_79 {x2 : Int32} {x3 : Int32} {x4 : Int32} {s0 : Int32} (k : ∃ r1 : Int32, Con g mX12_whyTold d [.ref m, .long s0.toInt64] (mw h m μ) (jPi (fun r h' => r = r1 ∧ h' = (mw h m μ)) no2) ∧ (r1 = 0 → ∃ Q12 : MW → Prop, Con g mX12_keeps d [.ref m] (mw h m μ) (wPv h m Q12) ∧ ∀ μ11 : MW, Q12 μ11 → ∃ Q19 : MW → Prop, Con g mX12_does d [.ref m, .int s0] (mw h m μ11) (wPv h m Q19) ∧ ∀ μ18 : MW, Q19 μ18 → J g mX12_year (d + 1) hs P 33 [(0, .ref m), (2, .int x2), (3, .int (x3 + 1)), (4, .int (x4 + 1))] [] (mw h m μ18)) ∧ (¬ r1 = 0 → J g mX12_year (d + 1) hs P 33 [(0, .ref m), (2, .int x2), (3, .int x3), (4, .int (x4 + 1))] [] (mw h m μ))) : J g mX12_year (d + 1) hs P 79 [(0, .ref m), (2, .int x2), (3, .int x3), (4, .int x4)] [.int s0] (mw h m μ) := by
  refine jr_istore (lv' := [(6, .int s0), (0, .ref m), (2, .int x2), (3, .int x3), (4, .int x4)]) dX12_year_79 (by decide) rfl ?_
  refine jr_aload_n 1 dX12_year_81 rfl rfl ?_
  refine jr_iload 0 dX12_year_82 rfl ?_
  refine jr_i2l dX12_year_84 ?_
  obtain ⟨r1z, C5, k⟩ := k
  refine jr_cVi (As := [.long s0.toInt64]) jl_X12_383 km_X12_whyTold rfl rfl dX12_year_85 mw_o (Nat.le_of_ble_eq_true rfl) (C5.pi (fun _ _ q => q) (fun E h' f => f.elim)) (fun r1 h2 q3 => ?_)
  obtain ⟨q3, q4⟩ := q3
  subst q4
  subst q3
  refine jr_if_eq (tgt := 94) dX12_year_88 (by decide) (fun c88 => ?_) (fun c88 => ?_)
  · have k := k.1 c88
    refine jr_aload_n 1 dX12_year_94 rfl rfl ?_
    obtain ⟨Q12, C10, k⟩ := k
    refine jr_cVv (As := []) jl_X12_332 km_X12_keeps rfl rfl dX12_year_95 mw_o (Nat.le_of_ble_eq_true rfl) (Con.pv C10 (fun _ q => q) (fun E h' f => f.elim)) (fun h7 q8 => ?_)
    obtain ⟨μ11, q8, q9⟩ := q8
    subst q9
    have k := k μ11 q8
    refine jr_aload_n 1 dX12_year_98 rfl rfl ?_
    refine jr_iload 0 dX12_year_99 rfl ?_
    obtain ⟨Q19, C17, k⟩ := k
    refine jr_cVv (As := [.int s0]) jl_X12_386 km_X12_does rfl rfl dX12_year_101 mw_o (Nat.le_of_ble_eq_true rfl) (Con.pv C17 (fun _ q => q) (fun E h' f => f.elim)) (fun h14 q15 => ?_)
    obtain ⟨μ18, q15, q16⟩ := q15
    subst q16
    have k := k μ18 q15
    refine jr_iinc (v := (x3 + 1)) (lv' := [(3, .int (x3 + 1)), (6, .int s0), (0, .ref m), (2, .int x2), (4, .int x4)]) 3 dX12_year_104 rfl rfl (by decide) rfl ?_
    refine jr_iinc (v := (x4 + 1)) (lv' := [(4, .int (x4 + 1)), (3, .int (x3 + 1)), (6, .int s0), (0, .ref m), (2, .int x2)]) 4 dX12_year_107 rfl rfl (by decide) rfl ?_
    refine jr_goto (tgt := 33) dX12_year_110 (by decide) ?_
    exact jr_sub [3, 4, 1, 0] rfl k
  · have k := k.2 c88
    refine jr_goto (tgt := 107) dX12_year_91 (by decide) ?_
    refine jr_iinc (v := (x4 + 1)) (lv' := [(4, .int (x4 + 1)), (6, .int s0), (0, .ref m), (2, .int x2), (3, .int x3)]) 4 dX12_year_107 rfl rfl (by decide) rfl ?_
    refine jr_goto (tgt := 33) dX12_year_110 (by decide) ?_
    exact jr_sub [2, 3, 4, 0] rfl k
set_option maxRecDepth 20000 in
theorem wX12_drawn_0 {x1 : Int32} (k : ∃ r1 : Int32, Con g mX12_houses d [.ref m] (mw h m μ) (jPi (fun r h' => r = r1 ∧ h' = (mw h m μ)) no2) ∧ ∃ Q12 : Int32 → MW → Prop, Con g mX12_draw d [.ref m, .int r1] (mw h m μ) (wPi h m Q12) ∧ ∀ (r6 : Int32) (μ11 : MW), Q12 r6 μ11 → (x1 = 3 → J g mX12_drawn (d + 1) hs P 19 [(1, .int x1), (2, .int r6)] [] (mw h m μ11)) ∧ (¬ x1 = 3 → (x1 = 4 → J g mX12_drawn (d + 1) hs P 19 [(1, .int x1), (2, .int r6)] [] (mw h m μ11)) ∧ (¬ x1 = 4 → (x1 = 2 → J g mX12_drawn (d + 1) hs P 49 [(0, .ref m), (2, .int r6)] [.int 0] (mw h m μ11)) ∧ (¬ x1 = 2 → J g mX12_drawn (d + 1) hs P 49 [(0, .ref m), (2, .int r6)] [.int 300] (mw h m μ11))))) : J g mX12_drawn (d + 1) hs P 0 [(0, .ref m), (1, .int x1)] [] (mw h m μ) := by
  refine jr_aload_n 0 dX12_drawn_0 rfl rfl ?_
  refine jr_aload_n 0 dX12_drawn_1 rfl rfl ?_
  obtain ⟨r1z, C5, k⟩ := k
  refine jr_cVi (As := []) jl_X12_249 km_X12_houses rfl rfl dX12_drawn_2 mw_o (Nat.le_of_ble_eq_true rfl) (C5.pi (fun _ _ q => q) (fun E h' f => f.elim)) (fun r1 h2 q3 => ?_)
  obtain ⟨q3, q4⟩ := q3
  subst q4
  subst q3
  obtain ⟨Q12, C10, k⟩ := k
  refine jr_cVi (As := [.int r1]) jl_X12_401 km_X12_draw rfl rfl dX12_drawn_5 mw_o (Nat.le_of_ble_eq_true rfl) (Con.pi C10 (fun _ _ q => q) (fun E h' f => f.elim)) (fun r6 h7 q8 => ?_)
  obtain ⟨μ11, q8, q9⟩ := q8
  subst q9
  have k := k r6 μ11 q8
  refine jr_istore_n (lv' := [(2, .int r6), (0, .ref m), (1, .int x1)]) dX12_drawn_8 rfl (by decide) rfl ?_
  refine jr_iload_n 2 dX12_drawn_9 rfl rfl ?_
  refine jr_iconst (v := 3) dX12_drawn_10 (by decide) ?_
  refine jr_icmp_eq (tgt := 19) dX12_drawn_11 (by decide) (fun c11 => ?_) (fun c11 => ?_)
  · have k := k.1 c11
    exact jr_sub [2, 0] rfl k
  · have k := k.2 c11
    refine jr_iload_n 2 dX12_drawn_14 rfl rfl ?_
    refine jr_iconst (v := 4) dX12_drawn_15 (by decide) ?_
    refine jr_icmp_ne (tgt := 37) dX12_drawn_16 (by decide) (fun c16 => ?_) (fun c16 => ?_)
    · have k := k.2 c16
      refine jr_iload_n 2 dX12_drawn_37 rfl rfl ?_
      refine jr_iconst (v := 2) dX12_drawn_38 (by decide) ?_
      refine jr_icmp_ne (tgt := 46) dX12_drawn_39 (by decide) (fun c39 => ?_) (fun c39 => ?_)
      · have k := k.2 c39
        refine jr_sipush (v := 300) dX12_drawn_46 (by decide) ?_
        exact jr_sub [1, 0] rfl k
      · have k := k.1 c39
        refine jr_iconst (v := 0) dX12_drawn_42 (by decide) ?_
        refine jr_goto (tgt := 49) dX12_drawn_43 (by decide) ?_
        exact jr_sub [1, 0] rfl k
    · have k := k.1 c16
      exact jr_sub [2, 0] rfl k
set_option maxRecDepth 20000 in
theorem wX12_drawn_19 {x1 : Int32} {x2 : Int32} (k : (x1 = 3 → P (.inl (some (.int ((100 + x2))))) (mw h m μ)) ∧ (¬ x1 = 3 → P (.inl (some (.int ((200 + x2))))) (mw h m μ))) : J g mX12_drawn (d + 1) hs P 19 [(1, .int x1), (2, .int x2)] [] (mw h m μ) := by
  refine jr_iload_n 0 dX12_drawn_19 rfl rfl ?_
  refine jr_iconst (v := 3) dX12_drawn_20 (by decide) ?_
  refine jr_icmp_ne (tgt := 31) dX12_drawn_21 (by decide) (fun c21 => ?_) (fun c21 => ?_)
  · have k := k.2 c21
    refine jr_sipush (v := 200) dX12_drawn_31 (by decide) ?_
    refine jr_iload_n 1 dX12_drawn_34 rfl rfl ?_
    refine jr_iadd dX12_drawn_35 ?_
    exact jr_iret (ty := .int) rfl rfl dX12_drawn_36 k
  · have k := k.1 c21
    refine jr_bipush (v := 100) dX12_drawn_24 (by decide) ?_
    refine jr_iload_n 1 dX12_drawn_26 rfl rfl ?_
    refine jr_iadd dX12_drawn_27 ?_
    refine jr_goto (tgt := 36) dX12_drawn_28 (by decide) ?_
    exact jr_iret (ty := .int) rfl rfl dX12_drawn_36 k
set_option maxRecDepth 20000 in
theorem wX12_drawn_49 {x2 : Int32} {s0 : Int32} (k : ∃ r1 : Int32, Con g mX12_houses d [.ref m] (mw h m μ) (jPi (fun r h' => r = r1 ∧ h' = (mw h m μ)) no2) ∧ ∃ Q12 : Int32 → MW → Prop, Con g mX12_draw d [.ref m, .int r1] (mw h m μ) (wPi h m Q12) ∧ ∀ (r6 : Int32) (μ11 : MW), Q12 r6 μ11 → P (.inl (some (.int (((s0 + (10 * x2)) + r6))))) (mw h m μ11)) : J g mX12_drawn (d + 1) hs P 49 [(0, .ref m), (2, .int x2)] [.int s0] (mw h m μ) := by
  refine jr_bipush (v := 10) dX12_drawn_49 (by decide) ?_
  refine jr_iload_n 1 dX12_drawn_51 rfl rfl ?_
  refine jr_imul dX12_drawn_52 ?_
  refine jr_iadd dX12_drawn_53 ?_
  refine jr_aload_n 0 dX12_drawn_54 rfl rfl ?_
  refine jr_aload_n 0 dX12_drawn_55 rfl rfl ?_
  obtain ⟨r1z, C5, k⟩ := k
  refine jr_cVi (As := []) jl_X12_249 km_X12_houses rfl rfl dX12_drawn_56 mw_o (Nat.le_of_ble_eq_true rfl) (C5.pi (fun _ _ q => q) (fun E h' f => f.elim)) (fun r1 h2 q3 => ?_)
  obtain ⟨q3, q4⟩ := q3
  subst q4
  subst q3
  obtain ⟨Q12, C10, k⟩ := k
  refine jr_cVi (As := [.int r1]) jl_X12_401 km_X12_draw rfl rfl dX12_drawn_59 mw_o (Nat.le_of_ble_eq_true rfl) (Con.pi C10 (fun _ _ q => q) (fun E h' f => f.elim)) (fun r6 h7 q8 => ?_)
  obtain ⟨μ11, q8, q9⟩ := q8
  subst q9
  have k := k r6 μ11 q8
  refine jr_iadd dX12_drawn_62 ?_
  exact jr_iret (ty := .int) rfl rfl dX12_drawn_63 k
set_option maxRecDepth 20000 in
theorem wX12_goesOn_0 {x1 : Int32} (k : J g mX12_goesOn (d + 1) hs P 2 [(0, .ref m), (1, .int x1), (2, .int 0)] [] (mw h m μ)) : J g mX12_goesOn (d + 1) hs P 0 [(0, .ref m), (1, .int x1)] [] (mw h m μ) := by
  refine jr_iconst (v := 0) dX12_goesOn_0 (by decide) ?_
  refine jr_istore_n (lv' := [(2, .int 0), (0, .ref m), (1, .int x1)]) dX12_goesOn_1 rfl (by decide) rfl ?_
  exact jr_sub [1, 2, 0] rfl k
set_option maxRecDepth 20000 in
theorem wX12_goesOn_2 {x1 : Int32} {x2 : Int32} (k : (x2 < x1 → ∃ Q7 : MW → Prop, Con g mX12_quarter d [.ref m] (mw h m μ) (wPv h m Q7) ∧ ∀ μ6 : MW, Q7 μ6 → J g mX12_goesOn (d + 1) hs P 2 [(0, .ref m), (1, .int x1), (2, .int (x2 + 1))] [] (mw h m μ6)) ∧ (¬ x2 < x1 → P (.inl none) (mw h m μ))) : J g mX12_goesOn (d + 1) hs P 2 [(0, .ref m), (1, .int x1), (2, .int x2)] [] (mw h m μ) := by
  refine jr_iload_n 2 dX12_goesOn_2 rfl rfl ?_
  refine jr_iload_n 1 dX12_goesOn_3 rfl rfl ?_
  refine jr_icmp_ge (tgt := 17) dX12_goesOn_4 (by decide) (fun c4 => ?_) (fun c4 => ?_)
  · have k := k.2 c4
    exact jr_vret rfl dX12_goesOn_17 k
  · have k := k.1 c4
    refine jr_aload_n 0 dX12_goesOn_7 rfl rfl ?_
    obtain ⟨Q7, C5, k⟩ := k
    refine jr_cVv (As := []) jl_X12_356 km_X12_quarter rfl rfl dX12_goesOn_8 mw_o (Nat.le_of_ble_eq_true rfl) (Con.pv C5 (fun _ q => q) (fun E h' f => f.elim)) (fun h2 q3 => ?_)
    obtain ⟨μ6, q3, q4⟩ := q3
    subst q4
    have k := k μ6 q3
    refine jr_iinc (v := (x2 + 1)) (lv' := [(2, .int (x2 + 1)), (0, .ref m), (1, .int x1)]) 2 dX12_goesOn_11 rfl rfl (by decide) rfl ?_
    refine jr_goto (tgt := 2) dX12_goesOn_14 (by decide) ?_
    exact jr_sub [1, 2, 0] rfl k
set_option maxRecDepth 20000 in
theorem wX12_later_0 {x1 : Int32} {x2 : Int32} (k : ∃ Q7 : MW → Prop, Con g mX12_putsAside d [.ref m] (mw h m μ) (wPv h m Q7) ∧ ∀ μ6 : MW, Q7 μ6 → ∃ Q14 : MW → Prop, Con g mX12_goesOn d [.ref m, .int x2] (mw h m μ6) (wPv h m Q14) ∧ ∀ μ13 : MW, Q14 μ13 → vp_in x1 3240 ∧ ∃ Q22 : MW → Prop, Con g mX12_putsBack d [.ref m] (mw h m μ13) (wPv h m Q22) ∧ ∀ μ21 : MW, Q22 μ21 → P (.inl (some (.int ((kn μ13 (ix x1)))))) (mw h m μ21)) : J g mX12_later (d + 1) hs P 0 [(0, .ref m), (1, .int x1), (2, .int x2)] [] (mw h m μ) := by
  refine jr_aload_n 0 dX12_later_0 rfl rfl ?_
  obtain ⟨Q7, C5, k⟩ := k
  refine jr_cVv (As := []) jl_X12_380 km_X12_putsAside rfl rfl dX12_later_1 mw_o (Nat.le_of_ble_eq_true rfl) (Con.pv C5 (fun _ q => q) (fun E h' f => f.elim)) (fun h2 q3 => ?_)
  obtain ⟨μ6, q3, q4⟩ := q3
  subst q4
  have k := k μ6 q3
  refine jr_aload_n 0 dX12_later_4 rfl rfl ?_
  refine jr_iload_n 2 dX12_later_5 rfl rfl ?_
  obtain ⟨Q14, C12, k⟩ := k
  refine jr_cVv (As := [.int x2]) jl_X12_407 km_X12_goesOn rfl rfl dX12_later_6 mw_o (Nat.le_of_ble_eq_true rfl) (Con.pv C12 (fun _ q => q) (fun E h' f => f.elim)) (fun h9 q10 => ?_)
  obtain ⟨μ13, q10, q11⟩ := q10
  subst q11
  have k := k μ13 q10
  refine jr_aload_n 0 dX12_later_9 rfl rfl ?_
  refine jr_get jf_X12_9 dX12_later_10 mw_o rfl ?_
  refine jr_iload_n 1 dX12_later_13 rfl rfl ?_
  obtain ⟨e15, k⟩ := k
  refine jr_iald dX12_later_14 mw_1 e15 ?_
  refine jr_istore_n (lv' := [(3, .int (kn μ13 (ix x1))), (0, .ref m), (1, .int x1), (2, .int x2)]) dX12_later_15 rfl (by decide) rfl ?_
  refine jr_aload_n 1 dX12_later_16 rfl rfl ?_
  obtain ⟨Q22, C20, k⟩ := k
  refine jr_cVv (As := []) jl_X12_392 km_X12_putsBack rfl rfl dX12_later_17 mw_o (Nat.le_of_ble_eq_true rfl) (Con.pv C20 (fun _ q => q) (fun E h' f => f.elim)) (fun h17 q18 => ?_)
  obtain ⟨μ21, q18, q19⟩ := q18
  subst q19
  have k := k μ21 q18
  refine jr_iload_n 0 dX12_later_20 rfl rfl ?_
  exact jr_iret (ty := .int) rfl rfl dX12_later_21 k
set_option maxRecDepth 20000 in
theorem wX12_debtIn_0 {x1 : Int32} {x2 : Int32} (k : ∃ r1 : Int32, Con g mX12_isHouse d [.ref m, .long x1.toInt64] (mw h m μ) (jPi (fun r h' => r = r1 ∧ h' = (mw h m μ)) no2) ∧ (r1 = 0 → J g mX12_debtIn (d + 1) hs P 31 [(0, .ref m), (1, .int x1), (2, .int x2)] [.int 1, .ref m] (mw h m μ)) ∧ (¬ r1 = 0 → ∃ r6 : Int32, Con g mX12_within d [.long x2.toInt64, .long 0, .long 200] (mw h m μ) (jPi (fun r h' => r = r6 ∧ h' = (mw h m μ)) no2) ∧ (r6 = 0 → J g mX12_debtIn (d + 1) hs P 31 [(0, .ref m), (1, .int x1), (2, .int x2)] [.int 2, .ref m] (mw h m μ)) ∧ (¬ r6 = 0 → J g mX12_debtIn (d + 1) hs P 31 [(0, .ref m), (1, .int x1), (2, .int x2)] [.int 0, .ref m] (mw h m μ)))) : J g mX12_debtIn (d + 1) hs P 0 [(0, .ref m), (1, .int x1), (2, .int x2)] [] (mw h m μ) := by
  refine jr_aload_n 0 dX12_debtIn_0 rfl rfl ?_
  refine jr_aload_n 0 dX12_debtIn_1 rfl rfl ?_
  refine jr_iload_n 1 dX12_debtIn_2 rfl rfl ?_
  refine jr_i2l dX12_debtIn_3 ?_
  obtain ⟨r1z, C5, k⟩ := k
  refine jr_cVi (As := [.long x1.toInt64]) jl_X12_313 km_X12_isHouse rfl rfl dX12_debtIn_4 mw_o (Nat.le_of_ble_eq_true rfl) (C5.pi (fun _ _ q => q) (fun E h' f => f.elim)) (fun r1 h2 q3 => ?_)
  obtain ⟨q3, q4⟩ := q3
  subst q4
  subst q3
  refine jr_if_ne (tgt := 14) dX12_debtIn_7 (by decide) (fun c7 => ?_) (fun c7 => ?_)
  · have k := k.2 c7
    refine jr_iload_n 2 dX12_debtIn_14 rfl rfl ?_
    refine jr_i2l dX12_debtIn_15 ?_
    refine jr_lconst (v := 0) dX12_debtIn_16 (by decide) ?_
    refine jr_ldc2 (v := 200) jk_X12_369 dX12_debtIn_17 ?_
    obtain ⟨r6z, C10, k⟩ := k
    refine jr_cSi (As := [.long x2.toInt64, .long 0, .long 200]) jl_X12_128 km_X12_within rfl rfl dX12_debtIn_20 (Nat.le_of_ble_eq_true rfl) (C10.pi (fun _ _ q => q) (fun E h' f => f.elim)) (fun r6 h7 q8 => ?_)
    obtain ⟨q8, q9⟩ := q8
    subst q9
    subst q8
    refine jr_if_eq (tgt := 30) dX12_debtIn_23 (by decide) (fun c23 => ?_) (fun c23 => ?_)
    · have k := k.1 c23
      refine jr_iconst (v := 2) dX12_debtIn_30 (by decide) ?_
      exact jr_sub [0, 1, 2] rfl k
    · have k := k.2 c23
      refine jr_iconst (v := 0) dX12_debtIn_26 (by decide) ?_
      refine jr_goto (tgt := 31) dX12_debtIn_27 (by decide) ?_
      exact jr_sub [0, 1, 2] rfl k
  · have k := k.1 c7
    refine jr_iconst (v := 1) dX12_debtIn_10 (by decide) ?_
    refine jr_goto (tgt := 31) dX12_debtIn_11 (by decide) ?_
    exact jr_sub [0, 1, 2] rfl k
set_option maxRecDepth 20000 in
theorem wX12_debtIn_31 {x1 : Int32} {x2 : Int32} {s1 : Int32} (k : (0 < (((mI μ 4 s1)).1 4) → P (.inl (some (.int 0))) (mw h m (mI μ 4 s1))) ∧ (¬ 0 < (((mI μ 4 s1)).1 4) → ∃ Q9 : Int32 → MW → Prop, Con g mX12_later d [.ref m, .int (36 + x1), .int x2] (mw h m (mI μ 4 s1)) (wPi h m Q9) ∧ ∀ (r3 : Int32) (μ8 : MW), Q9 r3 μ8 → P (.inl (some (.int r3))) (mw h m μ8))) : J g mX12_debtIn (d + 1) hs P 31 [(0, .ref m), (1, .int x1), (2, .int x2)] [.int s1, .ref m] (mw h m μ) := by
  refine jr_putE jp_X12_67 dX12_debtIn_31 mw_o (Nat.le_of_ble_eq_true rfl) rfl rfl (fun h1 e2 => ?_)
  replace e2 := e2.trans (mw_pI 4 s1)
  subst e2
  refine jr_aload_n 0 dX12_debtIn_34 rfl rfl ?_
  refine jr_get jf_X12_67 dX12_debtIn_35 mw_o rfl ?_
  refine jr_if_le (tgt := 45) dX12_debtIn_38 (by decide) (fun c38 => ?_) (fun c38 => ?_)
  · have k := k.2 c38
    refine jr_aload_n 0 dX12_debtIn_45 rfl rfl ?_
    refine jr_bipush (v := 36) dX12_debtIn_46 (by decide) ?_
    refine jr_iload_n 1 dX12_debtIn_48 rfl rfl ?_
    refine jr_iadd dX12_debtIn_49 ?_
    refine jr_iload_n 2 dX12_debtIn_50 rfl rfl ?_
    obtain ⟨Q9, C7, k⟩ := k
    refine jr_cVi (As := [.int (36 + x1), .int x2]) jl_X12_410 km_X12_later rfl rfl dX12_debtIn_51 mw_o (Nat.le_of_ble_eq_true rfl) (Con.pi C7 (fun _ _ q => q) (fun E h' f => f.elim)) (fun r3 h4 q5 => ?_)
    obtain ⟨μ8, q5, q6⟩ := q5
    subst q6
    have k := k r3 μ8 q5
    exact jr_iret (ty := .int) rfl rfl dX12_debtIn_54 k
  · have k := k.1 c38
    refine jr_iconst (v := 0) dX12_debtIn_41 (by decide) ?_
    refine jr_goto (tgt := 54) dX12_debtIn_42 (by decide) ?_
    exact jr_iret (ty := .int) rfl rfl dX12_debtIn_54 k
set_option maxRecDepth 20000 in
theorem wX12_cashIn_0 {x1 : Int32} {x2 : Int32} (k : ∃ r1 : Int32, Con g mX12_isHouse d [.ref m, .long x1.toInt64] (mw h m μ) (jPi (fun r h' => r = r1 ∧ h' = (mw h m μ)) no2) ∧ (r1 = 0 → J g mX12_cashIn (d + 1) hs P 31 [(0, .ref m), (1, .int x1), (2, .int x2)] [.int 1, .ref m] (mw h m μ)) ∧ (¬ r1 = 0 → ∃ r6 : Int32, Con g mX12_within d [.long x2.toInt64, .long 0, .long 200] (mw h m μ) (jPi (fun r h' => r = r6 ∧ h' = (mw h m μ)) no2) ∧ (r6 = 0 → J g mX12_cashIn (d + 1) hs P 31 [(0, .ref m), (1, .int x1), (2, .int x2)] [.int 2, .ref m] (mw h m μ)) ∧ (¬ r6 = 0 → J g mX12_cashIn (d + 1) hs P 31 [(0, .ref m), (1, .int x1), (2, .int x2)] [.int 0, .ref m] (mw h m μ)))) : J g mX12_cashIn (d + 1) hs P 0 [(0, .ref m), (1, .int x1), (2, .int x2)] [] (mw h m μ) := by
  refine jr_aload_n 0 dX12_cashIn_0 rfl rfl ?_
  refine jr_aload_n 0 dX12_cashIn_1 rfl rfl ?_
  refine jr_iload_n 1 dX12_cashIn_2 rfl rfl ?_
  refine jr_i2l dX12_cashIn_3 ?_
  obtain ⟨r1z, C5, k⟩ := k
  refine jr_cVi (As := [.long x1.toInt64]) jl_X12_313 km_X12_isHouse rfl rfl dX12_cashIn_4 mw_o (Nat.le_of_ble_eq_true rfl) (C5.pi (fun _ _ q => q) (fun E h' f => f.elim)) (fun r1 h2 q3 => ?_)
  obtain ⟨q3, q4⟩ := q3
  subst q4
  subst q3
  refine jr_if_ne (tgt := 14) dX12_cashIn_7 (by decide) (fun c7 => ?_) (fun c7 => ?_)
  · have k := k.2 c7
    refine jr_iload_n 2 dX12_cashIn_14 rfl rfl ?_
    refine jr_i2l dX12_cashIn_15 ?_
    refine jr_lconst (v := 0) dX12_cashIn_16 (by decide) ?_
    refine jr_ldc2 (v := 200) jk_X12_369 dX12_cashIn_17 ?_
    obtain ⟨r6z, C10, k⟩ := k
    refine jr_cSi (As := [.long x2.toInt64, .long 0, .long 200]) jl_X12_128 km_X12_within rfl rfl dX12_cashIn_20 (Nat.le_of_ble_eq_true rfl) (C10.pi (fun _ _ q => q) (fun E h' f => f.elim)) (fun r6 h7 q8 => ?_)
    obtain ⟨q8, q9⟩ := q8
    subst q9
    subst q8
    refine jr_if_eq (tgt := 30) dX12_cashIn_23 (by decide) (fun c23 => ?_) (fun c23 => ?_)
    · have k := k.1 c23
      refine jr_iconst (v := 2) dX12_cashIn_30 (by decide) ?_
      exact jr_sub [0, 1, 2] rfl k
    · have k := k.2 c23
      refine jr_iconst (v := 0) dX12_cashIn_26 (by decide) ?_
      refine jr_goto (tgt := 31) dX12_cashIn_27 (by decide) ?_
      exact jr_sub [0, 1, 2] rfl k
  · have k := k.1 c7
    refine jr_iconst (v := 1) dX12_cashIn_10 (by decide) ?_
    refine jr_goto (tgt := 31) dX12_cashIn_11 (by decide) ?_
    exact jr_sub [0, 1, 2] rfl k
set_option maxRecDepth 20000 in
theorem wX12_cashIn_31 {x1 : Int32} {x2 : Int32} {s1 : Int32} (k : (0 < (((mI μ 4 s1)).1 4) → P (.inl (some (.int 0))) (mw h m (mI μ 4 s1))) ∧ (¬ 0 < (((mI μ 4 s1)).1 4) → ∃ Q9 : Int32 → MW → Prop, Con g mX12_later d [.ref m, .int (22 + x1), .int x2] (mw h m (mI μ 4 s1)) (wPi h m Q9) ∧ ∀ (r3 : Int32) (μ8 : MW), Q9 r3 μ8 → P (.inl (some (.int r3))) (mw h m μ8))) : J g mX12_cashIn (d + 1) hs P 31 [(0, .ref m), (1, .int x1), (2, .int x2)] [.int s1, .ref m] (mw h m μ) := by
  refine jr_putE jp_X12_67 dX12_cashIn_31 mw_o (Nat.le_of_ble_eq_true rfl) rfl rfl (fun h1 e2 => ?_)
  replace e2 := e2.trans (mw_pI 4 s1)
  subst e2
  refine jr_aload_n 0 dX12_cashIn_34 rfl rfl ?_
  refine jr_get jf_X12_67 dX12_cashIn_35 mw_o rfl ?_
  refine jr_if_le (tgt := 45) dX12_cashIn_38 (by decide) (fun c38 => ?_) (fun c38 => ?_)
  · have k := k.2 c38
    refine jr_aload_n 0 dX12_cashIn_45 rfl rfl ?_
    refine jr_bipush (v := 22) dX12_cashIn_46 (by decide) ?_
    refine jr_iload_n 1 dX12_cashIn_48 rfl rfl ?_
    refine jr_iadd dX12_cashIn_49 ?_
    refine jr_iload_n 2 dX12_cashIn_50 rfl rfl ?_
    obtain ⟨Q9, C7, k⟩ := k
    refine jr_cVi (As := [.int (22 + x1), .int x2]) jl_X12_410 km_X12_later rfl rfl dX12_cashIn_51 mw_o (Nat.le_of_ble_eq_true rfl) (Con.pi C7 (fun _ _ q => q) (fun E h' f => f.elim)) (fun r3 h4 q5 => ?_)
    obtain ⟨μ8, q5, q6⟩ := q5
    subst q6
    have k := k r3 μ8 q5
    exact jr_iret (ty := .int) rfl rfl dX12_cashIn_54 k
  · have k := k.1 c38
    refine jr_iconst (v := 0) dX12_cashIn_41 (by decide) ?_
    refine jr_goto (tgt := 54) dX12_cashIn_42 (by decide) ?_
    exact jr_iret (ty := .int) rfl rfl dX12_cashIn_54 k
set_option maxRecDepth 20000 in
theorem wX12_ruinIn_0 {x1 : Int32} (k : ∃ r3 : Int32, Con g mX12_isHouse d [.ref m, .long x1.toInt64] (mw h m (mI μ 4 0)) (jPi (fun r h' => r = r3 ∧ h' = (mw h m (mI μ 4 0))) no2) ∧ (r3 = 0 → ∃ Q21 : Int32 → MW → Prop, Con g mX12_fails d [.ref m, .int 1] (mw h m (mI μ 4 0)) (wPi h m Q21) ∧ ∀ (r15 : Int32) (μ20 : MW), Q21 r15 μ20 → P (.inl (some (.int r15))) (mw h m μ20)) ∧ (¬ r3 = 0 → ∃ Q14 : MW → Prop, Con g mX12_putsAside d [.ref m] (mw h m (mI μ 4 0)) (wPv h m Q14) ∧ ∀ μ13 : MW, Q14 μ13 → J g mX12_ruinIn (d + 1) hs P 26 [(0, .ref m), (1, .int x1), (2, .int 0)] [] (mw h m μ13))) : J g mX12_ruinIn (d + 1) hs P 0 [(0, .ref m), (1, .int x1)] [] (mw h m μ) := by
  refine jr_aload_n 0 dX12_ruinIn_0 rfl rfl ?_
  refine jr_iconst (v := 0) dX12_ruinIn_1 (by decide) ?_
  refine jr_putE jp_X12_67 dX12_ruinIn_2 mw_o (Nat.le_of_ble_eq_true rfl) rfl rfl (fun h1 e2 => ?_)
  replace e2 := e2.trans (mw_pI 4 ((0 : Int32)))
  subst e2
  refine jr_aload_n 0 dX12_ruinIn_5 rfl rfl ?_
  refine jr_iload_n 1 dX12_ruinIn_6 rfl rfl ?_
  refine jr_i2l dX12_ruinIn_7 ?_
  obtain ⟨r3z, C7, k⟩ := k
  refine jr_cVi (As := [.long x1.toInt64]) jl_X12_313 km_X12_isHouse rfl rfl dX12_ruinIn_8 mw_o (Nat.le_of_ble_eq_true rfl) (C7.pi (fun _ _ q => q) (fun E h' f => f.elim)) (fun r3 h4 q5 => ?_)
  obtain ⟨q5, q6⟩ := q5
  subst q6
  subst q5
  refine jr_if_ne (tgt := 20) dX12_ruinIn_11 (by decide) (fun c11 => ?_) (fun c11 => ?_)
  · have k := k.2 c11
    refine jr_aload_n 0 dX12_ruinIn_20 rfl rfl ?_
    obtain ⟨Q14, C12, k⟩ := k
    refine jr_cVv (As := []) jl_X12_380 km_X12_putsAside rfl rfl dX12_ruinIn_21 mw_o (Nat.le_of_ble_eq_true rfl) (Con.pv C12 (fun _ q => q) (fun E h' f => f.elim)) (fun h9 q10 => ?_)
    obtain ⟨μ13, q10, q11⟩ := q10
    subst q11
    have k := k μ13 q10
    refine jr_iconst (v := 0) dX12_ruinIn_24 (by decide) ?_
    refine jr_istore_n (lv' := [(2, .int 0), (0, .ref m), (1, .int x1)]) dX12_ruinIn_25 rfl (by decide) rfl ?_
    exact jr_sub [1, 2, 0] rfl k
  · have k := k.1 c11
    refine jr_aload_n 0 dX12_ruinIn_14 rfl rfl ?_
    refine jr_iconst (v := 1) dX12_ruinIn_15 (by decide) ?_
    obtain ⟨Q21, C19, k⟩ := k
    refine jr_cVi (As := [.int 1]) jl_X12_234 km_X12_fails rfl rfl dX12_ruinIn_16 mw_o (Nat.le_of_ble_eq_true rfl) (Con.pi C19 (fun _ _ q => q) (fun E h' f => f.elim)) (fun r15 h16 q17 => ?_)
    obtain ⟨μ20, q17, q18⟩ := q17
    subst q18
    have k := k r15 μ20 q17
    exact jr_iret (ty := .int) rfl rfl dX12_ruinIn_19 k
set_option maxRecDepth 20000 in
theorem wX12_ruinIn_26 {x1 : Int32} {x2 : Int32} (k : (200 < x2 → J g mX12_ruinIn (d + 1) hs P 51 [(0, .ref m), (2, .int x2)] [] (mw h m μ)) ∧ (¬ 200 < x2 → ∃ r1 : Int32, Con g mX12_isGone d [.ref m, .int x1] (mw h m μ) (jPi (fun r h' => r = r1 ∧ h' = (mw h m μ)) no2) ∧ (r1 = 0 → ∃ Q12 : MW → Prop, Con g mX12_quarter d [.ref m] (mw h m μ) (wPv h m Q12) ∧ ∀ μ11 : MW, Q12 μ11 → J g mX12_ruinIn (d + 1) hs P 26 [(0, .ref m), (1, .int x1), (2, .int (x2 + 1))] [] (mw h m μ11)) ∧ (¬ r1 = 0 → J g mX12_ruinIn (d + 1) hs P 51 [(0, .ref m), (2, .int x2)] [] (mw h m μ)))) : J g mX12_ruinIn (d + 1) hs P 26 [(0, .ref m), (1, .int x1), (2, .int x2)] [] (mw h m μ) := by
  refine jr_iload_n 2 dX12_ruinIn_26 rfl rfl ?_
  refine jr_sipush (v := 200) dX12_ruinIn_27 (by decide) ?_
  refine jr_icmp_gt (tgt := 51) dX12_ruinIn_30 (by decide) (fun c30 => ?_) (fun c30 => ?_)
  · have k := k.1 c30
    exact jr_sub [0, 2] rfl k
  · have k := k.2 c30
    refine jr_aload_n 0 dX12_ruinIn_33 rfl rfl ?_
    refine jr_iload_n 1 dX12_ruinIn_34 rfl rfl ?_
    obtain ⟨r1z, C5, k⟩ := k
    refine jr_cVi (As := [.int x1]) jl_X12_291 km_X12_isGone rfl rfl dX12_ruinIn_35 mw_o (Nat.le_of_ble_eq_true rfl) (C5.pi (fun _ _ q => q) (fun E h' f => f.elim)) (fun r1 h2 q3 => ?_)
    obtain ⟨q3, q4⟩ := q3
    subst q4
    subst q3
    refine jr_if_ne (tgt := 51) dX12_ruinIn_38 (by decide) (fun c38 => ?_) (fun c38 => ?_)
    · have k := k.2 c38
      exact jr_sub [0, 2] rfl k
    · have k := k.1 c38
      refine jr_aload_n 0 dX12_ruinIn_41 rfl rfl ?_
      obtain ⟨Q12, C10, k⟩ := k
      refine jr_cVv (As := []) jl_X12_356 km_X12_quarter rfl rfl dX12_ruinIn_42 mw_o (Nat.le_of_ble_eq_true rfl) (Con.pv C10 (fun _ q => q) (fun E h' f => f.elim)) (fun h7 q8 => ?_)
      obtain ⟨μ11, q8, q9⟩ := q8
      subst q9
      have k := k μ11 q8
      refine jr_iinc (v := (x2 + 1)) (lv' := [(2, .int (x2 + 1)), (0, .ref m), (1, .int x1)]) 2 dX12_ruinIn_45 rfl rfl (by decide) rfl ?_
      refine jr_goto (tgt := 26) dX12_ruinIn_48 (by decide) ?_
      exact jr_sub [1, 2, 0] rfl k
set_option maxRecDepth 20000 in
theorem wX12_ruinIn_51 {x2 : Int32} (k : ∃ Q7 : MW → Prop, Con g mX12_putsBack d [.ref m] (mw h m μ) (wPv h m Q7) ∧ ∀ μ6 : MW, Q7 μ6 → (200 < x2 → P (.inl (some (.int ((-1))))) (mw h m μ6)) ∧ (¬ 200 < x2 → P (.inl (some (.int x2))) (mw h m μ6))) : J g mX12_ruinIn (d + 1) hs P 51 [(0, .ref m), (2, .int x2)] [] (mw h m μ) := by
  refine jr_aload_n 0 dX12_ruinIn_51 rfl rfl ?_
  obtain ⟨Q7, C5, k⟩ := k
  refine jr_cVv (As := []) jl_X12_392 km_X12_putsBack rfl rfl dX12_ruinIn_52 mw_o (Nat.le_of_ble_eq_true rfl) (Con.pv C5 (fun _ q => q) (fun E h' f => f.elim)) (fun h2 q3 => ?_)
  obtain ⟨μ6, q3, q4⟩ := q3
  subst q4
  have k := k μ6 q3
  refine jr_iload_n 1 dX12_ruinIn_55 rfl rfl ?_
  refine jr_sipush (v := 200) dX12_ruinIn_56 (by decide) ?_
  refine jr_icmp_le (tgt := 66) dX12_ruinIn_59 (by decide) (fun c59 => ?_) (fun c59 => ?_)
  · have k := k.2 c59
    refine jr_iload_n 1 dX12_ruinIn_66 rfl rfl ?_
    exact jr_iret (ty := .int) rfl rfl dX12_ruinIn_67 k
  · have k := k.1 c59
    refine jr_iconst (v := (-1)) dX12_ruinIn_62 (by decide) ?_
    refine jr_goto (tgt := 67) dX12_ruinIn_63 (by decide) ?_
    exact jr_iret (ty := .int) rfl rfl dX12_ruinIn_67 k
set_option maxRecDepth 20000 in
theorem wX12_isSoon_0 {x0 : Int32} (k : ∃ r1 : Int32, Con g mX12_within d [.long x0.toInt64, .long 1, .long 20] (mw h m μ) (jPi (fun r h' => r = r1 ∧ h' = (mw h m μ)) no2) ∧ (r1 = 0 ∨ r1 = 1) ∧ P (.inl (some (.int r1))) (mw h m μ)) : J g mX12_isSoon (d + 1) hs P 0 [(0, .int x0)] [] (mw h m μ) := by
  refine jr_iload_n 0 dX12_isSoon_0 rfl rfl ?_
  refine jr_i2l dX12_isSoon_1 ?_
  refine jr_lconst (v := 1) dX12_isSoon_2 (by decide) ?_
  refine jr_ldc2 (v := 20) jk_X12_346 dX12_isSoon_3 ?_
  obtain ⟨r1z, C5, k⟩ := k
  refine jr_cSi (As := [.long x0.toInt64, .long 1, .long 20]) jl_X12_128 km_X12_within rfl rfl dX12_isSoon_6 (Nat.le_of_ble_eq_true rfl) (C5.pi (fun _ _ q => q) (fun E h' f => f.elim)) (fun r1 h2 q3 => ?_)
  obtain ⟨q3, q4⟩ := q3
  subst q4
  subst q3
  exact jr_iret (ty := .boolean) rfl (jz_n k.1) dX12_isSoon_9 k.2
set_option maxRecDepth 20000 in
theorem wX12_lostFromHere_0 {x1 : Int32} (k : J g mX12_lostFromHere (d + 1) hs P 7 [(0, .ref m), (1, .int x1), (2, .int 0)] [] (mw h m (mI μ 27 0))) : J g mX12_lostFromHere (d + 1) hs P 0 [(0, .ref m), (1, .int x1)] [] (mw h m μ) := by
  refine jr_aload_n 0 dX12_lostFromHere_0 rfl rfl ?_
  refine jr_iconst (v := 0) dX12_lostFromHere_1 (by decide) ?_
  refine jr_putE jp_X12_413 dX12_lostFromHere_2 mw_o (Nat.le_of_ble_eq_true rfl) rfl rfl (fun h1 e2 => ?_)
  replace e2 := e2.trans (mw_pI 27 ((0 : Int32)))
  subst e2
  refine jr_iconst (v := 0) dX12_lostFromHere_5 (by decide) ?_
  refine jr_istore_n (lv' := [(2, .int 0), (0, .ref m), (1, .int x1)]) dX12_lostFromHere_6 rfl (by decide) rfl ?_
  exact jr_sub [1, 2, 0] rfl k
set_option maxRecDepth 20000 in
theorem wX12_lostFromHere_7 {x1 : Int32} {x2 : Int32} (k : ∃ r1 : Int32, Con g mX12_houses d [.ref m] (mw h m μ) (jPi (fun r h' => r = r1 ∧ h' = (mw h m μ)) no2) ∧ (x2 < r1 → ∃ r15 : Int32, Con g mX12_isGone d [.ref m, .int x2] (mw h m μ) (jPi (fun r h' => r = r15 ∧ h' = (mw h m μ)) no2) ∧ (r15 = 0 → J g mX12_lostFromHere (d + 1) hs P 35 [(0, .ref m), (1, .int x1), (2, .int x2)] [.int 0, .int (μ.1 27), .ref m] (mw h m μ)) ∧ (¬ r15 = 0 → J g mX12_lostFromHere (d + 1) hs P 35 [(0, .ref m), (1, .int x1), (2, .int x2)] [.int ((1 : Int32) <<< (x2 &&& 31)), .int (μ.1 27), .ref m] (mw h m μ))) ∧ (¬ x2 < r1 → ∃ Q12 : MW → Prop, Con g mX12_goesOn d [.ref m, .int x1] (mw h m μ) (wPv h m Q12) ∧ ∀ μ11 : MW, Q12 μ11 → J g mX12_lostFromHere (d + 1) hs P 62 [(0, .ref m), (2, .int (μ.1 27)), (3, .int 0)] [] (mw h m (mI μ11 27 0)))) : J g mX12_lostFromHere (d + 1) hs P 7 [(0, .ref m), (1, .int x1), (2, .int x2)] [] (mw h m μ) := by
  refine jr_iload_n 2 dX12_lostFromHere_7 rfl rfl ?_
  refine jr_aload_n 0 dX12_lostFromHere_8 rfl rfl ?_
  obtain ⟨r1z, C5, k⟩ := k
  refine jr_cVi (As := []) jl_X12_249 km_X12_houses rfl rfl dX12_lostFromHere_9 mw_o (Nat.le_of_ble_eq_true rfl) (C5.pi (fun _ _ q => q) (fun E h' f => f.elim)) (fun r1 h2 q3 => ?_)
  obtain ⟨q3, q4⟩ := q3
  subst q4
  subst q3
  refine jr_icmp_ge (tgt := 45) dX12_lostFromHere_12 (by decide) (fun c12 => ?_) (fun c12 => ?_)
  · have k := k.2 c12
    refine jr_aload_n 0 dX12_lostFromHere_45 rfl rfl ?_
    refine jr_get jf_X12_413 dX12_lostFromHere_46 mw_o rfl ?_
    refine jr_istore_n (lv' := [(2, .int (μ.1 27)), (0, .ref m), (1, .int x1)]) dX12_lostFromHere_49 rfl (by decide) rfl ?_
    refine jr_aload_n 1 dX12_lostFromHere_50 rfl rfl ?_
    refine jr_iload_n 2 dX12_lostFromHere_51 rfl rfl ?_
    obtain ⟨Q12, C10, k⟩ := k
    refine jr_cVv (As := [.int x1]) jl_X12_407 km_X12_goesOn rfl rfl dX12_lostFromHere_52 mw_o (Nat.le_of_ble_eq_true rfl) (Con.pv C10 (fun _ q => q) (fun E h' f => f.elim)) (fun h7 q8 => ?_)
    obtain ⟨μ11, q8, q9⟩ := q8
    subst q9
    have k := k μ11 q8
    refine jr_aload_n 1 dX12_lostFromHere_55 rfl rfl ?_
    refine jr_iconst (v := 0) dX12_lostFromHere_56 (by decide) ?_
    refine jr_putE jp_X12_413 dX12_lostFromHere_57 mw_o (Nat.le_of_ble_eq_true rfl) rfl rfl (fun h13 e14 => ?_)
    replace e14 := e14.trans (mw_pI 27 ((0 : Int32)))
    subst e14
    refine jr_iconst (v := 0) dX12_lostFromHere_60 (by decide) ?_
    refine jr_istore_n (lv' := [(3, .int 0), (2, .int (μ.1 27)), (0, .ref m), (1, .int x1)]) dX12_lostFromHere_61 rfl (by decide) rfl ?_
    exact jr_sub [2, 1, 0] rfl k
  · have k := k.1 c12
    refine jr_aload_n 0 dX12_lostFromHere_15 rfl rfl ?_
    refine jr_dup dX12_lostFromHere_16 rfl ?_
    refine jr_get jf_X12_413 dX12_lostFromHere_17 mw_o rfl ?_
    refine jr_aload_n 0 dX12_lostFromHere_20 rfl rfl ?_
    refine jr_iload_n 2 dX12_lostFromHere_21 rfl rfl ?_
    obtain ⟨r15z, C19, k⟩ := k
    refine jr_cVi (As := [.int x2]) jl_X12_291 km_X12_isGone rfl rfl dX12_lostFromHere_22 mw_o (Nat.le_of_ble_eq_true rfl) (C19.pi (fun _ _ q => q) (fun E h' f => f.elim)) (fun r15 h16 q17 => ?_)
    obtain ⟨q17, q18⟩ := q17
    subst q18
    subst q17
    refine jr_if_eq (tgt := 34) dX12_lostFromHere_25 (by decide) (fun c25 => ?_) (fun c25 => ?_)
    · have k := k.1 c25
      refine jr_iconst (v := 0) dX12_lostFromHere_34 (by decide) ?_
      exact jr_sub [0, 1, 2] rfl k
    · have k := k.2 c25
      refine jr_iconst (v := 1) dX12_lostFromHere_28 (by decide) ?_
      refine jr_iload_n 2 dX12_lostFromHere_29 rfl rfl ?_
      refine jr_ishl dX12_lostFromHere_30 ?_
      refine jr_goto (tgt := 35) dX12_lostFromHere_31 (by decide) ?_
      exact jr_sub [0, 1, 2] rfl k
set_option maxRecDepth 20000 in
theorem wX12_lostFromHere_35 {x1 : Int32} {x2 : Int32} {s1 : Int32} {s2 : Int32} (k : J g mX12_lostFromHere (d + 1) hs P 7 [(0, .ref m), (1, .int x1), (2, .int (x2 + 1))] [] (mw h m (mI μ 27 ((s1 ||| s2))))) : J g mX12_lostFromHere (d + 1) hs P 35 [(0, .ref m), (1, .int x1), (2, .int x2)] [.int s2, .int s1, .ref m] (mw h m μ) := by
  refine jr_ior dX12_lostFromHere_35 ?_
  refine jr_putE jp_X12_413 dX12_lostFromHere_36 mw_o (Nat.le_of_ble_eq_true rfl) rfl rfl (fun h1 e2 => ?_)
  replace e2 := e2.trans (mw_pI 27 ((s1 ||| s2)))
  subst e2
  refine jr_iinc (v := (x2 + 1)) (lv' := [(2, .int (x2 + 1)), (0, .ref m), (1, .int x1)]) 2 dX12_lostFromHere_39 rfl rfl (by decide) rfl ?_
  refine jr_goto (tgt := 7) dX12_lostFromHere_42 (by decide) ?_
  exact jr_sub [1, 2, 0] rfl k
set_option maxRecDepth 20000 in
theorem wX12_lostFromHere_62 {x2 : Int32} {x3 : Int32} (k : ∃ r1 : Int32, Con g mX12_houses d [.ref m] (mw h m μ) (jPi (fun r h' => r = r1 ∧ h' = (mw h m μ)) no2) ∧ (x3 < r1 → ∃ r20 : Int32, Con g mX12_isGone d [.ref m, .int x3] (mw h m μ) (jPi (fun r h' => r = r20 ∧ h' = (mw h m μ)) no2) ∧ (r20 = 0 → J g mX12_lostFromHere (d + 1) hs P 90 [(0, .ref m), (2, .int x2), (3, .int x3)] [.int 0, .int (μ.1 27), .ref m] (mw h m μ)) ∧ (¬ r20 = 0 → J g mX12_lostFromHere (d + 1) hs P 90 [(0, .ref m), (2, .int x2), (3, .int x3)] [.int ((1 : Int32) <<< (x3 &&& 31)), .int (μ.1 27), .ref m] (mw h m μ))) ∧ (¬ x3 < r1 → ∃ Q14 : MW → Prop, Con g mX12_putsBack d [.ref m] (mw h m (mI μ 27 (((μ.1 27) &&& (x2 ^^^ (-1)))))) (wPv h m Q14) ∧ ∀ μ13 : MW, Q14 μ13 → ∃ r15 : Int32, Con g mX12_size d [.int (μ13.1 27)] (mw h m μ13) (jPi (fun r h' => r = r15 ∧ h' = (mw h m μ13)) no2) ∧ P (.inl (some (.int r15))) (mw h m μ13))) : J g mX12_lostFromHere (d + 1) hs P 62 [(0, .ref m), (2, .int x2), (3, .int x3)] [] (mw h m μ) := by
  refine jr_iload_n 2 dX12_lostFromHere_62 rfl rfl ?_
  refine jr_aload_n 0 dX12_lostFromHere_63 rfl rfl ?_
  obtain ⟨r1z, C5, k⟩ := k
  refine jr_cVi (As := []) jl_X12_249 km_X12_houses rfl rfl dX12_lostFromHere_64 mw_o (Nat.le_of_ble_eq_true rfl) (C5.pi (fun _ _ q => q) (fun E h' f => f.elim)) (fun r1 h2 q3 => ?_)
  obtain ⟨q3, q4⟩ := q3
  subst q4
  subst q3
  refine jr_icmp_ge (tgt := 100) dX12_lostFromHere_67 (by decide) (fun c67 => ?_) (fun c67 => ?_)
  · have k := k.2 c67
    refine jr_aload_n 0 dX12_lostFromHere_100 rfl rfl ?_
    refine jr_dup dX12_lostFromHere_101 rfl ?_
    refine jr_get jf_X12_413 dX12_lostFromHere_102 mw_o rfl ?_
    refine jr_iload_n 1 dX12_lostFromHere_105 rfl rfl ?_
    refine jr_iconst (v := (-1)) dX12_lostFromHere_106 (by decide) ?_
    refine jr_ixor dX12_lostFromHere_107 ?_
    refine jr_iand dX12_lostFromHere_108 ?_
    refine jr_putE jp_X12_413 dX12_lostFromHere_109 mw_o (Nat.le_of_ble_eq_true rfl) rfl rfl (fun h6 e7 => ?_)
    replace e7 := e7.trans (mw_pI 27 (((μ.1 27) &&& (x2 ^^^ (-1)))))
    subst e7
    refine jr_aload_n 0 dX12_lostFromHere_112 rfl rfl ?_
    obtain ⟨Q14, C12, k⟩ := k
    refine jr_cVv (As := []) jl_X12_392 km_X12_putsBack rfl rfl dX12_lostFromHere_113 mw_o (Nat.le_of_ble_eq_true rfl) (Con.pv C12 (fun _ q => q) (fun E h' f => f.elim)) (fun h9 q10 => ?_)
    obtain ⟨μ13, q10, q11⟩ := q10
    subst q11
    have k := k μ13 q10
    refine jr_aload_n 0 dX12_lostFromHere_116 rfl rfl ?_
    refine jr_get jf_X12_413 dX12_lostFromHere_117 mw_o rfl ?_
    obtain ⟨r15z, C19, k⟩ := k
    refine jr_cSi (As := [.int (μ13.1 27)]) jl_X12_416 km_X12_size rfl rfl dX12_lostFromHere_120 (Nat.le_of_ble_eq_true rfl) (C19.pi (fun _ _ q => q) (fun E h' f => f.elim)) (fun r15 h16 q17 => ?_)
    obtain ⟨q17, q18⟩ := q17
    subst q18
    subst q17
    exact jr_iret (ty := .int) rfl rfl dX12_lostFromHere_123 k
  · have k := k.1 c67
    refine jr_aload_n 0 dX12_lostFromHere_70 rfl rfl ?_
    refine jr_dup dX12_lostFromHere_71 rfl ?_
    refine jr_get jf_X12_413 dX12_lostFromHere_72 mw_o rfl ?_
    refine jr_aload_n 0 dX12_lostFromHere_75 rfl rfl ?_
    refine jr_iload_n 2 dX12_lostFromHere_76 rfl rfl ?_
    obtain ⟨r20z, C24, k⟩ := k
    refine jr_cVi (As := [.int x3]) jl_X12_291 km_X12_isGone rfl rfl dX12_lostFromHere_77 mw_o (Nat.le_of_ble_eq_true rfl) (C24.pi (fun _ _ q => q) (fun E h' f => f.elim)) (fun r20 h21 q22 => ?_)
    obtain ⟨q22, q23⟩ := q22
    subst q23
    subst q22
    refine jr_if_eq (tgt := 89) dX12_lostFromHere_80 (by decide) (fun c80 => ?_) (fun c80 => ?_)
    · have k := k.1 c80
      refine jr_iconst (v := 0) dX12_lostFromHere_89 (by decide) ?_
      exact jr_sub [0, 1, 2] rfl k
    · have k := k.2 c80
      refine jr_iconst (v := 1) dX12_lostFromHere_83 (by decide) ?_
      refine jr_iload_n 2 dX12_lostFromHere_84 rfl rfl ?_
      refine jr_ishl dX12_lostFromHere_85 ?_
      refine jr_goto (tgt := 90) dX12_lostFromHere_86 (by decide) ?_
      exact jr_sub [0, 1, 2] rfl k
set_option maxRecDepth 20000 in
theorem wX12_lostFromHere_90 {x2 : Int32} {x3 : Int32} {s1 : Int32} {s2 : Int32} (k : J g mX12_lostFromHere (d + 1) hs P 62 [(0, .ref m), (2, .int x2), (3, .int (x3 + 1))] [] (mw h m (mI μ 27 ((s1 ||| s2))))) : J g mX12_lostFromHere (d + 1) hs P 90 [(0, .ref m), (2, .int x2), (3, .int x3)] [.int s2, .int s1, .ref m] (mw h m μ) := by
  refine jr_ior dX12_lostFromHere_90 ?_
  refine jr_putE jp_X12_413 dX12_lostFromHere_91 mw_o (Nat.le_of_ble_eq_true rfl) rfl rfl (fun h1 e2 => ?_)
  replace e2 := e2.trans (mw_pI 27 ((s1 ||| s2)))
  subst e2
  refine jr_iinc (v := (x3 + 1)) (lv' := [(3, .int (x3 + 1)), (0, .ref m), (2, .int x2)]) 2 dX12_lostFromHere_94 rfl rfl (by decide) rfl ?_
  refine jr_goto (tgt := 62) dX12_lostFromHere_97 (by decide) ?_
  exact jr_sub [1, 2, 0] rfl k
set_option maxRecDepth 20000 in
theorem wX12_lostNow_0 {x1 : Int32} (k : ∃ Q7 : MW → Prop, Con g mX12_putsAside d [.ref m] (mw h m μ) (wPv h m Q7) ∧ ∀ μ6 : MW, Q7 μ6 → ∃ Q14 : Int32 → MW → Prop, Con g mX12_lostFromHere d [.ref m, .int x1] (mw h m μ6) (wPi h m Q14) ∧ ∀ (r8 : Int32) (μ13 : MW), Q14 r8 μ13 → P (.inl (some (.int r8))) (mw h m μ13)) : J g mX12_lostNow (d + 1) hs P 0 [(0, .ref m), (1, .int x1)] [] (mw h m μ) := by
  refine jr_aload_n 0 dX12_lostNow_0 rfl rfl ?_
  obtain ⟨Q7, C5, k⟩ := k
  refine jr_cVv (As := []) jl_X12_380 km_X12_putsAside rfl rfl dX12_lostNow_1 mw_o (Nat.le_of_ble_eq_true rfl) (Con.pv C5 (fun _ q => q) (fun E h' f => f.elim)) (fun h2 q3 => ?_)
  obtain ⟨μ6, q3, q4⟩ := q3
  subst q4
  have k := k μ6 q3
  refine jr_aload_n 0 dX12_lostNow_4 rfl rfl ?_
  refine jr_iload_n 1 dX12_lostNow_5 rfl rfl ?_
  obtain ⟨Q14, C12, k⟩ := k
  refine jr_cVi (As := [.int x1]) jl_X12_419 km_X12_lostFromHere rfl rfl dX12_lostNow_6 mw_o (Nat.le_of_ble_eq_true rfl) (Con.pi C12 (fun _ _ q => q) (fun E h' f => f.elim)) (fun r8 h9 q10 => ?_)
  obtain ⟨μ13, q10, q11⟩ := q10
  subst q11
  have k := k r8 μ13 q10
  exact jr_iret (ty := .int) rfl rfl dX12_lostNow_9 k
set_option maxRecDepth 20000 in
theorem wX12_lost_0 {x1 : Int32} (k : ∃ r3 : Int32, Con g mX12_isSoon d [.int x1] (mw h m (mI μ 4 0)) (jPi (fun r h' => r = r3 ∧ h' = (mw h m (mI μ 4 0))) no2) ∧ (r3 = 0 → ∃ Q14 : Int32 → MW → Prop, Con g mX12_fails d [.ref m, .int 1] (mw h m (mI μ 4 0)) (wPi h m Q14) ∧ ∀ (r8 : Int32) (μ13 : MW), Q14 r8 μ13 → P (.inl (some (.int r8))) (mw h m μ13)) ∧ (¬ r3 = 0 → ∃ Q21 : Int32 → MW → Prop, Con g mX12_lostNow d [.ref m, .int x1] (mw h m (mI μ 4 0)) (wPi h m Q21) ∧ ∀ (r15 : Int32) (μ20 : MW), Q21 r15 μ20 → P (.inl (some (.int r15))) (mw h m μ20))) : J g mX12_lost (d + 1) hs P 0 [(0, .ref m), (1, .int x1)] [] (mw h m μ) := by
  refine jr_aload_n 0 dX12_lost_0 rfl rfl ?_
  refine jr_iconst (v := 0) dX12_lost_1 (by decide) ?_
  refine jr_putE jp_X12_67 dX12_lost_2 mw_o (Nat.le_of_ble_eq_true rfl) rfl rfl (fun h1 e2 => ?_)
  replace e2 := e2.trans (mw_pI 4 ((0 : Int32)))
  subst e2
  refine jr_iload_n 1 dX12_lost_5 rfl rfl ?_
  obtain ⟨r3z, C7, k⟩ := k
  refine jr_cSi (As := [.int x1]) jl_X12_422 km_X12_isSoon rfl rfl dX12_lost_6 (Nat.le_of_ble_eq_true rfl) (C7.pi (fun _ _ q => q) (fun E h' f => f.elim)) (fun r3 h4 q5 => ?_)
  obtain ⟨q5, q6⟩ := q5
  subst q6
  subst q5
  refine jr_if_eq (tgt := 20) dX12_lost_9 (by decide) (fun c9 => ?_) (fun c9 => ?_)
  · have k := k.1 c9
    refine jr_aload_n 0 dX12_lost_20 rfl rfl ?_
    refine jr_iconst (v := 1) dX12_lost_21 (by decide) ?_
    obtain ⟨Q14, C12, k⟩ := k
    refine jr_cVi (As := [.int 1]) jl_X12_234 km_X12_fails rfl rfl dX12_lost_22 mw_o (Nat.le_of_ble_eq_true rfl) (Con.pi C12 (fun _ _ q => q) (fun E h' f => f.elim)) (fun r8 h9 q10 => ?_)
    obtain ⟨μ13, q10, q11⟩ := q10
    subst q11
    have k := k r8 μ13 q10
    exact jr_iret (ty := .int) rfl rfl dX12_lost_25 k
  · have k := k.2 c9
    refine jr_aload_n 0 dX12_lost_12 rfl rfl ?_
    refine jr_iload_n 1 dX12_lost_13 rfl rfl ?_
    obtain ⟨Q21, C19, k⟩ := k
    refine jr_cVi (As := [.int x1]) jl_X12_425 km_X12_lostNow rfl rfl dX12_lost_14 mw_o (Nat.le_of_ble_eq_true rfl) (Con.pi C19 (fun _ _ q => q) (fun E h' f => f.elim)) (fun r15 h16 q17 => ?_)
    obtain ⟨μ20, q17, q18⟩ := q17
    subst q18
    have k := k r15 μ20 q17
    refine jr_goto (tgt := 25) dX12_lost_17 (by decide) ?_
    exact jr_iret (ty := .int) rfl rfl dX12_lost_25 k
set_option maxRecDepth 20000 in
theorem wX12_clear_0  (k : ∃ Q9 : MW → Prop, Con g mX12_putsAside d [.ref m] (mw h m (mI μ 4 0)) (wPv h m Q9) ∧ ∀ μ8 : MW, Q9 μ8 → J g mX12_clear (d + 1) hs P 11 [(0, .ref m), (1, .int 0)] [] (mw h m μ8)) : J g mX12_clear (d + 1) hs P 0 [(0, .ref m)] [] (mw h m μ) := by
  refine jr_aload_n 0 dX12_clear_0 rfl rfl ?_
  refine jr_iconst (v := 0) dX12_clear_1 (by decide) ?_
  refine jr_putE jp_X12_67 dX12_clear_2 mw_o (Nat.le_of_ble_eq_true rfl) rfl rfl (fun h1 e2 => ?_)
  replace e2 := e2.trans (mw_pI 4 ((0 : Int32)))
  subst e2
  refine jr_aload_n 0 dX12_clear_5 rfl rfl ?_
  obtain ⟨Q9, C7, k⟩ := k
  refine jr_cVv (As := []) jl_X12_380 km_X12_putsAside rfl rfl dX12_clear_6 mw_o (Nat.le_of_ble_eq_true rfl) (Con.pv C7 (fun _ q => q) (fun E h' f => f.elim)) (fun h4 q5 => ?_)
  obtain ⟨μ8, q5, q6⟩ := q5
  subst q6
  have k := k μ8 q5
  refine jr_iconst (v := 0) dX12_clear_9 (by decide) ?_
  refine jr_istore_n (lv' := [(1, .int 0), (0, .ref m)]) dX12_clear_10 rfl (by decide) rfl ?_
  exact jr_sub [1, 0] rfl k
set_option maxRecDepth 20000 in
theorem wX12_clear_11 {x1 : Int32} (k : (200 < x1 → J g mX12_clear (d + 1) hs P 37 [(0, .ref m), (1, .int x1)] [] (mw h m μ)) ∧ (¬ 200 < x1 → ∃ r1 : Int32, Con g mX12_sumOf d [.ref m, .int 36] (mw h m μ) (jPi (fun r h' => r = r1 ∧ h' = (mw h m μ)) no2) ∧ (0 < r1 → ∃ Q12 : MW → Prop, Con g mX12_quarter d [.ref m] (mw h m μ) (wPv h m Q12) ∧ ∀ μ11 : MW, Q12 μ11 → J g mX12_clear (d + 1) hs P 11 [(0, .ref m), (1, .int (x1 + 1))] [] (mw h m μ11)) ∧ (¬ 0 < r1 → J g mX12_clear (d + 1) hs P 37 [(0, .ref m), (1, .int x1)] [] (mw h m μ)))) : J g mX12_clear (d + 1) hs P 11 [(0, .ref m), (1, .int x1)] [] (mw h m μ) := by
  refine jr_iload_n 1 dX12_clear_11 rfl rfl ?_
  refine jr_sipush (v := 200) dX12_clear_12 (by decide) ?_
  refine jr_icmp_gt (tgt := 37) dX12_clear_15 (by decide) (fun c15 => ?_) (fun c15 => ?_)
  · have k := k.1 c15
    exact jr_sub [0, 1] rfl k
  · have k := k.2 c15
    refine jr_aload_n 0 dX12_clear_18 rfl rfl ?_
    refine jr_bipush (v := 36) dX12_clear_19 (by decide) ?_
    obtain ⟨r1z, C5, k⟩ := k
    refine jr_cVi (As := [.int 36]) jl_X12_389 km_X12_sumOf rfl rfl dX12_clear_21 mw_o (Nat.le_of_ble_eq_true rfl) (C5.pi (fun _ _ q => q) (fun E h' f => f.elim)) (fun r1 h2 q3 => ?_)
    obtain ⟨q3, q4⟩ := q3
    subst q4
    subst q3
    refine jr_if_le (tgt := 37) dX12_clear_24 (by decide) (fun c24 => ?_) (fun c24 => ?_)
    · have k := k.2 c24
      exact jr_sub [0, 1] rfl k
    · have k := k.1 c24
      refine jr_aload_n 0 dX12_clear_27 rfl rfl ?_
      obtain ⟨Q12, C10, k⟩ := k
      refine jr_cVv (As := []) jl_X12_356 km_X12_quarter rfl rfl dX12_clear_28 mw_o (Nat.le_of_ble_eq_true rfl) (Con.pv C10 (fun _ q => q) (fun E h' f => f.elim)) (fun h7 q8 => ?_)
      obtain ⟨μ11, q8, q9⟩ := q8
      subst q9
      have k := k μ11 q8
      refine jr_iinc (v := (x1 + 1)) (lv' := [(1, .int (x1 + 1)), (0, .ref m)]) 1 dX12_clear_31 rfl rfl (by decide) rfl ?_
      refine jr_goto (tgt := 11) dX12_clear_34 (by decide) ?_
      exact jr_sub [1, 0] rfl k
set_option maxRecDepth 20000 in
theorem wX12_clear_37 {x1 : Int32} (k : ∃ Q7 : MW → Prop, Con g mX12_putsBack d [.ref m] (mw h m μ) (wPv h m Q7) ∧ ∀ μ6 : MW, Q7 μ6 → (200 < x1 → P (.inl (some (.int ((-1))))) (mw h m μ6)) ∧ (¬ 200 < x1 → P (.inl (some (.int x1))) (mw h m μ6))) : J g mX12_clear (d + 1) hs P 37 [(0, .ref m), (1, .int x1)] [] (mw h m μ) := by
  refine jr_aload_n 0 dX12_clear_37 rfl rfl ?_
  obtain ⟨Q7, C5, k⟩ := k
  refine jr_cVv (As := []) jl_X12_392 km_X12_putsBack rfl rfl dX12_clear_38 mw_o (Nat.le_of_ble_eq_true rfl) (Con.pv C5 (fun _ q => q) (fun E h' f => f.elim)) (fun h2 q3 => ?_)
  obtain ⟨μ6, q3, q4⟩ := q3
  subst q4
  have k := k μ6 q3
  refine jr_iload_n 1 dX12_clear_41 rfl rfl ?_
  refine jr_sipush (v := 200) dX12_clear_42 (by decide) ?_
  refine jr_icmp_le (tgt := 52) dX12_clear_45 (by decide) (fun c45 => ?_) (fun c45 => ?_)
  · have k := k.2 c45
    refine jr_iload_n 1 dX12_clear_52 rfl rfl ?_
    exact jr_iret (ty := .int) rfl rfl dX12_clear_53 k
  · have k := k.1 c45
    refine jr_iconst (v := (-1)) dX12_clear_48 (by decide) ?_
    refine jr_goto (tgt := 53) dX12_clear_49 (by decide) ?_
    exact jr_iret (ty := .int) rfl rfl dX12_clear_53 k
set_option maxRecDepth 20000 in
theorem wX12_seaIn_0 {x1 : Int32} (k : ∃ r3 : Int32, Con g mX12_within d [.long x1.toInt64, .long 0, .long 200] (mw h m (mI μ 4 0)) (jPi (fun r h' => r = r3 ∧ h' = (mw h m (mI μ 4 0))) no2) ∧ (r3 = 0 → ∃ Q14 : Int32 → MW → Prop, Con g mX12_fails d [.ref m, .int 1] (mw h m (mI μ 4 0)) (wPi h m Q14) ∧ ∀ (r8 : Int32) (μ13 : MW), Q14 r8 μ13 → P (.inl (some (.int r8))) (mw h m μ13)) ∧ (¬ r3 = 0 → ∃ Q21 : Int32 → MW → Prop, Con g mX12_later d [.ref m, .int 50, .int x1] (mw h m (mI μ 4 0)) (wPi h m Q21) ∧ ∀ (r15 : Int32) (μ20 : MW), Q21 r15 μ20 → P (.inl (some (.int r15))) (mw h m μ20))) : J g mX12_seaIn (d + 1) hs P 0 [(0, .ref m), (1, .int x1)] [] (mw h m μ) := by
  refine jr_aload_n 0 dX12_seaIn_0 rfl rfl ?_
  refine jr_iconst (v := 0) dX12_seaIn_1 (by decide) ?_
  refine jr_putE jp_X12_67 dX12_seaIn_2 mw_o (Nat.le_of_ble_eq_true rfl) rfl rfl (fun h1 e2 => ?_)
  replace e2 := e2.trans (mw_pI 4 ((0 : Int32)))
  subst e2
  refine jr_iload_n 1 dX12_seaIn_5 rfl rfl ?_
  refine jr_i2l dX12_seaIn_6 ?_
  refine jr_lconst (v := 0) dX12_seaIn_7 (by decide) ?_
  refine jr_ldc2 (v := 200) jk_X12_369 dX12_seaIn_8 ?_
  obtain ⟨r3z, C7, k⟩ := k
  refine jr_cSi (As := [.long x1.toInt64, .long 0, .long 200]) jl_X12_128 km_X12_within rfl rfl dX12_seaIn_11 (Nat.le_of_ble_eq_true rfl) (C7.pi (fun _ _ q => q) (fun E h' f => f.elim)) (fun r3 h4 q5 => ?_)
  obtain ⟨q5, q6⟩ := q5
  subst q6
  subst q5
  refine jr_if_eq (tgt := 27) dX12_seaIn_14 (by decide) (fun c14 => ?_) (fun c14 => ?_)
  · have k := k.1 c14
    refine jr_aload_n 0 dX12_seaIn_27 rfl rfl ?_
    refine jr_iconst (v := 1) dX12_seaIn_28 (by decide) ?_
    obtain ⟨Q14, C12, k⟩ := k
    refine jr_cVi (As := [.int 1]) jl_X12_234 km_X12_fails rfl rfl dX12_seaIn_29 mw_o (Nat.le_of_ble_eq_true rfl) (Con.pi C12 (fun _ _ q => q) (fun E h' f => f.elim)) (fun r8 h9 q10 => ?_)
    obtain ⟨μ13, q10, q11⟩ := q10
    subst q11
    have k := k r8 μ13 q10
    exact jr_iret (ty := .int) rfl rfl dX12_seaIn_32 k
  · have k := k.2 c14
    refine jr_aload_n 0 dX12_seaIn_17 rfl rfl ?_
    refine jr_bipush (v := 50) dX12_seaIn_18 (by decide) ?_
    refine jr_iload_n 1 dX12_seaIn_20 rfl rfl ?_
    obtain ⟨Q21, C19, k⟩ := k
    refine jr_cVi (As := [.int 50, .int x1]) jl_X12_410 km_X12_later rfl rfl dX12_seaIn_21 mw_o (Nat.le_of_ble_eq_true rfl) (Con.pi C19 (fun _ _ q => q) (fun E h' f => f.elim)) (fun r15 h16 q17 => ?_)
    obtain ⟨μ20, q17, q18⟩ := q17
    subst q18
    have k := k r15 μ20 q17
    refine jr_goto (tgt := 32) dX12_seaIn_24 (by decide) ?_
    exact jr_iret (ty := .int) rfl rfl dX12_seaIn_32 k
set_option maxRecDepth 20000 in
theorem wX12_burdenFromHere_0 {x1 : Int32} {x2 : Int32} (k : J g mX12_burdenFromHere (d + 1) hs P 5 [(0, .ref m), (1, .int x1), (2, .int x2), (3, .long 0), (5, .int 0)] [] (mw h m μ)) : J g mX12_burdenFromHere (d + 1) hs P 0 [(0, .ref m), (1, .int x1), (2, .int x2)] [] (mw h m μ) := by
  refine jr_lconst (v := 0) dX12_burdenFromHere_0 (by decide) ?_
  refine jr_lstore_n (lv' := [(3, .long 0), (0, .ref m), (1, .int x1), (2, .int x2)]) dX12_burdenFromHere_1 rfl (by decide) rfl ?_
  refine jr_iconst (v := 0) dX12_burdenFromHere_2 (by decide) ?_
  refine jr_istore (lv' := [(5, .int 0), (3, .long 0), (0, .ref m), (1, .int x1), (2, .int x2)]) dX12_burdenFromHere_3 (by decide) rfl ?_
  exact jr_sub [2, 3, 4, 1, 0] rfl k
set_option maxRecDepth 20000 in
theorem wX12_burdenFromHere_5 {x1 : Int32} {x2 : Int32} {x3 : Int64} {x5 : Int32} (k : (x5 < x2 → ∃ Q14 : MW → Prop, Con g mX12_quarter d [.ref m] (mw h m μ) (wPv h m Q14) ∧ ∀ μ13 : MW, Q14 μ13 → vp_in x1 7 ∧ J g mX12_burdenFromHere (d + 1) hs P 5 [(0, .ref m), (1, .int x1), (2, .int x2), (3, .long (x3 + ((μ13.2.1 8 (ix x1))).toInt64)), (5, .int (x5 + 1))] [] (mw h m μ13)) ∧ (¬ x5 < x2 → ∃ Q7 : MW → Prop, Con g mX12_putsBack d [.ref m] (mw h m μ) (wPv h m Q7) ∧ ∀ μ6 : MW, Q7 μ6 → P (.inl (some (.long x3))) (mw h m μ6))) : J g mX12_burdenFromHere (d + 1) hs P 5 [(0, .ref m), (1, .int x1), (2, .int x2), (3, .long x3), (5, .int x5)] [] (mw h m μ) := by
  refine jr_iload 4 dX12_burdenFromHere_5 rfl ?_
  refine jr_iload_n 2 dX12_burdenFromHere_7 rfl rfl ?_
  refine jr_icmp_ge (tgt := 31) dX12_burdenFromHere_8 (by decide) (fun c8 => ?_) (fun c8 => ?_)
  · have k := k.2 c8
    refine jr_aload_n 0 dX12_burdenFromHere_31 rfl rfl ?_
    obtain ⟨Q7, C5, k⟩ := k
    refine jr_cVv (As := []) jl_X12_392 km_X12_putsBack rfl rfl dX12_burdenFromHere_32 mw_o (Nat.le_of_ble_eq_true rfl) (Con.pv C5 (fun _ q => q) (fun E h' f => f.elim)) (fun h2 q3 => ?_)
    obtain ⟨μ6, q3, q4⟩ := q3
    subst q4
    have k := k μ6 q3
    refine jr_lload_n 3 dX12_burdenFromHere_35 rfl rfl ?_
    exact jr_lret rfl dX12_burdenFromHere_36 k
  · have k := k.1 c8
    refine jr_aload_n 0 dX12_burdenFromHere_11 rfl rfl ?_
    obtain ⟨Q14, C12, k⟩ := k
    refine jr_cVv (As := []) jl_X12_356 km_X12_quarter rfl rfl dX12_burdenFromHere_12 mw_o (Nat.le_of_ble_eq_true rfl) (Con.pv C12 (fun _ q => q) (fun E h' f => f.elim)) (fun h9 q10 => ?_)
    obtain ⟨μ13, q10, q11⟩ := q10
    subst q11
    have k := k μ13 q10
    refine jr_lload_n 3 dX12_burdenFromHere_15 rfl rfl ?_
    refine jr_aload_n 0 dX12_burdenFromHere_16 rfl rfl ?_
    refine jr_get jf_X12_36 dX12_burdenFromHere_17 mw_o rfl ?_
    refine jr_iload_n 1 dX12_burdenFromHere_20 rfl rfl ?_
    obtain ⟨e15, k⟩ := k
    refine jr_iald dX12_burdenFromHere_21 mw_8 e15 ?_
    refine jr_i2l dX12_burdenFromHere_22 ?_
    refine jr_ladd dX12_burdenFromHere_23 ?_
    refine jr_lstore_n (lv' := [(3, .long (x3 + ((μ13.2.1 8 (ix x1))).toInt64)), (0, .ref m), (1, .int x1), (2, .int x2), (5, .int x5)]) dX12_burdenFromHere_24 rfl (by decide) rfl ?_
    refine jr_iinc (v := (x5 + 1)) (lv' := [(5, .int (x5 + 1)), (3, .long (x3 + ((μ13.2.1 8 (ix x1))).toInt64)), (0, .ref m), (1, .int x1), (2, .int x2)]) 4 dX12_burdenFromHere_25 rfl rfl (by decide) rfl ?_
    refine jr_goto (tgt := 5) dX12_burdenFromHere_28 (by decide) ?_
    exact jr_sub [2, 3, 4, 1, 0] rfl k
set_option maxRecDepth 20000 in
theorem wX12_burdenNow_0 {x1 : Int32} {x2 : Int32} (k : ∃ Q7 : MW → Prop, Con g mX12_putsAside d [.ref m] (mw h m μ) (wPv h m Q7) ∧ ∀ μ6 : MW, Q7 μ6 → ∃ Q14 : Int64 → MW → Prop, Con g mX12_burdenFromHere d [.ref m, .int x1, .int x2] (mw h m μ6) (wPl h m Q14) ∧ ∀ (r8 : Int64) (μ13 : MW), Q14 r8 μ13 → P (.inl (some (.long r8))) (mw h m μ13)) : J g mX12_burdenNow (d + 1) hs P 0 [(0, .ref m), (1, .int x1), (2, .int x2)] [] (mw h m μ) := by
  refine jr_aload_n 0 dX12_burdenNow_0 rfl rfl ?_
  obtain ⟨Q7, C5, k⟩ := k
  refine jr_cVv (As := []) jl_X12_380 km_X12_putsAside rfl rfl dX12_burdenNow_1 mw_o (Nat.le_of_ble_eq_true rfl) (Con.pv C5 (fun _ q => q) (fun E h' f => f.elim)) (fun h2 q3 => ?_)
  obtain ⟨μ6, q3, q4⟩ := q3
  subst q4
  have k := k μ6 q3
  refine jr_aload_n 0 dX12_burdenNow_4 rfl rfl ?_
  refine jr_iload_n 1 dX12_burdenNow_5 rfl rfl ?_
  refine jr_iload_n 2 dX12_burdenNow_6 rfl rfl ?_
  obtain ⟨Q14, C12, k⟩ := k
  refine jr_cVl (As := [.int x1, .int x2]) jl_X12_428 km_X12_burdenFromHere rfl rfl dX12_burdenNow_7 mw_o (Nat.le_of_ble_eq_true rfl) (Con.pl C12 (fun _ _ q => q) (fun E h' f => f.elim)) (fun r8 h9 q10 => ?_)
  obtain ⟨μ13, q10, q11⟩ := q10
  subst q11
  have k := k r8 μ13 q10
  exact jr_lret rfl dX12_burdenNow_10 k
set_option maxRecDepth 20000 in
theorem wX12_isSoonOut_0 {x1 : Int32} {x2 : Int32} (k : ∃ r1 : Int32, Con g mX12_isHouse d [.ref m, .long x1.toInt64] (mw h m μ) (jPi (fun r h' => r = r1 ∧ h' = (mw h m μ)) no2) ∧ (r1 = 0 → J g mX12_isSoonOut (d + 1) hs P 26 [(0, .ref m)] [.int 1, .ref m] (mw h m μ)) ∧ (¬ r1 = 0 → ∃ r6 : Int32, Con g mX12_isSoon d [.int x2] (mw h m μ) (jPi (fun r h' => r = r6 ∧ h' = (mw h m μ)) no2) ∧ (r6 = 0 → J g mX12_isSoonOut (d + 1) hs P 26 [(0, .ref m)] [.int 2, .ref m] (mw h m μ)) ∧ (¬ r6 = 0 → J g mX12_isSoonOut (d + 1) hs P 26 [(0, .ref m)] [.int 0, .ref m] (mw h m μ)))) : J g mX12_isSoonOut (d + 1) hs P 0 [(0, .ref m), (1, .int x1), (2, .int x2)] [] (mw h m μ) := by
  refine jr_aload_n 0 dX12_isSoonOut_0 rfl rfl ?_
  refine jr_aload_n 0 dX12_isSoonOut_1 rfl rfl ?_
  refine jr_iload_n 1 dX12_isSoonOut_2 rfl rfl ?_
  refine jr_i2l dX12_isSoonOut_3 ?_
  obtain ⟨r1z, C5, k⟩ := k
  refine jr_cVi (As := [.long x1.toInt64]) jl_X12_313 km_X12_isHouse rfl rfl dX12_isSoonOut_4 mw_o (Nat.le_of_ble_eq_true rfl) (C5.pi (fun _ _ q => q) (fun E h' f => f.elim)) (fun r1 h2 q3 => ?_)
  obtain ⟨q3, q4⟩ := q3
  subst q4
  subst q3
  refine jr_if_ne (tgt := 14) dX12_isSoonOut_7 (by decide) (fun c7 => ?_) (fun c7 => ?_)
  · have k := k.2 c7
    refine jr_iload_n 2 dX12_isSoonOut_14 rfl rfl ?_
    obtain ⟨r6z, C10, k⟩ := k
    refine jr_cSi (As := [.int x2]) jl_X12_422 km_X12_isSoon rfl rfl dX12_isSoonOut_15 (Nat.le_of_ble_eq_true rfl) (C10.pi (fun _ _ q => q) (fun E h' f => f.elim)) (fun r6 h7 q8 => ?_)
    obtain ⟨q8, q9⟩ := q8
    subst q9
    subst q8
    refine jr_if_eq (tgt := 25) dX12_isSoonOut_18 (by decide) (fun c18 => ?_) (fun c18 => ?_)
    · have k := k.1 c18
      refine jr_iconst (v := 2) dX12_isSoonOut_25 (by decide) ?_
      exact jr_sub [0] rfl k
    · have k := k.2 c18
      refine jr_iconst (v := 0) dX12_isSoonOut_21 (by decide) ?_
      refine jr_goto (tgt := 26) dX12_isSoonOut_22 (by decide) ?_
      exact jr_sub [0] rfl k
  · have k := k.1 c7
    refine jr_iconst (v := 1) dX12_isSoonOut_10 (by decide) ?_
    refine jr_goto (tgt := 26) dX12_isSoonOut_11 (by decide) ?_
    exact jr_sub [0] rfl k
set_option maxRecDepth 20000 in
theorem wX12_isSoonOut_26 {s1 : Int32} (k : (0 < (((mI μ 4 s1)).1 4) → P (.inl (some (.int 1))) (mw h m (mI μ 4 s1))) ∧ (¬ 0 < (((mI μ 4 s1)).1 4) → P (.inl (some (.int 0))) (mw h m (mI μ 4 s1)))) : J g mX12_isSoonOut (d + 1) hs P 26 [(0, .ref m)] [.int s1, .ref m] (mw h m μ) := by
  refine jr_putE jp_X12_67 dX12_isSoonOut_26 mw_o (Nat.le_of_ble_eq_true rfl) rfl rfl (fun h1 e2 => ?_)
  replace e2 := e2.trans (mw_pI 4 s1)
  subst e2
  refine jr_aload_n 0 dX12_isSoonOut_29 rfl rfl ?_
  refine jr_get jf_X12_67 dX12_isSoonOut_30 mw_o rfl ?_
  refine jr_if_le (tgt := 40) dX12_isSoonOut_33 (by decide) (fun c33 => ?_) (fun c33 => ?_)
  · have k := k.2 c33
    refine jr_iconst (v := 0) dX12_isSoonOut_40 (by decide) ?_
    exact jr_iret (ty := .boolean) rfl rfl dX12_isSoonOut_41 k
  · have k := k.1 c33
    refine jr_iconst (v := 1) dX12_isSoonOut_36 (by decide) ?_
    refine jr_goto (tgt := 41) dX12_isSoonOut_37 (by decide) ?_
    exact jr_iret (ty := .boolean) rfl rfl dX12_isSoonOut_41 k
set_option maxRecDepth 20000 in
theorem wX12_burden_0 {x1 : Int32} {x2 : Int32} (k : ∃ Q7 : Int32 → MW → Prop, Con g mX12_isSoonOut d [.ref m, .int x1, .int x2] (mw h m μ) (wPi h m Q7) ∧ ∀ (r1 : Int32) (μ6 : MW), Q7 r1 μ6 → (r1 = 0 → ∃ Q14 : Int64 → MW → Prop, Con g mX12_burdenNow d [.ref m, .int x1, .int x2] (mw h m μ6) (wPl h m Q14) ∧ ∀ (r8 : Int64) (μ13 : MW), Q14 r8 μ13 → P (.inl (some (.long r8))) (mw h m μ13)) ∧ (¬ r1 = 0 → P (.inl (some (.long 0))) (mw h m μ6))) : J g mX12_burden (d + 1) hs P 0 [(0, .ref m), (1, .int x1), (2, .int x2)] [] (mw h m μ) := by
  refine jr_aload_n 0 dX12_burden_0 rfl rfl ?_
  refine jr_iload_n 1 dX12_burden_1 rfl rfl ?_
  refine jr_iload_n 2 dX12_burden_2 rfl rfl ?_
  obtain ⟨Q7, C5, k⟩ := k
  refine jr_cVi (As := [.int x1, .int x2]) jl_X12_432 km_X12_isSoonOut rfl rfl dX12_burden_3 mw_o (Nat.le_of_ble_eq_true rfl) (Con.pi C5 (fun _ _ q => q) (fun E h' f => f.elim)) (fun r1 h2 q3 => ?_)
  obtain ⟨μ6, q3, q4⟩ := q3
  subst q4
  have k := k r1 μ6 q3
  refine jr_if_eq (tgt := 13) dX12_burden_6 (by decide) (fun c6 => ?_) (fun c6 => ?_)
  · have k := k.1 c6
    refine jr_aload_n 0 dX12_burden_13 rfl rfl ?_
    refine jr_iload_n 1 dX12_burden_14 rfl rfl ?_
    refine jr_iload_n 2 dX12_burden_15 rfl rfl ?_
    obtain ⟨Q14, C12, k⟩ := k
    refine jr_cVl (As := [.int x1, .int x2]) jl_X12_436 km_X12_burdenNow rfl rfl dX12_burden_16 mw_o (Nat.le_of_ble_eq_true rfl) (Con.pl C12 (fun _ _ q => q) (fun E h' f => f.elim)) (fun r8 h9 q10 => ?_)
    obtain ⟨μ13, q10, q11⟩ := q10
    subst q11
    have k := k r8 μ13 q10
    exact jr_lret rfl dX12_burden_19 k
  · have k := k.2 c6
    refine jr_lconst (v := 0) dX12_burden_9 (by decide) ?_
    refine jr_goto (tgt := 19) dX12_burden_10 (by decide) ?_
    exact jr_lret rfl dX12_burden_19 k
set_option maxRecDepth 20000 in
theorem wX12_heaviest_0 {x1 : Int32} (k : ∃ r3 : Int32, Con g mX12_isSoon d [.int x1] (mw h m (mI μ 4 0)) (jPi (fun r h' => r = r3 ∧ h' = (mw h m (mI μ 4 0))) no2) ∧ (r3 = 0 → ∃ Q14 : Int32 → MW → Prop, Con g mX12_fails d [.ref m, .int 1] (mw h m (mI μ 4 0)) (wPi h m Q14) ∧ ∀ (r8 : Int32) (μ13 : MW), Q14 r8 μ13 → P (.inl (some (.int r8))) (mw h m μ13)) ∧ (¬ r3 = 0 → J g mX12_heaviest (d + 1) hs P 27 [(0, .ref m), (1, .int x1), (2, .int (-1)), (3, .long (-1)), (5, .int 0)] [] (mw h m (mI μ 4 0)))) : J g mX12_heaviest (d + 1) hs P 0 [(0, .ref m), (1, .int x1)] [] (mw h m μ) := by
  refine jr_aload_n 0 dX12_heaviest_0 rfl rfl ?_
  refine jr_iconst (v := 0) dX12_heaviest_1 (by decide) ?_
  refine jr_putE jp_X12_67 dX12_heaviest_2 mw_o (Nat.le_of_ble_eq_true rfl) rfl rfl (fun h1 e2 => ?_)
  replace e2 := e2.trans (mw_pI 4 ((0 : Int32)))
  subst e2
  refine jr_iload_n 1 dX12_heaviest_5 rfl rfl ?_
  obtain ⟨r3z, C7, k⟩ := k
  refine jr_cSi (As := [.int x1]) jl_X12_422 km_X12_isSoon rfl rfl dX12_heaviest_6 (Nat.le_of_ble_eq_true rfl) (C7.pi (fun _ _ q => q) (fun E h' f => f.elim)) (fun r3 h4 q5 => ?_)
  obtain ⟨q5, q6⟩ := q5
  subst q6
  subst q5
  refine jr_if_ne (tgt := 18) dX12_heaviest_9 (by decide) (fun c9 => ?_) (fun c9 => ?_)
  · have k := k.2 c9
    refine jr_iconst (v := (-1)) dX12_heaviest_18 (by decide) ?_
    refine jr_istore_n (lv' := [(2, .int (-1)), (0, .ref m), (1, .int x1)]) dX12_heaviest_19 rfl (by decide) rfl ?_
    refine jr_ldc2 (v := (-1)) jk_X12_363 dX12_heaviest_20 ?_
    refine jr_lstore_n (lv' := [(3, .long (-1)), (2, .int (-1)), (0, .ref m), (1, .int x1)]) dX12_heaviest_23 rfl (by decide) rfl ?_
    refine jr_iconst (v := 0) dX12_heaviest_24 (by decide) ?_
    refine jr_istore (lv' := [(5, .int 0), (3, .long (-1)), (2, .int (-1)), (0, .ref m), (1, .int x1)]) dX12_heaviest_25 (by decide) rfl ?_
    exact jr_sub [3, 4, 2, 1, 0] rfl k
  · have k := k.1 c9
    refine jr_aload_n 0 dX12_heaviest_12 rfl rfl ?_
    refine jr_iconst (v := 1) dX12_heaviest_13 (by decide) ?_
    obtain ⟨Q14, C12, k⟩ := k
    refine jr_cVi (As := [.int 1]) jl_X12_234 km_X12_fails rfl rfl dX12_heaviest_14 mw_o (Nat.le_of_ble_eq_true rfl) (Con.pi C12 (fun _ _ q => q) (fun E h' f => f.elim)) (fun r8 h9 q10 => ?_)
    obtain ⟨μ13, q10, q11⟩ := q10
    subst q11
    have k := k r8 μ13 q10
    exact jr_iret (ty := .int) rfl rfl dX12_heaviest_17 k
set_option maxRecDepth 20000 in
theorem wX12_heaviest_27 {x1 : Int32} {x2 : Int32} {x3 : Int64} {x5 : Int32} (k : ∃ r1 : Int32, Con g mX12_houses d [.ref m] (mw h m μ) (jPi (fun r h' => r = r1 ∧ h' = (mw h m μ)) no2) ∧ (x5 < r1 → ∃ Q12 : Int64 → MW → Prop, Con g mX12_burdenNow d [.ref m, .int x5, .int x1] (mw h m μ) (wPl h m Q12) ∧ ∀ (r6 : Int64) (μ11 : MW), Q12 r6 μ11 → (x3 < r6 → J g mX12_heaviest (d + 1) hs P 27 [(0, .ref m), (1, .int x1), (2, .int x5), (3, .long r6), (5, .int (x5 + 1))] [] (mw h m μ11)) ∧ (¬ x3 < r6 → J g mX12_heaviest (d + 1) hs P 27 [(0, .ref m), (1, .int x1), (2, .int x2), (3, .long x3), (5, .int (x5 + 1))] [] (mw h m μ11))) ∧ (¬ x5 < r1 → P (.inl (some (.int x2))) (mw h m μ))) : J g mX12_heaviest (d + 1) hs P 27 [(0, .ref m), (1, .int x1), (2, .int x2), (3, .long x3), (5, .int x5)] [] (mw h m μ) := by
  refine jr_iload 4 dX12_heaviest_27 rfl ?_
  refine jr_aload_n 0 dX12_heaviest_29 rfl rfl ?_
  obtain ⟨r1z, C5, k⟩ := k
  refine jr_cVi (As := []) jl_X12_249 km_X12_houses rfl rfl dX12_heaviest_30 mw_o (Nat.le_of_ble_eq_true rfl) (C5.pi (fun _ _ q => q) (fun E h' f => f.elim)) (fun r1 h2 q3 => ?_)
  obtain ⟨q3, q4⟩ := q3
  subst q4
  subst q3
  refine jr_icmp_ge (tgt := 67) dX12_heaviest_33 (by decide) (fun c33 => ?_) (fun c33 => ?_)
  · have k := k.2 c33
    refine jr_iload_n 2 dX12_heaviest_67 rfl rfl ?_
    exact jr_iret (ty := .int) rfl rfl dX12_heaviest_68 k
  · have k := k.1 c33
    refine jr_aload_n 0 dX12_heaviest_36 rfl rfl ?_
    refine jr_iload 4 dX12_heaviest_37 rfl ?_
    refine jr_iload_n 1 dX12_heaviest_39 rfl rfl ?_
    obtain ⟨Q12, C10, k⟩ := k
    refine jr_cVl (As := [.int x5, .int x1]) jl_X12_436 km_X12_burdenNow rfl rfl dX12_heaviest_40 mw_o (Nat.le_of_ble_eq_true rfl) (Con.pl C10 (fun _ _ q => q) (fun E h' f => f.elim)) (fun r6 h7 q8 => ?_)
    obtain ⟨μ11, q8, q9⟩ := q8
    subst q9
    have k := k r6 μ11 q8
    refine jr_lstore (lv' := [(6, .long r6), (0, .ref m), (1, .int x1), (2, .int x2), (3, .long x3), (5, .int x5)]) dX12_heaviest_43 (by decide) rfl ?_
    refine jr_lload 0 dX12_heaviest_45 rfl ?_
    refine jr_lload_n 4 dX12_heaviest_47 rfl rfl ?_
    refine jr_lcmp_gt (tgt := 55) dX12_heaviest_48 dX12_heaviest_49 (by decide) (fun c48 => ?_) (fun c48 => ?_)
    · have k := k.1 c48
      refine jr_iload 5 dX12_heaviest_55 rfl ?_
      refine jr_istore_n (lv' := [(2, .int x5), (6, .long r6), (0, .ref m), (1, .int x1), (3, .long x3), (5, .int x5)]) dX12_heaviest_57 rfl (by decide) rfl ?_
      refine jr_lload 1 dX12_heaviest_58 rfl ?_
      refine jr_lstore_n (lv' := [(3, .long r6), (2, .int x5), (6, .long r6), (0, .ref m), (1, .int x1), (5, .int x5)]) dX12_heaviest_60 rfl (by decide) rfl ?_
      refine jr_iinc (v := (x5 + 1)) (lv' := [(5, .int (x5 + 1)), (3, .long r6), (2, .int x5), (6, .long r6), (0, .ref m), (1, .int x1)]) 5 dX12_heaviest_61 rfl rfl (by decide) rfl ?_
      refine jr_goto (tgt := 27) dX12_heaviest_64 (by decide) ?_
      exact jr_sub [4, 5, 2, 1, 0] rfl k
    · have k := k.2 c48
      refine jr_goto (tgt := 61) dX12_heaviest_52 (by decide) ?_
      refine jr_iinc (v := (x5 + 1)) (lv' := [(5, .int (x5 + 1)), (6, .long r6), (0, .ref m), (1, .int x1), (2, .int x2), (3, .long x3)]) 5 dX12_heaviest_61 rfl rfl (by decide) rfl ?_
      refine jr_goto (tgt := 27) dX12_heaviest_64 (by decide) ?_
      exact jr_sub [2, 3, 4, 5, 0] rfl k
end
