section
variable {g : jG} {d : Nat} {hs : jH} {P : jO → jH → Prop} {h : jH} {m : Nat} {μ : MW}
set_option maxRecDepth 20000 in
theorem wX12_paid_0 {x1 : Int32} (k : ∃ r3 : Int32, Con g mX12_isSoon d [.int x1] (mw h m (mI μ 4 0)) (jPi (fun r h' => r = r3 ∧ h' = (mw h m (mI μ 4 0))) no2) ∧ (r3 = 0 → ∃ Q21 : Int32 → MW → Prop, Con g mX12_fails d [.ref m, .int 1] (mw h m (mI μ 4 0)) (wPi h m Q21) ∧ ∀ (r15 : Int32) (μ20 : MW), Q21 r15 μ20 → P (.inl (some (.long r15.toInt64))) (mw h m μ20)) ∧ (¬ r3 = 0 → ∃ Q14 : MW → Prop, Con g mX12_putsAside d [.ref m] (mw h m (mI μ 4 0)) (wPv h m Q14) ∧ ∀ μ13 : MW, Q14 μ13 → J g mX12_paid (d + 1) hs P 28 [(0, .ref m), (1, .int x1), (2, .long 0), (4, .int 0)] [] (mw h m μ13))) : J g mX12_paid (d + 1) hs P 0 [(0, .ref m), (1, .int x1)] [] (mw h m μ) := by
  refine jr_aload_n 0 dX12_paid_0 rfl rfl ?_
  refine jr_iconst (v := 0) dX12_paid_1 (by decide) ?_
  refine jr_putE jp_X12_67 dX12_paid_2 mw_o (Nat.le_of_ble_eq_true rfl) rfl rfl (fun h1 e2 => ?_)
  replace e2 := e2.trans (mw_pI 4 ((0 : Int32)))
  subst e2
  refine jr_iload_n 1 dX12_paid_5 rfl rfl ?_
  obtain ⟨r3z, C7, k⟩ := k
  refine jr_cSi (As := [.int x1]) jl_X12_422 km_X12_isSoon rfl rfl dX12_paid_6 (Nat.le_of_ble_eq_true rfl) (C7.pi (fun _ _ q => q) (fun E h' f => f.elim)) (fun r3 h4 q5 => ?_)
  obtain ⟨q5, q6⟩ := q5
  subst q6
  subst q5
  refine jr_if_ne (tgt := 19) dX12_paid_9 (by decide) (fun c9 => ?_) (fun c9 => ?_)
  · have k := k.2 c9
    refine jr_aload_n 0 dX12_paid_19 rfl rfl ?_
    obtain ⟨Q14, C12, k⟩ := k
    refine jr_cVv (As := []) jl_X12_380 km_X12_putsAside rfl rfl dX12_paid_20 mw_o (Nat.le_of_ble_eq_true rfl) (Con.pv C12 (fun _ q => q) (fun E h' f => f.elim)) (fun h9 q10 => ?_)
    obtain ⟨μ13, q10, q11⟩ := q10
    subst q11
    have k := k μ13 q10
    refine jr_lconst (v := 0) dX12_paid_23 (by decide) ?_
    refine jr_lstore_n (lv' := [(2, .long 0), (0, .ref m), (1, .int x1)]) dX12_paid_24 rfl (by decide) rfl ?_
    refine jr_iconst (v := 0) dX12_paid_25 (by decide) ?_
    refine jr_istore (lv' := [(4, .int 0), (2, .long 0), (0, .ref m), (1, .int x1)]) dX12_paid_26 (by decide) rfl ?_
    exact jr_sub [2, 3, 1, 0] rfl k
  · have k := k.1 c9
    refine jr_aload_n 0 dX12_paid_12 rfl rfl ?_
    refine jr_iconst (v := 1) dX12_paid_13 (by decide) ?_
    obtain ⟨Q21, C19, k⟩ := k
    refine jr_cVi (As := [.int 1]) jl_X12_234 km_X12_fails rfl rfl dX12_paid_14 mw_o (Nat.le_of_ble_eq_true rfl) (Con.pi C19 (fun _ _ q => q) (fun E h' f => f.elim)) (fun r15 h16 q17 => ?_)
    obtain ⟨μ20, q17, q18⟩ := q17
    subst q18
    have k := k r15 μ20 q17
    refine jr_i2l dX12_paid_17 ?_
    exact jr_lret rfl dX12_paid_18 k
set_option maxRecDepth 20000 in
theorem wX12_paid_28 {x1 : Int32} {x2 : Int64} {x4 : Int32} (k : (x4 < x1 → ∃ Q14 : MW → Prop, Con g mX12_quarter d [.ref m] (mw h m μ) (wPv h m Q14) ∧ ∀ μ13 : MW, Q14 μ13 → J g mX12_paid (d + 1) hs P 28 [(0, .ref m), (1, .int x1), (2, .long (x2 + ((μ13.1 23)).toInt64)), (4, .int (x4 + 1))] [] (mw h m μ13)) ∧ (¬ x4 < x1 → ∃ Q7 : MW → Prop, Con g mX12_putsBack d [.ref m] (mw h m μ) (wPv h m Q7) ∧ ∀ μ6 : MW, Q7 μ6 → P (.inl (some (.long x2))) (mw h m μ6))) : J g mX12_paid (d + 1) hs P 28 [(0, .ref m), (1, .int x1), (2, .long x2), (4, .int x4)] [] (mw h m μ) := by
  refine jr_iload 3 dX12_paid_28 rfl ?_
  refine jr_iload_n 1 dX12_paid_30 rfl rfl ?_
  refine jr_icmp_ge (tgt := 52) dX12_paid_31 (by decide) (fun c31 => ?_) (fun c31 => ?_)
  · have k := k.2 c31
    refine jr_aload_n 0 dX12_paid_52 rfl rfl ?_
    obtain ⟨Q7, C5, k⟩ := k
    refine jr_cVv (As := []) jl_X12_392 km_X12_putsBack rfl rfl dX12_paid_53 mw_o (Nat.le_of_ble_eq_true rfl) (Con.pv C5 (fun _ q => q) (fun E h' f => f.elim)) (fun h2 q3 => ?_)
    obtain ⟨μ6, q3, q4⟩ := q3
    subst q4
    have k := k μ6 q3
    refine jr_lload_n 2 dX12_paid_56 rfl rfl ?_
    exact jr_lret rfl dX12_paid_57 k
  · have k := k.1 c31
    refine jr_aload_n 0 dX12_paid_34 rfl rfl ?_
    obtain ⟨Q14, C12, k⟩ := k
    refine jr_cVv (As := []) jl_X12_356 km_X12_quarter rfl rfl dX12_paid_35 mw_o (Nat.le_of_ble_eq_true rfl) (Con.pv C12 (fun _ q => q) (fun E h' f => f.elim)) (fun h9 q10 => ?_)
    obtain ⟨μ13, q10, q11⟩ := q10
    subst q11
    have k := k μ13 q10
    refine jr_lload_n 2 dX12_paid_38 rfl rfl ?_
    refine jr_aload_n 0 dX12_paid_39 rfl rfl ?_
    refine jr_get jf_X12_285 dX12_paid_40 mw_o rfl ?_
    refine jr_i2l dX12_paid_43 ?_
    refine jr_ladd dX12_paid_44 ?_
    refine jr_lstore_n (lv' := [(2, .long (x2 + ((μ13.1 23)).toInt64)), (0, .ref m), (1, .int x1), (4, .int x4)]) dX12_paid_45 rfl (by decide) rfl ?_
    refine jr_iinc (v := (x4 + 1)) (lv' := [(4, .int (x4 + 1)), (2, .long (x2 + ((μ13.1 23)).toInt64)), (0, .ref m), (1, .int x1)]) 3 dX12_paid_46 rfl rfl (by decide) rfl ?_
    refine jr_goto (tgt := 28) dX12_paid_49 (by decide) ?_
    exact jr_sub [2, 3, 1, 0] rfl k
set_option maxRecDepth 20000 in
theorem wX12_moves_0  (k : J g mX12_moves (d + 1) hs P 2 [(0, .ref m), (1, .int 0)] [] (mw h m μ)) : J g mX12_moves (d + 1) hs P 0 [(0, .ref m)] [] (mw h m μ) := by
  refine jr_iconst (v := 0) dX12_moves_0 (by decide) ?_
  refine jr_istore_n (lv' := [(1, .int 0), (0, .ref m)]) dX12_moves_1 rfl (by decide) rfl ?_
  exact jr_sub [1, 0] rfl k
set_option maxRecDepth 20000 in
theorem wX12_moves_2 {x1 : Int32} (k : ∃ r1 : Int32, Con g mX12_houses d [.ref m] (mw h m μ) (jPi (fun r h' => r = r1 ∧ h' = (mw h m μ)) no2) ∧ (x1 < r1 → J g mX12_moves (d + 1) hs P 12 [(0, .ref m), (1, .int x1), (2, .int 0)] [] (mw h m μ)) ∧ (¬ x1 < r1 → P (.inl none) (mw h m μ))) : J g mX12_moves (d + 1) hs P 2 [(0, .ref m), (1, .int x1)] [] (mw h m μ) := by
  refine jr_iload_n 1 dX12_moves_2 rfl rfl ?_
  refine jr_aload_n 0 dX12_moves_3 rfl rfl ?_
  obtain ⟨r1z, C5, k⟩ := k
  refine jr_cVi (As := []) jl_X12_249 km_X12_houses rfl rfl dX12_moves_4 mw_o (Nat.le_of_ble_eq_true rfl) (C5.pi (fun _ _ q => q) (fun E h' f => f.elim)) (fun r1 h2 q3 => ?_)
  obtain ⟨q3, q4⟩ := q3
  subst q4
  subst q3
  refine jr_icmp_ge (tgt := 61) dX12_moves_7 (by decide) (fun c7 => ?_) (fun c7 => ?_)
  · have k := k.2 c7
    exact jr_vret rfl dX12_moves_61 k
  · have k := k.1 c7
    refine jr_iconst (v := 0) dX12_moves_10 (by decide) ?_
    refine jr_istore_n (lv' := [(2, .int 0), (0, .ref m), (1, .int x1)]) dX12_moves_11 rfl (by decide) rfl ?_
    exact jr_sub [1, 2, 0] rfl k
set_option maxRecDepth 20000 in
theorem wX12_moves_12 {x1 : Int32} {x2 : Int32} (k : (x2 < 4 → vp_in x1 7 ∧ vp_in (((0 + (7 * x2)) + (μ.2.1 11 (ix x1)))) 44 ∧ vp_in (((8 + (7 * x2)) + x1)) 3240 ∧ J g mX12_moves (d + 1) hs P 12 [(0, .ref m), (1, .int x1), (2, .int (x2 + 1))] [] (mw h m (mA μ 1 (upd (kn μ) (ix (((8 + (7 * x2)) + x1))) ((μ.2.1 10 (ix (((0 + (7 * x2)) + (μ.2.1 11 (ix x1))))))))))) ∧ (¬ x2 < 4 → J g mX12_moves (d + 1) hs P 2 [(0, .ref m), (1, .int (x1 + 1))] [] (mw h m μ))) : J g mX12_moves (d + 1) hs P 12 [(0, .ref m), (1, .int x1), (2, .int x2)] [] (mw h m μ) := by
  refine jr_iload_n 2 dX12_moves_12 rfl rfl ?_
  refine jr_iconst (v := 4) dX12_moves_13 (by decide) ?_
  refine jr_icmp_ge (tgt := 55) dX12_moves_14 (by decide) (fun c14 => ?_) (fun c14 => ?_)
  · have k := k.2 c14
    refine jr_iinc (v := (x1 + 1)) (lv' := [(1, .int (x1 + 1)), (0, .ref m), (2, .int x2)]) 1 dX12_moves_55 rfl rfl (by decide) rfl ?_
    refine jr_goto (tgt := 2) dX12_moves_58 (by decide) ?_
    exact jr_sub [1, 0] rfl k
  · have k := k.1 c14
    refine jr_aload_n 0 dX12_moves_17 rfl rfl ?_
    refine jr_get jf_X12_9 dX12_moves_18 mw_o rfl ?_
    refine jr_bipush (v := 8) dX12_moves_21 (by decide) ?_
    refine jr_bipush (v := 7) dX12_moves_23 (by decide) ?_
    refine jr_iload_n 2 dX12_moves_25 rfl rfl ?_
    refine jr_imul dX12_moves_26 ?_
    refine jr_iadd dX12_moves_27 ?_
    refine jr_iload_n 1 dX12_moves_28 rfl rfl ?_
    refine jr_iadd dX12_moves_29 ?_
    refine jr_aload_n 0 dX12_moves_30 rfl rfl ?_
    refine jr_get jf_X12_42 dX12_moves_31 mw_o rfl ?_
    refine jr_iconst (v := 0) dX12_moves_34 (by decide) ?_
    refine jr_bipush (v := 7) dX12_moves_35 (by decide) ?_
    refine jr_iload_n 2 dX12_moves_37 rfl rfl ?_
    refine jr_imul dX12_moves_38 ?_
    refine jr_iadd dX12_moves_39 ?_
    refine jr_aload_n 0 dX12_moves_40 rfl rfl ?_
    refine jr_get jf_X12_45 dX12_moves_41 mw_o rfl ?_
    refine jr_iload_n 1 dX12_moves_44 rfl rfl ?_
    obtain ⟨e1, k⟩ := k
    refine jr_iald dX12_moves_45 mw_11 e1 ?_
    refine jr_iadd dX12_moves_46 ?_
    obtain ⟨e2, k⟩ := k
    refine jr_iald dX12_moves_47 mw_10 e2 ?_
    obtain ⟨e5, k⟩ := k
    refine jr_iastE dX12_moves_48 mw_1 e5 (fun h3 e4 => ?_)
    replace e4 : h3 = mw h m (mA μ 1 (upd (kn μ) (ix (((8 + (7 * x2)) + x1))) ((μ.2.1 10 (ix (((0 + (7 * x2)) + (μ.2.1 11 (ix x1))))))))) := e4.trans (mw_pA (by decide) (by decide) _)
    subst e4
    refine jr_iinc (v := (x2 + 1)) (lv' := [(2, .int (x2 + 1)), (0, .ref m), (1, .int x1)]) 2 dX12_moves_49 rfl rfl (by decide) rfl ?_
    refine jr_goto (tgt := 12) dX12_moves_52 (by decide) ?_
    exact jr_sub [1, 2, 0] rfl k
set_option maxRecDepth 20000 in
theorem wX12_goesOrders_0 {x1 : Int32} {x2 : Int32} {x3 : Int32} (k : ∃ r1 : Int32, Con g mX12_houses d [.ref m] (mw h m μ) (jPi (fun r h' => r = r1 ∧ h' = (mw h m μ)) no2) ∧ (x1 = r1 → ∃ Q12 : MW → Prop, Con g mX12_moves d [.ref m] (mw h m μ) (wPv h m Q12) ∧ ∀ μ11 : MW, Q12 μ11 → ∃ Q19 : Int32 → MW → Prop, Con g mX12_lostFromHere d [.ref m, .int x3] (mw h m μ11) (wPi h m Q19) ∧ ∀ (r13 : Int32) (μ18 : MW), Q19 r13 μ18 → (r13 < (μ18.1 30) → J g mX12_goesOrders (d + 1) hs P 52 [(0, .ref m), (1, .int x1), (4, .int r13)] [.int 1, .ref m] (mw h m μ18)) ∧ (¬ r13 < (μ18.1 30) → (r13 = (μ18.1 30) → J g mX12_goesOrders (d + 1) hs P 51 [(0, .ref m), (1, .int x1), (4, .int r13)] [.int 1, .int (μ18.1 31), .ref m] (mw h m μ18)) ∧ (¬ r13 = (μ18.1 30) → J g mX12_goesOrders (d + 1) hs P 51 [(0, .ref m), (1, .int x1), (4, .int r13)] [.int 0, .int (μ18.1 31), .ref m] (mw h m μ18)))) ∧ (¬ x1 = r1 → J g mX12_goesOrders (d + 1) hs P 104 [(0, .ref m), (1, .int x1), (2, .int x2), (3, .int x3), (4, .int 0)] [] (mw h m μ))) : J g mX12_goesOrders (d + 1) hs P 0 [(0, .ref m), (1, .int x1), (2, .int x2), (3, .int x3)] [] (mw h m μ) := by
  refine jr_iload_n 1 dX12_goesOrders_0 rfl rfl ?_
  refine jr_aload_n 0 dX12_goesOrders_1 rfl rfl ?_
  obtain ⟨r1z, C5, k⟩ := k
  refine jr_cVi (As := []) jl_X12_249 km_X12_houses rfl rfl dX12_goesOrders_2 mw_o (Nat.le_of_ble_eq_true rfl) (C5.pi (fun _ _ q => q) (fun E h' f => f.elim)) (fun r1 h2 q3 => ?_)
  obtain ⟨q3, q4⟩ := q3
  subst q4
  subst q3
  refine jr_icmp_ne (tgt := 101) dX12_goesOrders_5 (by decide) (fun c5 => ?_) (fun c5 => ?_)
  · have k := k.2 c5
    refine jr_iconst (v := 0) dX12_goesOrders_101 (by decide) ?_
    refine jr_istore (lv' := [(4, .int 0), (0, .ref m), (1, .int x1), (2, .int x2), (3, .int x3)]) dX12_goesOrders_102 (by decide) rfl ?_
    exact jr_sub [1, 2, 3, 4, 0] rfl k
  · have k := k.1 c5
    refine jr_aload_n 0 dX12_goesOrders_8 rfl rfl ?_
    obtain ⟨Q12, C10, k⟩ := k
    refine jr_cVv (As := []) jl_X12_439 km_X12_moves rfl rfl dX12_goesOrders_9 mw_o (Nat.le_of_ble_eq_true rfl) (Con.pv C10 (fun _ q => q) (fun E h' f => f.elim)) (fun h7 q8 => ?_)
    obtain ⟨μ11, q8, q9⟩ := q8
    subst q9
    have k := k μ11 q8
    refine jr_aload_n 0 dX12_goesOrders_12 rfl rfl ?_
    refine jr_iload_n 3 dX12_goesOrders_13 rfl rfl ?_
    obtain ⟨Q19, C17, k⟩ := k
    refine jr_cVi (As := [.int x3]) jl_X12_419 km_X12_lostFromHere rfl rfl dX12_goesOrders_14 mw_o (Nat.le_of_ble_eq_true rfl) (Con.pi C17 (fun _ _ q => q) (fun E h' f => f.elim)) (fun r13 h14 q15 => ?_)
    obtain ⟨μ18, q15, q16⟩ := q15
    subst q16
    have k := k r13 μ18 q15
    refine jr_istore (lv' := [(4, .int r13), (0, .ref m), (1, .int x1), (2, .int x2), (3, .int x3)]) dX12_goesOrders_17 (by decide) rfl ?_
    refine jr_aload_n 1 dX12_goesOrders_19 rfl rfl ?_
    refine jr_iload 0 dX12_goesOrders_20 rfl ?_
    refine jr_aload_n 1 dX12_goesOrders_22 rfl rfl ?_
    refine jr_get jf_X12_442 dX12_goesOrders_23 mw_o rfl ?_
    refine jr_icmp_ge (tgt := 33) dX12_goesOrders_26 (by decide) (fun c26 => ?_) (fun c26 => ?_)
    · have k := k.2 c26
      refine jr_aload_n 1 dX12_goesOrders_33 rfl rfl ?_
      refine jr_get jf_X12_445 dX12_goesOrders_34 mw_o rfl ?_
      refine jr_iload 0 dX12_goesOrders_37 rfl ?_
      refine jr_aload_n 1 dX12_goesOrders_39 rfl rfl ?_
      refine jr_get jf_X12_442 dX12_goesOrders_40 mw_o rfl ?_
      refine jr_icmp_ne (tgt := 50) dX12_goesOrders_43 (by decide) (fun c43 => ?_) (fun c43 => ?_)
      · have k := k.2 c43
        refine jr_iconst (v := 0) dX12_goesOrders_50 (by decide) ?_
        exact jr_sub [1, 2, 0] rfl k
      · have k := k.1 c43
        refine jr_iconst (v := 1) dX12_goesOrders_46 (by decide) ?_
        refine jr_goto (tgt := 51) dX12_goesOrders_47 (by decide) ?_
        exact jr_sub [1, 2, 0] rfl k
    · have k := k.1 c26
      refine jr_iconst (v := 1) dX12_goesOrders_29 (by decide) ?_
      refine jr_goto (tgt := 52) dX12_goesOrders_30 (by decide) ?_
      exact jr_sub [1, 2, 0] rfl k
set_option maxRecDepth 20000 in
theorem wX12_goesOrders_51 {x1 : Int32} {x4 : Int32} {s1 : Int32} {s2 : Int32} (k : J g mX12_goesOrders (d + 1) hs P 52 [(0, .ref m), (1, .int x1), (4, .int x4)] [.int (s1 + s2), .ref m] (mw h m μ)) : J g mX12_goesOrders (d + 1) hs P 51 [(0, .ref m), (1, .int x1), (4, .int x4)] [.int s2, .int s1, .ref m] (mw h m μ) := by
  refine jr_iadd dX12_goesOrders_51 ?_
  exact jr_sub [0, 1, 2] rfl k
set_option maxRecDepth 20000 in
theorem wX12_goesOrders_52 {x1 : Int32} {x4 : Int32} {s1 : Int32} (k : (x4 < (((mI μ 31 s1)).1 30) → J g mX12_goesOrders (d + 1) hs P 74 [(0, .ref m), (1, .int x1), (5, .int 0)] [] (mw h m (mI ((mI μ 31 s1)) 30 x4))) ∧ (¬ x4 < (((mI μ 31 s1)).1 30) → P (.inl none) (mw h m (mI μ 31 s1)))) : J g mX12_goesOrders (d + 1) hs P 52 [(0, .ref m), (1, .int x1), (4, .int x4)] [.int s1, .ref m] (mw h m μ) := by
  refine jr_putE jp_X12_445 dX12_goesOrders_52 mw_o (Nat.le_of_ble_eq_true rfl) rfl rfl (fun h1 e2 => ?_)
  replace e2 := e2.trans (mw_pI 31 s1)
  subst e2
  refine jr_iload 2 dX12_goesOrders_55 rfl ?_
  refine jr_aload_n 0 dX12_goesOrders_57 rfl rfl ?_
  refine jr_get jf_X12_442 dX12_goesOrders_58 mw_o rfl ?_
  refine jr_icmp_lt (tgt := 65) dX12_goesOrders_61 (by decide) (fun c61 => ?_) (fun c61 => ?_)
  · have k := k.1 c61
    refine jr_aload_n 0 dX12_goesOrders_65 rfl rfl ?_
    refine jr_iload 2 dX12_goesOrders_66 rfl ?_
    refine jr_putE jp_X12_442 dX12_goesOrders_68 mw_o (Nat.le_of_ble_eq_true rfl) rfl rfl (fun h3 e4 => ?_)
    replace e4 := e4.trans (mw_pI 30 x4)
    subst e4
    refine jr_iconst (v := 0) dX12_goesOrders_71 (by decide) ?_
    refine jr_istore (lv' := [(5, .int 0), (0, .ref m), (1, .int x1), (4, .int x4)]) dX12_goesOrders_72 (by decide) rfl ?_
    exact jr_sub [1, 2, 0] rfl k
  · have k := k.2 c61
    exact jr_vret rfl dX12_goesOrders_64 k
set_option maxRecDepth 20000 in
theorem wX12_goesOrders_74 {x1 : Int32} {x5 : Int32} (k : (x5 < x1 → vp_in x5 7 ∧ vp_in x5 7 ∧ J g mX12_goesOrders (d + 1) hs P 74 [(0, .ref m), (1, .int x1), (5, .int (x5 + 1))] [] (mw h m (mA μ 12 (upd (μ.2.1 12) (ix x5) ((μ.2.1 11 (ix x5))))))) ∧ (¬ x5 < x1 → P (.inl none) (mw h m μ))) : J g mX12_goesOrders (d + 1) hs P 74 [(0, .ref m), (1, .int x1), (5, .int x5)] [] (mw h m μ) := by
  refine jr_iload 2 dX12_goesOrders_74 rfl ?_
  refine jr_iload_n 1 dX12_goesOrders_76 rfl rfl ?_
  refine jr_icmp_ge (tgt := 100) dX12_goesOrders_77 (by decide) (fun c77 => ?_) (fun c77 => ?_)
  · have k := k.2 c77
    exact jr_vret rfl dX12_goesOrders_100 k
  · have k := k.1 c77
    refine jr_aload_n 0 dX12_goesOrders_80 rfl rfl ?_
    refine jr_get jf_X12_48 dX12_goesOrders_81 mw_o rfl ?_
    refine jr_iload 2 dX12_goesOrders_84 rfl ?_
    refine jr_aload_n 0 dX12_goesOrders_86 rfl rfl ?_
    refine jr_get jf_X12_45 dX12_goesOrders_87 mw_o rfl ?_
    refine jr_iload 2 dX12_goesOrders_90 rfl ?_
    obtain ⟨e1, k⟩ := k
    refine jr_iald dX12_goesOrders_92 mw_11 e1 ?_
    obtain ⟨e4, k⟩ := k
    refine jr_iastE dX12_goesOrders_93 mw_12 e4 (fun h2 e3 => ?_)
    replace e3 : h2 = mw h m (mA μ 12 (upd (μ.2.1 12) (ix x5) ((μ.2.1 11 (ix x5))))) := e3.trans (mw_pA (by decide) (by decide) _)
    subst e3
    refine jr_iinc (v := (x5 + 1)) (lv' := [(5, .int (x5 + 1)), (0, .ref m), (1, .int x1)]) 2 dX12_goesOrders_94 rfl rfl (by decide) rfl ?_
    refine jr_goto (tgt := 74) dX12_goesOrders_97 (by decide) ?_
    exact jr_sub [1, 2, 0] rfl k
set_option maxRecDepth 20000 in
theorem wX12_goesOrders_104 {x1 : Int32} {x2 : Int32} {x3 : Int32} {x4 : Int32} (k : ∃ r1 : Int32, Con g mX12_houses d [.ref m] (mw h m μ) (jPi (fun r h' => r = r1 ∧ h' = (mw h m μ)) no2) ∧ (x4 < r1 → ∃ r6 : Int32, Con g mX12_has d [.int x2, .int x4] (mw h m μ) (jPi (fun r h' => r = r6 ∧ h' = (mw h m μ)) no2) ∧ (r6 = 0 → vp_in x1 7 ∧ ∃ Q20 : MW → Prop, Con g mX12_goesOrders d [.ref m, .int (x1 + 1), .int (x2 ||| ((1 : Int32) <<< (x4 &&& 31))), .int x3] (mw h m (mA μ 11 (upd (μ.2.1 11) (ix x1) x4))) (wPv h m Q20) ∧ ∀ μ19 : MW, Q20 μ19 → J g mX12_goesOrders (d + 1) hs P 104 [(0, .ref m), (1, .int x1), (2, .int x2), (3, .int x3), (4, .int (x4 + 1))] [] (mw h m μ19)) ∧ (¬ r6 = 0 → J g mX12_goesOrders (d + 1) hs P 104 [(0, .ref m), (1, .int x1), (2, .int x2), (3, .int x3), (4, .int (x4 + 1))] [] (mw h m μ))) ∧ (¬ x4 < r1 → P (.inl none) (mw h m μ))) : J g mX12_goesOrders (d + 1) hs P 104 [(0, .ref m), (1, .int x1), (2, .int x2), (3, .int x3), (4, .int x4)] [] (mw h m μ) := by
  refine jr_iload 4 dX12_goesOrders_104 rfl ?_
  refine jr_aload_n 0 dX12_goesOrders_106 rfl rfl ?_
  obtain ⟨r1z, C5, k⟩ := k
  refine jr_cVi (As := []) jl_X12_249 km_X12_houses rfl rfl dX12_goesOrders_107 mw_o (Nat.le_of_ble_eq_true rfl) (C5.pi (fun _ _ q => q) (fun E h' f => f.elim)) (fun r1 h2 q3 => ?_)
  obtain ⟨q3, q4⟩ := q3
  subst q4
  subst q3
  refine jr_icmp_ge (tgt := 153) dX12_goesOrders_110 (by decide) (fun c110 => ?_) (fun c110 => ?_)
  · have k := k.2 c110
    exact jr_vret rfl dX12_goesOrders_153 k
  · have k := k.1 c110
    refine jr_iload_n 2 dX12_goesOrders_113 rfl rfl ?_
    refine jr_iload 4 dX12_goesOrders_114 rfl ?_
    obtain ⟨r6z, C10, k⟩ := k
    refine jr_cSi (As := [.int x2, .int x4]) jl_X12_448 km_X12_has rfl rfl dX12_goesOrders_116 (Nat.le_of_ble_eq_true rfl) (C10.pi (fun _ _ q => q) (fun E h' f => f.elim)) (fun r6 h7 q8 => ?_)
    obtain ⟨q8, q9⟩ := q8
    subst q9
    subst q8
    refine jr_if_eq (tgt := 125) dX12_goesOrders_119 (by decide) (fun c119 => ?_) (fun c119 => ?_)
    · have k := k.1 c119
      refine jr_aload_n 0 dX12_goesOrders_125 rfl rfl ?_
      refine jr_get jf_X12_45 dX12_goesOrders_126 mw_o rfl ?_
      refine jr_iload_n 1 dX12_goesOrders_129 rfl rfl ?_
      refine jr_iload 4 dX12_goesOrders_130 rfl ?_
      obtain ⟨e13, k⟩ := k
      refine jr_iastE dX12_goesOrders_132 mw_11 e13 (fun h11 e12 => ?_)
      replace e12 : h11 = mw h m (mA μ 11 (upd (μ.2.1 11) (ix x1) x4)) := e12.trans (mw_pA (by decide) (by decide) _)
      subst e12
      refine jr_aload_n 0 dX12_goesOrders_133 rfl rfl ?_
      refine jr_iload_n 1 dX12_goesOrders_134 rfl rfl ?_
      refine jr_iconst (v := 1) dX12_goesOrders_135 (by decide) ?_
      refine jr_iadd dX12_goesOrders_136 ?_
      refine jr_iload_n 2 dX12_goesOrders_137 rfl rfl ?_
      refine jr_iconst (v := 1) dX12_goesOrders_138 (by decide) ?_
      refine jr_iload 4 dX12_goesOrders_139 rfl ?_
      refine jr_ishl dX12_goesOrders_141 ?_
      refine jr_ior dX12_goesOrders_142 ?_
      refine jr_iload_n 3 dX12_goesOrders_143 rfl rfl ?_
      obtain ⟨Q20, C18, k⟩ := k
      refine jr_cVv (As := [.int (x1 + 1), .int (x2 ||| ((1 : Int32) <<< (x4 &&& 31))), .int x3]) jl_X12_451 km_X12_goesOrders rfl rfl dX12_goesOrders_144 mw_o (Nat.le_of_ble_eq_true rfl) (Con.pv C18 (fun _ q => q) (fun E h' f => f.elim)) (fun h15 q16 => ?_)
      obtain ⟨μ19, q16, q17⟩ := q16
      subst q17
      have k := k μ19 q16
      refine jr_iinc (v := (x4 + 1)) (lv' := [(4, .int (x4 + 1)), (0, .ref m), (1, .int x1), (2, .int x2), (3, .int x3)]) 4 dX12_goesOrders_147 rfl rfl (by decide) rfl ?_
      refine jr_goto (tgt := 104) dX12_goesOrders_150 (by decide) ?_
      exact jr_sub [1, 2, 3, 4, 0] rfl k
    · have k := k.2 c119
      refine jr_goto (tgt := 147) dX12_goesOrders_122 (by decide) ?_
      refine jr_iinc (v := (x4 + 1)) (lv' := [(4, .int (x4 + 1)), (0, .ref m), (1, .int x1), (2, .int x2), (3, .int x3)]) 4 dX12_goesOrders_147 rfl rfl (by decide) rfl ?_
      refine jr_goto (tgt := 104) dX12_goesOrders_150 (by decide) ?_
      exact jr_sub [1, 2, 3, 4, 0] rfl k
set_option maxRecDepth 20000 in
theorem wX12_laysOrder_0 {x1 : Int32} (k : ∃ Q7 : MW → Prop, Con g mX12_putsAside d [.ref m] (mw h m μ) (wPv h m Q7) ∧ ∀ μ6 : MW, Q7 μ6 → ∃ Q18 : MW → Prop, Con g mX12_goesOrders d [.ref m, .int 0, .int 0, .int x1] (mw h m (mI ((mI μ6 30 536870912)) 31 0)) (wPv h m Q18) ∧ ∀ μ17 : MW, Q18 μ17 → P (.inl none) (mw h m μ17)) : J g mX12_laysOrder (d + 1) hs P 0 [(0, .ref m), (1, .int x1)] [] (mw h m μ) := by
  refine jr_aload_n 0 dX12_laysOrder_0 rfl rfl ?_
  obtain ⟨Q7, C5, k⟩ := k
  refine jr_cVv (As := []) jl_X12_380 km_X12_putsAside rfl rfl dX12_laysOrder_1 mw_o (Nat.le_of_ble_eq_true rfl) (Con.pv C5 (fun _ q => q) (fun E h' f => f.elim)) (fun h2 q3 => ?_)
  obtain ⟨μ6, q3, q4⟩ := q3
  subst q4
  have k := k μ6 q3
  refine jr_aload_n 0 dX12_laysOrder_4 rfl rfl ?_
  refine jr_ldcw (v := 536870912) jk_X12_454 dX12_laysOrder_5 ?_
  refine jr_putE jp_X12_442 dX12_laysOrder_8 mw_o (Nat.le_of_ble_eq_true rfl) rfl rfl (fun h8 e9 => ?_)
  replace e9 := e9.trans (mw_pI 30 ((536870912 : Int32)))
  subst e9
  refine jr_aload_n 0 dX12_laysOrder_11 rfl rfl ?_
  refine jr_iconst (v := 0) dX12_laysOrder_12 (by decide) ?_
  refine jr_putE jp_X12_445 dX12_laysOrder_13 mw_o (Nat.le_of_ble_eq_true rfl) rfl rfl (fun h10 e11 => ?_)
  replace e11 := e11.trans (mw_pI 31 ((0 : Int32)))
  subst e11
  refine jr_aload_n 0 dX12_laysOrder_16 rfl rfl ?_
  refine jr_iconst (v := 0) dX12_laysOrder_17 (by decide) ?_
  refine jr_iconst (v := 0) dX12_laysOrder_18 (by decide) ?_
  refine jr_iload_n 1 dX12_laysOrder_19 rfl rfl ?_
  obtain ⟨Q18, C16, k⟩ := k
  refine jr_cVv (As := [.int 0, .int 0, .int x1]) jl_X12_451 km_X12_goesOrders rfl rfl dX12_laysOrder_20 mw_o (Nat.le_of_ble_eq_true rfl) (Con.pv C16 (fun _ q => q) (fun E h' f => f.elim)) (fun h13 q14 => ?_)
  obtain ⟨μ17, q14, q15⟩ := q14
  subst q15
  have k := k μ17 q14
  exact jr_vret rfl dX12_laysOrder_23 k
set_option maxRecDepth 20000 in
theorem wX12_order_0 {x1 : Int32} {x2 : Int32} (k : ∃ r3 : Int32, Con g mX12_isSoon d [.int x1] (mw h m (mI μ 4 0)) (jPi (fun r h' => r = r3 ∧ h' = (mw h m (mI μ 4 0))) no2) ∧ (r3 = 0 → J g mX12_order (d + 1) hs P 30 [(0, .ref m)] [] (mw h m (mI μ 4 0))) ∧ (¬ r3 = 0 → (x2 = 0 → J g mX12_order (d + 1) hs P 36 [(0, .ref m), (1, .int x1), (2, .int x2)] [] (mw h m (mI μ 4 0))) ∧ (¬ x2 = 0 → ∃ r8 : Int32, Con g mX12_within d [.long x2.toInt64, .long 10, .long 16] (mw h m (mI μ 4 0)) (jPi (fun r h' => r = r8 ∧ h' = (mw h m (mI μ 4 0))) no2) ∧ (r8 = 0 → J g mX12_order (d + 1) hs P 30 [(0, .ref m)] [] (mw h m (mI μ 4 0))) ∧ (¬ r8 = 0 → J g mX12_order (d + 1) hs P 36 [(0, .ref m), (1, .int x1), (2, .int x2)] [] (mw h m (mI μ 4 0)))))) : J g mX12_order (d + 1) hs P 0 [(0, .ref m), (1, .int x1), (2, .int x2)] [] (mw h m μ) := by
  refine jr_aload_n 0 dX12_order_0 rfl rfl ?_
  refine jr_iconst (v := 0) dX12_order_1 (by decide) ?_
  refine jr_putE jp_X12_67 dX12_order_2 mw_o (Nat.le_of_ble_eq_true rfl) rfl rfl (fun h1 e2 => ?_)
  replace e2 := e2.trans (mw_pI 4 ((0 : Int32)))
  subst e2
  refine jr_iload_n 1 dX12_order_5 rfl rfl ?_
  obtain ⟨r3z, C7, k⟩ := k
  refine jr_cSi (As := [.int x1]) jl_X12_422 km_X12_isSoon rfl rfl dX12_order_6 (Nat.le_of_ble_eq_true rfl) (C7.pi (fun _ _ q => q) (fun E h' f => f.elim)) (fun r3 h4 q5 => ?_)
  obtain ⟨q5, q6⟩ := q5
  subst q6
  subst q5
  refine jr_if_eq (tgt := 30) dX12_order_9 (by decide) (fun c9 => ?_) (fun c9 => ?_)
  · have k := k.1 c9
    exact jr_sub [0] rfl k
  · have k := k.2 c9
    refine jr_iload_n 2 dX12_order_12 rfl rfl ?_
    refine jr_if_eq (tgt := 36) dX12_order_13 (by decide) (fun c13 => ?_) (fun c13 => ?_)
    · have k := k.1 c13
      exact jr_sub [0, 1, 2] rfl k
    · have k := k.2 c13
      refine jr_iload_n 2 dX12_order_16 rfl rfl ?_
      refine jr_i2l dX12_order_17 ?_
      refine jr_ldc2 (v := 10) jk_X12_358 dX12_order_18 ?_
      refine jr_ldc2 (v := 16) jk_X12_455 dX12_order_21 ?_
      obtain ⟨r8z, C12, k⟩ := k
      refine jr_cSi (As := [.long x2.toInt64, .long 10, .long 16]) jl_X12_128 km_X12_within rfl rfl dX12_order_24 (Nat.le_of_ble_eq_true rfl) (C12.pi (fun _ _ q => q) (fun E h' f => f.elim)) (fun r8 h9 q10 => ?_)
      obtain ⟨q10, q11⟩ := q10
      subst q11
      subst q10
      refine jr_if_ne (tgt := 36) dX12_order_27 (by decide) (fun c27 => ?_) (fun c27 => ?_)
      · have k := k.2 c27
        exact jr_sub [0, 1, 2] rfl k
      · have k := k.1 c27
        exact jr_sub [0] rfl k
set_option maxRecDepth 20000 in
theorem wX12_order_30  (k : ∃ Q7 : Int32 → MW → Prop, Con g mX12_fails d [.ref m, .int 1] (mw h m μ) (wPi h m Q7) ∧ ∀ (r1 : Int32) (μ6 : MW), Q7 r1 μ6 → P (.inl (some (.int r1))) (mw h m μ6)) : J g mX12_order (d + 1) hs P 30 [(0, .ref m)] [] (mw h m μ) := by
  refine jr_aload_n 0 dX12_order_30 rfl rfl ?_
  refine jr_iconst (v := 1) dX12_order_31 (by decide) ?_
  obtain ⟨Q7, C5, k⟩ := k
  refine jr_cVi (As := [.int 1]) jl_X12_234 km_X12_fails rfl rfl dX12_order_32 mw_o (Nat.le_of_ble_eq_true rfl) (Con.pi C5 (fun _ _ q => q) (fun E h' f => f.elim)) (fun r1 h2 q3 => ?_)
  obtain ⟨μ6, q3, q4⟩ := q3
  subst q4
  have k := k r1 μ6 q3
  exact jr_iret (ty := .int) rfl rfl dX12_order_35 k
set_option maxRecDepth 20000 in
theorem wX12_order_36 {x1 : Int32} {x2 : Int32} (k : ∃ Q7 : MW → Prop, Con g mX12_laysOrder d [.ref m, .int x1] (mw h m μ) (wPv h m Q7) ∧ ∀ μ6 : MW, Q7 μ6 → (x2 = 0 → P (.inl (some (.int ((μ6.1 30))))) (mw h m μ6)) ∧ (¬ x2 = 0 → ∃ r8 : Int32, Con g mX12_houses d [.ref m] (mw h m μ6) (jPi (fun r h' => r = r8 ∧ h' = (mw h m μ6)) no2) ∧ ((x2 - 10) < r8 → vp_in ((x2 - 10)) 7 ∧ P (.inl (some (.int ((μ6.2.1 12 (ix ((x2 - 10)))))))) (mw h m μ6)) ∧ (¬ (x2 - 10) < r8 → P (.inl (some (.int ((-1))))) (mw h m μ6)))) : J g mX12_order (d + 1) hs P 36 [(0, .ref m), (1, .int x1), (2, .int x2)] [] (mw h m μ) := by
  refine jr_aload_n 0 dX12_order_36 rfl rfl ?_
  refine jr_iload_n 1 dX12_order_37 rfl rfl ?_
  obtain ⟨Q7, C5, k⟩ := k
  refine jr_cVv (As := [.int x1]) jl_X12_457 km_X12_laysOrder rfl rfl dX12_order_38 mw_o (Nat.le_of_ble_eq_true rfl) (Con.pv C5 (fun _ q => q) (fun E h' f => f.elim)) (fun h2 q3 => ?_)
  obtain ⟨μ6, q3, q4⟩ := q3
  subst q4
  have k := k μ6 q3
  refine jr_iload_n 2 dX12_order_41 rfl rfl ?_
  refine jr_if_ne (tgt := 52) dX12_order_42 (by decide) (fun c42 => ?_) (fun c42 => ?_)
  · have k := k.2 c42
    refine jr_iload_n 2 dX12_order_52 rfl rfl ?_
    refine jr_bipush (v := 10) dX12_order_53 (by decide) ?_
    refine jr_isub dX12_order_55 ?_
    refine jr_aload_n 0 dX12_order_56 rfl rfl ?_
    obtain ⟨r8z, C12, k⟩ := k
    refine jr_cVi (As := []) jl_X12_249 km_X12_houses rfl rfl dX12_order_57 mw_o (Nat.le_of_ble_eq_true rfl) (C12.pi (fun _ _ q => q) (fun E h' f => f.elim)) (fun r8 h9 q10 => ?_)
    obtain ⟨q10, q11⟩ := q10
    subst q11
    subst q10
    refine jr_icmp_ge (tgt := 75) dX12_order_60 (by decide) (fun c60 => ?_) (fun c60 => ?_)
    · have k := k.2 c60
      refine jr_iconst (v := (-1)) dX12_order_75 (by decide) ?_
      exact jr_iret (ty := .int) rfl rfl dX12_order_76 k
    · have k := k.1 c60
      refine jr_aload_n 0 dX12_order_63 rfl rfl ?_
      refine jr_get jf_X12_48 dX12_order_64 mw_o rfl ?_
      refine jr_iload_n 2 dX12_order_67 rfl rfl ?_
      refine jr_bipush (v := 10) dX12_order_68 (by decide) ?_
      refine jr_isub dX12_order_70 ?_
      obtain ⟨e13, k⟩ := k
      refine jr_iald dX12_order_71 mw_12 e13 ?_
      refine jr_goto (tgt := 76) dX12_order_72 (by decide) ?_
      exact jr_iret (ty := .int) rfl rfl dX12_order_76 k
  · have k := k.1 c42
    refine jr_aload_n 0 dX12_order_45 rfl rfl ?_
    refine jr_get jf_X12_442 dX12_order_46 mw_o rfl ?_
    refine jr_goto (tgt := 76) dX12_order_49 (by decide) ?_
    exact jr_iret (ty := .int) rfl rfl dX12_order_76 k
set_option maxRecDepth 20000 in
theorem wX12_orders_0 {x1 : Int32} (k : ∃ r3 : Int32, Con g mX12_isSoon d [.int x1] (mw h m (mI μ 4 0)) (jPi (fun r h' => r = r3 ∧ h' = (mw h m (mI μ 4 0))) no2) ∧ (r3 = 0 → ∃ Q21 : Int32 → MW → Prop, Con g mX12_fails d [.ref m, .int 1] (mw h m (mI μ 4 0)) (wPi h m Q21) ∧ ∀ (r15 : Int32) (μ20 : MW), Q21 r15 μ20 → P (.inl (some (.int r15))) (mw h m μ20)) ∧ (¬ r3 = 0 → ∃ Q14 : MW → Prop, Con g mX12_laysOrder d [.ref m, .int x1] (mw h m (mI μ 4 0)) (wPv h m Q14) ∧ ∀ μ13 : MW, Q14 μ13 → P (.inl (some (.int ((μ13.1 31))))) (mw h m μ13))) : J g mX12_orders (d + 1) hs P 0 [(0, .ref m), (1, .int x1)] [] (mw h m μ) := by
  refine jr_aload_n 0 dX12_orders_0 rfl rfl ?_
  refine jr_iconst (v := 0) dX12_orders_1 (by decide) ?_
  refine jr_putE jp_X12_67 dX12_orders_2 mw_o (Nat.le_of_ble_eq_true rfl) rfl rfl (fun h1 e2 => ?_)
  replace e2 := e2.trans (mw_pI 4 ((0 : Int32)))
  subst e2
  refine jr_iload_n 1 dX12_orders_5 rfl rfl ?_
  obtain ⟨r3z, C7, k⟩ := k
  refine jr_cSi (As := [.int x1]) jl_X12_422 km_X12_isSoon rfl rfl dX12_orders_6 (Nat.le_of_ble_eq_true rfl) (C7.pi (fun _ _ q => q) (fun E h' f => f.elim)) (fun r3 h4 q5 => ?_)
  obtain ⟨q5, q6⟩ := q5
  subst q6
  subst q5
  refine jr_if_ne (tgt := 18) dX12_orders_9 (by decide) (fun c9 => ?_) (fun c9 => ?_)
  · have k := k.2 c9
    refine jr_aload_n 0 dX12_orders_18 rfl rfl ?_
    refine jr_iload_n 1 dX12_orders_19 rfl rfl ?_
    obtain ⟨Q14, C12, k⟩ := k
    refine jr_cVv (As := [.int x1]) jl_X12_457 km_X12_laysOrder rfl rfl dX12_orders_20 mw_o (Nat.le_of_ble_eq_true rfl) (Con.pv C12 (fun _ q => q) (fun E h' f => f.elim)) (fun h9 q10 => ?_)
    obtain ⟨μ13, q10, q11⟩ := q10
    subst q11
    have k := k μ13 q10
    refine jr_aload_n 0 dX12_orders_23 rfl rfl ?_
    refine jr_get jf_X12_445 dX12_orders_24 mw_o rfl ?_
    exact jr_iret (ty := .int) rfl rfl dX12_orders_27 k
  · have k := k.1 c9
    refine jr_aload_n 0 dX12_orders_12 rfl rfl ?_
    refine jr_iconst (v := 1) dX12_orders_13 (by decide) ?_
    obtain ⟨Q21, C19, k⟩ := k
    refine jr_cVi (As := [.int 1]) jl_X12_234 km_X12_fails rfl rfl dX12_orders_14 mw_o (Nat.le_of_ble_eq_true rfl) (Con.pi C19 (fun _ _ q => q) (fun E h' f => f.elim)) (fun r15 h16 q17 => ?_)
    obtain ⟨μ20, q17, q18⟩ := q17
    subst q18
    have k := k r15 μ20 q17
    exact jr_iret (ty := .int) rfl rfl dX12_orders_17 k
set_option maxRecDepth 20000 in
theorem wX12_bestSwap_0 {x1 : Int32} (k : ∃ r3 : Int32, Con g mX12_isSoon d [.int x1] (mw h m (mI μ 4 0)) (jPi (fun r h' => r = r3 ∧ h' = (mw h m (mI μ 4 0))) no2) ∧ (r3 = 0 → ∃ Q21 : Int32 → MW → Prop, Con g mX12_fails d [.ref m, .int 1] (mw h m (mI μ 4 0)) (wPi h m Q21) ∧ ∀ (r15 : Int32) (μ20 : MW), Q21 r15 μ20 → P (.inl (some (.int r15))) (mw h m μ20)) ∧ (¬ r3 = 0 → ∃ Q14 : Int32 → MW → Prop, Con g mX12_lostNow d [.ref m, .int x1] (mw h m (mI μ 4 0)) (wPi h m Q14) ∧ ∀ (r8 : Int32) (μ13 : MW), Q14 r8 μ13 → J g mX12_bestSwap (d + 1) hs P 29 [(0, .ref m), (1, .int x1), (2, .int (-1)), (3, .int r8), (4, .int 0)] [] (mw h m μ13))) : J g mX12_bestSwap (d + 1) hs P 0 [(0, .ref m), (1, .int x1)] [] (mw h m μ) := by
  refine jr_aload_n 0 dX12_bestSwap_0 rfl rfl ?_
  refine jr_iconst (v := 0) dX12_bestSwap_1 (by decide) ?_
  refine jr_putE jp_X12_67 dX12_bestSwap_2 mw_o (Nat.le_of_ble_eq_true rfl) rfl rfl (fun h1 e2 => ?_)
  replace e2 := e2.trans (mw_pI 4 ((0 : Int32)))
  subst e2
  refine jr_iload_n 1 dX12_bestSwap_5 rfl rfl ?_
  obtain ⟨r3z, C7, k⟩ := k
  refine jr_cSi (As := [.int x1]) jl_X12_422 km_X12_isSoon rfl rfl dX12_bestSwap_6 (Nat.le_of_ble_eq_true rfl) (C7.pi (fun _ _ q => q) (fun E h' f => f.elim)) (fun r3 h4 q5 => ?_)
  obtain ⟨q5, q6⟩ := q5
  subst q6
  subst q5
  refine jr_if_ne (tgt := 18) dX12_bestSwap_9 (by decide) (fun c9 => ?_) (fun c9 => ?_)
  · have k := k.2 c9
    refine jr_iconst (v := (-1)) dX12_bestSwap_18 (by decide) ?_
    refine jr_istore_n (lv' := [(2, .int (-1)), (0, .ref m), (1, .int x1)]) dX12_bestSwap_19 rfl (by decide) rfl ?_
    refine jr_aload_n 1 dX12_bestSwap_20 rfl rfl ?_
    refine jr_iload_n 2 dX12_bestSwap_21 rfl rfl ?_
    obtain ⟨Q14, C12, k⟩ := k
    refine jr_cVi (As := [.int x1]) jl_X12_425 km_X12_lostNow rfl rfl dX12_bestSwap_22 mw_o (Nat.le_of_ble_eq_true rfl) (Con.pi C12 (fun _ _ q => q) (fun E h' f => f.elim)) (fun r8 h9 q10 => ?_)
    obtain ⟨μ13, q10, q11⟩ := q10
    subst q11
    have k := k r8 μ13 q10
    refine jr_istore_n (lv' := [(3, .int r8), (2, .int (-1)), (0, .ref m), (1, .int x1)]) dX12_bestSwap_25 rfl (by decide) rfl ?_
    refine jr_iconst (v := 0) dX12_bestSwap_26 (by decide) ?_
    refine jr_istore (lv' := [(4, .int 0), (3, .int r8), (2, .int (-1)), (0, .ref m), (1, .int x1)]) dX12_bestSwap_27 (by decide) rfl ?_
    exact jr_sub [3, 4, 2, 1, 0] rfl k
  · have k := k.1 c9
    refine jr_aload_n 0 dX12_bestSwap_12 rfl rfl ?_
    refine jr_iconst (v := 1) dX12_bestSwap_13 (by decide) ?_
    obtain ⟨Q21, C19, k⟩ := k
    refine jr_cVi (As := [.int 1]) jl_X12_234 km_X12_fails rfl rfl dX12_bestSwap_14 mw_o (Nat.le_of_ble_eq_true rfl) (Con.pi C19 (fun _ _ q => q) (fun E h' f => f.elim)) (fun r15 h16 q17 => ?_)
    obtain ⟨μ20, q17, q18⟩ := q17
    subst q18
    have k := k r15 μ20 q17
    exact jr_iret (ty := .int) rfl rfl dX12_bestSwap_17 k
set_option maxRecDepth 20000 in
theorem wX12_bestSwap_29 {x1 : Int32} {x2 : Int32} {x3 : Int32} {x4 : Int32} (k : (x4 < 100 → ((x4 / 10) < (x4 - x4 / 10 * 10) → ∃ r1 : Int32, Con g mX12_whyTwo d [.ref m, .long ((x4 / 10)).toInt64, .long ((x4 - x4 / 10 * 10)).toInt64] (mw h m μ) (jPi (fun r h' => r = r1 ∧ h' = (mw h m μ)) no2) ∧ (r1 = 0 → ∃ Q12 : MW → Prop, Con g mX12_putsAside d [.ref m] (mw h m μ) (wPv h m Q12) ∧ ∀ μ11 : MW, Q12 μ11 → ∃ Q19 : MW → Prop, Con g mX12_swaps d [.ref m, .int (x4 / 10), .int (x4 - x4 / 10 * 10)] (mw h m μ11) (wPv h m Q19) ∧ ∀ μ18 : MW, Q19 μ18 → ∃ Q26 : Int32 → MW → Prop, Con g mX12_lostFromHere d [.ref m, .int x1] (mw h m μ18) (wPi h m Q26) ∧ ∀ (r20 : Int32) (μ25 : MW), Q26 r20 μ25 → (r20 < x3 → J g mX12_bestSwap (d + 1) hs P 29 [(0, .ref m), (1, .int x1), (2, .int x4), (3, .int r20), (4, .int (x4 + 1))] [] (mw h m μ25)) ∧ (¬ r20 < x3 → J g mX12_bestSwap (d + 1) hs P 29 [(0, .ref m), (1, .int x1), (2, .int x2), (3, .int x3), (4, .int (x4 + 1))] [] (mw h m μ25))) ∧ (¬ r1 = 0 → J g mX12_bestSwap (d + 1) hs P 29 [(0, .ref m), (1, .int x1), (2, .int x2), (3, .int x3), (4, .int (x4 + 1))] [] (mw h m μ))) ∧ (¬ (x4 / 10) < (x4 - x4 / 10 * 10) → J g mX12_bestSwap (d + 1) hs P 29 [(0, .ref m), (1, .int x1), (2, .int x2), (3, .int x3), (4, .int (x4 + 1))] [] (mw h m μ))) ∧ (¬ x4 < 100 → P (.inl (some (.int x2))) (mw h m μ))) : J g mX12_bestSwap (d + 1) hs P 29 [(0, .ref m), (1, .int x1), (2, .int x2), (3, .int x3), (4, .int x4)] [] (mw h m μ) := by
  refine jr_iload 4 dX12_bestSwap_29 rfl ?_
  refine jr_bipush (v := 100) dX12_bestSwap_31 (by decide) ?_
  refine jr_icmp_ge (tgt := 117) dX12_bestSwap_33 (by decide) (fun c33 => ?_) (fun c33 => ?_)
  · have k := k.2 c33
    refine jr_iload_n 2 dX12_bestSwap_117 rfl rfl ?_
    exact jr_iret (ty := .int) rfl rfl dX12_bestSwap_118 k
  · have k := k.1 c33
    refine jr_iload 4 dX12_bestSwap_36 rfl ?_
    refine jr_bipush (v := 10) dX12_bestSwap_38 (by decide) ?_
    refine jr_idiv dX12_bestSwap_40 (by decide) ?_
    refine jr_iload 4 dX12_bestSwap_41 rfl ?_
    refine jr_bipush (v := 10) dX12_bestSwap_43 (by decide) ?_
    refine jr_irem dX12_bestSwap_45 (by decide) ?_
    refine jr_icmp_ge (tgt := 111) dX12_bestSwap_46 (by decide) (fun c46 => ?_) (fun c46 => ?_)
    · have k := k.2 c46
      refine jr_iinc (v := (x4 + 1)) (lv' := [(4, .int (x4 + 1)), (0, .ref m), (1, .int x1), (2, .int x2), (3, .int x3)]) 4 dX12_bestSwap_111 rfl rfl (by decide) rfl ?_
      refine jr_goto (tgt := 29) dX12_bestSwap_114 (by decide) ?_
      exact jr_sub [1, 2, 3, 4, 0] rfl k
    · have k := k.1 c46
      refine jr_aload_n 0 dX12_bestSwap_49 rfl rfl ?_
      refine jr_iload 4 dX12_bestSwap_50 rfl ?_
      refine jr_bipush (v := 10) dX12_bestSwap_52 (by decide) ?_
      refine jr_idiv dX12_bestSwap_54 (by decide) ?_
      refine jr_i2l dX12_bestSwap_55 ?_
      refine jr_iload 4 dX12_bestSwap_56 rfl ?_
      refine jr_bipush (v := 10) dX12_bestSwap_58 (by decide) ?_
      refine jr_irem dX12_bestSwap_60 (by decide) ?_
      refine jr_i2l dX12_bestSwap_61 ?_
      obtain ⟨r1z, C5, k⟩ := k
      refine jr_cVi (As := [.long ((x4 / 10)).toInt64, .long ((x4 - x4 / 10 * 10)).toInt64]) jl_X12_323 km_X12_whyTwo rfl rfl dX12_bestSwap_62 mw_o (Nat.le_of_ble_eq_true rfl) (C5.pi (fun _ _ q => q) (fun E h' f => f.elim)) (fun r1 h2 q3 => ?_)
      obtain ⟨q3, q4⟩ := q3
      subst q4
      subst q3
      refine jr_if_eq (tgt := 71) dX12_bestSwap_65 (by decide) (fun c65 => ?_) (fun c65 => ?_)
      · have k := k.1 c65
        refine jr_aload_n 0 dX12_bestSwap_71 rfl rfl ?_
        obtain ⟨Q12, C10, k⟩ := k
        refine jr_cVv (As := []) jl_X12_380 km_X12_putsAside rfl rfl dX12_bestSwap_72 mw_o (Nat.le_of_ble_eq_true rfl) (Con.pv C10 (fun _ q => q) (fun E h' f => f.elim)) (fun h7 q8 => ?_)
        obtain ⟨μ11, q8, q9⟩ := q8
        subst q9
        have k := k μ11 q8
        refine jr_aload_n 0 dX12_bestSwap_75 rfl rfl ?_
        refine jr_iload 4 dX12_bestSwap_76 rfl ?_
        refine jr_bipush (v := 10) dX12_bestSwap_78 (by decide) ?_
        refine jr_idiv dX12_bestSwap_80 (by decide) ?_
        refine jr_iload 4 dX12_bestSwap_81 rfl ?_
        refine jr_bipush (v := 10) dX12_bestSwap_83 (by decide) ?_
        refine jr_irem dX12_bestSwap_85 (by decide) ?_
        obtain ⟨Q19, C17, k⟩ := k
        refine jr_cVv (As := [.int (x4 / 10), .int (x4 - x4 / 10 * 10)]) jl_X12_335 km_X12_swaps rfl rfl dX12_bestSwap_86 mw_o (Nat.le_of_ble_eq_true rfl) (Con.pv C17 (fun _ q => q) (fun E h' f => f.elim)) (fun h14 q15 => ?_)
        obtain ⟨μ18, q15, q16⟩ := q15
        subst q16
        have k := k μ18 q15
        refine jr_aload_n 0 dX12_bestSwap_89 rfl rfl ?_
        refine jr_iload_n 1 dX12_bestSwap_90 rfl rfl ?_
        obtain ⟨Q26, C24, k⟩ := k
        refine jr_cVi (As := [.int x1]) jl_X12_419 km_X12_lostFromHere rfl rfl dX12_bestSwap_91 mw_o (Nat.le_of_ble_eq_true rfl) (Con.pi C24 (fun _ _ q => q) (fun E h' f => f.elim)) (fun r20 h21 q22 => ?_)
        obtain ⟨μ25, q22, q23⟩ := q22
        subst q23
        have k := k r20 μ25 q22
        refine jr_istore (lv' := [(5, .int r20), (0, .ref m), (1, .int x1), (2, .int x2), (3, .int x3), (4, .int x4)]) dX12_bestSwap_94 (by decide) rfl ?_
        refine jr_iload 0 dX12_bestSwap_96 rfl ?_
        refine jr_iload_n 4 dX12_bestSwap_98 rfl rfl ?_
        refine jr_icmp_lt (tgt := 105) dX12_bestSwap_99 (by decide) (fun c99 => ?_) (fun c99 => ?_)
        · have k := k.1 c99
          refine jr_iload 5 dX12_bestSwap_105 rfl ?_
          refine jr_istore_n (lv' := [(2, .int x4), (5, .int r20), (0, .ref m), (1, .int x1), (3, .int x3), (4, .int x4)]) dX12_bestSwap_107 rfl (by decide) rfl ?_
          refine jr_iload 1 dX12_bestSwap_108 rfl ?_
          refine jr_istore_n (lv' := [(3, .int r20), (2, .int x4), (5, .int r20), (0, .ref m), (1, .int x1), (4, .int x4)]) dX12_bestSwap_110 rfl (by decide) rfl ?_
          refine jr_iinc (v := (x4 + 1)) (lv' := [(4, .int (x4 + 1)), (3, .int r20), (2, .int x4), (5, .int r20), (0, .ref m), (1, .int x1)]) 5 dX12_bestSwap_111 rfl rfl (by decide) rfl ?_
          refine jr_goto (tgt := 29) dX12_bestSwap_114 (by decide) ?_
          exact jr_sub [4, 5, 2, 1, 0] rfl k
        · have k := k.2 c99
          refine jr_goto (tgt := 111) dX12_bestSwap_102 (by decide) ?_
          refine jr_iinc (v := (x4 + 1)) (lv' := [(4, .int (x4 + 1)), (5, .int r20), (0, .ref m), (1, .int x1), (2, .int x2), (3, .int x3)]) 5 dX12_bestSwap_111 rfl rfl (by decide) rfl ?_
          refine jr_goto (tgt := 29) dX12_bestSwap_114 (by decide) ?_
          exact jr_sub [2, 3, 4, 5, 0] rfl k
      · have k := k.2 c65
        refine jr_goto (tgt := 111) dX12_bestSwap_68 (by decide) ?_
        refine jr_iinc (v := (x4 + 1)) (lv' := [(4, .int (x4 + 1)), (0, .ref m), (1, .int x1), (2, .int x2), (3, .int x3)]) 4 dX12_bestSwap_111 rfl rfl (by decide) rfl ?_
        refine jr_goto (tgt := 29) dX12_bestSwap_114 (by decide) ?_
        exact jr_sub [1, 2, 3, 4, 0] rfl k
set_option maxRecDepth 20000 in
theorem wX12_burdenAt_0 {x1 : Int32} {x2 : Int32} {x3 : Int32} (k : ∃ Q7 : MW → Prop, Con g mX12_putsAside d [.ref m] (mw h m μ) (wPv h m Q7) ∧ ∀ μ6 : MW, Q7 μ6 → (x1 = x2 → J g mX12_burdenAt (d + 1) hs P 15 [(0, .ref m), (2, .int x2), (3, .int x3)] [] (mw h m μ6)) ∧ (¬ x1 = x2 → ∃ Q14 : MW → Prop, Con g mX12_swaps d [.ref m, .int x1, .int x2] (mw h m μ6) (wPv h m Q14) ∧ ∀ μ13 : MW, Q14 μ13 → J g mX12_burdenAt (d + 1) hs P 15 [(0, .ref m), (2, .int x2), (3, .int x3)] [] (mw h m μ13))) : J g mX12_burdenAt (d + 1) hs P 0 [(0, .ref m), (1, .int x1), (2, .int x2), (3, .int x3)] [] (mw h m μ) := by
  refine jr_aload_n 0 dX12_burdenAt_0 rfl rfl ?_
  obtain ⟨Q7, C5, k⟩ := k
  refine jr_cVv (As := []) jl_X12_380 km_X12_putsAside rfl rfl dX12_burdenAt_1 mw_o (Nat.le_of_ble_eq_true rfl) (Con.pv C5 (fun _ q => q) (fun E h' f => f.elim)) (fun h2 q3 => ?_)
  obtain ⟨μ6, q3, q4⟩ := q3
  subst q4
  have k := k μ6 q3
  refine jr_iload_n 1 dX12_burdenAt_4 rfl rfl ?_
  refine jr_iload_n 2 dX12_burdenAt_5 rfl rfl ?_
  refine jr_icmp_eq (tgt := 15) dX12_burdenAt_6 (by decide) (fun c6 => ?_) (fun c6 => ?_)
  · have k := k.1 c6
    exact jr_sub [0, 2, 3] rfl k
  · have k := k.2 c6
    refine jr_aload_n 0 dX12_burdenAt_9 rfl rfl ?_
    refine jr_iload_n 1 dX12_burdenAt_10 rfl rfl ?_
    refine jr_iload_n 2 dX12_burdenAt_11 rfl rfl ?_
    obtain ⟨Q14, C12, k⟩ := k
    refine jr_cVv (As := [.int x1, .int x2]) jl_X12_335 km_X12_swaps rfl rfl dX12_burdenAt_12 mw_o (Nat.le_of_ble_eq_true rfl) (Con.pv C12 (fun _ q => q) (fun E h' f => f.elim)) (fun h9 q10 => ?_)
    obtain ⟨μ13, q10, q11⟩ := q10
    subst q11
    have k := k μ13 q10
    exact jr_sub [0, 2, 3] rfl k
set_option maxRecDepth 20000 in
theorem wX12_burdenAt_15 {x2 : Int32} {x3 : Int32} (k : ∃ Q7 : Int64 → MW → Prop, Con g mX12_burdenFromHere d [.ref m, .int x2, .int x3] (mw h m μ) (wPl h m Q7) ∧ ∀ (r1 : Int64) (μ6 : MW), Q7 r1 μ6 → P (.inl (some (.long r1))) (mw h m μ6)) : J g mX12_burdenAt (d + 1) hs P 15 [(0, .ref m), (2, .int x2), (3, .int x3)] [] (mw h m μ) := by
  refine jr_aload_n 0 dX12_burdenAt_15 rfl rfl ?_
  refine jr_iload_n 1 dX12_burdenAt_16 rfl rfl ?_
  refine jr_iload_n 2 dX12_burdenAt_17 rfl rfl ?_
  obtain ⟨Q7, C5, k⟩ := k
  refine jr_cVl (As := [.int x2, .int x3]) jl_X12_428 km_X12_burdenFromHere rfl rfl dX12_burdenAt_18 mw_o (Nat.le_of_ble_eq_true rfl) (Con.pl C5 (fun _ _ q => q) (fun E h' f => f.elim)) (fun r1 h2 q3 => ?_)
  obtain ⟨μ6, q3, q4⟩ := q3
  subst q4
  have k := k r1 μ6 q3
  exact jr_lret rfl dX12_burdenAt_21 k
set_option maxRecDepth 20000 in
theorem wX12_wouldSwap_0 {x1 : Int32} (k : ∃ r3 : Int32, Con g mX12_isSoon d [.int x1] (mw h m (mI μ 4 0)) (jPi (fun r h' => r = r3 ∧ h' = (mw h m (mI μ 4 0))) no2) ∧ (r3 = 0 → ∃ Q14 : Int32 → MW → Prop, Con g mX12_fails d [.ref m, .int 1] (mw h m (mI μ 4 0)) (wPi h m Q14) ∧ ∀ (r8 : Int32) (μ13 : MW), Q14 r8 μ13 → P (.inl (some (.int r8))) (mw h m μ13)) ∧ (¬ r3 = 0 → J g mX12_wouldSwap (d + 1) hs P 20 [(0, .ref m), (1, .int x1), (2, .int 0)] [] (mw h m (mI μ 4 0)))) : J g mX12_wouldSwap (d + 1) hs P 0 [(0, .ref m), (1, .int x1)] [] (mw h m μ) := by
  refine jr_aload_n 0 dX12_wouldSwap_0 rfl rfl ?_
  refine jr_iconst (v := 0) dX12_wouldSwap_1 (by decide) ?_
  refine jr_putE jp_X12_67 dX12_wouldSwap_2 mw_o (Nat.le_of_ble_eq_true rfl) rfl rfl (fun h1 e2 => ?_)
  replace e2 := e2.trans (mw_pI 4 ((0 : Int32)))
  subst e2
  refine jr_iload_n 1 dX12_wouldSwap_5 rfl rfl ?_
  obtain ⟨r3z, C7, k⟩ := k
  refine jr_cSi (As := [.int x1]) jl_X12_422 km_X12_isSoon rfl rfl dX12_wouldSwap_6 (Nat.le_of_ble_eq_true rfl) (C7.pi (fun _ _ q => q) (fun E h' f => f.elim)) (fun r3 h4 q5 => ?_)
  obtain ⟨q5, q6⟩ := q5
  subst q6
  subst q5
  refine jr_if_ne (tgt := 18) dX12_wouldSwap_9 (by decide) (fun c9 => ?_) (fun c9 => ?_)
  · have k := k.2 c9
    refine jr_iconst (v := 0) dX12_wouldSwap_18 (by decide) ?_
    refine jr_istore_n (lv' := [(2, .int 0), (0, .ref m), (1, .int x1)]) dX12_wouldSwap_19 rfl (by decide) rfl ?_
    exact jr_sub [1, 2, 0] rfl k
  · have k := k.1 c9
    refine jr_aload_n 0 dX12_wouldSwap_12 rfl rfl ?_
    refine jr_iconst (v := 1) dX12_wouldSwap_13 (by decide) ?_
    obtain ⟨Q14, C12, k⟩ := k
    refine jr_cVi (As := [.int 1]) jl_X12_234 km_X12_fails rfl rfl dX12_wouldSwap_14 mw_o (Nat.le_of_ble_eq_true rfl) (Con.pi C12 (fun _ _ q => q) (fun E h' f => f.elim)) (fun r8 h9 q10 => ?_)
    obtain ⟨μ13, q10, q11⟩ := q10
    subst q11
    have k := k r8 μ13 q10
    exact jr_iret (ty := .int) rfl rfl dX12_wouldSwap_17 k
set_option maxRecDepth 20000 in
theorem wX12_wouldSwap_20 {x1 : Int32} {x2 : Int32} (k : (x2 < 100 → ((x2 / 10) < (x2 - x2 / 10 * 10) → ∃ r1 : Int32, Con g mX12_whyTwo d [.ref m, .long ((x2 / 10)).toInt64, .long ((x2 - x2 / 10 * 10)).toInt64] (mw h m μ) (jPi (fun r h' => r = r1 ∧ h' = (mw h m μ)) no2) ∧ (r1 = 0 → ∃ r6 : Int32, Con g mX12_isGone d [.ref m, .int (x2 / 10)] (mw h m μ) (jPi (fun r h' => r = r6 ∧ h' = (mw h m μ)) no2) ∧ (r6 = 0 → ∃ r11 : Int32, Con g mX12_isGone d [.ref m, .int (x2 - x2 / 10 * 10)] (mw h m μ) (jPi (fun r h' => r = r11 ∧ h' = (mw h m μ)) no2) ∧ (r11 = 0 → ∃ Q22 : Int64 → MW → Prop, Con g mX12_burdenAt d [.ref m, .int (x2 / 10), .int (x2 - x2 / 10 * 10), .int x1] (mw h m μ) (wPl h m Q22) ∧ ∀ (r16 : Int64) (μ21 : MW), Q22 r16 μ21 → ∃ Q29 : Int64 → MW → Prop, Con g mX12_burdenNow d [.ref m, .int (x2 / 10), .int x1] (mw h m μ21) (wPl h m Q29) ∧ ∀ (r23 : Int64) (μ28 : MW), Q29 r23 μ28 → (r16 < r23 → ∃ Q36 : Int64 → MW → Prop, Con g mX12_burdenAt d [.ref m, .int (x2 - x2 / 10 * 10), .int (x2 / 10), .int x1] (mw h m μ28) (wPl h m Q36) ∧ ∀ (r30 : Int64) (μ35 : MW), Q36 r30 μ35 → ∃ Q43 : Int64 → MW → Prop, Con g mX12_burdenNow d [.ref m, .int (x2 - x2 / 10 * 10), .int x1] (mw h m μ35) (wPl h m Q43) ∧ ∀ (r37 : Int64) (μ42 : MW), Q43 r37 μ42 → (r30 < r37 → P (.inl (some (.int x2))) (mw h m μ42)) ∧ (¬ r30 < r37 → J g mX12_wouldSwap (d + 1) hs P 20 [(0, .ref m), (1, .int x1), (2, .int (x2 + 1))] [] (mw h m μ42))) ∧ (¬ r16 < r23 → J g mX12_wouldSwap (d + 1) hs P 20 [(0, .ref m), (1, .int x1), (2, .int (x2 + 1))] [] (mw h m μ28))) ∧ (¬ r11 = 0 → J g mX12_wouldSwap (d + 1) hs P 20 [(0, .ref m), (1, .int x1), (2, .int (x2 + 1))] [] (mw h m μ))) ∧ (¬ r6 = 0 → J g mX12_wouldSwap (d + 1) hs P 20 [(0, .ref m), (1, .int x1), (2, .int (x2 + 1))] [] (mw h m μ))) ∧ (¬ r1 = 0 → J g mX12_wouldSwap (d + 1) hs P 20 [(0, .ref m), (1, .int x1), (2, .int (x2 + 1))] [] (mw h m μ))) ∧ (¬ (x2 / 10) < (x2 - x2 / 10 * 10) → J g mX12_wouldSwap (d + 1) hs P 20 [(0, .ref m), (1, .int x1), (2, .int (x2 + 1))] [] (mw h m μ))) ∧ (¬ x2 < 100 → P (.inl (some (.int ((-1))))) (mw h m μ))) : J g mX12_wouldSwap (d + 1) hs P 20 [(0, .ref m), (1, .int x1), (2, .int x2)] [] (mw h m μ) := by
  refine jr_iload_n 2 dX12_wouldSwap_20 rfl rfl ?_
  refine jr_bipush (v := 100) dX12_wouldSwap_21 (by decide) ?_
  refine jr_icmp_ge (tgt := 120) dX12_wouldSwap_23 (by decide) (fun c23 => ?_) (fun c23 => ?_)
  · have k := k.2 c23
    refine jr_iconst (v := (-1)) dX12_wouldSwap_120 (by decide) ?_
    exact jr_iret (ty := .int) rfl rfl dX12_wouldSwap_121 k
  · have k := k.1 c23
    refine jr_iload_n 2 dX12_wouldSwap_26 rfl rfl ?_
    refine jr_bipush (v := 10) dX12_wouldSwap_27 (by decide) ?_
    refine jr_idiv dX12_wouldSwap_29 (by decide) ?_
    refine jr_istore_n (lv' := [(3, .int (x2 / 10)), (0, .ref m), (1, .int x1), (2, .int x2)]) dX12_wouldSwap_30 rfl (by decide) rfl ?_
    refine jr_iload_n 3 dX12_wouldSwap_31 rfl rfl ?_
    refine jr_bipush (v := 10) dX12_wouldSwap_32 (by decide) ?_
    refine jr_irem dX12_wouldSwap_34 (by decide) ?_
    refine jr_istore (lv' := [(4, .int (x2 - x2 / 10 * 10)), (3, .int (x2 / 10)), (0, .ref m), (1, .int x1), (2, .int x2)]) dX12_wouldSwap_35 (by decide) rfl ?_
    refine jr_iload_n 1 dX12_wouldSwap_37 rfl rfl ?_
    refine jr_iload 0 dX12_wouldSwap_38 rfl ?_
    refine jr_icmp_ge (tgt := 114) dX12_wouldSwap_40 (by decide) (fun c40 => ?_) (fun c40 => ?_)
    · have k := k.2 c40
      refine jr_iinc (v := (x2 + 1)) (lv' := [(2, .int (x2 + 1)), (4, .int (x2 - x2 / 10 * 10)), (3, .int (x2 / 10)), (0, .ref m), (1, .int x1)]) 4 dX12_wouldSwap_114 rfl rfl (by decide) rfl ?_
      refine jr_goto (tgt := 20) dX12_wouldSwap_117 (by decide) ?_
      exact jr_sub [3, 4, 0] rfl k
    · have k := k.1 c40
      refine jr_aload_n 2 dX12_wouldSwap_43 rfl rfl ?_
      refine jr_iload_n 1 dX12_wouldSwap_44 rfl rfl ?_
      refine jr_i2l dX12_wouldSwap_45 ?_
      refine jr_iload 0 dX12_wouldSwap_46 rfl ?_
      refine jr_i2l dX12_wouldSwap_48 ?_
      obtain ⟨r1z, C5, k⟩ := k
      refine jr_cVi (As := [.long ((x2 / 10)).toInt64, .long ((x2 - x2 / 10 * 10)).toInt64]) jl_X12_323 km_X12_whyTwo rfl rfl dX12_wouldSwap_49 mw_o (Nat.le_of_ble_eq_true rfl) (C5.pi (fun _ _ q => q) (fun E h' f => f.elim)) (fun r1 h2 q3 => ?_)
      obtain ⟨q3, q4⟩ := q3
      subst q4
      subst q3
      refine jr_if_ne (tgt := 114) dX12_wouldSwap_52 (by decide) (fun c52 => ?_) (fun c52 => ?_)
      · have k := k.2 c52
        refine jr_iinc (v := (x2 + 1)) (lv' := [(2, .int (x2 + 1)), (4, .int (x2 - x2 / 10 * 10)), (3, .int (x2 / 10)), (0, .ref m), (1, .int x1)]) 4 dX12_wouldSwap_114 rfl rfl (by decide) rfl ?_
        refine jr_goto (tgt := 20) dX12_wouldSwap_117 (by decide) ?_
        exact jr_sub [3, 4, 0] rfl k
      · have k := k.1 c52
        refine jr_aload_n 2 dX12_wouldSwap_55 rfl rfl ?_
        refine jr_iload_n 1 dX12_wouldSwap_56 rfl rfl ?_
        obtain ⟨r6z, C10, k⟩ := k
        refine jr_cVi (As := [.int (x2 / 10)]) jl_X12_291 km_X12_isGone rfl rfl dX12_wouldSwap_57 mw_o (Nat.le_of_ble_eq_true rfl) (C10.pi (fun _ _ q => q) (fun E h' f => f.elim)) (fun r6 h7 q8 => ?_)
        obtain ⟨q8, q9⟩ := q8
        subst q9
        subst q8
        refine jr_if_ne (tgt := 114) dX12_wouldSwap_60 (by decide) (fun c60 => ?_) (fun c60 => ?_)
        · have k := k.2 c60
          refine jr_iinc (v := (x2 + 1)) (lv' := [(2, .int (x2 + 1)), (4, .int (x2 - x2 / 10 * 10)), (3, .int (x2 / 10)), (0, .ref m), (1, .int x1)]) 4 dX12_wouldSwap_114 rfl rfl (by decide) rfl ?_
          refine jr_goto (tgt := 20) dX12_wouldSwap_117 (by decide) ?_
          exact jr_sub [3, 4, 0] rfl k
        · have k := k.1 c60
          refine jr_aload_n 2 dX12_wouldSwap_63 rfl rfl ?_
          refine jr_iload 0 dX12_wouldSwap_64 rfl ?_
          obtain ⟨r11z, C15, k⟩ := k
          refine jr_cVi (As := [.int (x2 - x2 / 10 * 10)]) jl_X12_291 km_X12_isGone rfl rfl dX12_wouldSwap_66 mw_o (Nat.le_of_ble_eq_true rfl) (C15.pi (fun _ _ q => q) (fun E h' f => f.elim)) (fun r11 h12 q13 => ?_)
          obtain ⟨q13, q14⟩ := q13
          subst q14
          subst q13
          refine jr_if_eq (tgt := 75) dX12_wouldSwap_69 (by decide) (fun c69 => ?_) (fun c69 => ?_)
          · have k := k.1 c69
            refine jr_aload_n 2 dX12_wouldSwap_75 rfl rfl ?_
            refine jr_iload_n 1 dX12_wouldSwap_76 rfl rfl ?_
            refine jr_iload 0 dX12_wouldSwap_77 rfl ?_
            refine jr_iload_n 3 dX12_wouldSwap_79 rfl rfl ?_
            obtain ⟨Q22, C20, k⟩ := k
            refine jr_cVl (As := [.int (x2 / 10), .int (x2 - x2 / 10 * 10), .int x1]) jl_X12_460 km_X12_burdenAt rfl rfl dX12_wouldSwap_80 mw_o (Nat.le_of_ble_eq_true rfl) (Con.pl C20 (fun _ _ q => q) (fun E h' f => f.elim)) (fun r16 h17 q18 => ?_)
            obtain ⟨μ21, q18, q19⟩ := q18
            subst q19
            have k := k r16 μ21 q18
            refine jr_aload_n 2 dX12_wouldSwap_83 rfl rfl ?_
            refine jr_iload_n 1 dX12_wouldSwap_84 rfl rfl ?_
            refine jr_iload_n 3 dX12_wouldSwap_85 rfl rfl ?_
            obtain ⟨Q29, C27, k⟩ := k
            refine jr_cVl (As := [.int (x2 / 10), .int x1]) jl_X12_436 km_X12_burdenNow rfl rfl dX12_wouldSwap_86 mw_o (Nat.le_of_ble_eq_true rfl) (Con.pl C27 (fun _ _ q => q) (fun E h' f => f.elim)) (fun r23 h24 q25 => ?_)
            obtain ⟨μ28, q25, q26⟩ := q25
            subst q26
            have k := k r23 μ28 q25
            refine jr_lcmp_ge (tgt := 114) dX12_wouldSwap_89 dX12_wouldSwap_90 (by decide) (fun c89 => ?_) (fun c89 => ?_)
            · have k := k.2 c89
              refine jr_iinc (v := (x2 + 1)) (lv' := [(2, .int (x2 + 1)), (4, .int (x2 - x2 / 10 * 10)), (3, .int (x2 / 10)), (0, .ref m), (1, .int x1)]) 4 dX12_wouldSwap_114 rfl rfl (by decide) rfl ?_
              refine jr_goto (tgt := 20) dX12_wouldSwap_117 (by decide) ?_
              exact jr_sub [3, 4, 0] rfl k
            · have k := k.1 c89
              refine jr_aload_n 2 dX12_wouldSwap_93 rfl rfl ?_
              refine jr_iload 0 dX12_wouldSwap_94 rfl ?_
              refine jr_iload_n 1 dX12_wouldSwap_96 rfl rfl ?_
              refine jr_iload_n 3 dX12_wouldSwap_97 rfl rfl ?_
              obtain ⟨Q36, C34, k⟩ := k
              refine jr_cVl (As := [.int (x2 - x2 / 10 * 10), .int (x2 / 10), .int x1]) jl_X12_460 km_X12_burdenAt rfl rfl dX12_wouldSwap_98 mw_o (Nat.le_of_ble_eq_true rfl) (Con.pl C34 (fun _ _ q => q) (fun E h' f => f.elim)) (fun r30 h31 q32 => ?_)
              obtain ⟨μ35, q32, q33⟩ := q32
              subst q33
              have k := k r30 μ35 q32
              refine jr_aload_n 2 dX12_wouldSwap_101 rfl rfl ?_
              refine jr_iload 0 dX12_wouldSwap_102 rfl ?_
              refine jr_iload_n 3 dX12_wouldSwap_104 rfl rfl ?_
              obtain ⟨Q43, C41, k⟩ := k
              refine jr_cVl (As := [.int (x2 - x2 / 10 * 10), .int x1]) jl_X12_436 km_X12_burdenNow rfl rfl dX12_wouldSwap_105 mw_o (Nat.le_of_ble_eq_true rfl) (Con.pl C41 (fun _ _ q => q) (fun E h' f => f.elim)) (fun r37 h38 q39 => ?_)
              obtain ⟨μ42, q39, q40⟩ := q39
              subst q40
              have k := k r37 μ42 q39
              refine jr_lcmp_ge (tgt := 114) dX12_wouldSwap_108 dX12_wouldSwap_109 (by decide) (fun c108 => ?_) (fun c108 => ?_)
              · have k := k.2 c108
                refine jr_iinc (v := (x2 + 1)) (lv' := [(2, .int (x2 + 1)), (4, .int (x2 - x2 / 10 * 10)), (3, .int (x2 / 10)), (0, .ref m), (1, .int x1)]) 4 dX12_wouldSwap_114 rfl rfl (by decide) rfl ?_
                refine jr_goto (tgt := 20) dX12_wouldSwap_117 (by decide) ?_
                exact jr_sub [3, 4, 0] rfl k
              · have k := k.1 c108
                refine jr_iload_n 4 dX12_wouldSwap_112 rfl rfl ?_
                exact jr_iret (ty := .int) rfl rfl dX12_wouldSwap_113 k
          · have k := k.2 c69
            refine jr_goto (tgt := 114) dX12_wouldSwap_72 (by decide) ?_
            refine jr_iinc (v := (x2 + 1)) (lv' := [(2, .int (x2 + 1)), (4, .int (x2 - x2 / 10 * 10)), (3, .int (x2 / 10)), (0, .ref m), (1, .int x1)]) 4 dX12_wouldSwap_114 rfl rfl (by decide) rfl ?_
            refine jr_goto (tgt := 20) dX12_wouldSwap_117 (by decide) ?_
            exact jr_sub [3, 4, 0] rfl k
set_option maxRecDepth 20000 in
theorem wX12_bestHouse_0 {x1 : Int32} {x2 : Int32} (k : ∃ Q7 : Int32 → MW → Prop, Con g mX12_isSoonOut d [.ref m, .int x1, .int x2] (mw h m μ) (wPi h m Q7) ∧ ∀ (r1 : Int32) (μ6 : MW), Q7 r1 μ6 → (r1 = 0 → ∃ Q14 : Int64 → MW → Prop, Con g mX12_burdenAt d [.ref m, .int x1, .int 0, .int x2] (mw h m μ6) (wPl h m Q14) ∧ ∀ (r8 : Int64) (μ13 : MW), Q14 r8 μ13 → J g mX12_bestHouse (d + 1) hs P 25 [(0, .ref m), (1, .int x1), (2, .int x2), (3, .int 0), (4, .long r8), (6, .int 1)] [] (mw h m μ13)) ∧ (¬ r1 = 0 → P (.inl (some (.int 0))) (mw h m μ6))) : J g mX12_bestHouse (d + 1) hs P 0 [(0, .ref m), (1, .int x1), (2, .int x2)] [] (mw h m μ) := by
  refine jr_aload_n 0 dX12_bestHouse_0 rfl rfl ?_
  refine jr_iload_n 1 dX12_bestHouse_1 rfl rfl ?_
  refine jr_iload_n 2 dX12_bestHouse_2 rfl rfl ?_
  obtain ⟨Q7, C5, k⟩ := k
  refine jr_cVi (As := [.int x1, .int x2]) jl_X12_432 km_X12_isSoonOut rfl rfl dX12_bestHouse_3 mw_o (Nat.le_of_ble_eq_true rfl) (Con.pi C5 (fun _ _ q => q) (fun E h' f => f.elim)) (fun r1 h2 q3 => ?_)
  obtain ⟨μ6, q3, q4⟩ := q3
  subst q4
  have k := k r1 μ6 q3
  refine jr_if_eq (tgt := 11) dX12_bestHouse_6 (by decide) (fun c6 => ?_) (fun c6 => ?_)
  · have k := k.1 c6
    refine jr_iconst (v := 0) dX12_bestHouse_11 (by decide) ?_
    refine jr_istore_n (lv' := [(3, .int 0), (0, .ref m), (1, .int x1), (2, .int x2)]) dX12_bestHouse_12 rfl (by decide) rfl ?_
    refine jr_aload_n 1 dX12_bestHouse_13 rfl rfl ?_
    refine jr_iload_n 2 dX12_bestHouse_14 rfl rfl ?_
    refine jr_iconst (v := 0) dX12_bestHouse_15 (by decide) ?_
    refine jr_iload_n 3 dX12_bestHouse_16 rfl rfl ?_
    obtain ⟨Q14, C12, k⟩ := k
    refine jr_cVl (As := [.int x1, .int 0, .int x2]) jl_X12_460 km_X12_burdenAt rfl rfl dX12_bestHouse_17 mw_o (Nat.le_of_ble_eq_true rfl) (Con.pl C12 (fun _ _ q => q) (fun E h' f => f.elim)) (fun r8 h9 q10 => ?_)
    obtain ⟨μ13, q10, q11⟩ := q10
    subst q11
    have k := k r8 μ13 q10
    refine jr_lstore (lv' := [(4, .long r8), (3, .int 0), (0, .ref m), (1, .int x1), (2, .int x2)]) dX12_bestHouse_20 (by decide) rfl ?_
    refine jr_iconst (v := 1) dX12_bestHouse_22 (by decide) ?_
    refine jr_istore (lv' := [(6, .int 1), (4, .long r8), (3, .int 0), (0, .ref m), (1, .int x1), (2, .int x2)]) dX12_bestHouse_23 (by decide) rfl ?_
    exact jr_sub [3, 4, 5, 2, 1, 0] rfl k
  · have k := k.2 c6
    refine jr_iconst (v := 0) dX12_bestHouse_9 (by decide) ?_
    exact jr_iret (ty := .int) rfl rfl dX12_bestHouse_10 k
set_option maxRecDepth 20000 in
theorem wX12_bestHouse_25 {x1 : Int32} {x2 : Int32} {x3 : Int32} {x4 : Int64} {x6 : Int32} (k : ∃ r1 : Int32, Con g mX12_houses d [.ref m] (mw h m μ) (jPi (fun r h' => r = r1 ∧ h' = (mw h m μ)) no2) ∧ (x6 < r1 → ∃ Q12 : Int64 → MW → Prop, Con g mX12_burdenAt d [.ref m, .int x1, .int x6, .int x2] (mw h m μ) (wPl h m Q12) ∧ ∀ (r6 : Int64) (μ11 : MW), Q12 r6 μ11 → (r6 < x4 → J g mX12_bestHouse (d + 1) hs P 25 [(0, .ref m), (1, .int x1), (2, .int x2), (3, .int x6), (4, .long r6), (6, .int (x6 + 1))] [] (mw h m μ11)) ∧ (¬ r6 < x4 → J g mX12_bestHouse (d + 1) hs P 25 [(0, .ref m), (1, .int x1), (2, .int x2), (3, .int x3), (4, .long x4), (6, .int (x6 + 1))] [] (mw h m μ11))) ∧ (¬ x6 < r1 → P (.inl (some (.int x3))) (mw h m μ))) : J g mX12_bestHouse (d + 1) hs P 25 [(0, .ref m), (1, .int x1), (2, .int x2), (3, .int x3), (4, .long x4), (6, .int x6)] [] (mw h m μ) := by
  refine jr_iload 5 dX12_bestHouse_25 rfl ?_
  refine jr_aload_n 0 dX12_bestHouse_27 rfl rfl ?_
  obtain ⟨r1z, C5, k⟩ := k
  refine jr_cVi (As := []) jl_X12_249 km_X12_houses rfl rfl dX12_bestHouse_28 mw_o (Nat.le_of_ble_eq_true rfl) (C5.pi (fun _ _ q => q) (fun E h' f => f.elim)) (fun r1 h2 q3 => ?_)
  obtain ⟨q3, q4⟩ := q3
  subst q4
  subst q3
  refine jr_icmp_ge (tgt := 68) dX12_bestHouse_31 (by decide) (fun c31 => ?_) (fun c31 => ?_)
  · have k := k.2 c31
    refine jr_iload_n 3 dX12_bestHouse_68 rfl rfl ?_
    exact jr_iret (ty := .int) rfl rfl dX12_bestHouse_69 k
  · have k := k.1 c31
    refine jr_aload_n 0 dX12_bestHouse_34 rfl rfl ?_
    refine jr_iload_n 1 dX12_bestHouse_35 rfl rfl ?_
    refine jr_iload 5 dX12_bestHouse_36 rfl ?_
    refine jr_iload_n 2 dX12_bestHouse_38 rfl rfl ?_
    obtain ⟨Q12, C10, k⟩ := k
    refine jr_cVl (As := [.int x1, .int x6, .int x2]) jl_X12_460 km_X12_burdenAt rfl rfl dX12_bestHouse_39 mw_o (Nat.le_of_ble_eq_true rfl) (Con.pl C10 (fun _ _ q => q) (fun E h' f => f.elim)) (fun r6 h7 q8 => ?_)
    obtain ⟨μ11, q8, q9⟩ := q8
    subst q9
    have k := k r6 μ11 q8
    refine jr_lstore (lv' := [(7, .long r6), (0, .ref m), (1, .int x1), (2, .int x2), (3, .int x3), (4, .long x4), (6, .int x6)]) dX12_bestHouse_42 (by decide) rfl ?_
    refine jr_lload 0 dX12_bestHouse_44 rfl ?_
    refine jr_lload 5 dX12_bestHouse_46 rfl ?_
    refine jr_lcmp_lt (tgt := 55) dX12_bestHouse_48 dX12_bestHouse_49 (by decide) (fun c48 => ?_) (fun c48 => ?_)
    · have k := k.1 c48
      refine jr_iload 6 dX12_bestHouse_55 rfl ?_
      refine jr_istore_n (lv' := [(3, .int x6), (7, .long r6), (0, .ref m), (1, .int x1), (2, .int x2), (4, .long x4), (6, .int x6)]) dX12_bestHouse_57 rfl (by decide) rfl ?_
      refine jr_lload 1 dX12_bestHouse_58 rfl ?_
      refine jr_lstore (lv' := [(4, .long r6), (3, .int x6), (7, .long r6), (0, .ref m), (1, .int x1), (2, .int x2), (6, .int x6)]) dX12_bestHouse_60 (by decide) rfl ?_
      refine jr_iinc (v := (x6 + 1)) (lv' := [(6, .int (x6 + 1)), (4, .long r6), (3, .int x6), (7, .long r6), (0, .ref m), (1, .int x1), (2, .int x2)]) 6 dX12_bestHouse_62 rfl rfl (by decide) rfl ?_
      refine jr_goto (tgt := 25) dX12_bestHouse_65 (by decide) ?_
      exact jr_sub [4, 5, 6, 2, 1, 0] rfl k
    · have k := k.2 c48
      refine jr_goto (tgt := 62) dX12_bestHouse_52 (by decide) ?_
      refine jr_iinc (v := (x6 + 1)) (lv' := [(6, .int (x6 + 1)), (7, .long r6), (0, .ref m), (1, .int x1), (2, .int x2), (3, .int x3), (4, .long x4)]) 6 dX12_bestHouse_62 rfl rfl (by decide) rfl ?_
      refine jr_goto (tgt := 25) dX12_bestHouse_65 (by decide) ?_
      exact jr_sub [2, 3, 4, 5, 6, 0] rfl k
set_option maxRecDepth 20000 in
theorem wX12_isLostFromHere_0 {x1 : Int32} {x2 : Int32} (k : ∃ Q7 : Int32 → MW → Prop, Con g mX12_lostFromHere d [.ref m, .int x2] (mw h m μ) (wPi h m Q7) ∧ ∀ (r1 : Int32) (μ6 : MW), Q7 r1 μ6 → ∃ r8 : Int32, Con g mX12_has d [.int (μ6.1 27), .int x1] (mw h m μ6) (jPi (fun r h' => r = r8 ∧ h' = (mw h m μ6)) no2) ∧ (r8 = 0 ∨ r8 = 1) ∧ P (.inl (some (.int r8))) (mw h m μ6)) : J g mX12_isLostFromHere (d + 1) hs P 0 [(0, .ref m), (1, .int x1), (2, .int x2)] [] (mw h m μ) := by
  refine jr_aload_n 0 dX12_isLostFromHere_0 rfl rfl ?_
  refine jr_iload_n 2 dX12_isLostFromHere_1 rfl rfl ?_
  obtain ⟨Q7, C5, k⟩ := k
  refine jr_cVi (As := [.int x2]) jl_X12_419 km_X12_lostFromHere rfl rfl dX12_isLostFromHere_2 mw_o (Nat.le_of_ble_eq_true rfl) (Con.pi C5 (fun _ _ q => q) (fun E h' f => f.elim)) (fun r1 h2 q3 => ?_)
  obtain ⟨μ6, q3, q4⟩ := q3
  subst q4
  have k := k r1 μ6 q3
  refine jr_pop dX12_isLostFromHere_5 rfl ?_
  refine jr_aload_n 0 dX12_isLostFromHere_6 rfl rfl ?_
  refine jr_get jf_X12_413 dX12_isLostFromHere_7 mw_o rfl ?_
  refine jr_iload_n 1 dX12_isLostFromHere_10 rfl rfl ?_
  obtain ⟨r8z, C12, k⟩ := k
  refine jr_cSi (As := [.int (μ6.1 27), .int x1]) jl_X12_448 km_X12_has rfl rfl dX12_isLostFromHere_11 (Nat.le_of_ble_eq_true rfl) (C12.pi (fun _ _ q => q) (fun E h' f => f.elim)) (fun r8 h9 q10 => ?_)
  obtain ⟨q10, q11⟩ := q10
  subst q11
  subst q10
  exact jr_iret (ty := .boolean) rfl (jz_n k.1) dX12_isLostFromHere_14 k.2
set_option maxRecDepth 20000 in
theorem wX12_hedges_0 {x1 : Int32} {x2 : Int32} {x3 : Int32} (k : ∃ r1 : Int32, Con g mX12_isHouse d [.ref m, .long x1.toInt64] (mw h m μ) (jPi (fun r h' => r = r1 ∧ h' = (mw h m μ)) no2) ∧ (r1 = 0 → J g mX12_hedges (d + 1) hs P 48 [(0, .ref m), (1, .int x1), (2, .int x2), (3, .int x3)] [.int 1, .ref m] (mw h m μ)) ∧ (¬ r1 = 0 → ∃ r6 : Int32, Con g mX12_isSoon d [.int x2] (mw h m μ) (jPi (fun r h' => r = r6 ∧ h' = (mw h m μ)) no2) ∧ (r6 = 0 → J g mX12_hedges (d + 1) hs P 31 [(0, .ref m), (1, .int x1), (2, .int x2), (3, .int x3)] [.ref m] (mw h m μ)) ∧ (¬ r6 = 0 → ∃ r11 : Int32, Con g mX12_within d [.long x3.toInt64, .long 0, .long 1] (mw h m μ) (jPi (fun r h' => r = r11 ∧ h' = (mw h m μ)) no2) ∧ (r11 = 0 → J g mX12_hedges (d + 1) hs P 31 [(0, .ref m), (1, .int x1), (2, .int x2), (3, .int x3)] [.ref m] (mw h m μ)) ∧ (¬ r11 = 0 → ∃ r16 : Int32, Con g mX12_isGone d [.ref m, .int x1] (mw h m μ) (jPi (fun r h' => r = r16 ∧ h' = (mw h m μ)) no2) ∧ (r16 = 0 → J g mX12_hedges (d + 1) hs P 48 [(0, .ref m), (1, .int x1), (2, .int x2), (3, .int x3)] [.int 0, .ref m] (mw h m μ)) ∧ (¬ r16 = 0 → J g mX12_hedges (d + 1) hs P 48 [(0, .ref m), (1, .int x1), (2, .int x2), (3, .int x3)] [.int 3, .ref m] (mw h m μ)))))) : J g mX12_hedges (d + 1) hs P 0 [(0, .ref m), (1, .int x1), (2, .int x2), (3, .int x3)] [] (mw h m μ) := by
  refine jr_aload_n 0 dX12_hedges_0 rfl rfl ?_
  refine jr_aload_n 0 dX12_hedges_1 rfl rfl ?_
  refine jr_iload_n 1 dX12_hedges_2 rfl rfl ?_
  refine jr_i2l dX12_hedges_3 ?_
  obtain ⟨r1z, C5, k⟩ := k
  refine jr_cVi (As := [.long x1.toInt64]) jl_X12_313 km_X12_isHouse rfl rfl dX12_hedges_4 mw_o (Nat.le_of_ble_eq_true rfl) (C5.pi (fun _ _ q => q) (fun E h' f => f.elim)) (fun r1 h2 q3 => ?_)
  obtain ⟨q3, q4⟩ := q3
  subst q4
  subst q3
  refine jr_if_ne (tgt := 14) dX12_hedges_7 (by decide) (fun c7 => ?_) (fun c7 => ?_)
  · have k := k.2 c7
    refine jr_iload_n 2 dX12_hedges_14 rfl rfl ?_
    obtain ⟨r6z, C10, k⟩ := k
    refine jr_cSi (As := [.int x2]) jl_X12_422 km_X12_isSoon rfl rfl dX12_hedges_15 (Nat.le_of_ble_eq_true rfl) (C10.pi (fun _ _ q => q) (fun E h' f => f.elim)) (fun r6 h7 q8 => ?_)
    obtain ⟨q8, q9⟩ := q8
    subst q9
    subst q8
    refine jr_if_eq (tgt := 31) dX12_hedges_18 (by decide) (fun c18 => ?_) (fun c18 => ?_)
    · have k := k.1 c18
      exact jr_sub [0, 1, 2, 3] rfl k
    · have k := k.2 c18
      refine jr_iload_n 3 dX12_hedges_21 rfl rfl ?_
      refine jr_i2l dX12_hedges_22 ?_
      refine jr_lconst (v := 0) dX12_hedges_23 (by decide) ?_
      refine jr_lconst (v := 1) dX12_hedges_24 (by decide) ?_
      obtain ⟨r11z, C15, k⟩ := k
      refine jr_cSi (As := [.long x3.toInt64, .long 0, .long 1]) jl_X12_128 km_X12_within rfl rfl dX12_hedges_25 (Nat.le_of_ble_eq_true rfl) (C15.pi (fun _ _ q => q) (fun E h' f => f.elim)) (fun r11 h12 q13 => ?_)
      obtain ⟨q13, q14⟩ := q13
      subst q14
      subst q13
      refine jr_if_ne (tgt := 35) dX12_hedges_28 (by decide) (fun c28 => ?_) (fun c28 => ?_)
      · have k := k.2 c28
        refine jr_aload_n 0 dX12_hedges_35 rfl rfl ?_
        refine jr_iload_n 1 dX12_hedges_36 rfl rfl ?_
        obtain ⟨r16z, C20, k⟩ := k
        refine jr_cVi (As := [.int x1]) jl_X12_291 km_X12_isGone rfl rfl dX12_hedges_37 mw_o (Nat.le_of_ble_eq_true rfl) (C20.pi (fun _ _ q => q) (fun E h' f => f.elim)) (fun r16 h17 q18 => ?_)
        obtain ⟨q18, q19⟩ := q18
        subst q19
        subst q18
        refine jr_if_eq (tgt := 47) dX12_hedges_40 (by decide) (fun c40 => ?_) (fun c40 => ?_)
        · have k := k.1 c40
          refine jr_iconst (v := 0) dX12_hedges_47 (by decide) ?_
          exact jr_sub [0, 1, 2, 3] rfl k
        · have k := k.2 c40
          refine jr_iconst (v := 3) dX12_hedges_43 (by decide) ?_
          refine jr_goto (tgt := 48) dX12_hedges_44 (by decide) ?_
          exact jr_sub [0, 1, 2, 3] rfl k
      · have k := k.1 c28
        exact jr_sub [0, 1, 2, 3] rfl k
  · have k := k.1 c7
    refine jr_iconst (v := 1) dX12_hedges_10 (by decide) ?_
    refine jr_goto (tgt := 48) dX12_hedges_11 (by decide) ?_
    exact jr_sub [0, 1, 2, 3] rfl k
set_option maxRecDepth 20000 in
theorem wX12_hedges_31 {x1 : Int32} {x2 : Int32} {x3 : Int32} (k : J g mX12_hedges (d + 1) hs P 48 [(0, .ref m), (1, .int x1), (2, .int x2), (3, .int x3)] [.int 2, .ref m] (mw h m μ)) : J g mX12_hedges (d + 1) hs P 31 [(0, .ref m), (1, .int x1), (2, .int x2), (3, .int x3)] [.ref m] (mw h m μ) := by
  refine jr_iconst (v := 2) dX12_hedges_31 (by decide) ?_
  refine jr_goto (tgt := 48) dX12_hedges_32 (by decide) ?_
  exact jr_sub [0, 1, 2, 3] rfl k
set_option maxRecDepth 20000 in
theorem wX12_hedges_48 {x1 : Int32} {x2 : Int32} {x3 : Int32} {s1 : Int32} (k : (0 < (((mI μ 4 s1)).1 4) → P (.inl (some (.int 0))) (mw h m (mI μ 4 s1))) ∧ (¬ 0 < (((mI μ 4 s1)).1 4) → J g mX12_hedges (d + 1) hs P 66 [(0, .ref m), (1, .int x1), (2, .int x2), (3, .int x3), (4, .int (-1)), (5, .int 0)] [] (mw h m (mI μ 4 s1)))) : J g mX12_hedges (d + 1) hs P 48 [(0, .ref m), (1, .int x1), (2, .int x2), (3, .int x3)] [.int s1, .ref m] (mw h m μ) := by
  refine jr_putE jp_X12_67 dX12_hedges_48 mw_o (Nat.le_of_ble_eq_true rfl) rfl rfl (fun h1 e2 => ?_)
  replace e2 := e2.trans (mw_pI 4 s1)
  subst e2
  refine jr_aload_n 0 dX12_hedges_51 rfl rfl ?_
  refine jr_get jf_X12_67 dX12_hedges_52 mw_o rfl ?_
  refine jr_if_le (tgt := 60) dX12_hedges_55 (by decide) (fun c55 => ?_) (fun c55 => ?_)
  · have k := k.2 c55
    refine jr_iconst (v := (-1)) dX12_hedges_60 (by decide) ?_
    refine jr_istore (lv' := [(4, .int (-1)), (0, .ref m), (1, .int x1), (2, .int x2), (3, .int x3)]) dX12_hedges_61 (by decide) rfl ?_
    refine jr_iconst (v := 0) dX12_hedges_63 (by decide) ?_
    refine jr_istore (lv' := [(5, .int 0), (4, .int (-1)), (0, .ref m), (1, .int x1), (2, .int x2), (3, .int x3)]) dX12_hedges_64 (by decide) rfl ?_
    exact jr_sub [2, 3, 4, 5, 1, 0] rfl k
  · have k := k.1 c55
    refine jr_iconst (v := 0) dX12_hedges_58 (by decide) ?_
    exact jr_iret (ty := .int) rfl rfl dX12_hedges_59 k
set_option maxRecDepth 20000 in
theorem wX12_hedges_66 {x1 : Int32} {x2 : Int32} {x3 : Int32} {x4 : Int32} {x5 : Int32} (k : ∃ r1 : Int32, Con g mX12_houses d [.ref m] (mw h m μ) (jPi (fun r h' => r = r1 ∧ h' = (mw h m μ)) no2) ∧ (x5 < ((1 : Int32) <<< (r1 &&& 31)) → (x4 = (-1) → J g mX12_hedges (d + 1) hs P 99 [(0, .ref m), (1, .int x1), (2, .int x2), (3, .int x3), (4, .int x4), (5, .int x5)] [] (mw h m μ)) ∧ (¬ x4 = (-1) → ∃ r11 : Int32, Con g mX12_size d [.int x5] (mw h m μ) (jPi (fun r h' => r = r11 ∧ h' = (mw h m μ)) no2) ∧ ∃ r16 : Int32, Con g mX12_size d [.int x4] (mw h m μ) (jPi (fun r h' => r = r16 ∧ h' = (mw h m μ)) no2) ∧ (r11 < r16 → J g mX12_hedges (d + 1) hs P 99 [(0, .ref m), (1, .int x1), (2, .int x2), (3, .int x3), (4, .int x4), (5, .int x5)] [] (mw h m μ)) ∧ (¬ r11 < r16 → J g mX12_hedges (d + 1) hs P 66 [(0, .ref m), (1, .int x1), (2, .int x2), (3, .int x3), (4, .int x4), (5, .int (x5 + 1))] [] (mw h m μ)))) ∧ (¬ x5 < ((1 : Int32) <<< (r1 &&& 31)) → (x4 = (-1) → P (.inl (some (.int x4))) (mw h m μ)) ∧ (¬ x4 = (-1) → (x3 = 1 → P (.inl (some (.int x4))) (mw h m μ)) ∧ (¬ x3 = 1 → ∃ r6 : Int32, Con g mX12_size d [.int x4] (mw h m μ) (jPi (fun r h' => r = r6 ∧ h' = (mw h m μ)) no2) ∧ P (.inl (some (.int r6))) (mw h m μ))))) : J g mX12_hedges (d + 1) hs P 66 [(0, .ref m), (1, .int x1), (2, .int x2), (3, .int x3), (4, .int x4), (5, .int x5)] [] (mw h m μ) := by
  refine jr_iload 5 dX12_hedges_66 rfl ?_
  refine jr_iconst (v := 1) dX12_hedges_68 (by decide) ?_
  refine jr_aload_n 0 dX12_hedges_69 rfl rfl ?_
  obtain ⟨r1z, C5, k⟩ := k
  refine jr_cVi (As := []) jl_X12_249 km_X12_houses rfl rfl dX12_hedges_70 mw_o (Nat.le_of_ble_eq_true rfl) (C5.pi (fun _ _ q => q) (fun E h' f => f.elim)) (fun r1 h2 q3 => ?_)
  obtain ⟨q3, q4⟩ := q3
  subst q4
  subst q3
  refine jr_ishl dX12_hedges_73 ?_
  refine jr_icmp_ge (tgt := 161) dX12_hedges_74 (by decide) (fun c74 => ?_) (fun c74 => ?_)
  · have k := k.2 c74
    refine jr_iload 4 dX12_hedges_161 rfl ?_
    refine jr_iconst (v := (-1)) dX12_hedges_163 (by decide) ?_
    refine jr_icmp_eq (tgt := 172) dX12_hedges_164 (by decide) (fun c164 => ?_) (fun c164 => ?_)
    · have k := k.1 c164
      refine jr_iload 4 dX12_hedges_172 rfl ?_
      refine jr_goto (tgt := 182) dX12_hedges_174 (by decide) ?_
      exact jr_iret (ty := .int) rfl rfl dX12_hedges_182 k
    · have k := k.2 c164
      refine jr_iload_n 3 dX12_hedges_167 rfl rfl ?_
      refine jr_iconst (v := 1) dX12_hedges_168 (by decide) ?_
      refine jr_icmp_ne (tgt := 177) dX12_hedges_169 (by decide) (fun c169 => ?_) (fun c169 => ?_)
      · have k := k.2 c169
        refine jr_iload 4 dX12_hedges_177 rfl ?_
        obtain ⟨r6z, C10, k⟩ := k
        refine jr_cSi (As := [.int x4]) jl_X12_416 km_X12_size rfl rfl dX12_hedges_179 (Nat.le_of_ble_eq_true rfl) (C10.pi (fun _ _ q => q) (fun E h' f => f.elim)) (fun r6 h7 q8 => ?_)
        obtain ⟨q8, q9⟩ := q8
        subst q9
        subst q8
        exact jr_iret (ty := .int) rfl rfl dX12_hedges_182 k
      · have k := k.1 c169
        refine jr_iload 4 dX12_hedges_172 rfl ?_
        refine jr_goto (tgt := 182) dX12_hedges_174 (by decide) ?_
        exact jr_iret (ty := .int) rfl rfl dX12_hedges_182 k
  · have k := k.1 c74
    refine jr_iload 4 dX12_hedges_77 rfl ?_
    refine jr_iconst (v := (-1)) dX12_hedges_79 (by decide) ?_
    refine jr_icmp_eq (tgt := 99) dX12_hedges_80 (by decide) (fun c80 => ?_) (fun c80 => ?_)
    · have k := k.1 c80
      exact jr_sub [0, 1, 2, 3, 4, 5] rfl k
    · have k := k.2 c80
      refine jr_iload 5 dX12_hedges_83 rfl ?_
      obtain ⟨r11z, C15, k⟩ := k
      refine jr_cSi (As := [.int x5]) jl_X12_416 km_X12_size rfl rfl dX12_hedges_85 (Nat.le_of_ble_eq_true rfl) (C15.pi (fun _ _ q => q) (fun E h' f => f.elim)) (fun r11 h12 q13 => ?_)
      obtain ⟨q13, q14⟩ := q13
      subst q14
      subst q13
      refine jr_iload 4 dX12_hedges_88 rfl ?_
      obtain ⟨r16z, C20, k⟩ := k
      refine jr_cSi (As := [.int x4]) jl_X12_416 km_X12_size rfl rfl dX12_hedges_90 (Nat.le_of_ble_eq_true rfl) (C20.pi (fun _ _ q => q) (fun E h' f => f.elim)) (fun r16 h17 q18 => ?_)
      obtain ⟨q18, q19⟩ := q18
      subst q19
      subst q18
      refine jr_icmp_lt (tgt := 99) dX12_hedges_93 (by decide) (fun c93 => ?_) (fun c93 => ?_)
      · have k := k.1 c93
        exact jr_sub [0, 1, 2, 3, 4, 5] rfl k
      · have k := k.2 c93
        refine jr_goto (tgt := 155) dX12_hedges_96 (by decide) ?_
        refine jr_iinc (v := (x5 + 1)) (lv' := [(5, .int (x5 + 1)), (0, .ref m), (1, .int x1), (2, .int x2), (3, .int x3), (4, .int x4)]) 5 dX12_hedges_155 rfl rfl (by decide) rfl ?_
        refine jr_goto (tgt := 66) dX12_hedges_158 (by decide) ?_
        exact jr_sub [1, 2, 3, 4, 5, 0] rfl k
set_option maxRecDepth 20000 in
theorem wX12_hedges_99 {x1 : Int32} {x2 : Int32} {x3 : Int32} {x4 : Int32} {x5 : Int32} (k : ∃ Q7 : MW → Prop, Con g mX12_putsAside d [.ref m] (mw h m μ) (wPv h m Q7) ∧ ∀ μ6 : MW, Q7 μ6 → J g mX12_hedges (d + 1) hs P 106 [(0, .ref m), (1, .int x1), (2, .int x2), (3, .int x3), (4, .int x4), (5, .int x5), (6, .int 0)] [] (mw h m μ6)) : J g mX12_hedges (d + 1) hs P 99 [(0, .ref m), (1, .int x1), (2, .int x2), (3, .int x3), (4, .int x4), (5, .int x5)] [] (mw h m μ) := by
  refine jr_aload_n 0 dX12_hedges_99 rfl rfl ?_
  obtain ⟨Q7, C5, k⟩ := k
  refine jr_cVv (As := []) jl_X12_380 km_X12_putsAside rfl rfl dX12_hedges_100 mw_o (Nat.le_of_ble_eq_true rfl) (Con.pv C5 (fun _ q => q) (fun E h' f => f.elim)) (fun h2 q3 => ?_)
  obtain ⟨μ6, q3, q4⟩ := q3
  subst q4
  have k := k μ6 q3
  refine jr_iconst (v := 0) dX12_hedges_103 (by decide) ?_
  refine jr_istore (lv' := [(6, .int 0), (0, .ref m), (1, .int x1), (2, .int x2), (3, .int x3), (4, .int x4), (5, .int x5)]) dX12_hedges_104 (by decide) rfl ?_
  exact jr_sub [1, 2, 3, 4, 5, 6, 0] rfl k
set_option maxRecDepth 20000 in
theorem wX12_hedges_106 {x1 : Int32} {x2 : Int32} {x3 : Int32} {x4 : Int32} {x5 : Int32} {x6 : Int32} (k : ∃ r1 : Int32, Con g mX12_houses d [.ref m] (mw h m μ) (jPi (fun r h' => r = r1 ∧ h' = (mw h m μ)) no2) ∧ (x6 < r1 → ∃ r13 : Int32, Con g mX12_has d [.int x5, .int x6] (mw h m μ) (jPi (fun r h' => r = r13 ∧ h' = (mw h m μ)) no2) ∧ (r13 = 0 → J g mX12_hedges (d + 1) hs P 106 [(0, .ref m), (1, .int x1), (2, .int x2), (3, .int x3), (4, .int x4), (5, .int x5), (6, .int (x6 + 1))] [] (mw h m μ)) ∧ (¬ r13 = 0 → vp_in ((43 + x6)) 3240 ∧ J g mX12_hedges (d + 1) hs P 106 [(0, .ref m), (1, .int x1), (2, .int x2), (3, .int x3), (4, .int x4), (5, .int x5), (6, .int (x6 + 1))] [] (mw h m (mA μ 1 (upd (kn μ) (ix ((43 + x6))) x2))))) ∧ (¬ x6 < r1 → ∃ Q12 : Int32 → MW → Prop, Con g mX12_isLostFromHere d [.ref m, .int x1, .int x2] (mw h m μ) (wPi h m Q12) ∧ ∀ (r6 : Int32) (μ11 : MW), Q12 r6 μ11 → (r6 = 0 → J g mX12_hedges (d + 1) hs P 66 [(0, .ref m), (1, .int x1), (2, .int x2), (3, .int x3), (4, .int x5), (5, .int (x5 + 1))] [] (mw h m μ11)) ∧ (¬ r6 = 0 → J g mX12_hedges (d + 1) hs P 66 [(0, .ref m), (1, .int x1), (2, .int x2), (3, .int x3), (4, .int x4), (5, .int (x5 + 1))] [] (mw h m μ11)))) : J g mX12_hedges (d + 1) hs P 106 [(0, .ref m), (1, .int x1), (2, .int x2), (3, .int x3), (4, .int x4), (5, .int x5), (6, .int x6)] [] (mw h m μ) := by
  refine jr_iload 6 dX12_hedges_106 rfl ?_
  refine jr_aload_n 0 dX12_hedges_108 rfl rfl ?_
  obtain ⟨r1z, C5, k⟩ := k
  refine jr_cVi (As := []) jl_X12_249 km_X12_houses rfl rfl dX12_hedges_109 mw_o (Nat.le_of_ble_eq_true rfl) (C5.pi (fun _ _ q => q) (fun E h' f => f.elim)) (fun r1 h2 q3 => ?_)
  obtain ⟨q3, q4⟩ := q3
  subst q4
  subst q3
  refine jr_icmp_ge (tgt := 142) dX12_hedges_112 (by decide) (fun c112 => ?_) (fun c112 => ?_)
  · have k := k.2 c112
    refine jr_aload_n 0 dX12_hedges_142 rfl rfl ?_
    refine jr_iload_n 1 dX12_hedges_143 rfl rfl ?_
    refine jr_iload_n 2 dX12_hedges_144 rfl rfl ?_
    obtain ⟨Q12, C10, k⟩ := k
    refine jr_cVi (As := [.int x1, .int x2]) jl_X12_464 km_X12_isLostFromHere rfl rfl dX12_hedges_145 mw_o (Nat.le_of_ble_eq_true rfl) (Con.pi C10 (fun _ _ q => q) (fun E h' f => f.elim)) (fun r6 h7 q8 => ?_)
    obtain ⟨μ11, q8, q9⟩ := q8
    subst q9
    have k := k r6 μ11 q8
    refine jr_if_ne (tgt := 155) dX12_hedges_148 (by decide) (fun c148 => ?_) (fun c148 => ?_)
    · have k := k.2 c148
      refine jr_iinc (v := (x5 + 1)) (lv' := [(5, .int (x5 + 1)), (0, .ref m), (1, .int x1), (2, .int x2), (3, .int x3), (4, .int x4), (6, .int x6)]) 5 dX12_hedges_155 rfl rfl (by decide) rfl ?_
      refine jr_goto (tgt := 66) dX12_hedges_158 (by decide) ?_
      exact jr_sub [1, 2, 3, 4, 5, 0] rfl k
    · have k := k.1 c148
      refine jr_iload 5 dX12_hedges_151 rfl ?_
      refine jr_istore (lv' := [(4, .int x5), (0, .ref m), (1, .int x1), (2, .int x2), (3, .int x3), (5, .int x5), (6, .int x6)]) dX12_hedges_153 (by decide) rfl ?_
      refine jr_iinc (v := (x5 + 1)) (lv' := [(5, .int (x5 + 1)), (4, .int x5), (0, .ref m), (1, .int x1), (2, .int x2), (3, .int x3), (6, .int x6)]) 5 dX12_hedges_155 rfl rfl (by decide) rfl ?_
      refine jr_goto (tgt := 66) dX12_hedges_158 (by decide) ?_
      exact jr_sub [2, 3, 4, 5, 1, 0] rfl k
  · have k := k.1 c112
    refine jr_iload 5 dX12_hedges_115 rfl ?_
    refine jr_iload 6 dX12_hedges_117 rfl ?_
    obtain ⟨r13z, C17, k⟩ := k
    refine jr_cSi (As := [.int x5, .int x6]) jl_X12_448 km_X12_has rfl rfl dX12_hedges_119 (Nat.le_of_ble_eq_true rfl) (C17.pi (fun _ _ q => q) (fun E h' f => f.elim)) (fun r13 h14 q15 => ?_)
    obtain ⟨q15, q16⟩ := q15
    subst q16
    subst q15
    refine jr_if_eq (tgt := 136) dX12_hedges_122 (by decide) (fun c122 => ?_) (fun c122 => ?_)
    · have k := k.1 c122
      refine jr_iinc (v := (x6 + 1)) (lv' := [(6, .int (x6 + 1)), (0, .ref m), (1, .int x1), (2, .int x2), (3, .int x3), (4, .int x4), (5, .int x5)]) 6 dX12_hedges_136 rfl rfl (by decide) rfl ?_
      refine jr_goto (tgt := 106) dX12_hedges_139 (by decide) ?_
      exact jr_sub [1, 2, 3, 4, 5, 6, 0] rfl k
    · have k := k.2 c122
      refine jr_aload_n 0 dX12_hedges_125 rfl rfl ?_
      refine jr_get jf_X12_9 dX12_hedges_126 mw_o rfl ?_
      refine jr_bipush (v := 43) dX12_hedges_129 (by decide) ?_
      refine jr_iload 6 dX12_hedges_131 rfl ?_
      refine jr_iadd dX12_hedges_133 ?_
      refine jr_iload_n 2 dX12_hedges_134 rfl rfl ?_
      obtain ⟨e20, k⟩ := k
      refine jr_iastE dX12_hedges_135 mw_1 e20 (fun h18 e19 => ?_)
      replace e19 : h18 = mw h m (mA μ 1 (upd (kn μ) (ix ((43 + x6))) x2)) := e19.trans (mw_pA (by decide) (by decide) _)
      subst e19
      refine jr_iinc (v := (x6 + 1)) (lv' := [(6, .int (x6 + 1)), (0, .ref m), (1, .int x1), (2, .int x2), (3, .int x3), (4, .int x4), (5, .int x5)]) 6 dX12_hedges_136 rfl rfl (by decide) rfl ?_
      refine jr_goto (tgt := 106) dX12_hedges_139 (by decide) ?_
      exact jr_sub [1, 2, 3, 4, 5, 6, 0] rfl k
set_option maxRecDepth 20000 in
theorem wX12_bestHedge_0 {x1 : Int32} (k : ∃ r3 : Int32, Con g mX12_isSoon d [.int x1] (mw h m (mI μ 4 0)) (jPi (fun r h' => r = r3 ∧ h' = (mw h m (mI μ 4 0))) no2) ∧ (r3 = 0 → ∃ Q21 : Int32 → MW → Prop, Con g mX12_fails d [.ref m, .int 1] (mw h m (mI μ 4 0)) (wPi h m Q21) ∧ ∀ (r15 : Int32) (μ20 : MW), Q21 r15 μ20 → P (.inl (some (.int r15))) (mw h m μ20)) ∧ (¬ r3 = 0 → ∃ Q14 : Int32 → MW → Prop, Con g mX12_lostNow d [.ref m, .int x1] (mw h m (mI μ 4 0)) (wPi h m Q14) ∧ ∀ (r8 : Int32) (μ13 : MW), Q14 r8 μ13 → J g mX12_bestHedge (d + 1) hs P 29 [(0, .ref m), (1, .int x1), (2, .int (-1)), (3, .int r8), (4, .int 0)] [] (mw h m μ13))) : J g mX12_bestHedge (d + 1) hs P 0 [(0, .ref m), (1, .int x1)] [] (mw h m μ) := by
  refine jr_aload_n 0 dX12_bestHedge_0 rfl rfl ?_
  refine jr_iconst (v := 0) dX12_bestHedge_1 (by decide) ?_
  refine jr_putE jp_X12_67 dX12_bestHedge_2 mw_o (Nat.le_of_ble_eq_true rfl) rfl rfl (fun h1 e2 => ?_)
  replace e2 := e2.trans (mw_pI 4 ((0 : Int32)))
  subst e2
  refine jr_iload_n 1 dX12_bestHedge_5 rfl rfl ?_
  obtain ⟨r3z, C7, k⟩ := k
  refine jr_cSi (As := [.int x1]) jl_X12_422 km_X12_isSoon rfl rfl dX12_bestHedge_6 (Nat.le_of_ble_eq_true rfl) (C7.pi (fun _ _ q => q) (fun E h' f => f.elim)) (fun r3 h4 q5 => ?_)
  obtain ⟨q5, q6⟩ := q5
  subst q6
  subst q5
  refine jr_if_ne (tgt := 18) dX12_bestHedge_9 (by decide) (fun c9 => ?_) (fun c9 => ?_)
  · have k := k.2 c9
    refine jr_iconst (v := (-1)) dX12_bestHedge_18 (by decide) ?_
    refine jr_istore_n (lv' := [(2, .int (-1)), (0, .ref m), (1, .int x1)]) dX12_bestHedge_19 rfl (by decide) rfl ?_
    refine jr_aload_n 1 dX12_bestHedge_20 rfl rfl ?_
    refine jr_iload_n 2 dX12_bestHedge_21 rfl rfl ?_
    obtain ⟨Q14, C12, k⟩ := k
    refine jr_cVi (As := [.int x1]) jl_X12_425 km_X12_lostNow rfl rfl dX12_bestHedge_22 mw_o (Nat.le_of_ble_eq_true rfl) (Con.pi C12 (fun _ _ q => q) (fun E h' f => f.elim)) (fun r8 h9 q10 => ?_)
    obtain ⟨μ13, q10, q11⟩ := q10
    subst q11
    have k := k r8 μ13 q10
    refine jr_istore_n (lv' := [(3, .int r8), (2, .int (-1)), (0, .ref m), (1, .int x1)]) dX12_bestHedge_25 rfl (by decide) rfl ?_
    refine jr_iconst (v := 0) dX12_bestHedge_26 (by decide) ?_
    refine jr_istore (lv' := [(4, .int 0), (3, .int r8), (2, .int (-1)), (0, .ref m), (1, .int x1)]) dX12_bestHedge_27 (by decide) rfl ?_
    exact jr_sub [3, 4, 2, 1, 0] rfl k
  · have k := k.1 c9
    refine jr_aload_n 0 dX12_bestHedge_12 rfl rfl ?_
    refine jr_iconst (v := 1) dX12_bestHedge_13 (by decide) ?_
    obtain ⟨Q21, C19, k⟩ := k
    refine jr_cVi (As := [.int 1]) jl_X12_234 km_X12_fails rfl rfl dX12_bestHedge_14 mw_o (Nat.le_of_ble_eq_true rfl) (Con.pi C19 (fun _ _ q => q) (fun E h' f => f.elim)) (fun r15 h16 q17 => ?_)
    obtain ⟨μ20, q17, q18⟩ := q17
    subst q18
    have k := k r15 μ20 q17
    exact jr_iret (ty := .int) rfl rfl dX12_bestHedge_17 k
set_option maxRecDepth 20000 in
theorem wX12_bestHedge_29 {x1 : Int32} {x2 : Int32} {x3 : Int32} {x4 : Int32} (k : ∃ r1 : Int32, Con g mX12_houses d [.ref m] (mw h m μ) (jPi (fun r h' => r = r1 ∧ h' = (mw h m μ)) no2) ∧ (x4 < r1 → ∃ Q12 : MW → Prop, Con g mX12_putsAside d [.ref m] (mw h m μ) (wPv h m Q12) ∧ ∀ μ11 : MW, Q12 μ11 → vp_in ((43 + x4)) 3240 ∧ ∃ Q22 : Int32 → MW → Prop, Con g mX12_lostFromHere d [.ref m, .int x1] (mw h m (mA μ11 1 (upd (kn μ11) (ix ((43 + x4))) x1))) (wPi h m Q22) ∧ ∀ (r16 : Int32) (μ21 : MW), Q22 r16 μ21 → (r16 < x3 → J g mX12_bestHedge (d + 1) hs P 29 [(0, .ref m), (1, .int x1), (2, .int x4), (3, .int r16), (4, .int (x4 + 1))] [] (mw h m μ21)) ∧ (¬ r16 < x3 → J g mX12_bestHedge (d + 1) hs P 29 [(0, .ref m), (1, .int x1), (2, .int x2), (3, .int x3), (4, .int (x4 + 1))] [] (mw h m μ21))) ∧ (¬ x4 < r1 → P (.inl (some (.int x2))) (mw h m μ))) : J g mX12_bestHedge (d + 1) hs P 29 [(0, .ref m), (1, .int x1), (2, .int x2), (3, .int x3), (4, .int x4)] [] (mw h m μ) := by
  refine jr_iload 4 dX12_bestHedge_29 rfl ?_
  refine jr_aload_n 0 dX12_bestHedge_31 rfl rfl ?_
  obtain ⟨r1z, C5, k⟩ := k
  refine jr_cVi (As := []) jl_X12_249 km_X12_houses rfl rfl dX12_bestHedge_32 mw_o (Nat.le_of_ble_eq_true rfl) (C5.pi (fun _ _ q => q) (fun E h' f => f.elim)) (fun r1 h2 q3 => ?_)
  obtain ⟨q3, q4⟩ := q3
  subst q4
  subst q3
  refine jr_icmp_ge (tgt := 81) dX12_bestHedge_35 (by decide) (fun c35 => ?_) (fun c35 => ?_)
  · have k := k.2 c35
    refine jr_iload_n 2 dX12_bestHedge_81 rfl rfl ?_
    exact jr_iret (ty := .int) rfl rfl dX12_bestHedge_82 k
  · have k := k.1 c35
    refine jr_aload_n 0 dX12_bestHedge_38 rfl rfl ?_
    obtain ⟨Q12, C10, k⟩ := k
    refine jr_cVv (As := []) jl_X12_380 km_X12_putsAside rfl rfl dX12_bestHedge_39 mw_o (Nat.le_of_ble_eq_true rfl) (Con.pv C10 (fun _ q => q) (fun E h' f => f.elim)) (fun h7 q8 => ?_)
    obtain ⟨μ11, q8, q9⟩ := q8
    subst q9
    have k := k μ11 q8
    refine jr_aload_n 0 dX12_bestHedge_42 rfl rfl ?_
    refine jr_get jf_X12_9 dX12_bestHedge_43 mw_o rfl ?_
    refine jr_bipush (v := 43) dX12_bestHedge_46 (by decide) ?_
    refine jr_iload 4 dX12_bestHedge_48 rfl ?_
    refine jr_iadd dX12_bestHedge_50 ?_
    refine jr_iload_n 1 dX12_bestHedge_51 rfl rfl ?_
    obtain ⟨e15, k⟩ := k
    refine jr_iastE dX12_bestHedge_52 mw_1 e15 (fun h13 e14 => ?_)
    replace e14 : h13 = mw h m (mA μ11 1 (upd (kn μ11) (ix ((43 + x4))) x1)) := e14.trans (mw_pA (by decide) (by decide) _)
    subst e14
    refine jr_aload_n 0 dX12_bestHedge_53 rfl rfl ?_
    refine jr_iload_n 1 dX12_bestHedge_54 rfl rfl ?_
    obtain ⟨Q22, C20, k⟩ := k
    refine jr_cVi (As := [.int x1]) jl_X12_419 km_X12_lostFromHere rfl rfl dX12_bestHedge_55 mw_o (Nat.le_of_ble_eq_true rfl) (Con.pi C20 (fun _ _ q => q) (fun E h' f => f.elim)) (fun r16 h17 q18 => ?_)
    obtain ⟨μ21, q18, q19⟩ := q18
    subst q19
    have k := k r16 μ21 q18
    refine jr_istore (lv' := [(5, .int r16), (0, .ref m), (1, .int x1), (2, .int x2), (3, .int x3), (4, .int x4)]) dX12_bestHedge_58 (by decide) rfl ?_
    refine jr_iload 0 dX12_bestHedge_60 rfl ?_
    refine jr_iload_n 4 dX12_bestHedge_62 rfl rfl ?_
    refine jr_icmp_lt (tgt := 69) dX12_bestHedge_63 (by decide) (fun c63 => ?_) (fun c63 => ?_)
    · have k := k.1 c63
      refine jr_iload 5 dX12_bestHedge_69 rfl ?_
      refine jr_istore_n (lv' := [(2, .int x4), (5, .int r16), (0, .ref m), (1, .int x1), (3, .int x3), (4, .int x4)]) dX12_bestHedge_71 rfl (by decide) rfl ?_
      refine jr_iload 1 dX12_bestHedge_72 rfl ?_
      refine jr_istore_n (lv' := [(3, .int r16), (2, .int x4), (5, .int r16), (0, .ref m), (1, .int x1), (4, .int x4)]) dX12_bestHedge_74 rfl (by decide) rfl ?_
      refine jr_iinc (v := (x4 + 1)) (lv' := [(4, .int (x4 + 1)), (3, .int r16), (2, .int x4), (5, .int r16), (0, .ref m), (1, .int x1)]) 5 dX12_bestHedge_75 rfl rfl (by decide) rfl ?_
      refine jr_goto (tgt := 29) dX12_bestHedge_78 (by decide) ?_
      exact jr_sub [4, 5, 2, 1, 0] rfl k
    · have k := k.2 c63
      refine jr_goto (tgt := 75) dX12_bestHedge_66 (by decide) ?_
      refine jr_iinc (v := (x4 + 1)) (lv' := [(4, .int (x4 + 1)), (5, .int r16), (0, .ref m), (1, .int x1), (2, .int x2), (3, .int x3)]) 5 dX12_bestHedge_75 rfl rfl (by decide) rfl ?_
      refine jr_goto (tgt := 29) dX12_bestHedge_78 (by decide) ?_
      exact jr_sub [2, 3, 4, 5, 0] rfl k
set_option maxRecDepth 20000 in
theorem wX12_isLivingOut_0 {x1 : Int32} {x2 : Int32} (k : ∃ r1 : Int32, Con g mX12_isHouse d [.ref m, .long x1.toInt64] (mw h m μ) (jPi (fun r h' => r = r1 ∧ h' = (mw h m μ)) no2) ∧ (r1 = 0 → J g mX12_isLivingOut (d + 1) hs P 38 [(0, .ref m)] [.int 1, .ref m] (mw h m μ)) ∧ (¬ r1 = 0 → ∃ r6 : Int32, Con g mX12_isSoon d [.int x2] (mw h m μ) (jPi (fun r h' => r = r6 ∧ h' = (mw h m μ)) no2) ∧ (r6 = 0 → J g mX12_isLivingOut (d + 1) hs P 38 [(0, .ref m)] [.int 2, .ref m] (mw h m μ)) ∧ (¬ r6 = 0 → ∃ r11 : Int32, Con g mX12_isGone d [.ref m, .int x1] (mw h m μ) (jPi (fun r h' => r = r11 ∧ h' = (mw h m μ)) no2) ∧ (r11 = 0 → J g mX12_isLivingOut (d + 1) hs P 38 [(0, .ref m)] [.int 0, .ref m] (mw h m μ)) ∧ (¬ r11 = 0 → J g mX12_isLivingOut (d + 1) hs P 38 [(0, .ref m)] [.int 3, .ref m] (mw h m μ))))) : J g mX12_isLivingOut (d + 1) hs P 0 [(0, .ref m), (1, .int x1), (2, .int x2)] [] (mw h m μ) := by
  refine jr_aload_n 0 dX12_isLivingOut_0 rfl rfl ?_
  refine jr_aload_n 0 dX12_isLivingOut_1 rfl rfl ?_
  refine jr_iload_n 1 dX12_isLivingOut_2 rfl rfl ?_
  refine jr_i2l dX12_isLivingOut_3 ?_
  obtain ⟨r1z, C5, k⟩ := k
  refine jr_cVi (As := [.long x1.toInt64]) jl_X12_313 km_X12_isHouse rfl rfl dX12_isLivingOut_4 mw_o (Nat.le_of_ble_eq_true rfl) (C5.pi (fun _ _ q => q) (fun E h' f => f.elim)) (fun r1 h2 q3 => ?_)
  obtain ⟨q3, q4⟩ := q3
  subst q4
  subst q3
  refine jr_if_ne (tgt := 14) dX12_isLivingOut_7 (by decide) (fun c7 => ?_) (fun c7 => ?_)
  · have k := k.2 c7
    refine jr_iload_n 2 dX12_isLivingOut_14 rfl rfl ?_
    obtain ⟨r6z, C10, k⟩ := k
    refine jr_cSi (As := [.int x2]) jl_X12_422 km_X12_isSoon rfl rfl dX12_isLivingOut_15 (Nat.le_of_ble_eq_true rfl) (C10.pi (fun _ _ q => q) (fun E h' f => f.elim)) (fun r6 h7 q8 => ?_)
    obtain ⟨q8, q9⟩ := q8
    subst q9
    subst q8
    refine jr_if_ne (tgt := 25) dX12_isLivingOut_18 (by decide) (fun c18 => ?_) (fun c18 => ?_)
    · have k := k.2 c18
      refine jr_aload_n 0 dX12_isLivingOut_25 rfl rfl ?_
      refine jr_iload_n 1 dX12_isLivingOut_26 rfl rfl ?_
      obtain ⟨r11z, C15, k⟩ := k
      refine jr_cVi (As := [.int x1]) jl_X12_291 km_X12_isGone rfl rfl dX12_isLivingOut_27 mw_o (Nat.le_of_ble_eq_true rfl) (C15.pi (fun _ _ q => q) (fun E h' f => f.elim)) (fun r11 h12 q13 => ?_)
      obtain ⟨q13, q14⟩ := q13
      subst q14
      subst q13
      refine jr_if_eq (tgt := 37) dX12_isLivingOut_30 (by decide) (fun c30 => ?_) (fun c30 => ?_)
      · have k := k.1 c30
        refine jr_iconst (v := 0) dX12_isLivingOut_37 (by decide) ?_
        exact jr_sub [0] rfl k
      · have k := k.2 c30
        refine jr_iconst (v := 3) dX12_isLivingOut_33 (by decide) ?_
        refine jr_goto (tgt := 38) dX12_isLivingOut_34 (by decide) ?_
        exact jr_sub [0] rfl k
    · have k := k.1 c18
      refine jr_iconst (v := 2) dX12_isLivingOut_21 (by decide) ?_
      refine jr_goto (tgt := 38) dX12_isLivingOut_22 (by decide) ?_
      exact jr_sub [0] rfl k
  · have k := k.1 c7
    refine jr_iconst (v := 1) dX12_isLivingOut_10 (by decide) ?_
    refine jr_goto (tgt := 38) dX12_isLivingOut_11 (by decide) ?_
    exact jr_sub [0] rfl k
set_option maxRecDepth 20000 in
theorem wX12_isLivingOut_38 {s1 : Int32} (k : (0 < (((mI μ 4 s1)).1 4) → P (.inl (some (.int 1))) (mw h m (mI μ 4 s1))) ∧ (¬ 0 < (((mI μ 4 s1)).1 4) → P (.inl (some (.int 0))) (mw h m (mI μ 4 s1)))) : J g mX12_isLivingOut (d + 1) hs P 38 [(0, .ref m)] [.int s1, .ref m] (mw h m μ) := by
  refine jr_putE jp_X12_67 dX12_isLivingOut_38 mw_o (Nat.le_of_ble_eq_true rfl) rfl rfl (fun h1 e2 => ?_)
  replace e2 := e2.trans (mw_pI 4 s1)
  subst e2
  refine jr_aload_n 0 dX12_isLivingOut_41 rfl rfl ?_
  refine jr_get jf_X12_67 dX12_isLivingOut_42 mw_o rfl ?_
  refine jr_if_le (tgt := 52) dX12_isLivingOut_45 (by decide) (fun c45 => ?_) (fun c45 => ?_)
  · have k := k.2 c45
    refine jr_iconst (v := 0) dX12_isLivingOut_52 (by decide) ?_
    exact jr_iret (ty := .boolean) rfl rfl dX12_isLivingOut_53 k
  · have k := k.1 c45
    refine jr_iconst (v := 1) dX12_isLivingOut_48 (by decide) ?_
    refine jr_goto (tgt := 53) dX12_isLivingOut_49 (by decide) ?_
    exact jr_iret (ty := .boolean) rfl rfl dX12_isLivingOut_53 k
set_option maxRecDepth 20000 in
theorem wX12_saves_0 {x1 : Int32} {x2 : Int32} (k : ∃ Q7 : Int32 → MW → Prop, Con g mX12_isLivingOut d [.ref m, .int x1, .int x2] (mw h m μ) (wPi h m Q7) ∧ ∀ (r1 : Int32) (μ6 : MW), Q7 r1 μ6 → (r1 = 0 → J g mX12_saves (d + 1) hs P 13 [(0, .ref m), (1, .int x1), (2, .int x2), (3, .int 0)] [] (mw h m μ6)) ∧ (¬ r1 = 0 → P (.inl (some (.int 0))) (mw h m μ6))) : J g mX12_saves (d + 1) hs P 0 [(0, .ref m), (1, .int x1), (2, .int x2)] [] (mw h m μ) := by
  refine jr_aload_n 0 dX12_saves_0 rfl rfl ?_
  refine jr_iload_n 1 dX12_saves_1 rfl rfl ?_
  refine jr_iload_n 2 dX12_saves_2 rfl rfl ?_
  obtain ⟨Q7, C5, k⟩ := k
  refine jr_cVi (As := [.int x1, .int x2]) jl_X12_467 km_X12_isLivingOut rfl rfl dX12_saves_3 mw_o (Nat.le_of_ble_eq_true rfl) (Con.pi C5 (fun _ _ q => q) (fun E h' f => f.elim)) (fun r1 h2 q3 => ?_)
  obtain ⟨μ6, q3, q4⟩ := q3
  subst q4
  have k := k r1 μ6 q3
  refine jr_if_eq (tgt := 11) dX12_saves_6 (by decide) (fun c6 => ?_) (fun c6 => ?_)
  · have k := k.1 c6
    refine jr_iconst (v := 0) dX12_saves_11 (by decide) ?_
    refine jr_istore_n (lv' := [(3, .int 0), (0, .ref m), (1, .int x1), (2, .int x2)]) dX12_saves_12 rfl (by decide) rfl ?_
    exact jr_sub [1, 2, 3, 0] rfl k
  · have k := k.2 c6
    refine jr_iconst (v := 0) dX12_saves_9 (by decide) ?_
    exact jr_iret (ty := .int) rfl rfl dX12_saves_10 k
set_option maxRecDepth 20000 in
theorem wX12_saves_13 {x1 : Int32} {x2 : Int32} {x3 : Int32} (k : (999 < x3 → P (.inl (some (.int ((-1))))) (mw h m μ)) ∧ (¬ 999 < x3 → ∃ Q7 : MW → Prop, Con g mX12_putsAside d [.ref m] (mw h m μ) (wPv h m Q7) ∧ ∀ μ6 : MW, Q7 μ6 → vp_in ((22 + x1)) 3240 ∧ ∃ r9 : Int32, Con g mX12_capped d [.int ((kn μ6 (ix ((22 + x1)))) + x3)] (mw h m μ6) (jPi (fun r h' => r = r9 ∧ h' = (mw h m μ6)) no2) ∧ vp_in ((22 + x1)) 3240 ∧ ∃ Q23 : Int32 → MW → Prop, Con g mX12_isLostFromHere d [.ref m, .int x1, .int x2] (mw h m (mA μ6 1 (upd (kn μ6) (ix ((22 + x1))) r9))) (wPi h m Q23) ∧ ∀ (r17 : Int32) (μ22 : MW), Q23 r17 μ22 → (r17 = 0 → P (.inl (some (.int x3))) (mw h m μ22)) ∧ (¬ r17 = 0 → J g mX12_saves (d + 1) hs P 13 [(0, .ref m), (1, .int x1), (2, .int x2), (3, .int (x3 + 1))] [] (mw h m μ22)))) : J g mX12_saves (d + 1) hs P 13 [(0, .ref m), (1, .int x1), (2, .int x2), (3, .int x3)] [] (mw h m μ) := by
  refine jr_iload_n 3 dX12_saves_13 rfl rfl ?_
  refine jr_sipush (v := 999) dX12_saves_14 (by decide) ?_
  refine jr_icmp_gt (tgt := 64) dX12_saves_17 (by decide) (fun c17 => ?_) (fun c17 => ?_)
  · have k := k.1 c17
    refine jr_iconst (v := (-1)) dX12_saves_64 (by decide) ?_
    exact jr_iret (ty := .int) rfl rfl dX12_saves_65 k
  · have k := k.2 c17
    refine jr_aload_n 0 dX12_saves_20 rfl rfl ?_
    obtain ⟨Q7, C5, k⟩ := k
    refine jr_cVv (As := []) jl_X12_380 km_X12_putsAside rfl rfl dX12_saves_21 mw_o (Nat.le_of_ble_eq_true rfl) (Con.pv C5 (fun _ q => q) (fun E h' f => f.elim)) (fun h2 q3 => ?_)
    obtain ⟨μ6, q3, q4⟩ := q3
    subst q4
    have k := k μ6 q3
    refine jr_aload_n 0 dX12_saves_24 rfl rfl ?_
    refine jr_get jf_X12_9 dX12_saves_25 mw_o rfl ?_
    refine jr_bipush (v := 22) dX12_saves_28 (by decide) ?_
    refine jr_iload_n 1 dX12_saves_30 rfl rfl ?_
    refine jr_iadd dX12_saves_31 ?_
    refine jr_aload_n 0 dX12_saves_32 rfl rfl ?_
    refine jr_get jf_X12_9 dX12_saves_33 mw_o rfl ?_
    refine jr_bipush (v := 22) dX12_saves_36 (by decide) ?_
    refine jr_iload_n 1 dX12_saves_38 rfl rfl ?_
    refine jr_iadd dX12_saves_39 ?_
    obtain ⟨e8, k⟩ := k
    refine jr_iald dX12_saves_40 mw_1 e8 ?_
    refine jr_iload_n 3 dX12_saves_41 rfl rfl ?_
    refine jr_iadd dX12_saves_42 ?_
    obtain ⟨r9z, C13, k⟩ := k
    refine jr_cSi (As := [.int ((kn μ6 (ix ((22 + x1)))) + x3)]) jl_X12_279 km_X12_capped rfl rfl dX12_saves_43 (Nat.le_of_ble_eq_true rfl) (C13.pi (fun _ _ q => q) (fun E h' f => f.elim)) (fun r9 h10 q11 => ?_)
    obtain ⟨q11, q12⟩ := q11
    subst q12
    subst q11
    obtain ⟨e16, k⟩ := k
    refine jr_iastE dX12_saves_46 mw_1 e16 (fun h14 e15 => ?_)
    replace e15 : h14 = mw h m (mA μ6 1 (upd (kn μ6) (ix ((22 + x1))) r9)) := e15.trans (mw_pA (by decide) (by decide) _)
    subst e15
    refine jr_aload_n 0 dX12_saves_47 rfl rfl ?_
    refine jr_iload_n 1 dX12_saves_48 rfl rfl ?_
    refine jr_iload_n 2 dX12_saves_49 rfl rfl ?_
    obtain ⟨Q23, C21, k⟩ := k
    refine jr_cVi (As := [.int x1, .int x2]) jl_X12_464 km_X12_isLostFromHere rfl rfl dX12_saves_50 mw_o (Nat.le_of_ble_eq_true rfl) (Con.pi C21 (fun _ _ q => q) (fun E h' f => f.elim)) (fun r17 h18 q19 => ?_)
    obtain ⟨μ22, q19, q20⟩ := q19
    subst q20
    have k := k r17 μ22 q19
    refine jr_if_ne (tgt := 58) dX12_saves_53 (by decide) (fun c53 => ?_) (fun c53 => ?_)
    · have k := k.2 c53
      refine jr_iinc (v := (x3 + 1)) (lv' := [(3, .int (x3 + 1)), (0, .ref m), (1, .int x1), (2, .int x2)]) 3 dX12_saves_58 rfl rfl (by decide) rfl ?_
      refine jr_goto (tgt := 13) dX12_saves_61 (by decide) ?_
      exact jr_sub [1, 2, 3, 0] rfl k
    · have k := k.1 c53
      refine jr_iload_n 3 dX12_saves_56 rfl rfl ?_
      exact jr_iret (ty := .int) rfl rfl dX12_saves_57 k
set_option maxRecDepth 20000 in
theorem wX12_leastLimit_0 {x1 : Int32} (k : ∃ r3 : Int32, Con g mX12_isSoon d [.int x1] (mw h m (mI μ 4 0)) (jPi (fun r h' => r = r3 ∧ h' = (mw h m (mI μ 4 0))) no2) ∧ (r3 = 0 → ∃ Q14 : Int32 → MW → Prop, Con g mX12_fails d [.ref m, .int 1] (mw h m (mI μ 4 0)) (wPi h m Q14) ∧ ∀ (r8 : Int32) (μ13 : MW), Q14 r8 μ13 → P (.inl (some (.int r8))) (mw h m μ13)) ∧ (¬ r3 = 0 → J g mX12_leastLimit (d + 1) hs P 30 [(0, .ref m), (1, .int x1), (2, .int (kn ((mI μ 4 0)) 3)), (3, .int (-1)), (4, .int 0)] [] (mw h m (mI μ 4 0)))) : J g mX12_leastLimit (d + 1) hs P 0 [(0, .ref m), (1, .int x1)] [] (mw h m μ) := by
  refine jr_aload_n 0 dX12_leastLimit_0 rfl rfl ?_
  refine jr_iconst (v := 0) dX12_leastLimit_1 (by decide) ?_
  refine jr_putE jp_X12_67 dX12_leastLimit_2 mw_o (Nat.le_of_ble_eq_true rfl) rfl rfl (fun h1 e2 => ?_)
  replace e2 := e2.trans (mw_pI 4 ((0 : Int32)))
  subst e2
  refine jr_iload_n 1 dX12_leastLimit_5 rfl rfl ?_
  obtain ⟨r3z, C7, k⟩ := k
  refine jr_cSi (As := [.int x1]) jl_X12_422 km_X12_isSoon rfl rfl dX12_leastLimit_6 (Nat.le_of_ble_eq_true rfl) (C7.pi (fun _ _ q => q) (fun E h' f => f.elim)) (fun r3 h4 q5 => ?_)
  obtain ⟨q5, q6⟩ := q5
  subst q6
  subst q5
  refine jr_if_ne (tgt := 18) dX12_leastLimit_9 (by decide) (fun c9 => ?_) (fun c9 => ?_)
  · have k := k.2 c9
    refine jr_aload_n 0 dX12_leastLimit_18 rfl rfl ?_
    refine jr_get jf_X12_9 dX12_leastLimit_19 mw_o rfl ?_
    refine jr_iconst (v := 3) dX12_leastLimit_22 (by decide) ?_
    refine jr_iald dX12_leastLimit_23 mw_1 (vp_in_nI (n := 3) (by decide) (by decide)) ?_
    refine jr_istore_n (lv' := [(2, .int (kn ((mI μ 4 0)) 3)), (0, .ref m), (1, .int x1)]) dX12_leastLimit_24 rfl (by decide) rfl ?_
    refine jr_iconst (v := (-1)) dX12_leastLimit_25 (by decide) ?_
    refine jr_istore_n (lv' := [(3, .int (-1)), (2, .int (kn ((mI μ 4 0)) 3)), (0, .ref m), (1, .int x1)]) dX12_leastLimit_26 rfl (by decide) rfl ?_
    refine jr_iconst (v := 0) dX12_leastLimit_27 (by decide) ?_
    refine jr_istore (lv' := [(4, .int 0), (3, .int (-1)), (2, .int (kn ((mI μ 4 0)) 3)), (0, .ref m), (1, .int x1)]) dX12_leastLimit_28 (by decide) rfl ?_
    exact jr_sub [3, 4, 2, 1, 0] rfl k
  · have k := k.1 c9
    refine jr_aload_n 0 dX12_leastLimit_12 rfl rfl ?_
    refine jr_iconst (v := 1) dX12_leastLimit_13 (by decide) ?_
    obtain ⟨Q14, C12, k⟩ := k
    refine jr_cVi (As := [.int 1]) jl_X12_234 km_X12_fails rfl rfl dX12_leastLimit_14 mw_o (Nat.le_of_ble_eq_true rfl) (Con.pi C12 (fun _ _ q => q) (fun E h' f => f.elim)) (fun r8 h9 q10 => ?_)
    obtain ⟨μ13, q10, q11⟩ := q10
    subst q11
    have k := k r8 μ13 q10
    exact jr_iret (ty := .int) rfl rfl dX12_leastLimit_17 k
set_option maxRecDepth 20000 in
theorem wX12_leastLimit_30 {x1 : Int32} {x2 : Int32} {x3 : Int32} {x4 : Int32} (k : (999 < x4 → J g mX12_leastLimit (d + 1) hs P 68 [(0, .ref m), (2, .int x2), (3, .int x3)] [] (mw h m μ)) ∧ (¬ 999 < x4 → (x3 = (-1) → ∃ Q10 : Int32 → MW → Prop, Con g mX12_lostNow d [.ref m, .int x1] (mw h m (mA μ 1 (upd (kn μ) 3 x4))) (wPi h m Q10) ∧ ∀ (r4 : Int32) (μ9 : MW), Q10 r4 μ9 → (r4 = 0 → J g mX12_leastLimit (d + 1) hs P 30 [(0, .ref m), (1, .int x1), (2, .int x2), (3, .int x4), (4, .int (x4 + 1))] [] (mw h m μ9)) ∧ (¬ r4 = 0 → J g mX12_leastLimit (d + 1) hs P 30 [(0, .ref m), (1, .int x1), (2, .int x2), (3, .int x3), (4, .int (x4 + 1))] [] (mw h m μ9))) ∧ (¬ x3 = (-1) → J g mX12_leastLimit (d + 1) hs P 68 [(0, .ref m), (2, .int x2), (3, .int x3)] [] (mw h m μ)))) : J g mX12_leastLimit (d + 1) hs P 30 [(0, .ref m), (1, .int x1), (2, .int x2), (3, .int x3), (4, .int x4)] [] (mw h m μ) := by
  refine jr_iload 4 dX12_leastLimit_30 rfl ?_
  refine jr_sipush (v := 999) dX12_leastLimit_32 (by decide) ?_
  refine jr_icmp_gt (tgt := 68) dX12_leastLimit_35 (by decide) (fun c35 => ?_) (fun c35 => ?_)
  · have k := k.1 c35
    exact jr_sub [0, 2, 3] rfl k
  · have k := k.2 c35
    refine jr_iload_n 3 dX12_leastLimit_38 rfl rfl ?_
    refine jr_iconst (v := (-1)) dX12_leastLimit_39 (by decide) ?_
    refine jr_icmp_ne (tgt := 68) dX12_leastLimit_40 (by decide) (fun c40 => ?_) (fun c40 => ?_)
    · have k := k.2 c40
      exact jr_sub [0, 2, 3] rfl k
    · have k := k.1 c40
      refine jr_aload_n 0 dX12_leastLimit_43 rfl rfl ?_
      refine jr_get jf_X12_9 dX12_leastLimit_44 mw_o rfl ?_
      refine jr_iconst (v := 3) dX12_leastLimit_47 (by decide) ?_
      refine jr_iload 4 dX12_leastLimit_48 rfl ?_
      refine jr_iastE dX12_leastLimit_50 mw_1 (vp_in_nI (n := 3) (by decide) (by decide)) (fun h1 e2 => ?_)
      replace e2 : h1 = mw h m (mA μ 1 (upd (kn μ) 3 x4)) := e2.trans (mw_pA (by decide) (by decide) _)
      subst e2
      refine jr_aload_n 0 dX12_leastLimit_51 rfl rfl ?_
      refine jr_iload_n 1 dX12_leastLimit_52 rfl rfl ?_
      obtain ⟨Q10, C8, k⟩ := k
      refine jr_cVi (As := [.int x1]) jl_X12_425 km_X12_lostNow rfl rfl dX12_leastLimit_53 mw_o (Nat.le_of_ble_eq_true rfl) (Con.pi C8 (fun _ _ q => q) (fun E h' f => f.elim)) (fun r4 h5 q6 => ?_)
      obtain ⟨μ9, q6, q7⟩ := q6
      subst q7
      have k := k r4 μ9 q6
      refine jr_if_ne (tgt := 62) dX12_leastLimit_56 (by decide) (fun c56 => ?_) (fun c56 => ?_)
      · have k := k.2 c56
        refine jr_iinc (v := (x4 + 1)) (lv' := [(4, .int (x4 + 1)), (0, .ref m), (1, .int x1), (2, .int x2), (3, .int x3)]) 4 dX12_leastLimit_62 rfl rfl (by decide) rfl ?_
        refine jr_goto (tgt := 30) dX12_leastLimit_65 (by decide) ?_
        exact jr_sub [1, 2, 3, 4, 0] rfl k
      · have k := k.1 c56
        refine jr_iload 4 dX12_leastLimit_59 rfl ?_
        refine jr_istore_n (lv' := [(3, .int x4), (0, .ref m), (1, .int x1), (2, .int x2), (4, .int x4)]) dX12_leastLimit_61 rfl (by decide) rfl ?_
        refine jr_iinc (v := (x4 + 1)) (lv' := [(4, .int (x4 + 1)), (3, .int x4), (0, .ref m), (1, .int x1), (2, .int x2)]) 4 dX12_leastLimit_62 rfl rfl (by decide) rfl ?_
        refine jr_goto (tgt := 30) dX12_leastLimit_65 (by decide) ?_
        exact jr_sub [2, 3, 4, 1, 0] rfl k
set_option maxRecDepth 20000 in
theorem wX12_leastLimit_68 {x2 : Int32} {x3 : Int32} (k : P (.inl (some (.int x3))) (mw h m (mA μ 1 (upd (kn μ) 3 x2)))) : J g mX12_leastLimit (d + 1) hs P 68 [(0, .ref m), (2, .int x2), (3, .int x3)] [] (mw h m μ) := by
  refine jr_aload_n 0 dX12_leastLimit_68 rfl rfl ?_
  refine jr_get jf_X12_9 dX12_leastLimit_69 mw_o rfl ?_
  refine jr_iconst (v := 3) dX12_leastLimit_72 (by decide) ?_
  refine jr_iload_n 1 dX12_leastLimit_73 rfl rfl ?_
  refine jr_iastE dX12_leastLimit_74 mw_1 (vp_in_nI (n := 3) (by decide) (by decide)) (fun h1 e2 => ?_)
  replace e2 : h1 = mw h m (mA μ 1 (upd (kn μ) 3 x2)) := e2.trans (mw_pA (by decide) (by decide) _)
  subst e2
  refine jr_iload_n 2 dX12_leastLimit_75 rfl rfl ?_
  exact jr_iret (ty := .int) rfl rfl dX12_leastLimit_76 k
set_option maxRecDepth 20000 in
theorem wX12_worthOf_0 {x1 : Int32} {x2 : Int32} (k : ∃ Q7 : Int32 → MW → Prop, Con g mX12_lostNow d [.ref m, .int x2] (mw h m μ) (wPi h m Q7) ∧ ∀ (r1 : Int32) (μ6 : MW), Q7 r1 μ6 → ∃ r8 : Int32, Con g mX12_size d [.int ((μ6.1 27) &&& (((1 : Int32) <<< (x1 &&& 31)) ^^^ (-1)))] (mw h m μ6) (jPi (fun r h' => r = r8 ∧ h' = (mw h m μ6)) no2) ∧ ∃ Q19 : MW → Prop, Con g mX12_putsAside d [.ref m] (mw h m μ6) (wPv h m Q19) ∧ ∀ μ18 : MW, Q19 μ18 → vp_in ((29 + x1)) 3240 ∧ vp_in ((22 + x1)) 3240 ∧ ∃ Q32 : Int32 → MW → Prop, Con g mX12_lostFromHere d [.ref m, .int x2] (mw h m (mA ((mA μ18 1 (upd (kn μ18) (ix ((29 + x1))) 1))) 1 (upd (kn ((mA μ18 1 (upd (kn μ18) (ix ((29 + x1))) 1)))) (ix ((22 + x1))) 0))) (wPi h m Q32) ∧ ∀ (r26 : Int32) (μ31 : MW), Q32 r26 μ31 → P (.inl (some (.int ((r26 - r8))))) (mw h m μ31)) : J g mX12_worthOf (d + 1) hs P 0 [(0, .ref m), (1, .int x1), (2, .int x2)] [] (mw h m μ) := by
  refine jr_aload_n 0 dX12_worthOf_0 rfl rfl ?_
  refine jr_iload_n 2 dX12_worthOf_1 rfl rfl ?_
  obtain ⟨Q7, C5, k⟩ := k
  refine jr_cVi (As := [.int x2]) jl_X12_425 km_X12_lostNow rfl rfl dX12_worthOf_2 mw_o (Nat.le_of_ble_eq_true rfl) (Con.pi C5 (fun _ _ q => q) (fun E h' f => f.elim)) (fun r1 h2 q3 => ?_)
  obtain ⟨μ6, q3, q4⟩ := q3
  subst q4
  have k := k r1 μ6 q3
  refine jr_pop dX12_worthOf_5 rfl ?_
  refine jr_aload_n 0 dX12_worthOf_6 rfl rfl ?_
  refine jr_get jf_X12_413 dX12_worthOf_7 mw_o rfl ?_
  refine jr_iconst (v := 1) dX12_worthOf_10 (by decide) ?_
  refine jr_iload_n 1 dX12_worthOf_11 rfl rfl ?_
  refine jr_ishl dX12_worthOf_12 ?_
  refine jr_iconst (v := (-1)) dX12_worthOf_13 (by decide) ?_
  refine jr_ixor dX12_worthOf_14 ?_
  refine jr_iand dX12_worthOf_15 ?_
  obtain ⟨r8z, C12, k⟩ := k
  refine jr_cSi (As := [.int ((μ6.1 27) &&& (((1 : Int32) <<< (x1 &&& 31)) ^^^ (-1)))]) jl_X12_416 km_X12_size rfl rfl dX12_worthOf_16 (Nat.le_of_ble_eq_true rfl) (C12.pi (fun _ _ q => q) (fun E h' f => f.elim)) (fun r8 h9 q10 => ?_)
  obtain ⟨q10, q11⟩ := q10
  subst q11
  subst q10
  refine jr_istore_n (lv' := [(3, .int r8), (0, .ref m), (1, .int x1), (2, .int x2)]) dX12_worthOf_19 rfl (by decide) rfl ?_
  refine jr_aload_n 1 dX12_worthOf_20 rfl rfl ?_
  obtain ⟨Q19, C17, k⟩ := k
  refine jr_cVv (As := []) jl_X12_380 km_X12_putsAside rfl rfl dX12_worthOf_21 mw_o (Nat.le_of_ble_eq_true rfl) (Con.pv C17 (fun _ q => q) (fun E h' f => f.elim)) (fun h14 q15 => ?_)
  obtain ⟨μ18, q15, q16⟩ := q15
  subst q16
  have k := k μ18 q15
  refine jr_aload_n 1 dX12_worthOf_24 rfl rfl ?_
  refine jr_get jf_X12_9 dX12_worthOf_25 mw_o rfl ?_
  refine jr_bipush (v := 29) dX12_worthOf_28 (by decide) ?_
  refine jr_iload_n 2 dX12_worthOf_30 rfl rfl ?_
  refine jr_iadd dX12_worthOf_31 ?_
  refine jr_iconst (v := 1) dX12_worthOf_32 (by decide) ?_
  obtain ⟨e22, k⟩ := k
  refine jr_iastE dX12_worthOf_33 mw_1 e22 (fun h20 e21 => ?_)
  replace e21 : h20 = mw h m (mA μ18 1 (upd (kn μ18) (ix ((29 + x1))) 1)) := e21.trans (mw_pA (by decide) (by decide) _)
  subst e21
  refine jr_aload_n 1 dX12_worthOf_34 rfl rfl ?_
  refine jr_get jf_X12_9 dX12_worthOf_35 mw_o rfl ?_
  refine jr_bipush (v := 22) dX12_worthOf_38 (by decide) ?_
  refine jr_iload_n 2 dX12_worthOf_40 rfl rfl ?_
  refine jr_iadd dX12_worthOf_41 ?_
  refine jr_iconst (v := 0) dX12_worthOf_42 (by decide) ?_
  obtain ⟨e25, k⟩ := k
  refine jr_iastE dX12_worthOf_43 mw_1 e25 (fun h23 e24 => ?_)
  replace e24 : h23 = mw h m (mA ((mA μ18 1 (upd (kn μ18) (ix ((29 + x1))) 1))) 1 (upd (kn ((mA μ18 1 (upd (kn μ18) (ix ((29 + x1))) 1)))) (ix ((22 + x1))) 0)) := e24.trans (mw_pA (by decide) (by decide) _)
  subst e24
  refine jr_aload_n 1 dX12_worthOf_44 rfl rfl ?_
  refine jr_iload_n 3 dX12_worthOf_45 rfl rfl ?_
  obtain ⟨Q32, C30, k⟩ := k
  refine jr_cVi (As := [.int x2]) jl_X12_419 km_X12_lostFromHere rfl rfl dX12_worthOf_46 mw_o (Nat.le_of_ble_eq_true rfl) (Con.pi C30 (fun _ _ q => q) (fun E h' f => f.elim)) (fun r26 h27 q28 => ?_)
  obtain ⟨μ31, q28, q29⟩ := q28
  subst q29
  have k := k r26 μ31 q28
  refine jr_iload_n 0 dX12_worthOf_49 rfl rfl ?_
  refine jr_isub dX12_worthOf_50 ?_
  exact jr_iret (ty := .int) rfl rfl dX12_worthOf_51 k
set_option maxRecDepth 20000 in
theorem wX12_worth_0 {x1 : Int32} {x2 : Int32} (k : ∃ Q7 : Int32 → MW → Prop, Con g mX12_isLivingOut d [.ref m, .int x1, .int x2] (mw h m μ) (wPi h m Q7) ∧ ∀ (r1 : Int32) (μ6 : MW), Q7 r1 μ6 → (r1 = 0 → ∃ Q14 : Int32 → MW → Prop, Con g mX12_worthOf d [.ref m, .int x1, .int x2] (mw h m μ6) (wPi h m Q14) ∧ ∀ (r8 : Int32) (μ13 : MW), Q14 r8 μ13 → P (.inl (some (.int r8))) (mw h m μ13)) ∧ (¬ r1 = 0 → P (.inl (some (.int 0))) (mw h m μ6))) : J g mX12_worth (d + 1) hs P 0 [(0, .ref m), (1, .int x1), (2, .int x2)] [] (mw h m μ) := by
  refine jr_aload_n 0 dX12_worth_0 rfl rfl ?_
  refine jr_iload_n 1 dX12_worth_1 rfl rfl ?_
  refine jr_iload_n 2 dX12_worth_2 rfl rfl ?_
  obtain ⟨Q7, C5, k⟩ := k
  refine jr_cVi (As := [.int x1, .int x2]) jl_X12_467 km_X12_isLivingOut rfl rfl dX12_worth_3 mw_o (Nat.le_of_ble_eq_true rfl) (Con.pi C5 (fun _ _ q => q) (fun E h' f => f.elim)) (fun r1 h2 q3 => ?_)
  obtain ⟨μ6, q3, q4⟩ := q3
  subst q4
  have k := k r1 μ6 q3
  refine jr_if_eq (tgt := 13) dX12_worth_6 (by decide) (fun c6 => ?_) (fun c6 => ?_)
  · have k := k.1 c6
    refine jr_aload_n 0 dX12_worth_13 rfl rfl ?_
    refine jr_iload_n 1 dX12_worth_14 rfl rfl ?_
    refine jr_iload_n 2 dX12_worth_15 rfl rfl ?_
    obtain ⟨Q14, C12, k⟩ := k
    refine jr_cVi (As := [.int x1, .int x2]) jl_X12_470 km_X12_worthOf rfl rfl dX12_worth_16 mw_o (Nat.le_of_ble_eq_true rfl) (Con.pi C12 (fun _ _ q => q) (fun E h' f => f.elim)) (fun r8 h9 q10 => ?_)
    obtain ⟨μ13, q10, q11⟩ := q10
    subst q11
    have k := k r8 μ13 q10
    exact jr_iret (ty := .int) rfl rfl dX12_worth_19 k
  · have k := k.2 c6
    refine jr_iconst (v := 0) dX12_worth_9 (by decide) ?_
    refine jr_goto (tgt := 19) dX12_worth_10 (by decide) ?_
    exact jr_iret (ty := .int) rfl rfl dX12_worth_19 k
set_option maxRecDepth 20000 in
theorem wX12_pillar_0 {x1 : Int32} (k : ∃ r3 : Int32, Con g mX12_isSoon d [.int x1] (mw h m (mI μ 4 0)) (jPi (fun r h' => r = r3 ∧ h' = (mw h m (mI μ 4 0))) no2) ∧ (r3 = 0 → ∃ Q14 : Int32 → MW → Prop, Con g mX12_fails d [.ref m, .int 1] (mw h m (mI μ 4 0)) (wPi h m Q14) ∧ ∀ (r8 : Int32) (μ13 : MW), Q14 r8 μ13 → P (.inl (some (.int r8))) (mw h m μ13)) ∧ (¬ r3 = 0 → J g mX12_pillar (d + 1) hs P 22 [(0, .ref m), (1, .int x1), (2, .int (-1)), (3, .int 0)] [] (mw h m (mI μ 4 0)))) : J g mX12_pillar (d + 1) hs P 0 [(0, .ref m), (1, .int x1)] [] (mw h m μ) := by
  refine jr_aload_n 0 dX12_pillar_0 rfl rfl ?_
  refine jr_iconst (v := 0) dX12_pillar_1 (by decide) ?_
  refine jr_putE jp_X12_67 dX12_pillar_2 mw_o (Nat.le_of_ble_eq_true rfl) rfl rfl (fun h1 e2 => ?_)
  replace e2 := e2.trans (mw_pI 4 ((0 : Int32)))
  subst e2
  refine jr_iload_n 1 dX12_pillar_5 rfl rfl ?_
  obtain ⟨r3z, C7, k⟩ := k
  refine jr_cSi (As := [.int x1]) jl_X12_422 km_X12_isSoon rfl rfl dX12_pillar_6 (Nat.le_of_ble_eq_true rfl) (C7.pi (fun _ _ q => q) (fun E h' f => f.elim)) (fun r3 h4 q5 => ?_)
  obtain ⟨q5, q6⟩ := q5
  subst q6
  subst q5
  refine jr_if_ne (tgt := 18) dX12_pillar_9 (by decide) (fun c9 => ?_) (fun c9 => ?_)
  · have k := k.2 c9
    refine jr_iconst (v := (-1)) dX12_pillar_18 (by decide) ?_
    refine jr_istore_n (lv' := [(2, .int (-1)), (0, .ref m), (1, .int x1)]) dX12_pillar_19 rfl (by decide) rfl ?_
    refine jr_iconst (v := 0) dX12_pillar_20 (by decide) ?_
    refine jr_istore_n (lv' := [(3, .int 0), (2, .int (-1)), (0, .ref m), (1, .int x1)]) dX12_pillar_21 rfl (by decide) rfl ?_
    exact jr_sub [2, 3, 1, 0] rfl k
  · have k := k.1 c9
    refine jr_aload_n 0 dX12_pillar_12 rfl rfl ?_
    refine jr_iconst (v := 1) dX12_pillar_13 (by decide) ?_
    obtain ⟨Q14, C12, k⟩ := k
    refine jr_cVi (As := [.int 1]) jl_X12_234 km_X12_fails rfl rfl dX12_pillar_14 mw_o (Nat.le_of_ble_eq_true rfl) (Con.pi C12 (fun _ _ q => q) (fun E h' f => f.elim)) (fun r8 h9 q10 => ?_)
    obtain ⟨μ13, q10, q11⟩ := q10
    subst q11
    have k := k r8 μ13 q10
    exact jr_iret (ty := .int) rfl rfl dX12_pillar_17 k
set_option maxRecDepth 20000 in
theorem wX12_pillar_22 {x1 : Int32} {x2 : Int32} {x3 : Int32} (k : ∃ r1 : Int32, Con g mX12_houses d [.ref m] (mw h m μ) (jPi (fun r h' => r = r1 ∧ h' = (mw h m μ)) no2) ∧ (x3 < r1 → ∃ r6 : Int32, Con g mX12_isGone d [.ref m, .int x3] (mw h m μ) (jPi (fun r h' => r = r6 ∧ h' = (mw h m μ)) no2) ∧ (r6 = 0 → ∃ Q17 : Int32 → MW → Prop, Con g mX12_worthOf d [.ref m, .int x3, .int x1] (mw h m μ) (wPi h m Q17) ∧ ∀ (r11 : Int32) (μ16 : MW), Q17 r11 μ16 → (0 < r11 → J g mX12_pillar (d + 1) hs P 22 [(0, .ref m), (1, .int x1), (2, .int x3), (3, .int (x3 + 1))] [] (mw h m μ16)) ∧ (¬ 0 < r11 → J g mX12_pillar (d + 1) hs P 22 [(0, .ref m), (1, .int x1), (2, .int x2), (3, .int (x3 + 1))] [] (mw h m μ16))) ∧ (¬ r6 = 0 → J g mX12_pillar (d + 1) hs P 22 [(0, .ref m), (1, .int x1), (2, .int x2), (3, .int (x3 + 1))] [] (mw h m μ))) ∧ (¬ x3 < r1 → P (.inl (some (.int x2))) (mw h m μ))) : J g mX12_pillar (d + 1) hs P 22 [(0, .ref m), (1, .int x1), (2, .int x2), (3, .int x3)] [] (mw h m μ) := by
  refine jr_iload_n 3 dX12_pillar_22 rfl rfl ?_
  refine jr_aload_n 0 dX12_pillar_23 rfl rfl ?_
  obtain ⟨r1z, C5, k⟩ := k
  refine jr_cVi (As := []) jl_X12_249 km_X12_houses rfl rfl dX12_pillar_24 mw_o (Nat.le_of_ble_eq_true rfl) (C5.pi (fun _ _ q => q) (fun E h' f => f.elim)) (fun r1 h2 q3 => ?_)
  obtain ⟨q3, q4⟩ := q3
  subst q4
  subst q3
  refine jr_icmp_ge (tgt := 55) dX12_pillar_27 (by decide) (fun c27 => ?_) (fun c27 => ?_)
  · have k := k.2 c27
    refine jr_iload_n 2 dX12_pillar_55 rfl rfl ?_
    exact jr_iret (ty := .int) rfl rfl dX12_pillar_56 k
  · have k := k.1 c27
    refine jr_aload_n 0 dX12_pillar_30 rfl rfl ?_
    refine jr_iload_n 3 dX12_pillar_31 rfl rfl ?_
    obtain ⟨r6z, C10, k⟩ := k
    refine jr_cVi (As := [.int x3]) jl_X12_291 km_X12_isGone rfl rfl dX12_pillar_32 mw_o (Nat.le_of_ble_eq_true rfl) (C10.pi (fun _ _ q => q) (fun E h' f => f.elim)) (fun r6 h7 q8 => ?_)
    obtain ⟨q8, q9⟩ := q8
    subst q9
    subst q8
    refine jr_if_ne (tgt := 49) dX12_pillar_35 (by decide) (fun c35 => ?_) (fun c35 => ?_)
    · have k := k.2 c35
      refine jr_iinc (v := (x3 + 1)) (lv' := [(3, .int (x3 + 1)), (0, .ref m), (1, .int x1), (2, .int x2)]) 3 dX12_pillar_49 rfl rfl (by decide) rfl ?_
      refine jr_goto (tgt := 22) dX12_pillar_52 (by decide) ?_
      exact jr_sub [1, 2, 3, 0] rfl k
    · have k := k.1 c35
      refine jr_aload_n 0 dX12_pillar_38 rfl rfl ?_
      refine jr_iload_n 3 dX12_pillar_39 rfl rfl ?_
      refine jr_iload_n 1 dX12_pillar_40 rfl rfl ?_
      obtain ⟨Q17, C15, k⟩ := k
      refine jr_cVi (As := [.int x3, .int x1]) jl_X12_470 km_X12_worthOf rfl rfl dX12_pillar_41 mw_o (Nat.le_of_ble_eq_true rfl) (Con.pi C15 (fun _ _ q => q) (fun E h' f => f.elim)) (fun r11 h12 q13 => ?_)
      obtain ⟨μ16, q13, q14⟩ := q13
      subst q14
      have k := k r11 μ16 q13
      refine jr_if_le (tgt := 49) dX12_pillar_44 (by decide) (fun c44 => ?_) (fun c44 => ?_)
      · have k := k.2 c44
        refine jr_iinc (v := (x3 + 1)) (lv' := [(3, .int (x3 + 1)), (0, .ref m), (1, .int x1), (2, .int x2)]) 3 dX12_pillar_49 rfl rfl (by decide) rfl ?_
        refine jr_goto (tgt := 22) dX12_pillar_52 (by decide) ?_
        exact jr_sub [1, 2, 3, 0] rfl k
      · have k := k.1 c44
        refine jr_iload_n 3 dX12_pillar_47 rfl rfl ?_
        refine jr_istore_n (lv' := [(2, .int x3), (0, .ref m), (1, .int x1), (3, .int x3)]) dX12_pillar_48 rfl (by decide) rfl ?_
        refine jr_iinc (v := (x3 + 1)) (lv' := [(3, .int (x3 + 1)), (2, .int x3), (0, .ref m), (1, .int x1)]) 3 dX12_pillar_49 rfl rfl (by decide) rfl ?_
        refine jr_goto (tgt := 22) dX12_pillar_52 (by decide) ?_
        exact jr_sub [2, 3, 1, 0] rfl k
set_option maxRecDepth 20000 in
theorem wX12_seenFault_0 {x1 : Int32} {x2 : Int32} (k : ∃ r1 : Int32, Con g mX12_isTray d [.int x1] (mw h m μ) (jPi (fun r h' => r = r1 ∧ h' = (mw h m μ)) no2) ∧ (r1 = 0 → P (.inl (some (.int 1))) (mw h m μ)) ∧ (¬ r1 = 0 → ∃ r6 : Int32, Con g mX12_isHouse d [.ref m, .long x2.toInt64] (mw h m μ) (jPi (fun r h' => r = r6 ∧ h' = (mw h m μ)) no2) ∧ (r6 = 0 → P (.inl (some (.int 1))) (mw h m μ)) ∧ (¬ r6 = 0 → vp_in x1 4 ∧ ((μ.2.1 15 (ix x1)) = (-1) → P (.inl (some (.int 2))) (mw h m μ)) ∧ (¬ (μ.2.1 15 (ix x1)) = (-1) → vp_in x1 4 ∧ ∃ r13 : Int32, Con g mX12_within d [.long ((μ.2.1 16 (ix x1))).toInt64, .long 1, .long 12] (mw h m μ) (jPi (fun r h' => r = r13 ∧ h' = (mw h m μ)) no2) ∧ J g mX12_seenFault (d + 1) hs P 48 [(0, .ref m), (1, .int x1), (3, .int r13), (4, .int 0)] [] (mw h m μ))))) : J g mX12_seenFault (d + 1) hs P 0 [(0, .ref m), (1, .int x1), (2, .int x2)] [] (mw h m μ) := by
  refine jr_iload_n 1 dX12_seenFault_0 rfl rfl ?_
  obtain ⟨r1z, C5, k⟩ := k
  refine jr_cSi (As := [.int x1]) jl_X12_360 km_X12_isTray rfl rfl dX12_seenFault_1 (Nat.le_of_ble_eq_true rfl) (C5.pi (fun _ _ q => q) (fun E h' f => f.elim)) (fun r1 h2 q3 => ?_)
  obtain ⟨q3, q4⟩ := q3
  subst q4
  subst q3
  refine jr_if_eq (tgt := 16) dX12_seenFault_4 (by decide) (fun c4 => ?_) (fun c4 => ?_)
  · have k := k.1 c4
    refine jr_iconst (v := 1) dX12_seenFault_16 (by decide) ?_
    exact jr_iret (ty := .int) rfl rfl dX12_seenFault_17 k
  · have k := k.2 c4
    refine jr_aload_n 0 dX12_seenFault_7 rfl rfl ?_
    refine jr_iload_n 2 dX12_seenFault_8 rfl rfl ?_
    refine jr_i2l dX12_seenFault_9 ?_
    obtain ⟨r6z, C10, k⟩ := k
    refine jr_cVi (As := [.long x2.toInt64]) jl_X12_313 km_X12_isHouse rfl rfl dX12_seenFault_10 mw_o (Nat.le_of_ble_eq_true rfl) (C10.pi (fun _ _ q => q) (fun E h' f => f.elim)) (fun r6 h7 q8 => ?_)
    obtain ⟨q8, q9⟩ := q8
    subst q9
    subst q8
    refine jr_if_ne (tgt := 18) dX12_seenFault_13 (by decide) (fun c13 => ?_) (fun c13 => ?_)
    · have k := k.2 c13
      refine jr_aload_n 0 dX12_seenFault_18 rfl rfl ?_
      refine jr_get jf_X12_57 dX12_seenFault_19 mw_o rfl ?_
      refine jr_iload_n 1 dX12_seenFault_22 rfl rfl ?_
      obtain ⟨e11, k⟩ := k
      refine jr_iald dX12_seenFault_23 mw_15 e11 ?_
      refine jr_iconst (v := (-1)) dX12_seenFault_24 (by decide) ?_
      refine jr_icmp_ne (tgt := 30) dX12_seenFault_25 (by decide) (fun c25 => ?_) (fun c25 => ?_)
      · have k := k.2 c25
        refine jr_aload_n 0 dX12_seenFault_30 rfl rfl ?_
        refine jr_get jf_X12_60 dX12_seenFault_31 mw_o rfl ?_
        refine jr_iload_n 1 dX12_seenFault_34 rfl rfl ?_
        obtain ⟨e12, k⟩ := k
        refine jr_iald dX12_seenFault_35 mw_16 e12 ?_
        refine jr_i2l dX12_seenFault_36 ?_
        refine jr_lconst (v := 1) dX12_seenFault_37 (by decide) ?_
        refine jr_ldc2 (v := 12) jk_X12_473 dX12_seenFault_38 ?_
        obtain ⟨r13z, C17, k⟩ := k
        refine jr_cSi (As := [.long ((μ.2.1 16 (ix x1))).toInt64, .long 1, .long 12]) jl_X12_128 km_X12_within rfl rfl dX12_seenFault_41 (Nat.le_of_ble_eq_true rfl) (C17.pi (fun _ _ q => q) (fun E h' f => f.elim)) (fun r13 h14 q15 => ?_)
        obtain ⟨q15, q16⟩ := q15
        subst q16
        subst q15
        refine jr_istore_n (lv' := [(3, .int r13), (0, .ref m), (1, .int x1), (2, .int x2)]) dX12_seenFault_44 rfl (by decide) rfl ?_
        refine jr_iconst (v := 0) dX12_seenFault_45 (by decide) ?_
        refine jr_istore (lv' := [(4, .int 0), (3, .int r13), (0, .ref m), (1, .int x1), (2, .int x2)]) dX12_seenFault_46 (by decide) rfl ?_
        exact jr_sub [2, 3, 1, 0] rfl k
      · have k := k.1 c25
        refine jr_iconst (v := 2) dX12_seenFault_28 (by decide) ?_
        exact jr_iret (ty := .int) rfl rfl dX12_seenFault_29 k
    · have k := k.1 c13
      refine jr_iconst (v := 1) dX12_seenFault_16 (by decide) ?_
      exact jr_iret (ty := .int) rfl rfl dX12_seenFault_17 k
set_option maxRecDepth 20000 in
theorem wX12_seenFault_48 {x1 : Int32} {x3 : Int32} {x4 : Int32} (k : vp_in x1 4 ∧ (x4 < (μ.2.1 16 (ix x1)) → (x3 = 0 → J g mX12_seenFault (d + 1) hs P 91 [(3, .int x3)] [] (mw h m μ)) ∧ (¬ x3 = 0 → vp_in (((30 * x1) + x4)) 120 ∧ ∃ r3 : Int32, Con g mX12_within d [.long (μ.2.2 (ix (((30 * x1) + x4)))), .long (-1), .long 999999] (mw h m μ) (jPi (fun r h' => r = r3 ∧ h' = (mw h m μ)) no2) ∧ J g mX12_seenFault (d + 1) hs P 48 [(0, .ref m), (1, .int x1), (3, .int r3), (4, .int (x4 + 1))] [] (mw h m μ))) ∧ (¬ x4 < (μ.2.1 16 (ix x1)) → J g mX12_seenFault (d + 1) hs P 91 [(3, .int x3)] [] (mw h m μ))) : J g mX12_seenFault (d + 1) hs P 48 [(0, .ref m), (1, .int x1), (3, .int x3), (4, .int x4)] [] (mw h m μ) := by
  refine jr_iload 3 dX12_seenFault_48 rfl ?_
  refine jr_aload_n 0 dX12_seenFault_50 rfl rfl ?_
  refine jr_get jf_X12_60 dX12_seenFault_51 mw_o rfl ?_
  refine jr_iload_n 1 dX12_seenFault_54 rfl rfl ?_
  obtain ⟨e1, k⟩ := k
  refine jr_iald dX12_seenFault_55 mw_16 e1 ?_
  refine jr_icmp_ge (tgt := 91) dX12_seenFault_56 (by decide) (fun c56 => ?_) (fun c56 => ?_)
  · have k := k.2 c56
    exact jr_sub [2] rfl k
  · have k := k.1 c56
    refine jr_iload_n 2 dX12_seenFault_59 rfl rfl ?_
    refine jr_if_eq (tgt := 91) dX12_seenFault_60 (by decide) (fun c60 => ?_) (fun c60 => ?_)
    · have k := k.1 c60
      exact jr_sub [2] rfl k
    · have k := k.2 c60
      refine jr_aload_n 0 dX12_seenFault_63 rfl rfl ?_
      refine jr_get jf_X12_63 dX12_seenFault_64 mw_o rfl ?_
      refine jr_bipush (v := 30) dX12_seenFault_67 (by decide) ?_
      refine jr_iload_n 1 dX12_seenFault_69 rfl rfl ?_
      refine jr_imul dX12_seenFault_70 ?_
      refine jr_iload 3 dX12_seenFault_71 rfl ?_
      refine jr_iadd dX12_seenFault_73 ?_
      obtain ⟨e2, k⟩ := k
      refine jr_lald dX12_seenFault_74 mw_17 e2 ?_
      refine jr_ldc2 (v := (-1)) jk_X12_363 dX12_seenFault_75 ?_
      refine jr_ldc2 (v := 999999) jk_X12_321 dX12_seenFault_78 ?_
      obtain ⟨r3z, C7, k⟩ := k
      refine jr_cSi (As := [.long (μ.2.2 (ix (((30 * x1) + x4)))), .long (-1), .long 999999]) jl_X12_128 km_X12_within rfl rfl dX12_seenFault_81 (Nat.le_of_ble_eq_true rfl) (C7.pi (fun _ _ q => q) (fun E h' f => f.elim)) (fun r3 h4 q5 => ?_)
      obtain ⟨q5, q6⟩ := q5
      subst q6
      subst q5
      refine jr_istore_n (lv' := [(3, .int r3), (0, .ref m), (1, .int x1), (4, .int x4)]) dX12_seenFault_84 rfl (by decide) rfl ?_
      refine jr_iinc (v := (x4 + 1)) (lv' := [(4, .int (x4 + 1)), (3, .int r3), (0, .ref m), (1, .int x1)]) 3 dX12_seenFault_85 rfl rfl (by decide) rfl ?_
      refine jr_goto (tgt := 48) dX12_seenFault_88 (by decide) ?_
      exact jr_sub [2, 3, 1, 0] rfl k
set_option maxRecDepth 20000 in
theorem wX12_seenFault_91 {x3 : Int32} (k : (x3 = 0 → P (.inl (some (.int 3))) (mw h m μ)) ∧ (¬ x3 = 0 → P (.inl (some (.int 0))) (mw h m μ))) : J g mX12_seenFault (d + 1) hs P 91 [(3, .int x3)] [] (mw h m μ) := by
  refine jr_iload_n 0 dX12_seenFault_91 rfl rfl ?_
  refine jr_if_eq (tgt := 99) dX12_seenFault_92 (by decide) (fun c92 => ?_) (fun c92 => ?_)
  · have k := k.1 c92
    refine jr_iconst (v := 3) dX12_seenFault_99 (by decide) ?_
    exact jr_iret (ty := .int) rfl rfl dX12_seenFault_100 k
  · have k := k.2 c92
    refine jr_iconst (v := 0) dX12_seenFault_95 (by decide) ?_
    refine jr_goto (tgt := 100) dX12_seenFault_96 (by decide) ?_
    exact jr_iret (ty := .int) rfl rfl dX12_seenFault_100 k
set_option maxRecDepth 20000 in
theorem wX12_laysFits_0 {x1 : Int32} {x2 : Int32} (k : J g mX12_laysFits (d + 1) hs P 7 [(0, .ref m), (1, .int x1), (2, .int x2), (3, .int 0)] [] (mw h m (mI μ 32 0))) : J g mX12_laysFits (d + 1) hs P 0 [(0, .ref m), (1, .int x1), (2, .int x2)] [] (mw h m μ) := by
  refine jr_aload_n 0 dX12_laysFits_0 rfl rfl ?_
  refine jr_iconst (v := 0) dX12_laysFits_1 (by decide) ?_
  refine jr_putE jp_X12_475 dX12_laysFits_2 mw_o (Nat.le_of_ble_eq_true rfl) rfl rfl (fun h1 e2 => ?_)
  replace e2 := e2.trans (mw_pI 32 ((0 : Int32)))
  subst e2
  refine jr_iconst (v := 0) dX12_laysFits_5 (by decide) ?_
  refine jr_istore_n (lv' := [(3, .int 0), (0, .ref m), (1, .int x1), (2, .int x2)]) dX12_laysFits_6 rfl (by decide) rfl ?_
  exact jr_sub [1, 2, 3, 0] rfl k
set_option maxRecDepth 20000 in
theorem wX12_laysFits_7 {x1 : Int32} {x2 : Int32} {x3 : Int32} (k : ∃ r1 : Int32, Con g mX12_houses d [.ref m] (mw h m μ) (jPi (fun r h' => r = r1 ∧ h' = (mw h m μ)) no2) ∧ (x3 < (r1 * 99) → ∃ Q12 : MW → Prop, Con g mX12_putsAside d [.ref m] (mw h m μ) (wPv h m Q12) ∧ ∀ μ11 : MW, Q12 μ11 → J g mX12_laysFits (d + 1) hs P 25 [(0, .ref m), (1, .int x1), (2, .int x2), (3, .int x3), (4, .int 0)] [] (mw h m μ11)) ∧ (¬ x3 < (r1 * 99) → P (.inl none) (mw h m μ))) : J g mX12_laysFits (d + 1) hs P 7 [(0, .ref m), (1, .int x1), (2, .int x2), (3, .int x3)] [] (mw h m μ) := by
  refine jr_iload_n 3 dX12_laysFits_7 rfl rfl ?_
  refine jr_aload_n 0 dX12_laysFits_8 rfl rfl ?_
  obtain ⟨r1z, C5, k⟩ := k
  refine jr_cVi (As := []) jl_X12_249 km_X12_houses rfl rfl dX12_laysFits_9 mw_o (Nat.le_of_ble_eq_true rfl) (C5.pi (fun _ _ q => q) (fun E h' f => f.elim)) (fun r1 h2 q3 => ?_)
  obtain ⟨q3, q4⟩ := q3
  subst q4
  subst q3
  refine jr_bipush (v := 99) dX12_laysFits_12 (by decide) ?_
  refine jr_imul dX12_laysFits_14 ?_
  refine jr_icmp_ge (tgt := 180) dX12_laysFits_15 (by decide) (fun c15 => ?_) (fun c15 => ?_)
  · have k := k.2 c15
    exact jr_vret rfl dX12_laysFits_180 k
  · have k := k.1 c15
    refine jr_aload_n 0 dX12_laysFits_18 rfl rfl ?_
    obtain ⟨Q12, C10, k⟩ := k
    refine jr_cVv (As := []) jl_X12_380 km_X12_putsAside rfl rfl dX12_laysFits_19 mw_o (Nat.le_of_ble_eq_true rfl) (Con.pv C10 (fun _ q => q) (fun E h' f => f.elim)) (fun h7 q8 => ?_)
    obtain ⟨μ11, q8, q9⟩ := q8
    subst q9
    have k := k μ11 q8
    refine jr_iconst (v := 0) dX12_laysFits_22 (by decide) ?_
    refine jr_istore (lv' := [(4, .int 0), (0, .ref m), (1, .int x1), (2, .int x2), (3, .int x3)]) dX12_laysFits_23 (by decide) rfl ?_
    exact jr_sub [1, 2, 3, 4, 0] rfl k
set_option maxRecDepth 20000 in
theorem wX12_laysFits_25 {x1 : Int32} {x2 : Int32} {x3 : Int32} {x4 : Int32} (k : (x4 < 44 → vp_in ((52 + x4)) 3240 ∧ vp_in ((8 + x4)) 3240 ∧ J g mX12_laysFits (d + 1) hs P 25 [(0, .ref m), (1, .int x1), (2, .int x2), (3, .int x3), (4, .int (x4 + 1))] [] (mw h m (mA μ 1 (upd (kn μ) (ix ((8 + x4))) ((kn μ (ix ((52 + x4))))))))) ∧ (¬ x4 < 44 → vp_in ((36 + (x3 / 99))) 3240 ∧ vp_in ((36 + (x3 / 99))) 3240 ∧ J g mX12_laysFits (d + 1) hs P 85 [(0, .ref m), (1, .int x1), (2, .int x2), (3, .int x3), (4, .int 1), (5, .int 0)] [] (mw h m (mA μ 1 (upd (kn μ) (ix ((36 + (x3 / 99)))) (((kn μ (ix ((36 + (x3 / 99))))) + ((x3 - x3 / 99 * 99) + 1)))))))) : J g mX12_laysFits (d + 1) hs P 25 [(0, .ref m), (1, .int x1), (2, .int x2), (3, .int x3), (4, .int x4)] [] (mw h m μ) := by
  refine jr_iload 4 dX12_laysFits_25 rfl ?_
  refine jr_bipush (v := 44) dX12_laysFits_27 (by decide) ?_
  refine jr_icmp_ge (tgt := 58) dX12_laysFits_29 (by decide) (fun c29 => ?_) (fun c29 => ?_)
  · have k := k.2 c29
    refine jr_aload_n 0 dX12_laysFits_58 rfl rfl ?_
    refine jr_get jf_X12_9 dX12_laysFits_59 mw_o rfl ?_
    refine jr_bipush (v := 36) dX12_laysFits_62 (by decide) ?_
    refine jr_iload_n 3 dX12_laysFits_64 rfl rfl ?_
    refine jr_bipush (v := 99) dX12_laysFits_65 (by decide) ?_
    refine jr_idiv dX12_laysFits_67 (by decide) ?_
    refine jr_iadd dX12_laysFits_68 ?_
    refine jr_dup2 dX12_laysFits_69 rfl rfl ?_
    obtain ⟨e1, k⟩ := k
    refine jr_iald dX12_laysFits_70 mw_1 e1 ?_
    refine jr_iload_n 3 dX12_laysFits_71 rfl rfl ?_
    refine jr_bipush (v := 99) dX12_laysFits_72 (by decide) ?_
    refine jr_irem dX12_laysFits_74 (by decide) ?_
    refine jr_iconst (v := 1) dX12_laysFits_75 (by decide) ?_
    refine jr_iadd dX12_laysFits_76 ?_
    refine jr_iadd dX12_laysFits_77 ?_
    obtain ⟨e4, k⟩ := k
    refine jr_iastE dX12_laysFits_78 mw_1 e4 (fun h2 e3 => ?_)
    replace e3 : h2 = mw h m (mA μ 1 (upd (kn μ) (ix ((36 + (x3 / 99)))) (((kn μ (ix ((36 + (x3 / 99))))) + ((x3 - x3 / 99 * 99) + 1))))) := e3.trans (mw_pA (by decide) (by decide) _)
    subst e3
    refine jr_iconst (v := 1) dX12_laysFits_79 (by decide) ?_
    refine jr_istore (lv' := [(4, .int 1), (0, .ref m), (1, .int x1), (2, .int x2), (3, .int x3)]) dX12_laysFits_80 (by decide) rfl ?_
    refine jr_iconst (v := 0) dX12_laysFits_82 (by decide) ?_
    refine jr_istore (lv' := [(5, .int 0), (4, .int 1), (0, .ref m), (1, .int x1), (2, .int x2), (3, .int x3)]) dX12_laysFits_83 (by decide) rfl ?_
    exact jr_sub [2, 3, 4, 5, 1, 0] rfl k
  · have k := k.1 c29
    refine jr_aload_n 0 dX12_laysFits_32 rfl rfl ?_
    refine jr_get jf_X12_9 dX12_laysFits_33 mw_o rfl ?_
    refine jr_bipush (v := 8) dX12_laysFits_36 (by decide) ?_
    refine jr_iload 4 dX12_laysFits_38 rfl ?_
    refine jr_iadd dX12_laysFits_40 ?_
    refine jr_aload_n 0 dX12_laysFits_41 rfl rfl ?_
    refine jr_get jf_X12_9 dX12_laysFits_42 mw_o rfl ?_
    refine jr_bipush (v := 52) dX12_laysFits_45 (by decide) ?_
    refine jr_iload 4 dX12_laysFits_47 rfl ?_
    refine jr_iadd dX12_laysFits_49 ?_
    obtain ⟨e5, k⟩ := k
    refine jr_iald dX12_laysFits_50 mw_1 e5 ?_
    obtain ⟨e8, k⟩ := k
    refine jr_iastE dX12_laysFits_51 mw_1 e8 (fun h6 e7 => ?_)
    replace e7 : h6 = mw h m (mA μ 1 (upd (kn μ) (ix ((8 + x4))) ((kn μ (ix ((52 + x4))))))) := e7.trans (mw_pA (by decide) (by decide) _)
    subst e7
    refine jr_iinc (v := (x4 + 1)) (lv' := [(4, .int (x4 + 1)), (0, .ref m), (1, .int x1), (2, .int x2), (3, .int x3)]) 4 dX12_laysFits_52 rfl rfl (by decide) rfl ?_
    refine jr_goto (tgt := 25) dX12_laysFits_55 (by decide) ?_
    exact jr_sub [1, 2, 3, 4, 0] rfl k
set_option maxRecDepth 20000 in
theorem wX12_laysFits_85 {x1 : Int32} {x2 : Int32} {x3 : Int32} {x4 : Int32} {x5 : Int32} (k : vp_in x1 4 ∧ (x5 < (μ.2.1 16 (ix x1)) → (x4 = 0 → J g mX12_laysFits (d + 1) hs P 160 [(0, .ref m), (1, .int x1), (2, .int x2), (3, .int x3), (4, .int x4)] [] (mw h m μ)) ∧ (¬ x4 = 0 → ∃ Q8 : MW → Prop, Con g mX12_quarter d [.ref m] (mw h m μ) (wPv h m Q8) ∧ ∀ μ7 : MW, Q8 μ7 → vp_in (((30 * x1) + x5)) 120 ∧ ((μ7.2.2 (ix (((30 * x1) + x5)))) = (-1) → J g mX12_laysFits (d + 1) hs P 85 [(0, .ref m), (1, .int x1), (2, .int x2), (3, .int x3), (4, .int 1), (5, .int (x5 + 1))] [] (mw h m μ7)) ∧ (¬ (μ7.2.2 (ix (((30 * x1) + x5)))) = (-1) → vp_in (((30 * x1) + x5)) 120 ∧ vp_in x2 7 ∧ ((μ7.2.2 (ix (((30 * x1) + x5)))) = ((μ7.2.1 8 (ix x2))).toInt64 → J g mX12_laysFits (d + 1) hs P 85 [(0, .ref m), (1, .int x1), (2, .int x2), (3, .int x3), (4, .int 1), (5, .int (x5 + 1))] [] (mw h m μ7)) ∧ (¬ (μ7.2.2 (ix (((30 * x1) + x5)))) = ((μ7.2.1 8 (ix x2))).toInt64 → J g mX12_laysFits (d + 1) hs P 85 [(0, .ref m), (1, .int x1), (2, .int x2), (3, .int x3), (4, .int 0), (5, .int (x5 + 1))] [] (mw h m μ7))))) ∧ (¬ x5 < (μ.2.1 16 (ix x1)) → J g mX12_laysFits (d + 1) hs P 160 [(0, .ref m), (1, .int x1), (2, .int x2), (3, .int x3), (4, .int x4)] [] (mw h m μ))) : J g mX12_laysFits (d + 1) hs P 85 [(0, .ref m), (1, .int x1), (2, .int x2), (3, .int x3), (4, .int x4), (5, .int x5)] [] (mw h m μ) := by
  refine jr_iload 5 dX12_laysFits_85 rfl ?_
  refine jr_aload_n 0 dX12_laysFits_87 rfl rfl ?_
  refine jr_get jf_X12_60 dX12_laysFits_88 mw_o rfl ?_
  refine jr_iload_n 1 dX12_laysFits_91 rfl rfl ?_
  obtain ⟨e1, k⟩ := k
  refine jr_iald dX12_laysFits_92 mw_16 e1 ?_
  refine jr_icmp_ge (tgt := 160) dX12_laysFits_93 (by decide) (fun c93 => ?_) (fun c93 => ?_)
  · have k := k.2 c93
    exact jr_sub [0, 1, 2, 3, 4] rfl k
  · have k := k.1 c93
    refine jr_iload 4 dX12_laysFits_96 rfl ?_
    refine jr_if_eq (tgt := 160) dX12_laysFits_98 (by decide) (fun c98 => ?_) (fun c98 => ?_)
    · have k := k.1 c98
      exact jr_sub [0, 1, 2, 3, 4] rfl k
    · have k := k.2 c98
      refine jr_aload_n 0 dX12_laysFits_101 rfl rfl ?_
      obtain ⟨Q8, C6, k⟩ := k
      refine jr_cVv (As := []) jl_X12_356 km_X12_quarter rfl rfl dX12_laysFits_102 mw_o (Nat.le_of_ble_eq_true rfl) (Con.pv C6 (fun _ q => q) (fun E h' f => f.elim)) (fun h3 q4 => ?_)
      obtain ⟨μ7, q4, q5⟩ := q4
      subst q5
      have k := k μ7 q4
      refine jr_aload_n 0 dX12_laysFits_105 rfl rfl ?_
      refine jr_get jf_X12_63 dX12_laysFits_106 mw_o rfl ?_
      refine jr_bipush (v := 30) dX12_laysFits_109 (by decide) ?_
      refine jr_iload_n 1 dX12_laysFits_111 rfl rfl ?_
      refine jr_imul dX12_laysFits_112 ?_
      refine jr_iload 5 dX12_laysFits_113 rfl ?_
      refine jr_iadd dX12_laysFits_115 ?_
      obtain ⟨e9, k⟩ := k
      refine jr_lald dX12_laysFits_116 mw_17 e9 ?_
      refine jr_ldc2 (v := (-1)) jk_X12_363 dX12_laysFits_117 ?_
      refine jr_lcmp_eq (tgt := 147) dX12_laysFits_120 dX12_laysFits_121 (by decide) (fun c120 => ?_) (fun c120 => ?_)
      · have k := k.1 c120
        refine jr_iconst (v := 1) dX12_laysFits_147 (by decide) ?_
        refine jr_goto (tgt := 152) dX12_laysFits_148 (by decide) ?_
        refine jr_istore (lv' := [(4, .int 1), (0, .ref m), (1, .int x1), (2, .int x2), (3, .int x3), (5, .int x5)]) dX12_laysFits_152 (by decide) rfl ?_
        refine jr_iinc (v := (x5 + 1)) (lv' := [(5, .int (x5 + 1)), (4, .int 1), (0, .ref m), (1, .int x1), (2, .int x2), (3, .int x3)]) 5 dX12_laysFits_154 rfl rfl (by decide) rfl ?_
        refine jr_goto (tgt := 85) dX12_laysFits_157 (by decide) ?_
        exact jr_sub [2, 3, 4, 5, 1, 0] rfl k
      · have k := k.2 c120
        refine jr_aload_n 0 dX12_laysFits_124 rfl rfl ?_
        refine jr_get jf_X12_63 dX12_laysFits_125 mw_o rfl ?_
        refine jr_bipush (v := 30) dX12_laysFits_128 (by decide) ?_
        refine jr_iload_n 1 dX12_laysFits_130 rfl rfl ?_
        refine jr_imul dX12_laysFits_131 ?_
        refine jr_iload 5 dX12_laysFits_132 rfl ?_
        refine jr_iadd dX12_laysFits_134 ?_
        obtain ⟨e10, k⟩ := k
        refine jr_lald dX12_laysFits_135 mw_17 e10 ?_
        refine jr_aload_n 0 dX12_laysFits_136 rfl rfl ?_
        refine jr_get jf_X12_36 dX12_laysFits_137 mw_o rfl ?_
        refine jr_iload_n 2 dX12_laysFits_140 rfl rfl ?_
        obtain ⟨e11, k⟩ := k
        refine jr_iald dX12_laysFits_141 mw_8 e11 ?_
        refine jr_i2l dX12_laysFits_142 ?_
        refine jr_lcmp_ne (tgt := 151) dX12_laysFits_143 dX12_laysFits_144 (by decide) (fun c143 => ?_) (fun c143 => ?_)
        · have k := k.2 c143
          refine jr_iconst (v := 0) dX12_laysFits_151 (by decide) ?_
          refine jr_istore (lv' := [(4, .int 0), (0, .ref m), (1, .int x1), (2, .int x2), (3, .int x3), (5, .int x5)]) dX12_laysFits_152 (by decide) rfl ?_
          refine jr_iinc (v := (x5 + 1)) (lv' := [(5, .int (x5 + 1)), (4, .int 0), (0, .ref m), (1, .int x1), (2, .int x2), (3, .int x3)]) 5 dX12_laysFits_154 rfl rfl (by decide) rfl ?_
          refine jr_goto (tgt := 85) dX12_laysFits_157 (by decide) ?_
          exact jr_sub [2, 3, 4, 5, 1, 0] rfl k
        · have k := k.1 c143
          refine jr_iconst (v := 1) dX12_laysFits_147 (by decide) ?_
          refine jr_goto (tgt := 152) dX12_laysFits_148 (by decide) ?_
          refine jr_istore (lv' := [(4, .int 1), (0, .ref m), (1, .int x1), (2, .int x2), (3, .int x3), (5, .int x5)]) dX12_laysFits_152 (by decide) rfl ?_
          refine jr_iinc (v := (x5 + 1)) (lv' := [(5, .int (x5 + 1)), (4, .int 1), (0, .ref m), (1, .int x1), (2, .int x2), (3, .int x3)]) 5 dX12_laysFits_154 rfl rfl (by decide) rfl ?_
          refine jr_goto (tgt := 85) dX12_laysFits_157 (by decide) ?_
          exact jr_sub [2, 3, 4, 5, 1, 0] rfl k
set_option maxRecDepth 20000 in
theorem wX12_laysFits_160 {x1 : Int32} {x2 : Int32} {x3 : Int32} {x4 : Int32} (k : (x4 = 0 → J g mX12_laysFits (d + 1) hs P 170 [(0, .ref m), (1, .int x1), (2, .int x2), (3, .int x3)] [] (mw h m μ)) ∧ (¬ x4 = 0 → ∃ Q7 : MW → Prop, Con g mX12_addsFit d [.ref m, .int x3] (mw h m μ) (wPv h m Q7) ∧ ∀ μ6 : MW, Q7 μ6 → J g mX12_laysFits (d + 1) hs P 170 [(0, .ref m), (1, .int x1), (2, .int x2), (3, .int x3)] [] (mw h m μ6))) : J g mX12_laysFits (d + 1) hs P 160 [(0, .ref m), (1, .int x1), (2, .int x2), (3, .int x3), (4, .int x4)] [] (mw h m μ) := by
  refine jr_iload 4 dX12_laysFits_160 rfl ?_
  refine jr_if_eq (tgt := 170) dX12_laysFits_162 (by decide) (fun c162 => ?_) (fun c162 => ?_)
  · have k := k.1 c162
    exact jr_sub [0, 1, 2, 3] rfl k
  · have k := k.2 c162
    refine jr_aload_n 0 dX12_laysFits_165 rfl rfl ?_
    refine jr_iload_n 3 dX12_laysFits_166 rfl rfl ?_
    obtain ⟨Q7, C5, k⟩ := k
    refine jr_cVv (As := [.int x3]) jl_X12_478 km_X12_addsFit rfl rfl dX12_laysFits_167 mw_o (Nat.le_of_ble_eq_true rfl) (Con.pv C5 (fun _ q => q) (fun E h' f => f.elim)) (fun h2 q3 => ?_)
    obtain ⟨μ6, q3, q4⟩ := q3
    subst q4
    have k := k μ6 q3
    exact jr_sub [0, 1, 2, 3] rfl k
set_option maxRecDepth 20000 in
theorem wX12_laysFits_170 {x1 : Int32} {x2 : Int32} {x3 : Int32} (k : ∃ Q7 : MW → Prop, Con g mX12_putsBack d [.ref m] (mw h m μ) (wPv h m Q7) ∧ ∀ μ6 : MW, Q7 μ6 → J g mX12_laysFits (d + 1) hs P 7 [(0, .ref m), (1, .int x1), (2, .int x2), (3, .int (x3 + 1))] [] (mw h m μ6)) : J g mX12_laysFits (d + 1) hs P 170 [(0, .ref m), (1, .int x1), (2, .int x2), (3, .int x3)] [] (mw h m μ) := by
  refine jr_aload_n 0 dX12_laysFits_170 rfl rfl ?_
  obtain ⟨Q7, C5, k⟩ := k
  refine jr_cVv (As := []) jl_X12_392 km_X12_putsBack rfl rfl dX12_laysFits_171 mw_o (Nat.le_of_ble_eq_true rfl) (Con.pv C5 (fun _ q => q) (fun E h' f => f.elim)) (fun h2 q3 => ?_)
  obtain ⟨μ6, q3, q4⟩ := q3
  subst q4
  have k := k μ6 q3
  refine jr_iinc (v := (x3 + 1)) (lv' := [(3, .int (x3 + 1)), (0, .ref m), (1, .int x1), (2, .int x2)]) 3 dX12_laysFits_174 rfl rfl (by decide) rfl ?_
  refine jr_goto (tgt := 7) dX12_laysFits_177 (by decide) ?_
  exact jr_sub [1, 2, 3, 0] rfl k
set_option maxRecDepth 20000 in
theorem wX12_addsFit_0 {x1 : Int32} (k : ∃ Q7 : MW → Prop, Con g mX12_quarter d [.ref m] (mw h m μ) (wPv h m Q7) ∧ ∀ μ6 : MW, Q7 μ6 → J g mX12_addsFit (d + 1) hs P 6 [(0, .ref m), (1, .int x1), (2, .int 0)] [] (mw h m μ6)) : J g mX12_addsFit (d + 1) hs P 0 [(0, .ref m), (1, .int x1)] [] (mw h m μ) := by
  refine jr_aload_n 0 dX12_addsFit_0 rfl rfl ?_
  obtain ⟨Q7, C5, k⟩ := k
  refine jr_cVv (As := []) jl_X12_356 km_X12_quarter rfl rfl dX12_addsFit_1 mw_o (Nat.le_of_ble_eq_true rfl) (Con.pv C5 (fun _ q => q) (fun E h' f => f.elim)) (fun h2 q3 => ?_)
  obtain ⟨μ6, q3, q4⟩ := q3
  subst q4
  have k := k μ6 q3
  refine jr_iconst (v := 0) dX12_addsFit_4 (by decide) ?_
  refine jr_istore_n (lv' := [(2, .int 0), (0, .ref m), (1, .int x1)]) dX12_addsFit_5 rfl (by decide) rfl ?_
  exact jr_sub [1, 2, 0] rfl k
set_option maxRecDepth 20000 in
theorem wX12_addsFit_6 {x1 : Int32} {x2 : Int32} (k : ∃ r1 : Int32, Con g mX12_houses d [.ref m] (mw h m μ) (jPi (fun r h' => r = r1 ∧ h' = (mw h m μ)) no2) ∧ (x2 < r1 → vp_in x2 7 ∧ vp_in (((7 * (μ.1 32)) + x2)) 4851 ∧ J g mX12_addsFit (d + 1) hs P 6 [(0, .ref m), (1, .int x1), (2, .int (x2 + 1))] [] (mw h m (mA μ 14 (upd (μ.2.1 14) (ix (((7 * (μ.1 32)) + x2))) ((μ.2.1 8 (ix x2))))))) ∧ (¬ x2 < r1 → vp_in ((μ.1 32)) 693 ∧ P (.inl none) (mw h m (mI ((mA μ 13 (upd (μ.2.1 13) (ix ((μ.1 32))) ((((100 * (x1 / 99)) + (x1 - x1 / 99 * 99)) + 1))))) 32 (((((mA μ 13 (upd (μ.2.1 13) (ix ((μ.1 32))) ((((100 * (x1 / 99)) + (x1 - x1 / 99 * 99)) + 1))))).1 32) + 1)))))) : J g mX12_addsFit (d + 1) hs P 6 [(0, .ref m), (1, .int x1), (2, .int x2)] [] (mw h m μ) := by
  refine jr_iload_n 2 dX12_addsFit_6 rfl rfl ?_
  refine jr_aload_n 0 dX12_addsFit_7 rfl rfl ?_
  obtain ⟨r1z, C5, k⟩ := k
  refine jr_cVi (As := []) jl_X12_249 km_X12_houses rfl rfl dX12_addsFit_8 mw_o (Nat.le_of_ble_eq_true rfl) (C5.pi (fun _ _ q => q) (fun E h' f => f.elim)) (fun r1 h2 q3 => ?_)
  obtain ⟨q3, q4⟩ := q3
  subst q4
  subst q3
  refine jr_icmp_ge (tgt := 40) dX12_addsFit_11 (by decide) (fun c11 => ?_) (fun c11 => ?_)
  · have k := k.2 c11
    refine jr_aload_n 0 dX12_addsFit_40 rfl rfl ?_
    refine jr_get jf_X12_51 dX12_addsFit_41 mw_o rfl ?_
    refine jr_aload_n 0 dX12_addsFit_44 rfl rfl ?_
    refine jr_get jf_X12_475 dX12_addsFit_45 mw_o rfl ?_
    refine jr_bipush (v := 100) dX12_addsFit_48 (by decide) ?_
    refine jr_iload_n 1 dX12_addsFit_50 rfl rfl ?_
    refine jr_bipush (v := 99) dX12_addsFit_51 (by decide) ?_
    refine jr_idiv dX12_addsFit_53 (by decide) ?_
    refine jr_imul dX12_addsFit_54 ?_
    refine jr_iload_n 1 dX12_addsFit_55 rfl rfl ?_
    refine jr_bipush (v := 99) dX12_addsFit_56 (by decide) ?_
    refine jr_irem dX12_addsFit_58 (by decide) ?_
    refine jr_iadd dX12_addsFit_59 ?_
    refine jr_iconst (v := 1) dX12_addsFit_60 (by decide) ?_
    refine jr_iadd dX12_addsFit_61 ?_
    obtain ⟨e8, k⟩ := k
    refine jr_iastE dX12_addsFit_62 mw_13 e8 (fun h6 e7 => ?_)
    replace e7 : h6 = mw h m (mA μ 13 (upd (μ.2.1 13) (ix ((μ.1 32))) ((((100 * (x1 / 99)) + (x1 - x1 / 99 * 99)) + 1)))) := e7.trans (mw_pA (by decide) (by decide) _)
    subst e7
    refine jr_aload_n 0 dX12_addsFit_63 rfl rfl ?_
    refine jr_dup dX12_addsFit_64 rfl ?_
    refine jr_get jf_X12_475 dX12_addsFit_65 mw_o rfl ?_
    refine jr_iconst (v := 1) dX12_addsFit_68 (by decide) ?_
    refine jr_iadd dX12_addsFit_69 ?_
    refine jr_putE jp_X12_475 dX12_addsFit_70 mw_o (Nat.le_of_ble_eq_true rfl) rfl rfl (fun h9 e10 => ?_)
    replace e10 := e10.trans (mw_pI 32 (((((mA μ 13 (upd (μ.2.1 13) (ix ((μ.1 32))) ((((100 * (x1 / 99)) + (x1 - x1 / 99 * 99)) + 1))))).1 32) + 1)))
    subst e10
    exact jr_vret rfl dX12_addsFit_73 k
  · have k := k.1 c11
    refine jr_aload_n 0 dX12_addsFit_14 rfl rfl ?_
    refine jr_get jf_X12_54 dX12_addsFit_15 mw_o rfl ?_
    refine jr_bipush (v := 7) dX12_addsFit_18 (by decide) ?_
    refine jr_aload_n 0 dX12_addsFit_20 rfl rfl ?_
    refine jr_get jf_X12_475 dX12_addsFit_21 mw_o rfl ?_
    refine jr_imul dX12_addsFit_24 ?_
    refine jr_iload_n 2 dX12_addsFit_25 rfl rfl ?_
    refine jr_iadd dX12_addsFit_26 ?_
    refine jr_aload_n 0 dX12_addsFit_27 rfl rfl ?_
    refine jr_get jf_X12_36 dX12_addsFit_28 mw_o rfl ?_
    refine jr_iload_n 2 dX12_addsFit_31 rfl rfl ?_
    obtain ⟨e11, k⟩ := k
    refine jr_iald dX12_addsFit_32 mw_8 e11 ?_
    obtain ⟨e14, k⟩ := k
    refine jr_iastE dX12_addsFit_33 mw_14 e14 (fun h12 e13 => ?_)
    replace e13 : h12 = mw h m (mA μ 14 (upd (μ.2.1 14) (ix (((7 * (μ.1 32)) + x2))) ((μ.2.1 8 (ix x2))))) := e13.trans (mw_pA (by decide) (by decide) _)
    subst e13
    refine jr_iinc (v := (x2 + 1)) (lv' := [(2, .int (x2 + 1)), (0, .ref m), (1, .int x1)]) 2 dX12_addsFit_34 rfl rfl (by decide) rfl ?_
    refine jr_goto (tgt := 6) dX12_addsFit_37 (by decide) ?_
    exact jr_sub [1, 2, 0] rfl k
set_option maxRecDepth 20000 in
theorem wX12_seen_0 {x1 : Int32} {x2 : Int32} (k : ∃ r1 : Int32, Con g mX12_seenFault d [.ref m, .int x1, .int x2] (mw h m μ) (jPi (fun r h' => r = r1 ∧ h' = (mw h m μ)) no2) ∧ (0 < (((mI μ 4 r1)).1 4) → P (.inl (some (.int 0))) (mw h m (mI μ 4 r1))) ∧ (¬ 0 < (((mI μ 4 r1)).1 4) → ∃ Q14 : MW → Prop, Con g mX12_laysFits d [.ref m, .int x1, .int x2] (mw h m (mI μ 4 r1)) (wPv h m Q14) ∧ ∀ μ13 : MW, Q14 μ13 → P (.inl (some (.int ((μ13.1 32))))) (mw h m μ13))) : J g mX12_seen (d + 1) hs P 0 [(0, .ref m), (1, .int x1), (2, .int x2)] [] (mw h m μ) := by
  refine jr_aload_n 0 dX12_seen_0 rfl rfl ?_
  refine jr_aload_n 0 dX12_seen_1 rfl rfl ?_
  refine jr_iload_n 1 dX12_seen_2 rfl rfl ?_
  refine jr_iload_n 2 dX12_seen_3 rfl rfl ?_
  obtain ⟨r1z, C5, k⟩ := k
  refine jr_cVi (As := [.int x1, .int x2]) jl_X12_481 km_X12_seenFault rfl rfl dX12_seen_4 mw_o (Nat.le_of_ble_eq_true rfl) (C5.pi (fun _ _ q => q) (fun E h' f => f.elim)) (fun r1 h2 q3 => ?_)
  obtain ⟨q3, q4⟩ := q3
  subst q4
  subst q3
  refine jr_putE jp_X12_67 dX12_seen_7 mw_o (Nat.le_of_ble_eq_true rfl) rfl rfl (fun h6 e7 => ?_)
  replace e7 := e7.trans (mw_pI 4 r1)
  subst e7
  refine jr_aload_n 0 dX12_seen_10 rfl rfl ?_
  refine jr_get jf_X12_67 dX12_seen_11 mw_o rfl ?_
  refine jr_if_le (tgt := 19) dX12_seen_14 (by decide) (fun c14 => ?_) (fun c14 => ?_)
  · have k := k.2 c14
    refine jr_aload_n 0 dX12_seen_19 rfl rfl ?_
    refine jr_iload_n 1 dX12_seen_20 rfl rfl ?_
    refine jr_iload_n 2 dX12_seen_21 rfl rfl ?_
    obtain ⟨Q14, C12, k⟩ := k
    refine jr_cVv (As := [.int x1, .int x2]) jl_X12_484 km_X12_laysFits rfl rfl dX12_seen_22 mw_o (Nat.le_of_ble_eq_true rfl) (Con.pv C12 (fun _ q => q) (fun E h' f => f.elim)) (fun h9 q10 => ?_)
    obtain ⟨μ13, q10, q11⟩ := q10
    subst q11
    have k := k μ13 q10
    refine jr_aload_n 0 dX12_seen_25 rfl rfl ?_
    refine jr_get jf_X12_475 dX12_seen_26 mw_o rfl ?_
    exact jr_iret (ty := .int) rfl rfl dX12_seen_29 k
  · have k := k.1 c14
    refine jr_iconst (v := 0) dX12_seen_17 (by decide) ?_
    exact jr_iret (ty := .int) rfl rfl dX12_seen_18 k
set_option maxRecDepth 20000 in
theorem wX12_hidden_0 {x1 : Int32} {x2 : Int32} {x3 : Int32} (k : ∃ r1 : Int32, Con g mX12_seenFault d [.ref m, .int x1, .int x2] (mw h m μ) (jPi (fun r h' => r = r1 ∧ h' = (mw h m μ)) no2) ∧ ((((mI μ 4 r1)).1 4) = 0 → (x3 < 0 → J g mX12_hidden (d + 1) hs P 26 [(0, .ref m), (1, .int x1), (2, .int x2), (3, .int x3)] [] (mw h m (mI ((mI μ 4 r1)) 4 3))) ∧ (¬ x3 < 0 → J g mX12_hidden (d + 1) hs P 26 [(0, .ref m), (1, .int x1), (2, .int x2), (3, .int x3)] [] (mw h m (mI μ 4 r1)))) ∧ (¬ (((mI μ 4 r1)).1 4) = 0 → J g mX12_hidden (d + 1) hs P 26 [(0, .ref m), (1, .int x1), (2, .int x2), (3, .int x3)] [] (mw h m (mI μ 4 r1)))) : J g mX12_hidden (d + 1) hs P 0 [(0, .ref m), (1, .int x1), (2, .int x2), (3, .int x3)] [] (mw h m μ) := by
  refine jr_aload_n 0 dX12_hidden_0 rfl rfl ?_
  refine jr_aload_n 0 dX12_hidden_1 rfl rfl ?_
  refine jr_iload_n 1 dX12_hidden_2 rfl rfl ?_
  refine jr_iload_n 2 dX12_hidden_3 rfl rfl ?_
  obtain ⟨r1z, C5, k⟩ := k
  refine jr_cVi (As := [.int x1, .int x2]) jl_X12_481 km_X12_seenFault rfl rfl dX12_hidden_4 mw_o (Nat.le_of_ble_eq_true rfl) (C5.pi (fun _ _ q => q) (fun E h' f => f.elim)) (fun r1 h2 q3 => ?_)
  obtain ⟨q3, q4⟩ := q3
  subst q4
  subst q3
  refine jr_putE jp_X12_67 dX12_hidden_7 mw_o (Nat.le_of_ble_eq_true rfl) rfl rfl (fun h6 e7 => ?_)
  replace e7 := e7.trans (mw_pI 4 r1)
  subst e7
  refine jr_aload_n 0 dX12_hidden_10 rfl rfl ?_
  refine jr_get jf_X12_67 dX12_hidden_11 mw_o rfl ?_
  refine jr_if_ne (tgt := 26) dX12_hidden_14 (by decide) (fun c14 => ?_) (fun c14 => ?_)
  · have k := k.2 c14
    exact jr_sub [0, 1, 2, 3] rfl k
  · have k := k.1 c14
    refine jr_iload_n 3 dX12_hidden_17 rfl rfl ?_
    refine jr_if_ge (tgt := 26) dX12_hidden_18 (by decide) (fun c18 => ?_) (fun c18 => ?_)
    · have k := k.2 c18
      exact jr_sub [0, 1, 2, 3] rfl k
    · have k := k.1 c18
      refine jr_aload_n 0 dX12_hidden_21 rfl rfl ?_
      refine jr_iconst (v := 3) dX12_hidden_22 (by decide) ?_
      refine jr_putE jp_X12_67 dX12_hidden_23 mw_o (Nat.le_of_ble_eq_true rfl) rfl rfl (fun h8 e9 => ?_)
      replace e9 := e9.trans (mw_pI 4 ((3 : Int32)))
      subst e9
      exact jr_sub [0, 1, 2, 3] rfl k
set_option maxRecDepth 20000 in
theorem wX12_hidden_26 {x1 : Int32} {x2 : Int32} {x3 : Int32} (k : (0 < (μ.1 4) → P (.inl (some (.int 0))) (mw h m μ)) ∧ (¬ 0 < (μ.1 4) → ∃ Q7 : MW → Prop, Con g mX12_laysFits d [.ref m, .int x1, .int x2] (mw h m μ) (wPv h m Q7) ∧ ∀ μ6 : MW, Q7 μ6 → (x3 < (μ6.1 32) → vp_in x3 693 ∧ P (.inl (some (.int ((μ6.2.1 13 (ix x3)))))) (mw h m μ6)) ∧ (¬ x3 < (μ6.1 32) → P (.inl (some (.int ((-1))))) (mw h m μ6)))) : J g mX12_hidden (d + 1) hs P 26 [(0, .ref m), (1, .int x1), (2, .int x2), (3, .int x3)] [] (mw h m μ) := by
  refine jr_aload_n 0 dX12_hidden_26 rfl rfl ?_
  refine jr_get jf_X12_67 dX12_hidden_27 mw_o rfl ?_
  refine jr_if_le (tgt := 35) dX12_hidden_30 (by decide) (fun c30 => ?_) (fun c30 => ?_)
  · have k := k.2 c30
    refine jr_aload_n 0 dX12_hidden_35 rfl rfl ?_
    refine jr_iload_n 1 dX12_hidden_36 rfl rfl ?_
    refine jr_iload_n 2 dX12_hidden_37 rfl rfl ?_
    obtain ⟨Q7, C5, k⟩ := k
    refine jr_cVv (As := [.int x1, .int x2]) jl_X12_484 km_X12_laysFits rfl rfl dX12_hidden_38 mw_o (Nat.le_of_ble_eq_true rfl) (Con.pv C5 (fun _ q => q) (fun E h' f => f.elim)) (fun h2 q3 => ?_)
    obtain ⟨μ6, q3, q4⟩ := q3
    subst q4
    have k := k μ6 q3
    refine jr_iload_n 3 dX12_hidden_41 rfl rfl ?_
    refine jr_aload_n 0 dX12_hidden_42 rfl rfl ?_
    refine jr_get jf_X12_475 dX12_hidden_43 mw_o rfl ?_
    refine jr_icmp_ge (tgt := 58) dX12_hidden_46 (by decide) (fun c46 => ?_) (fun c46 => ?_)
    · have k := k.2 c46
      refine jr_iconst (v := (-1)) dX12_hidden_58 (by decide) ?_
      exact jr_iret (ty := .int) rfl rfl dX12_hidden_59 k
    · have k := k.1 c46
      refine jr_aload_n 0 dX12_hidden_49 rfl rfl ?_
      refine jr_get jf_X12_51 dX12_hidden_50 mw_o rfl ?_
      refine jr_iload_n 3 dX12_hidden_53 rfl rfl ?_
      obtain ⟨e8, k⟩ := k
      refine jr_iald dX12_hidden_54 mw_13 e8 ?_
      refine jr_goto (tgt := 59) dX12_hidden_55 (by decide) ?_
      exact jr_iret (ty := .int) rfl rfl dX12_hidden_59 k
  · have k := k.1 c30
    refine jr_iconst (v := 0) dX12_hidden_33 (by decide) ?_
    exact jr_iret (ty := .int) rfl rfl dX12_hidden_34 k
set_option maxRecDepth 20000 in
theorem wX12_mostLike_0 {x1 : Int32} (k : J g mX12_mostLike (d + 1) hs P 4 [(0, .ref m), (1, .int x1), (2, .int 0), (3, .int 0)] [] (mw h m μ)) : J g mX12_mostLike (d + 1) hs P 0 [(0, .ref m), (1, .int x1)] [] (mw h m μ) := by
  refine jr_iconst (v := 0) dX12_mostLike_0 (by decide) ?_
  refine jr_istore_n (lv' := [(2, .int 0), (0, .ref m), (1, .int x1)]) dX12_mostLike_1 rfl (by decide) rfl ?_
  refine jr_iconst (v := 0) dX12_mostLike_2 (by decide) ?_
  refine jr_istore_n (lv' := [(3, .int 0), (2, .int 0), (0, .ref m), (1, .int x1)]) dX12_mostLike_3 rfl (by decide) rfl ?_
  exact jr_sub [2, 3, 1, 0] rfl k
set_option maxRecDepth 20000 in
theorem wX12_mostLike_4 {x1 : Int32} {x2 : Int32} {x3 : Int32} (k : (x3 < (μ.1 32) → J g mX12_mostLike (d + 1) hs P 18 [(0, .ref m), (1, .int x1), (2, .int x2), (3, .int x3), (4, .int 0), (5, .int 0)] [] (mw h m μ)) ∧ (¬ x3 < (μ.1 32) → P (.inl (some (.int x2))) (mw h m μ))) : J g mX12_mostLike (d + 1) hs P 4 [(0, .ref m), (1, .int x1), (2, .int x2), (3, .int x3)] [] (mw h m μ) := by
  refine jr_iload_n 3 dX12_mostLike_4 rfl rfl ?_
  refine jr_aload_n 0 dX12_mostLike_5 rfl rfl ?_
  refine jr_get jf_X12_475 dX12_mostLike_6 mw_o rfl ?_
  refine jr_icmp_ge (tgt := 82) dX12_mostLike_9 (by decide) (fun c9 => ?_) (fun c9 => ?_)
  · have k := k.2 c9
    refine jr_iload_n 2 dX12_mostLike_82 rfl rfl ?_
    exact jr_iret (ty := .int) rfl rfl dX12_mostLike_83 k
  · have k := k.1 c9
    refine jr_iconst (v := 0) dX12_mostLike_12 (by decide) ?_
    refine jr_istore (lv' := [(4, .int 0), (0, .ref m), (1, .int x1), (2, .int x2), (3, .int x3)]) dX12_mostLike_13 (by decide) rfl ?_
    refine jr_iconst (v := 0) dX12_mostLike_15 (by decide) ?_
    refine jr_istore (lv' := [(5, .int 0), (4, .int 0), (0, .ref m), (1, .int x1), (2, .int x2), (3, .int x3)]) dX12_mostLike_16 (by decide) rfl ?_
    exact jr_sub [2, 3, 4, 5, 1, 0] rfl k
set_option maxRecDepth 20000 in
theorem wX12_mostLike_18 {x1 : Int32} {x2 : Int32} {x3 : Int32} {x4 : Int32} {x5 : Int32} (k : (x5 < (μ.1 32) → vp_in (((7 * x5) + x1)) 4851 ∧ vp_in (((7 * x3) + x1)) 4851 ∧ ((μ.2.1 14 (ix (((7 * x5) + x1)))) = (μ.2.1 14 (ix (((7 * x3) + x1)))) → J g mX12_mostLike (d + 1) hs P 18 [(0, .ref m), (1, .int x1), (2, .int x2), (3, .int x3), (4, .int (x4 + 1)), (5, .int (x5 + 1))] [] (mw h m μ)) ∧ (¬ (μ.2.1 14 (ix (((7 * x5) + x1)))) = (μ.2.1 14 (ix (((7 * x3) + x1)))) → J g mX12_mostLike (d + 1) hs P 18 [(0, .ref m), (1, .int x1), (2, .int x2), (3, .int x3), (4, .int (x4 + 0)), (5, .int (x5 + 1))] [] (mw h m μ))) ∧ (¬ x5 < (μ.1 32) → J g mX12_mostLike (d + 1) hs P 4 [(0, .ref m), (1, .int x1), (2, .int (jmax x2 x4)), (3, .int (x3 + 1))] [] (mw h m μ))) : J g mX12_mostLike (d + 1) hs P 18 [(0, .ref m), (1, .int x1), (2, .int x2), (3, .int x3), (4, .int x4), (5, .int x5)] [] (mw h m μ) := by
  refine jr_iload 5 dX12_mostLike_18 rfl ?_
  refine jr_aload_n 0 dX12_mostLike_20 rfl rfl ?_
  refine jr_get jf_X12_475 dX12_mostLike_21 mw_o rfl ?_
  refine jr_icmp_ge (tgt := 69) dX12_mostLike_24 (by decide) (fun c24 => ?_) (fun c24 => ?_)
  · have k := k.2 c24
    refine jr_iload_n 2 dX12_mostLike_69 rfl rfl ?_
    refine jr_iload 4 dX12_mostLike_70 rfl ?_
    refine jr_mmax jl_X12_276 dX12_mostLike_72 (Nat.le_of_ble_eq_true rfl) ?_
    refine jr_istore_n (lv' := [(2, .int (jmax x2 x4)), (0, .ref m), (1, .int x1), (3, .int x3), (4, .int x4), (5, .int x5)]) dX12_mostLike_75 rfl (by decide) rfl ?_
    refine jr_iinc (v := (x3 + 1)) (lv' := [(3, .int (x3 + 1)), (2, .int (jmax x2 x4)), (0, .ref m), (1, .int x1), (4, .int x4), (5, .int x5)]) 3 dX12_mostLike_76 rfl rfl (by decide) rfl ?_
    refine jr_goto (tgt := 4) dX12_mostLike_79 (by decide) ?_
    exact jr_sub [2, 3, 1, 0] rfl k
  · have k := k.1 c24
    refine jr_iload 4 dX12_mostLike_27 rfl ?_
    refine jr_aload_n 0 dX12_mostLike_29 rfl rfl ?_
    refine jr_get jf_X12_54 dX12_mostLike_30 mw_o rfl ?_
    refine jr_bipush (v := 7) dX12_mostLike_33 (by decide) ?_
    refine jr_iload 5 dX12_mostLike_35 rfl ?_
    refine jr_imul dX12_mostLike_37 ?_
    refine jr_iload_n 1 dX12_mostLike_38 rfl rfl ?_
    refine jr_iadd dX12_mostLike_39 ?_
    obtain ⟨e1, k⟩ := k
    refine jr_iald dX12_mostLike_40 mw_14 e1 ?_
    refine jr_aload_n 0 dX12_mostLike_41 rfl rfl ?_
    refine jr_get jf_X12_54 dX12_mostLike_42 mw_o rfl ?_
    refine jr_bipush (v := 7) dX12_mostLike_45 (by decide) ?_
    refine jr_iload_n 3 dX12_mostLike_47 rfl rfl ?_
    refine jr_imul dX12_mostLike_48 ?_
    refine jr_iload_n 1 dX12_mostLike_49 rfl rfl ?_
    refine jr_iadd dX12_mostLike_50 ?_
    obtain ⟨e2, k⟩ := k
    refine jr_iald dX12_mostLike_51 mw_14 e2 ?_
    refine jr_icmp_ne (tgt := 59) dX12_mostLike_52 (by decide) (fun c52 => ?_) (fun c52 => ?_)
    · have k := k.2 c52
      refine jr_iconst (v := 0) dX12_mostLike_59 (by decide) ?_
      refine jr_iadd dX12_mostLike_60 ?_
      refine jr_istore (lv' := [(4, .int (x4 + 0)), (0, .ref m), (1, .int x1), (2, .int x2), (3, .int x3), (5, .int x5)]) dX12_mostLike_61 (by decide) rfl ?_
      refine jr_iinc (v := (x5 + 1)) (lv' := [(5, .int (x5 + 1)), (4, .int (x4 + 0)), (0, .ref m), (1, .int x1), (2, .int x2), (3, .int x3)]) 5 dX12_mostLike_63 rfl rfl (by decide) rfl ?_
      refine jr_goto (tgt := 18) dX12_mostLike_66 (by decide) ?_
      exact jr_sub [2, 3, 4, 5, 1, 0] rfl k
    · have k := k.1 c52
      refine jr_iconst (v := 1) dX12_mostLike_55 (by decide) ?_
      refine jr_goto (tgt := 60) dX12_mostLike_56 (by decide) ?_
      refine jr_iadd dX12_mostLike_60 ?_
      refine jr_istore (lv' := [(4, .int (x4 + 1)), (0, .ref m), (1, .int x1), (2, .int x2), (3, .int x3), (5, .int x5)]) dX12_mostLike_61 (by decide) rfl ?_
      refine jr_iinc (v := (x5 + 1)) (lv' := [(5, .int (x5 + 1)), (4, .int (x4 + 1)), (0, .ref m), (1, .int x1), (2, .int x2), (3, .int x3)]) 5 dX12_mostLike_63 rfl rfl (by decide) rfl ?_
      refine jr_goto (tgt := 18) dX12_mostLike_66 (by decide) ?_
      exact jr_sub [2, 3, 4, 5, 1, 0] rfl k
set_option maxRecDepth 20000 in
theorem wX12_look_0 {x1 : Int32} {x2 : Int32} (k : ∃ r1 : Int32, Con g mX12_seenFault d [.ref m, .int x1, .int x2] (mw h m μ) (jPi (fun r h' => r = r1 ∧ h' = (mw h m μ)) no2) ∧ (0 < (((mI μ 4 r1)).1 4) → P (.inl (some (.int 0))) (mw h m (mI μ 4 r1))) ∧ (¬ 0 < (((mI μ 4 r1)).1 4) → ∃ Q14 : MW → Prop, Con g mX12_laysFits d [.ref m, .int x1, .int x2] (mw h m (mI μ 4 r1)) (wPv h m Q14) ∧ ∀ μ13 : MW, Q14 μ13 → J g mX12_look (d + 1) hs P 35 [(0, .ref m), (3, .int (-1)), (4, .int 536870912), (5, .int 0)] [] (mw h m μ13))) : J g mX12_look (d + 1) hs P 0 [(0, .ref m), (1, .int x1), (2, .int x2)] [] (mw h m μ) := by
  refine jr_aload_n 0 dX12_look_0 rfl rfl ?_
  refine jr_aload_n 0 dX12_look_1 rfl rfl ?_
  refine jr_iload_n 1 dX12_look_2 rfl rfl ?_
  refine jr_iload_n 2 dX12_look_3 rfl rfl ?_
  obtain ⟨r1z, C5, k⟩ := k
  refine jr_cVi (As := [.int x1, .int x2]) jl_X12_481 km_X12_seenFault rfl rfl dX12_look_4 mw_o (Nat.le_of_ble_eq_true rfl) (C5.pi (fun _ _ q => q) (fun E h' f => f.elim)) (fun r1 h2 q3 => ?_)
  obtain ⟨q3, q4⟩ := q3
  subst q4
  subst q3
  refine jr_putE jp_X12_67 dX12_look_7 mw_o (Nat.le_of_ble_eq_true rfl) rfl rfl (fun h6 e7 => ?_)
  replace e7 := e7.trans (mw_pI 4 r1)
  subst e7
  refine jr_aload_n 0 dX12_look_10 rfl rfl ?_
  refine jr_get jf_X12_67 dX12_look_11 mw_o rfl ?_
  refine jr_if_le (tgt := 19) dX12_look_14 (by decide) (fun c14 => ?_) (fun c14 => ?_)
  · have k := k.2 c14
    refine jr_aload_n 0 dX12_look_19 rfl rfl ?_
    refine jr_iload_n 1 dX12_look_20 rfl rfl ?_
    refine jr_iload_n 2 dX12_look_21 rfl rfl ?_
    obtain ⟨Q14, C12, k⟩ := k
    refine jr_cVv (As := [.int x1, .int x2]) jl_X12_484 km_X12_laysFits rfl rfl dX12_look_22 mw_o (Nat.le_of_ble_eq_true rfl) (Con.pv C12 (fun _ q => q) (fun E h' f => f.elim)) (fun h9 q10 => ?_)
    obtain ⟨μ13, q10, q11⟩ := q10
    subst q11
    have k := k μ13 q10
    refine jr_iconst (v := (-1)) dX12_look_25 (by decide) ?_
    refine jr_istore_n (lv' := [(3, .int (-1)), (0, .ref m), (1, .int x1), (2, .int x2)]) dX12_look_26 rfl (by decide) rfl ?_
    refine jr_ldcw (v := 536870912) jk_X12_454 dX12_look_27 ?_
    refine jr_istore (lv' := [(4, .int 536870912), (3, .int (-1)), (0, .ref m), (1, .int x1), (2, .int x2)]) dX12_look_30 (by decide) rfl ?_
    refine jr_iconst (v := 0) dX12_look_32 (by decide) ?_
    refine jr_istore (lv' := [(5, .int 0), (4, .int 536870912), (3, .int (-1)), (0, .ref m), (1, .int x1), (2, .int x2)]) dX12_look_33 (by decide) rfl ?_
    exact jr_sub [3, 2, 1, 0] rfl k
  · have k := k.1 c14
    refine jr_iconst (v := 0) dX12_look_17 (by decide) ?_
    exact jr_iret (ty := .int) rfl rfl dX12_look_18 k
set_option maxRecDepth 20000 in
theorem wX12_look_35 {x3 : Int32} {x4 : Int32} {x5 : Int32} (k : ∃ r1 : Int32, Con g mX12_houses d [.ref m] (mw h m μ) (jPi (fun r h' => r = r1 ∧ h' = (mw h m μ)) no2) ∧ (x5 < r1 → (0 < (μ.1 32) → ∃ r6 : Int32, Con g mX12_mostLike d [.ref m, .int x5] (mw h m μ) (jPi (fun r h' => r = r6 ∧ h' = (mw h m μ)) no2) ∧ (r6 < x4 → J g mX12_look (d + 1) hs P 35 [(0, .ref m), (3, .int x5), (4, .int r6), (5, .int (x5 + 1))] [] (mw h m μ)) ∧ (¬ r6 < x4 → J g mX12_look (d + 1) hs P 35 [(0, .ref m), (3, .int x3), (4, .int x4), (5, .int (x5 + 1))] [] (mw h m μ))) ∧ (¬ 0 < (μ.1 32) → P (.inl (some (.int x3))) (mw h m μ))) ∧ (¬ x5 < r1 → P (.inl (some (.int x3))) (mw h m μ))) : J g mX12_look (d + 1) hs P 35 [(0, .ref m), (3, .int x3), (4, .int x4), (5, .int x5)] [] (mw h m μ) := by
  refine jr_iload 3 dX12_look_35 rfl ?_
  refine jr_aload_n 0 dX12_look_37 rfl rfl ?_
  obtain ⟨r1z, C5, k⟩ := k
  refine jr_cVi (As := []) jl_X12_249 km_X12_houses rfl rfl dX12_look_38 mw_o (Nat.le_of_ble_eq_true rfl) (C5.pi (fun _ _ q => q) (fun E h' f => f.elim)) (fun r1 h2 q3 => ?_)
  obtain ⟨q3, q4⟩ := q3
  subst q4
  subst q3
  refine jr_icmp_ge (tgt := 82) dX12_look_41 (by decide) (fun c41 => ?_) (fun c41 => ?_)
  · have k := k.2 c41
    refine jr_iload_n 1 dX12_look_82 rfl rfl ?_
    exact jr_iret (ty := .int) rfl rfl dX12_look_83 k
  · have k := k.1 c41
    refine jr_aload_n 0 dX12_look_44 rfl rfl ?_
    refine jr_get jf_X12_475 dX12_look_45 mw_o rfl ?_
    refine jr_if_le (tgt := 82) dX12_look_48 (by decide) (fun c48 => ?_) (fun c48 => ?_)
    · have k := k.2 c48
      refine jr_iload_n 1 dX12_look_82 rfl rfl ?_
      exact jr_iret (ty := .int) rfl rfl dX12_look_83 k
    · have k := k.1 c48
      refine jr_aload_n 0 dX12_look_51 rfl rfl ?_
      refine jr_iload 3 dX12_look_52 rfl ?_
      obtain ⟨r6z, C10, k⟩ := k
      refine jr_cVi (As := [.int x5]) jl_X12_487 km_X12_mostLike rfl rfl dX12_look_54 mw_o (Nat.le_of_ble_eq_true rfl) (C10.pi (fun _ _ q => q) (fun E h' f => f.elim)) (fun r6 h7 q8 => ?_)
      obtain ⟨q8, q9⟩ := q8
      subst q9
      subst q8
      refine jr_istore (lv' := [(6, .int r6), (0, .ref m), (3, .int x3), (4, .int x4), (5, .int x5)]) dX12_look_57 (by decide) rfl ?_
      refine jr_iload 0 dX12_look_59 rfl ?_
      refine jr_iload 3 dX12_look_61 rfl ?_
      refine jr_icmp_lt (tgt := 69) dX12_look_63 (by decide) (fun c63 => ?_) (fun c63 => ?_)
      · have k := k.1 c63
        refine jr_iload 4 dX12_look_69 rfl ?_
        refine jr_istore_n (lv' := [(3, .int x5), (6, .int r6), (0, .ref m), (4, .int x4), (5, .int x5)]) dX12_look_71 rfl (by decide) rfl ?_
        refine jr_iload 1 dX12_look_72 rfl ?_
        refine jr_istore (lv' := [(4, .int r6), (3, .int x5), (6, .int r6), (0, .ref m), (5, .int x5)]) dX12_look_74 (by decide) rfl ?_
        refine jr_iinc (v := (x5 + 1)) (lv' := [(5, .int (x5 + 1)), (4, .int r6), (3, .int x5), (6, .int r6), (0, .ref m)]) 4 dX12_look_76 rfl rfl (by decide) rfl ?_
        refine jr_goto (tgt := 35) dX12_look_79 (by decide) ?_
        exact jr_sub [4, 2, 1, 0] rfl k
      · have k := k.2 c63
        refine jr_goto (tgt := 76) dX12_look_66 (by decide) ?_
        refine jr_iinc (v := (x5 + 1)) (lv' := [(5, .int (x5 + 1)), (6, .int r6), (0, .ref m), (3, .int x3), (4, .int x4)]) 4 dX12_look_76 rfl rfl (by decide) rfl ?_
        refine jr_goto (tgt := 35) dX12_look_79 (by decide) ?_
        exact jr_sub [2, 3, 4, 0] rfl k
set_option maxRecDepth 20000 in
theorem wX12_isTray_0 {x0 : Int32} (k : ∃ r1 : Int32, Con g mX12_within d [.long x0.toInt64, .long 0, .long 3] (mw h m μ) (jPi (fun r h' => r = r1 ∧ h' = (mw h m μ)) no2) ∧ (r1 = 0 ∨ r1 = 1) ∧ P (.inl (some (.int r1))) (mw h m μ)) : J g mX12_isTray (d + 1) hs P 0 [(0, .int x0)] [] (mw h m μ) := by
  refine jr_iload_n 0 dX12_isTray_0 rfl rfl ?_
  refine jr_i2l dX12_isTray_1 ?_
  refine jr_lconst (v := 0) dX12_isTray_2 (by decide) ?_
  refine jr_ldc2 (v := 3) jk_X12_319 dX12_isTray_3 ?_
  obtain ⟨r1z, C5, k⟩ := k
  refine jr_cSi (As := [.long x0.toInt64, .long 0, .long 3]) jl_X12_128 km_X12_within rfl rfl dX12_isTray_6 (Nat.le_of_ble_eq_true rfl) (C5.pi (fun _ _ q => q) (fun E h' f => f.elim)) (fun r1 h2 q3 => ?_)
  obtain ⟨q3, q4⟩ := q3
  subst q4
  subst q3
  exact jr_iret (ty := .boolean) rfl (jz_n k.1) dX12_isTray_9 k.2
set_option maxRecDepth 20000 in
theorem wX12_tray_0 {x1 : Int32} {x2 : Int32} {x3 : Int32} (k : ∃ r1 : Int32, Con g mX12_isTray d [.int x1] (mw h m μ) (jPi (fun r h' => r = r1 ∧ h' = (mw h m μ)) no2) ∧ (r1 = 0 → J g mX12_tray (d + 1) hs P 41 [(0, .ref m), (1, .int x1), (2, .int x2), (3, .int x3)] [.int 1, .ref m] (mw h m μ)) ∧ (¬ r1 = 0 → ∃ r6 : Int32, Con g mX12_within d [.long x2.toInt64, .long 0, .long 3] (mw h m μ) (jPi (fun r h' => r = r6 ∧ h' = (mw h m μ)) no2) ∧ (r6 = 0 → J g mX12_tray (d + 1) hs P 36 [(0, .ref m), (1, .int x1), (2, .int x2), (3, .int x3)] [.ref m] (mw h m μ)) ∧ (¬ r6 = 0 → ∃ r11 : Int32, Con g mX12_within d [.long x3.toInt64, .long 0, .long 30] (mw h m μ) (jPi (fun r h' => r = r11 ∧ h' = (mw h m μ)) no2) ∧ (r11 = 0 → J g mX12_tray (d + 1) hs P 36 [(0, .ref m), (1, .int x1), (2, .int x2), (3, .int x3)] [.ref m] (mw h m μ)) ∧ (¬ r11 = 0 → J g mX12_tray (d + 1) hs P 41 [(0, .ref m), (1, .int x1), (2, .int x2), (3, .int x3)] [.int 0, .ref m] (mw h m μ))))) : J g mX12_tray (d + 1) hs P 0 [(0, .ref m), (1, .int x1), (2, .int x2), (3, .int x3)] [] (mw h m μ) := by
  refine jr_aload_n 0 dX12_tray_0 rfl rfl ?_
  refine jr_iload_n 1 dX12_tray_1 rfl rfl ?_
  obtain ⟨r1z, C5, k⟩ := k
  refine jr_cSi (As := [.int x1]) jl_X12_360 km_X12_isTray rfl rfl dX12_tray_2 (Nat.le_of_ble_eq_true rfl) (C5.pi (fun _ _ q => q) (fun E h' f => f.elim)) (fun r1 h2 q3 => ?_)
  obtain ⟨q3, q4⟩ := q3
  subst q4
  subst q3
  refine jr_if_ne (tgt := 12) dX12_tray_5 (by decide) (fun c5 => ?_) (fun c5 => ?_)
  · have k := k.2 c5
    refine jr_iload_n 2 dX12_tray_12 rfl rfl ?_
    refine jr_i2l dX12_tray_13 ?_
    refine jr_lconst (v := 0) dX12_tray_14 (by decide) ?_
    refine jr_ldc2 (v := 3) jk_X12_319 dX12_tray_15 ?_
    obtain ⟨r6z, C10, k⟩ := k
    refine jr_cSi (As := [.long x2.toInt64, .long 0, .long 3]) jl_X12_128 km_X12_within rfl rfl dX12_tray_18 (Nat.le_of_ble_eq_true rfl) (C10.pi (fun _ _ q => q) (fun E h' f => f.elim)) (fun r6 h7 q8 => ?_)
    obtain ⟨q8, q9⟩ := q8
    subst q9
    subst q8
    refine jr_if_eq (tgt := 36) dX12_tray_21 (by decide) (fun c21 => ?_) (fun c21 => ?_)
    · have k := k.1 c21
      exact jr_sub [0, 1, 2, 3] rfl k
    · have k := k.2 c21
      refine jr_iload_n 3 dX12_tray_24 rfl rfl ?_
      refine jr_i2l dX12_tray_25 ?_
      refine jr_lconst (v := 0) dX12_tray_26 (by decide) ?_
      refine jr_ldc2 (v := 30) jk_X12_399 dX12_tray_27 ?_
      obtain ⟨r11z, C15, k⟩ := k
      refine jr_cSi (As := [.long x3.toInt64, .long 0, .long 30]) jl_X12_128 km_X12_within rfl rfl dX12_tray_30 (Nat.le_of_ble_eq_true rfl) (C15.pi (fun _ _ q => q) (fun E h' f => f.elim)) (fun r11 h12 q13 => ?_)
      obtain ⟨q13, q14⟩ := q13
      subst q14
      subst q13
      refine jr_if_ne (tgt := 40) dX12_tray_33 (by decide) (fun c33 => ?_) (fun c33 => ?_)
      · have k := k.2 c33
        refine jr_iconst (v := 0) dX12_tray_40 (by decide) ?_
        exact jr_sub [0, 1, 2, 3] rfl k
      · have k := k.1 c33
        exact jr_sub [0, 1, 2, 3] rfl k
  · have k := k.1 c5
    refine jr_iconst (v := 1) dX12_tray_8 (by decide) ?_
    refine jr_goto (tgt := 41) dX12_tray_9 (by decide) ?_
    exact jr_sub [0, 1, 2, 3] rfl k
set_option maxRecDepth 20000 in
theorem wX12_tray_36 {x1 : Int32} {x2 : Int32} {x3 : Int32} (k : J g mX12_tray (d + 1) hs P 41 [(0, .ref m), (1, .int x1), (2, .int x2), (3, .int x3)] [.int 2, .ref m] (mw h m μ)) : J g mX12_tray (d + 1) hs P 36 [(0, .ref m), (1, .int x1), (2, .int x2), (3, .int x3)] [.ref m] (mw h m μ) := by
  refine jr_iconst (v := 2) dX12_tray_36 (by decide) ?_
  refine jr_goto (tgt := 41) dX12_tray_37 (by decide) ?_
  exact jr_sub [0, 1, 2, 3] rfl k
set_option maxRecDepth 20000 in
theorem wX12_tray_41 {x1 : Int32} {x2 : Int32} {x3 : Int32} {s1 : Int32} (k : (0 < (((mI μ 4 s1)).1 4) → P (.inl none) (mw h m (mI μ 4 s1))) ∧ (¬ 0 < (((mI μ 4 s1)).1 4) → vp_in x1 4 ∧ vp_in x1 4 ∧ J g mX12_tray (d + 1) hs P 69 [(0, .ref m), (1, .int x1), (4, .int 0)] [] (mw h m (mA ((mA ((mI μ 4 s1)) 15 (upd (((mI μ 4 s1)).2.1 15) (ix x1) x2))) 16 (upd (((mA ((mI μ 4 s1)) 15 (upd (((mI μ 4 s1)).2.1 15) (ix x1) x2))).2.1 16) (ix x1) x3))))) : J g mX12_tray (d + 1) hs P 41 [(0, .ref m), (1, .int x1), (2, .int x2), (3, .int x3)] [.int s1, .ref m] (mw h m μ) := by
  refine jr_putE jp_X12_67 dX12_tray_41 mw_o (Nat.le_of_ble_eq_true rfl) rfl rfl (fun h1 e2 => ?_)
  replace e2 := e2.trans (mw_pI 4 s1)
  subst e2
  refine jr_aload_n 0 dX12_tray_44 rfl rfl ?_
  refine jr_get jf_X12_67 dX12_tray_45 mw_o rfl ?_
  refine jr_if_le (tgt := 52) dX12_tray_48 (by decide) (fun c48 => ?_) (fun c48 => ?_)
  · have k := k.2 c48
    refine jr_aload_n 0 dX12_tray_52 rfl rfl ?_
    refine jr_get jf_X12_57 dX12_tray_53 mw_o rfl ?_
    refine jr_iload_n 1 dX12_tray_56 rfl rfl ?_
    refine jr_iload_n 2 dX12_tray_57 rfl rfl ?_
    obtain ⟨e5, k⟩ := k
    refine jr_iastE dX12_tray_58 mw_15 e5 (fun h3 e4 => ?_)
    replace e4 : h3 = mw h m (mA ((mI μ 4 s1)) 15 (upd (((mI μ 4 s1)).2.1 15) (ix x1) x2)) := e4.trans (mw_pA (by decide) (by decide) _)
    subst e4
    refine jr_aload_n 0 dX12_tray_59 rfl rfl ?_
    refine jr_get jf_X12_60 dX12_tray_60 mw_o rfl ?_
    refine jr_iload_n 1 dX12_tray_63 rfl rfl ?_
    refine jr_iload_n 3 dX12_tray_64 rfl rfl ?_
    obtain ⟨e8, k⟩ := k
    refine jr_iastE dX12_tray_65 mw_16 e8 (fun h6 e7 => ?_)
    replace e7 : h6 = mw h m (mA ((mA ((mI μ 4 s1)) 15 (upd (((mI μ 4 s1)).2.1 15) (ix x1) x2))) 16 (upd (((mA ((mI μ 4 s1)) 15 (upd (((mI μ 4 s1)).2.1 15) (ix x1) x2))).2.1 16) (ix x1) x3)) := e7.trans (mw_pA (by decide) (by decide) _)
    subst e7
    refine jr_iconst (v := 0) dX12_tray_66 (by decide) ?_
    refine jr_istore (lv' := [(4, .int 0), (0, .ref m), (1, .int x1), (2, .int x2), (3, .int x3)]) dX12_tray_67 (by decide) rfl ?_
    exact jr_sub [1, 2, 0] rfl k
  · have k := k.1 c48
    exact jr_vret rfl dX12_tray_51 k
set_option maxRecDepth 20000 in
theorem wX12_tray_69 {x1 : Int32} {x4 : Int32} (k : (x4 < 30 → vp_in (((30 * x1) + x4)) 120 ∧ J g mX12_tray (d + 1) hs P 69 [(0, .ref m), (1, .int x1), (4, .int (x4 + 1))] [] (mw h m (mN μ (vp_updL (μ.2.2) (ix (((30 * x1) + x4))) 0)))) ∧ (¬ x4 < 30 → P (.inl none) (mw h m μ))) : J g mX12_tray (d + 1) hs P 69 [(0, .ref m), (1, .int x1), (4, .int x4)] [] (mw h m μ) := by
  refine jr_iload 2 dX12_tray_69 rfl ?_
  refine jr_bipush (v := 30) dX12_tray_71 (by decide) ?_
  refine jr_icmp_ge (tgt := 95) dX12_tray_73 (by decide) (fun c73 => ?_) (fun c73 => ?_)
  · have k := k.2 c73
    exact jr_vret rfl dX12_tray_95 k
  · have k := k.1 c73
    refine jr_aload_n 0 dX12_tray_76 rfl rfl ?_
    refine jr_get jf_X12_63 dX12_tray_77 mw_o rfl ?_
    refine jr_bipush (v := 30) dX12_tray_80 (by decide) ?_
    refine jr_iload_n 1 dX12_tray_82 rfl rfl ?_
    refine jr_imul dX12_tray_83 ?_
    refine jr_iload 2 dX12_tray_84 rfl ?_
    refine jr_iadd dX12_tray_86 ?_
    refine jr_lconst (v := 0) dX12_tray_87 (by decide) ?_
    obtain ⟨e3, k⟩ := k
    refine jr_lastE dX12_tray_88 mw_17 e3 (fun h1 e2 => ?_)
    replace e2 : h1 = mw h m (mN μ (vp_updL (μ.2.2) (ix (((30 * x1) + x4))) 0)) := e2.trans (mw_pN _)
    subst e2
    refine jr_iinc (v := (x4 + 1)) (lv' := [(4, .int (x4 + 1)), (0, .ref m), (1, .int x1)]) 2 dX12_tray_89 rfl rfl (by decide) rfl ?_
    refine jr_goto (tgt := 69) dX12_tray_92 (by decide) ?_
    exact jr_sub [1, 2, 0] rfl k
set_option maxRecDepth 20000 in
theorem wX12_cut_0 {x1 : Int32} {x2 : Int32} {x3 : Int64} (k : vp_in x1 4 ∧ vp_in (((30 * x1) + x2)) 120 ∧ vp_in (((30 * x1) + x2)) 120 ∧ P (.inl (some (.long ((((mN μ (vp_updL (μ.2.2) (ix (((30 * x1) + x2))) (((((x3) <<< (((64 - ((8 : Int32) <<< ((μ.2.1 15 (ix x1)) &&& 31))) : Int32).toInt64 &&& 63))) >>> (((64 - ((8 : Int32) <<< ((μ.2.1 15 (ix x1)) &&& 31))) : Int32).toInt64 &&& 63)))))).2.2 (ix (((30 * x1) + x2)))))))) (mw h m (mN μ (vp_updL (μ.2.2) (ix (((30 * x1) + x2))) (((((x3) <<< (((64 - ((8 : Int32) <<< ((μ.2.1 15 (ix x1)) &&& 31))) : Int32).toInt64 &&& 63))) >>> (((64 - ((8 : Int32) <<< ((μ.2.1 15 (ix x1)) &&& 31))) : Int32).toInt64 &&& 63))))))) : J g mX12_cut (d + 1) hs P 0 [(0, .ref m), (1, .int x1), (2, .int x2), (3, .long x3)] [] (mw h m μ) := by
  refine jr_bipush (v := 64) dX12_cut_0 (by decide) ?_
  refine jr_bipush (v := 8) dX12_cut_2 (by decide) ?_
  refine jr_aload_n 0 dX12_cut_4 rfl rfl ?_
  refine jr_get jf_X12_57 dX12_cut_5 mw_o rfl ?_
  refine jr_iload_n 1 dX12_cut_8 rfl rfl ?_
  obtain ⟨e1, k⟩ := k
  refine jr_iald dX12_cut_9 mw_15 e1 ?_
  refine jr_ishl dX12_cut_10 ?_
  refine jr_isub dX12_cut_11 ?_
  refine jr_istore (lv' := [(5, .int (64 - ((8 : Int32) <<< ((μ.2.1 15 (ix x1)) &&& 31)))), (0, .ref m), (1, .int x1), (2, .int x2), (3, .long x3)]) dX12_cut_12 (by decide) rfl ?_
  refine jr_aload_n 1 dX12_cut_14 rfl rfl ?_
  refine jr_get jf_X12_63 dX12_cut_15 mw_o rfl ?_
  refine jr_bipush (v := 30) dX12_cut_18 (by decide) ?_
  refine jr_iload_n 2 dX12_cut_20 rfl rfl ?_
  refine jr_imul dX12_cut_21 ?_
  refine jr_iload_n 3 dX12_cut_22 rfl rfl ?_
  refine jr_iadd dX12_cut_23 ?_
  refine jr_lload_n 4 dX12_cut_24 rfl rfl ?_
  refine jr_iload 0 dX12_cut_25 rfl ?_
  refine jr_lshl dX12_cut_27 ?_
  refine jr_iload 0 dX12_cut_28 rfl ?_
  refine jr_lshr dX12_cut_30 ?_
  obtain ⟨e4, k⟩ := k
  refine jr_lastE dX12_cut_31 mw_17 e4 (fun h2 e3 => ?_)
  replace e3 : h2 = mw h m (mN μ (vp_updL (μ.2.2) (ix (((30 * x1) + x2))) (((((x3) <<< (((64 - ((8 : Int32) <<< ((μ.2.1 15 (ix x1)) &&& 31))) : Int32).toInt64 &&& 63))) >>> (((64 - ((8 : Int32) <<< ((μ.2.1 15 (ix x1)) &&& 31))) : Int32).toInt64 &&& 63))))) := e3.trans (mw_pN _)
  subst e3
  refine jr_aload_n 1 dX12_cut_32 rfl rfl ?_
  refine jr_get jf_X12_63 dX12_cut_33 mw_o rfl ?_
  refine jr_bipush (v := 30) dX12_cut_36 (by decide) ?_
  refine jr_iload_n 2 dX12_cut_38 rfl rfl ?_
  refine jr_imul dX12_cut_39 ?_
  refine jr_iload_n 3 dX12_cut_40 rfl rfl ?_
  refine jr_iadd dX12_cut_41 ?_
  obtain ⟨e5, k⟩ := k
  refine jr_lald dX12_cut_42 mw_17 e5 ?_
  exact jr_lret rfl dX12_cut_43 k
set_option maxRecDepth 20000 in
theorem wX12_write_0 {x1 : Int32} {x2 : Int32} {x3 : Int64} (k : ∃ r1 : Int32, Con g mX12_trayFault d [.ref m, .int x1] (mw h m μ) (jPi (fun r h' => r = r1 ∧ h' = (mw h m μ)) no2) ∧ (0 < (((mI μ 4 r1)).1 4) → P (.inl (some (.long 0))) (mw h m (mI μ 4 r1))) ∧ (¬ 0 < (((mI μ 4 r1)).1 4) → vp_in x1 4 ∧ ∃ r9 : Int32, Con g mX12_within d [.long x2.toInt64, .long 0, .long (((((mI μ 4 r1)).2.1 16 (ix x1)) - 1)).toInt64] (mw h m (mI μ 4 r1)) (jPi (fun r h' => r = r9 ∧ h' = (mw h m (mI μ 4 r1))) no2) ∧ (r9 = 0 → ∃ Q20 : Int32 → MW → Prop, Con g mX12_fails d [.ref m, .int 3] (mw h m (mI μ 4 r1)) (wPi h m Q20) ∧ ∀ (r14 : Int32) (μ19 : MW), Q20 r14 μ19 → P (.inl (some (.long r14.toInt64))) (mw h m μ19)) ∧ (¬ r9 = 0 → ∃ Q27 : Int64 → MW → Prop, Con g mX12_cut d [.ref m, .int x1, .int x2, .long x3] (mw h m (mI μ 4 r1)) (wPl h m Q27) ∧ ∀ (r21 : Int64) (μ26 : MW), Q27 r21 μ26 → P (.inl (some (.long r21))) (mw h m μ26)))) : J g mX12_write (d + 1) hs P 0 [(0, .ref m), (1, .int x1), (2, .int x2), (3, .long x3)] [] (mw h m μ) := by
  refine jr_aload_n 0 dX12_write_0 rfl rfl ?_
  refine jr_aload_n 0 dX12_write_1 rfl rfl ?_
  refine jr_iload_n 1 dX12_write_2 rfl rfl ?_
  obtain ⟨r1z, C5, k⟩ := k
  refine jr_cVi (As := [.int x1]) jl_X12_377 km_X12_trayFault rfl rfl dX12_write_3 mw_o (Nat.le_of_ble_eq_true rfl) (C5.pi (fun _ _ q => q) (fun E h' f => f.elim)) (fun r1 h2 q3 => ?_)
  obtain ⟨q3, q4⟩ := q3
  subst q4
  subst q3
  refine jr_putE jp_X12_67 dX12_write_6 mw_o (Nat.le_of_ble_eq_true rfl) rfl rfl (fun h6 e7 => ?_)
  replace e7 := e7.trans (mw_pI 4 r1)
  subst e7
  refine jr_aload_n 0 dX12_write_9 rfl rfl ?_
  refine jr_get jf_X12_67 dX12_write_10 mw_o rfl ?_
  refine jr_if_le (tgt := 18) dX12_write_13 (by decide) (fun c13 => ?_) (fun c13 => ?_)
  · have k := k.2 c13
    refine jr_iload_n 2 dX12_write_18 rfl rfl ?_
    refine jr_i2l dX12_write_19 ?_
    refine jr_lconst (v := 0) dX12_write_20 (by decide) ?_
    refine jr_aload_n 0 dX12_write_21 rfl rfl ?_
    refine jr_get jf_X12_60 dX12_write_22 mw_o rfl ?_
    refine jr_iload_n 1 dX12_write_25 rfl rfl ?_
    obtain ⟨e8, k⟩ := k
    refine jr_iald dX12_write_26 mw_16 e8 ?_
    refine jr_iconst (v := 1) dX12_write_27 (by decide) ?_
    refine jr_isub dX12_write_28 ?_
    refine jr_i2l dX12_write_29 ?_
    obtain ⟨r9z, C13, k⟩ := k
    refine jr_cSi (As := [.long x2.toInt64, .long 0, .long (((((mI μ 4 r1)).2.1 16 (ix x1)) - 1)).toInt64]) jl_X12_128 km_X12_within rfl rfl dX12_write_30 (Nat.le_of_ble_eq_true rfl) (C13.pi (fun _ _ q => q) (fun E h' f => f.elim)) (fun r9 h10 q11 => ?_)
    obtain ⟨q11, q12⟩ := q11
    subst q12
    subst q11
    refine jr_if_eq (tgt := 46) dX12_write_33 (by decide) (fun c33 => ?_) (fun c33 => ?_)
    · have k := k.1 c33
      refine jr_aload_n 0 dX12_write_46 rfl rfl ?_
      refine jr_iconst (v := 3) dX12_write_47 (by decide) ?_
      obtain ⟨Q20, C18, k⟩ := k
      refine jr_cVi (As := [.int 3]) jl_X12_234 km_X12_fails rfl rfl dX12_write_48 mw_o (Nat.le_of_ble_eq_true rfl) (Con.pi C18 (fun _ _ q => q) (fun E h' f => f.elim)) (fun r14 h15 q16 => ?_)
      obtain ⟨μ19, q16, q17⟩ := q16
      subst q17
      have k := k r14 μ19 q16
      refine jr_i2l dX12_write_51 ?_
      exact jr_lret rfl dX12_write_52 k
    · have k := k.2 c33
      refine jr_aload_n 0 dX12_write_36 rfl rfl ?_
      refine jr_iload_n 1 dX12_write_37 rfl rfl ?_
      refine jr_iload_n 2 dX12_write_38 rfl rfl ?_
      refine jr_lload_n 3 dX12_write_39 rfl rfl ?_
      obtain ⟨Q27, C25, k⟩ := k
      refine jr_cVl (As := [.int x1, .int x2, .long x3]) jl_X12_490 km_X12_cut rfl rfl dX12_write_40 mw_o (Nat.le_of_ble_eq_true rfl) (Con.pl C25 (fun _ _ q => q) (fun E h' f => f.elim)) (fun r21 h22 q23 => ?_)
      obtain ⟨μ26, q23, q24⟩ := q23
      subst q24
      have k := k r21 μ26 q23
      refine jr_goto (tgt := 52) dX12_write_43 (by decide) ?_
      exact jr_lret rfl dX12_write_52 k
  · have k := k.1 c13
    refine jr_lconst (v := 0) dX12_write_16 (by decide) ?_
    exact jr_lret rfl dX12_write_17 k
set_option maxRecDepth 20000 in
theorem wX12_copy_0 {x1 : Int32} {x2 : Int32} (k : ∃ r1 : Int32, Con g mX12_isTray d [.int x1] (mw h m μ) (jPi (fun r h' => r = r1 ∧ h' = (mw h m μ)) no2) ∧ (r1 = 0 → J g mX12_copy (d + 1) hs P 17 [(0, .ref m), (1, .int x1), (2, .int x2)] [.ref m] (mw h m μ)) ∧ (¬ r1 = 0 → ∃ r6 : Int32, Con g mX12_isHouse d [.ref m, .long x2.toInt64] (mw h m μ) (jPi (fun r h' => r = r6 ∧ h' = (mw h m μ)) no2) ∧ (r6 = 0 → J g mX12_copy (d + 1) hs P 17 [(0, .ref m), (1, .int x1), (2, .int x2)] [.ref m] (mw h m μ)) ∧ (¬ r6 = 0 → vp_in x1 4 ∧ ((μ.2.1 15 (ix x1)) = (-1) → J g mX12_copy (d + 1) hs P 36 [(0, .ref m), (1, .int x1), (2, .int x2)] [.int 2, .ref m] (mw h m μ)) ∧ (¬ (μ.2.1 15 (ix x1)) = (-1) → J g mX12_copy (d + 1) hs P 36 [(0, .ref m), (1, .int x1), (2, .int x2)] [.int 0, .ref m] (mw h m μ))))) : J g mX12_copy (d + 1) hs P 0 [(0, .ref m), (1, .int x1), (2, .int x2)] [] (mw h m μ) := by
  refine jr_aload_n 0 dX12_copy_0 rfl rfl ?_
  refine jr_iload_n 1 dX12_copy_1 rfl rfl ?_
  obtain ⟨r1z, C5, k⟩ := k
  refine jr_cSi (As := [.int x1]) jl_X12_360 km_X12_isTray rfl rfl dX12_copy_2 (Nat.le_of_ble_eq_true rfl) (C5.pi (fun _ _ q => q) (fun E h' f => f.elim)) (fun r1 h2 q3 => ?_)
  obtain ⟨q3, q4⟩ := q3
  subst q4
  subst q3
  refine jr_if_eq (tgt := 17) dX12_copy_5 (by decide) (fun c5 => ?_) (fun c5 => ?_)
  · have k := k.1 c5
    exact jr_sub [0, 1, 2] rfl k
  · have k := k.2 c5
    refine jr_aload_n 0 dX12_copy_8 rfl rfl ?_
    refine jr_iload_n 2 dX12_copy_9 rfl rfl ?_
    refine jr_i2l dX12_copy_10 ?_
    obtain ⟨r6z, C10, k⟩ := k
    refine jr_cVi (As := [.long x2.toInt64]) jl_X12_313 km_X12_isHouse rfl rfl dX12_copy_11 mw_o (Nat.le_of_ble_eq_true rfl) (C10.pi (fun _ _ q => q) (fun E h' f => f.elim)) (fun r6 h7 q8 => ?_)
    obtain ⟨q8, q9⟩ := q8
    subst q9
    subst q8
    refine jr_if_ne (tgt := 21) dX12_copy_14 (by decide) (fun c14 => ?_) (fun c14 => ?_)
    · have k := k.2 c14
      refine jr_aload_n 0 dX12_copy_21 rfl rfl ?_
      refine jr_get jf_X12_57 dX12_copy_22 mw_o rfl ?_
      refine jr_iload_n 1 dX12_copy_25 rfl rfl ?_
      obtain ⟨e11, k⟩ := k
      refine jr_iald dX12_copy_26 mw_15 e11 ?_
      refine jr_iconst (v := (-1)) dX12_copy_27 (by decide) ?_
      refine jr_icmp_ne (tgt := 35) dX12_copy_28 (by decide) (fun c28 => ?_) (fun c28 => ?_)
      · have k := k.2 c28
        refine jr_iconst (v := 0) dX12_copy_35 (by decide) ?_
        exact jr_sub [0, 1, 2] rfl k
      · have k := k.1 c28
        refine jr_iconst (v := 2) dX12_copy_31 (by decide) ?_
        refine jr_goto (tgt := 36) dX12_copy_32 (by decide) ?_
        exact jr_sub [0, 1, 2] rfl k
    · have k := k.1 c14
      exact jr_sub [0, 1, 2] rfl k
set_option maxRecDepth 20000 in
theorem wX12_copy_17 {x1 : Int32} {x2 : Int32} (k : J g mX12_copy (d + 1) hs P 36 [(0, .ref m), (1, .int x1), (2, .int x2)] [.int 1, .ref m] (mw h m μ)) : J g mX12_copy (d + 1) hs P 17 [(0, .ref m), (1, .int x1), (2, .int x2)] [.ref m] (mw h m μ) := by
  refine jr_iconst (v := 1) dX12_copy_17 (by decide) ?_
  refine jr_goto (tgt := 36) dX12_copy_18 (by decide) ?_
  exact jr_sub [0, 1, 2] rfl k
set_option maxRecDepth 20000 in
theorem wX12_copy_36 {x1 : Int32} {x2 : Int32} {s1 : Int32} (k : (0 < (((mI μ 4 s1)).1 4) → P (.inl (some (.int 0))) (mw h m (mI μ 4 s1))) ∧ (¬ 0 < (((mI μ 4 s1)).1 4) → ∃ Q9 : MW → Prop, Con g mX12_putsAside d [.ref m] (mw h m (mI μ 4 s1)) (wPv h m Q9) ∧ ∀ μ8 : MW, Q9 μ8 → J g mX12_copy (d + 1) hs P 54 [(0, .ref m), (1, .int x1), (2, .int x2), (3, .int 0)] [] (mw h m μ8))) : J g mX12_copy (d + 1) hs P 36 [(0, .ref m), (1, .int x1), (2, .int x2)] [.int s1, .ref m] (mw h m μ) := by
  refine jr_putE jp_X12_67 dX12_copy_36 mw_o (Nat.le_of_ble_eq_true rfl) rfl rfl (fun h1 e2 => ?_)
  replace e2 := e2.trans (mw_pI 4 s1)
  subst e2
  refine jr_aload_n 0 dX12_copy_39 rfl rfl ?_
  refine jr_get jf_X12_67 dX12_copy_40 mw_o rfl ?_
  refine jr_if_le (tgt := 48) dX12_copy_43 (by decide) (fun c43 => ?_) (fun c43 => ?_)
  · have k := k.2 c43
    refine jr_aload_n 0 dX12_copy_48 rfl rfl ?_
    obtain ⟨Q9, C7, k⟩ := k
    refine jr_cVv (As := []) jl_X12_380 km_X12_putsAside rfl rfl dX12_copy_49 mw_o (Nat.le_of_ble_eq_true rfl) (Con.pv C7 (fun _ q => q) (fun E h' f => f.elim)) (fun h4 q5 => ?_)
    obtain ⟨μ8, q5, q6⟩ := q5
    subst q6
    have k := k μ8 q5
    refine jr_iconst (v := 0) dX12_copy_52 (by decide) ?_
    refine jr_istore_n (lv' := [(3, .int 0), (0, .ref m), (1, .int x1), (2, .int x2)]) dX12_copy_53 rfl (by decide) rfl ?_
    exact jr_sub [1, 2, 3, 0] rfl k
  · have k := k.1 c43
    refine jr_iconst (v := 0) dX12_copy_46 (by decide) ?_
    exact jr_iret (ty := .int) rfl rfl dX12_copy_47 k
set_option maxRecDepth 20000 in
theorem wX12_copy_54 {x1 : Int32} {x2 : Int32} {x3 : Int32} (k : vp_in x1 4 ∧ (x3 < (μ.2.1 16 (ix x1)) → ∃ Q16 : MW → Prop, Con g mX12_quarter d [.ref m] (mw h m μ) (wPv h m Q16) ∧ ∀ μ15 : MW, Q16 μ15 → vp_in x2 7 ∧ ∃ Q24 : Int64 → MW → Prop, Con g mX12_cut d [.ref m, .int x1, .int x3, .long ((μ15.2.1 8 (ix x2))).toInt64] (mw h m μ15) (wPl h m Q24) ∧ ∀ (r18 : Int64) (μ23 : MW), Q24 r18 μ23 → J g mX12_copy (d + 1) hs P 54 [(0, .ref m), (1, .int x1), (2, .int x2), (3, .int (x3 + 1))] [] (mw h m μ23)) ∧ (¬ x3 < (μ.2.1 16 (ix x1)) → ∃ Q8 : MW → Prop, Con g mX12_putsBack d [.ref m] (mw h m μ) (wPv h m Q8) ∧ ∀ μ7 : MW, Q8 μ7 → vp_in x1 4 ∧ P (.inl (some (.int ((μ7.2.1 16 (ix x1)))))) (mw h m μ7))) : J g mX12_copy (d + 1) hs P 54 [(0, .ref m), (1, .int x1), (2, .int x2), (3, .int x3)] [] (mw h m μ) := by
  refine jr_iload_n 3 dX12_copy_54 rfl rfl ?_
  refine jr_aload_n 0 dX12_copy_55 rfl rfl ?_
  refine jr_get jf_X12_60 dX12_copy_56 mw_o rfl ?_
  refine jr_iload_n 1 dX12_copy_59 rfl rfl ?_
  obtain ⟨e1, k⟩ := k
  refine jr_iald dX12_copy_60 mw_16 e1 ?_
  refine jr_icmp_ge (tgt := 88) dX12_copy_61 (by decide) (fun c61 => ?_) (fun c61 => ?_)
  · have k := k.2 c61
    refine jr_aload_n 0 dX12_copy_88 rfl rfl ?_
    obtain ⟨Q8, C6, k⟩ := k
    refine jr_cVv (As := []) jl_X12_392 km_X12_putsBack rfl rfl dX12_copy_89 mw_o (Nat.le_of_ble_eq_true rfl) (Con.pv C6 (fun _ q => q) (fun E h' f => f.elim)) (fun h3 q4 => ?_)
    obtain ⟨μ7, q4, q5⟩ := q4
    subst q5
    have k := k μ7 q4
    refine jr_aload_n 0 dX12_copy_92 rfl rfl ?_
    refine jr_get jf_X12_60 dX12_copy_93 mw_o rfl ?_
    refine jr_iload_n 1 dX12_copy_96 rfl rfl ?_
    obtain ⟨e9, k⟩ := k
    refine jr_iald dX12_copy_97 mw_16 e9 ?_
    exact jr_iret (ty := .int) rfl rfl dX12_copy_98 k
  · have k := k.1 c61
    refine jr_aload_n 0 dX12_copy_64 rfl rfl ?_
    obtain ⟨Q16, C14, k⟩ := k
    refine jr_cVv (As := []) jl_X12_356 km_X12_quarter rfl rfl dX12_copy_65 mw_o (Nat.le_of_ble_eq_true rfl) (Con.pv C14 (fun _ q => q) (fun E h' f => f.elim)) (fun h11 q12 => ?_)
    obtain ⟨μ15, q12, q13⟩ := q12
    subst q13
    have k := k μ15 q12
    refine jr_aload_n 0 dX12_copy_68 rfl rfl ?_
    refine jr_iload_n 1 dX12_copy_69 rfl rfl ?_
    refine jr_iload_n 3 dX12_copy_70 rfl rfl ?_
    refine jr_aload_n 0 dX12_copy_71 rfl rfl ?_
    refine jr_get jf_X12_36 dX12_copy_72 mw_o rfl ?_
    refine jr_iload_n 2 dX12_copy_75 rfl rfl ?_
    obtain ⟨e17, k⟩ := k
    refine jr_iald dX12_copy_76 mw_8 e17 ?_
    refine jr_i2l dX12_copy_77 ?_
    obtain ⟨Q24, C22, k⟩ := k
    refine jr_cVl (As := [.int x1, .int x3, .long ((μ15.2.1 8 (ix x2))).toInt64]) jl_X12_490 km_X12_cut rfl rfl dX12_copy_78 mw_o (Nat.le_of_ble_eq_true rfl) (Con.pl C22 (fun _ _ q => q) (fun E h' f => f.elim)) (fun r18 h19 q20 => ?_)
    obtain ⟨μ23, q20, q21⟩ := q20
    subst q21
    have k := k r18 μ23 q20
    refine jr_pop2 dX12_copy_81 rfl ?_
    refine jr_iinc (v := (x3 + 1)) (lv' := [(3, .int (x3 + 1)), (0, .ref m), (1, .int x1), (2, .int x2)]) 3 dX12_copy_82 rfl rfl (by decide) rfl ?_
    refine jr_goto (tgt := 54) dX12_copy_85 (by decide) ?_
    exact jr_sub [1, 2, 3, 0] rfl k
set_option maxRecDepth 20000 in
theorem wX12_image_0 {x1 : Int32} (k : ∃ r1 : Int32, Con g mX12_within d [.long x1.toInt64, .long 0, .long 2] (mw h m μ) (jPi (fun r h' => r = r1 ∧ h' = (mw h m μ)) no2) ∧ (r1 = 0 → J g mX12_image (d + 1) hs P 18 [(0, .ref m), (1, .int x1)] [.int 1, .ref m] (mw h m μ)) ∧ (¬ r1 = 0 → J g mX12_image (d + 1) hs P 18 [(0, .ref m), (1, .int x1)] [.int 0, .ref m] (mw h m μ))) : J g mX12_image (d + 1) hs P 0 [(0, .ref m), (1, .int x1)] [] (mw h m μ) := by
  refine jr_aload_n 0 dX12_image_0 rfl rfl ?_
  refine jr_iload_n 1 dX12_image_1 rfl rfl ?_
  refine jr_i2l dX12_image_2 ?_
  refine jr_lconst (v := 0) dX12_image_3 (by decide) ?_
  refine jr_ldc2 (v := 2) jk_X12_317 dX12_image_4 ?_
  obtain ⟨r1z, C5, k⟩ := k
  refine jr_cSi (As := [.long x1.toInt64, .long 0, .long 2]) jl_X12_128 km_X12_within rfl rfl dX12_image_7 (Nat.le_of_ble_eq_true rfl) (C5.pi (fun _ _ q => q) (fun E h' f => f.elim)) (fun r1 h2 q3 => ?_)
  obtain ⟨q3, q4⟩ := q3
  subst q4
  subst q3
  refine jr_if_eq (tgt := 17) dX12_image_10 (by decide) (fun c10 => ?_) (fun c10 => ?_)
  · have k := k.1 c10
    refine jr_iconst (v := 1) dX12_image_17 (by decide) ?_
    exact jr_sub [0, 1] rfl k
  · have k := k.2 c10
    refine jr_iconst (v := 0) dX12_image_13 (by decide) ?_
    refine jr_goto (tgt := 18) dX12_image_14 (by decide) ?_
    exact jr_sub [0, 1] rfl k
set_option maxRecDepth 20000 in
theorem wX12_image_18 {x1 : Int32} {s1 : Int32} (k : (0 < (((mI μ 4 s1)).1 4) → P (.inl none) (mw h m (mI μ 4 s1))) ∧ (¬ 0 < (((mI μ 4 s1)).1 4) → vp_in x1 3 ∧ J g mX12_image (d + 1) hs P 38 [(0, .ref m), (1, .int x1), (2, .int 0)] [] (mw h m (mA ((mI μ 4 s1)) 4 (upd (((mI μ 4 s1)).2.1 4) (ix x1) (vp_nar .boolean 1)))))) : J g mX12_image (d + 1) hs P 18 [(0, .ref m), (1, .int x1)] [.int s1, .ref m] (mw h m μ) := by
  refine jr_putE jp_X12_67 dX12_image_18 mw_o (Nat.le_of_ble_eq_true rfl) rfl rfl (fun h1 e2 => ?_)
  replace e2 := e2.trans (mw_pI 4 s1)
  subst e2
  refine jr_aload_n 0 dX12_image_21 rfl rfl ?_
  refine jr_get jf_X12_67 dX12_image_22 mw_o rfl ?_
  refine jr_if_le (tgt := 29) dX12_image_25 (by decide) (fun c25 => ?_) (fun c25 => ?_)
  · have k := k.2 c25
    refine jr_aload_n 0 dX12_image_29 rfl rfl ?_
    refine jr_get jf_X12_19 dX12_image_30 mw_o rfl ?_
    refine jr_iload_n 1 dX12_image_33 rfl rfl ?_
    refine jr_iconst (v := 1) dX12_image_34 (by decide) ?_
    obtain ⟨e5, k⟩ := k
    refine jr_zastE dX12_image_35 mw_4 e5 (fun h3 e4 => ?_)
    replace e4 : h3 = mw h m (mA ((mI μ 4 s1)) 4 (upd (((mI μ 4 s1)).2.1 4) (ix x1) (vp_nar .boolean 1))) := e4.trans (mw_pA (by decide) (by decide) _)
    subst e4
    refine jr_iconst (v := 0) dX12_image_36 (by decide) ?_
    refine jr_istore_n (lv' := [(2, .int 0), (0, .ref m), (1, .int x1)]) dX12_image_37 rfl (by decide) rfl ?_
    exact jr_sub [1, 2, 0] rfl k
  · have k := k.1 c25
    exact jr_vret rfl dX12_image_28 k
set_option maxRecDepth 20000 in
theorem wX12_image_38 {x1 : Int32} {x2 : Int32} (k : (x2 < 3240 → vp_in x2 3240 ∧ vp_in (((3240 * x1) + x2)) 9720 ∧ J g mX12_image (d + 1) hs P 38 [(0, .ref m), (1, .int x1), (2, .int (x2 + 1))] [] (mw h m (mA μ 3 (upd (μ.2.1 3) (ix (((3240 * x1) + x2))) ((kn μ (ix x2))))))) ∧ (¬ x2 < 3240 → P (.inl none) (mw h m μ))) : J g mX12_image (d + 1) hs P 38 [(0, .ref m), (1, .int x1), (2, .int x2)] [] (mw h m μ) := by
  refine jr_iload_n 2 dX12_image_38 rfl rfl ?_
  refine jr_sipush (v := 3240) dX12_image_39 (by decide) ?_
  refine jr_icmp_ge (tgt := 69) dX12_image_42 (by decide) (fun c42 => ?_) (fun c42 => ?_)
  · have k := k.2 c42
    exact jr_vret rfl dX12_image_69 k
  · have k := k.1 c42
    refine jr_aload_n 0 dX12_image_45 rfl rfl ?_
    refine jr_get jf_X12_16 dX12_image_46 mw_o rfl ?_
    refine jr_sipush (v := 3240) dX12_image_49 (by decide) ?_
    refine jr_iload_n 1 dX12_image_52 rfl rfl ?_
    refine jr_imul dX12_image_53 ?_
    refine jr_iload_n 2 dX12_image_54 rfl rfl ?_
    refine jr_iadd dX12_image_55 ?_
    refine jr_aload_n 0 dX12_image_56 rfl rfl ?_
    refine jr_get jf_X12_9 dX12_image_57 mw_o rfl ?_
    refine jr_iload_n 2 dX12_image_60 rfl rfl ?_
    obtain ⟨e1, k⟩ := k
    refine jr_iald dX12_image_61 mw_1 e1 ?_
    obtain ⟨e4, k⟩ := k
    refine jr_iastE dX12_image_62 mw_3 e4 (fun h2 e3 => ?_)
    replace e3 : h2 = mw h m (mA μ 3 (upd (μ.2.1 3) (ix (((3240 * x1) + x2))) ((kn μ (ix x2))))) := e3.trans (mw_pA (by decide) (by decide) _)
    subst e3
    refine jr_iinc (v := (x2 + 1)) (lv' := [(2, .int (x2 + 1)), (0, .ref m), (1, .int x1)]) 2 dX12_image_63 rfl rfl (by decide) rfl ?_
    refine jr_goto (tgt := 38) dX12_image_66 (by decide) ?_
    exact jr_sub [1, 2, 0] rfl k
set_option maxRecDepth 20000 in
theorem wX12_restore_0 {x1 : Int32} (k : ∃ r1 : Int32, Con g mX12_within d [.long x1.toInt64, .long 0, .long 2] (mw h m μ) (jPi (fun r h' => r = r1 ∧ h' = (mw h m μ)) no2) ∧ (r1 = 0 → J g mX12_restore (d + 1) hs P 31 [(0, .ref m), (1, .int x1)] [.int 1, .ref m] (mw h m μ)) ∧ (¬ r1 = 0 → vp_in x1 3 ∧ ((μ.2.1 4 (ix x1)) = 0 → J g mX12_restore (d + 1) hs P 31 [(0, .ref m), (1, .int x1)] [.int 2, .ref m] (mw h m μ)) ∧ (¬ (μ.2.1 4 (ix x1)) = 0 → J g mX12_restore (d + 1) hs P 31 [(0, .ref m), (1, .int x1)] [.int 0, .ref m] (mw h m μ)))) : J g mX12_restore (d + 1) hs P 0 [(0, .ref m), (1, .int x1)] [] (mw h m μ) := by
  refine jr_aload_n 0 dX12_restore_0 rfl rfl ?_
  refine jr_iload_n 1 dX12_restore_1 rfl rfl ?_
  refine jr_i2l dX12_restore_2 ?_
  refine jr_lconst (v := 0) dX12_restore_3 (by decide) ?_
  refine jr_ldc2 (v := 2) jk_X12_317 dX12_restore_4 ?_
  obtain ⟨r1z, C5, k⟩ := k
  refine jr_cSi (As := [.long x1.toInt64, .long 0, .long 2]) jl_X12_128 km_X12_within rfl rfl dX12_restore_7 (Nat.le_of_ble_eq_true rfl) (C5.pi (fun _ _ q => q) (fun E h' f => f.elim)) (fun r1 h2 q3 => ?_)
  obtain ⟨q3, q4⟩ := q3
  subst q4
  subst q3
  refine jr_if_ne (tgt := 17) dX12_restore_10 (by decide) (fun c10 => ?_) (fun c10 => ?_)
  · have k := k.2 c10
    refine jr_aload_n 0 dX12_restore_17 rfl rfl ?_
    refine jr_get jf_X12_19 dX12_restore_18 mw_o rfl ?_
    refine jr_iload_n 1 dX12_restore_21 rfl rfl ?_
    obtain ⟨e6, k⟩ := k
    refine jr_zald dX12_restore_22 mw_4 e6 ?_
    refine jr_if_ne (tgt := 30) dX12_restore_23 (by decide) (fun c23 => ?_) (fun c23 => ?_)
    · have k := k.2 c23
      refine jr_iconst (v := 0) dX12_restore_30 (by decide) ?_
      exact jr_sub [0, 1] rfl k
    · have k := k.1 c23
      refine jr_iconst (v := 2) dX12_restore_26 (by decide) ?_
      refine jr_goto (tgt := 31) dX12_restore_27 (by decide) ?_
      exact jr_sub [0, 1] rfl k
  · have k := k.1 c10
    refine jr_iconst (v := 1) dX12_restore_13 (by decide) ?_
    refine jr_goto (tgt := 31) dX12_restore_14 (by decide) ?_
    exact jr_sub [0, 1] rfl k
set_option maxRecDepth 20000 in
theorem wX12_restore_31 {x1 : Int32} {s1 : Int32} (k : (0 < (((mI μ 4 s1)).1 4) → P (.inl none) (mw h m (mI μ 4 s1))) ∧ (¬ 0 < (((mI μ 4 s1)).1 4) → J g mX12_restore (d + 1) hs P 44 [(0, .ref m), (1, .int x1), (2, .int 0)] [] (mw h m (mI μ 4 s1)))) : J g mX12_restore (d + 1) hs P 31 [(0, .ref m), (1, .int x1)] [.int s1, .ref m] (mw h m μ) := by
  refine jr_putE jp_X12_67 dX12_restore_31 mw_o (Nat.le_of_ble_eq_true rfl) rfl rfl (fun h1 e2 => ?_)
  replace e2 := e2.trans (mw_pI 4 s1)
  subst e2
  refine jr_aload_n 0 dX12_restore_34 rfl rfl ?_
  refine jr_get jf_X12_67 dX12_restore_35 mw_o rfl ?_
  refine jr_if_le (tgt := 42) dX12_restore_38 (by decide) (fun c38 => ?_) (fun c38 => ?_)
  · have k := k.2 c38
    refine jr_iconst (v := 0) dX12_restore_42 (by decide) ?_
    refine jr_istore_n (lv' := [(2, .int 0), (0, .ref m), (1, .int x1)]) dX12_restore_43 rfl (by decide) rfl ?_
    exact jr_sub [1, 2, 0] rfl k
  · have k := k.1 c38
    exact jr_vret rfl dX12_restore_41 k
set_option maxRecDepth 20000 in
theorem wX12_restore_44 {x1 : Int32} {x2 : Int32} (k : (x2 < 3240 → vp_in (((3240 * x1) + x2)) 9720 ∧ vp_in x2 3240 ∧ J g mX12_restore (d + 1) hs P 44 [(0, .ref m), (1, .int x1), (2, .int (x2 + 1))] [] (mw h m (mA μ 1 (upd (kn μ) (ix x2) ((μ.2.1 3 (ix (((3240 * x1) + x2))))))))) ∧ (¬ x2 < 3240 → P (.inl none) (mw h m μ))) : J g mX12_restore (d + 1) hs P 44 [(0, .ref m), (1, .int x1), (2, .int x2)] [] (mw h m μ) := by
  refine jr_iload_n 2 dX12_restore_44 rfl rfl ?_
  refine jr_sipush (v := 3240) dX12_restore_45 (by decide) ?_
  refine jr_icmp_ge (tgt := 75) dX12_restore_48 (by decide) (fun c48 => ?_) (fun c48 => ?_)
  · have k := k.2 c48
    exact jr_vret rfl dX12_restore_75 k
  · have k := k.1 c48
    refine jr_aload_n 0 dX12_restore_51 rfl rfl ?_
    refine jr_get jf_X12_9 dX12_restore_52 mw_o rfl ?_
    refine jr_iload_n 2 dX12_restore_55 rfl rfl ?_
    refine jr_aload_n 0 dX12_restore_56 rfl rfl ?_
    refine jr_get jf_X12_16 dX12_restore_57 mw_o rfl ?_
    refine jr_sipush (v := 3240) dX12_restore_60 (by decide) ?_
    refine jr_iload_n 1 dX12_restore_63 rfl rfl ?_
    refine jr_imul dX12_restore_64 ?_
    refine jr_iload_n 2 dX12_restore_65 rfl rfl ?_
    refine jr_iadd dX12_restore_66 ?_
    obtain ⟨e1, k⟩ := k
    refine jr_iald dX12_restore_67 mw_3 e1 ?_
    obtain ⟨e4, k⟩ := k
    refine jr_iastE dX12_restore_68 mw_1 e4 (fun h2 e3 => ?_)
    replace e3 : h2 = mw h m (mA μ 1 (upd (kn μ) (ix x2) ((μ.2.1 3 (ix (((3240 * x1) + x2))))))) := e3.trans (mw_pA (by decide) (by decide) _)
    subst e3
    refine jr_iinc (v := (x2 + 1)) (lv' := [(2, .int (x2 + 1)), (0, .ref m), (1, .int x1)]) 2 dX12_restore_69 rfl rfl (by decide) rfl ?_
    refine jr_goto (tgt := 44) dX12_restore_72 (by decide) ?_
    exact jr_sub [1, 2, 0] rfl k
set_option maxRecDepth 20000 in
theorem wX12_count_0 {x1 : Int32} (k : (x1 = 0 → P (.inl (some (.int ((kn ((mI μ 4 0)) 0))))) (mw h m (mI μ 4 0))) ∧ (¬ x1 = 0 → (x1 = 1 → ∃ r3 : Int32, Con g mX12_houses d [.ref m] (mw h m (mI μ 4 0)) (jPi (fun r h' => r = r3 ∧ h' = (mw h m (mI μ 4 0))) no2) ∧ P (.inl (some (.int r3))) (mw h m (mI μ 4 0))) ∧ (¬ x1 = 1 → (x1 = 2 → ∃ r8 : Int32, Con g mX12_sumOf d [.ref m, .int 29] (mw h m (mI μ 4 0)) (jPi (fun r h' => r = r8 ∧ h' = (mw h m (mI μ 4 0))) no2) ∧ P (.inl (some (.int r8))) (mw h m (mI μ 4 0))) ∧ (¬ x1 = 2 → (x1 = 3 → ∃ r13 : Int32, Con g mX12_sumOf d [.ref m, .int 36] (mw h m (mI μ 4 0)) (jPi (fun r h' => r = r13 ∧ h' = (mw h m (mI μ 4 0))) no2) ∧ P (.inl (some (.int r13))) (mw h m (mI μ 4 0))) ∧ (¬ x1 = 3 → (x1 = 4 → ∃ r18 : Int32, Con g mX12_sumOf d [.ref m, .int 22] (mw h m (mI μ 4 0)) (jPi (fun r h' => r = r18 ∧ h' = (mw h m (mI μ 4 0))) no2) ∧ P (.inl (some (.int r18))) (mw h m (mI μ 4 0))) ∧ (¬ x1 = 4 → (x1 = 5 → P (.inl (some (.int ((kn ((mI μ 4 0)) 50))))) (mw h m (mI μ 4 0))) ∧ (¬ x1 = 5 → (x1 = 6 → P (.inl (some (.int ((kn ((mI μ 4 0)) 3))))) (mw h m (mI μ 4 0))) ∧ (¬ x1 = 6 → (x1 = 7 → P (.inl (some (.int ((kn ((mI μ 4 0)) 51))))) (mw h m (mI μ 4 0))) ∧ (¬ x1 = 7 → (x1 = 8 → P (.inl (some (.int ((kn ((mI μ 4 0)) 2))))) (mw h m (mI μ 4 0))) ∧ (¬ x1 = 8 → (x1 = 9 → P (.inl (some (.int ((kn ((mI μ 4 0)) 7))))) (mw h m (mI μ 4 0))) ∧ (¬ x1 = 9 → (x1 = 10 → P (.inl (some (.int ((((mI μ 4 0)).1 6))))) (mw h m (mI μ 4 0))) ∧ (¬ x1 = 10 → P (.inl (some (.int ((-1))))) (mw h m (mI μ 4 0)))))))))))))) : J g mX12_count (d + 1) hs P 0 [(0, .ref m), (1, .int x1)] [] (mw h m μ) := by
  refine jr_aload_n 0 dX12_count_0 rfl rfl ?_
  refine jr_iconst (v := 0) dX12_count_1 (by decide) ?_
  refine jr_putE jp_X12_67 dX12_count_2 mw_o (Nat.le_of_ble_eq_true rfl) rfl rfl (fun h1 e2 => ?_)
  replace e2 := e2.trans (mw_pI 4 ((0 : Int32)))
  subst e2
  refine jr_iload_n 1 dX12_count_5 rfl rfl ?_
  by_cases c6_0 : x1 = 0
  · have k := k.1 c6_0
    refine jr_tableIn (tgt := 64) dX12_count_6 (by rw [c6_0]; decide) (by rw [c6_0]; decide) (by rw [c6_0]; rfl) (by decide) ?_
    refine jr_aload_n 0 dX12_count_64 rfl rfl ?_
    refine jr_get jf_X12_9 dX12_count_65 mw_o rfl ?_
    refine jr_iconst (v := 0) dX12_count_68 (by decide) ?_
    refine jr_iald dX12_count_69 mw_1 (vp_in_nI (n := 0) (by decide) (by decide)) ?_
    exact jr_iret (ty := .int) rfl rfl dX12_count_70 k
  · have k := k.2 c6_0
    by_cases c6_1 : x1 = 1
    · have k := k.1 c6_1
      refine jr_tableIn (tgt := 71) dX12_count_6 (by rw [c6_1]; decide) (by rw [c6_1]; decide) (by rw [c6_1]; rfl) (by decide) ?_
      refine jr_aload_n 0 dX12_count_71 rfl rfl ?_
      obtain ⟨r3z, C7, k⟩ := k
      refine jr_cVi (As := []) jl_X12_249 km_X12_houses rfl rfl dX12_count_72 mw_o (Nat.le_of_ble_eq_true rfl) (C7.pi (fun _ _ q => q) (fun E h' f => f.elim)) (fun r3 h4 q5 => ?_)
      obtain ⟨q5, q6⟩ := q5
      subst q6
      subst q5
      exact jr_iret (ty := .int) rfl rfl dX12_count_75 k
    · have k := k.2 c6_1
      by_cases c6_2 : x1 = 2
      · have k := k.1 c6_2
        refine jr_tableIn (tgt := 76) dX12_count_6 (by rw [c6_2]; decide) (by rw [c6_2]; decide) (by rw [c6_2]; rfl) (by decide) ?_
        refine jr_aload_n 0 dX12_count_76 rfl rfl ?_
        refine jr_bipush (v := 29) dX12_count_77 (by decide) ?_
        obtain ⟨r8z, C12, k⟩ := k
        refine jr_cVi (As := [.int 29]) jl_X12_389 km_X12_sumOf rfl rfl dX12_count_79 mw_o (Nat.le_of_ble_eq_true rfl) (C12.pi (fun _ _ q => q) (fun E h' f => f.elim)) (fun r8 h9 q10 => ?_)
        obtain ⟨q10, q11⟩ := q10
        subst q11
        subst q10
        exact jr_iret (ty := .int) rfl rfl dX12_count_82 k
      · have k := k.2 c6_2
        by_cases c6_3 : x1 = 3
        · have k := k.1 c6_3
          refine jr_tableIn (tgt := 83) dX12_count_6 (by rw [c6_3]; decide) (by rw [c6_3]; decide) (by rw [c6_3]; rfl) (by decide) ?_
          refine jr_aload_n 0 dX12_count_83 rfl rfl ?_
          refine jr_bipush (v := 36) dX12_count_84 (by decide) ?_
          obtain ⟨r13z, C17, k⟩ := k
          refine jr_cVi (As := [.int 36]) jl_X12_389 km_X12_sumOf rfl rfl dX12_count_86 mw_o (Nat.le_of_ble_eq_true rfl) (C17.pi (fun _ _ q => q) (fun E h' f => f.elim)) (fun r13 h14 q15 => ?_)
          obtain ⟨q15, q16⟩ := q15
          subst q16
          subst q15
          exact jr_iret (ty := .int) rfl rfl dX12_count_89 k
        · have k := k.2 c6_3
          by_cases c6_4 : x1 = 4
          · have k := k.1 c6_4
            refine jr_tableIn (tgt := 90) dX12_count_6 (by rw [c6_4]; decide) (by rw [c6_4]; decide) (by rw [c6_4]; rfl) (by decide) ?_
            refine jr_aload_n 0 dX12_count_90 rfl rfl ?_
            refine jr_bipush (v := 22) dX12_count_91 (by decide) ?_
            obtain ⟨r18z, C22, k⟩ := k
            refine jr_cVi (As := [.int 22]) jl_X12_389 km_X12_sumOf rfl rfl dX12_count_93 mw_o (Nat.le_of_ble_eq_true rfl) (C22.pi (fun _ _ q => q) (fun E h' f => f.elim)) (fun r18 h19 q20 => ?_)
            obtain ⟨q20, q21⟩ := q20
            subst q21
            subst q20
            exact jr_iret (ty := .int) rfl rfl dX12_count_96 k
          · have k := k.2 c6_4
            by_cases c6_5 : x1 = 5
            · have k := k.1 c6_5
              refine jr_tableIn (tgt := 97) dX12_count_6 (by rw [c6_5]; decide) (by rw [c6_5]; decide) (by rw [c6_5]; rfl) (by decide) ?_
              refine jr_aload_n 0 dX12_count_97 rfl rfl ?_
              refine jr_get jf_X12_9 dX12_count_98 mw_o rfl ?_
              refine jr_bipush (v := 50) dX12_count_101 (by decide) ?_
              refine jr_iald dX12_count_103 mw_1 (vp_in_nI (n := 50) (by decide) (by decide)) ?_
              exact jr_iret (ty := .int) rfl rfl dX12_count_104 k
            · have k := k.2 c6_5
              by_cases c6_6 : x1 = 6
              · have k := k.1 c6_6
                refine jr_tableIn (tgt := 105) dX12_count_6 (by rw [c6_6]; decide) (by rw [c6_6]; decide) (by rw [c6_6]; rfl) (by decide) ?_
                refine jr_aload_n 0 dX12_count_105 rfl rfl ?_
                refine jr_get jf_X12_9 dX12_count_106 mw_o rfl ?_
                refine jr_iconst (v := 3) dX12_count_109 (by decide) ?_
                refine jr_iald dX12_count_110 mw_1 (vp_in_nI (n := 3) (by decide) (by decide)) ?_
                exact jr_iret (ty := .int) rfl rfl dX12_count_111 k
              · have k := k.2 c6_6
                by_cases c6_7 : x1 = 7
                · have k := k.1 c6_7
                  refine jr_tableIn (tgt := 112) dX12_count_6 (by rw [c6_7]; decide) (by rw [c6_7]; decide) (by rw [c6_7]; rfl) (by decide) ?_
                  refine jr_aload_n 0 dX12_count_112 rfl rfl ?_
                  refine jr_get jf_X12_9 dX12_count_113 mw_o rfl ?_
                  refine jr_bipush (v := 51) dX12_count_116 (by decide) ?_
                  refine jr_iald dX12_count_118 mw_1 (vp_in_nI (n := 51) (by decide) (by decide)) ?_
                  exact jr_iret (ty := .int) rfl rfl dX12_count_119 k
                · have k := k.2 c6_7
                  by_cases c6_8 : x1 = 8
                  · have k := k.1 c6_8
                    refine jr_tableIn (tgt := 120) dX12_count_6 (by rw [c6_8]; decide) (by rw [c6_8]; decide) (by rw [c6_8]; rfl) (by decide) ?_
                    refine jr_aload_n 0 dX12_count_120 rfl rfl ?_
                    refine jr_get jf_X12_9 dX12_count_121 mw_o rfl ?_
                    refine jr_iconst (v := 2) dX12_count_124 (by decide) ?_
                    refine jr_iald dX12_count_125 mw_1 (vp_in_nI (n := 2) (by decide) (by decide)) ?_
                    exact jr_iret (ty := .int) rfl rfl dX12_count_126 k
                  · have k := k.2 c6_8
                    by_cases c6_9 : x1 = 9
                    · have k := k.1 c6_9
                      refine jr_tableIn (tgt := 127) dX12_count_6 (by rw [c6_9]; decide) (by rw [c6_9]; decide) (by rw [c6_9]; rfl) (by decide) ?_
                      refine jr_aload_n 0 dX12_count_127 rfl rfl ?_
                      refine jr_get jf_X12_9 dX12_count_128 mw_o rfl ?_
                      refine jr_bipush (v := 7) dX12_count_131 (by decide) ?_
                      refine jr_iald dX12_count_133 mw_1 (vp_in_nI (n := 7) (by decide) (by decide)) ?_
                      exact jr_iret (ty := .int) rfl rfl dX12_count_134 k
                    · have k := k.2 c6_9
                      by_cases c6_10 : x1 = 10
                      · have k := k.1 c6_10
                        refine jr_tableIn (tgt := 135) dX12_count_6 (by rw [c6_10]; decide) (by rw [c6_10]; decide) (by rw [c6_10]; rfl) (by decide) ?_
                        refine jr_aload_n 0 dX12_count_135 rfl rfl ?_
                        refine jr_get jf_X12_70 dX12_count_136 mw_o rfl ?_
                        exact jr_iret (ty := .int) rfl rfl dX12_count_139 k
                      · have k := k.2 c6_10
                        refine jr_tableOut (tgt := 140) dX12_count_6 ?_ (by decide) ?_
                        · have d6_0 := j_ne c6_0 (z := 0) (by decide)
                          have d6_1 := j_ne c6_1 (z := 1) (by decide)
                          have d6_2 := j_ne c6_2 (z := 2) (by decide)
                          have d6_3 := j_ne c6_3 (z := 3) (by decide)
                          have d6_4 := j_ne c6_4 (z := 4) (by decide)
                          have d6_5 := j_ne c6_5 (z := 5) (by decide)
                          have d6_6 := j_ne c6_6 (z := 6) (by decide)
                          have d6_7 := j_ne c6_7 (z := 7) (by decide)
                          have d6_8 := j_ne c6_8 (z := 8) (by decide)
                          have d6_9 := j_ne c6_9 (z := 9) (by decide)
                          have d6_10 := j_ne c6_10 (z := 10) (by decide)
                          omega
                        · refine jr_iconst (v := (-1)) dX12_count_140 (by decide) ?_
                          exact jr_iret (ty := .int) rfl rfl dX12_count_141 k
end
