set_option maxRecDepth 20000 in
theorem bX1_find_0 {g : jG} {d : Nat} {hs : jH} {P : jO → jH → Prop} {x0 : Nat} {x1 : Nat} {x2 : Nat} {x3 : Nat} {x4 : Int32} {h : jH} (k : ∃ fs1 : List Value, h.1 x0 = some (.inr (1, fs1)) ∧ 1 < fs1.length ∧ (∀ h4 : jH, h4 = jset h x0 (.inr (1, fs1.set 1 (.int 0))) → J g mX1_find (d + 1) hs P 8 [(0, .ref x0), (1, .ref x1), (2, .ref x2), (3, .ref x3), (4, .int x4), (5, .int 0)] [] h4)) : J g mX1_find (d + 1) hs P 0 [(0, .ref x0), (1, .ref x1), (2, .ref x2), (3, .ref x3), (4, .int x4)] [] h := by
  refine jr_aload_n 0 dX1_find_0 rfl rfl ?_
  refine jr_iconst (v := 0) dX1_find_1 (by decide) ?_
  obtain ⟨fs1, e2, e3, k⟩ := k
  refine jr_putE jp_X1_20 dX1_find_2 e2 e3 rfl rfl (fun h4 eh5 => ?_)
  have k := k h4 eh5
  refine jr_iconst (v := 0) dX1_find_5 (by decide) ?_
  refine jr_istore (lv' := [(5, .int 0), (0, .ref x0), (1, .ref x1), (2, .ref x2), (3, .ref x3), (4, .int x4)]) dX1_find_6 (by decide) rfl ?_
  exact jr_sub [1, 2, 3, 4, 5, 0] rfl k
set_option maxRecDepth 20000 in
theorem bX1_find_8 {g : jG} {d : Nat} {hs : jH} {P : jO → jH → Prop} {x0 : Nat} {x1 : Nat} {x2 : Nat} {x3 : Nat} {x4 : Int32} {x5 : Int32} {h : jH} (k : ∃ fs1 : List Value, h.1 x0 = some (.inr (1, fs1)) ∧ ∃ v4 : Nat, fs1[0]? = some (.ref v4) ∧ ∃ (t5 : Nat) (z6 : vp_A), h.1 v4 = some (.inl (t5, z6)) ∧ (∃ ty9 : FieldType, jTy t5 = some ty9) ∧ (x5 < (nI z6.1) → ∃ fs10 : List Value, h.1 x2 = some (.inr (9, fs10)) ∧ ∃ v13 : Nat, fs10[0]? = some (.ref v13) ∧ ∃ fs16 : List Value, h.1 v13 = some (.inr (6, fs16)) ∧ Con g mX6_has d [.ref v13, .int (x5 / 99)] h (jPi (fun (r14 : Int32) (h15 : jH) => (r14 = 0 → J g mX1_find (d + 1) hs P 8 [(0, .ref x0), (1, .ref x1), (2, .ref x2), (3, .ref x3), (4, .int x4), (5, .int (x5 + 1))] [] h15) ∧ (¬ r14 = 0 → ∃ fs18 : List Value, h15.1 x2 = some (.inr (9, fs18)) ∧ ∃ v21 : Nat, fs18[0]? = some (.ref v21) ∧ ∃ fs24 : List Value, h15.1 x1 = some (.inr (0, fs24)) ∧ Con g mX0_from d [.ref x1, .ref x2, .ref v21] h15 (jPr (fun (r22 : Nat) (h23 : jH) => ∃ fs26 : List Value, h23.1 r22 = some (.inr (6, fs26)) ∧ ∃ v29 : Nat, fs26[7]? = some (.ref v29) ∧ ∃ (n30 : Nat) (f31 : Nat → Int32), h23.1 v29 = some (.inl (0, (n30, .inl f31))) ∧ vp_in (x5 / 99) n30 ∧ ∃ (n34 : Nat) (f35 : Nat → Int32), h23.1 v29 = some (.inl (0, (n34, .inl f35))) ∧ vp_in (x5 / 99) n34 ∧ ∀ h38 : jH, h38 = jset h23 v29 (.inl (0, (n34, .inl (upd f35 ((x5 / 99)).toNatClampNeg (((f31 ((x5 / 99)).toNatClampNeg) + ((x5 - x5 / 99 * 99) + 1))))))) → ∃ fs42 : List Value, h38.1 x0 = some (.inr (1, fs42)) ∧ Con g mX1_fits d [.ref x0, .ref x1, .ref x2, .ref r22, .ref x3, .int x4] h38 (jPi (fun (r40 : Int32) (h41 : jH) => (r40 = 0 → J g mX1_find (d + 1) hs P 8 [(0, .ref x0), (1, .ref x1), (2, .ref x2), (3, .ref x3), (4, .int x4), (5, .int (x5 + 1))] [] h41) ∧ (¬ r40 = 0 → ∃ fs44 : List Value, h41.1 x2 = some (.inr (9, fs44)) ∧ ∃ v47 : Int32, fs44[3]? = some (.int v47) ∧ ∃ fs50 : List Value, h41.1 x1 = some (.inr (0, fs50)) ∧ Con g mX0_pass d [.ref x1, .ref x2, .ref r22, .int v47] h41 (jPv (fun (h49 : jH) => ∃ fs52 : List Value, h49.1 x1 = some (.inr (0, fs52)) ∧ ∃ v55 : Nat, fs52[0]? = some (.ref v55) ∧ ∃ fs58 : List Value, h49.1 x0 = some (.inr (1, fs58)) ∧ Con g mX1_note d [.ref x0, .int (((x5 / 99) * 100) + ((x5 - x5 / 99 * 99) + 1)), .ref v55] h49 (jPv (fun (h57 : jH) => J g mX1_find (d + 1) hs P 8 [(0, .ref x0), (1, .ref x1), (2, .ref x2), (3, .ref x3), (4, .int x4), (5, .int (x5 + 1))] [] h57) (fun E h' => P (.inr E) h'))) (fun E h' => P (.inr E) h')))) (fun E h' => P (.inr E) h'))) (fun E h' => P (.inr E) h')))) (fun E h' => P (.inr E) h'))) ∧ (¬ x5 < (nI z6.1) → P (.inl none) h)) : J g mX1_find (d + 1) hs P 8 [(0, .ref x0), (1, .ref x1), (2, .ref x2), (3, .ref x3), (4, .int x4), (5, .int x5)] [] h := by
  refine jr_iload 5 dX1_find_8 rfl ?_
  refine jr_aload_n 0 dX1_find_10 rfl rfl ?_
  obtain ⟨fs1, e2, v4, e3, k⟩ := k
  refine jr_get jf_X1_9 dX1_find_11 e2 e3 ?_
  obtain ⟨t5, z6, e7, ⟨ty9, e8⟩, k⟩ := k
  refine jr_alen (v := nI z6.1) dX1_find_14 e8 e7 rfl ?_
  refine jr_icmp_ge (tgt := 117) dX1_find_15 (by decide) (fun c15 => ?_) (fun c15 => ?_)
  · have k := k.2 c15
    exact jr_vret rfl dX1_find_117 k
  · have k := k.1 c15
    refine jr_iload 5 dX1_find_18 rfl ?_
    refine jr_bipush (v := 99) dX1_find_20 (by decide) ?_
    refine jr_idiv dX1_find_22 (by decide) ?_
    refine jr_istore (lv' := [(6, .int (x5 / 99)), (0, .ref x0), (1, .ref x1), (2, .ref x2), (3, .ref x3), (4, .int x4), (5, .int x5)]) dX1_find_23 (by decide) rfl ?_
    refine jr_iload 6 dX1_find_25 rfl ?_
    refine jr_bipush (v := 99) dX1_find_27 (by decide) ?_
    refine jr_irem dX1_find_29 (by decide) ?_
    refine jr_iconst (v := 1) dX1_find_30 (by decide) ?_
    refine jr_iadd dX1_find_31 ?_
    refine jr_istore (lv' := [(7, .int ((x5 - x5 / 99 * 99) + 1)), (6, .int (x5 / 99)), (0, .ref x0), (1, .ref x1), (2, .ref x2), (3, .ref x3), (4, .int x4), (5, .int x5)]) dX1_find_32 (by decide) rfl ?_
    refine jr_aload_n 4 dX1_find_34 rfl rfl ?_
    obtain ⟨fs10, e11, v13, e12, k⟩ := k
    refine jr_get jf_X1_24 dX1_find_35 e11 e12 ?_
    refine jr_iload 1 dX1_find_38 rfl ?_
    obtain ⟨fs16, e17, k⟩ := k
    refine jr_cVi (As := [.int (x5 / 99)]) jl_X1_30 km_X6_has rfl rfl dX1_find_40 e17 (Nat.le_of_ble_eq_true rfl) k (fun r14 h15 k => ?_)
    refine jr_if_eq (tgt := 111) dX1_find_43 (by decide) (fun c43 => ?_) (fun c43 => ?_)
    · have k := k.1 c43
      refine jr_iinc (v := (x5 + 1)) (lv' := [(5, .int (x5 + 1)), (7, .int ((x5 - x5 / 99 * 99) + 1)), (6, .int (x5 / 99)), (0, .ref x0), (1, .ref x1), (2, .ref x2), (3, .ref x3), (4, .int x4)]) 7 dX1_find_111 rfl rfl (by decide) rfl ?_
      refine jr_goto (tgt := 8) dX1_find_114 (by decide) ?_
      exact jr_sub [3, 4, 5, 6, 7, 0] rfl k
    · have k := k.2 c43
      refine jr_aload_n 3 dX1_find_46 rfl rfl ?_
      refine jr_aload_n 4 dX1_find_47 rfl rfl ?_
      refine jr_aload_n 4 dX1_find_48 rfl rfl ?_
      obtain ⟨fs18, e19, v21, e20, k⟩ := k
      refine jr_get jf_X1_24 dX1_find_49 e19 e20 ?_
      obtain ⟨fs24, e25, k⟩ := k
      refine jr_cVr (As := [.ref x2, .ref v21]) jl_X1_36 km_X0_from rfl rfl dX1_find_52 e25 (Nat.le_of_ble_eq_true rfl) k (fun r22 h23 k => ?_)
      refine jr_astore (lv' := [(8, .ref r22), (7, .int ((x5 - x5 / 99 * 99) + 1)), (6, .int (x5 / 99)), (0, .ref x0), (1, .ref x1), (2, .ref x2), (3, .ref x3), (4, .int x4), (5, .int x5)]) dX1_find_55 (by decide) rfl ?_
      refine jr_aload 0 dX1_find_57 rfl ?_
      obtain ⟨fs26, e27, v29, e28, k⟩ := k
      refine jr_get jf_X1_42 dX1_find_59 e27 e28 ?_
      refine jr_iload 2 dX1_find_62 rfl ?_
      refine jr_dup2 dX1_find_64 rfl rfl ?_
      obtain ⟨n30, f31, e32, e33, k⟩ := k
      refine jr_iald dX1_find_65 e32 e33 ?_
      refine jr_iload 1 dX1_find_66 rfl ?_
      refine jr_iadd dX1_find_68 ?_
      obtain ⟨n34, f35, e36, e37, k⟩ := k
      refine jr_iastE dX1_find_69 e36 e37 (fun h38 eh39 => ?_)
      have k := k h38 eh39
      refine jr_aload_n 3 dX1_find_70 rfl rfl ?_
      refine jr_aload_n 4 dX1_find_71 rfl rfl ?_
      refine jr_aload_n 5 dX1_find_72 rfl rfl ?_
      refine jr_aload 0 dX1_find_73 rfl ?_
      refine jr_aload_n 6 dX1_find_75 rfl rfl ?_
      refine jr_iload 7 dX1_find_76 rfl ?_
      obtain ⟨fs42, e43, k⟩ := k
      refine jr_cVi (As := [.ref x1, .ref x2, .ref r22, .ref x3, .int x4]) jl_X1_45 km_X1_fits rfl rfl dX1_find_78 e43 (Nat.le_of_ble_eq_true rfl) k (fun r40 h41 k => ?_)
      refine jr_if_eq (tgt := 111) dX1_find_81 (by decide) (fun c81 => ?_) (fun c81 => ?_)
      · have k := k.1 c81
        refine jr_iinc (v := (x5 + 1)) (lv' := [(5, .int (x5 + 1)), (8, .ref r22), (7, .int ((x5 - x5 / 99 * 99) + 1)), (6, .int (x5 / 99)), (0, .ref x0), (1, .ref x1), (2, .ref x2), (3, .ref x3), (4, .int x4)]) 8 dX1_find_111 rfl rfl (by decide) rfl ?_
        refine jr_goto (tgt := 8) dX1_find_114 (by decide) ?_
        exact jr_sub [4, 5, 6, 7, 8, 0] rfl k
      · have k := k.2 c81
        refine jr_aload_n 4 dX1_find_84 rfl rfl ?_
        refine jr_aload_n 5 dX1_find_85 rfl rfl ?_
        refine jr_aload 0 dX1_find_86 rfl ?_
        refine jr_aload_n 5 dX1_find_88 rfl rfl ?_
        obtain ⟨fs44, e45, v47, e46, k⟩ := k
        refine jr_get jf_X1_49 dX1_find_89 e45 e46 ?_
        obtain ⟨fs50, e51, k⟩ := k
        refine jr_cVv (As := [.ref x2, .ref r22, .int v47]) jl_X1_52 km_X0_pass rfl rfl dX1_find_92 e51 (Nat.le_of_ble_eq_true rfl) k (fun h49 k => ?_)
        refine jr_aload_n 3 dX1_find_95 rfl rfl ?_
        refine jr_iload 2 dX1_find_96 rfl ?_
        refine jr_bipush (v := 100) dX1_find_98 (by decide) ?_
        refine jr_imul dX1_find_100 ?_
        refine jr_iload 1 dX1_find_101 rfl ?_
        refine jr_iadd dX1_find_103 ?_
        refine jr_aload_n 4 dX1_find_104 rfl rfl ?_
        obtain ⟨fs52, e53, v55, e54, k⟩ := k
        refine jr_get jf_X1_56 dX1_find_105 e53 e54 ?_
        obtain ⟨fs58, e59, k⟩ := k
        refine jr_cVv (As := [.int (((x5 / 99) * 100) + ((x5 - x5 / 99 * 99) + 1)), .ref v55]) jl_X1_59 km_X1_note rfl rfl dX1_find_108 e59 (Nat.le_of_ble_eq_true rfl) k (fun h57 k => ?_)
        refine jr_iinc (v := (x5 + 1)) (lv' := [(5, .int (x5 + 1)), (8, .ref r22), (7, .int ((x5 - x5 / 99 * 99) + 1)), (6, .int (x5 / 99)), (0, .ref x0), (1, .ref x1), (2, .ref x2), (3, .ref x3), (4, .int x4)]) 8 dX1_find_111 rfl rfl (by decide) rfl ?_
        refine jr_goto (tgt := 8) dX1_find_114 (by decide) ?_
        exact jr_sub [4, 5, 6, 7, 8, 0] rfl k
set_option maxRecDepth 20000 in
theorem bX1_fits_0 {g : jG} {d : Nat} {hs : jH} {P : jO → jH → Prop} {x0 : Nat} {x1 : Nat} {x2 : Nat} {x3 : Nat} {x4 : Nat} {x5 : Int32} {h : jH} (k : ∃ fs3 : List Value, h.1 x3 = some (.inr (6, fs3)) ∧ Con g mX6_has d [.ref x3, .int x5] h (jPi (fun (r1 : Int32) (h2 : jH) => (r1 = 0 → P (.inl (some (.int 0))) h2) ∧ (¬ r1 = 0 → J g mX1_fits (d + 1) hs P 14 [(1, .ref x1), (2, .ref x2), (3, .ref x3), (4, .ref x4), (5, .int x5), (6, .int 0)] [] h2)) (fun E h' => P (.inr E) h'))) : J g mX1_fits (d + 1) hs P 0 [(0, .ref x0), (1, .ref x1), (2, .ref x2), (3, .ref x3), (4, .ref x4), (5, .int x5)] [] h := by
  refine jr_aload_n 3 dX1_fits_0 rfl rfl ?_
  refine jr_iload 5 dX1_fits_1 rfl ?_
  obtain ⟨fs3, e4, k⟩ := k
  refine jr_cVi (As := [.int x5]) jl_X1_30 km_X6_has rfl rfl dX1_fits_3 e4 (Nat.le_of_ble_eq_true rfl) k (fun r1 h2 k => ?_)
  refine jr_if_ne (tgt := 11) dX1_fits_6 (by decide) (fun c6 => ?_) (fun c6 => ?_)
  · have k := k.2 c6
    refine jr_iconst (v := 0) dX1_fits_11 (by decide) ?_
    refine jr_istore (lv' := [(6, .int 0), (0, .ref x0), (1, .ref x1), (2, .ref x2), (3, .ref x3), (4, .ref x4), (5, .int x5)]) dX1_fits_12 (by decide) rfl ?_
    exact jr_sub [2, 3, 4, 5, 6, 0] rfl k
  · have k := k.1 c6
    refine jr_iconst (v := 0) dX1_fits_9 (by decide) ?_
    exact jr_iret (ty := .boolean) rfl rfl dX1_fits_10 k
set_option maxRecDepth 20000 in
theorem bX1_fits_14 {g : jG} {d : Nat} {hs : jH} {P : jO → jH → Prop} {x1 : Nat} {x2 : Nat} {x3 : Nat} {x4 : Nat} {x5 : Int32} {x6 : Int32} {h : jH} (k : ∃ fs1 : List Value, h.1 x4 = some (.inr (10, fs1)) ∧ ∃ v4 : Int32, fs1[0]? = some (.int v4) ∧ (x6 < v4 → ∃ fs5 : List Value, h.1 x2 = some (.inr (9, fs5)) ∧ ∃ v8 : Int32, fs5[3]? = some (.int v8) ∧ ∃ fs11 : List Value, h.1 x1 = some (.inr (0, fs11)) ∧ Con g mX0_pass d [.ref x1, .ref x2, .ref x3, .int v8] h (jPv (fun (h10 : jH) => ∃ fs15 : List Value, h10.1 x4 = some (.inr (10, fs15)) ∧ Con g mX10_at d [.ref x4, .int x6] h10 (jPl (fun (r13 : Int64) (h14 : jH) => (r13 = (-1) → J g mX1_fits (d + 1) hs P 14 [(1, .ref x1), (2, .ref x2), (3, .ref x3), (4, .ref x4), (5, .int x5), (6, .int (x6 + 1))] [] h14) ∧ (¬ r13 = (-1) → ∃ fs19 : List Value, h14.1 x4 = some (.inr (10, fs19)) ∧ Con g mX10_at d [.ref x4, .int x6] h14 (jPl (fun (r17 : Int64) (h18 : jH) => ∃ fs21 : List Value, h18.1 x1 = some (.inr (0, fs21)) ∧ ∃ v24 : Nat, fs21[0]? = some (.ref v24) ∧ ∃ (n25 : Nat) (f26 : Nat → Int32), h18.1 v24 = some (.inl (0, (n25, .inl f26))) ∧ vp_in x5 n25 ∧ (r17 = ((f26 x5.toNatClampNeg)).toInt64 → J g mX1_fits (d + 1) hs P 14 [(1, .ref x1), (2, .ref x2), (3, .ref x3), (4, .ref x4), (5, .int x5), (6, .int (x6 + 1))] [] h18) ∧ (¬ r17 = ((f26 x5.toNatClampNeg)).toInt64 → P (.inl (some (.int 0))) h18)) (fun E h' => P (.inr E) h')))) (fun E h' => P (.inr E) h'))) (fun E h' => P (.inr E) h'))) ∧ (¬ x6 < v4 → P (.inl (some (.int 1))) h)) : J g mX1_fits (d + 1) hs P 14 [(1, .ref x1), (2, .ref x2), (3, .ref x3), (4, .ref x4), (5, .int x5), (6, .int x6)] [] h := by
  refine jr_iload 5 dX1_fits_14 rfl ?_
  refine jr_aload 3 dX1_fits_16 rfl ?_
  obtain ⟨fs1, e2, v4, e3, k⟩ := k
  refine jr_get jf_X1_63 dX1_fits_18 e2 e3 ?_
  refine jr_icmp_ge (tgt := 75) dX1_fits_21 (by decide) (fun c21 => ?_) (fun c21 => ?_)
  · have k := k.2 c21
    refine jr_iconst (v := 1) dX1_fits_75 (by decide) ?_
    exact jr_iret (ty := .boolean) rfl rfl dX1_fits_76 k
  · have k := k.1 c21
    refine jr_aload_n 0 dX1_fits_24 rfl rfl ?_
    refine jr_aload_n 1 dX1_fits_25 rfl rfl ?_
    refine jr_aload_n 2 dX1_fits_26 rfl rfl ?_
    refine jr_aload_n 1 dX1_fits_27 rfl rfl ?_
    obtain ⟨fs5, e6, v8, e7, k⟩ := k
    refine jr_get jf_X1_49 dX1_fits_28 e6 e7 ?_
    obtain ⟨fs11, e12, k⟩ := k
    refine jr_cVv (As := [.ref x2, .ref x3, .int v8]) jl_X1_52 km_X0_pass rfl rfl dX1_fits_31 e12 (Nat.le_of_ble_eq_true rfl) k (fun h10 k => ?_)
    refine jr_aload 3 dX1_fits_34 rfl ?_
    refine jr_iload 5 dX1_fits_36 rfl ?_
    obtain ⟨fs15, e16, k⟩ := k
    refine jr_cVl (As := [.int x6]) jl_X1_68 km_X10_at rfl rfl dX1_fits_38 e16 (Nat.le_of_ble_eq_true rfl) k (fun r13 h14 k => ?_)
    refine jr_ldc2 (v := (-1)) jk_X1_72 dX1_fits_41 ?_
    refine jr_lcmp_eq (tgt := 69) dX1_fits_44 dX1_fits_45 (by decide) (fun c44 => ?_) (fun c44 => ?_)
    · have k := k.1 c44
      refine jr_iinc (v := (x6 + 1)) (lv' := [(6, .int (x6 + 1)), (1, .ref x1), (2, .ref x2), (3, .ref x3), (4, .ref x4), (5, .int x5)]) 5 dX1_fits_69 rfl rfl (by decide) rfl ?_
      refine jr_goto (tgt := 14) dX1_fits_72 (by decide) ?_
      exact jr_sub [1, 2, 3, 4, 5, 0] rfl k
    · have k := k.2 c44
      refine jr_aload 3 dX1_fits_48 rfl ?_
      refine jr_iload 5 dX1_fits_50 rfl ?_
      obtain ⟨fs19, e20, k⟩ := k
      refine jr_cVl (As := [.int x6]) jl_X1_68 km_X10_at rfl rfl dX1_fits_52 e20 (Nat.le_of_ble_eq_true rfl) k (fun r17 h18 k => ?_)
      refine jr_aload_n 0 dX1_fits_55 rfl rfl ?_
      obtain ⟨fs21, e22, v24, e23, k⟩ := k
      refine jr_get jf_X1_56 dX1_fits_56 e22 e23 ?_
      refine jr_iload 4 dX1_fits_59 rfl ?_
      obtain ⟨n25, f26, e27, e28, k⟩ := k
      refine jr_iald dX1_fits_61 e27 e28 ?_
      refine jr_i2l dX1_fits_62 ?_
      refine jr_lcmp_eq (tgt := 69) dX1_fits_63 dX1_fits_64 (by decide) (fun c63 => ?_) (fun c63 => ?_)
      · have k := k.1 c63
        refine jr_iinc (v := (x6 + 1)) (lv' := [(6, .int (x6 + 1)), (1, .ref x1), (2, .ref x2), (3, .ref x3), (4, .ref x4), (5, .int x5)]) 5 dX1_fits_69 rfl rfl (by decide) rfl ?_
        refine jr_goto (tgt := 14) dX1_fits_72 (by decide) ?_
        exact jr_sub [1, 2, 3, 4, 5, 0] rfl k
      · have k := k.2 c63
        refine jr_iconst (v := 0) dX1_fits_67 (by decide) ?_
        exact jr_iret (ty := .boolean) rfl rfl dX1_fits_68 k
set_option maxRecDepth 20000 in
theorem bX1_note_0 {g : jG} {d : Nat} {hs : jH} {P : jO → jH → Prop} {x0 : Nat} {x1 : Int32} {x2 : Nat} {h : jH} (k : ∃ fs1 : List Value, h.1 x0 = some (.inr (1, fs1)) ∧ ∃ v4 : Int32, fs1[1]? = some (.int v4) ∧ (v4 < 0 → P (.inl none) h) ∧ (¬ v4 < 0 → ∃ fs5 : List Value, h.1 x0 = some (.inr (1, fs5)) ∧ ∃ v8 : Int32, fs5[1]? = some (.int v8) ∧ ∃ fs9 : List Value, h.1 x0 = some (.inr (1, fs9)) ∧ ∃ v12 : Nat, fs9[0]? = some (.ref v12) ∧ ∃ (t13 : Nat) (z14 : vp_A), h.1 v12 = some (.inl (t13, z14)) ∧ (∃ ty17 : FieldType, jTy t13 = some ty17) ∧ (v8 < (nI z14.1) → ∃ fs18 : List Value, h.1 x0 = some (.inr (1, fs18)) ∧ ∃ v21 : Nat, fs18[0]? = some (.ref v21) ∧ ∃ fs22 : List Value, h.1 x0 = some (.inr (1, fs22)) ∧ ∃ v25 : Int32, fs22[1]? = some (.int v25) ∧ ∃ (n26 : Nat) (f27 : Nat → Int32), h.1 v21 = some (.inl (0, (n26, .inl f27))) ∧ vp_in v25 n26 ∧ ∀ h30 : jH, h30 = jset h v21 (.inl (0, (n26, .inl (upd f27 v25.toNatClampNeg x1)))) → J g mX1_note (d + 1) hs P 31 [(0, .ref x0), (2, .ref x2), (3, .int 0)] [] h30) ∧ (¬ v8 < (nI z14.1) → P (.inl none) h))) : J g mX1_note (d + 1) hs P 0 [(0, .ref x0), (1, .int x1), (2, .ref x2)] [] h := by
  refine jr_aload_n 0 dX1_note_0 rfl rfl ?_
  obtain ⟨fs1, e2, v4, e3, k⟩ := k
  refine jr_get jf_X1_20 dX1_note_1 e2 e3 ?_
  refine jr_if_lt (tgt := 73) dX1_note_4 (by decide) (fun c4 => ?_) (fun c4 => ?_)
  · have k := k.1 c4
    exact jr_vret rfl dX1_note_73 k
  · have k := k.2 c4
    refine jr_aload_n 0 dX1_note_7 rfl rfl ?_
    obtain ⟨fs5, e6, v8, e7, k⟩ := k
    refine jr_get jf_X1_20 dX1_note_8 e6 e7 ?_
    refine jr_aload_n 0 dX1_note_11 rfl rfl ?_
    obtain ⟨fs9, e10, v12, e11, k⟩ := k
    refine jr_get jf_X1_9 dX1_note_12 e10 e11 ?_
    obtain ⟨t13, z14, e15, ⟨ty17, e16⟩, k⟩ := k
    refine jr_alen (v := nI z14.1) dX1_note_15 e16 e15 rfl ?_
    refine jr_icmp_ge (tgt := 73) dX1_note_16 (by decide) (fun c16 => ?_) (fun c16 => ?_)
    · have k := k.2 c16
      exact jr_vret rfl dX1_note_73 k
    · have k := k.1 c16
      refine jr_aload_n 0 dX1_note_19 rfl rfl ?_
      obtain ⟨fs18, e19, v21, e20, k⟩ := k
      refine jr_get jf_X1_9 dX1_note_20 e19 e20 ?_
      refine jr_aload_n 0 dX1_note_23 rfl rfl ?_
      obtain ⟨fs22, e23, v25, e24, k⟩ := k
      refine jr_get jf_X1_20 dX1_note_24 e23 e24 ?_
      refine jr_iload_n 1 dX1_note_27 rfl rfl ?_
      obtain ⟨n26, f27, e28, e29, k⟩ := k
      refine jr_iastE dX1_note_28 e28 e29 (fun h30 eh31 => ?_)
      have k := k h30 eh31
      refine jr_iconst (v := 0) dX1_note_29 (by decide) ?_
      refine jr_istore_n (lv' := [(3, .int 0), (0, .ref x0), (1, .int x1), (2, .ref x2)]) dX1_note_30 rfl (by decide) rfl ?_
      exact jr_sub [1, 3, 0] rfl k
set_option maxRecDepth 20000 in
theorem bX1_note_31 {g : jG} {d : Nat} {hs : jH} {P : jO → jH → Prop} {x0 : Nat} {x2 : Nat} {x3 : Int32} {h : jH} (k : (x3 < 7 → ∃ (t1 : Nat) (z2 : vp_A), h.1 x2 = some (.inl (t1, z2)) ∧ (∃ ty5 : FieldType, jTy t1 = some ty5) ∧ (x3 < (nI z2.1) → ∃ fs6 : List Value, h.1 x0 = some (.inr (1, fs6)) ∧ ∃ v9 : Nat, fs6[2]? = some (.ref v9) ∧ ∃ (n10 : Nat) (f11 : Nat → Option Nat), h.1 v9 = some (.inl (7, (n10, .inr (.inr (.inr (.inr f11)))))) ∧ vp_in x3 n10 ∧ ∃ v14 : Nat, f11 x3.toNatClampNeg = some v14 ∧ ∃ fs16 : List Value, h.1 x0 = some (.inr (1, fs16)) ∧ ∃ v19 : Int32, fs16[1]? = some (.int v19) ∧ ∃ (n20 : Nat) (f21 : Nat → Int32), h.1 x2 = some (.inl (0, (n20, .inl f21))) ∧ vp_in x3 n20 ∧ ∃ (n24 : Nat) (f25 : Nat → Int32), h.1 v14 = some (.inl (0, (n24, .inl f25))) ∧ vp_in v19 n24 ∧ ∀ h28 : jH, h28 = jset h v14 (.inl (0, (n24, .inl (upd f25 v19.toNatClampNeg ((f21 x3.toNatClampNeg)))))) → J g mX1_note (d + 1) hs P 31 [(0, .ref x0), (2, .ref x2), (3, .int (x3 + 1))] [] h28) ∧ (¬ x3 < (nI z2.1) → J g mX1_note (d + 1) hs P 63 [(0, .ref x0)] [] h)) ∧ (¬ x3 < 7 → J g mX1_note (d + 1) hs P 63 [(0, .ref x0)] [] h)) : J g mX1_note (d + 1) hs P 31 [(0, .ref x0), (2, .ref x2), (3, .int x3)] [] h := by
  refine jr_iload_n 2 dX1_note_31 rfl rfl ?_
  refine jr_bipush (v := 7) dX1_note_32 (by decide) ?_
  refine jr_icmp_ge (tgt := 63) dX1_note_34 (by decide) (fun c34 => ?_) (fun c34 => ?_)
  · have k := k.2 c34
    exact jr_sub [0] rfl k
  · have k := k.1 c34
    refine jr_iload_n 2 dX1_note_37 rfl rfl ?_
    refine jr_aload_n 1 dX1_note_38 rfl rfl ?_
    obtain ⟨t1, z2, e3, ⟨ty5, e4⟩, k⟩ := k
    refine jr_alen (v := nI z2.1) dX1_note_39 e4 e3 rfl ?_
    refine jr_icmp_ge (tgt := 63) dX1_note_40 (by decide) (fun c40 => ?_) (fun c40 => ?_)
    · have k := k.2 c40
      exact jr_sub [0] rfl k
    · have k := k.1 c40
      refine jr_aload_n 0 dX1_note_43 rfl rfl ?_
      obtain ⟨fs6, e7, v9, e8, k⟩ := k
      refine jr_get jf_X1_17 dX1_note_44 e7 e8 ?_
      refine jr_iload_n 2 dX1_note_47 rfl rfl ?_
      obtain ⟨n10, f11, e12, e13, v14, e15, k⟩ := k
      refine jr_qald7 dX1_note_48 e12 e13 ?_
      rw [e15]
      refine jr_aload_n 0 dX1_note_49 rfl rfl ?_
      obtain ⟨fs16, e17, v19, e18, k⟩ := k
      refine jr_get jf_X1_20 dX1_note_50 e17 e18 ?_
      refine jr_aload_n 1 dX1_note_53 rfl rfl ?_
      refine jr_iload_n 2 dX1_note_54 rfl rfl ?_
      obtain ⟨n20, f21, e22, e23, k⟩ := k
      refine jr_iald dX1_note_55 e22 e23 ?_
      obtain ⟨n24, f25, e26, e27, k⟩ := k
      refine jr_iastE dX1_note_56 e26 e27 (fun h28 eh29 => ?_)
      have k := k h28 eh29
      refine jr_iinc (v := (x3 + 1)) (lv' := [(3, .int (x3 + 1)), (0, .ref x0), (2, .ref x2)]) 2 dX1_note_57 rfl rfl (by decide) rfl ?_
      refine jr_goto (tgt := 31) dX1_note_60 (by decide) ?_
      exact jr_sub [1, 2, 0] rfl k
set_option maxRecDepth 20000 in
theorem bX1_note_63 {g : jG} {d : Nat} {hs : jH} {P : jO → jH → Prop} {x0 : Nat} {h : jH} (k : ∃ fs1 : List Value, h.1 x0 = some (.inr (1, fs1)) ∧ ∃ v4 : Int32, fs1[1]? = some (.int v4) ∧ ∃ fs5 : List Value, h.1 x0 = some (.inr (1, fs5)) ∧ 1 < fs5.length ∧ (∀ h8 : jH, h8 = jset h x0 (.inr (1, fs5.set 1 (.int (v4 + 1)))) → P (.inl none) h8)) : J g mX1_note (d + 1) hs P 63 [(0, .ref x0)] [] h := by
  refine jr_aload_n 0 dX1_note_63 rfl rfl ?_
  refine jr_dup dX1_note_64 rfl ?_
  obtain ⟨fs1, e2, v4, e3, k⟩ := k
  refine jr_get jf_X1_20 dX1_note_65 e2 e3 ?_
  refine jr_iconst (v := 1) dX1_note_68 (by decide) ?_
  refine jr_iadd dX1_note_69 ?_
  obtain ⟨fs5, e6, e7, k⟩ := k
  refine jr_putE jp_X1_20 dX1_note_70 e6 e7 rfl rfl (fun h8 eh9 => ?_)
  have k := k h8 eh9
  exact jr_vret rfl dX1_note_73 k
set_option maxRecDepth 20000 in
theorem bX1_tellingMost_0 {g : jG} {d : Nat} {hs : jH} {P : jO → jH → Prop} {x0 : Nat} {x1 : Int32} {h : jH} (k : ∃ fs1 : List Value, h.1 x0 = some (.inr (1, fs1)) ∧ ∃ v4 : Nat, fs1[0]? = some (.ref v4) ∧ ∃ (t5 : Nat) (z6 : vp_A), h.1 v4 = some (.inl (t5, z6)) ∧ (∃ ty9 : FieldType, jTy t5 = some ty9) ∧ J g mX1_tellingMost (d + 1) hs P 13 [(0, .ref x0), (1, .int x1), (2, .int (-1)), (3, .int ((nI z6.1) + 1)), (4, .int 0)] [] h) : J g mX1_tellingMost (d + 1) hs P 0 [(0, .ref x0), (1, .int x1)] [] h := by
  refine jr_iconst (v := (-1)) dX1_tellingMost_0 (by decide) ?_
  refine jr_istore_n (lv' := [(2, .int (-1)), (0, .ref x0), (1, .int x1)]) dX1_tellingMost_1 rfl (by decide) rfl ?_
  refine jr_aload_n 1 dX1_tellingMost_2 rfl rfl ?_
  obtain ⟨fs1, e2, v4, e3, k⟩ := k
  refine jr_get jf_X1_9 dX1_tellingMost_3 e2 e3 ?_
  obtain ⟨t5, z6, e7, ⟨ty9, e8⟩, k⟩ := k
  refine jr_alen (v := nI z6.1) dX1_tellingMost_6 e8 e7 rfl ?_
  refine jr_iconst (v := 1) dX1_tellingMost_7 (by decide) ?_
  refine jr_iadd dX1_tellingMost_8 ?_
  refine jr_istore_n (lv' := [(3, .int ((nI z6.1) + 1)), (2, .int (-1)), (0, .ref x0), (1, .int x1)]) dX1_tellingMost_9 rfl (by decide) rfl ?_
  refine jr_iconst (v := 0) dX1_tellingMost_10 (by decide) ?_
  refine jr_istore (lv' := [(4, .int 0), (3, .int ((nI z6.1) + 1)), (2, .int (-1)), (0, .ref x0), (1, .int x1)]) dX1_tellingMost_11 (by decide) rfl ?_
  exact jr_sub [3, 4, 2, 1, 0] rfl k
set_option maxRecDepth 20000 in
theorem bX1_tellingMost_13 {g : jG} {d : Nat} {hs : jH} {P : jO → jH → Prop} {x0 : Nat} {x1 : Int32} {x2 : Int32} {x3 : Int32} {x4 : Int32} {h : jH} (k : (x4 < x1 → (x4 < 7 → ∃ fs1 : List Value, h.1 x0 = some (.inr (1, fs1)) ∧ ∃ v4 : Int32, fs1[1]? = some (.int v4) ∧ (0 < v4 → ∃ fs5 : List Value, h.1 x0 = some (.inr (1, fs5)) ∧ ∃ v8 : Nat, fs5[2]? = some (.ref v8) ∧ ∃ (n9 : Nat) (f10 : Nat → Option Nat), h.1 v8 = some (.inl (7, (n9, .inr (.inr (.inr (.inr f10)))))) ∧ vp_in x4 n9 ∧ ∃ v13 : Nat, f10 x4.toNatClampNeg = some v13 ∧ ∃ fs15 : List Value, h.1 x0 = some (.inr (1, fs15)) ∧ ∃ v18 : Int32, fs15[1]? = some (.int v18) ∧ ∃ fs19 : List Value, h.1 x0 = some (.inr (1, fs19)) ∧ ∃ v22 : Nat, fs19[0]? = some (.ref v22) ∧ ∃ (t23 : Nat) (z24 : vp_A), h.1 v22 = some (.inl (t23, z24)) ∧ (∃ ty27 : FieldType, jTy t23 = some ty27) ∧ ∃ fs30 : List Value, h.1 x0 = some (.inr (1, fs30)) ∧ Con g mX1_mostAlike d [.ref x0, .ref v13, .int (jmin v18 ((nI z24.1)))] h (jPi (fun (r28 : Int32) (h29 : jH) => (r28 < x3 → J g mX1_tellingMost (d + 1) hs P 13 [(0, .ref x0), (1, .int x1), (2, .int x4), (3, .int r28), (4, .int (x4 + 1))] [] h29) ∧ (¬ r28 < x3 → J g mX1_tellingMost (d + 1) hs P 13 [(0, .ref x0), (1, .int x1), (2, .int x2), (3, .int x3), (4, .int (x4 + 1))] [] h29)) (fun E h' => P (.inr E) h'))) ∧ (¬ 0 < v4 → P (.inl (some (.int x2))) h)) ∧ (¬ x4 < 7 → P (.inl (some (.int x2))) h)) ∧ (¬ x4 < x1 → P (.inl (some (.int x2))) h)) : J g mX1_tellingMost (d + 1) hs P 13 [(0, .ref x0), (1, .int x1), (2, .int x2), (3, .int x3), (4, .int x4)] [] h := by
  refine jr_iload 4 dX1_tellingMost_13 rfl ?_
  refine jr_iload_n 1 dX1_tellingMost_15 rfl rfl ?_
  refine jr_icmp_ge (tgt := 76) dX1_tellingMost_16 (by decide) (fun c16 => ?_) (fun c16 => ?_)
  · have k := k.2 c16
    refine jr_iload_n 2 dX1_tellingMost_76 rfl rfl ?_
    exact jr_iret (ty := .int) rfl rfl dX1_tellingMost_77 k
  · have k := k.1 c16
    refine jr_iload 4 dX1_tellingMost_19 rfl ?_
    refine jr_bipush (v := 7) dX1_tellingMost_21 (by decide) ?_
    refine jr_icmp_ge (tgt := 76) dX1_tellingMost_23 (by decide) (fun c23 => ?_) (fun c23 => ?_)
    · have k := k.2 c23
      refine jr_iload_n 2 dX1_tellingMost_76 rfl rfl ?_
      exact jr_iret (ty := .int) rfl rfl dX1_tellingMost_77 k
    · have k := k.1 c23
      refine jr_aload_n 0 dX1_tellingMost_26 rfl rfl ?_
      obtain ⟨fs1, e2, v4, e3, k⟩ := k
      refine jr_get jf_X1_20 dX1_tellingMost_27 e2 e3 ?_
      refine jr_if_le (tgt := 76) dX1_tellingMost_30 (by decide) (fun c30 => ?_) (fun c30 => ?_)
      · have k := k.2 c30
        refine jr_iload_n 2 dX1_tellingMost_76 rfl rfl ?_
        exact jr_iret (ty := .int) rfl rfl dX1_tellingMost_77 k
      · have k := k.1 c30
        refine jr_aload_n 0 dX1_tellingMost_33 rfl rfl ?_
        refine jr_aload_n 0 dX1_tellingMost_34 rfl rfl ?_
        obtain ⟨fs5, e6, v8, e7, k⟩ := k
        refine jr_get jf_X1_17 dX1_tellingMost_35 e6 e7 ?_
        refine jr_iload 4 dX1_tellingMost_38 rfl ?_
        obtain ⟨n9, f10, e11, e12, v13, e14, k⟩ := k
        refine jr_qald7 dX1_tellingMost_40 e11 e12 ?_
        rw [e14]
        refine jr_aload_n 0 dX1_tellingMost_41 rfl rfl ?_
        obtain ⟨fs15, e16, v18, e17, k⟩ := k
        refine jr_get jf_X1_20 dX1_tellingMost_42 e16 e17 ?_
        refine jr_aload_n 0 dX1_tellingMost_45 rfl rfl ?_
        obtain ⟨fs19, e20, v22, e21, k⟩ := k
        refine jr_get jf_X1_9 dX1_tellingMost_46 e20 e21 ?_
        obtain ⟨t23, z24, e25, ⟨ty27, e26⟩, k⟩ := k
        refine jr_alen (v := nI z24.1) dX1_tellingMost_49 e26 e25 rfl ?_
        refine jr_mmin jl_X1_74 dX1_tellingMost_50 (Nat.le_of_ble_eq_true rfl) ?_
        obtain ⟨fs30, e31, k⟩ := k
        refine jr_cVi (As := [.ref v13, .int (jmin v18 ((nI z24.1)))]) jl_X1_80 km_X1_mostAlike rfl rfl dX1_tellingMost_53 e31 (Nat.le_of_ble_eq_true rfl) k (fun r28 h29 k => ?_)
        refine jr_istore (lv' := [(5, .int r28), (0, .ref x0), (1, .int x1), (2, .int x2), (3, .int x3), (4, .int x4)]) dX1_tellingMost_56 (by decide) rfl ?_
        refine jr_iload 0 dX1_tellingMost_58 rfl ?_
        refine jr_iload_n 4 dX1_tellingMost_60 rfl rfl ?_
        refine jr_icmp_ge (tgt := 70) dX1_tellingMost_61 (by decide) (fun c61 => ?_) (fun c61 => ?_)
        · have k := k.2 c61
          refine jr_iinc (v := (x4 + 1)) (lv' := [(4, .int (x4 + 1)), (5, .int r28), (0, .ref x0), (1, .int x1), (2, .int x2), (3, .int x3)]) 5 dX1_tellingMost_70 rfl rfl (by decide) rfl ?_
          refine jr_goto (tgt := 13) dX1_tellingMost_73 (by decide) ?_
          exact jr_sub [2, 3, 4, 5, 0] rfl k
        · have k := k.1 c61
          refine jr_iload 0 dX1_tellingMost_64 rfl ?_
          refine jr_istore_n (lv' := [(3, .int r28), (5, .int r28), (0, .ref x0), (1, .int x1), (2, .int x2), (4, .int x4)]) dX1_tellingMost_66 rfl (by decide) rfl ?_
          refine jr_iload 5 dX1_tellingMost_67 rfl ?_
          refine jr_istore_n (lv' := [(2, .int x4), (3, .int r28), (5, .int r28), (0, .ref x0), (1, .int x1), (4, .int x4)]) dX1_tellingMost_69 rfl (by decide) rfl ?_
          refine jr_iinc (v := (x4 + 1)) (lv' := [(4, .int (x4 + 1)), (2, .int x4), (3, .int r28), (5, .int r28), (0, .ref x0), (1, .int x1)]) 5 dX1_tellingMost_70 rfl rfl (by decide) rfl ?_
          refine jr_goto (tgt := 13) dX1_tellingMost_73 (by decide) ?_
          exact jr_sub [4, 5, 1, 2, 0] rfl k
set_option maxRecDepth 20000 in
theorem bX1_mostAlike_0 {g : jG} {d : Nat} {hs : jH} {P : jO → jH → Prop} {x0 : Nat} {x1 : Nat} {x2 : Int32} {h : jH} (k : ∃ fs3 : List Value, h.1 x0 = some (.inr (1, fs3)) ∧ Con g mX1_sort d [.ref x0, .ref x1, .int x2] h (jPv (fun (h2 : jH) => J g mX1_mostAlike (d + 1) hs P 14 [(1, .ref x1), (2, .int x2), (3, .int 0), (4, .int 0), (5, .int 0)] [] h2) (fun E h' => P (.inr E) h'))) : J g mX1_mostAlike (d + 1) hs P 0 [(0, .ref x0), (1, .ref x1), (2, .int x2)] [] h := by
  refine jr_aload_n 0 dX1_mostAlike_0 rfl rfl ?_
  refine jr_aload_n 1 dX1_mostAlike_1 rfl rfl ?_
  refine jr_iload_n 2 dX1_mostAlike_2 rfl rfl ?_
  obtain ⟨fs3, e4, k⟩ := k
  refine jr_cVv (As := [.ref x1, .int x2]) jl_X1_84 km_X1_sort rfl rfl dX1_mostAlike_3 e4 (Nat.le_of_ble_eq_true rfl) k (fun h2 k => ?_)
  refine jr_iconst (v := 0) dX1_mostAlike_6 (by decide) ?_
  refine jr_istore_n (lv' := [(3, .int 0), (0, .ref x0), (1, .ref x1), (2, .int x2)]) dX1_mostAlike_7 rfl (by decide) rfl ?_
  refine jr_iconst (v := 0) dX1_mostAlike_8 (by decide) ?_
  refine jr_istore (lv' := [(4, .int 0), (3, .int 0), (0, .ref x0), (1, .ref x1), (2, .int x2)]) dX1_mostAlike_9 (by decide) rfl ?_
  refine jr_iconst (v := 0) dX1_mostAlike_11 (by decide) ?_
  refine jr_istore (lv' := [(5, .int 0), (4, .int 0), (3, .int 0), (0, .ref x0), (1, .ref x1), (2, .int x2)]) dX1_mostAlike_12 (by decide) rfl ?_
  exact jr_sub [4, 5, 2, 1, 0] rfl k
set_option maxRecDepth 20000 in
theorem bX1_mostAlike_14 {g : jG} {d : Nat} {hs : jH} {P : jO → jH → Prop} {x1 : Nat} {x2 : Int32} {x3 : Int32} {x4 : Int32} {x5 : Int32} {h : jH} (k : (x5 < x2 → (0 < x5 → ∃ (n1 : Nat) (f2 : Nat → Int32), h.1 x1 = some (.inl (0, (n1, .inl f2))) ∧ vp_in x5 n1 ∧ ∃ (n5 : Nat) (f6 : Nat → Int32), h.1 x1 = some (.inl (0, (n5, .inl f6))) ∧ vp_in (x5 - 1) n5 ∧ ((f2 x5.toNatClampNeg) = (f6 ((x5 - 1)).toNatClampNeg) → J g mX1_mostAlike (d + 1) hs P 46 [(1, .ref x1), (2, .int x2), (3, .int x3), (5, .int x5)] [.int (x4 + 1)] h) ∧ (¬ (f2 x5.toNatClampNeg) = (f6 ((x5 - 1)).toNatClampNeg) → J g mX1_mostAlike (d + 1) hs P 45 [(1, .ref x1), (2, .int x2), (3, .int x3), (5, .int x5)] [] h)) ∧ (¬ 0 < x5 → J g mX1_mostAlike (d + 1) hs P 45 [(1, .ref x1), (2, .int x2), (3, .int x3), (5, .int x5)] [] h)) ∧ (¬ x5 < x2 → P (.inl (some (.int x3))) h)) : J g mX1_mostAlike (d + 1) hs P 14 [(1, .ref x1), (2, .int x2), (3, .int x3), (4, .int x4), (5, .int x5)] [] h := by
  refine jr_iload 4 dX1_mostAlike_14 rfl ?_
  refine jr_iload_n 1 dX1_mostAlike_16 rfl rfl ?_
  refine jr_icmp_ge (tgt := 61) dX1_mostAlike_17 (by decide) (fun c17 => ?_) (fun c17 => ?_)
  · have k := k.2 c17
    refine jr_iload_n 2 dX1_mostAlike_61 rfl rfl ?_
    exact jr_iret (ty := .int) rfl rfl dX1_mostAlike_62 k
  · have k := k.1 c17
    refine jr_iload 4 dX1_mostAlike_20 rfl ?_
    refine jr_if_le (tgt := 45) dX1_mostAlike_22 (by decide) (fun c22 => ?_) (fun c22 => ?_)
    · have k := k.2 c22
      exact jr_sub [0, 1, 2, 4] rfl k
    · have k := k.1 c22
      refine jr_aload_n 0 dX1_mostAlike_25 rfl rfl ?_
      refine jr_iload 4 dX1_mostAlike_26 rfl ?_
      obtain ⟨n1, f2, e3, e4, k⟩ := k
      refine jr_iald dX1_mostAlike_28 e3 e4 ?_
      refine jr_aload_n 0 dX1_mostAlike_29 rfl rfl ?_
      refine jr_iload 4 dX1_mostAlike_30 rfl ?_
      refine jr_iconst (v := 1) dX1_mostAlike_32 (by decide) ?_
      refine jr_isub dX1_mostAlike_33 ?_
      obtain ⟨n5, f6, e7, e8, k⟩ := k
      refine jr_iald dX1_mostAlike_34 e7 e8 ?_
      refine jr_icmp_ne (tgt := 45) dX1_mostAlike_35 (by decide) (fun c35 => ?_) (fun c35 => ?_)
      · have k := k.2 c35
        exact jr_sub [0, 1, 2, 4] rfl k
      · have k := k.1 c35
        refine jr_iload 3 dX1_mostAlike_38 rfl ?_
        refine jr_iconst (v := 1) dX1_mostAlike_40 (by decide) ?_
        refine jr_iadd dX1_mostAlike_41 ?_
        refine jr_goto (tgt := 46) dX1_mostAlike_42 (by decide) ?_
        exact jr_sub [0, 1, 2, 4] rfl k
set_option maxRecDepth 20000 in
theorem bX1_mostAlike_45 {g : jG} {d : Nat} {hs : jH} {P : jO → jH → Prop} {x1 : Nat} {x2 : Int32} {x3 : Int32} {x5 : Int32} {h : jH} (k : J g mX1_mostAlike (d + 1) hs P 46 [(1, .ref x1), (2, .int x2), (3, .int x3), (5, .int x5)] [.int 1] h) : J g mX1_mostAlike (d + 1) hs P 45 [(1, .ref x1), (2, .int x2), (3, .int x3), (5, .int x5)] [] h := by
  refine jr_iconst (v := 1) dX1_mostAlike_45 (by decide) ?_
  exact jr_sub [0, 1, 2, 3] rfl k
set_option maxRecDepth 20000 in
theorem bX1_mostAlike_46 {g : jG} {d : Nat} {hs : jH} {P : jO → jH → Prop} {x1 : Nat} {x2 : Int32} {x3 : Int32} {x5 : Int32} {s0 : Int32} {h : jH} (k : J g mX1_mostAlike (d + 1) hs P 14 [(1, .ref x1), (2, .int x2), (3, .int (jmax x3 s0)), (4, .int s0), (5, .int (x5 + 1))] [] h) : J g mX1_mostAlike (d + 1) hs P 46 [(1, .ref x1), (2, .int x2), (3, .int x3), (5, .int x5)] [.int s0] h := by
  refine jr_istore (lv' := [(4, .int s0), (1, .ref x1), (2, .int x2), (3, .int x3), (5, .int x5)]) dX1_mostAlike_46 (by decide) rfl ?_
  refine jr_iload_n 3 dX1_mostAlike_48 rfl rfl ?_
  refine jr_iload 0 dX1_mostAlike_49 rfl ?_
  refine jr_mmax jl_X1_88 dX1_mostAlike_51 (Nat.le_of_ble_eq_true rfl) ?_
  refine jr_istore_n (lv' := [(3, .int (jmax x3 s0)), (4, .int s0), (1, .ref x1), (2, .int x2), (5, .int x5)]) dX1_mostAlike_54 rfl (by decide) rfl ?_
  refine jr_iinc (v := (x5 + 1)) (lv' := [(5, .int (x5 + 1)), (3, .int (jmax x3 s0)), (4, .int s0), (1, .ref x1), (2, .int x2)]) 4 dX1_mostAlike_55 rfl rfl (by decide) rfl ?_
  refine jr_goto (tgt := 14) dX1_mostAlike_58 (by decide) ?_
  exact jr_sub [3, 4, 1, 2, 0] rfl k
set_option maxRecDepth 20000 in
theorem bX1_sort_0 {g : jG} {d : Nat} {hs : jH} {P : jO → jH → Prop} {x0 : Nat} {x1 : Nat} {x2 : Int32} {h : jH} (k : J g mX1_sort (d + 1) hs P 4 [(1, .ref x1), (2, .int x2), (3, .int (x2 / 2))] [] h) : J g mX1_sort (d + 1) hs P 0 [(0, .ref x0), (1, .ref x1), (2, .int x2)] [] h := by
  refine jr_iload_n 2 dX1_sort_0 rfl rfl ?_
  refine jr_iconst (v := 2) dX1_sort_1 (by decide) ?_
  refine jr_idiv dX1_sort_2 (by decide) ?_
  refine jr_istore_n (lv' := [(3, .int (x2 / 2)), (0, .ref x0), (1, .ref x1), (2, .int x2)]) dX1_sort_3 rfl (by decide) rfl ?_
  exact jr_sub [2, 3, 0] rfl k
set_option maxRecDepth 20000 in
theorem bX1_sort_4 {g : jG} {d : Nat} {hs : jH} {P : jO → jH → Prop} {x1 : Nat} {x2 : Int32} {x3 : Int32} {h : jH} (k : (0 < x3 → J g mX1_sort (d + 1) hs P 11 [(1, .ref x1), (2, .int x2), (3, .int x3), (4, .int x3)] [] h) ∧ (¬ 0 < x3 → P (.inl none) h)) : J g mX1_sort (d + 1) hs P 4 [(1, .ref x1), (2, .int x2), (3, .int x3)] [] h := by
  refine jr_iload_n 2 dX1_sort_4 rfl rfl ?_
  refine jr_if_le (tgt := 82) dX1_sort_5 (by decide) (fun c5 => ?_) (fun c5 => ?_)
  · have k := k.2 c5
    exact jr_vret rfl dX1_sort_82 k
  · have k := k.1 c5
    refine jr_iload_n 2 dX1_sort_8 rfl rfl ?_
    refine jr_istore (lv' := [(4, .int x3), (1, .ref x1), (2, .int x2), (3, .int x3)]) dX1_sort_9 (by decide) rfl ?_
    exact jr_sub [1, 2, 3, 0] rfl k
set_option maxRecDepth 20000 in
theorem bX1_sort_11 {g : jG} {d : Nat} {hs : jH} {P : jO → jH → Prop} {x1 : Nat} {x2 : Int32} {x3 : Int32} {x4 : Int32} {h : jH} (k : (x4 < x2 → ∃ (n1 : Nat) (f2 : Nat → Int32), h.1 x1 = some (.inl (0, (n1, .inl f2))) ∧ vp_in x4 n1 ∧ J g mX1_sort (d + 1) hs P 27 [(1, .ref x1), (2, .int x2), (3, .int x3), (4, .int x4), (5, .int (f2 x4.toNatClampNeg)), (6, .int x4)] [] h) ∧ (¬ x4 < x2 → J g mX1_sort (d + 1) hs P 4 [(1, .ref x1), (2, .int x2), (3, .int (x3 / 2))] [] h)) : J g mX1_sort (d + 1) hs P 11 [(1, .ref x1), (2, .int x2), (3, .int x3), (4, .int x4)] [] h := by
  refine jr_iload 3 dX1_sort_11 rfl ?_
  refine jr_iload_n 1 dX1_sort_13 rfl rfl ?_
  refine jr_icmp_ge (tgt := 75) dX1_sort_14 (by decide) (fun c14 => ?_) (fun c14 => ?_)
  · have k := k.2 c14
    refine jr_iload_n 2 dX1_sort_75 rfl rfl ?_
    refine jr_iconst (v := 2) dX1_sort_76 (by decide) ?_
    refine jr_idiv dX1_sort_77 (by decide) ?_
    refine jr_istore_n (lv' := [(3, .int (x3 / 2)), (1, .ref x1), (2, .int x2), (4, .int x4)]) dX1_sort_78 rfl (by decide) rfl ?_
    refine jr_goto (tgt := 4) dX1_sort_79 (by decide) ?_
    exact jr_sub [1, 2, 0] rfl k
  · have k := k.1 c14
    refine jr_aload_n 0 dX1_sort_17 rfl rfl ?_
    refine jr_iload 3 dX1_sort_18 rfl ?_
    obtain ⟨n1, f2, e3, e4, k⟩ := k
    refine jr_iald dX1_sort_20 e3 e4 ?_
    refine jr_istore (lv' := [(5, .int (f2 x4.toNatClampNeg)), (1, .ref x1), (2, .int x2), (3, .int x3), (4, .int x4)]) dX1_sort_21 (by decide) rfl ?_
    refine jr_iload 4 dX1_sort_23 rfl ?_
    refine jr_istore (lv' := [(6, .int x4), (5, .int (f2 x4.toNatClampNeg)), (1, .ref x1), (2, .int x2), (3, .int x3), (4, .int x4)]) dX1_sort_25 (by decide) rfl ?_
    exact jr_sub [2, 3, 4, 5, 1, 0] rfl k
set_option maxRecDepth 20000 in
theorem bX1_sort_27 {g : jG} {d : Nat} {hs : jH} {P : jO → jH → Prop} {x1 : Nat} {x2 : Int32} {x3 : Int32} {x4 : Int32} {x5 : Int32} {x6 : Int32} {h : jH} (k : (x6 < x3 → J g mX1_sort (d + 1) hs P 63 [(1, .ref x1), (2, .int x2), (3, .int x3), (4, .int x4), (5, .int x5), (6, .int x6)] [] h) ∧ (¬ x6 < x3 → ∃ (n1 : Nat) (f2 : Nat → Int32), h.1 x1 = some (.inl (0, (n1, .inl f2))) ∧ vp_in (x6 - x3) n1 ∧ (x5 < (f2 ((x6 - x3)).toNatClampNeg) → ∃ (n5 : Nat) (f6 : Nat → Int32), h.1 x1 = some (.inl (0, (n5, .inl f6))) ∧ vp_in (x6 - x3) n5 ∧ ∃ (n9 : Nat) (f10 : Nat → Int32), h.1 x1 = some (.inl (0, (n9, .inl f10))) ∧ vp_in x6 n9 ∧ ∀ h13 : jH, h13 = jset h x1 (.inl (0, (n9, .inl (upd f10 x6.toNatClampNeg ((f6 ((x6 - x3)).toNatClampNeg)))))) → J g mX1_sort (d + 1) hs P 27 [(1, .ref x1), (2, .int x2), (3, .int x3), (4, .int x4), (5, .int x5), (6, .int (x6 - x3))] [] h13) ∧ (¬ x5 < (f2 ((x6 - x3)).toNatClampNeg) → J g mX1_sort (d + 1) hs P 63 [(1, .ref x1), (2, .int x2), (3, .int x3), (4, .int x4), (5, .int x5), (6, .int x6)] [] h))) : J g mX1_sort (d + 1) hs P 27 [(1, .ref x1), (2, .int x2), (3, .int x3), (4, .int x4), (5, .int x5), (6, .int x6)] [] h := by
  refine jr_iload 5 dX1_sort_27 rfl ?_
  refine jr_iload_n 2 dX1_sort_29 rfl rfl ?_
  refine jr_icmp_lt (tgt := 63) dX1_sort_30 (by decide) (fun c30 => ?_) (fun c30 => ?_)
  · have k := k.1 c30
    exact jr_sub [0, 1, 2, 3, 4, 5] rfl k
  · have k := k.2 c30
    refine jr_aload_n 0 dX1_sort_33 rfl rfl ?_
    refine jr_iload 5 dX1_sort_34 rfl ?_
    refine jr_iload_n 2 dX1_sort_36 rfl rfl ?_
    refine jr_isub dX1_sort_37 ?_
    obtain ⟨n1, f2, e3, e4, k⟩ := k
    refine jr_iald dX1_sort_38 e3 e4 ?_
    refine jr_iload 4 dX1_sort_39 rfl ?_
    refine jr_icmp_le (tgt := 63) dX1_sort_41 (by decide) (fun c41 => ?_) (fun c41 => ?_)
    · have k := k.2 c41
      exact jr_sub [0, 1, 2, 3, 4, 5] rfl k
    · have k := k.1 c41
      refine jr_aload_n 0 dX1_sort_44 rfl rfl ?_
      refine jr_iload 5 dX1_sort_45 rfl ?_
      refine jr_aload_n 0 dX1_sort_47 rfl rfl ?_
      refine jr_iload 5 dX1_sort_48 rfl ?_
      refine jr_iload_n 2 dX1_sort_50 rfl rfl ?_
      refine jr_isub dX1_sort_51 ?_
      obtain ⟨n5, f6, e7, e8, k⟩ := k
      refine jr_iald dX1_sort_52 e7 e8 ?_
      obtain ⟨n9, f10, e11, e12, k⟩ := k
      refine jr_iastE dX1_sort_53 e11 e12 (fun h13 eh14 => ?_)
      have k := k h13 eh14
      refine jr_iload 5 dX1_sort_54 rfl ?_
      refine jr_iload_n 2 dX1_sort_56 rfl rfl ?_
      refine jr_isub dX1_sort_57 ?_
      refine jr_istore (lv' := [(6, .int (x6 - x3)), (1, .ref x1), (2, .int x2), (3, .int x3), (4, .int x4), (5, .int x5)]) dX1_sort_58 (by decide) rfl ?_
      refine jr_goto (tgt := 27) dX1_sort_60 (by decide) ?_
      exact jr_sub [1, 2, 3, 4, 5, 0] rfl k
set_option maxRecDepth 20000 in
theorem bX1_sort_63 {g : jG} {d : Nat} {hs : jH} {P : jO → jH → Prop} {x1 : Nat} {x2 : Int32} {x3 : Int32} {x4 : Int32} {x5 : Int32} {x6 : Int32} {h : jH} (k : ∃ (n1 : Nat) (f2 : Nat → Int32), h.1 x1 = some (.inl (0, (n1, .inl f2))) ∧ vp_in x6 n1 ∧ ∀ h5 : jH, h5 = jset h x1 (.inl (0, (n1, .inl (upd f2 x6.toNatClampNeg x5)))) → J g mX1_sort (d + 1) hs P 11 [(1, .ref x1), (2, .int x2), (3, .int x3), (4, .int (x4 + 1))] [] h5) : J g mX1_sort (d + 1) hs P 63 [(1, .ref x1), (2, .int x2), (3, .int x3), (4, .int x4), (5, .int x5), (6, .int x6)] [] h := by
  refine jr_aload_n 0 dX1_sort_63 rfl rfl ?_
  refine jr_iload 5 dX1_sort_64 rfl ?_
  refine jr_iload 4 dX1_sort_66 rfl ?_
  obtain ⟨n1, f2, e3, e4, k⟩ := k
  refine jr_iastE dX1_sort_68 e3 e4 (fun h5 eh6 => ?_)
  have k := k h5 eh6
  refine jr_iinc (v := (x4 + 1)) (lv' := [(4, .int (x4 + 1)), (1, .ref x1), (2, .int x2), (3, .int x3), (5, .int x5), (6, .int x6)]) 3 dX1_sort_69 rfl rfl (by decide) rfl ?_
  refine jr_goto (tgt := 11) dX1_sort_72 (by decide) ?_
  exact jr_sub [1, 2, 3, 0] rfl k
