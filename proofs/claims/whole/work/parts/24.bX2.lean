set_option maxRecDepth 20000 in
theorem bX2_init_0 {g : jG} {d : Nat} {hs : jH} {P : jO → jH → Prop} {x0 : Nat} {h : jH} (k : ∃ N1 : Nat, (10 : Int32) = nI N1 ∧ N1 < 100000 ∧ jroom g h 1 N1 ∧ ∀ (q4 : Nat) (h5 : jH), q4 = h.2.1 → h5 = jnew h (.inl (4, (N1, .inr (.inr (.inr (.inr (fun _ => none))))))) N1 → ∃ fs9 : List Value, h5.1 x0 = some (.inr (2, fs9)) ∧ 1 < fs9.length ∧ (∀ h12 : jH, h12 = jset h5 x0 (.inr (2, fs9.set 1 (.ref q4))) → J g mX2_init (d + 1) hs P 15 [(0, .ref x0), (1, .int 0)] [] h12)) : J g mX2_init (d + 1) hs P 0 [(0, .ref x0)] [] h := by
  refine jr_aload_n 0 dX2_init_0 rfl rfl ?_
  refine jr_objInit jl_X2_3 dX2_init_1 (Nat.le_of_ble_eq_true rfl) ?_
  refine jr_aload_n 0 dX2_init_4 rfl rfl ?_
  refine jr_bipush (v := 10) dX2_init_5 (by decide) ?_
  obtain ⟨N1, e2, e3, rm8, k⟩ := k
  refine jr_newq4E jcl_X2_9 jao_4 e2 e3 rm8 dX2_init_7 (fun q4 h5 eq6 eh7 => ?_)
  have k := k q4 h5 eq6 eh7
  obtain ⟨fs9, e10, e11, k⟩ := k
  refine jr_putFE jp_X2_11 (fun C T N hc => by cases hc; rfl) rfl dX2_init_10 e10 e11 rfl rfl (fun h12 eh13 => ?_)
  have k := k h12 eh13
  refine jr_iconst (v := 0) dX2_init_13 (by decide) ?_
  refine jr_istore_n (lv' := [(1, .int 0), (0, .ref x0)]) dX2_init_14 rfl (by decide) rfl ?_
  exact jr_sub [1, 0] rfl k
set_option maxRecDepth 20000 in
theorem bX2_init_15 {g : jG} {d : Nat} {hs : jH} {P : jO → jH → Prop} {x0 : Nat} {x1 : Int32} {h : jH} (k : ∃ fs1 : List Value, h.1 x0 = some (.inr (2, fs1)) ∧ ∃ v4 : Nat, fs1[1]? = some (.ref v4) ∧ ∃ (t5 : Nat) (z6 : vp_A), h.1 v4 = some (.inl (t5, z6)) ∧ (∃ ty9 : FieldType, jTy t5 = some ty9) ∧ (x1 < (nI z6.1) → ∃ fs10 : List Value, h.1 x0 = some (.inr (2, fs10)) ∧ ∃ v13 : Nat, fs10[1]? = some (.ref v13) ∧ jroom g h 1 9 ∧ ∀ (q14 : Nat) (h15 : jH), q14 = h.2.1 → h15 = jnew h (.inr (6, [.int 0, .int 0, .int 0, .null, .null, .null, .null, .null, .null])) 9 → Con g mX6_init d [.ref q14] h15 (jPv (fun (h20 : jH) => ∃ (n21 : Nat) (f22 : Nat → Option Nat), h20.1 v13 = some (.inl (4, (n21, .inr (.inr (.inr (.inr f22)))))) ∧ vp_in x1 n21 ∧ ∃ vs27 : List Value, h20.1 q14 = some (.inr (6, vs27)) ∧ ∀ h25 : jH, h25 = jset h20 v13 (.inl (4, (n21, .inr (.inr (.inr (.inr (va_up f22 x1.toNatClampNeg (some q14)))))))) → J g mX2_init (d + 1) hs P 15 [(0, .ref x0), (1, .int (x1 + 1))] [] h25) (fun E h' => P (.inr E) h'))) ∧ (¬ x1 < (nI z6.1) → P (.inl none) h)) : J g mX2_init (d + 1) hs P 15 [(0, .ref x0), (1, .int x1)] [] h := by
  refine jr_iload_n 1 dX2_init_15 rfl rfl ?_
  refine jr_aload_n 0 dX2_init_16 rfl rfl ?_
  obtain ⟨fs1, e2, v4, e3, k⟩ := k
  refine jr_get jf_X2_11 dX2_init_17 e2 e3 ?_
  obtain ⟨t5, z6, e7, ⟨ty9, e8⟩, k⟩ := k
  refine jr_alen (v := nI z6.1) dX2_init_20 e8 e7 rfl ?_
  refine jr_icmp_ge (tgt := 43) dX2_init_21 (by decide) (fun c21 => ?_) (fun c21 => ?_)
  · have k := k.2 c21
    exact jr_vret rfl dX2_init_43 k
  · have k := k.1 c21
    refine jr_aload_n 0 dX2_init_24 rfl rfl ?_
    obtain ⟨fs10, e11, v13, e12, k⟩ := k
    refine jr_get jf_X2_11 dX2_init_25 e11 e12 ?_
    refine jr_iload_n 1 dX2_init_28 rfl rfl ?_
    obtain ⟨rm18, k⟩ := k
    refine jr_newE (fs := [.int 0, .int 0, .int 0, .null, .null, .null, .null, .null, .null]) jn_X2_9 jfs_6 rm18 dX2_init_29 (fun q14 h15 eq16 eh17 => ?_)
    have k := k q14 h15 eq16 eh17
    refine jr_dup dX2_init_32 rfl ?_
    refine jr_cNv (As := []) jl_X2_17 km_X6_init rfl rfl dX2_init_33 (Nat.le_of_ble_eq_true rfl) k (fun h20 k => ?_)
    obtain ⟨n21, f22, e23, e24, vs27, e28, k⟩ := k
    refine jr_qast4E dX2_init_36 e23 e28 e24 (fun h25 eh26 => ?_)
    have k := k h25 eh26
    refine jr_iinc (v := (x1 + 1)) (lv' := [(1, .int (x1 + 1)), (0, .ref x0)]) 1 dX2_init_37 rfl rfl (by decide) rfl ?_
    refine jr_goto (tgt := 15) dX2_init_40 (by decide) ?_
    exact jr_sub [1, 0] rfl k
set_option maxRecDepth 20000 in
theorem bX2_remember_0 {g : jG} {d : Nat} {hs : jH} {P : jO → jH → Prop} {x0 : Nat} {x1 : Nat} {h : jH} (k : ∃ fs1 : List Value, h.1 x0 = some (.inr (2, fs1)) ∧ ∃ v4 : Int32, fs1[0]? = some (.int v4) ∧ (v4 < 0 → ∃ fs5 : List Value, h.1 x0 = some (.inr (2, fs5)) ∧ ∃ v8 : Nat, fs5[1]? = some (.ref v8) ∧ ∃ (n9 : Nat) (f10 : Nat → Option Nat), h.1 v8 = some (.inl (4, (n9, .inr (.inr (.inr (.inr f10)))))) ∧ vp_in 0 n9 ∧ ∃ v13 : Nat, f10 ((0 : Int32)).toNatClampNeg = some v13 ∧ J g mX2_remember (d + 1) hs P 28 [(0, .ref x0), (1, .ref x1), (2, .ref v13), (3, .int 1)] [] h) ∧ (¬ v4 < 0 → ∃ fs15 : List Value, h.1 x0 = some (.inr (2, fs15)) ∧ ∃ v18 : Int32, fs15[0]? = some (.int v18) ∧ ∃ fs19 : List Value, h.1 x0 = some (.inr (2, fs19)) ∧ ∃ v22 : Nat, fs19[1]? = some (.ref v22) ∧ ∃ (t23 : Nat) (z24 : vp_A), h.1 v22 = some (.inl (t23, z24)) ∧ (∃ ty27 : FieldType, jTy t23 = some ty27) ∧ (v18 < (nI z24.1) → J g mX2_remember (d + 1) hs P 81 [(0, .ref x0), (1, .ref x1)] [] h) ∧ (¬ v18 < (nI z24.1) → ∃ fs28 : List Value, h.1 x0 = some (.inr (2, fs28)) ∧ ∃ v31 : Nat, fs28[1]? = some (.ref v31) ∧ ∃ (n32 : Nat) (f33 : Nat → Option Nat), h.1 v31 = some (.inl (4, (n32, .inr (.inr (.inr (.inr f33)))))) ∧ vp_in 0 n32 ∧ ∃ v36 : Nat, f33 ((0 : Int32)).toNatClampNeg = some v36 ∧ J g mX2_remember (d + 1) hs P 28 [(0, .ref x0), (1, .ref x1), (2, .ref v36), (3, .int 1)] [] h))) : J g mX2_remember (d + 1) hs P 0 [(0, .ref x0), (1, .ref x1)] [] h := by
  refine jr_aload_n 0 dX2_remember_0 rfl rfl ?_
  obtain ⟨fs1, e2, v4, e3, k⟩ := k
  refine jr_get jf_X2_18 dX2_remember_1 e2 e3 ?_
  refine jr_if_lt (tgt := 19) dX2_remember_4 (by decide) (fun c4 => ?_) (fun c4 => ?_)
  · have k := k.1 c4
    refine jr_aload_n 0 dX2_remember_19 rfl rfl ?_
    obtain ⟨fs5, e6, v8, e7, k⟩ := k
    refine jr_get jf_X2_11 dX2_remember_20 e6 e7 ?_
    refine jr_iconst (v := 0) dX2_remember_23 (by decide) ?_
    obtain ⟨n9, f10, e11, e12, v13, e14, k⟩ := k
    refine jr_qald4 dX2_remember_24 e11 e12 ?_
    rw [e14]
    refine jr_astore_n (lv' := [(2, .ref v13), (0, .ref x0), (1, .ref x1)]) dX2_remember_25 rfl (by decide) rfl ?_
    refine jr_iconst (v := 1) dX2_remember_26 (by decide) ?_
    refine jr_istore_n (lv' := [(3, .int 1), (2, .ref v13), (0, .ref x0), (1, .ref x1)]) dX2_remember_27 rfl (by decide) rfl ?_
    exact jr_sub [2, 3, 1, 0] rfl k
  · have k := k.2 c4
    refine jr_aload_n 0 dX2_remember_7 rfl rfl ?_
    obtain ⟨fs15, e16, v18, e17, k⟩ := k
    refine jr_get jf_X2_18 dX2_remember_8 e16 e17 ?_
    refine jr_aload_n 0 dX2_remember_11 rfl rfl ?_
    obtain ⟨fs19, e20, v22, e21, k⟩ := k
    refine jr_get jf_X2_11 dX2_remember_12 e20 e21 ?_
    obtain ⟨t23, z24, e25, ⟨ty27, e26⟩, k⟩ := k
    refine jr_alen (v := nI z24.1) dX2_remember_15 e26 e25 rfl ?_
    refine jr_icmp_lt (tgt := 81) dX2_remember_16 (by decide) (fun c16 => ?_) (fun c16 => ?_)
    · have k := k.1 c16
      exact jr_sub [0, 1] rfl k
    · have k := k.2 c16
      refine jr_aload_n 0 dX2_remember_19 rfl rfl ?_
      obtain ⟨fs28, e29, v31, e30, k⟩ := k
      refine jr_get jf_X2_11 dX2_remember_20 e29 e30 ?_
      refine jr_iconst (v := 0) dX2_remember_23 (by decide) ?_
      obtain ⟨n32, f33, e34, e35, v36, e37, k⟩ := k
      refine jr_qald4 dX2_remember_24 e34 e35 ?_
      rw [e37]
      refine jr_astore_n (lv' := [(2, .ref v36), (0, .ref x0), (1, .ref x1)]) dX2_remember_25 rfl (by decide) rfl ?_
      refine jr_iconst (v := 1) dX2_remember_26 (by decide) ?_
      refine jr_istore_n (lv' := [(3, .int 1), (2, .ref v36), (0, .ref x0), (1, .ref x1)]) dX2_remember_27 rfl (by decide) rfl ?_
      exact jr_sub [2, 3, 1, 0] rfl k
set_option maxRecDepth 20000 in
theorem bX2_remember_28 {g : jG} {d : Nat} {hs : jH} {P : jO → jH → Prop} {x0 : Nat} {x1 : Nat} {x2 : Nat} {x3 : Int32} {h : jH} (k : ∃ fs1 : List Value, h.1 x0 = some (.inr (2, fs1)) ∧ ∃ v4 : Nat, fs1[1]? = some (.ref v4) ∧ ∃ (t5 : Nat) (z6 : vp_A), h.1 v4 = some (.inl (t5, z6)) ∧ (∃ ty9 : FieldType, jTy t5 = some ty9) ∧ (x3 < (nI z6.1) → ∃ fs45 : List Value, h.1 x0 = some (.inr (2, fs45)) ∧ ∃ v48 : Nat, fs45[1]? = some (.ref v48) ∧ ∃ fs49 : List Value, h.1 x0 = some (.inr (2, fs49)) ∧ ∃ v52 : Nat, fs49[1]? = some (.ref v52) ∧ ∃ (n53 : Nat) (f54 : Nat → Option Nat), h.1 v52 = some (.inl (4, (n53, .inr (.inr (.inr (.inr f54)))))) ∧ vp_in x3 n53 ∧ ∃ v57 : Nat, f54 x3.toNatClampNeg = some v57 ∧ ∃ (n59 : Nat) (f60 : Nat → Option Nat), h.1 v48 = some (.inl (4, (n59, .inr (.inr (.inr (.inr f60)))))) ∧ vp_in (x3 - 1) n59 ∧ ∃ vs65 : List Value, h.1 v57 = some (.inr (6, vs65)) ∧ ∀ h63 : jH, h63 = jset h v48 (.inl (4, (n59, .inr (.inr (.inr (.inr (va_up f60 ((x3 - 1)).toNatClampNeg (some v57)))))))) → J g mX2_remember (d + 1) hs P 28 [(0, .ref x0), (1, .ref x1), (2, .ref x2), (3, .int (x3 + 1))] [] h63) ∧ (¬ x3 < (nI z6.1) → ∃ fs10 : List Value, h.1 x0 = some (.inr (2, fs10)) ∧ ∃ v13 : Nat, fs10[1]? = some (.ref v13) ∧ ∃ fs14 : List Value, h.1 x0 = some (.inr (2, fs14)) ∧ ∃ v17 : Nat, fs14[1]? = some (.ref v17) ∧ ∃ (t18 : Nat) (z19 : vp_A), h.1 v17 = some (.inl (t18, z19)) ∧ (∃ ty22 : FieldType, jTy t18 = some ty22) ∧ ∃ (n23 : Nat) (f24 : Nat → Option Nat), h.1 v13 = some (.inl (4, (n23, .inr (.inr (.inr (.inr f24)))))) ∧ vp_in ((nI z19.1) - 1) n23 ∧ ∃ vs29 : List Value, h.1 x2 = some (.inr (6, vs29)) ∧ ∀ h27 : jH, h27 = jset h v13 (.inl (4, (n23, .inr (.inr (.inr (.inr (va_up f24 (((nI z19.1) - 1)).toNatClampNeg (some x2)))))))) → ∃ fs31 : List Value, h27.1 x0 = some (.inr (2, fs31)) ∧ ∃ v34 : Nat, fs31[1]? = some (.ref v34) ∧ ∃ (t35 : Nat) (z36 : vp_A), h27.1 v34 = some (.inl (t35, z36)) ∧ (∃ ty39 : FieldType, jTy t35 = some ty39) ∧ ∃ fs40 : List Value, h27.1 x0 = some (.inr (2, fs40)) ∧ 0 < fs40.length ∧ (∀ h43 : jH, h43 = jset h27 x0 (.inr (2, fs40.set 0 (.int ((nI z36.1) - 1)))) → J g mX2_remember (d + 1) hs P 81 [(0, .ref x0), (1, .ref x1)] [] h43))) : J g mX2_remember (d + 1) hs P 28 [(0, .ref x0), (1, .ref x1), (2, .ref x2), (3, .int x3)] [] h := by
  refine jr_iload_n 3 dX2_remember_28 rfl rfl ?_
  refine jr_aload_n 0 dX2_remember_29 rfl rfl ?_
  obtain ⟨fs1, e2, v4, e3, k⟩ := k
  refine jr_get jf_X2_11 dX2_remember_30 e2 e3 ?_
  obtain ⟨t5, z6, e7, ⟨ty9, e8⟩, k⟩ := k
  refine jr_alen (v := nI z6.1) dX2_remember_33 e8 e7 rfl ?_
  refine jr_icmp_ge (tgt := 57) dX2_remember_34 (by decide) (fun c34 => ?_) (fun c34 => ?_)
  · have k := k.2 c34
    refine jr_aload_n 0 dX2_remember_57 rfl rfl ?_
    obtain ⟨fs10, e11, v13, e12, k⟩ := k
    refine jr_get jf_X2_11 dX2_remember_58 e11 e12 ?_
    refine jr_aload_n 0 dX2_remember_61 rfl rfl ?_
    obtain ⟨fs14, e15, v17, e16, k⟩ := k
    refine jr_get jf_X2_11 dX2_remember_62 e15 e16 ?_
    obtain ⟨t18, z19, e20, ⟨ty22, e21⟩, k⟩ := k
    refine jr_alen (v := nI z19.1) dX2_remember_65 e21 e20 rfl ?_
    refine jr_iconst (v := 1) dX2_remember_66 (by decide) ?_
    refine jr_isub dX2_remember_67 ?_
    refine jr_aload_n 2 dX2_remember_68 rfl rfl ?_
    obtain ⟨n23, f24, e25, e26, vs29, e30, k⟩ := k
    refine jr_qast4E dX2_remember_69 e25 e30 e26 (fun h27 eh28 => ?_)
    have k := k h27 eh28
    refine jr_aload_n 0 dX2_remember_70 rfl rfl ?_
    refine jr_aload_n 0 dX2_remember_71 rfl rfl ?_
    obtain ⟨fs31, e32, v34, e33, k⟩ := k
    refine jr_get jf_X2_11 dX2_remember_72 e32 e33 ?_
    obtain ⟨t35, z36, e37, ⟨ty39, e38⟩, k⟩ := k
    refine jr_alen (v := nI z36.1) dX2_remember_75 e38 e37 rfl ?_
    refine jr_iconst (v := 1) dX2_remember_76 (by decide) ?_
    refine jr_isub dX2_remember_77 ?_
    obtain ⟨fs40, e41, e42, k⟩ := k
    refine jr_putE jp_X2_18 dX2_remember_78 e41 e42 rfl rfl (fun h43 eh44 => ?_)
    have k := k h43 eh44
    exact jr_sub [0, 1] rfl k
  · have k := k.1 c34
    refine jr_aload_n 0 dX2_remember_37 rfl rfl ?_
    obtain ⟨fs45, e46, v48, e47, k⟩ := k
    refine jr_get jf_X2_11 dX2_remember_38 e46 e47 ?_
    refine jr_iload_n 3 dX2_remember_41 rfl rfl ?_
    refine jr_iconst (v := 1) dX2_remember_42 (by decide) ?_
    refine jr_isub dX2_remember_43 ?_
    refine jr_aload_n 0 dX2_remember_44 rfl rfl ?_
    obtain ⟨fs49, e50, v52, e51, k⟩ := k
    refine jr_get jf_X2_11 dX2_remember_45 e50 e51 ?_
    refine jr_iload_n 3 dX2_remember_48 rfl rfl ?_
    obtain ⟨n53, f54, e55, e56, v57, e58, k⟩ := k
    refine jr_qald4 dX2_remember_49 e55 e56 ?_
    rw [e58]
    obtain ⟨n59, f60, e61, e62, vs65, e66, k⟩ := k
    refine jr_qast4E dX2_remember_50 e61 e66 e62 (fun h63 eh64 => ?_)
    have k := k h63 eh64
    refine jr_iinc (v := (x3 + 1)) (lv' := [(3, .int (x3 + 1)), (0, .ref x0), (1, .ref x1), (2, .ref x2)]) 3 dX2_remember_51 rfl rfl (by decide) rfl ?_
    refine jr_goto (tgt := 28) dX2_remember_54 (by decide) ?_
    exact jr_sub [1, 2, 3, 0] rfl k
set_option maxRecDepth 20000 in
theorem bX2_remember_81 {g : jG} {d : Nat} {hs : jH} {P : jO → jH → Prop} {x0 : Nat} {x1 : Nat} {h : jH} (k : ∃ fs1 : List Value, h.1 x0 = some (.inr (2, fs1)) ∧ ∃ v4 : Nat, fs1[1]? = some (.ref v4) ∧ ∃ fs5 : List Value, h.1 x0 = some (.inr (2, fs5)) ∧ ∃ v8 : Int32, fs5[0]? = some (.int v8) ∧ ∃ (n9 : Nat) (f10 : Nat → Option Nat), h.1 v4 = some (.inl (4, (n9, .inr (.inr (.inr (.inr f10)))))) ∧ vp_in v8 n9 ∧ ∃ v13 : Nat, f10 v8.toNatClampNeg = some v13 ∧ ∃ fs17 : List Value, h.1 v13 = some (.inr (6, fs17)) ∧ Con g mX6_takeOver d [.ref v13, .ref x1] h (jPv (fun (h16 : jH) => ∃ fs19 : List Value, h16.1 x0 = some (.inr (2, fs19)) ∧ ∃ v22 : Int32, fs19[0]? = some (.int v22) ∧ ∃ fs23 : List Value, h16.1 x0 = some (.inr (2, fs23)) ∧ 0 < fs23.length ∧ (∀ h26 : jH, h26 = jset h16 x0 (.inr (2, fs23.set 0 (.int (v22 + 1)))) → P (.inl none) h26)) (fun E h' => P (.inr E) h'))) : J g mX2_remember (d + 1) hs P 81 [(0, .ref x0), (1, .ref x1)] [] h := by
  refine jr_aload_n 0 dX2_remember_81 rfl rfl ?_
  obtain ⟨fs1, e2, v4, e3, k⟩ := k
  refine jr_get jf_X2_11 dX2_remember_82 e2 e3 ?_
  refine jr_aload_n 0 dX2_remember_85 rfl rfl ?_
  obtain ⟨fs5, e6, v8, e7, k⟩ := k
  refine jr_get jf_X2_18 dX2_remember_86 e6 e7 ?_
  obtain ⟨n9, f10, e11, e12, v13, e14, k⟩ := k
  refine jr_qald4 dX2_remember_89 e11 e12 ?_
  rw [e14]
  refine jr_aload_n 1 dX2_remember_90 rfl rfl ?_
  obtain ⟨fs17, e18, k⟩ := k
  refine jr_cVv (As := [.ref x1]) jl_X2_22 km_X6_takeOver rfl rfl dX2_remember_91 e18 (Nat.le_of_ble_eq_true rfl) k (fun h16 k => ?_)
  refine jr_aload_n 0 dX2_remember_94 rfl rfl ?_
  refine jr_dup dX2_remember_95 rfl ?_
  obtain ⟨fs19, e20, v22, e21, k⟩ := k
  refine jr_get jf_X2_18 dX2_remember_96 e20 e21 ?_
  refine jr_iconst (v := 1) dX2_remember_99 (by decide) ?_
  refine jr_iadd dX2_remember_100 ?_
  obtain ⟨fs23, e24, e25, k⟩ := k
  refine jr_putE jp_X2_18 dX2_remember_101 e24 e25 rfl rfl (fun h26 eh27 => ?_)
  have k := k h26 eh27
  exact jr_vret rfl dX2_remember_104 k
set_option maxRecDepth 20000 in
theorem bX2_goBack_0 {g : jG} {d : Nat} {hs : jH} {P : jO → jH → Prop} {x0 : Nat} {x1 : Int32} {x2 : Nat} {h : jH} (k : (0 < x1 → ∃ fs1 : List Value, h.1 x0 = some (.inr (2, fs1)) ∧ ∃ v4 : Int32, fs1[0]? = some (.int v4) ∧ (v4 < x1 → P (.inl none) h) ∧ (¬ v4 < x1 → ∃ fs5 : List Value, h.1 x0 = some (.inr (2, fs5)) ∧ ∃ v8 : Int32, fs5[0]? = some (.int v8) ∧ ∃ fs9 : List Value, h.1 x0 = some (.inr (2, fs9)) ∧ 0 < fs9.length ∧ (∀ h12 : jH, h12 = jset h x0 (.inr (2, fs9.set 0 (.int (v8 - x1)))) → ∃ fs14 : List Value, h12.1 x0 = some (.inr (2, fs14)) ∧ ∃ v17 : Nat, fs14[1]? = some (.ref v17) ∧ ∃ fs18 : List Value, h12.1 x0 = some (.inr (2, fs18)) ∧ ∃ v21 : Int32, fs18[0]? = some (.int v21) ∧ ∃ (n22 : Nat) (f23 : Nat → Option Nat), h12.1 v17 = some (.inl (4, (n22, .inr (.inr (.inr (.inr f23)))))) ∧ vp_in v21 n22 ∧ ∃ v26 : Nat, f23 v21.toNatClampNeg = some v26 ∧ ∃ fs30 : List Value, h12.1 x2 = some (.inr (6, fs30)) ∧ Con g mX6_takeOver d [.ref x2, .ref v26] h12 (jPv (fun (h29 : jH) => P (.inl none) h29) (fun E h' => P (.inr E) h'))))) ∧ (¬ 0 < x1 → P (.inl none) h)) : J g mX2_goBack (d + 1) hs P 0 [(0, .ref x0), (1, .int x1), (2, .ref x2)] [] h := by
  refine jr_iload_n 1 dX2_goBack_0 rfl rfl ?_
  refine jr_if_le (tgt := 35) dX2_goBack_1 (by decide) (fun c1 => ?_) (fun c1 => ?_)
  · have k := k.2 c1
    exact jr_vret rfl dX2_goBack_35 k
  · have k := k.1 c1
    refine jr_iload_n 1 dX2_goBack_4 rfl rfl ?_
    refine jr_aload_n 0 dX2_goBack_5 rfl rfl ?_
    obtain ⟨fs1, e2, v4, e3, k⟩ := k
    refine jr_get jf_X2_18 dX2_goBack_6 e2 e3 ?_
    refine jr_icmp_gt (tgt := 35) dX2_goBack_9 (by decide) (fun c9 => ?_) (fun c9 => ?_)
    · have k := k.1 c9
      exact jr_vret rfl dX2_goBack_35 k
    · have k := k.2 c9
      refine jr_aload_n 0 dX2_goBack_12 rfl rfl ?_
      refine jr_dup dX2_goBack_13 rfl ?_
      obtain ⟨fs5, e6, v8, e7, k⟩ := k
      refine jr_get jf_X2_18 dX2_goBack_14 e6 e7 ?_
      refine jr_iload_n 1 dX2_goBack_17 rfl rfl ?_
      refine jr_isub dX2_goBack_18 ?_
      obtain ⟨fs9, e10, e11, k⟩ := k
      refine jr_putE jp_X2_18 dX2_goBack_19 e10 e11 rfl rfl (fun h12 eh13 => ?_)
      have k := k h12 eh13
      refine jr_aload_n 2 dX2_goBack_22 rfl rfl ?_
      refine jr_aload_n 0 dX2_goBack_23 rfl rfl ?_
      obtain ⟨fs14, e15, v17, e16, k⟩ := k
      refine jr_get jf_X2_11 dX2_goBack_24 e15 e16 ?_
      refine jr_aload_n 0 dX2_goBack_27 rfl rfl ?_
      obtain ⟨fs18, e19, v21, e20, k⟩ := k
      refine jr_get jf_X2_18 dX2_goBack_28 e19 e20 ?_
      obtain ⟨n22, f23, e24, e25, v26, e27, k⟩ := k
      refine jr_qald4 dX2_goBack_31 e24 e25 ?_
      rw [e27]
      obtain ⟨fs30, e31, k⟩ := k
      refine jr_cVv (As := [.ref v26]) jl_X2_22 km_X6_takeOver rfl rfl dX2_goBack_32 e31 (Nat.le_of_ble_eq_true rfl) k (fun h29 k => ?_)
      exact jr_vret rfl dX2_goBack_35 k
set_option maxRecDepth 20000 in
theorem bX2_takeOver_0 {g : jG} {d : Nat} {hs : jH} {P : jO → jH → Prop} {x0 : Nat} {x1 : Nat} {h : jH} (k : ∃ fs1 : List Value, h.1 x1 = some (.inr (2, fs1)) ∧ ∃ v4 : Int32, fs1[0]? = some (.int v4) ∧ ∃ fs5 : List Value, h.1 x0 = some (.inr (2, fs5)) ∧ 0 < fs5.length ∧ (∀ h8 : jH, h8 = jset h x0 (.inr (2, fs5.set 0 (.int v4))) → J g mX2_takeOver (d + 1) hs P 10 [(0, .ref x0), (1, .ref x1), (2, .int 0)] [] h8)) : J g mX2_takeOver (d + 1) hs P 0 [(0, .ref x0), (1, .ref x1)] [] h := by
  refine jr_aload_n 0 dX2_takeOver_0 rfl rfl ?_
  refine jr_aload_n 1 dX2_takeOver_1 rfl rfl ?_
  obtain ⟨fs1, e2, v4, e3, k⟩ := k
  refine jr_get jf_X2_18 dX2_takeOver_2 e2 e3 ?_
  obtain ⟨fs5, e6, e7, k⟩ := k
  refine jr_putE jp_X2_18 dX2_takeOver_5 e6 e7 rfl rfl (fun h8 eh9 => ?_)
  have k := k h8 eh9
  refine jr_iconst (v := 0) dX2_takeOver_8 (by decide) ?_
  refine jr_istore_n (lv' := [(2, .int 0), (0, .ref x0), (1, .ref x1)]) dX2_takeOver_9 rfl (by decide) rfl ?_
  exact jr_sub [1, 2, 0] rfl k
set_option maxRecDepth 20000 in
theorem bX2_takeOver_10 {g : jG} {d : Nat} {hs : jH} {P : jO → jH → Prop} {x0 : Nat} {x1 : Nat} {x2 : Int32} {h : jH} (k : ∃ fs1 : List Value, h.1 x0 = some (.inr (2, fs1)) ∧ ∃ v4 : Int32, fs1[0]? = some (.int v4) ∧ (x2 < v4 → ∃ fs5 : List Value, h.1 x0 = some (.inr (2, fs5)) ∧ ∃ v8 : Nat, fs5[1]? = some (.ref v8) ∧ ∃ (t9 : Nat) (z10 : vp_A), h.1 v8 = some (.inl (t9, z10)) ∧ (∃ ty13 : FieldType, jTy t9 = some ty13) ∧ (x2 < (nI z10.1) → ∃ fs14 : List Value, h.1 x0 = some (.inr (2, fs14)) ∧ ∃ v17 : Nat, fs14[1]? = some (.ref v17) ∧ ∃ (n18 : Nat) (f19 : Nat → Option Nat), h.1 v17 = some (.inl (4, (n18, .inr (.inr (.inr (.inr f19)))))) ∧ vp_in x2 n18 ∧ ∃ v22 : Nat, f19 x2.toNatClampNeg = some v22 ∧ ∃ fs24 : List Value, h.1 x1 = some (.inr (2, fs24)) ∧ ∃ v27 : Nat, fs24[1]? = some (.ref v27) ∧ ∃ (n28 : Nat) (f29 : Nat → Option Nat), h.1 v27 = some (.inl (4, (n28, .inr (.inr (.inr (.inr f29)))))) ∧ vp_in x2 n28 ∧ ∃ v32 : Nat, f29 x2.toNatClampNeg = some v32 ∧ ∃ fs36 : List Value, h.1 v22 = some (.inr (6, fs36)) ∧ Con g mX6_takeOver d [.ref v22, .ref v32] h (jPv (fun (h35 : jH) => J g mX2_takeOver (d + 1) hs P 10 [(0, .ref x0), (1, .ref x1), (2, .int (x2 + 1))] [] h35) (fun E h' => P (.inr E) h'))) ∧ (¬ x2 < (nI z10.1) → P (.inl none) h)) ∧ (¬ x2 < v4 → P (.inl none) h)) : J g mX2_takeOver (d + 1) hs P 10 [(0, .ref x0), (1, .ref x1), (2, .int x2)] [] h := by
  refine jr_iload_n 2 dX2_takeOver_10 rfl rfl ?_
  refine jr_aload_n 0 dX2_takeOver_11 rfl rfl ?_
  obtain ⟨fs1, e2, v4, e3, k⟩ := k
  refine jr_get jf_X2_18 dX2_takeOver_12 e2 e3 ?_
  refine jr_icmp_ge (tgt := 48) dX2_takeOver_15 (by decide) (fun c15 => ?_) (fun c15 => ?_)
  · have k := k.2 c15
    exact jr_vret rfl dX2_takeOver_48 k
  · have k := k.1 c15
    refine jr_iload_n 2 dX2_takeOver_18 rfl rfl ?_
    refine jr_aload_n 0 dX2_takeOver_19 rfl rfl ?_
    obtain ⟨fs5, e6, v8, e7, k⟩ := k
    refine jr_get jf_X2_11 dX2_takeOver_20 e6 e7 ?_
    obtain ⟨t9, z10, e11, ⟨ty13, e12⟩, k⟩ := k
    refine jr_alen (v := nI z10.1) dX2_takeOver_23 e12 e11 rfl ?_
    refine jr_icmp_ge (tgt := 48) dX2_takeOver_24 (by decide) (fun c24 => ?_) (fun c24 => ?_)
    · have k := k.2 c24
      exact jr_vret rfl dX2_takeOver_48 k
    · have k := k.1 c24
      refine jr_aload_n 0 dX2_takeOver_27 rfl rfl ?_
      obtain ⟨fs14, e15, v17, e16, k⟩ := k
      refine jr_get jf_X2_11 dX2_takeOver_28 e15 e16 ?_
      refine jr_iload_n 2 dX2_takeOver_31 rfl rfl ?_
      obtain ⟨n18, f19, e20, e21, v22, e23, k⟩ := k
      refine jr_qald4 dX2_takeOver_32 e20 e21 ?_
      rw [e23]
      refine jr_aload_n 1 dX2_takeOver_33 rfl rfl ?_
      obtain ⟨fs24, e25, v27, e26, k⟩ := k
      refine jr_get jf_X2_11 dX2_takeOver_34 e25 e26 ?_
      refine jr_iload_n 2 dX2_takeOver_37 rfl rfl ?_
      obtain ⟨n28, f29, e30, e31, v32, e33, k⟩ := k
      refine jr_qald4 dX2_takeOver_38 e30 e31 ?_
      rw [e33]
      obtain ⟨fs36, e37, k⟩ := k
      refine jr_cVv (As := [.ref v32]) jl_X2_22 km_X6_takeOver rfl rfl dX2_takeOver_39 e37 (Nat.le_of_ble_eq_true rfl) k (fun h35 k => ?_)
      refine jr_iinc (v := (x2 + 1)) (lv' := [(2, .int (x2 + 1)), (0, .ref x0), (1, .ref x1)]) 2 dX2_takeOver_42 rfl rfl (by decide) rfl ?_
      refine jr_goto (tgt := 10) dX2_takeOver_45 (by decide) ?_
      exact jr_sub [1, 2, 0] rfl k
