set_option maxRecDepth 20000 in
theorem bX0_init_0 {g : jG} {d : Nat} {hs : jH} {P : jO → jH → Prop} {x0 : Nat} {h : jH} (k : ∃ N1 : Nat, (7 : Int32) = nI N1 ∧ N1 < 60000000 ∧ jroom g h 1 N1 ∧ ∀ (q4 : Nat) (h5 : jH), q4 = h.2.1 → h5 = jnew h (.inl (0, (N1, .inl (fun _ => 0)))) N1 → ∃ fs9 : List Value, h5.1 x0 = some (.inr (0, fs9)) ∧ 0 < fs9.length ∧ (∀ h12 : jH, h12 = jset h5 x0 (.inr (0, fs9.set 0 (.ref q4))) → ∃ N14 : Nat, (7 : Int32) = nI N14 ∧ N14 < 60000000 ∧ jroom g h12 1 N14 ∧ ∀ (q17 : Nat) (h18 : jH), q17 = h12.2.1 → h18 = jnew h12 (.inl (3, (N14, .inr (.inl (fun _ => 0))))) N14 → ∃ fs22 : List Value, h18.1 x0 = some (.inr (0, fs22)) ∧ 3 < fs22.length ∧ (∀ h25 : jH, h25 = jset h18 x0 (.inr (0, fs22.set 3 (.ref q17))) → ∃ N27 : Nat, (7 : Int32) = nI N27 ∧ N27 < 60000000 ∧ jroom g h25 1 N27 ∧ ∀ (q30 : Nat) (h31 : jH), q30 = h25.2.1 → h31 = jnew h25 (.inl (3, (N27, .inr (.inl (fun _ => 0))))) N27 → ∃ fs35 : List Value, h31.1 x0 = some (.inr (0, fs35)) ∧ 4 < fs35.length ∧ (∀ h38 : jH, h38 = jset h31 x0 (.inr (0, fs35.set 4 (.ref q30))) → ∃ N40 : Nat, (7 : Int32) = nI N40 ∧ N40 < 60000000 ∧ jroom g h38 1 N40 ∧ ∀ (q43 : Nat) (h44 : jH), q43 = h38.2.1 → h44 = jnew h38 (.inl (0, (N40, .inl (fun _ => 0)))) N40 → ∃ fs48 : List Value, h44.1 x0 = some (.inr (0, fs48)) ∧ 5 < fs48.length ∧ (∀ h51 : jH, h51 = jset h44 x0 (.inr (0, fs48.set 5 (.ref q43))) → jroom g h51 1 2 ∧ ∀ (q53 : Nat) (h54 : jH), q53 = h51.2.1 → h54 = jnew h51 (.inr (5, [.null, .null])) 2 → Con g mX5_init d [.ref q53] h54 (jPv (fun (h59 : jH) => ∃ fs60 : List Value, h59.1 x0 = some (.inr (0, fs60)) ∧ 6 < fs60.length ∧ (∀ h63 : jH, h63 = jset h59 x0 (.inr (0, fs60.set 6 (.ref q53))) → jroom g h63 1 9 ∧ ∀ (q65 : Nat) (h66 : jH), q65 = h63.2.1 → h66 = jnew h63 (.inr (6, [.int 0, .int 0, .int 0, .null, .null, .null, .null, .null, .null])) 9 → Con g mX6_init d [.ref q65] h66 (jPv (fun (h71 : jH) => ∃ fs72 : List Value, h71.1 x0 = some (.inr (0, fs72)) ∧ 7 < fs72.length ∧ (∀ h75 : jH, h75 = jset h71 x0 (.inr (0, fs72.set 7 (.ref q65))) → jroom g h75 1 7 ∧ ∀ (q77 : Nat) (h78 : jH), q77 = h75.2.1 → h78 = jnew h75 (.inr (9, [.null, .int 0, .int 0, .int 0, .null, .null, .null])) 7 → Con g mX9_init d [.ref q77] h78 (jPv (fun (h83 : jH) => ∃ fs84 : List Value, h83.1 x0 = some (.inr (0, fs84)) ∧ 8 < fs84.length ∧ (∀ h87 : jH, h87 = jset h83 x0 (.inr (0, fs84.set 8 (.ref q77))) → P (.inl none) h87)) (fun E h' => P (.inr E) h')))) (fun E h' => P (.inr E) h')))) (fun E h' => P (.inr E) h'))))))) : J g mX0_init (d + 1) hs P 0 [(0, .ref x0)] [] h := by
  refine jr_aload_n 0 dX0_init_0 rfl rfl ?_
  refine jr_objInit jl_X0_3 dX0_init_1 (Nat.le_of_ble_eq_true rfl) ?_
  refine jr_aload_n 0 dX0_init_4 rfl rfl ?_
  refine jr_bipush (v := 7) dX0_init_5 (by decide) ?_
  obtain ⟨N1, e2, e3, rm8, k⟩ := k
  refine jr_new_int e2 e3 rm8 dX0_init_7 (fun q4 h5 eq6 eh7 => ?_)
  have k := k q4 h5 eq6 eh7
  obtain ⟨fs9, e10, e11, k⟩ := k
  refine jr_putFE jp_X0_9 (fun C T N hc => by cases hc; rfl) rfl dX0_init_9 e10 e11 rfl rfl (fun h12 eh13 => ?_)
  have k := k h12 eh13
  refine jr_aload_n 0 dX0_init_12 rfl rfl ?_
  refine jr_bipush (v := 7) dX0_init_13 (by decide) ?_
  obtain ⟨N14, e15, e16, rm21, k⟩ := k
  refine jr_new_long e15 e16 rm21 dX0_init_15 (fun q17 h18 eq19 eh20 => ?_)
  have k := k q17 h18 eq19 eh20
  obtain ⟨fs22, e23, e24, k⟩ := k
  refine jr_putFE jp_X0_15 (fun C T N hc => by cases hc; rfl) rfl dX0_init_17 e23 e24 rfl rfl (fun h25 eh26 => ?_)
  have k := k h25 eh26
  refine jr_aload_n 0 dX0_init_20 rfl rfl ?_
  refine jr_bipush (v := 7) dX0_init_21 (by decide) ?_
  obtain ⟨N27, e28, e29, rm34, k⟩ := k
  refine jr_new_long e28 e29 rm34 dX0_init_23 (fun q30 h31 eq32 eh33 => ?_)
  have k := k q30 h31 eq32 eh33
  obtain ⟨fs35, e36, e37, k⟩ := k
  refine jr_putFE jp_X0_19 (fun C T N hc => by cases hc; rfl) rfl dX0_init_25 e36 e37 rfl rfl (fun h38 eh39 => ?_)
  have k := k h38 eh39
  refine jr_aload_n 0 dX0_init_28 rfl rfl ?_
  refine jr_bipush (v := 7) dX0_init_29 (by decide) ?_
  obtain ⟨N40, e41, e42, rm47, k⟩ := k
  refine jr_new_int e41 e42 rm47 dX0_init_31 (fun q43 h44 eq45 eh46 => ?_)
  have k := k q43 h44 eq45 eh46
  obtain ⟨fs48, e49, e50, k⟩ := k
  refine jr_putFE jp_X0_22 (fun C T N hc => by cases hc; rfl) rfl dX0_init_33 e49 e50 rfl rfl (fun h51 eh52 => ?_)
  have k := k h51 eh52
  refine jr_aload_n 0 dX0_init_36 rfl rfl ?_
  obtain ⟨rm57, k⟩ := k
  refine jr_newE (fs := [.null, .null]) jn_X0_25 jfs_5 rm57 dX0_init_37 (fun q53 h54 eq55 eh56 => ?_)
  have k := k q53 h54 eq55 eh56
  refine jr_dup dX0_init_40 rfl ?_
  refine jr_cNv (As := []) jl_X0_27 km_X5_init rfl rfl dX0_init_41 (Nat.le_of_ble_eq_true rfl) k (fun h59 k => ?_)
  obtain ⟨fs60, e61, e62, k⟩ := k
  refine jr_putFE jp_X0_28 (fun C T N hc => by cases hc; rfl) rfl dX0_init_44 e61 e62 rfl rfl (fun h63 eh64 => ?_)
  have k := k h63 eh64
  refine jr_aload_n 0 dX0_init_47 rfl rfl ?_
  obtain ⟨rm69, k⟩ := k
  refine jr_newE (fs := [.int 0, .int 0, .int 0, .null, .null, .null, .null, .null, .null]) jn_X0_32 jfs_6 rm69 dX0_init_48 (fun q65 h66 eq67 eh68 => ?_)
  have k := k q65 h66 eq67 eh68
  refine jr_dup dX0_init_51 rfl ?_
  refine jr_cNv (As := []) jl_X0_34 km_X6_init rfl rfl dX0_init_52 (Nat.le_of_ble_eq_true rfl) k (fun h71 k => ?_)
  obtain ⟨fs72, e73, e74, k⟩ := k
  refine jr_putFE jp_X0_35 (fun C T N hc => by cases hc; rfl) rfl dX0_init_55 e73 e74 rfl rfl (fun h75 eh76 => ?_)
  have k := k h75 eh76
  refine jr_aload_n 0 dX0_init_58 rfl rfl ?_
  obtain ⟨rm81, k⟩ := k
  refine jr_newE (fs := [.null, .int 0, .int 0, .int 0, .null, .null, .null]) jn_X0_39 jfs_9 rm81 dX0_init_59 (fun q77 h78 eq79 eh80 => ?_)
  have k := k q77 h78 eq79 eh80
  refine jr_dup dX0_init_62 rfl ?_
  refine jr_cNv (As := []) jl_X0_41 km_X9_init rfl rfl dX0_init_63 (Nat.le_of_ble_eq_true rfl) k (fun h83 k => ?_)
  obtain ⟨fs84, e85, e86, k⟩ := k
  refine jr_putE jp_X0_42 dX0_init_66 e85 e86 rfl rfl (fun h87 eh88 => ?_)
  have k := k h87 eh88
  exact jr_vret rfl dX0_init_69 k
set_option maxRecDepth 20000 in
theorem bX0_from_0 {g : jG} {d : Nat} {hs : jH} {P : jO → jH → Prop} {x0 : Nat} {x1 : Nat} {x2 : Nat} {h : jH} (k : ∃ fs1 : List Value, h.1 x0 = some (.inr (0, fs1)) ∧ 8 < fs1.length ∧ (∀ h4 : jH, h4 = jset h x0 (.inr (0, fs1.set 8 (.ref x1))) → ∃ fs6 : List Value, h4.1 x0 = some (.inr (0, fs6)) ∧ ∃ v9 : Nat, fs6[7]? = some (.ref v9) ∧ ∃ fs12 : List Value, h4.1 v9 = some (.inr (6, fs12)) ∧ Con g mX6_takeOver d [.ref v9, .ref x2] h4 (jPv (fun (h11 : jH) => ∃ fs14 : List Value, h11.1 x0 = some (.inr (0, fs14)) ∧ ∃ v17 : Nat, fs14[7]? = some (.ref v17) ∧ P (.inl (some (.ref v17))) h11) (fun E h' => P (.inr E) h')))) : J g mX0_from (d + 1) hs P 0 [(0, .ref x0), (1, .ref x1), (2, .ref x2)] [] h := by
  refine jr_aload_n 0 dX0_from_0 rfl rfl ?_
  refine jr_aload_n 1 dX0_from_1 rfl rfl ?_
  obtain ⟨fs1, e2, e3, k⟩ := k
  refine jr_putE jp_X0_42 dX0_from_2 e2 e3 rfl rfl (fun h4 eh5 => ?_)
  have k := k h4 eh5
  refine jr_aload_n 0 dX0_from_5 rfl rfl ?_
  obtain ⟨fs6, e7, v9, e8, k⟩ := k
  refine jr_get jf_X0_35 dX0_from_6 e7 e8 ?_
  refine jr_aload_n 2 dX0_from_9 rfl rfl ?_
  obtain ⟨fs12, e13, k⟩ := k
  refine jr_cVv (As := [.ref x2]) jl_X0_46 km_X6_takeOver rfl rfl dX0_from_10 e13 (Nat.le_of_ble_eq_true rfl) k (fun h11 k => ?_)
  refine jr_aload_n 0 dX0_from_13 rfl rfl ?_
  obtain ⟨fs14, e15, v17, e16, k⟩ := k
  refine jr_get jf_X0_35 dX0_from_14 e15 e16 ?_
  exact jr_aret rfl (Or.inl ⟨_, rfl⟩) dX0_from_17 k
set_option maxRecDepth 20000 in
theorem bX0_pass_0 {g : jG} {d : Nat} {hs : jH} {P : jO → jH → Prop} {x0 : Nat} {x1 : Nat} {x2 : Nat} {x3 : Int32} {h : jH} (k : ∃ fs3 : List Value, h.1 x0 = some (.inr (0, fs3)) ∧ Con g mX0_settle d [.ref x0, .ref x1, .ref x2] h (jPv (fun (h2 : jH) => J g mX0_pass (d + 1) hs P 9 [(0, .ref x0), (1, .ref x1), (2, .ref x2), (3, .int x3), (4, .int 0)] [] h2) (fun E h' => P (.inr E) h'))) : J g mX0_pass (d + 1) hs P 0 [(0, .ref x0), (1, .ref x1), (2, .ref x2), (3, .int x3)] [] h := by
  refine jr_aload_n 0 dX0_pass_0 rfl rfl ?_
  refine jr_aload_n 1 dX0_pass_1 rfl rfl ?_
  refine jr_aload_n 2 dX0_pass_2 rfl rfl ?_
  obtain ⟨fs3, e4, k⟩ := k
  refine jr_cVv (As := [.ref x1, .ref x2]) jl_X0_50 km_X0_settle rfl rfl dX0_pass_3 e4 (Nat.le_of_ble_eq_true rfl) k (fun h2 k => ?_)
  refine jr_iconst (v := 0) dX0_pass_6 (by decide) ?_
  refine jr_istore (lv' := [(4, .int 0), (0, .ref x0), (1, .ref x1), (2, .ref x2), (3, .int x3)]) dX0_pass_7 (by decide) rfl ?_
  exact jr_sub [1, 2, 3, 4, 0] rfl k
set_option maxRecDepth 20000 in
theorem bX0_pass_9 {g : jG} {d : Nat} {hs : jH} {P : jO → jH → Prop} {x0 : Nat} {x1 : Nat} {x2 : Nat} {x3 : Int32} {x4 : Int32} {h : jH} (k : ∃ fs1 : List Value, h.1 x2 = some (.inr (6, fs1)) ∧ ∃ v4 : Int32, fs1[0]? = some (.int v4) ∧ (x4 < v4 → (x4 < 7 → ∃ fs5 : List Value, h.1 x2 = some (.inr (6, fs5)) ∧ ∃ v8 : Nat, fs5[7]? = some (.ref v8) ∧ ∃ fs9 : List Value, h.1 x2 = some (.inr (6, fs9)) ∧ ∃ v12 : Nat, fs9[7]? = some (.ref v12) ∧ ∃ (n13 : Nat) (f14 : Nat → Int32), h.1 v12 = some (.inl (0, (n13, .inl f14))) ∧ vp_in x4 n13 ∧ ∃ fs17 : List Value, h.1 x2 = some (.inr (6, fs17)) ∧ ∃ v20 : Nat, fs17[7]? = some (.ref v20) ∧ ∃ (n21 : Nat) (f22 : Nat → Int32), h.1 v20 = some (.inl (0, (n21, .inl f22))) ∧ vp_in x4 n21 ∧ ∃ fs27 : List Value, h.1 x0 = some (.inr (0, fs27)) ∧ Con g mX0_growth d [.ref x0, .ref x1, .ref x2, .int x4, .int (f22 x4.toNatClampNeg)] h (jPi (fun (r25 : Int32) (h26 : jH) => ∃ (n29 : Nat) (f30 : Nat → Int32), h26.1 v8 = some (.inl (0, (n29, .inl f30))) ∧ vp_in x4 n29 ∧ ∀ h33 : jH, h33 = jset h26 v8 (.inl (0, (n29, .inl (upd f30 x4.toNatClampNeg ((jmin (((f14 x4.toNatClampNeg) + r25)) 999999)))))) → J g mX0_pass (d + 1) hs P 9 [(0, .ref x0), (1, .ref x1), (2, .ref x2), (3, .int x3), (4, .int (x4 + 1))] [] h33) (fun E h' => P (.inr E) h'))) ∧ (¬ x4 < 7 → J g mX0_pass (d + 1) hs P 66 [(0, .ref x0), (1, .ref x1), (2, .ref x2), (3, .int x3)] [] h)) ∧ (¬ x4 < v4 → J g mX0_pass (d + 1) hs P 66 [(0, .ref x0), (1, .ref x1), (2, .ref x2), (3, .int x3)] [] h)) : J g mX0_pass (d + 1) hs P 9 [(0, .ref x0), (1, .ref x1), (2, .ref x2), (3, .int x3), (4, .int x4)] [] h := by
  refine jr_iload 4 dX0_pass_9 rfl ?_
  refine jr_aload_n 2 dX0_pass_11 rfl rfl ?_
  obtain ⟨fs1, e2, v4, e3, k⟩ := k
  refine jr_get jf_X0_54 dX0_pass_12 e2 e3 ?_
  refine jr_icmp_ge (tgt := 66) dX0_pass_15 (by decide) (fun c15 => ?_) (fun c15 => ?_)
  · have k := k.2 c15
    exact jr_sub [0, 1, 2, 3] rfl k
  · have k := k.1 c15
    refine jr_iload 4 dX0_pass_18 rfl ?_
    refine jr_bipush (v := 7) dX0_pass_20 (by decide) ?_
    refine jr_icmp_ge (tgt := 66) dX0_pass_22 (by decide) (fun c22 => ?_) (fun c22 => ?_)
    · have k := k.2 c22
      exact jr_sub [0, 1, 2, 3] rfl k
    · have k := k.1 c22
      refine jr_aload_n 2 dX0_pass_25 rfl rfl ?_
      obtain ⟨fs5, e6, v8, e7, k⟩ := k
      refine jr_get jf_X0_58 dX0_pass_26 e6 e7 ?_
      refine jr_iload 4 dX0_pass_29 rfl ?_
      refine jr_aload_n 2 dX0_pass_31 rfl rfl ?_
      obtain ⟨fs9, e10, v12, e11, k⟩ := k
      refine jr_get jf_X0_58 dX0_pass_32 e10 e11 ?_
      refine jr_iload 4 dX0_pass_35 rfl ?_
      obtain ⟨n13, f14, e15, e16, k⟩ := k
      refine jr_iald dX0_pass_37 e15 e16 ?_
      refine jr_aload_n 0 dX0_pass_38 rfl rfl ?_
      refine jr_aload_n 1 dX0_pass_39 rfl rfl ?_
      refine jr_aload_n 2 dX0_pass_40 rfl rfl ?_
      refine jr_iload 4 dX0_pass_41 rfl ?_
      refine jr_aload_n 2 dX0_pass_43 rfl rfl ?_
      obtain ⟨fs17, e18, v20, e19, k⟩ := k
      refine jr_get jf_X0_58 dX0_pass_44 e18 e19 ?_
      refine jr_iload 4 dX0_pass_47 rfl ?_
      obtain ⟨n21, f22, e23, e24, k⟩ := k
      refine jr_iald dX0_pass_49 e23 e24 ?_
      obtain ⟨fs27, e28, k⟩ := k
      refine jr_cVi (As := [.ref x1, .ref x2, .int x4, .int (f22 x4.toNatClampNeg)]) jl_X0_61 km_X0_growth rfl rfl dX0_pass_50 e28 (Nat.le_of_ble_eq_true rfl) k (fun r25 h26 k => ?_)
      refine jr_iadd dX0_pass_53 ?_
      refine jr_ldc (v := 999999) jk_X0_65 dX0_pass_54 ?_
      refine jr_mmin jl_X0_66 dX0_pass_56 (Nat.le_of_ble_eq_true rfl) ?_
      obtain ⟨n29, f30, e31, e32, k⟩ := k
      refine jr_iastE dX0_pass_59 e31 e32 (fun h33 eh34 => ?_)
      have k := k h33 eh34
      refine jr_iinc (v := (x4 + 1)) (lv' := [(4, .int (x4 + 1)), (0, .ref x0), (1, .ref x1), (2, .ref x2), (3, .int x3)]) 4 dX0_pass_60 rfl rfl (by decide) rfl ?_
      refine jr_goto (tgt := 9) dX0_pass_63 (by decide) ?_
      exact jr_sub [1, 2, 3, 4, 0] rfl k
set_option maxRecDepth 20000 in
theorem bX0_pass_66 {g : jG} {d : Nat} {hs : jH} {P : jO → jH → Prop} {x0 : Nat} {x1 : Nat} {x2 : Nat} {x3 : Int32} {h : jH} (k : ∃ fs3 : List Value, h.1 x0 = some (.inr (0, fs3)) ∧ Con g mX0_move d [.ref x0, .ref x1, .ref x2] h (jPv (fun (h2 : jH) => ∃ fs5 : List Value, h2.1 x0 = some (.inr (0, fs5)) ∧ 2 < fs5.length ∧ (∀ h8 : jH, h8 = jset h2 x0 (.inr (0, fs5.set 2 (.int 0))) → J g mX0_pass (d + 1) hs P 80 [(0, .ref x0), (2, .ref x2), (3, .int x3), (4, .int 0)] [] h8)) (fun E h' => P (.inr E) h'))) : J g mX0_pass (d + 1) hs P 66 [(0, .ref x0), (1, .ref x1), (2, .ref x2), (3, .int x3)] [] h := by
  refine jr_aload_n 0 dX0_pass_66 rfl rfl ?_
  refine jr_aload_n 1 dX0_pass_67 rfl rfl ?_
  refine jr_aload_n 2 dX0_pass_68 rfl rfl ?_
  obtain ⟨fs3, e4, k⟩ := k
  refine jr_cVv (As := [.ref x1, .ref x2]) jl_X0_72 km_X0_move rfl rfl dX0_pass_69 e4 (Nat.le_of_ble_eq_true rfl) k (fun h2 k => ?_)
  refine jr_aload_n 0 dX0_pass_72 rfl rfl ?_
  refine jr_iconst (v := 0) dX0_pass_73 (by decide) ?_
  obtain ⟨fs5, e6, e7, k⟩ := k
  refine jr_putE jp_X0_75 dX0_pass_74 e6 e7 rfl rfl (fun h8 eh9 => ?_)
  have k := k h8 eh9
  refine jr_iconst (v := 0) dX0_pass_77 (by decide) ?_
  refine jr_istore (lv' := [(4, .int 0), (0, .ref x0), (1, .ref x1), (2, .ref x2), (3, .int x3)]) dX0_pass_78 (by decide) rfl ?_
  exact jr_sub [1, 3, 4, 0] rfl k
set_option maxRecDepth 20000 in
theorem bX0_pass_80 {g : jG} {d : Nat} {hs : jH} {P : jO → jH → Prop} {x0 : Nat} {x2 : Nat} {x3 : Int32} {x4 : Int32} {h : jH} (k : ∃ fs1 : List Value, h.1 x2 = some (.inr (6, fs1)) ∧ ∃ v4 : Int32, fs1[0]? = some (.int v4) ∧ (x4 < v4 → (x4 < 7 → ∃ fs5 : List Value, h.1 x2 = some (.inr (6, fs5)) ∧ ∃ v8 : Nat, fs5[6]? = some (.ref v8) ∧ ∃ (n9 : Nat) (f10 : Nat → Int32), h.1 v8 = some (.inl (0, (n9, .inl f10))) ∧ vp_in x4 n9 ∧ ((f10 x4.toNatClampNeg) = 0 → ∃ fs13 : List Value, h.1 x2 = some (.inr (6, fs13)) ∧ ∃ v16 : Nat, fs13[7]? = some (.ref v16) ∧ ∃ (n17 : Nat) (f18 : Nat → Int32), h.1 v16 = some (.inl (0, (n17, .inl f18))) ∧ vp_in x4 n17 ∧ (x3 < (f18 x4.toNatClampNeg) → ∃ fs23 : List Value, h.1 x2 = some (.inr (6, fs23)) ∧ Con g mX6_ruin d [.ref x2, .int x4] h (jPv (fun (h22 : jH) => ∃ fs25 : List Value, h22.1 x0 = some (.inr (0, fs25)) ∧ ∃ v28 : Int32, fs25[2]? = some (.int v28) ∧ ∃ fs29 : List Value, h22.1 x0 = some (.inr (0, fs29)) ∧ 2 < fs29.length ∧ (∀ h32 : jH, h32 = jset h22 x0 (.inr (0, fs29.set 2 (.int (v28 + 1)))) → J g mX0_pass (d + 1) hs P 133 [(0, .ref x0), (2, .ref x2), (3, .int x3), (4, .int x4)] [] h32)) (fun E h' => P (.inr E) h'))) ∧ (¬ x3 < (f18 x4.toNatClampNeg) → J g mX0_pass (d + 1) hs P 133 [(0, .ref x0), (2, .ref x2), (3, .int x3), (4, .int x4)] [] h)) ∧ (¬ (f10 x4.toNatClampNeg) = 0 → J g mX0_pass (d + 1) hs P 133 [(0, .ref x0), (2, .ref x2), (3, .int x3), (4, .int x4)] [] h)) ∧ (¬ x4 < 7 → J g mX0_pass (d + 1) hs P 159 [(2, .ref x2)] [] h)) ∧ (¬ x4 < v4 → J g mX0_pass (d + 1) hs P 159 [(2, .ref x2)] [] h)) : J g mX0_pass (d + 1) hs P 80 [(0, .ref x0), (2, .ref x2), (3, .int x3), (4, .int x4)] [] h := by
  refine jr_iload 3 dX0_pass_80 rfl ?_
  refine jr_aload_n 1 dX0_pass_82 rfl rfl ?_
  obtain ⟨fs1, e2, v4, e3, k⟩ := k
  refine jr_get jf_X0_54 dX0_pass_83 e2 e3 ?_
  refine jr_icmp_ge (tgt := 159) dX0_pass_86 (by decide) (fun c86 => ?_) (fun c86 => ?_)
  · have k := k.2 c86
    exact jr_sub [1] rfl k
  · have k := k.1 c86
    refine jr_iload 3 dX0_pass_89 rfl ?_
    refine jr_bipush (v := 7) dX0_pass_91 (by decide) ?_
    refine jr_icmp_ge (tgt := 159) dX0_pass_93 (by decide) (fun c93 => ?_) (fun c93 => ?_)
    · have k := k.2 c93
      exact jr_sub [1] rfl k
    · have k := k.1 c93
      refine jr_aload_n 1 dX0_pass_96 rfl rfl ?_
      obtain ⟨fs5, e6, v8, e7, k⟩ := k
      refine jr_get jf_X0_78 dX0_pass_97 e6 e7 ?_
      refine jr_iload 3 dX0_pass_100 rfl ?_
      obtain ⟨n9, f10, e11, e12, k⟩ := k
      refine jr_iald dX0_pass_102 e11 e12 ?_
      refine jr_if_ne (tgt := 133) dX0_pass_103 (by decide) (fun c103 => ?_) (fun c103 => ?_)
      · have k := k.2 c103
        exact jr_sub [0, 1, 2, 3] rfl k
      · have k := k.1 c103
        refine jr_aload_n 1 dX0_pass_106 rfl rfl ?_
        obtain ⟨fs13, e14, v16, e15, k⟩ := k
        refine jr_get jf_X0_58 dX0_pass_107 e14 e15 ?_
        refine jr_iload 3 dX0_pass_110 rfl ?_
        obtain ⟨n17, f18, e19, e20, k⟩ := k
        refine jr_iald dX0_pass_112 e19 e20 ?_
        refine jr_iload_n 2 dX0_pass_113 rfl rfl ?_
        refine jr_icmp_le (tgt := 133) dX0_pass_114 (by decide) (fun c114 => ?_) (fun c114 => ?_)
        · have k := k.2 c114
          exact jr_sub [0, 1, 2, 3] rfl k
        · have k := k.1 c114
          refine jr_aload_n 1 dX0_pass_117 rfl rfl ?_
          refine jr_iload 3 dX0_pass_118 rfl ?_
          obtain ⟨fs23, e24, k⟩ := k
          refine jr_cVv (As := [.int x4]) jl_X0_81 km_X6_ruin rfl rfl dX0_pass_120 e24 (Nat.le_of_ble_eq_true rfl) k (fun h22 k => ?_)
          refine jr_aload_n 0 dX0_pass_123 rfl rfl ?_
          refine jr_dup dX0_pass_124 rfl ?_
          obtain ⟨fs25, e26, v28, e27, k⟩ := k
          refine jr_get jf_X0_75 dX0_pass_125 e26 e27 ?_
          refine jr_iconst (v := 1) dX0_pass_128 (by decide) ?_
          refine jr_iadd dX0_pass_129 ?_
          obtain ⟨fs29, e30, e31, k⟩ := k
          refine jr_putE jp_X0_75 dX0_pass_130 e30 e31 rfl rfl (fun h32 eh33 => ?_)
          have k := k h32 eh33
          exact jr_sub [0, 1, 2, 3] rfl k
set_option maxRecDepth 20000 in
theorem bX0_pass_133 {g : jG} {d : Nat} {hs : jH} {P : jO → jH → Prop} {x0 : Nat} {x2 : Nat} {x3 : Int32} {x4 : Int32} {h : jH} (k : ∃ fs1 : List Value, h.1 x2 = some (.inr (6, fs1)) ∧ ∃ v4 : Nat, fs1[8]? = some (.ref v4) ∧ ∃ fs5 : List Value, h.1 x2 = some (.inr (6, fs5)) ∧ ∃ v8 : Nat, fs5[8]? = some (.ref v8) ∧ ∃ (n9 : Nat) (f10 : Nat → Int32), h.1 v8 = some (.inl (0, (n9, .inl f10))) ∧ vp_in x4 n9 ∧ ∃ (n13 : Nat) (f14 : Nat → Int32), h.1 v4 = some (.inl (0, (n13, .inl f14))) ∧ vp_in x4 n13 ∧ ∀ h17 : jH, h17 = jset h v4 (.inl (0, (n13, .inl (upd f14 x4.toNatClampNeg ((jmax (((f10 x4.toNatClampNeg) - 1)) 0)))))) → J g mX0_pass (d + 1) hs P 80 [(0, .ref x0), (2, .ref x2), (3, .int x3), (4, .int (x4 + 1))] [] h17) : J g mX0_pass (d + 1) hs P 133 [(0, .ref x0), (2, .ref x2), (3, .int x3), (4, .int x4)] [] h := by
  refine jr_aload_n 1 dX0_pass_133 rfl rfl ?_
  obtain ⟨fs1, e2, v4, e3, k⟩ := k
  refine jr_get jf_X0_85 dX0_pass_134 e2 e3 ?_
  refine jr_iload 3 dX0_pass_137 rfl ?_
  refine jr_aload_n 1 dX0_pass_139 rfl rfl ?_
  obtain ⟨fs5, e6, v8, e7, k⟩ := k
  refine jr_get jf_X0_85 dX0_pass_140 e6 e7 ?_
  refine jr_iload 3 dX0_pass_143 rfl ?_
  obtain ⟨n9, f10, e11, e12, k⟩ := k
  refine jr_iald dX0_pass_145 e11 e12 ?_
  refine jr_iconst (v := 1) dX0_pass_146 (by decide) ?_
  refine jr_isub dX0_pass_147 ?_
  refine jr_iconst (v := 0) dX0_pass_148 (by decide) ?_
  refine jr_mmax jl_X0_88 dX0_pass_149 (Nat.le_of_ble_eq_true rfl) ?_
  obtain ⟨n13, f14, e15, e16, k⟩ := k
  refine jr_iastE dX0_pass_152 e15 e16 (fun h17 eh18 => ?_)
  have k := k h17 eh18
  refine jr_iinc (v := (x4 + 1)) (lv' := [(4, .int (x4 + 1)), (0, .ref x0), (2, .ref x2), (3, .int x3)]) 3 dX0_pass_153 rfl rfl (by decide) rfl ?_
  refine jr_goto (tgt := 80) dX0_pass_156 (by decide) ?_
  exact jr_sub [1, 2, 3, 0] rfl k
set_option maxRecDepth 20000 in
theorem bX0_pass_159 {g : jG} {d : Nat} {hs : jH} {P : jO → jH → Prop} {x2 : Nat} {h : jH} (k : ∃ fs1 : List Value, h.1 x2 = some (.inr (6, fs1)) ∧ ∃ v4 : Int32, fs1[2]? = some (.int v4) ∧ ∃ fs5 : List Value, h.1 x2 = some (.inr (6, fs5)) ∧ 2 < fs5.length ∧ (∀ h8 : jH, h8 = jset h x2 (.inr (6, fs5.set 2 (.int (v4 + 1)))) → P (.inl none) h8)) : J g mX0_pass (d + 1) hs P 159 [(2, .ref x2)] [] h := by
  refine jr_aload_n 0 dX0_pass_159 rfl rfl ?_
  refine jr_dup dX0_pass_160 rfl ?_
  obtain ⟨fs1, e2, v4, e3, k⟩ := k
  refine jr_get jf_X0_91 dX0_pass_161 e2 e3 ?_
  refine jr_iconst (v := 1) dX0_pass_164 (by decide) ?_
  refine jr_iadd dX0_pass_165 ?_
  obtain ⟨fs5, e6, e7, k⟩ := k
  refine jr_putE jp_X0_91 dX0_pass_166 e6 e7 rfl rfl (fun h8 eh9 => ?_)
  have k := k h8 eh9
  exact jr_vret rfl dX0_pass_169 k
set_option maxRecDepth 20000 in
theorem bX0_settle_0 {g : jG} {d : Nat} {hs : jH} {P : jO → jH → Prop} {x0 : Nat} {x1 : Nat} {x2 : Nat} {h : jH} (k : ∃ fs1 : List Value, h.1 x0 = some (.inr (0, fs1)) ∧ 1 < fs1.length ∧ (∀ h4 : jH, h4 = jset h x0 (.inr (0, fs1.set 1 (.int 0))) → J g mX0_settle (d + 1) hs P 7 [(0, .ref x0), (1, .ref x1), (2, .ref x2), (3, .int 0)] [] h4)) : J g mX0_settle (d + 1) hs P 0 [(0, .ref x0), (1, .ref x1), (2, .ref x2)] [] h := by
  refine jr_aload_n 0 dX0_settle_0 rfl rfl ?_
  refine jr_iconst (v := 0) dX0_settle_1 (by decide) ?_
  obtain ⟨fs1, e2, e3, k⟩ := k
  refine jr_putE jp_X0_94 dX0_settle_2 e2 e3 rfl rfl (fun h4 eh5 => ?_)
  have k := k h4 eh5
  refine jr_iconst (v := 0) dX0_settle_5 (by decide) ?_
  refine jr_istore_n (lv' := [(3, .int 0), (0, .ref x0), (1, .ref x1), (2, .ref x2)]) dX0_settle_6 rfl (by decide) rfl ?_
  exact jr_sub [1, 2, 3, 0] rfl k
set_option maxRecDepth 20000 in
theorem bX0_settle_7 {g : jG} {d : Nat} {hs : jH} {P : jO → jH → Prop} {x0 : Nat} {x1 : Nat} {x2 : Nat} {x3 : Int32} {h : jH} (k : ∃ fs1 : List Value, h.1 x2 = some (.inr (6, fs1)) ∧ ∃ v4 : Int32, fs1[0]? = some (.int v4) ∧ (x3 < v4 → (x3 < 7 → ∃ fs5 : List Value, h.1 x2 = some (.inr (6, fs5)) ∧ ∃ v8 : Nat, fs5[6]? = some (.ref v8) ∧ ∃ (n9 : Nat) (f10 : Nat → Int32), h.1 v8 = some (.inl (0, (n9, .inl f10))) ∧ vp_in x3 n9 ∧ ((f10 x3.toNatClampNeg) = 0 → ∃ fs13 : List Value, h.1 x2 = some (.inr (6, fs13)) ∧ ∃ v16 : Nat, fs13[5]? = some (.ref v16) ∧ ∃ (n17 : Nat) (f18 : Nat → Int32), h.1 v16 = some (.inl (0, (n17, .inl f18))) ∧ vp_in x3 n17 ∧ ∃ fs21 : List Value, h.1 x2 = some (.inr (6, fs21)) ∧ ∃ v24 : Nat, fs21[3]? = some (.ref v24) ∧ ∃ (n25 : Nat) (f26 : Nat → Int32), h.1 v24 = some (.inl (0, (n25, .inl f26))) ∧ vp_in x3 n25 ∧ ∃ fs29 : List Value, h.1 x2 = some (.inr (6, fs29)) ∧ ∃ v32 : Nat, fs29[4]? = some (.ref v32) ∧ ∃ (n33 : Nat) (f34 : Nat → Int32), h.1 v32 = some (.inl (0, (n33, .inl f34))) ∧ vp_in x3 n33 ∧ ((((f18 x3.toNatClampNeg) + (f26 x3.toNatClampNeg)) - (f34 x3.toNatClampNeg)) < 0 → ∃ fs45 : List Value, h.1 x2 = some (.inr (6, fs45)) ∧ ∃ v48 : Nat, fs45[7]? = some (.ref v48) ∧ ∃ (n49 : Nat) (f50 : Nat → Int32), h.1 v48 = some (.inl (0, (n49, .inl f50))) ∧ vp_in x3 n49 ∧ J g mX0_settle (d + 1) hs P 80 [(0, .ref x0), (1, .ref x1), (2, .ref x2), (3, .int x3), (4, .int (((f18 x3.toNatClampNeg) + (f26 x3.toNatClampNeg)) - (f34 x3.toNatClampNeg)))] [.int (jmin (((f50 x3.toNatClampNeg) - (((f18 x3.toNatClampNeg) + (f26 x3.toNatClampNeg)) - (f34 x3.toNatClampNeg)))) 999999)] h) ∧ (¬ (((f18 x3.toNatClampNeg) + (f26 x3.toNatClampNeg)) - (f34 x3.toNatClampNeg)) < 0 → ∃ fs37 : List Value, h.1 x2 = some (.inr (6, fs37)) ∧ ∃ v40 : Nat, fs37[7]? = some (.ref v40) ∧ ∃ (n41 : Nat) (f42 : Nat → Int32), h.1 v40 = some (.inl (0, (n41, .inl f42))) ∧ vp_in x3 n41 ∧ J g mX0_settle (d + 1) hs P 80 [(0, .ref x0), (1, .ref x1), (2, .ref x2), (3, .int x3), (4, .int (((f18 x3.toNatClampNeg) + (f26 x3.toNatClampNeg)) - (f34 x3.toNatClampNeg)))] [.int (f42 x3.toNatClampNeg)] h)) ∧ (¬ (f10 x3.toNatClampNeg) = 0 → J g mX0_settle (d + 1) hs P 7 [(0, .ref x0), (1, .ref x1), (2, .ref x2), (3, .int (x3 + 1))] [] h)) ∧ (¬ x3 < 7 → P (.inl none) h)) ∧ (¬ x3 < v4 → P (.inl none) h)) : J g mX0_settle (d + 1) hs P 7 [(0, .ref x0), (1, .ref x1), (2, .ref x2), (3, .int x3)] [] h := by
  refine jr_iload_n 3 dX0_settle_7 rfl rfl ?_
  refine jr_aload_n 2 dX0_settle_8 rfl rfl ?_
  obtain ⟨fs1, e2, v4, e3, k⟩ := k
  refine jr_get jf_X0_54 dX0_settle_9 e2 e3 ?_
  refine jr_icmp_ge (tgt := 147) dX0_settle_12 (by decide) (fun c12 => ?_) (fun c12 => ?_)
  · have k := k.2 c12
    exact jr_vret rfl dX0_settle_147 k
  · have k := k.1 c12
    refine jr_iload_n 3 dX0_settle_15 rfl rfl ?_
    refine jr_bipush (v := 7) dX0_settle_16 (by decide) ?_
    refine jr_icmp_ge (tgt := 147) dX0_settle_18 (by decide) (fun c18 => ?_) (fun c18 => ?_)
    · have k := k.2 c18
      exact jr_vret rfl dX0_settle_147 k
    · have k := k.1 c18
      refine jr_aload_n 2 dX0_settle_21 rfl rfl ?_
      obtain ⟨fs5, e6, v8, e7, k⟩ := k
      refine jr_get jf_X0_78 dX0_settle_22 e6 e7 ?_
      refine jr_iload_n 3 dX0_settle_25 rfl rfl ?_
      obtain ⟨n9, f10, e11, e12, k⟩ := k
      refine jr_iald dX0_settle_26 e11 e12 ?_
      refine jr_if_ne (tgt := 141) dX0_settle_27 (by decide) (fun c27 => ?_) (fun c27 => ?_)
      · have k := k.2 c27
        refine jr_iinc (v := (x3 + 1)) (lv' := [(3, .int (x3 + 1)), (0, .ref x0), (1, .ref x1), (2, .ref x2)]) 3 dX0_settle_141 rfl rfl (by decide) rfl ?_
        refine jr_goto (tgt := 7) dX0_settle_144 (by decide) ?_
        exact jr_sub [1, 2, 3, 0] rfl k
      · have k := k.1 c27
        refine jr_aload_n 2 dX0_settle_30 rfl rfl ?_
        obtain ⟨fs13, e14, v16, e15, k⟩ := k
        refine jr_get jf_X0_97 dX0_settle_31 e14 e15 ?_
        refine jr_iload_n 3 dX0_settle_34 rfl rfl ?_
        obtain ⟨n17, f18, e19, e20, k⟩ := k
        refine jr_iald dX0_settle_35 e19 e20 ?_
        refine jr_aload_n 2 dX0_settle_36 rfl rfl ?_
        obtain ⟨fs21, e22, v24, e23, k⟩ := k
        refine jr_get jf_X0_100 dX0_settle_37 e22 e23 ?_
        refine jr_iload_n 3 dX0_settle_40 rfl rfl ?_
        obtain ⟨n25, f26, e27, e28, k⟩ := k
        refine jr_iald dX0_settle_41 e27 e28 ?_
        refine jr_iadd dX0_settle_42 ?_
        refine jr_aload_n 2 dX0_settle_43 rfl rfl ?_
        obtain ⟨fs29, e30, v32, e31, k⟩ := k
        refine jr_get jf_X0_103 dX0_settle_44 e30 e31 ?_
        refine jr_iload_n 3 dX0_settle_47 rfl rfl ?_
        obtain ⟨n33, f34, e35, e36, k⟩ := k
        refine jr_iald dX0_settle_48 e35 e36 ?_
        refine jr_isub dX0_settle_49 ?_
        refine jr_istore (lv' := [(4, .int (((f18 x3.toNatClampNeg) + (f26 x3.toNatClampNeg)) - (f34 x3.toNatClampNeg))), (0, .ref x0), (1, .ref x1), (2, .ref x2), (3, .int x3)]) dX0_settle_50 (by decide) rfl ?_
        refine jr_iload 0 dX0_settle_52 rfl ?_
        refine jr_if_ge (tgt := 74) dX0_settle_54 (by decide) (fun c54 => ?_) (fun c54 => ?_)
        · have k := k.2 c54
          refine jr_aload_n 3 dX0_settle_74 rfl rfl ?_
          obtain ⟨fs37, e38, v40, e39, k⟩ := k
          refine jr_get jf_X0_58 dX0_settle_75 e38 e39 ?_
          refine jr_iload_n 4 dX0_settle_78 rfl rfl ?_
          obtain ⟨n41, f42, e43, e44, k⟩ := k
          refine jr_iald dX0_settle_79 e43 e44 ?_
          exact jr_sub [1, 2, 3, 4, 0] rfl k
        · have k := k.1 c54
          refine jr_aload_n 3 dX0_settle_57 rfl rfl ?_
          obtain ⟨fs45, e46, v48, e47, k⟩ := k
          refine jr_get jf_X0_58 dX0_settle_58 e46 e47 ?_
          refine jr_iload_n 4 dX0_settle_61 rfl rfl ?_
          obtain ⟨n49, f50, e51, e52, k⟩ := k
          refine jr_iald dX0_settle_62 e51 e52 ?_
          refine jr_iload 0 dX0_settle_63 rfl ?_
          refine jr_isub dX0_settle_65 ?_
          refine jr_ldc (v := 999999) jk_X0_65 dX0_settle_66 ?_
          refine jr_mmin jl_X0_66 dX0_settle_68 (Nat.le_of_ble_eq_true rfl) ?_
          refine jr_goto (tgt := 80) dX0_settle_71 (by decide) ?_
          exact jr_sub [1, 2, 3, 4, 0] rfl k
set_option maxRecDepth 20000 in
theorem bX0_settle_80 {g : jG} {d : Nat} {hs : jH} {P : jO → jH → Prop} {x0 : Nat} {x1 : Nat} {x2 : Nat} {x3 : Int32} {x4 : Int32} {s0 : Int32} {h : jH} (k : ∃ fs3 : List Value, h.1 x0 = some (.inr (0, fs3)) ∧ Con g mX0_payment d [.ref x0, .ref x1, .ref x2, .int x3, .int (jmax ((jmin x4 999999)) 0), .int s0] h (jPi (fun (r1 : Int32) (h2 : jH) => ∃ fs5 : List Value, h2.1 x2 = some (.inr (6, fs5)) ∧ ∃ v8 : Nat, fs5[5]? = some (.ref v8) ∧ ∃ (n9 : Nat) (f10 : Nat → Int32), h2.1 v8 = some (.inl (0, (n9, .inl f10))) ∧ vp_in x3 n9 ∧ ∀ h13 : jH, h13 = jset h2 v8 (.inl (0, (n9, .inl (upd f10 x3.toNatClampNeg (((jmax ((jmin x4 999999)) 0) - r1)))))) → ∃ fs15 : List Value, h13.1 x2 = some (.inr (6, fs15)) ∧ ∃ v18 : Nat, fs15[7]? = some (.ref v18) ∧ ∃ (n19 : Nat) (f20 : Nat → Int32), h13.1 v18 = some (.inl (0, (n19, .inl f20))) ∧ vp_in x3 n19 ∧ ∀ h23 : jH, h23 = jset h13 v18 (.inl (0, (n19, .inl (upd f20 x3.toNatClampNeg ((s0 - r1)))))) → ∃ fs25 : List Value, h23.1 x0 = some (.inr (0, fs25)) ∧ ∃ v28 : Int32, fs25[1]? = some (.int v28) ∧ ∃ fs29 : List Value, h23.1 x0 = some (.inr (0, fs29)) ∧ 1 < fs29.length ∧ (∀ h32 : jH, h32 = jset h23 x0 (.inr (0, fs29.set 1 (.int (v28 + r1)))) → J g mX0_settle (d + 1) hs P 7 [(0, .ref x0), (1, .ref x1), (2, .ref x2), (3, .int (x3 + 1))] [] h32)) (fun E h' => P (.inr E) h'))) : J g mX0_settle (d + 1) hs P 80 [(0, .ref x0), (1, .ref x1), (2, .ref x2), (3, .int x3), (4, .int x4)] [.int s0] h := by
  refine jr_istore (lv' := [(5, .int s0), (0, .ref x0), (1, .ref x1), (2, .ref x2), (3, .int x3), (4, .int x4)]) dX0_settle_80 (by decide) rfl ?_
  refine jr_iload 5 dX0_settle_82 rfl ?_
  refine jr_ldc (v := 999999) jk_X0_65 dX0_settle_84 ?_
  refine jr_mmin jl_X0_66 dX0_settle_86 (Nat.le_of_ble_eq_true rfl) ?_
  refine jr_iconst (v := 0) dX0_settle_89 (by decide) ?_
  refine jr_mmax jl_X0_88 dX0_settle_90 (Nat.le_of_ble_eq_true rfl) ?_
  refine jr_istore (lv' := [(4, .int (jmax ((jmin x4 999999)) 0)), (5, .int s0), (0, .ref x0), (1, .ref x1), (2, .ref x2), (3, .int x3)]) dX0_settle_93 (by decide) rfl ?_
  refine jr_aload_n 2 dX0_settle_95 rfl rfl ?_
  refine jr_aload_n 3 dX0_settle_96 rfl rfl ?_
  refine jr_aload_n 4 dX0_settle_97 rfl rfl ?_
  refine jr_iload_n 5 dX0_settle_98 rfl rfl ?_
  refine jr_iload 0 dX0_settle_99 rfl ?_
  refine jr_iload 1 dX0_settle_101 rfl ?_
  obtain ⟨fs3, e4, k⟩ := k
  refine jr_cVi (As := [.ref x1, .ref x2, .int x3, .int (jmax ((jmin x4 999999)) 0), .int s0]) jl_X0_106 km_X0_payment rfl rfl dX0_settle_103 e4 (Nat.le_of_ble_eq_true rfl) k (fun r1 h2 k => ?_)
  refine jr_istore (lv' := [(6, .int r1), (4, .int (jmax ((jmin x4 999999)) 0)), (5, .int s0), (0, .ref x0), (1, .ref x1), (2, .ref x2), (3, .int x3)]) dX0_settle_106 (by decide) rfl ?_
  refine jr_aload_n 5 dX0_settle_108 rfl rfl ?_
  obtain ⟨fs5, e6, v8, e7, k⟩ := k
  refine jr_get jf_X0_97 dX0_settle_109 e6 e7 ?_
  refine jr_iload_n 6 dX0_settle_112 rfl rfl ?_
  refine jr_iload 1 dX0_settle_113 rfl ?_
  refine jr_iload 0 dX0_settle_115 rfl ?_
  refine jr_isub dX0_settle_117 ?_
  obtain ⟨n9, f10, e11, e12, k⟩ := k
  refine jr_iastE dX0_settle_118 e11 e12 (fun h13 eh14 => ?_)
  have k := k h13 eh14
  refine jr_aload_n 5 dX0_settle_119 rfl rfl ?_
  obtain ⟨fs15, e16, v18, e17, k⟩ := k
  refine jr_get jf_X0_58 dX0_settle_120 e16 e17 ?_
  refine jr_iload_n 6 dX0_settle_123 rfl rfl ?_
  refine jr_iload 2 dX0_settle_124 rfl ?_
  refine jr_iload 0 dX0_settle_126 rfl ?_
  refine jr_isub dX0_settle_128 ?_
  obtain ⟨n19, f20, e21, e22, k⟩ := k
  refine jr_iastE dX0_settle_129 e21 e22 (fun h23 eh24 => ?_)
  have k := k h23 eh24
  refine jr_aload_n 3 dX0_settle_130 rfl rfl ?_
  refine jr_dup dX0_settle_131 rfl ?_
  obtain ⟨fs25, e26, v28, e27, k⟩ := k
  refine jr_get jf_X0_94 dX0_settle_132 e26 e27 ?_
  refine jr_iload 0 dX0_settle_135 rfl ?_
  refine jr_iadd dX0_settle_137 ?_
  obtain ⟨fs29, e30, e31, k⟩ := k
  refine jr_putE jp_X0_94 dX0_settle_138 e30 e31 rfl rfl (fun h32 eh33 => ?_)
  have k := k h32 eh33
  refine jr_iinc (v := (x3 + 1)) (lv' := [(3, .int (x3 + 1)), (6, .int r1), (4, .int (jmax ((jmin x4 999999)) 0)), (5, .int s0), (0, .ref x0), (1, .ref x1), (2, .ref x2)]) 6 dX0_settle_141 rfl rfl (by decide) rfl ?_
  refine jr_goto (tgt := 7) dX0_settle_144 (by decide) ?_
  exact jr_sub [4, 5, 6, 0] rfl k
set_option maxRecDepth 20000 in
theorem bX0_payment_0 {g : jG} {d : Nat} {hs : jH} {P : jO → jH → Prop} {x0 : Nat} {x1 : Nat} {x2 : Nat} {x3 : Int32} {x4 : Int32} {x5 : Int32} {h : jH} (k : ∃ fs1 : List Value, h.1 x1 = some (.inr (9, fs1)) ∧ ∃ v4 : Nat, fs1[4]? = some (.ref v4) ∧ ∃ (t5 : Nat) (z6 : vp_A), h.1 v4 = some (.inl (t5, z6)) ∧ (∃ ty9 : FieldType, jTy t5 = some ty9) ∧ ((nI z6.1) = 0 → P (.inl (some (.int ((jmin x4 x5))))) h) ∧ (¬ (nI z6.1) = 0 → ((jmin x4 x5) = 0 → P (.inl (some (.int ((jmin x4 x5))))) h) ∧ (¬ (jmin x4 x5) = 0 → ∃ fs12 : List Value, h.1 x2 = some (.inr (6, fs12)) ∧ Con g mX6_has d [.ref x2, .int x3] h (jPi (fun (r10 : Int32) (h11 : jH) => (r10 = 0 → P (.inl (some (.int ((jmin x4 x5))))) h11) ∧ (¬ r10 = 0 → ∃ fs14 : List Value, h11.1 x0 = some (.inr (0, fs14)) ∧ ∃ v17 : Nat, fs14[6]? = some (.ref v17) ∧ ∃ fs18 : List Value, h11.1 x2 = some (.inr (6, fs18)) ∧ ∃ v21 : Int32, fs18[2]? = some (.int v21) ∧ ∃ fs24 : List Value, h11.1 v17 = some (.inr (5, fs24)) ∧ Con g mX5_put d [.ref v17, .int x5, .int x3, .int v21, .int x4] h11 (jPv (fun (h23 : jH) => ∃ fs26 : List Value, h23.1 x0 = some (.inr (0, fs26)) ∧ ∃ v29 : Nat, fs26[6]? = some (.ref v29) ∧ ∃ fs30 : List Value, h23.1 v29 = some (.inr (5, fs30)) ∧ ∃ v33 : Nat, fs30[0]? = some (.ref v33) ∧ ∃ fs34 : List Value, h23.1 x2 = some (.inr (6, fs34)) ∧ ∃ v37 : Nat, fs34[3]? = some (.ref v37) ∧ ∃ (n38 : Nat) (f39 : Nat → Int32), h23.1 v37 = some (.inl (0, (n38, .inl f39))) ∧ vp_in x3 n38 ∧ ∃ (n42 : Nat) (f43 : Nat → Int32), h23.1 v33 = some (.inl (0, (n42, .inl f43))) ∧ vp_in 4 n42 ∧ ∀ h46 : jH, h46 = jset h23 v33 (.inl (0, (n42, .inl (upd f43 ((4 : Int32)).toNatClampNeg ((f39 x3.toNatClampNeg)))))) → ∃ fs48 : List Value, h46.1 x0 = some (.inr (0, fs48)) ∧ ∃ v51 : Nat, fs48[6]? = some (.ref v51) ∧ ∃ fs52 : List Value, h46.1 v51 = some (.inr (5, fs52)) ∧ ∃ v55 : Nat, fs52[0]? = some (.ref v55) ∧ ∃ fs56 : List Value, h46.1 x2 = some (.inr (6, fs56)) ∧ ∃ v59 : Nat, fs56[4]? = some (.ref v59) ∧ ∃ (n60 : Nat) (f61 : Nat → Int32), h46.1 v59 = some (.inl (0, (n60, .inl f61))) ∧ vp_in x3 n60 ∧ ∃ (n64 : Nat) (f65 : Nat → Int32), h46.1 v55 = some (.inl (0, (n64, .inl f65))) ∧ vp_in 5 n64 ∧ ∀ h68 : jH, h68 = jset h46 v55 (.inl (0, (n64, .inl (upd f65 ((5 : Int32)).toNatClampNeg ((f61 x3.toNatClampNeg)))))) → ∃ fs70 : List Value, h68.1 x0 = some (.inr (0, fs70)) ∧ ∃ v73 : Nat, fs70[6]? = some (.ref v73) ∧ ∃ fs74 : List Value, h68.1 x1 = some (.inr (9, fs74)) ∧ ∃ v77 : Nat, fs74[4]? = some (.ref v77) ∧ ∃ fs80 : List Value, h68.1 v73 = some (.inr (5, fs80)) ∧ Con g mX5_weigh d [.ref v73, .ref v77] h68 (jPi (fun (r78 : Int32) (h79 : jH) => P (.inl (some (.int ((jmax ((jmin r78 ((jmin x4 x5)))) 0))))) h79) (fun E h' => P (.inr E) h'))) (fun E h' => P (.inr E) h')))) (fun E h' => P (.inr E) h'))))) : J g mX0_payment (d + 1) hs P 0 [(0, .ref x0), (1, .ref x1), (2, .ref x2), (3, .int x3), (4, .int x4), (5, .int x5)] [] h := by
  refine jr_iload 4 dX0_payment_0 rfl ?_
  refine jr_iload 5 dX0_payment_2 rfl ?_
  refine jr_mmin jl_X0_66 dX0_payment_4 (Nat.le_of_ble_eq_true rfl) ?_
  refine jr_istore (lv' := [(6, .int (jmin x4 x5)), (0, .ref x0), (1, .ref x1), (2, .ref x2), (3, .int x3), (4, .int x4), (5, .int x5)]) dX0_payment_7 (by decide) rfl ?_
  refine jr_aload_n 2 dX0_payment_9 rfl rfl ?_
  obtain ⟨fs1, e2, v4, e3, k⟩ := k
  refine jr_get jf_X0_110 dX0_payment_10 e2 e3 ?_
  obtain ⟨t5, z6, e7, ⟨ty9, e8⟩, k⟩ := k
  refine jr_alen (v := nI z6.1) dX0_payment_13 e8 e7 rfl ?_
  refine jr_if_eq (tgt := 30) dX0_payment_14 (by decide) (fun c14 => ?_) (fun c14 => ?_)
  · have k := k.1 c14
    refine jr_iload 0 dX0_payment_30 rfl ?_
    exact jr_iret (ty := .int) rfl rfl dX0_payment_32 k
  · have k := k.2 c14
    refine jr_iload 0 dX0_payment_17 rfl ?_
    refine jr_if_eq (tgt := 30) dX0_payment_19 (by decide) (fun c19 => ?_) (fun c19 => ?_)
    · have k := k.1 c19
      refine jr_iload 0 dX0_payment_30 rfl ?_
      exact jr_iret (ty := .int) rfl rfl dX0_payment_32 k
    · have k := k.2 c19
      refine jr_aload_n 3 dX0_payment_22 rfl rfl ?_
      refine jr_iload_n 4 dX0_payment_23 rfl rfl ?_
      obtain ⟨fs12, e13, k⟩ := k
      refine jr_cVi (As := [.int x3]) jl_X0_113 km_X6_has rfl rfl dX0_payment_24 e13 (Nat.le_of_ble_eq_true rfl) k (fun r10 h11 k => ?_)
      refine jr_if_ne (tgt := 33) dX0_payment_27 (by decide) (fun c27 => ?_) (fun c27 => ?_)
      · have k := k.2 c27
        refine jr_aload_n 1 dX0_payment_33 rfl rfl ?_
        obtain ⟨fs14, e15, v17, e16, k⟩ := k
        refine jr_get jf_X0_28 dX0_payment_34 e15 e16 ?_
        refine jr_iload 6 dX0_payment_37 rfl ?_
        refine jr_iload_n 4 dX0_payment_39 rfl rfl ?_
        refine jr_aload_n 3 dX0_payment_40 rfl rfl ?_
        obtain ⟨fs18, e19, v21, e20, k⟩ := k
        refine jr_get jf_X0_91 dX0_payment_41 e19 e20 ?_
        refine jr_iload 5 dX0_payment_44 rfl ?_
        obtain ⟨fs24, e25, k⟩ := k
        refine jr_cVv (As := [.int x5, .int x3, .int v21, .int x4]) jl_X0_117 km_X5_put rfl rfl dX0_payment_46 e25 (Nat.le_of_ble_eq_true rfl) k (fun h23 k => ?_)
        refine jr_aload_n 1 dX0_payment_49 rfl rfl ?_
        obtain ⟨fs26, e27, v29, e28, k⟩ := k
        refine jr_get jf_X0_28 dX0_payment_50 e27 e28 ?_
        obtain ⟨fs30, e31, v33, e32, k⟩ := k
        refine jr_get jf_X0_121 dX0_payment_53 e31 e32 ?_
        refine jr_iconst (v := 4) dX0_payment_56 (by decide) ?_
        refine jr_aload_n 3 dX0_payment_57 rfl rfl ?_
        obtain ⟨fs34, e35, v37, e36, k⟩ := k
        refine jr_get jf_X0_100 dX0_payment_58 e35 e36 ?_
        refine jr_iload_n 4 dX0_payment_61 rfl rfl ?_
        obtain ⟨n38, f39, e40, e41, k⟩ := k
        refine jr_iald dX0_payment_62 e40 e41 ?_
        obtain ⟨n42, f43, e44, e45, k⟩ := k
        refine jr_iastE dX0_payment_63 e44 e45 (fun h46 eh47 => ?_)
        have k := k h46 eh47
        refine jr_aload_n 1 dX0_payment_64 rfl rfl ?_
        obtain ⟨fs48, e49, v51, e50, k⟩ := k
        refine jr_get jf_X0_28 dX0_payment_65 e49 e50 ?_
        obtain ⟨fs52, e53, v55, e54, k⟩ := k
        refine jr_get jf_X0_121 dX0_payment_68 e53 e54 ?_
        refine jr_iconst (v := 5) dX0_payment_71 (by decide) ?_
        refine jr_aload_n 3 dX0_payment_72 rfl rfl ?_
        obtain ⟨fs56, e57, v59, e58, k⟩ := k
        refine jr_get jf_X0_103 dX0_payment_73 e57 e58 ?_
        refine jr_iload_n 4 dX0_payment_76 rfl rfl ?_
        obtain ⟨n60, f61, e62, e63, k⟩ := k
        refine jr_iald dX0_payment_77 e62 e63 ?_
        obtain ⟨n64, f65, e66, e67, k⟩ := k
        refine jr_iastE dX0_payment_78 e66 e67 (fun h68 eh69 => ?_)
        have k := k h68 eh69
        refine jr_aload_n 1 dX0_payment_79 rfl rfl ?_
        obtain ⟨fs70, e71, v73, e72, k⟩ := k
        refine jr_get jf_X0_28 dX0_payment_80 e71 e72 ?_
        refine jr_aload_n 2 dX0_payment_83 rfl rfl ?_
        obtain ⟨fs74, e75, v77, e76, k⟩ := k
        refine jr_get jf_X0_110 dX0_payment_84 e75 e76 ?_
        obtain ⟨fs80, e81, k⟩ := k
        refine jr_cVi (As := [.ref v77]) jl_X0_124 km_X5_weigh rfl rfl dX0_payment_87 e81 (Nat.le_of_ble_eq_true rfl) k (fun r78 h79 k => ?_)
        refine jr_iload 0 dX0_payment_90 rfl ?_
        refine jr_mmin jl_X0_66 dX0_payment_92 (Nat.le_of_ble_eq_true rfl) ?_
        refine jr_iconst (v := 0) dX0_payment_95 (by decide) ?_
        refine jr_mmax jl_X0_88 dX0_payment_96 (Nat.le_of_ble_eq_true rfl) ?_
        exact jr_iret (ty := .int) rfl rfl dX0_payment_99 k
      · have k := k.1 c27
        refine jr_iload 0 dX0_payment_30 rfl ?_
        exact jr_iret (ty := .int) rfl rfl dX0_payment_32 k
set_option maxRecDepth 20000 in
theorem bX0_growth_0 {g : jG} {d : Nat} {hs : jH} {P : jO → jH → Prop} {x0 : Nat} {x1 : Nat} {x2 : Nat} {x3 : Int32} {x4 : Int32} {h : jH} (k : ∃ fs1 : List Value, h.1 x1 = some (.inr (9, fs1)) ∧ ∃ v4 : Nat, fs1[5]? = some (.ref v4) ∧ ∃ (t5 : Nat) (z6 : vp_A), h.1 v4 = some (.inl (t5, z6)) ∧ (∃ ty9 : FieldType, jTy t5 = some ty9) ∧ ((nI z6.1) = 0 → P (.inl (some (.int 0))) h) ∧ (¬ (nI z6.1) = 0 → (x4 = 0 → P (.inl (some (.int 0))) h) ∧ (¬ x4 = 0 → ∃ fs10 : List Value, h.1 x0 = some (.inr (0, fs10)) ∧ ∃ v13 : Nat, fs10[6]? = some (.ref v13) ∧ ∃ fs14 : List Value, h.1 x2 = some (.inr (6, fs14)) ∧ ∃ v17 : Int32, fs14[2]? = some (.int v17) ∧ ∃ fs20 : List Value, h.1 v13 = some (.inr (5, fs20)) ∧ Con g mX5_put d [.ref v13, .int x4, .int x3, .int v17, .int 0] h (jPv (fun (h19 : jH) => ∃ fs22 : List Value, h19.1 x0 = some (.inr (0, fs22)) ∧ ∃ v25 : Nat, fs22[6]? = some (.ref v25) ∧ ∃ fs26 : List Value, h19.1 x1 = some (.inr (9, fs26)) ∧ ∃ v29 : Nat, fs26[5]? = some (.ref v29) ∧ ∃ fs32 : List Value, h19.1 v25 = some (.inr (5, fs32)) ∧ Con g mX5_weigh d [.ref v25, .ref v29] h19 (jPi (fun (r30 : Int32) (h31 : jH) => P (.inl (some (.int ((jmax ((jmin r30 999)) 0))))) h31) (fun E h' => P (.inr E) h'))) (fun E h' => P (.inr E) h'))))) : J g mX0_growth (d + 1) hs P 0 [(0, .ref x0), (1, .ref x1), (2, .ref x2), (3, .int x3), (4, .int x4)] [] h := by
  refine jr_aload_n 1 dX0_growth_0 rfl rfl ?_
  obtain ⟨fs1, e2, v4, e3, k⟩ := k
  refine jr_get jf_X0_128 dX0_growth_1 e2 e3 ?_
  obtain ⟨t5, z6, e7, ⟨ty9, e8⟩, k⟩ := k
  refine jr_alen (v := nI z6.1) dX0_growth_4 e8 e7 rfl ?_
  refine jr_if_eq (tgt := 13) dX0_growth_5 (by decide) (fun c5 => ?_) (fun c5 => ?_)
  · have k := k.1 c5
    refine jr_iconst (v := 0) dX0_growth_13 (by decide) ?_
    exact jr_iret (ty := .int) rfl rfl dX0_growth_14 k
  · have k := k.2 c5
    refine jr_iload 4 dX0_growth_8 rfl ?_
    refine jr_if_ne (tgt := 15) dX0_growth_10 (by decide) (fun c10 => ?_) (fun c10 => ?_)
    · have k := k.2 c10
      refine jr_aload_n 0 dX0_growth_15 rfl rfl ?_
      obtain ⟨fs10, e11, v13, e12, k⟩ := k
      refine jr_get jf_X0_28 dX0_growth_16 e11 e12 ?_
      refine jr_iload 4 dX0_growth_19 rfl ?_
      refine jr_iload_n 3 dX0_growth_21 rfl rfl ?_
      refine jr_aload_n 2 dX0_growth_22 rfl rfl ?_
      obtain ⟨fs14, e15, v17, e16, k⟩ := k
      refine jr_get jf_X0_91 dX0_growth_23 e15 e16 ?_
      refine jr_iconst (v := 0) dX0_growth_26 (by decide) ?_
      obtain ⟨fs20, e21, k⟩ := k
      refine jr_cVv (As := [.int x4, .int x3, .int v17, .int 0]) jl_X0_117 km_X5_put rfl rfl dX0_growth_27 e21 (Nat.le_of_ble_eq_true rfl) k (fun h19 k => ?_)
      refine jr_aload_n 0 dX0_growth_30 rfl rfl ?_
      obtain ⟨fs22, e23, v25, e24, k⟩ := k
      refine jr_get jf_X0_28 dX0_growth_31 e23 e24 ?_
      refine jr_aload_n 1 dX0_growth_34 rfl rfl ?_
      obtain ⟨fs26, e27, v29, e28, k⟩ := k
      refine jr_get jf_X0_128 dX0_growth_35 e27 e28 ?_
      obtain ⟨fs32, e33, k⟩ := k
      refine jr_cVi (As := [.ref v29]) jl_X0_124 km_X5_weigh rfl rfl dX0_growth_38 e33 (Nat.le_of_ble_eq_true rfl) k (fun r30 h31 k => ?_)
      refine jr_sipush (v := 999) dX0_growth_41 (by decide) ?_
      refine jr_mmin jl_X0_66 dX0_growth_44 (Nat.le_of_ble_eq_true rfl) ?_
      refine jr_iconst (v := 0) dX0_growth_47 (by decide) ?_
      refine jr_mmax jl_X0_88 dX0_growth_48 (Nat.le_of_ble_eq_true rfl) ?_
      exact jr_iret (ty := .int) rfl rfl dX0_growth_51 k
    · have k := k.1 c10
      refine jr_iconst (v := 0) dX0_growth_13 (by decide) ?_
      exact jr_iret (ty := .int) rfl rfl dX0_growth_14 k
set_option maxRecDepth 20000 in
theorem bX0_taking_0 {g : jG} {d : Nat} {hs : jH} {P : jO → jH → Prop} {x0 : Nat} {x1 : Nat} {x2 : Nat} {x3 : Int32} {x4 : Int32} {h : jH} (k : ∃ fs1 : List Value, h.1 x2 = some (.inr (6, fs1)) ∧ ∃ v4 : Int32, fs1[0]? = some (.int v4) ∧ ∃ fs7 : List Value, h.1 x1 = some (.inr (9, fs7)) ∧ Con g mX9_next d [.ref x1, .int x3, .int v4] h (jPi (fun (r5 : Int32) (h6 : jH) => ∃ fs9 : List Value, h6.1 x1 = some (.inr (9, fs9)) ∧ ∃ v12 : Nat, fs9[6]? = some (.ref v12) ∧ ∃ (t13 : Nat) (z14 : vp_A), h6.1 v12 = some (.inl (t13, z14)) ∧ (∃ ty17 : FieldType, jTy t13 = some ty17) ∧ ((nI z14.1) = 0 → P (.inl (some (.int 1))) h6) ∧ (¬ (nI z14.1) = 0 → ∃ fs20 : List Value, h6.1 x2 = some (.inr (6, fs20)) ∧ Con g mX6_has d [.ref x2, .int r5] h6 (jPi (fun (r18 : Int32) (h19 : jH) => (r18 = 0 → P (.inl (some (.int 1))) h19) ∧ (¬ r18 = 0 → ∃ fs22 : List Value, h19.1 x0 = some (.inr (0, fs22)) ∧ ∃ v25 : Nat, fs22[6]? = some (.ref v25) ∧ ∃ fs26 : List Value, h19.1 x2 = some (.inr (6, fs26)) ∧ ∃ v29 : Int32, fs26[2]? = some (.int v29) ∧ ∃ fs30 : List Value, h19.1 x2 = some (.inr (6, fs30)) ∧ ∃ v33 : Nat, fs30[5]? = some (.ref v33) ∧ ∃ (n34 : Nat) (f35 : Nat → Int32), h19.1 v33 = some (.inl (0, (n34, .inl f35))) ∧ vp_in r5 n34 ∧ ∃ fs40 : List Value, h19.1 v25 = some (.inr (5, fs40)) ∧ Con g mX5_put d [.ref v25, .int x4, .int r5, .int v29, .int (f35 r5.toNatClampNeg)] h19 (jPv (fun (h39 : jH) => ∃ fs42 : List Value, h39.1 x0 = some (.inr (0, fs42)) ∧ ∃ v45 : Nat, fs42[6]? = some (.ref v45) ∧ ∃ fs46 : List Value, h39.1 v45 = some (.inr (5, fs46)) ∧ ∃ v49 : Nat, fs46[0]? = some (.ref v49) ∧ ∃ fs50 : List Value, h39.1 x2 = some (.inr (6, fs50)) ∧ ∃ v53 : Nat, fs50[7]? = some (.ref v53) ∧ ∃ (n54 : Nat) (f55 : Nat → Int32), h39.1 v53 = some (.inl (0, (n54, .inl f55))) ∧ vp_in r5 n54 ∧ ∃ (n58 : Nat) (f59 : Nat → Int32), h39.1 v49 = some (.inl (0, (n58, .inl f59))) ∧ vp_in 6 n58 ∧ ∀ h62 : jH, h62 = jset h39 v49 (.inl (0, (n58, .inl (upd f59 ((6 : Int32)).toNatClampNeg ((f55 r5.toNatClampNeg)))))) → ∃ fs64 : List Value, h62.1 x0 = some (.inr (0, fs64)) ∧ ∃ v67 : Nat, fs64[6]? = some (.ref v67) ∧ ∃ fs68 : List Value, h62.1 x1 = some (.inr (9, fs68)) ∧ ∃ v71 : Nat, fs68[6]? = some (.ref v71) ∧ ∃ fs74 : List Value, h62.1 v67 = some (.inr (5, fs74)) ∧ Con g mX5_weigh d [.ref v67, .ref v71] h62 (jPi (fun (r72 : Int32) (h73 : jH) => (r72 = 1 → P (.inl (some (.int 1))) h73) ∧ (¬ r72 = 1 → P (.inl (some (.int 0))) h73)) (fun E h' => P (.inr E) h'))) (fun E h' => P (.inr E) h')))) (fun E h' => P (.inr E) h')))) (fun E h' => P (.inr E) h'))) : J g mX0_taking (d + 1) hs P 0 [(0, .ref x0), (1, .ref x1), (2, .ref x2), (3, .int x3), (4, .int x4)] [] h := by
  refine jr_aload_n 1 dX0_taking_0 rfl rfl ?_
  refine jr_iload_n 3 dX0_taking_1 rfl rfl ?_
  refine jr_aload_n 2 dX0_taking_2 rfl rfl ?_
  obtain ⟨fs1, e2, v4, e3, k⟩ := k
  refine jr_get jf_X0_54 dX0_taking_3 e2 e3 ?_
  obtain ⟨fs7, e8, k⟩ := k
  refine jr_cVi (As := [.int x3, .int v4]) jl_X0_131 km_X9_next rfl rfl dX0_taking_6 e8 (Nat.le_of_ble_eq_true rfl) k (fun r5 h6 k => ?_)
  refine jr_istore (lv' := [(5, .int r5), (0, .ref x0), (1, .ref x1), (2, .ref x2), (3, .int x3), (4, .int x4)]) dX0_taking_9 (by decide) rfl ?_
  refine jr_aload_n 2 dX0_taking_11 rfl rfl ?_
  obtain ⟨fs9, e10, v12, e11, k⟩ := k
  refine jr_get jf_X0_134 dX0_taking_12 e10 e11 ?_
  obtain ⟨t13, z14, e15, ⟨ty17, e16⟩, k⟩ := k
  refine jr_alen (v := nI z14.1) dX0_taking_15 e16 e15 rfl ?_
  refine jr_if_eq (tgt := 28) dX0_taking_16 (by decide) (fun c16 => ?_) (fun c16 => ?_)
  · have k := k.1 c16
    refine jr_iconst (v := 1) dX0_taking_28 (by decide) ?_
    exact jr_iret (ty := .boolean) rfl rfl dX0_taking_29 k
  · have k := k.2 c16
    refine jr_aload_n 3 dX0_taking_19 rfl rfl ?_
    refine jr_iload 0 dX0_taking_20 rfl ?_
    obtain ⟨fs20, e21, k⟩ := k
    refine jr_cVi (As := [.int r5]) jl_X0_113 km_X6_has rfl rfl dX0_taking_22 e21 (Nat.le_of_ble_eq_true rfl) k (fun r18 h19 k => ?_)
    refine jr_if_ne (tgt := 30) dX0_taking_25 (by decide) (fun c25 => ?_) (fun c25 => ?_)
    · have k := k.2 c25
      refine jr_aload_n 1 dX0_taking_30 rfl rfl ?_
      obtain ⟨fs22, e23, v25, e24, k⟩ := k
      refine jr_get jf_X0_28 dX0_taking_31 e23 e24 ?_
      refine jr_iload 5 dX0_taking_34 rfl ?_
      refine jr_iload 0 dX0_taking_36 rfl ?_
      refine jr_aload_n 3 dX0_taking_38 rfl rfl ?_
      obtain ⟨fs26, e27, v29, e28, k⟩ := k
      refine jr_get jf_X0_91 dX0_taking_39 e27 e28 ?_
      refine jr_aload_n 3 dX0_taking_42 rfl rfl ?_
      obtain ⟨fs30, e31, v33, e32, k⟩ := k
      refine jr_get jf_X0_97 dX0_taking_43 e31 e32 ?_
      refine jr_iload 0 dX0_taking_46 rfl ?_
      obtain ⟨n34, f35, e36, e37, k⟩ := k
      refine jr_iald dX0_taking_48 e36 e37 ?_
      obtain ⟨fs40, e41, k⟩ := k
      refine jr_cVv (As := [.int x4, .int r5, .int v29, .int (f35 r5.toNatClampNeg)]) jl_X0_117 km_X5_put rfl rfl dX0_taking_49 e41 (Nat.le_of_ble_eq_true rfl) k (fun h39 k => ?_)
      refine jr_aload_n 1 dX0_taking_52 rfl rfl ?_
      obtain ⟨fs42, e43, v45, e44, k⟩ := k
      refine jr_get jf_X0_28 dX0_taking_53 e43 e44 ?_
      obtain ⟨fs46, e47, v49, e48, k⟩ := k
      refine jr_get jf_X0_121 dX0_taking_56 e47 e48 ?_
      refine jr_bipush (v := 6) dX0_taking_59 (by decide) ?_
      refine jr_aload_n 3 dX0_taking_61 rfl rfl ?_
      obtain ⟨fs50, e51, v53, e52, k⟩ := k
      refine jr_get jf_X0_58 dX0_taking_62 e51 e52 ?_
      refine jr_iload 0 dX0_taking_65 rfl ?_
      obtain ⟨n54, f55, e56, e57, k⟩ := k
      refine jr_iald dX0_taking_67 e56 e57 ?_
      obtain ⟨n58, f59, e60, e61, k⟩ := k
      refine jr_iastE dX0_taking_68 e60 e61 (fun h62 eh63 => ?_)
      have k := k h62 eh63
      refine jr_aload_n 1 dX0_taking_69 rfl rfl ?_
      obtain ⟨fs64, e65, v67, e66, k⟩ := k
      refine jr_get jf_X0_28 dX0_taking_70 e65 e66 ?_
      refine jr_aload_n 2 dX0_taking_73 rfl rfl ?_
      obtain ⟨fs68, e69, v71, e70, k⟩ := k
      refine jr_get jf_X0_134 dX0_taking_74 e69 e70 ?_
      obtain ⟨fs74, e75, k⟩ := k
      refine jr_cVi (As := [.ref v71]) jl_X0_124 km_X5_weigh rfl rfl dX0_taking_77 e75 (Nat.le_of_ble_eq_true rfl) k (fun r72 h73 k => ?_)
      refine jr_iconst (v := 1) dX0_taking_80 (by decide) ?_
      refine jr_icmp_ne (tgt := 88) dX0_taking_81 (by decide) (fun c81 => ?_) (fun c81 => ?_)
      · have k := k.2 c81
        refine jr_iconst (v := 0) dX0_taking_88 (by decide) ?_
        exact jr_iret (ty := .boolean) rfl rfl dX0_taking_89 k
      · have k := k.1 c81
        refine jr_iconst (v := 1) dX0_taking_84 (by decide) ?_
        refine jr_goto (tgt := 89) dX0_taking_85 (by decide) ?_
        exact jr_iret (ty := .boolean) rfl rfl dX0_taking_89 k
    · have k := k.1 c25
      refine jr_iconst (v := 1) dX0_taking_28 (by decide) ?_
      exact jr_iret (ty := .boolean) rfl rfl dX0_taking_29 k
set_option maxRecDepth 20000 in
theorem bX0_move_0 {g : jG} {d : Nat} {hs : jH} {P : jO → jH → Prop} {x0 : Nat} {x1 : Nat} {x2 : Nat} {h : jH} (k : ∃ fs1 : List Value, h.1 x0 = some (.inr (0, fs1)) ∧ ∃ v4 : Nat, fs1[0]? = some (.ref v4) ∧ Con g mJ7_fill_53178 d [.ref v4, .int 0] h (jPv (fun (h6 : jH) => J g mX0_move (d + 1) hs P 10 [(0, .ref x0), (1, .ref x1), (2, .ref x2), (3, .int 0)] [] h6) (fun E h' => P (.inr E) h'))) : J g mX0_move (d + 1) hs P 0 [(0, .ref x0), (1, .ref x1), (2, .ref x2)] [] h := by
  refine jr_aload_n 0 dX0_move_0 rfl rfl ?_
  obtain ⟨fs1, e2, v4, e3, k⟩ := k
  refine jr_get jf_X0_9 dX0_move_1 e2 e3 ?_
  refine jr_iconst (v := 0) dX0_move_4 (by decide) ?_
  refine jr_cSv (As := [.ref v4, .int 0]) jl_X0_137 km_J7_fill_53178 rfl rfl dX0_move_5 (Nat.le_of_ble_eq_true rfl) k (fun h6 k => ?_)
  refine jr_iconst (v := 0) dX0_move_8 (by decide) ?_
  refine jr_istore_n (lv' := [(3, .int 0), (0, .ref x0), (1, .ref x1), (2, .ref x2)]) dX0_move_9 rfl (by decide) rfl ?_
  exact jr_sub [1, 2, 3, 0] rfl k
set_option maxRecDepth 20000 in
theorem bX0_move_10 {g : jG} {d : Nat} {hs : jH} {P : jO → jH → Prop} {x0 : Nat} {x1 : Nat} {x2 : Nat} {x3 : Int32} {h : jH} (k : ∃ fs1 : List Value, h.1 x2 = some (.inr (6, fs1)) ∧ ∃ v4 : Int32, fs1[0]? = some (.int v4) ∧ (x3 < v4 → (x3 < 7 → ∃ fs5 : List Value, h.1 x2 = some (.inr (6, fs5)) ∧ ∃ v8 : Int32, fs5[0]? = some (.int v8) ∧ ∃ fs11 : List Value, h.1 x1 = some (.inr (9, fs11)) ∧ Con g mX9_next d [.ref x1, .int x3, .int v8] h (jPi (fun (r9 : Int32) (h10 : jH) => ∃ fs15 : List Value, h10.1 x2 = some (.inr (6, fs15)) ∧ Con g mX6_has d [.ref x2, .int r9] h10 (jPi (fun (r13 : Int32) (h14 : jH) => (r13 = 0 → J g mX0_move (d + 1) hs P 58 [(0, .ref x0), (1, .ref x1), (2, .ref x2), (3, .int x3), (4, .int r9)] [] h14) ∧ (¬ r13 = 0 → ∃ fs17 : List Value, h14.1 x2 = some (.inr (6, fs17)) ∧ ∃ v20 : Nat, fs17[8]? = some (.ref v20) ∧ ∃ (n21 : Nat) (f22 : Nat → Int32), h14.1 v20 = some (.inl (0, (n21, .inl f22))) ∧ vp_in r9 n21 ∧ (0 < (f22 r9.toNatClampNeg) → J g mX0_move (d + 1) hs P 59 [(0, .ref x0), (1, .ref x1), (2, .ref x2), (3, .int x3), (4, .int r9)] [.int 1] h14) ∧ (¬ 0 < (f22 r9.toNatClampNeg) → J g mX0_move (d + 1) hs P 58 [(0, .ref x0), (1, .ref x1), (2, .ref x2), (3, .int x3), (4, .int r9)] [] h14))) (fun E h' => P (.inr E) h'))) (fun E h' => P (.inr E) h'))) ∧ (¬ x3 < 7 → J g mX0_move (d + 1) hs P 172 [(0, .ref x0), (2, .ref x2), (3, .int 0)] [] h)) ∧ (¬ x3 < v4 → J g mX0_move (d + 1) hs P 172 [(0, .ref x0), (2, .ref x2), (3, .int 0)] [] h)) : J g mX0_move (d + 1) hs P 10 [(0, .ref x0), (1, .ref x1), (2, .ref x2), (3, .int x3)] [] h := by
  refine jr_iload_n 3 dX0_move_10 rfl rfl ?_
  refine jr_aload_n 2 dX0_move_11 rfl rfl ?_
  obtain ⟨fs1, e2, v4, e3, k⟩ := k
  refine jr_get jf_X0_54 dX0_move_12 e2 e3 ?_
  refine jr_icmp_ge (tgt := 170) dX0_move_15 (by decide) (fun c15 => ?_) (fun c15 => ?_)
  · have k := k.2 c15
    refine jr_iconst (v := 0) dX0_move_170 (by decide) ?_
    refine jr_istore_n (lv' := [(3, .int 0), (0, .ref x0), (1, .ref x1), (2, .ref x2)]) dX0_move_171 rfl (by decide) rfl ?_
    exact jr_sub [1, 3, 0] rfl k
  · have k := k.1 c15
    refine jr_iload_n 3 dX0_move_18 rfl rfl ?_
    refine jr_bipush (v := 7) dX0_move_19 (by decide) ?_
    refine jr_icmp_ge (tgt := 170) dX0_move_21 (by decide) (fun c21 => ?_) (fun c21 => ?_)
    · have k := k.2 c21
      refine jr_iconst (v := 0) dX0_move_170 (by decide) ?_
      refine jr_istore_n (lv' := [(3, .int 0), (0, .ref x0), (1, .ref x1), (2, .ref x2)]) dX0_move_171 rfl (by decide) rfl ?_
      exact jr_sub [1, 3, 0] rfl k
    · have k := k.1 c21
      refine jr_aload_n 1 dX0_move_24 rfl rfl ?_
      refine jr_iload_n 3 dX0_move_25 rfl rfl ?_
      refine jr_aload_n 2 dX0_move_26 rfl rfl ?_
      obtain ⟨fs5, e6, v8, e7, k⟩ := k
      refine jr_get jf_X0_54 dX0_move_27 e6 e7 ?_
      obtain ⟨fs11, e12, k⟩ := k
      refine jr_cVi (As := [.int x3, .int v8]) jl_X0_131 km_X9_next rfl rfl dX0_move_30 e12 (Nat.le_of_ble_eq_true rfl) k (fun r9 h10 k => ?_)
      refine jr_istore (lv' := [(4, .int r9), (0, .ref x0), (1, .ref x1), (2, .ref x2), (3, .int x3)]) dX0_move_33 (by decide) rfl ?_
      refine jr_aload_n 3 dX0_move_35 rfl rfl ?_
      refine jr_iload 0 dX0_move_36 rfl ?_
      obtain ⟨fs15, e16, k⟩ := k
      refine jr_cVi (As := [.int r9]) jl_X0_113 km_X6_has rfl rfl dX0_move_38 e16 (Nat.le_of_ble_eq_true rfl) k (fun r13 h14 k => ?_)
      refine jr_if_eq (tgt := 58) dX0_move_41 (by decide) (fun c41 => ?_) (fun c41 => ?_)
      · have k := k.1 c41
        exact jr_sub [1, 2, 3, 4, 0] rfl k
      · have k := k.2 c41
        refine jr_aload_n 3 dX0_move_44 rfl rfl ?_
        obtain ⟨fs17, e18, v20, e19, k⟩ := k
        refine jr_get jf_X0_85 dX0_move_45 e18 e19 ?_
        refine jr_iload 0 dX0_move_48 rfl ?_
        obtain ⟨n21, f22, e23, e24, k⟩ := k
        refine jr_iald dX0_move_50 e23 e24 ?_
        refine jr_if_le (tgt := 58) dX0_move_51 (by decide) (fun c51 => ?_) (fun c51 => ?_)
        · have k := k.2 c51
          exact jr_sub [1, 2, 3, 4, 0] rfl k
        · have k := k.1 c51
          refine jr_iconst (v := 1) dX0_move_54 (by decide) ?_
          refine jr_goto (tgt := 59) dX0_move_55 (by decide) ?_
          exact jr_sub [1, 2, 3, 4, 0] rfl k
set_option maxRecDepth 20000 in
theorem bX0_move_58 {g : jG} {d : Nat} {hs : jH} {P : jO → jH → Prop} {x0 : Nat} {x1 : Nat} {x2 : Nat} {x3 : Int32} {x4 : Int32} {h : jH} (k : J g mX0_move (d + 1) hs P 59 [(0, .ref x0), (1, .ref x1), (2, .ref x2), (3, .int x3), (4, .int x4)] [.int 0] h) : J g mX0_move (d + 1) hs P 58 [(0, .ref x0), (1, .ref x1), (2, .ref x2), (3, .int x3), (4, .int x4)] [] h := by
  refine jr_iconst (v := 0) dX0_move_58 (by decide) ?_
  exact jr_sub [0, 1, 2, 3, 4] rfl k
set_option maxRecDepth 20000 in
theorem bX0_move_59 {g : jG} {d : Nat} {hs : jH} {P : jO → jH → Prop} {x0 : Nat} {x1 : Nat} {x2 : Nat} {x3 : Int32} {x4 : Int32} {s0 : Int32} {h : jH} (k : ∃ fs1 : List Value, h.1 x2 = some (.inr (6, fs1)) ∧ ∃ v4 : Nat, fs1[7]? = some (.ref v4) ∧ ∃ (n5 : Nat) (f6 : Nat → Int32), h.1 v4 = some (.inl (0, (n5, .inl f6))) ∧ vp_in x3 n5 ∧ (0 < (f6 x3.toNatClampNeg) → (s0 = 0 → ∃ fs9 : List Value, h.1 x2 = some (.inr (6, fs9)) ∧ ∃ v12 : Nat, fs9[7]? = some (.ref v12) ∧ ∃ (n13 : Nat) (f14 : Nat → Int32), h.1 v12 = some (.inl (0, (n13, .inl f14))) ∧ vp_in x3 n13 ∧ ∃ fs19 : List Value, h.1 x0 = some (.inr (0, fs19)) ∧ Con g mX0_taking d [.ref x0, .ref x1, .ref x2, .int x3, .int (f14 x3.toNatClampNeg)] h (jPi (fun (r17 : Int32) (h18 : jH) => (r17 = 0 → J g mX0_move (d + 1) hs P 95 [(0, .ref x0), (1, .ref x1), (2, .ref x2), (3, .int x3), (4, .int x4)] [] h18) ∧ (¬ r17 = 0 → J g mX0_move (d + 1) hs P 96 [(0, .ref x0), (1, .ref x1), (2, .ref x2), (3, .int x3), (4, .int x4)] [.int 1] h18)) (fun E h' => P (.inr E) h'))) ∧ (¬ s0 = 0 → J g mX0_move (d + 1) hs P 95 [(0, .ref x0), (1, .ref x1), (2, .ref x2), (3, .int x3), (4, .int x4)] [] h)) ∧ (¬ 0 < (f6 x3.toNatClampNeg) → J g mX0_move (d + 1) hs P 95 [(0, .ref x0), (1, .ref x1), (2, .ref x2), (3, .int x3), (4, .int x4)] [] h)) : J g mX0_move (d + 1) hs P 59 [(0, .ref x0), (1, .ref x1), (2, .ref x2), (3, .int x3), (4, .int x4)] [.int s0] h := by
  refine jr_istore (lv' := [(5, .int s0), (0, .ref x0), (1, .ref x1), (2, .ref x2), (3, .int x3), (4, .int x4)]) dX0_move_59 (by decide) rfl ?_
  refine jr_aload_n 3 dX0_move_61 rfl rfl ?_
  obtain ⟨fs1, e2, v4, e3, k⟩ := k
  refine jr_get jf_X0_58 dX0_move_62 e2 e3 ?_
  refine jr_iload_n 4 dX0_move_65 rfl rfl ?_
  obtain ⟨n5, f6, e7, e8, k⟩ := k
  refine jr_iald dX0_move_66 e7 e8 ?_
  refine jr_if_le (tgt := 95) dX0_move_67 (by decide) (fun c67 => ?_) (fun c67 => ?_)
  · have k := k.2 c67
    exact jr_sub [1, 2, 3, 4, 5] rfl k
  · have k := k.1 c67
    refine jr_iload 0 dX0_move_70 rfl ?_
    refine jr_if_ne (tgt := 95) dX0_move_72 (by decide) (fun c72 => ?_) (fun c72 => ?_)
    · have k := k.2 c72
      exact jr_sub [1, 2, 3, 4, 5] rfl k
    · have k := k.1 c72
      refine jr_aload_n 1 dX0_move_75 rfl rfl ?_
      refine jr_aload_n 2 dX0_move_76 rfl rfl ?_
      refine jr_aload_n 3 dX0_move_77 rfl rfl ?_
      refine jr_iload_n 4 dX0_move_78 rfl rfl ?_
      refine jr_aload_n 3 dX0_move_79 rfl rfl ?_
      obtain ⟨fs9, e10, v12, e11, k⟩ := k
      refine jr_get jf_X0_58 dX0_move_80 e10 e11 ?_
      refine jr_iload_n 4 dX0_move_83 rfl rfl ?_
      obtain ⟨n13, f14, e15, e16, k⟩ := k
      refine jr_iald dX0_move_84 e15 e16 ?_
      obtain ⟨fs19, e20, k⟩ := k
      refine jr_cVi (As := [.ref x1, .ref x2, .int x3, .int (f14 x3.toNatClampNeg)]) jl_X0_143 km_X0_taking rfl rfl dX0_move_85 e20 (Nat.le_of_ble_eq_true rfl) k (fun r17 h18 k => ?_)
      refine jr_if_eq (tgt := 95) dX0_move_88 (by decide) (fun c88 => ?_) (fun c88 => ?_)
      · have k := k.1 c88
        exact jr_sub [1, 2, 3, 4, 5] rfl k
      · have k := k.2 c88
        refine jr_iconst (v := 1) dX0_move_91 (by decide) ?_
        refine jr_goto (tgt := 96) dX0_move_92 (by decide) ?_
        exact jr_sub [1, 2, 3, 4, 5] rfl k
set_option maxRecDepth 20000 in
theorem bX0_move_95 {g : jG} {d : Nat} {hs : jH} {P : jO → jH → Prop} {x0 : Nat} {x1 : Nat} {x2 : Nat} {x3 : Int32} {x4 : Int32} {h : jH} (k : J g mX0_move (d + 1) hs P 96 [(0, .ref x0), (1, .ref x1), (2, .ref x2), (3, .int x3), (4, .int x4)] [.int 0] h) : J g mX0_move (d + 1) hs P 95 [(0, .ref x0), (1, .ref x1), (2, .ref x2), (3, .int x3), (4, .int x4)] [] h := by
  refine jr_iconst (v := 0) dX0_move_95 (by decide) ?_
  exact jr_sub [0, 1, 2, 3, 4] rfl k
set_option maxRecDepth 20000 in
theorem bX0_move_96 {g : jG} {d : Nat} {hs : jH} {P : jO → jH → Prop} {x0 : Nat} {x1 : Nat} {x2 : Nat} {x3 : Int32} {x4 : Int32} {s0 : Int32} {h : jH} (k : ∃ fs1 : List Value, h.1 x0 = some (.inr (0, fs1)) ∧ ∃ v4 : Nat, fs1[5]? = some (.ref v4) ∧ (s0 = 0 → J g mX0_move (d + 1) hs P 118 [(0, .ref x0), (1, .ref x1), (2, .ref x2), (3, .int x3), (4, .int x4)] [.int 0, .int x3, .ref v4] h) ∧ (¬ s0 = 0 → ∃ fs5 : List Value, h.1 x2 = some (.inr (6, fs5)) ∧ ∃ v8 : Nat, fs5[7]? = some (.ref v8) ∧ ∃ (n9 : Nat) (f10 : Nat → Int32), h.1 v8 = some (.inl (0, (n9, .inl f10))) ∧ vp_in x3 n9 ∧ J g mX0_move (d + 1) hs P 118 [(0, .ref x0), (1, .ref x1), (2, .ref x2), (3, .int x3), (4, .int x4)] [.int (f10 x3.toNatClampNeg), .int x3, .ref v4] h)) : J g mX0_move (d + 1) hs P 96 [(0, .ref x0), (1, .ref x1), (2, .ref x2), (3, .int x3), (4, .int x4)] [.int s0] h := by
  refine jr_istore (lv' := [(6, .int s0), (0, .ref x0), (1, .ref x1), (2, .ref x2), (3, .int x3), (4, .int x4)]) dX0_move_96 (by decide) rfl ?_
  refine jr_aload_n 1 dX0_move_98 rfl rfl ?_
  obtain ⟨fs1, e2, v4, e3, k⟩ := k
  refine jr_get jf_X0_22 dX0_move_99 e2 e3 ?_
  refine jr_iload_n 4 dX0_move_102 rfl rfl ?_
  refine jr_iload 0 dX0_move_103 rfl ?_
  refine jr_if_eq (tgt := 117) dX0_move_105 (by decide) (fun c105 => ?_) (fun c105 => ?_)
  · have k := k.1 c105
    refine jr_iconst (v := 0) dX0_move_117 (by decide) ?_
    exact jr_sub [1, 2, 3, 4, 5] rfl k
  · have k := k.2 c105
    refine jr_aload_n 3 dX0_move_108 rfl rfl ?_
    obtain ⟨fs5, e6, v8, e7, k⟩ := k
    refine jr_get jf_X0_58 dX0_move_109 e6 e7 ?_
    refine jr_iload_n 4 dX0_move_112 rfl rfl ?_
    obtain ⟨n9, f10, e11, e12, k⟩ := k
    refine jr_iald dX0_move_113 e11 e12 ?_
    refine jr_goto (tgt := 118) dX0_move_114 (by decide) ?_
    exact jr_sub [1, 2, 3, 4, 5] rfl k
set_option maxRecDepth 20000 in
theorem bX0_move_118 {g : jG} {d : Nat} {hs : jH} {P : jO → jH → Prop} {x0 : Nat} {x1 : Nat} {x2 : Nat} {x3 : Int32} {x4 : Int32} {s0 : Nat} {s1 : Int32} {s2 : Int32} {h : jH} (k : ∃ (n1 : Nat) (f2 : Nat → Int32), h.1 s0 = some (.inl (0, (n1, .inl f2))) ∧ vp_in s1 n1 ∧ ∀ h5 : jH, h5 = jset h s0 (.inl (0, (n1, .inl (upd f2 s1.toNatClampNeg s2)))) → ∃ fs9 : List Value, h5.1 x2 = some (.inr (6, fs9)) ∧ Con g mX6_has d [.ref x2, .int x4] h5 (jPi (fun (r7 : Int32) (h8 : jH) => (r7 = 0 → ∃ fs11 : List Value, h8.1 x2 = some (.inr (6, fs11)) ∧ ∃ v14 : Int32, fs11[1]? = some (.int v14) ∧ ∃ fs15 : List Value, h8.1 x0 = some (.inr (0, fs15)) ∧ ∃ v18 : Nat, fs15[5]? = some (.ref v18) ∧ ∃ (n19 : Nat) (f20 : Nat → Int32), h8.1 v18 = some (.inl (0, (n19, .inl f20))) ∧ vp_in x3 n19 ∧ ∃ fs23 : List Value, h8.1 x2 = some (.inr (6, fs23)) ∧ 1 < fs23.length ∧ (∀ h26 : jH, h26 = jset h8 x2 (.inr (6, fs23.set 1 (.int (jmin ((v14 + (f20 x3.toNatClampNeg))) 999999)))) → J g mX0_move (d + 1) hs P 10 [(0, .ref x0), (1, .ref x1), (2, .ref x2), (3, .int (x3 + 1))] [] h26)) ∧ (¬ r7 = 0 → ∃ fs28 : List Value, h8.1 x0 = some (.inr (0, fs28)) ∧ ∃ v31 : Nat, fs28[0]? = some (.ref v31) ∧ ∃ fs32 : List Value, h8.1 x0 = some (.inr (0, fs32)) ∧ ∃ v35 : Nat, fs32[5]? = some (.ref v35) ∧ ∃ (n36 : Nat) (f37 : Nat → Int32), h8.1 v35 = some (.inl (0, (n36, .inl f37))) ∧ vp_in x3 n36 ∧ ∃ (n40 : Nat) (f41 : Nat → Int32), h8.1 v31 = some (.inl (0, (n40, .inl f41))) ∧ vp_in x4 n40 ∧ ∀ h44 : jH, h44 = jset h8 v31 (.inl (0, (n40, .inl (upd f41 x4.toNatClampNeg ((f37 x3.toNatClampNeg)))))) → J g mX0_move (d + 1) hs P 10 [(0, .ref x0), (1, .ref x1), (2, .ref x2), (3, .int (x3 + 1))] [] h44)) (fun E h' => P (.inr E) h'))) : J g mX0_move (d + 1) hs P 118 [(0, .ref x0), (1, .ref x1), (2, .ref x2), (3, .int x3), (4, .int x4)] [.int s2, .int s1, .ref s0] h := by
  obtain ⟨n1, f2, e3, e4, k⟩ := k
  refine jr_iastE dX0_move_118 e3 e4 (fun h5 eh6 => ?_)
  have k := k h5 eh6
  refine jr_aload_n 2 dX0_move_119 rfl rfl ?_
  refine jr_iload 4 dX0_move_120 rfl ?_
  obtain ⟨fs9, e10, k⟩ := k
  refine jr_cVi (As := [.int x4]) jl_X0_113 km_X6_has rfl rfl dX0_move_122 e10 (Nat.le_of_ble_eq_true rfl) k (fun r7 h8 k => ?_)
  refine jr_if_eq (tgt := 144) dX0_move_125 (by decide) (fun c125 => ?_) (fun c125 => ?_)
  · have k := k.1 c125
    refine jr_aload_n 2 dX0_move_144 rfl rfl ?_
    refine jr_aload_n 2 dX0_move_145 rfl rfl ?_
    obtain ⟨fs11, e12, v14, e13, k⟩ := k
    refine jr_get jf_X0_147 dX0_move_146 e12 e13 ?_
    refine jr_aload_n 0 dX0_move_149 rfl rfl ?_
    obtain ⟨fs15, e16, v18, e17, k⟩ := k
    refine jr_get jf_X0_22 dX0_move_150 e16 e17 ?_
    refine jr_iload_n 3 dX0_move_153 rfl rfl ?_
    obtain ⟨n19, f20, e21, e22, k⟩ := k
    refine jr_iald dX0_move_154 e21 e22 ?_
    refine jr_iadd dX0_move_155 ?_
    refine jr_ldc (v := 999999) jk_X0_65 dX0_move_156 ?_
    refine jr_mmin jl_X0_66 dX0_move_158 (Nat.le_of_ble_eq_true rfl) ?_
    obtain ⟨fs23, e24, e25, k⟩ := k
    refine jr_putE jp_X0_147 dX0_move_161 e24 e25 rfl rfl (fun h26 eh27 => ?_)
    have k := k h26 eh27
    refine jr_iinc (v := (x3 + 1)) (lv' := [(3, .int (x3 + 1)), (0, .ref x0), (1, .ref x1), (2, .ref x2), (4, .int x4)]) 3 dX0_move_164 rfl rfl (by decide) rfl ?_
    refine jr_goto (tgt := 10) dX0_move_167 (by decide) ?_
    exact jr_sub [1, 2, 3, 0] rfl k
  · have k := k.2 c125
    refine jr_aload_n 0 dX0_move_128 rfl rfl ?_
    obtain ⟨fs28, e29, v31, e30, k⟩ := k
    refine jr_get jf_X0_9 dX0_move_129 e29 e30 ?_
    refine jr_iload 4 dX0_move_132 rfl ?_
    refine jr_aload_n 0 dX0_move_134 rfl rfl ?_
    obtain ⟨fs32, e33, v35, e34, k⟩ := k
    refine jr_get jf_X0_22 dX0_move_135 e33 e34 ?_
    refine jr_iload_n 3 dX0_move_138 rfl rfl ?_
    obtain ⟨n36, f37, e38, e39, k⟩ := k
    refine jr_iald dX0_move_139 e38 e39 ?_
    obtain ⟨n40, f41, e42, e43, k⟩ := k
    refine jr_iastE dX0_move_140 e42 e43 (fun h44 eh45 => ?_)
    have k := k h44 eh45
    refine jr_goto (tgt := 164) dX0_move_141 (by decide) ?_
    refine jr_iinc (v := (x3 + 1)) (lv' := [(3, .int (x3 + 1)), (0, .ref x0), (1, .ref x1), (2, .ref x2), (4, .int x4)]) 3 dX0_move_164 rfl rfl (by decide) rfl ?_
    refine jr_goto (tgt := 10) dX0_move_167 (by decide) ?_
    exact jr_sub [1, 2, 3, 0] rfl k
set_option maxRecDepth 20000 in
theorem bX0_move_172 {g : jG} {d : Nat} {hs : jH} {P : jO → jH → Prop} {x0 : Nat} {x2 : Nat} {x3 : Int32} {h : jH} (k : ∃ fs1 : List Value, h.1 x2 = some (.inr (6, fs1)) ∧ ∃ v4 : Int32, fs1[0]? = some (.int v4) ∧ (x3 < v4 → (x3 < 7 → ∃ fs5 : List Value, h.1 x2 = some (.inr (6, fs5)) ∧ ∃ v8 : Nat, fs5[7]? = some (.ref v8) ∧ ∃ fs9 : List Value, h.1 x2 = some (.inr (6, fs9)) ∧ ∃ v12 : Nat, fs9[7]? = some (.ref v12) ∧ ∃ (n13 : Nat) (f14 : Nat → Int32), h.1 v12 = some (.inl (0, (n13, .inl f14))) ∧ vp_in x3 n13 ∧ ∃ fs17 : List Value, h.1 x0 = some (.inr (0, fs17)) ∧ ∃ v20 : Nat, fs17[5]? = some (.ref v20) ∧ ∃ (n21 : Nat) (f22 : Nat → Int32), h.1 v20 = some (.inl (0, (n21, .inl f22))) ∧ vp_in x3 n21 ∧ ∃ fs25 : List Value, h.1 x0 = some (.inr (0, fs25)) ∧ ∃ v28 : Nat, fs25[0]? = some (.ref v28) ∧ ∃ (n29 : Nat) (f30 : Nat → Int32), h.1 v28 = some (.inl (0, (n29, .inl f30))) ∧ vp_in x3 n29 ∧ ∃ (n33 : Nat) (f34 : Nat → Int32), h.1 v8 = some (.inl (0, (n33, .inl f34))) ∧ vp_in x3 n33 ∧ ∀ h37 : jH, h37 = jset h v8 (.inl (0, (n33, .inl (upd f34 x3.toNatClampNeg ((jmin ((((f14 x3.toNatClampNeg) - (f22 x3.toNatClampNeg)) + (f30 x3.toNatClampNeg))) 999999)))))) → J g mX0_move (d + 1) hs P 172 [(0, .ref x0), (2, .ref x2), (3, .int (x3 + 1))] [] h37) ∧ (¬ x3 < 7 → P (.inl none) h)) ∧ (¬ x3 < v4 → P (.inl none) h)) : J g mX0_move (d + 1) hs P 172 [(0, .ref x0), (2, .ref x2), (3, .int x3)] [] h := by
  refine jr_iload_n 2 dX0_move_172 rfl rfl ?_
  refine jr_aload_n 1 dX0_move_173 rfl rfl ?_
  obtain ⟨fs1, e2, v4, e3, k⟩ := k
  refine jr_get jf_X0_54 dX0_move_174 e2 e3 ?_
  refine jr_icmp_ge (tgt := 223) dX0_move_177 (by decide) (fun c177 => ?_) (fun c177 => ?_)
  · have k := k.2 c177
    exact jr_vret rfl dX0_move_223 k
  · have k := k.1 c177
    refine jr_iload_n 2 dX0_move_180 rfl rfl ?_
    refine jr_bipush (v := 7) dX0_move_181 (by decide) ?_
    refine jr_icmp_ge (tgt := 223) dX0_move_183 (by decide) (fun c183 => ?_) (fun c183 => ?_)
    · have k := k.2 c183
      exact jr_vret rfl dX0_move_223 k
    · have k := k.1 c183
      refine jr_aload_n 1 dX0_move_186 rfl rfl ?_
      obtain ⟨fs5, e6, v8, e7, k⟩ := k
      refine jr_get jf_X0_58 dX0_move_187 e6 e7 ?_
      refine jr_iload_n 2 dX0_move_190 rfl rfl ?_
      refine jr_aload_n 1 dX0_move_191 rfl rfl ?_
      obtain ⟨fs9, e10, v12, e11, k⟩ := k
      refine jr_get jf_X0_58 dX0_move_192 e10 e11 ?_
      refine jr_iload_n 2 dX0_move_195 rfl rfl ?_
      obtain ⟨n13, f14, e15, e16, k⟩ := k
      refine jr_iald dX0_move_196 e15 e16 ?_
      refine jr_aload_n 0 dX0_move_197 rfl rfl ?_
      obtain ⟨fs17, e18, v20, e19, k⟩ := k
      refine jr_get jf_X0_22 dX0_move_198 e18 e19 ?_
      refine jr_iload_n 2 dX0_move_201 rfl rfl ?_
      obtain ⟨n21, f22, e23, e24, k⟩ := k
      refine jr_iald dX0_move_202 e23 e24 ?_
      refine jr_isub dX0_move_203 ?_
      refine jr_aload_n 0 dX0_move_204 rfl rfl ?_
      obtain ⟨fs25, e26, v28, e27, k⟩ := k
      refine jr_get jf_X0_9 dX0_move_205 e26 e27 ?_
      refine jr_iload_n 2 dX0_move_208 rfl rfl ?_
      obtain ⟨n29, f30, e31, e32, k⟩ := k
      refine jr_iald dX0_move_209 e31 e32 ?_
      refine jr_iadd dX0_move_210 ?_
      refine jr_ldc (v := 999999) jk_X0_65 dX0_move_211 ?_
      refine jr_mmin jl_X0_66 dX0_move_213 (Nat.le_of_ble_eq_true rfl) ?_
      obtain ⟨n33, f34, e35, e36, k⟩ := k
      refine jr_iastE dX0_move_216 e35 e36 (fun h37 eh38 => ?_)
      have k := k h37 eh38
      refine jr_iinc (v := (x3 + 1)) (lv' := [(3, .int (x3 + 1)), (0, .ref x0), (2, .ref x2)]) 2 dX0_move_217 rfl rfl (by decide) rfl ?_
      refine jr_goto (tgt := 172) dX0_move_220 (by decide) ?_
      exact jr_sub [1, 2, 0] rfl k
set_option maxRecDepth 20000 in
theorem bX0_losses_0 {g : jG} {d : Nat} {hs : jH} {P : jO → jH → Prop} {x0 : Nat} {x1 : Int32} {x2 : Int32} {h : jH} (k : J g mX0_losses (d + 1) hs P 5 [(0, .ref x0), (1, .int x1), (2, .int x2), (3, .int 0), (4, .int 0)] [] h) : J g mX0_losses (d + 1) hs P 0 [(0, .ref x0), (1, .int x1), (2, .int x2)] [] h := by
  refine jr_iconst (v := 0) dX0_losses_0 (by decide) ?_
  refine jr_istore_n (lv' := [(3, .int 0), (0, .ref x0), (1, .int x1), (2, .int x2)]) dX0_losses_1 rfl (by decide) rfl ?_
  refine jr_iconst (v := 0) dX0_losses_2 (by decide) ?_
  refine jr_istore (lv' := [(4, .int 0), (3, .int 0), (0, .ref x0), (1, .int x1), (2, .int x2)]) dX0_losses_3 (by decide) rfl ?_
  exact jr_sub [2, 3, 4, 1, 0] rfl k
set_option maxRecDepth 20000 in
theorem bX0_losses_5 {g : jG} {d : Nat} {hs : jH} {P : jO → jH → Prop} {x0 : Nat} {x1 : Int32} {x2 : Int32} {x3 : Int32} {x4 : Int32} {h : jH} (k : (x4 < x1 → (x2 < x3 → P (.inl (some (.int x3))) h) ∧ (¬ x2 < x3 → ∃ fs1 : List Value, h.1 x0 = some (.inr (0, fs1)) ∧ ∃ v4 : Nat, fs1[8]? = some (.ref v4) ∧ ∃ fs5 : List Value, h.1 x0 = some (.inr (0, fs5)) ∧ ∃ v8 : Nat, fs5[7]? = some (.ref v8) ∧ ∃ fs9 : List Value, h.1 x0 = some (.inr (0, fs9)) ∧ ∃ v12 : Nat, fs9[8]? = some (.ref v12) ∧ ∃ fs13 : List Value, h.1 v12 = some (.inr (9, fs13)) ∧ ∃ v16 : Int32, fs13[3]? = some (.int v16) ∧ ∃ fs19 : List Value, h.1 x0 = some (.inr (0, fs19)) ∧ Con g mX0_pass d [.ref x0, .ref v4, .ref v8, .int v16] h (jPv (fun (h18 : jH) => ∃ fs21 : List Value, h18.1 x0 = some (.inr (0, fs21)) ∧ ∃ v24 : Int32, fs21[2]? = some (.int v24) ∧ J g mX0_losses (d + 1) hs P 5 [(0, .ref x0), (1, .int x1), (2, .int x2), (3, .int (x3 + v24)), (4, .int (x4 + 1))] [] h18) (fun E h' => P (.inr E) h')))) ∧ (¬ x4 < x1 → P (.inl (some (.int x3))) h)) : J g mX0_losses (d + 1) hs P 5 [(0, .ref x0), (1, .int x1), (2, .int x2), (3, .int x3), (4, .int x4)] [] h := by
  refine jr_iload 4 dX0_losses_5 rfl ?_
  refine jr_iload_n 1 dX0_losses_7 rfl rfl ?_
  refine jr_icmp_ge (tgt := 48) dX0_losses_8 (by decide) (fun c8 => ?_) (fun c8 => ?_)
  · have k := k.2 c8
    refine jr_iload_n 3 dX0_losses_48 rfl rfl ?_
    exact jr_iret (ty := .int) rfl rfl dX0_losses_49 k
  · have k := k.1 c8
    refine jr_iload_n 3 dX0_losses_11 rfl rfl ?_
    refine jr_iload_n 2 dX0_losses_12 rfl rfl ?_
    refine jr_icmp_gt (tgt := 48) dX0_losses_13 (by decide) (fun c13 => ?_) (fun c13 => ?_)
    · have k := k.1 c13
      refine jr_iload_n 3 dX0_losses_48 rfl rfl ?_
      exact jr_iret (ty := .int) rfl rfl dX0_losses_49 k
    · have k := k.2 c13
      refine jr_aload_n 0 dX0_losses_16 rfl rfl ?_
      refine jr_aload_n 0 dX0_losses_17 rfl rfl ?_
      obtain ⟨fs1, e2, v4, e3, k⟩ := k
      refine jr_get jf_X0_42 dX0_losses_18 e2 e3 ?_
      refine jr_aload_n 0 dX0_losses_21 rfl rfl ?_
      obtain ⟨fs5, e6, v8, e7, k⟩ := k
      refine jr_get jf_X0_35 dX0_losses_22 e6 e7 ?_
      refine jr_aload_n 0 dX0_losses_25 rfl rfl ?_
      obtain ⟨fs9, e10, v12, e11, k⟩ := k
      refine jr_get jf_X0_42 dX0_losses_26 e10 e11 ?_
      obtain ⟨fs13, e14, v16, e15, k⟩ := k
      refine jr_get jf_X0_150 dX0_losses_29 e14 e15 ?_
      obtain ⟨fs19, e20, k⟩ := k
      refine jr_cVv (As := [.ref v4, .ref v8, .int v16]) jl_X0_153 km_X0_pass rfl rfl dX0_losses_32 e20 (Nat.le_of_ble_eq_true rfl) k (fun h18 k => ?_)
      refine jr_iload_n 3 dX0_losses_35 rfl rfl ?_
      refine jr_aload_n 0 dX0_losses_36 rfl rfl ?_
      obtain ⟨fs21, e22, v24, e23, k⟩ := k
      refine jr_get jf_X0_75 dX0_losses_37 e22 e23 ?_
      refine jr_iadd dX0_losses_40 ?_
      refine jr_istore_n (lv' := [(3, .int (x3 + v24)), (0, .ref x0), (1, .int x1), (2, .int x2), (4, .int x4)]) dX0_losses_41 rfl (by decide) rfl ?_
      refine jr_iinc (v := (x4 + 1)) (lv' := [(4, .int (x4 + 1)), (3, .int (x3 + v24)), (0, .ref x0), (1, .int x1), (2, .int x2)]) 4 dX0_losses_42 rfl rfl (by decide) rfl ?_
      refine jr_goto (tgt := 5) dX0_losses_45 (by decide) ?_
      exact jr_sub [2, 3, 4, 1, 0] rfl k
set_option maxRecDepth 20000 in
theorem bX0_ruins_0 {g : jG} {d : Nat} {hs : jH} {P : jO → jH → Prop} {x0 : Nat} {x1 : Int32} {x2 : Int32} {h : jH} (k : J g mX0_ruins (d + 1) hs P 2 [(0, .ref x0), (1, .int x1), (2, .int x2), (3, .int 0)] [] h) : J g mX0_ruins (d + 1) hs P 0 [(0, .ref x0), (1, .int x1), (2, .int x2)] [] h := by
  refine jr_iconst (v := 0) dX0_ruins_0 (by decide) ?_
  refine jr_istore_n (lv' := [(3, .int 0), (0, .ref x0), (1, .int x1), (2, .int x2)]) dX0_ruins_1 rfl (by decide) rfl ?_
  exact jr_sub [1, 2, 3, 0] rfl k
set_option maxRecDepth 20000 in
theorem bX0_ruins_2 {g : jG} {d : Nat} {hs : jH} {P : jO → jH → Prop} {x0 : Nat} {x1 : Int32} {x2 : Int32} {x3 : Int32} {h : jH} (k : (x3 < x2 → ∃ fs1 : List Value, h.1 x0 = some (.inr (0, fs1)) ∧ ∃ v4 : Nat, fs1[7]? = some (.ref v4) ∧ ∃ fs7 : List Value, h.1 v4 = some (.inr (6, fs7)) ∧ Con g mX6_isGone d [.ref v4, .int x1] h (jPi (fun (r5 : Int32) (h6 : jH) => (r5 = 0 → ∃ fs9 : List Value, h6.1 x0 = some (.inr (0, fs9)) ∧ ∃ v12 : Nat, fs9[8]? = some (.ref v12) ∧ ∃ fs13 : List Value, h6.1 x0 = some (.inr (0, fs13)) ∧ ∃ v16 : Nat, fs13[7]? = some (.ref v16) ∧ ∃ fs17 : List Value, h6.1 x0 = some (.inr (0, fs17)) ∧ ∃ v20 : Nat, fs17[8]? = some (.ref v20) ∧ ∃ fs21 : List Value, h6.1 v20 = some (.inr (9, fs21)) ∧ ∃ v24 : Int32, fs21[3]? = some (.int v24) ∧ ∃ fs27 : List Value, h6.1 x0 = some (.inr (0, fs27)) ∧ Con g mX0_pass d [.ref x0, .ref v12, .ref v16, .int v24] h6 (jPv (fun (h26 : jH) => J g mX0_ruins (d + 1) hs P 2 [(0, .ref x0), (1, .int x1), (2, .int x2), (3, .int (x3 + 1))] [] h26) (fun E h' => P (.inr E) h'))) ∧ (¬ r5 = 0 → J g mX0_ruins (d + 1) hs P 43 [(0, .ref x0), (1, .int x1)] [] h6)) (fun E h' => P (.inr E) h'))) ∧ (¬ x3 < x2 → J g mX0_ruins (d + 1) hs P 43 [(0, .ref x0), (1, .int x1)] [] h)) : J g mX0_ruins (d + 1) hs P 2 [(0, .ref x0), (1, .int x1), (2, .int x2), (3, .int x3)] [] h := by
  refine jr_iload_n 3 dX0_ruins_2 rfl rfl ?_
  refine jr_iload_n 2 dX0_ruins_3 rfl rfl ?_
  refine jr_icmp_ge (tgt := 43) dX0_ruins_4 (by decide) (fun c4 => ?_) (fun c4 => ?_)
  · have k := k.2 c4
    exact jr_sub [0, 1] rfl k
  · have k := k.1 c4
    refine jr_aload_n 0 dX0_ruins_7 rfl rfl ?_
    obtain ⟨fs1, e2, v4, e3, k⟩ := k
    refine jr_get jf_X0_35 dX0_ruins_8 e2 e3 ?_
    refine jr_iload_n 1 dX0_ruins_11 rfl rfl ?_
    obtain ⟨fs7, e8, k⟩ := k
    refine jr_cVi (As := [.int x1]) jl_X0_157 km_X6_isGone rfl rfl dX0_ruins_12 e8 (Nat.le_of_ble_eq_true rfl) k (fun r5 h6 k => ?_)
    refine jr_if_ne (tgt := 43) dX0_ruins_15 (by decide) (fun c15 => ?_) (fun c15 => ?_)
    · have k := k.2 c15
      exact jr_sub [0, 1] rfl k
    · have k := k.1 c15
      refine jr_aload_n 0 dX0_ruins_18 rfl rfl ?_
      refine jr_aload_n 0 dX0_ruins_19 rfl rfl ?_
      obtain ⟨fs9, e10, v12, e11, k⟩ := k
      refine jr_get jf_X0_42 dX0_ruins_20 e10 e11 ?_
      refine jr_aload_n 0 dX0_ruins_23 rfl rfl ?_
      obtain ⟨fs13, e14, v16, e15, k⟩ := k
      refine jr_get jf_X0_35 dX0_ruins_24 e14 e15 ?_
      refine jr_aload_n 0 dX0_ruins_27 rfl rfl ?_
      obtain ⟨fs17, e18, v20, e19, k⟩ := k
      refine jr_get jf_X0_42 dX0_ruins_28 e18 e19 ?_
      obtain ⟨fs21, e22, v24, e23, k⟩ := k
      refine jr_get jf_X0_150 dX0_ruins_31 e22 e23 ?_
      obtain ⟨fs27, e28, k⟩ := k
      refine jr_cVv (As := [.ref v12, .ref v16, .int v24]) jl_X0_153 km_X0_pass rfl rfl dX0_ruins_34 e28 (Nat.le_of_ble_eq_true rfl) k (fun h26 k => ?_)
      refine jr_iinc (v := (x3 + 1)) (lv' := [(3, .int (x3 + 1)), (0, .ref x0), (1, .int x1), (2, .int x2)]) 3 dX0_ruins_37 rfl rfl (by decide) rfl ?_
      refine jr_goto (tgt := 2) dX0_ruins_40 (by decide) ?_
      exact jr_sub [1, 2, 3, 0] rfl k
set_option maxRecDepth 20000 in
theorem bX0_ruins_43 {g : jG} {d : Nat} {hs : jH} {P : jO → jH → Prop} {x0 : Nat} {x1 : Int32} {h : jH} (k : ∃ fs1 : List Value, h.1 x0 = some (.inr (0, fs1)) ∧ ∃ v4 : Nat, fs1[7]? = some (.ref v4) ∧ ∃ fs7 : List Value, h.1 v4 = some (.inr (6, fs7)) ∧ Con g mX6_isGone d [.ref v4, .int x1] h (jPi (fun (r5 : Int32) (h6 : jH) => (r5 = 0 ∨ r5 = 1) ∧ P (.inl (some (.int r5))) h6) (fun E h' => P (.inr E) h'))) : J g mX0_ruins (d + 1) hs P 43 [(0, .ref x0), (1, .int x1)] [] h := by
  refine jr_aload_n 0 dX0_ruins_43 rfl rfl ?_
  obtain ⟨fs1, e2, v4, e3, k⟩ := k
  refine jr_get jf_X0_35 dX0_ruins_44 e2 e3 ?_
  refine jr_iload_n 1 dX0_ruins_47 rfl rfl ?_
  obtain ⟨fs7, e8, k⟩ := k
  refine jr_cVi (As := [.int x1]) jl_X0_157 km_X6_isGone rfl rfl dX0_ruins_48 e8 (Nat.le_of_ble_eq_true rfl) k (fun r5 h6 k => ?_)
  exact jr_iret (ty := .boolean) rfl (jz_n k.1) dX0_ruins_51 k.2
set_option maxRecDepth 20000 in
theorem bX0_addBurdens_0 {g : jG} {d : Nat} {hs : jH} {P : jO → jH → Prop} {x0 : Nat} {x1 : Int32} {h : jH} (k : ∃ fs1 : List Value, h.1 x0 = some (.inr (0, fs1)) ∧ ∃ v4 : Nat, fs1[3]? = some (.ref v4) ∧ Con g mJ7_fill_d0a16 d [.ref v4, .long 0] h (jPv (fun (h6 : jH) => J g mX0_addBurdens (d + 1) hs P 10 [(0, .ref x0), (1, .int x1), (2, .int 0)] [] h6) (fun E h' => P (.inr E) h'))) : J g mX0_addBurdens (d + 1) hs P 0 [(0, .ref x0), (1, .int x1)] [] h := by
  refine jr_aload_n 0 dX0_addBurdens_0 rfl rfl ?_
  obtain ⟨fs1, e2, v4, e3, k⟩ := k
  refine jr_get jf_X0_15 dX0_addBurdens_1 e2 e3 ?_
  refine jr_lconst (v := 0) dX0_addBurdens_4 (by decide) ?_
  refine jr_cSv (As := [.ref v4, .long 0]) jl_X0_160 km_J7_fill_d0a16 rfl rfl dX0_addBurdens_5 (Nat.le_of_ble_eq_true rfl) k (fun h6 k => ?_)
  refine jr_iconst (v := 0) dX0_addBurdens_8 (by decide) ?_
  refine jr_istore_n (lv' := [(2, .int 0), (0, .ref x0), (1, .int x1)]) dX0_addBurdens_9 rfl (by decide) rfl ?_
  exact jr_sub [1, 2, 0] rfl k
set_option maxRecDepth 20000 in
theorem bX0_addBurdens_10 {g : jG} {d : Nat} {hs : jH} {P : jO → jH → Prop} {x0 : Nat} {x1 : Int32} {x2 : Int32} {h : jH} (k : (x2 < x1 → ∃ fs1 : List Value, h.1 x0 = some (.inr (0, fs1)) ∧ ∃ v4 : Nat, fs1[8]? = some (.ref v4) ∧ ∃ fs5 : List Value, h.1 x0 = some (.inr (0, fs5)) ∧ ∃ v8 : Nat, fs5[7]? = some (.ref v8) ∧ ∃ fs9 : List Value, h.1 x0 = some (.inr (0, fs9)) ∧ ∃ v12 : Nat, fs9[8]? = some (.ref v12) ∧ ∃ fs13 : List Value, h.1 v12 = some (.inr (9, fs13)) ∧ ∃ v16 : Int32, fs13[3]? = some (.int v16) ∧ ∃ fs19 : List Value, h.1 x0 = some (.inr (0, fs19)) ∧ Con g mX0_pass d [.ref x0, .ref v4, .ref v8, .int v16] h (jPv (fun (h18 : jH) => J g mX0_addBurdens (d + 1) hs P 36 [(0, .ref x0), (1, .int x1), (2, .int x2), (3, .int 0)] [] h18) (fun E h' => P (.inr E) h'))) ∧ (¬ x2 < x1 → P (.inl none) h)) : J g mX0_addBurdens (d + 1) hs P 10 [(0, .ref x0), (1, .int x1), (2, .int x2)] [] h := by
  refine jr_iload_n 2 dX0_addBurdens_10 rfl rfl ?_
  refine jr_iload_n 1 dX0_addBurdens_11 rfl rfl ?_
  refine jr_icmp_ge (tgt := 70) dX0_addBurdens_12 (by decide) (fun c12 => ?_) (fun c12 => ?_)
  · have k := k.2 c12
    exact jr_vret rfl dX0_addBurdens_70 k
  · have k := k.1 c12
    refine jr_aload_n 0 dX0_addBurdens_15 rfl rfl ?_
    refine jr_aload_n 0 dX0_addBurdens_16 rfl rfl ?_
    obtain ⟨fs1, e2, v4, e3, k⟩ := k
    refine jr_get jf_X0_42 dX0_addBurdens_17 e2 e3 ?_
    refine jr_aload_n 0 dX0_addBurdens_20 rfl rfl ?_
    obtain ⟨fs5, e6, v8, e7, k⟩ := k
    refine jr_get jf_X0_35 dX0_addBurdens_21 e6 e7 ?_
    refine jr_aload_n 0 dX0_addBurdens_24 rfl rfl ?_
    obtain ⟨fs9, e10, v12, e11, k⟩ := k
    refine jr_get jf_X0_42 dX0_addBurdens_25 e10 e11 ?_
    obtain ⟨fs13, e14, v16, e15, k⟩ := k
    refine jr_get jf_X0_150 dX0_addBurdens_28 e14 e15 ?_
    obtain ⟨fs19, e20, k⟩ := k
    refine jr_cVv (As := [.ref v4, .ref v8, .int v16]) jl_X0_153 km_X0_pass rfl rfl dX0_addBurdens_31 e20 (Nat.le_of_ble_eq_true rfl) k (fun h18 k => ?_)
    refine jr_iconst (v := 0) dX0_addBurdens_34 (by decide) ?_
    refine jr_istore_n (lv' := [(3, .int 0), (0, .ref x0), (1, .int x1), (2, .int x2)]) dX0_addBurdens_35 rfl (by decide) rfl ?_
    exact jr_sub [1, 2, 3, 0] rfl k
set_option maxRecDepth 20000 in
theorem bX0_addBurdens_36 {g : jG} {d : Nat} {hs : jH} {P : jO → jH → Prop} {x0 : Nat} {x1 : Int32} {x2 : Int32} {x3 : Int32} {h : jH} (k : (x3 < 7 → ∃ fs1 : List Value, h.1 x0 = some (.inr (0, fs1)) ∧ ∃ v4 : Nat, fs1[3]? = some (.ref v4) ∧ ∃ (n5 : Nat) (f6 : Nat → Int64), h.1 v4 = some (.inl (3, (n5, .inr (.inl f6)))) ∧ vp_in x3 n5 ∧ ∃ fs9 : List Value, h.1 x0 = some (.inr (0, fs9)) ∧ ∃ v12 : Nat, fs9[0]? = some (.ref v12) ∧ ∃ (n13 : Nat) (f14 : Nat → Int32), h.1 v12 = some (.inl (0, (n13, .inl f14))) ∧ vp_in x3 n13 ∧ ∃ (n17 : Nat) (f18 : Nat → Int64), h.1 v4 = some (.inl (3, (n17, .inr (.inl f18)))) ∧ vp_in x3 n17 ∧ ∀ h21 : jH, h21 = jset h v4 (.inl (3, (n17, .inr (.inl (vp_updL f18 x3.toNatClampNeg (((f6 x3.toNatClampNeg) + ((f14 x3.toNatClampNeg)).toInt64))))))) → J g mX0_addBurdens (d + 1) hs P 36 [(0, .ref x0), (1, .int x1), (2, .int x2), (3, .int (x3 + 1))] [] h21) ∧ (¬ x3 < 7 → J g mX0_addBurdens (d + 1) hs P 10 [(0, .ref x0), (1, .int x1), (2, .int (x2 + 1))] [] h)) : J g mX0_addBurdens (d + 1) hs P 36 [(0, .ref x0), (1, .int x1), (2, .int x2), (3, .int x3)] [] h := by
  refine jr_iload_n 3 dX0_addBurdens_36 rfl rfl ?_
  refine jr_bipush (v := 7) dX0_addBurdens_37 (by decide) ?_
  refine jr_icmp_ge (tgt := 64) dX0_addBurdens_39 (by decide) (fun c39 => ?_) (fun c39 => ?_)
  · have k := k.2 c39
    refine jr_iinc (v := (x2 + 1)) (lv' := [(2, .int (x2 + 1)), (0, .ref x0), (1, .int x1), (3, .int x3)]) 2 dX0_addBurdens_64 rfl rfl (by decide) rfl ?_
    refine jr_goto (tgt := 10) dX0_addBurdens_67 (by decide) ?_
    exact jr_sub [1, 2, 0] rfl k
  · have k := k.1 c39
    refine jr_aload_n 0 dX0_addBurdens_42 rfl rfl ?_
    obtain ⟨fs1, e2, v4, e3, k⟩ := k
    refine jr_get jf_X0_15 dX0_addBurdens_43 e2 e3 ?_
    refine jr_iload_n 3 dX0_addBurdens_46 rfl rfl ?_
    refine jr_dup2 dX0_addBurdens_47 rfl rfl ?_
    obtain ⟨n5, f6, e7, e8, k⟩ := k
    refine jr_lald dX0_addBurdens_48 e7 e8 ?_
    refine jr_aload_n 0 dX0_addBurdens_49 rfl rfl ?_
    obtain ⟨fs9, e10, v12, e11, k⟩ := k
    refine jr_get jf_X0_9 dX0_addBurdens_50 e10 e11 ?_
    refine jr_iload_n 3 dX0_addBurdens_53 rfl rfl ?_
    obtain ⟨n13, f14, e15, e16, k⟩ := k
    refine jr_iald dX0_addBurdens_54 e15 e16 ?_
    refine jr_i2l dX0_addBurdens_55 ?_
    refine jr_ladd dX0_addBurdens_56 ?_
    obtain ⟨n17, f18, e19, e20, k⟩ := k
    refine jr_lastE dX0_addBurdens_57 e19 e20 (fun h21 eh22 => ?_)
    have k := k h21 eh22
    refine jr_iinc (v := (x3 + 1)) (lv' := [(3, .int (x3 + 1)), (0, .ref x0), (1, .int x1), (2, .int x2)]) 3 dX0_addBurdens_58 rfl rfl (by decide) rfl ?_
    refine jr_goto (tgt := 36) dX0_addBurdens_61 (by decide) ?_
    exact jr_sub [1, 2, 3, 0] rfl k
set_option maxRecDepth 20000 in
theorem bX0_keepBurdens_0 {g : jG} {d : Nat} {hs : jH} {P : jO → jH → Prop} {x0 : Nat} {h : jH} (k : ∃ fs1 : List Value, h.1 x0 = some (.inr (0, fs1)) ∧ ∃ v4 : Nat, fs1[3]? = some (.ref v4) ∧ ∃ fs5 : List Value, h.1 x0 = some (.inr (0, fs5)) ∧ ∃ v8 : Nat, fs5[4]? = some (.ref v8) ∧ ∃ (n9 : Nat) (f11 : Nat → Int64), h.1 v4 = some (.inl (3, (n9, .inr (.inl f11)))) ∧ ∃ (n10 : Nat) (f12 : Nat → Int64), h.1 v8 = some (.inl (3, (n10, .inr (.inl f12)))) ∧ ¬ (0 : Int32) < 0 ∧ ¬ (0 : Int32) < 0 ∧ ¬ (7 : Int32) < 0 ∧ (0 : Int32).toNatClampNeg + (7 : Int32).toNatClampNeg ≤ n9 ∧ (0 : Int32).toNatClampNeg + (7 : Int32).toNatClampNeg ≤ n10 ∧ ∀ h20, h20 = jset h v8 (.inl (3, (n10, .inr (.inl (va_cpy f11 f12 (0 : Int32).toNatClampNeg (0 : Int32).toNatClampNeg (7 : Int32).toNatClampNeg))))) → P (.inl none) h20) : J g mX0_keepBurdens (d + 1) hs P 0 [(0, .ref x0)] [] h := by
  refine jr_aload_n 0 dX0_keepBurdens_0 rfl rfl ?_
  obtain ⟨fs1, e2, v4, e3, k⟩ := k
  refine jr_get jf_X0_15 dX0_keepBurdens_1 e2 e3 ?_
  refine jr_iconst (v := 0) dX0_keepBurdens_4 (by decide) ?_
  refine jr_aload_n 0 dX0_keepBurdens_5 rfl rfl ?_
  obtain ⟨fs5, e6, v8, e7, k⟩ := k
  refine jr_get jf_X0_19 dX0_keepBurdens_6 e6 e7 ?_
  refine jr_iconst (v := 0) dX0_keepBurdens_9 (by decide) ?_
  refine jr_bipush (v := 7) dX0_keepBurdens_10 (by decide) ?_
  obtain ⟨n9, f11, e13, n10, f12, e14, e15, e16, e17, e18, e19, k⟩ := k
  refine jr_copylE jl_X0_163 dX0_keepBurdens_12 e13 e14 e15 e16 e17 e18 e19 (Nat.le_of_ble_eq_true rfl) (fun h20 eh21 => ?_)
  have k := k h20 eh21
  exact jr_vret rfl dX0_keepBurdens_15 k
