set_option maxRecDepth 20000 in
theorem bX11_init_0 {g : jG} {d : Nat} {hs : jH} {P : jO → jH → Prop} {x0 : Nat} {h : jH} (k : ∃ N1 : Nat, (900 : Int32) = nI N1 ∧ N1 < 60000000 ∧ jroom g h 1 N1 ∧ ∀ (q4 : Nat) (h5 : jH), q4 = h.2.1 → h5 = jnew h (.inl (1, (N1, .inl (fun _ => 0)))) N1 → ∃ fs9 : List Value, h5.1 x0 = some (.inr (11, fs9)) ∧ 0 < fs9.length ∧ (∀ h12 : jH, h12 = jset h5 x0 (.inr (11, fs9.set 0 (.ref q4))) → ∃ fs14 : List Value, h12.1 x0 = some (.inr (11, fs14)) ∧ 3 < fs14.length ∧ (∀ h17 : jH, h17 = jset h12 x0 (.inr (11, fs14.set 3 (.int (-1)))) → jroom g h17 1 7 ∧ ∀ (q19 : Nat) (h20 : jH), q19 = h17.2.1 → h20 = jnew h17 (.inr (9, [.null, .int 0, .int 0, .int 0, .null, .null, .null])) 7 → Con g mX9_init d [.ref q19] h20 (jPv (fun (h25 : jH) => ∃ fs26 : List Value, h25.1 x0 = some (.inr (11, fs26)) ∧ 5 < fs26.length ∧ (∀ h29 : jH, h29 = jset h25 x0 (.inr (11, fs26.set 5 (.ref q19))) → jroom g h29 1 9 ∧ ∀ (q31 : Nat) (h32 : jH), q31 = h29.2.1 → h32 = jnew h29 (.inr (7, [.null, .int 0, .int 0, .null, .int 0, .int 0, .null, .int 0, .int 0])) 9 → Con g mX7_init d [.ref q31] h32 (jPv (fun (h37 : jH) => ∃ fs38 : List Value, h37.1 x0 = some (.inr (11, fs38)) ∧ 4 < fs38.length ∧ (∀ h41 : jH, h41 = jset h37 x0 (.inr (11, fs38.set 4 (.ref q31))) → jroom g h41 1 9 ∧ ∀ (q43 : Nat) (h44 : jH), q43 = h41.2.1 → h44 = jnew h41 (.inr (6, [.int 0, .int 0, .int 0, .null, .null, .null, .null, .null, .null])) 9 → Con g mX6_init d [.ref q43] h44 (jPv (fun (h49 : jH) => ∃ fs50 : List Value, h49.1 x0 = some (.inr (11, fs50)) ∧ 6 < fs50.length ∧ (∀ h53 : jH, h53 = jset h49 x0 (.inr (11, fs50.set 6 (.ref q43))) → jroom g h53 1 2 ∧ ∀ (q55 : Nat) (h56 : jH), q55 = h53.2.1 → h56 = jnew h53 (.inr (2, [.int 0, .null])) 2 → Con g mX2_init d [.ref q55] h56 (jPv (fun (h61 : jH) => ∃ fs62 : List Value, h61.1 x0 = some (.inr (11, fs62)) ∧ 7 < fs62.length ∧ (∀ h65 : jH, h65 = jset h61 x0 (.inr (11, fs62.set 7 (.ref q55))) → ∃ N67 : Nat, (3 : Int32) = nI N67 ∧ N67 < 100000 ∧ jroom g h65 1 N67 ∧ ∀ (q70 : Nat) (h71 : jH), q70 = h65.2.1 → h71 = jnew h65 (.inl (5, (N67, .inr (.inr (.inr (.inr (fun _ => none))))))) N67 → ∃ fs75 : List Value, h71.1 x0 = some (.inr (11, fs75)) ∧ 8 < fs75.length ∧ (∀ h78 : jH, h78 = jset h71 x0 (.inr (11, fs75.set 8 (.ref q70))) → J g mX11_init (d + 1) hs P 72 [(0, .ref x0), (1, .int 0)] [] h78))) (fun E h' => P (.inr E) h')))) (fun E h' => P (.inr E) h')))) (fun E h' => P (.inr E) h')))) (fun E h' => P (.inr E) h'))))) : J g mX11_init (d + 1) hs P 0 [(0, .ref x0)] [] h := by
  refine jr_aload_n 0 dX11_init_0 rfl rfl ?_
  refine jr_objInit jl_X11_1 dX11_init_1 (Nat.le_of_ble_eq_true rfl) ?_
  refine jr_aload_n 0 dX11_init_4 rfl rfl ?_
  refine jr_sipush (v := 900) dX11_init_5 (by decide) ?_
  obtain ⟨N1, e2, e3, rm8, k⟩ := k
  refine jr_new_byte e2 e3 rm8 dX11_init_8 (fun q4 h5 eq6 eh7 => ?_)
  have k := k q4 h5 eq6 eh7
  obtain ⟨fs9, e10, e11, k⟩ := k
  refine jr_putFE jp_X11_9 (fun C T N hc => by cases hc; rfl) rfl dX11_init_10 e10 e11 rfl rfl (fun h12 eh13 => ?_)
  have k := k h12 eh13
  refine jr_aload_n 0 dX11_init_13 rfl rfl ?_
  refine jr_iconst (v := (-1)) dX11_init_14 (by decide) ?_
  obtain ⟨fs14, e15, e16, k⟩ := k
  refine jr_putE jp_X11_13 dX11_init_15 e15 e16 rfl rfl (fun h17 eh18 => ?_)
  have k := k h17 eh18
  refine jr_aload_n 0 dX11_init_18 rfl rfl ?_
  obtain ⟨rm23, k⟩ := k
  refine jr_newE (fs := [.null, .int 0, .int 0, .int 0, .null, .null, .null]) jn_X11_17 jfs_9 rm23 dX11_init_19 (fun q19 h20 eq21 eh22 => ?_)
  have k := k q19 h20 eq21 eh22
  refine jr_dup dX11_init_22 rfl ?_
  refine jr_cNv (As := []) jl_X11_19 km_X9_init rfl rfl dX11_init_23 (Nat.le_of_ble_eq_true rfl) k (fun h25 k => ?_)
  obtain ⟨fs26, e27, e28, k⟩ := k
  refine jr_putE jp_X11_20 dX11_init_26 e27 e28 rfl rfl (fun h29 eh30 => ?_)
  have k := k h29 eh30
  refine jr_aload_n 0 dX11_init_29 rfl rfl ?_
  obtain ⟨rm35, k⟩ := k
  refine jr_newE (fs := [.null, .int 0, .int 0, .null, .int 0, .int 0, .null, .int 0, .int 0]) jn_X11_24 jfs_7 rm35 dX11_init_30 (fun q31 h32 eq33 eh34 => ?_)
  have k := k q31 h32 eq33 eh34
  refine jr_dup dX11_init_33 rfl ?_
  refine jr_cNv (As := []) jl_X11_26 km_X7_init rfl rfl dX11_init_34 (Nat.le_of_ble_eq_true rfl) k (fun h37 k => ?_)
  obtain ⟨fs38, e39, e40, k⟩ := k
  refine jr_putFE jp_X11_27 (fun C T N hc => by cases hc; rfl) rfl dX11_init_37 e39 e40 rfl rfl (fun h41 eh42 => ?_)
  have k := k h41 eh42
  refine jr_aload_n 0 dX11_init_40 rfl rfl ?_
  obtain ⟨rm47, k⟩ := k
  refine jr_newE (fs := [.int 0, .int 0, .int 0, .null, .null, .null, .null, .null, .null]) jn_X11_31 jfs_6 rm47 dX11_init_41 (fun q43 h44 eq45 eh46 => ?_)
  have k := k q43 h44 eq45 eh46
  refine jr_dup dX11_init_44 rfl ?_
  refine jr_cNv (As := []) jl_X11_33 km_X6_init rfl rfl dX11_init_45 (Nat.le_of_ble_eq_true rfl) k (fun h49 k => ?_)
  obtain ⟨fs50, e51, e52, k⟩ := k
  refine jr_putFE jp_X11_34 (fun C T N hc => by cases hc; rfl) rfl dX11_init_48 e51 e52 rfl rfl (fun h53 eh54 => ?_)
  have k := k h53 eh54
  refine jr_aload_n 0 dX11_init_51 rfl rfl ?_
  obtain ⟨rm59, k⟩ := k
  refine jr_newE (fs := [.int 0, .null]) jn_X11_38 jfs_2 rm59 dX11_init_52 (fun q55 h56 eq57 eh58 => ?_)
  have k := k q55 h56 eq57 eh58
  refine jr_dup dX11_init_55 rfl ?_
  refine jr_cIv (As := []) jl_X11_40 km_X2_init rfl rfl dX11_init_56 (Nat.le_of_ble_eq_true rfl) k (fun h61 k => ?_)
  obtain ⟨fs62, e63, e64, k⟩ := k
  refine jr_putFE jp_X11_41 (fun C T N hc => by cases hc; rfl) rfl dX11_init_59 e63 e64 rfl rfl (fun h65 eh66 => ?_)
  have k := k h65 eh66
  refine jr_aload_n 0 dX11_init_62 rfl rfl ?_
  refine jr_iconst (v := 3) dX11_init_63 (by decide) ?_
  obtain ⟨N67, e68, e69, rm74, k⟩ := k
  refine jr_newq5E jcl_X11_45 jao_5 e68 e69 rm74 dX11_init_64 (fun q70 h71 eq72 eh73 => ?_)
  have k := k q70 h71 eq72 eh73
  obtain ⟨fs75, e76, e77, k⟩ := k
  refine jr_putFE jp_X11_47 (fun C T N hc => by cases hc; rfl) rfl dX11_init_67 e76 e77 rfl rfl (fun h78 eh79 => ?_)
  have k := k h78 eh79
  refine jr_iconst (v := 0) dX11_init_70 (by decide) ?_
  refine jr_istore_n (lv' := [(1, .int 0), (0, .ref x0)]) dX11_init_71 rfl (by decide) rfl ?_
  exact jr_sub [1, 0] rfl k
set_option maxRecDepth 20000 in
theorem bX11_init_72 {g : jG} {d : Nat} {hs : jH} {P : jO → jH → Prop} {x0 : Nat} {x1 : Int32} {h : jH} (k : ∃ fs1 : List Value, h.1 x0 = some (.inr (11, fs1)) ∧ ∃ v4 : Nat, fs1[8]? = some (.ref v4) ∧ ∃ (t5 : Nat) (z6 : vp_A), h.1 v4 = some (.inl (t5, z6)) ∧ (∃ ty9 : FieldType, jTy t5 = some ty9) ∧ (x1 < (nI z6.1) → ∃ fs23 : List Value, h.1 x0 = some (.inr (11, fs23)) ∧ ∃ v26 : Nat, fs23[8]? = some (.ref v26) ∧ jroom g h 1 3 ∧ ∀ (q27 : Nat) (h28 : jH), q27 = h.2.1 → h28 = jnew h (.inr (3, [.null, .null, .null])) 3 → Con g mX3_init d [.ref q27] h28 (jPv (fun (h33 : jH) => ∃ (n34 : Nat) (f35 : Nat → Option Nat), h33.1 v26 = some (.inl (5, (n34, .inr (.inr (.inr (.inr f35)))))) ∧ vp_in x1 n34 ∧ ∃ vs40 : List Value, h33.1 q27 = some (.inr (3, vs40)) ∧ ∀ h38 : jH, h38 = jset h33 v26 (.inl (5, (n34, .inr (.inr (.inr (.inr (va_up f35 x1.toNatClampNeg (some q27)))))))) → J g mX11_init (d + 1) hs P 72 [(0, .ref x0), (1, .int (x1 + 1))] [] h38) (fun E h' => P (.inr E) h'))) ∧ (¬ x1 < (nI z6.1) → ∃ N10 : Nat, (4 : Int32) = nI N10 ∧ N10 < 100000 ∧ jroom g h 1 N10 ∧ ∀ (q13 : Nat) (h14 : jH), q13 = h.2.1 → h14 = jnew h (.inl (6, (N10, .inr (.inr (.inr (.inr (fun _ => none))))))) N10 → ∃ fs18 : List Value, h14.1 x0 = some (.inr (11, fs18)) ∧ 9 < fs18.length ∧ (∀ h21 : jH, h21 = jset h14 x0 (.inr (11, fs18.set 9 (.ref q13))) → J g mX11_init (d + 1) hs P 110 [(0, .ref x0), (1, .int 0)] [] h21))) : J g mX11_init (d + 1) hs P 72 [(0, .ref x0), (1, .int x1)] [] h := by
  refine jr_iload_n 1 dX11_init_72 rfl rfl ?_
  refine jr_aload_n 0 dX11_init_73 rfl rfl ?_
  obtain ⟨fs1, e2, v4, e3, k⟩ := k
  refine jr_get jf_X11_47 dX11_init_74 e2 e3 ?_
  obtain ⟨t5, z6, e7, ⟨ty9, e8⟩, k⟩ := k
  refine jr_alen (v := nI z6.1) dX11_init_77 e8 e7 rfl ?_
  refine jr_icmp_ge (tgt := 100) dX11_init_78 (by decide) (fun c78 => ?_) (fun c78 => ?_)
  · have k := k.2 c78
    refine jr_aload_n 0 dX11_init_100 rfl rfl ?_
    refine jr_iconst (v := 4) dX11_init_101 (by decide) ?_
    obtain ⟨N10, e11, e12, rm17, k⟩ := k
    refine jr_newq6E jcl_X11_52 jao_6 e11 e12 rm17 dX11_init_102 (fun q13 h14 eq15 eh16 => ?_)
    have k := k q13 h14 eq15 eh16
    obtain ⟨fs18, e19, e20, k⟩ := k
    refine jr_putFE jp_X11_54 (fun C T N hc => by cases hc; rfl) rfl dX11_init_105 e19 e20 rfl rfl (fun h21 eh22 => ?_)
    have k := k h21 eh22
    refine jr_iconst (v := 0) dX11_init_108 (by decide) ?_
    refine jr_istore_n (lv' := [(1, .int 0), (0, .ref x0)]) dX11_init_109 rfl (by decide) rfl ?_
    exact jr_sub [1, 0] rfl k
  · have k := k.1 c78
    refine jr_aload_n 0 dX11_init_81 rfl rfl ?_
    obtain ⟨fs23, e24, v26, e25, k⟩ := k
    refine jr_get jf_X11_47 dX11_init_82 e24 e25 ?_
    refine jr_iload_n 1 dX11_init_85 rfl rfl ?_
    obtain ⟨rm31, k⟩ := k
    refine jr_newE (fs := [.null, .null, .null]) jn_X11_45 jfs_3 rm31 dX11_init_86 (fun q27 h28 eq29 eh30 => ?_)
    have k := k q27 h28 eq29 eh30
    refine jr_dup dX11_init_89 rfl ?_
    refine jr_cNv (As := []) jl_X11_51 km_X3_init rfl rfl dX11_init_90 (Nat.le_of_ble_eq_true rfl) k (fun h33 k => ?_)
    obtain ⟨n34, f35, e36, e37, vs40, e41, k⟩ := k
    refine jr_qast5E dX11_init_93 e36 e41 e37 (fun h38 eh39 => ?_)
    have k := k h38 eh39
    refine jr_iinc (v := (x1 + 1)) (lv' := [(1, .int (x1 + 1)), (0, .ref x0)]) 1 dX11_init_94 rfl rfl (by decide) rfl ?_
    refine jr_goto (tgt := 72) dX11_init_97 (by decide) ?_
    exact jr_sub [1, 0] rfl k
set_option maxRecDepth 20000 in
theorem bX11_init_110 {g : jG} {d : Nat} {hs : jH} {P : jO → jH → Prop} {x0 : Nat} {x1 : Int32} {h : jH} (k : ∃ fs1 : List Value, h.1 x0 = some (.inr (11, fs1)) ∧ ∃ v4 : Nat, fs1[9]? = some (.ref v4) ∧ ∃ (t5 : Nat) (z6 : vp_A), h.1 v4 = some (.inl (t5, z6)) ∧ (∃ ty9 : FieldType, jTy t5 = some ty9) ∧ (x1 < (nI z6.1) → ∃ fs46 : List Value, h.1 x0 = some (.inr (11, fs46)) ∧ ∃ v49 : Nat, fs46[9]? = some (.ref v49) ∧ jroom g h 1 3 ∧ ∀ (q50 : Nat) (h51 : jH), q50 = h.2.1 → h51 = jnew h (.inr (10, [.int 0, .int 0, .null])) 3 → Con g mX10_init d [.ref q50] h51 (jPv (fun (h56 : jH) => ∃ (n57 : Nat) (f58 : Nat → Option Nat), h56.1 v49 = some (.inl (6, (n57, .inr (.inr (.inr (.inr f58)))))) ∧ vp_in x1 n57 ∧ ∃ vs63 : List Value, h56.1 q50 = some (.inr (10, vs63)) ∧ ∀ h61 : jH, h61 = jset h56 v49 (.inl (6, (n57, .inr (.inr (.inr (.inr (va_up f58 x1.toNatClampNeg (some q50)))))))) → J g mX11_init (d + 1) hs P 110 [(0, .ref x0), (1, .int (x1 + 1))] [] h61) (fun E h' => P (.inr E) h'))) ∧ (¬ x1 < (nI z6.1) → jroom g h 1 9 ∧ ∀ (q10 : Nat) (h11 : jH), q10 = h.2.1 → h11 = jnew h (.inr (0, [.null, .int 0, .int 0, .null, .null, .null, .null, .null, .null])) 9 → Con g mX0_init d [.ref q10] h11 (jPv (fun (h16 : jH) => ∃ fs17 : List Value, h16.1 x0 = some (.inr (11, fs17)) ∧ 10 < fs17.length ∧ (∀ h20 : jH, h20 = jset h16 x0 (.inr (11, fs17.set 10 (.ref q10))) → jroom g h20 1 8 ∧ ∀ (q22 : Nat) (h23 : jH), q22 = h20.2.1 → h23 = jnew h20 (.inr (4, [.null, .int 0, .int 0, .null, .null, .null, .int 0, .int 0])) 8 → Con g mX4_init d [.ref q22] h23 (jPv (fun (h28 : jH) => ∃ fs29 : List Value, h28.1 x0 = some (.inr (11, fs29)) ∧ 11 < fs29.length ∧ (∀ h32 : jH, h32 = jset h28 x0 (.inr (11, fs29.set 11 (.ref q22))) → jroom g h32 1 3 ∧ ∀ (q34 : Nat) (h35 : jH), q34 = h32.2.1 → h35 = jnew h32 (.inr (1, [.null, .int 0, .null])) 3 → Con g mX1_init d [.ref q34] h35 (jPv (fun (h40 : jH) => ∃ fs41 : List Value, h40.1 x0 = some (.inr (11, fs41)) ∧ 12 < fs41.length ∧ (∀ h44 : jH, h44 = jset h40 x0 (.inr (11, fs41.set 12 (.ref q34))) → P (.inl none) h44)) (fun E h' => P (.inr E) h')))) (fun E h' => P (.inr E) h')))) (fun E h' => P (.inr E) h')))) : J g mX11_init (d + 1) hs P 110 [(0, .ref x0), (1, .int x1)] [] h := by
  refine jr_iload_n 1 dX11_init_110 rfl rfl ?_
  refine jr_aload_n 0 dX11_init_111 rfl rfl ?_
  obtain ⟨fs1, e2, v4, e3, k⟩ := k
  refine jr_get jf_X11_54 dX11_init_112 e2 e3 ?_
  obtain ⟨t5, z6, e7, ⟨ty9, e8⟩, k⟩ := k
  refine jr_alen (v := nI z6.1) dX11_init_115 e8 e7 rfl ?_
  refine jr_icmp_ge (tgt := 138) dX11_init_116 (by decide) (fun c116 => ?_) (fun c116 => ?_)
  · have k := k.2 c116
    refine jr_aload_n 0 dX11_init_138 rfl rfl ?_
    obtain ⟨rm14, k⟩ := k
    refine jr_newE (fs := [.null, .int 0, .int 0, .null, .null, .null, .null, .null, .null]) jn_X11_59 jfs_0 rm14 dX11_init_139 (fun q10 h11 eq12 eh13 => ?_)
    have k := k q10 h11 eq12 eh13
    refine jr_dup dX11_init_142 rfl ?_
    refine jr_cNv (As := []) jl_X11_61 km_X0_init rfl rfl dX11_init_143 (Nat.le_of_ble_eq_true rfl) k (fun h16 k => ?_)
    obtain ⟨fs17, e18, e19, k⟩ := k
    refine jr_putFE jp_X11_62 (fun C T N hc => by cases hc; rfl) rfl dX11_init_146 e18 e19 rfl rfl (fun h20 eh21 => ?_)
    have k := k h20 eh21
    refine jr_aload_n 0 dX11_init_149 rfl rfl ?_
    obtain ⟨rm26, k⟩ := k
    refine jr_newE (fs := [.null, .int 0, .int 0, .null, .null, .null, .int 0, .int 0]) jn_X11_66 jfs_4 rm26 dX11_init_150 (fun q22 h23 eq24 eh25 => ?_)
    have k := k q22 h23 eq24 eh25
    refine jr_dup dX11_init_153 rfl ?_
    refine jr_cNv (As := []) jl_X11_68 km_X4_init rfl rfl dX11_init_154 (Nat.le_of_ble_eq_true rfl) k (fun h28 k => ?_)
    obtain ⟨fs29, e30, e31, k⟩ := k
    refine jr_putFE jp_X11_69 (fun C T N hc => by cases hc; rfl) rfl dX11_init_157 e30 e31 rfl rfl (fun h32 eh33 => ?_)
    have k := k h32 eh33
    refine jr_aload_n 0 dX11_init_160 rfl rfl ?_
    obtain ⟨rm38, k⟩ := k
    refine jr_newE (fs := [.null, .int 0, .null]) jn_X11_73 jfs_1 rm38 dX11_init_161 (fun q34 h35 eq36 eh37 => ?_)
    have k := k q34 h35 eq36 eh37
    refine jr_dup dX11_init_164 rfl ?_
    refine jr_cNv (As := []) jl_X11_75 km_X1_init rfl rfl dX11_init_165 (Nat.le_of_ble_eq_true rfl) k (fun h40 k => ?_)
    obtain ⟨fs41, e42, e43, k⟩ := k
    refine jr_putFE jp_X11_76 (fun C T N hc => by cases hc; rfl) rfl dX11_init_168 e42 e43 rfl rfl (fun h44 eh45 => ?_)
    have k := k h44 eh45
    exact jr_vret rfl dX11_init_171 k
  · have k := k.1 c116
    refine jr_aload_n 0 dX11_init_119 rfl rfl ?_
    obtain ⟨fs46, e47, v49, e48, k⟩ := k
    refine jr_get jf_X11_54 dX11_init_120 e47 e48 ?_
    refine jr_iload_n 1 dX11_init_123 rfl rfl ?_
    obtain ⟨rm54, k⟩ := k
    refine jr_newE (fs := [.int 0, .int 0, .null]) jn_X11_52 jfs_10 rm54 dX11_init_124 (fun q50 h51 eq52 eh53 => ?_)
    have k := k q50 h51 eq52 eh53
    refine jr_dup dX11_init_127 rfl ?_
    refine jr_cNv (As := []) jl_X11_58 km_X10_init rfl rfl dX11_init_128 (Nat.le_of_ble_eq_true rfl) k (fun h56 k => ?_)
    obtain ⟨n57, f58, e59, e60, vs63, e64, k⟩ := k
    refine jr_qast6E dX11_init_131 e59 e64 e60 (fun h61 eh62 => ?_)
    have k := k h61 eh62
    refine jr_iinc (v := (x1 + 1)) (lv' := [(1, .int (x1 + 1)), (0, .ref x0)]) 1 dX11_init_132 rfl rfl (by decide) rfl ?_
    refine jr_goto (tgt := 110) dX11_init_135 (by decide) ?_
    exact jr_sub [1, 0] rfl k
set_option maxRecDepth 20000 in
theorem bX11_feed_0 {g : jG} {d : Nat} {hs : jH} {P : jO → jH → Prop} {x0 : Nat} {x1 : Int32} {x2 : Int32} {x3 : Int32} {x4 : Int32} {x5 : Int32} {h : jH} (k : ∃ fs1 : List Value, h.1 x0 = some (.inr (11, fs1)) ∧ ∃ v4 : Int32, fs1[1]? = some (.int v4) ∧ ∃ fs5 : List Value, h.1 x0 = some (.inr (11, fs5)) ∧ ∃ v8 : Nat, fs5[0]? = some (.ref v8) ∧ ∃ (t9 : Nat) (z10 : vp_A), h.1 v8 = some (.inl (t9, z10)) ∧ (∃ ty13 : FieldType, jTy t9 = some ty13) ∧ ((nI z10.1) < (v4 + 20) → P (.inl (some (.int ((-1))))) h) ∧ (¬ (nI z10.1) < (v4 + 20) → ∃ fs16 : List Value, h.1 x0 = some (.inr (11, fs16)) ∧ Con g mX11_feedInt d [.ref x0, .int x1] h (jPv (fun (h15 : jH) => ∃ fs20 : List Value, h15.1 x0 = some (.inr (11, fs20)) ∧ Con g mX11_feedInt d [.ref x0, .int x2] h15 (jPv (fun (h19 : jH) => ∃ fs24 : List Value, h19.1 x0 = some (.inr (11, fs24)) ∧ Con g mX11_feedInt d [.ref x0, .int x3] h19 (jPv (fun (h23 : jH) => ∃ fs28 : List Value, h23.1 x0 = some (.inr (11, fs28)) ∧ Con g mX11_feedInt d [.ref x0, .int x4] h23 (jPv (fun (h27 : jH) => ∃ fs32 : List Value, h27.1 x0 = some (.inr (11, fs32)) ∧ Con g mX11_feedInt d [.ref x0, .int x5] h27 (jPv (fun (h31 : jH) => ∃ fs34 : List Value, h31.1 x0 = some (.inr (11, fs34)) ∧ ∃ v37 : Int32, fs34[1]? = some (.int v37) ∧ P (.inl (some (.int v37))) h31) (fun E h' => P (.inr E) h'))) (fun E h' => P (.inr E) h'))) (fun E h' => P (.inr E) h'))) (fun E h' => P (.inr E) h'))) (fun E h' => P (.inr E) h')))) : J g mX11_feed (d + 1) hs P 0 [(0, .ref x0), (1, .int x1), (2, .int x2), (3, .int x3), (4, .int x4), (5, .int x5)] [] h := by
  refine jr_aload_n 0 dX11_feed_0 rfl rfl ?_
  obtain ⟨fs1, e2, v4, e3, k⟩ := k
  refine jr_get jf_X11_80 dX11_feed_1 e2 e3 ?_
  refine jr_bipush (v := 20) dX11_feed_4 (by decide) ?_
  refine jr_iadd dX11_feed_6 ?_
  refine jr_aload_n 0 dX11_feed_7 rfl rfl ?_
  obtain ⟨fs5, e6, v8, e7, k⟩ := k
  refine jr_get jf_X11_9 dX11_feed_8 e6 e7 ?_
  obtain ⟨t9, z10, e11, ⟨ty13, e12⟩, k⟩ := k
  refine jr_alen (v := nI z10.1) dX11_feed_11 e12 e11 rfl ?_
  refine jr_icmp_le (tgt := 17) dX11_feed_12 (by decide) (fun c12 => ?_) (fun c12 => ?_)
  · have k := k.2 c12
    refine jr_aload_n 0 dX11_feed_17 rfl rfl ?_
    refine jr_iload_n 1 dX11_feed_18 rfl rfl ?_
    obtain ⟨fs16, e17, k⟩ := k
    refine jr_cVv (As := [.int x1]) jl_X11_83 km_X11_feedInt rfl rfl dX11_feed_19 e17 (Nat.le_of_ble_eq_true rfl) k (fun h15 k => ?_)
    refine jr_aload_n 0 dX11_feed_22 rfl rfl ?_
    refine jr_iload_n 2 dX11_feed_23 rfl rfl ?_
    obtain ⟨fs20, e21, k⟩ := k
    refine jr_cVv (As := [.int x2]) jl_X11_83 km_X11_feedInt rfl rfl dX11_feed_24 e21 (Nat.le_of_ble_eq_true rfl) k (fun h19 k => ?_)
    refine jr_aload_n 0 dX11_feed_27 rfl rfl ?_
    refine jr_iload_n 3 dX11_feed_28 rfl rfl ?_
    obtain ⟨fs24, e25, k⟩ := k
    refine jr_cVv (As := [.int x3]) jl_X11_83 km_X11_feedInt rfl rfl dX11_feed_29 e25 (Nat.le_of_ble_eq_true rfl) k (fun h23 k => ?_)
    refine jr_aload_n 0 dX11_feed_32 rfl rfl ?_
    refine jr_iload 4 dX11_feed_33 rfl ?_
    obtain ⟨fs28, e29, k⟩ := k
    refine jr_cVv (As := [.int x4]) jl_X11_83 km_X11_feedInt rfl rfl dX11_feed_35 e29 (Nat.le_of_ble_eq_true rfl) k (fun h27 k => ?_)
    refine jr_aload_n 0 dX11_feed_38 rfl rfl ?_
    refine jr_iload 5 dX11_feed_39 rfl ?_
    obtain ⟨fs32, e33, k⟩ := k
    refine jr_cVv (As := [.int x5]) jl_X11_83 km_X11_feedInt rfl rfl dX11_feed_41 e33 (Nat.le_of_ble_eq_true rfl) k (fun h31 k => ?_)
    refine jr_aload_n 0 dX11_feed_44 rfl rfl ?_
    obtain ⟨fs34, e35, v37, e36, k⟩ := k
    refine jr_get jf_X11_80 dX11_feed_45 e35 e36 ?_
    exact jr_iret (ty := .int) rfl rfl dX11_feed_48 k
  · have k := k.1 c12
    refine jr_iconst (v := (-1)) dX11_feed_15 (by decide) ?_
    exact jr_iret (ty := .int) rfl rfl dX11_feed_16 k
set_option maxRecDepth 20000 in
theorem bX11_feedInt_0 {g : jG} {d : Nat} {hs : jH} {P : jO → jH → Prop} {x0 : Nat} {x1 : Int32} {h : jH} (k : J g mX11_feedInt (d + 1) hs P 3 [(0, .ref x0), (1, .int x1), (2, .int 24)] [] h) : J g mX11_feedInt (d + 1) hs P 0 [(0, .ref x0), (1, .int x1)] [] h := by
  refine jr_bipush (v := 24) dX11_feedInt_0 (by decide) ?_
  refine jr_istore_n (lv' := [(2, .int 24), (0, .ref x0), (1, .int x1)]) dX11_feedInt_2 rfl (by decide) rfl ?_
  exact jr_sub [1, 2, 0] rfl k
set_option maxRecDepth 20000 in
theorem bX11_feedInt_3 {g : jG} {d : Nat} {hs : jH} {P : jO → jH → Prop} {x0 : Nat} {x1 : Int32} {x2 : Int32} {h : jH} (k : (x2 < 0 → P (.inl none) h) ∧ (¬ x2 < 0 → ∃ fs1 : List Value, h.1 x0 = some (.inr (11, fs1)) ∧ ∃ v4 : Int32, fs1[1]? = some (.int v4) ∧ ∃ fs5 : List Value, h.1 x0 = some (.inr (11, fs5)) ∧ ∃ v8 : Nat, fs5[0]? = some (.ref v8) ∧ ∃ (t9 : Nat) (z10 : vp_A), h.1 v8 = some (.inl (t9, z10)) ∧ (∃ ty13 : FieldType, jTy t9 = some ty13) ∧ (v4 < (nI z10.1) → ∃ fs14 : List Value, h.1 x0 = some (.inr (11, fs14)) ∧ ∃ v17 : Nat, fs14[0]? = some (.ref v17) ∧ ∃ fs18 : List Value, h.1 x0 = some (.inr (11, fs18)) ∧ ∃ v21 : Int32, fs18[1]? = some (.int v21) ∧ ∃ (n22 : Nat) (f23 : Nat → Int32), h.1 v17 = some (.inl (1, (n22, .inl f23))) ∧ vp_in v21 n22 ∧ ∀ h26 : jH, h26 = jset h v17 (.inl (1, (n22, .inl (upd f23 v21.toNatClampNeg (vp_nar .byte (((x1 >>> (x2 &&& 31))).toInt8.toInt32)))))) → ∃ fs28 : List Value, h26.1 x0 = some (.inr (11, fs28)) ∧ ∃ v31 : Int32, fs28[1]? = some (.int v31) ∧ ∃ fs32 : List Value, h26.1 x0 = some (.inr (11, fs32)) ∧ 1 < fs32.length ∧ (∀ h35 : jH, h35 = jset h26 x0 (.inr (11, fs32.set 1 (.int (v31 + 1)))) → J g mX11_feedInt (d + 1) hs P 3 [(0, .ref x0), (1, .int x1), (2, .int (x2 + (-8)))] [] h35)) ∧ (¬ v4 < (nI z10.1) → P (.inl none) h))) : J g mX11_feedInt (d + 1) hs P 3 [(0, .ref x0), (1, .int x1), (2, .int x2)] [] h := by
  refine jr_iload_n 2 dX11_feedInt_3 rfl rfl ?_
  refine jr_if_lt (tgt := 48) dX11_feedInt_4 (by decide) (fun c4 => ?_) (fun c4 => ?_)
  · have k := k.1 c4
    exact jr_vret rfl dX11_feedInt_48 k
  · have k := k.2 c4
    refine jr_aload_n 0 dX11_feedInt_7 rfl rfl ?_
    obtain ⟨fs1, e2, v4, e3, k⟩ := k
    refine jr_get jf_X11_80 dX11_feedInt_8 e2 e3 ?_
    refine jr_aload_n 0 dX11_feedInt_11 rfl rfl ?_
    obtain ⟨fs5, e6, v8, e7, k⟩ := k
    refine jr_get jf_X11_9 dX11_feedInt_12 e6 e7 ?_
    obtain ⟨t9, z10, e11, ⟨ty13, e12⟩, k⟩ := k
    refine jr_alen (v := nI z10.1) dX11_feedInt_15 e12 e11 rfl ?_
    refine jr_icmp_ge (tgt := 48) dX11_feedInt_16 (by decide) (fun c16 => ?_) (fun c16 => ?_)
    · have k := k.2 c16
      exact jr_vret rfl dX11_feedInt_48 k
    · have k := k.1 c16
      refine jr_aload_n 0 dX11_feedInt_19 rfl rfl ?_
      obtain ⟨fs14, e15, v17, e16, k⟩ := k
      refine jr_get jf_X11_9 dX11_feedInt_20 e15 e16 ?_
      refine jr_aload_n 0 dX11_feedInt_23 rfl rfl ?_
      obtain ⟨fs18, e19, v21, e20, k⟩ := k
      refine jr_get jf_X11_80 dX11_feedInt_24 e19 e20 ?_
      refine jr_iload_n 1 dX11_feedInt_27 rfl rfl ?_
      refine jr_iload_n 2 dX11_feedInt_28 rfl rfl ?_
      refine jr_ishr dX11_feedInt_29 ?_
      refine jr_i2b dX11_feedInt_30 ?_
      obtain ⟨n22, f23, e24, e25, k⟩ := k
      refine jr_bastE dX11_feedInt_31 e24 e25 (fun h26 eh27 => ?_)
      have k := k h26 eh27
      refine jr_aload_n 0 dX11_feedInt_32 rfl rfl ?_
      refine jr_dup dX11_feedInt_33 rfl ?_
      obtain ⟨fs28, e29, v31, e30, k⟩ := k
      refine jr_get jf_X11_80 dX11_feedInt_34 e29 e30 ?_
      refine jr_iconst (v := 1) dX11_feedInt_37 (by decide) ?_
      refine jr_iadd dX11_feedInt_38 ?_
      obtain ⟨fs32, e33, e34, k⟩ := k
      refine jr_putE jp_X11_80 dX11_feedInt_39 e33 e34 rfl rfl (fun h35 eh36 => ?_)
      have k := k h35 eh36
      refine jr_iinc (v := (x2 + (-8))) (lv' := [(2, .int (x2 + (-8))), (0, .ref x0), (1, .int x1)]) 2 dX11_feedInt_42 rfl rfl (by decide) rfl ?_
      refine jr_goto (tgt := 3) dX11_feedInt_45 (by decide) ?_
      exact jr_sub [1, 2, 0] rfl k
set_option maxRecDepth 20000 in
theorem bX11_street_0 {g : jG} {d : Nat} {hs : jH} {P : jO → jH → Prop} {x0 : Nat} {x1 : Int32} {h : jH} (k : (x1 < 0 → J g mX11_street (d + 1) hs P 12 [] [] h) ∧ (¬ x1 < 0 → ∃ fs1 : List Value, h.1 x0 = some (.inr (11, fs1)) ∧ ∃ v4 : Int32, fs1[1]? = some (.int v4) ∧ (v4 < x1 → J g mX11_street (d + 1) hs P 12 [] [] h) ∧ (¬ v4 < x1 → ∃ fs5 : List Value, h.1 x0 = some (.inr (11, fs5)) ∧ ∃ v8 : Nat, fs5[4]? = some (.ref v8) ∧ ∃ fs9 : List Value, h.1 x0 = some (.inr (11, fs9)) ∧ ∃ v12 : Nat, fs9[0]? = some (.ref v12) ∧ ∃ fs15 : List Value, h.1 v8 = some (.inr (7, fs15)) ∧ Con g mX7_read d [.ref v8, .ref v12, .int x1] h (jPi (fun (r13 : Int32) (h14 : jH) => ∃ fs17 : List Value, h14.1 x0 = some (.inr (11, fs17)) ∧ 1 < fs17.length ∧ (∀ h20 : jH, h20 = jset h14 x0 (.inr (11, fs17.set 1 (.int 0))) → ∃ fs22 : List Value, h20.1 x0 = some (.inr (11, fs22)) ∧ ∃ v25 : Nat, fs22[4]? = some (.ref v25) ∧ ∃ fs26 : List Value, h20.1 v25 = some (.inr (7, fs26)) ∧ ∃ v29 : Int32, fs26[1]? = some (.int v29) ∧ ∃ fs30 : List Value, h20.1 x0 = some (.inr (11, fs30)) ∧ 2 < fs30.length ∧ (∀ h33 : jH, h33 = jset h20 x0 (.inr (11, fs30.set 2 (.int v29))) → ∃ fs35 : List Value, h33.1 x0 = some (.inr (11, fs35)) ∧ ∃ v38 : Nat, fs35[4]? = some (.ref v38) ∧ ∃ fs39 : List Value, h33.1 v38 = some (.inr (7, fs39)) ∧ ∃ v42 : Int32, fs39[2]? = some (.int v42) ∧ ∃ fs43 : List Value, h33.1 x0 = some (.inr (11, fs43)) ∧ 3 < fs43.length ∧ (∀ h46 : jH, h46 = jset h33 x0 (.inr (11, fs43.set 3 (.int v42))) → (r13 = 0 → ∃ fs94 : List Value, h46.1 x0 = some (.inr (11, fs94)) ∧ ∃ v97 : Int32, fs94[2]? = some (.int v97) ∧ P (.inl (some (.int (((-10) - v97))))) h46) ∧ (¬ r13 = 0 → ∃ fs48 : List Value, h46.1 x0 = some (.inr (11, fs48)) ∧ ∃ v51 : Nat, fs48[4]? = some (.ref v51) ∧ ∃ fs52 : List Value, h46.1 v51 = some (.inr (7, fs52)) ∧ ∃ v55 : Nat, fs52[0]? = some (.ref v55) ∧ ∃ fs56 : List Value, h46.1 x0 = some (.inr (11, fs56)) ∧ 5 < fs56.length ∧ (∀ h59 : jH, h59 = jset h46 x0 (.inr (11, fs56.set 5 (.ref v55))) → ∃ fs61 : List Value, h59.1 x0 = some (.inr (11, fs61)) ∧ ∃ v64 : Nat, fs61[6]? = some (.ref v64) ∧ ∃ fs65 : List Value, h59.1 x0 = some (.inr (11, fs65)) ∧ ∃ v68 : Nat, fs65[5]? = some (.ref v68) ∧ ∃ fs69 : List Value, h59.1 v68 = some (.inr (9, fs69)) ∧ ∃ v72 : Nat, fs69[0]? = some (.ref v72) ∧ ∃ fs75 : List Value, h59.1 v64 = some (.inr (6, fs75)) ∧ Con g mX6_takeOver d [.ref v64, .ref v72] h59 (jPv (fun (h74 : jH) => ∃ fs77 : List Value, h74.1 x0 = some (.inr (11, fs77)) ∧ ∃ v80 : Nat, fs77[7]? = some (.ref v80) ∧ ∃ fs81 : List Value, h74.1 v80 = some (.inr (2, fs81)) ∧ 0 < fs81.length ∧ (∀ h84 : jH, h84 = jset h74 v80 (.inr (2, fs81.set 0 (.int 0))) → ∃ fs86 : List Value, h84.1 x0 = some (.inr (11, fs86)) ∧ ∃ v89 : Nat, fs86[5]? = some (.ref v89) ∧ ∃ fs90 : List Value, h84.1 v89 = some (.inr (9, fs90)) ∧ ∃ v93 : Int32, fs90[2]? = some (.int v93) ∧ P (.inl (some (.int v93))) h84)) (fun E h' => P (.inr E) h')))))))) (fun E h' => P (.inr E) h'))))) : J g mX11_street (d + 1) hs P 0 [(0, .ref x0), (1, .int x1)] [] h := by
  refine jr_iload_n 1 dX11_street_0 rfl rfl ?_
  refine jr_if_lt (tgt := 12) dX11_street_1 (by decide) (fun c1 => ?_) (fun c1 => ?_)
  · have k := k.1 c1
    exact jr_sub [] rfl k
  · have k := k.2 c1
    refine jr_iload_n 1 dX11_street_4 rfl rfl ?_
    refine jr_aload_n 0 dX11_street_5 rfl rfl ?_
    obtain ⟨fs1, e2, v4, e3, k⟩ := k
    refine jr_get jf_X11_80 dX11_street_6 e2 e3 ?_
    refine jr_icmp_le (tgt := 22) dX11_street_9 (by decide) (fun c9 => ?_) (fun c9 => ?_)
    · have k := k.2 c9
      refine jr_aload_n 0 dX11_street_22 rfl rfl ?_
      obtain ⟨fs5, e6, v8, e7, k⟩ := k
      refine jr_get jf_X11_27 dX11_street_23 e6 e7 ?_
      refine jr_aload_n 0 dX11_street_26 rfl rfl ?_
      obtain ⟨fs9, e10, v12, e11, k⟩ := k
      refine jr_get jf_X11_9 dX11_street_27 e10 e11 ?_
      refine jr_iload_n 1 dX11_street_30 rfl rfl ?_
      obtain ⟨fs15, e16, k⟩ := k
      refine jr_cVi (As := [.ref v12, .int x1]) jl_X11_94 km_X7_read rfl rfl dX11_street_31 e16 (Nat.le_of_ble_eq_true rfl) k (fun r13 h14 k => ?_)
      refine jr_istore_n (lv' := [(2, .int r13), (0, .ref x0), (1, .int x1)]) dX11_street_34 rfl (by decide) rfl ?_
      refine jr_aload_n 1 dX11_street_35 rfl rfl ?_
      refine jr_iconst (v := 0) dX11_street_36 (by decide) ?_
      obtain ⟨fs17, e18, e19, k⟩ := k
      refine jr_putE jp_X11_80 dX11_street_37 e18 e19 rfl rfl (fun h20 eh21 => ?_)
      have k := k h20 eh21
      refine jr_aload_n 1 dX11_street_40 rfl rfl ?_
      refine jr_aload_n 1 dX11_street_41 rfl rfl ?_
      obtain ⟨fs22, e23, v25, e24, k⟩ := k
      refine jr_get jf_X11_27 dX11_street_42 e23 e24 ?_
      obtain ⟨fs26, e27, v29, e28, k⟩ := k
      refine jr_get jf_X11_98 dX11_street_45 e27 e28 ?_
      obtain ⟨fs30, e31, e32, k⟩ := k
      refine jr_putE jp_X11_101 dX11_street_48 e31 e32 rfl rfl (fun h33 eh34 => ?_)
      have k := k h33 eh34
      refine jr_aload_n 1 dX11_street_51 rfl rfl ?_
      refine jr_aload_n 1 dX11_street_52 rfl rfl ?_
      obtain ⟨fs35, e36, v38, e37, k⟩ := k
      refine jr_get jf_X11_27 dX11_street_53 e36 e37 ?_
      obtain ⟨fs39, e40, v42, e41, k⟩ := k
      refine jr_get jf_X11_104 dX11_street_56 e40 e41 ?_
      obtain ⟨fs43, e44, e45, k⟩ := k
      refine jr_putE jp_X11_13 dX11_street_59 e44 e45 rfl rfl (fun h46 eh47 => ?_)
      have k := k h46 eh47
      refine jr_iload_n 0 dX11_street_62 rfl rfl ?_
      refine jr_if_ne (tgt := 74) dX11_street_63 (by decide) (fun c63 => ?_) (fun c63 => ?_)
      · have k := k.2 c63
        refine jr_aload_n 1 dX11_street_74 rfl rfl ?_
        refine jr_aload_n 1 dX11_street_75 rfl rfl ?_
        obtain ⟨fs48, e49, v51, e50, k⟩ := k
        refine jr_get jf_X11_27 dX11_street_76 e49 e50 ?_
        obtain ⟨fs52, e53, v55, e54, k⟩ := k
        refine jr_get jf_X11_107 dX11_street_79 e53 e54 ?_
        obtain ⟨fs56, e57, e58, k⟩ := k
        refine jr_putE jp_X11_20 dX11_street_82 e57 e58 rfl rfl (fun h59 eh60 => ?_)
        have k := k h59 eh60
        refine jr_aload_n 1 dX11_street_85 rfl rfl ?_
        obtain ⟨fs61, e62, v64, e63, k⟩ := k
        refine jr_get jf_X11_34 dX11_street_86 e62 e63 ?_
        refine jr_aload_n 1 dX11_street_89 rfl rfl ?_
        obtain ⟨fs65, e66, v68, e67, k⟩ := k
        refine jr_get jf_X11_20 dX11_street_90 e66 e67 ?_
        obtain ⟨fs69, e70, v72, e71, k⟩ := k
        refine jr_get jf_X11_108 dX11_street_93 e70 e71 ?_
        obtain ⟨fs75, e76, k⟩ := k
        refine jr_cVv (As := [.ref v72]) jl_X11_111 km_X6_takeOver rfl rfl dX11_street_96 e76 (Nat.le_of_ble_eq_true rfl) k (fun h74 k => ?_)
        refine jr_aload_n 1 dX11_street_99 rfl rfl ?_
        obtain ⟨fs77, e78, v80, e79, k⟩ := k
        refine jr_get jf_X11_41 dX11_street_100 e78 e79 ?_
        refine jr_iconst (v := 0) dX11_street_103 (by decide) ?_
        obtain ⟨fs81, e82, e83, k⟩ := k
        refine jr_putE jp_X11_115 dX11_street_104 e82 e83 rfl rfl (fun h84 eh85 => ?_)
        have k := k h84 eh85
        refine jr_aload_n 1 dX11_street_107 rfl rfl ?_
        obtain ⟨fs86, e87, v89, e88, k⟩ := k
        refine jr_get jf_X11_20 dX11_street_108 e87 e88 ?_
        obtain ⟨fs90, e91, v93, e92, k⟩ := k
        refine jr_get jf_X11_118 dX11_street_111 e91 e92 ?_
        exact jr_iret (ty := .int) rfl rfl dX11_street_114 k
      · have k := k.1 c63
        refine jr_bipush (v := (-10)) dX11_street_66 (by decide) ?_
        refine jr_aload_n 1 dX11_street_68 rfl rfl ?_
        obtain ⟨fs94, e95, v97, e96, k⟩ := k
        refine jr_get jf_X11_101 dX11_street_69 e95 e96 ?_
        refine jr_isub dX11_street_72 ?_
        exact jr_iret (ty := .int) rfl rfl dX11_street_73 k
    · have k := k.1 c9
      exact jr_sub [] rfl k
set_option maxRecDepth 20000 in
theorem bX11_street_12 {g : jG} {d : Nat} {hs : jH} {P : jO → jH → Prop}  {h : jH} (k : jthr g h "java/lang/IllegalArgumentException" P) : J g mX11_street (d + 1) hs P 12 [] [] h := by
  exact jr_throw rfl jt_X11_89 rfl k.1 (fun hg9 => ⟨_, (hg9.2.2.2.2.2.2.2.1 0 _ rfl).1⟩) dX11_street_12 dX11_street_15 dX11_street_16 dX11_street_18 dX11_street_21 (Nat.le_of_ble_eq_true rfl) k.2
set_option maxRecDepth 20000 in
theorem bX11_fault_0 {g : jG} {d : Nat} {hs : jH} {P : jO → jH → Prop} {x0 : Nat} {x1 : Int32} {h : jH} (k : (x1 = 0 → ∃ fs5 : List Value, h.1 x0 = some (.inr (11, fs5)) ∧ ∃ v8 : Int32, fs5[2]? = some (.int v8) ∧ P (.inl (some (.int v8))) h) ∧ (¬ x1 = 0 → (x1 = 1 → ∃ fs1 : List Value, h.1 x0 = some (.inr (11, fs1)) ∧ ∃ v4 : Int32, fs1[3]? = some (.int v4) ∧ P (.inl (some (.int v4))) h) ∧ (¬ x1 = 1 → P (.inl (some (.int ((-1))))) h))) : J g mX11_fault (d + 1) hs P 0 [(0, .ref x0), (1, .int x1)] [] h := by
  refine jr_iload_n 1 dX11_fault_0 rfl rfl ?_
  refine jr_if_ne (tgt := 11) dX11_fault_1 (by decide) (fun c1 => ?_) (fun c1 => ?_)
  · have k := k.2 c1
    refine jr_iload_n 1 dX11_fault_11 rfl rfl ?_
    refine jr_iconst (v := 1) dX11_fault_12 (by decide) ?_
    refine jr_icmp_ne (tgt := 23) dX11_fault_13 (by decide) (fun c13 => ?_) (fun c13 => ?_)
    · have k := k.2 c13
      refine jr_iconst (v := (-1)) dX11_fault_23 (by decide) ?_
      exact jr_iret (ty := .int) rfl rfl dX11_fault_24 k
    · have k := k.1 c13
      refine jr_aload_n 0 dX11_fault_16 rfl rfl ?_
      obtain ⟨fs1, e2, v4, e3, k⟩ := k
      refine jr_get jf_X11_13 dX11_fault_17 e2 e3 ?_
      refine jr_goto (tgt := 24) dX11_fault_20 (by decide) ?_
      exact jr_iret (ty := .int) rfl rfl dX11_fault_24 k
  · have k := k.1 c1
    refine jr_aload_n 0 dX11_fault_4 rfl rfl ?_
    obtain ⟨fs5, e6, v8, e7, k⟩ := k
    refine jr_get jf_X11_101 dX11_fault_5 e6 e7 ?_
    refine jr_goto (tgt := 24) dX11_fault_8 (by decide) ?_
    exact jr_iret (ty := .int) rfl rfl dX11_fault_24 k
set_option maxRecDepth 20000 in
theorem bX11_house_0 {g : jG} {d : Nat} {hs : jH} {P : jO → jH → Prop} {x0 : Nat} {x1 : Int32} {x2 : Int32} {h : jH} (k : ∃ fs3 : List Value, h.1 x0 = some (.inr (11, fs3)) ∧ Con g mX11_checkHouse d [.ref x0, .int x1] h (jPv (fun (h2 : jH) => (x2 = 0 → ∃ fs5 : List Value, h2.1 x0 = some (.inr (11, fs5)) ∧ ∃ v8 : Nat, fs5[6]? = some (.ref v8) ∧ ∃ fs9 : List Value, h2.1 v8 = some (.inr (6, fs9)) ∧ ∃ v12 : Nat, fs9[7]? = some (.ref v12) ∧ ∃ (n13 : Nat) (f14 : Nat → Int32), h2.1 v12 = some (.inl (0, (n13, .inl f14))) ∧ vp_in x1 n13 ∧ P (.inl (some (.int ((f14 x1.toNatClampNeg))))) h2) ∧ (¬ x2 = 0 → (x2 = 1 → ∃ fs17 : List Value, h2.1 x0 = some (.inr (11, fs17)) ∧ ∃ v20 : Nat, fs17[6]? = some (.ref v20) ∧ ∃ fs21 : List Value, h2.1 v20 = some (.inr (6, fs21)) ∧ ∃ v24 : Nat, fs21[8]? = some (.ref v24) ∧ ∃ (n25 : Nat) (f26 : Nat → Int32), h2.1 v24 = some (.inl (0, (n25, .inl f26))) ∧ vp_in x1 n25 ∧ P (.inl (some (.int ((f26 x1.toNatClampNeg))))) h2) ∧ (¬ x2 = 1 → (x2 = 2 → ∃ fs29 : List Value, h2.1 x0 = some (.inr (11, fs29)) ∧ ∃ v32 : Nat, fs29[5]? = some (.ref v32) ∧ ∃ fs33 : List Value, h2.1 x0 = some (.inr (11, fs33)) ∧ ∃ v36 : Nat, fs33[6]? = some (.ref v36) ∧ ∃ fs37 : List Value, h2.1 v36 = some (.inr (6, fs37)) ∧ ∃ v40 : Int32, fs37[0]? = some (.int v40) ∧ ∃ fs43 : List Value, h2.1 v32 = some (.inr (9, fs43)) ∧ Con g mX9_next d [.ref v32, .int x1, .int v40] h2 (jPi (fun (r41 : Int32) (h42 : jH) => P (.inl (some (.int r41))) h42) (fun E h' => P (.inr E) h'))) ∧ (¬ x2 = 2 → jthr g h2 "java/lang/IllegalArgumentException" P)))) (fun E h' => P (.inr E) h'))) : J g mX11_house (d + 1) hs P 0 [(0, .ref x0), (1, .int x1), (2, .int x2)] [] h := by
  refine jr_aload_n 0 dX11_house_0 rfl rfl ?_
  refine jr_iload_n 1 dX11_house_1 rfl rfl ?_
  obtain ⟨fs3, e4, k⟩ := k
  refine jr_cVv (As := [.int x1]) jl_X11_121 km_X11_checkHouse rfl rfl dX11_house_2 e4 (Nat.le_of_ble_eq_true rfl) k (fun h2 k => ?_)
  refine jr_iload_n 2 dX11_house_5 rfl rfl ?_
  by_cases c6_0 : x2 = 0
  · have k := k.1 c6_0
    refine jr_tableIn (tgt := 32) dX11_house_6 (by rw [c6_0]; decide) (by rw [c6_0]; decide) (by rw [c6_0]; rfl) (by decide) ?_
    refine jr_aload_n 0 dX11_house_32 rfl rfl ?_
    obtain ⟨fs5, e6, v8, e7, k⟩ := k
    refine jr_get jf_X11_34 dX11_house_33 e6 e7 ?_
    obtain ⟨fs9, e10, v12, e11, k⟩ := k
    refine jr_get jf_X11_124 dX11_house_36 e10 e11 ?_
    refine jr_iload_n 1 dX11_house_39 rfl rfl ?_
    obtain ⟨n13, f14, e15, e16, k⟩ := k
    refine jr_iald dX11_house_40 e15 e16 ?_
    exact jr_iret (ty := .int) rfl rfl dX11_house_41 k
  · have k := k.2 c6_0
    by_cases c6_1 : x2 = 1
    · have k := k.1 c6_1
      refine jr_tableIn (tgt := 42) dX11_house_6 (by rw [c6_1]; decide) (by rw [c6_1]; decide) (by rw [c6_1]; rfl) (by decide) ?_
      refine jr_aload_n 0 dX11_house_42 rfl rfl ?_
      obtain ⟨fs17, e18, v20, e19, k⟩ := k
      refine jr_get jf_X11_34 dX11_house_43 e18 e19 ?_
      obtain ⟨fs21, e22, v24, e23, k⟩ := k
      refine jr_get jf_X11_128 dX11_house_46 e22 e23 ?_
      refine jr_iload_n 1 dX11_house_49 rfl rfl ?_
      obtain ⟨n25, f26, e27, e28, k⟩ := k
      refine jr_iald dX11_house_50 e27 e28 ?_
      exact jr_iret (ty := .int) rfl rfl dX11_house_51 k
    · have k := k.2 c6_1
      by_cases c6_2 : x2 = 2
      · have k := k.1 c6_2
        refine jr_tableIn (tgt := 52) dX11_house_6 (by rw [c6_2]; decide) (by rw [c6_2]; decide) (by rw [c6_2]; rfl) (by decide) ?_
        refine jr_aload_n 0 dX11_house_52 rfl rfl ?_
        obtain ⟨fs29, e30, v32, e31, k⟩ := k
        refine jr_get jf_X11_20 dX11_house_53 e30 e31 ?_
        refine jr_iload_n 1 dX11_house_56 rfl rfl ?_
        refine jr_aload_n 0 dX11_house_57 rfl rfl ?_
        obtain ⟨fs33, e34, v36, e35, k⟩ := k
        refine jr_get jf_X11_34 dX11_house_58 e34 e35 ?_
        obtain ⟨fs37, e38, v40, e39, k⟩ := k
        refine jr_get jf_X11_131 dX11_house_61 e38 e39 ?_
        obtain ⟨fs43, e44, k⟩ := k
        refine jr_cVi (As := [.int x1, .int v40]) jl_X11_134 km_X9_next rfl rfl dX11_house_64 e44 (Nat.le_of_ble_eq_true rfl) k (fun r41 h42 k => ?_)
        exact jr_iret (ty := .int) rfl rfl dX11_house_67 k
      · have k := k.2 c6_2
        refine jr_tableOut (tgt := 68) dX11_house_6 ?_ (by decide) ?_
        · have d6_0 := j_ne c6_0 (z := 0) (by decide)
          have d6_1 := j_ne c6_1 (z := 1) (by decide)
          have d6_2 := j_ne c6_2 (z := 2) (by decide)
          omega
        · exact jr_throw rfl jt_X11_138 rfl k.1 (fun hg9 => ⟨_, (hg9.2.2.2.2.2.2.2.1 4 _ rfl).1⟩) dX11_house_68 dX11_house_71 dX11_house_72 dX11_house_74 dX11_house_77 (Nat.le_of_ble_eq_true rfl) k.2
set_option maxRecDepth 20000 in
theorem bX11_household_0 {g : jG} {d : Nat} {hs : jH} {P : jO → jH → Prop} {x0 : Nat} {x1 : Int32} {x2 : Int32} {h : jH} (k : ∃ fs3 : List Value, h.1 x0 = some (.inr (11, fs3)) ∧ Con g mX11_checkHouse d [.ref x0, .int x1] h (jPv (fun (h2 : jH) => (x2 = 0 → ∃ fs5 : List Value, h2.1 x0 = some (.inr (11, fs5)) ∧ ∃ v8 : Nat, fs5[6]? = some (.ref v8) ∧ ∃ fs9 : List Value, h2.1 v8 = some (.inr (6, fs9)) ∧ ∃ v12 : Nat, fs9[3]? = some (.ref v12) ∧ ∃ (n13 : Nat) (f14 : Nat → Int32), h2.1 v12 = some (.inl (0, (n13, .inl f14))) ∧ vp_in x1 n13 ∧ P (.inl (some (.int ((f14 x1.toNatClampNeg))))) h2) ∧ (¬ x2 = 0 → (x2 = 1 → ∃ fs17 : List Value, h2.1 x0 = some (.inr (11, fs17)) ∧ ∃ v20 : Nat, fs17[6]? = some (.ref v20) ∧ ∃ fs21 : List Value, h2.1 v20 = some (.inr (6, fs21)) ∧ ∃ v24 : Nat, fs21[4]? = some (.ref v24) ∧ ∃ (n25 : Nat) (f26 : Nat → Int32), h2.1 v24 = some (.inl (0, (n25, .inl f26))) ∧ vp_in x1 n25 ∧ P (.inl (some (.int ((f26 x1.toNatClampNeg))))) h2) ∧ (¬ x2 = 1 → (x2 = 2 → ∃ fs29 : List Value, h2.1 x0 = some (.inr (11, fs29)) ∧ ∃ v32 : Nat, fs29[6]? = some (.ref v32) ∧ ∃ fs33 : List Value, h2.1 v32 = some (.inr (6, fs33)) ∧ ∃ v36 : Nat, fs33[5]? = some (.ref v36) ∧ ∃ (n37 : Nat) (f38 : Nat → Int32), h2.1 v36 = some (.inl (0, (n37, .inl f38))) ∧ vp_in x1 n37 ∧ P (.inl (some (.int ((f38 x1.toNatClampNeg))))) h2) ∧ (¬ x2 = 2 → (x2 = 3 → ∃ fs41 : List Value, h2.1 x0 = some (.inr (11, fs41)) ∧ ∃ v44 : Nat, fs41[6]? = some (.ref v44) ∧ ∃ fs45 : List Value, h2.1 v44 = some (.inr (6, fs45)) ∧ ∃ v48 : Nat, fs45[6]? = some (.ref v48) ∧ ∃ (n49 : Nat) (f50 : Nat → Int32), h2.1 v48 = some (.inl (0, (n49, .inl f50))) ∧ vp_in x1 n49 ∧ P (.inl (some (.int ((f50 x1.toNatClampNeg))))) h2) ∧ (¬ x2 = 3 → jthr g h2 "java/lang/IllegalArgumentException" P))))) (fun E h' => P (.inr E) h'))) : J g mX11_household (d + 1) hs P 0 [(0, .ref x0), (1, .int x1), (2, .int x2)] [] h := by
  refine jr_aload_n 0 dX11_household_0 rfl rfl ?_
  refine jr_iload_n 1 dX11_household_1 rfl rfl ?_
  obtain ⟨fs3, e4, k⟩ := k
  refine jr_cVv (As := [.int x1]) jl_X11_121 km_X11_checkHouse rfl rfl dX11_household_2 e4 (Nat.le_of_ble_eq_true rfl) k (fun h2 k => ?_)
  refine jr_iload_n 2 dX11_household_5 rfl rfl ?_
  by_cases c6_0 : x2 = 0
  · have k := k.1 c6_0
    refine jr_tableIn (tgt := 36) dX11_household_6 (by rw [c6_0]; decide) (by rw [c6_0]; decide) (by rw [c6_0]; rfl) (by decide) ?_
    refine jr_aload_n 0 dX11_household_36 rfl rfl ?_
    obtain ⟨fs5, e6, v8, e7, k⟩ := k
    refine jr_get jf_X11_34 dX11_household_37 e6 e7 ?_
    obtain ⟨fs9, e10, v12, e11, k⟩ := k
    refine jr_get jf_X11_140 dX11_household_40 e10 e11 ?_
    refine jr_iload_n 1 dX11_household_43 rfl rfl ?_
    obtain ⟨n13, f14, e15, e16, k⟩ := k
    refine jr_iald dX11_household_44 e15 e16 ?_
    exact jr_iret (ty := .int) rfl rfl dX11_household_45 k
  · have k := k.2 c6_0
    by_cases c6_1 : x2 = 1
    · have k := k.1 c6_1
      refine jr_tableIn (tgt := 46) dX11_household_6 (by rw [c6_1]; decide) (by rw [c6_1]; decide) (by rw [c6_1]; rfl) (by decide) ?_
      refine jr_aload_n 0 dX11_household_46 rfl rfl ?_
      obtain ⟨fs17, e18, v20, e19, k⟩ := k
      refine jr_get jf_X11_34 dX11_household_47 e18 e19 ?_
      obtain ⟨fs21, e22, v24, e23, k⟩ := k
      refine jr_get jf_X11_143 dX11_household_50 e22 e23 ?_
      refine jr_iload_n 1 dX11_household_53 rfl rfl ?_
      obtain ⟨n25, f26, e27, e28, k⟩ := k
      refine jr_iald dX11_household_54 e27 e28 ?_
      exact jr_iret (ty := .int) rfl rfl dX11_household_55 k
    · have k := k.2 c6_1
      by_cases c6_2 : x2 = 2
      · have k := k.1 c6_2
        refine jr_tableIn (tgt := 56) dX11_household_6 (by rw [c6_2]; decide) (by rw [c6_2]; decide) (by rw [c6_2]; rfl) (by decide) ?_
        refine jr_aload_n 0 dX11_household_56 rfl rfl ?_
        obtain ⟨fs29, e30, v32, e31, k⟩ := k
        refine jr_get jf_X11_34 dX11_household_57 e30 e31 ?_
        obtain ⟨fs33, e34, v36, e35, k⟩ := k
        refine jr_get jf_X11_146 dX11_household_60 e34 e35 ?_
        refine jr_iload_n 1 dX11_household_63 rfl rfl ?_
        obtain ⟨n37, f38, e39, e40, k⟩ := k
        refine jr_iald dX11_household_64 e39 e40 ?_
        exact jr_iret (ty := .int) rfl rfl dX11_household_65 k
      · have k := k.2 c6_2
        by_cases c6_3 : x2 = 3
        · have k := k.1 c6_3
          refine jr_tableIn (tgt := 66) dX11_household_6 (by rw [c6_3]; decide) (by rw [c6_3]; decide) (by rw [c6_3]; rfl) (by decide) ?_
          refine jr_aload_n 0 dX11_household_66 rfl rfl ?_
          obtain ⟨fs41, e42, v44, e43, k⟩ := k
          refine jr_get jf_X11_34 dX11_household_67 e42 e43 ?_
          obtain ⟨fs45, e46, v48, e47, k⟩ := k
          refine jr_get jf_X11_149 dX11_household_70 e46 e47 ?_
          refine jr_iload_n 1 dX11_household_73 rfl rfl ?_
          obtain ⟨n49, f50, e51, e52, k⟩ := k
          refine jr_iald dX11_household_74 e51 e52 ?_
          exact jr_iret (ty := .int) rfl rfl dX11_household_75 k
        · have k := k.2 c6_3
          refine jr_tableOut (tgt := 76) dX11_household_6 ?_ (by decide) ?_
          · have d6_0 := j_ne c6_0 (z := 0) (by decide)
            have d6_1 := j_ne c6_1 (z := 1) (by decide)
            have d6_2 := j_ne c6_2 (z := 2) (by decide)
            have d6_3 := j_ne c6_3 (z := 3) (by decide)
            omega
          · exact jr_throw rfl jt_X11_152 rfl k.1 (fun hg9 => ⟨_, (hg9.2.2.2.2.2.2.2.1 5 _ rfl).1⟩) dX11_household_76 dX11_household_79 dX11_household_80 dX11_household_82 dX11_household_85 (Nat.le_of_ble_eq_true rfl) k.2
set_option maxRecDepth 20000 in
theorem bX11_pays_0 {g : jG} {d : Nat} {hs : jH} {P : jO → jH → Prop} {x0 : Nat} {x1 : Int32} {h : jH} (k : ∃ fs3 : List Value, h.1 x0 = some (.inr (11, fs3)) ∧ Con g mX11_checkHouse d [.ref x0, .int x1] h (jPv (fun (h2 : jH) => ∃ fs7 : List Value, h2.1 x0 = some (.inr (11, fs7)) ∧ Con g mX11_checkNotGone d [.ref x0, .int x1] h2 (jPv (fun (h6 : jH) => ∃ fs9 : List Value, h6.1 x0 = some (.inr (11, fs9)) ∧ ∃ v12 : Nat, fs9[10]? = some (.ref v12) ∧ ∃ fs13 : List Value, h6.1 x0 = some (.inr (11, fs13)) ∧ ∃ v16 : Nat, fs13[5]? = some (.ref v16) ∧ ∃ fs17 : List Value, h6.1 x0 = some (.inr (11, fs17)) ∧ ∃ v20 : Nat, fs17[6]? = some (.ref v20) ∧ ∃ fs21 : List Value, h6.1 x0 = some (.inr (11, fs21)) ∧ ∃ v24 : Nat, fs21[6]? = some (.ref v24) ∧ ∃ fs25 : List Value, h6.1 v24 = some (.inr (6, fs25)) ∧ ∃ v28 : Nat, fs25[5]? = some (.ref v28) ∧ ∃ (n29 : Nat) (f30 : Nat → Int32), h6.1 v28 = some (.inl (0, (n29, .inl f30))) ∧ vp_in x1 n29 ∧ ∃ fs33 : List Value, h6.1 x0 = some (.inr (11, fs33)) ∧ ∃ v36 : Nat, fs33[6]? = some (.ref v36) ∧ ∃ fs37 : List Value, h6.1 v36 = some (.inr (6, fs37)) ∧ ∃ v40 : Nat, fs37[7]? = some (.ref v40) ∧ ∃ (n41 : Nat) (f42 : Nat → Int32), h6.1 v40 = some (.inl (0, (n41, .inl f42))) ∧ vp_in x1 n41 ∧ ∃ fs47 : List Value, h6.1 v12 = some (.inr (0, fs47)) ∧ Con g mX0_payment d [.ref v12, .ref v16, .ref v20, .int x1, .int (f30 x1.toNatClampNeg), .int (f42 x1.toNatClampNeg)] h6 (jPi (fun (r45 : Int32) (h46 : jH) => P (.inl (some (.int r45))) h46) (fun E h' => P (.inr E) h'))) (fun E h' => P (.inr E) h'))) (fun E h' => P (.inr E) h'))) : J g mX11_pays (d + 1) hs P 0 [(0, .ref x0), (1, .int x1)] [] h := by
  refine jr_aload_n 0 dX11_pays_0 rfl rfl ?_
  refine jr_iload_n 1 dX11_pays_1 rfl rfl ?_
  obtain ⟨fs3, e4, k⟩ := k
  refine jr_cVv (As := [.int x1]) jl_X11_121 km_X11_checkHouse rfl rfl dX11_pays_2 e4 (Nat.le_of_ble_eq_true rfl) k (fun h2 k => ?_)
  refine jr_aload_n 0 dX11_pays_5 rfl rfl ?_
  refine jr_iload_n 1 dX11_pays_6 rfl rfl ?_
  obtain ⟨fs7, e8, k⟩ := k
  refine jr_cVv (As := [.int x1]) jl_X11_154 km_X11_checkNotGone rfl rfl dX11_pays_7 e8 (Nat.le_of_ble_eq_true rfl) k (fun h6 k => ?_)
  refine jr_aload_n 0 dX11_pays_10 rfl rfl ?_
  obtain ⟨fs9, e10, v12, e11, k⟩ := k
  refine jr_get jf_X11_62 dX11_pays_11 e10 e11 ?_
  refine jr_aload_n 0 dX11_pays_14 rfl rfl ?_
  obtain ⟨fs13, e14, v16, e15, k⟩ := k
  refine jr_get jf_X11_20 dX11_pays_15 e14 e15 ?_
  refine jr_aload_n 0 dX11_pays_18 rfl rfl ?_
  obtain ⟨fs17, e18, v20, e19, k⟩ := k
  refine jr_get jf_X11_34 dX11_pays_19 e18 e19 ?_
  refine jr_iload_n 1 dX11_pays_22 rfl rfl ?_
  refine jr_aload_n 0 dX11_pays_23 rfl rfl ?_
  obtain ⟨fs21, e22, v24, e23, k⟩ := k
  refine jr_get jf_X11_34 dX11_pays_24 e22 e23 ?_
  obtain ⟨fs25, e26, v28, e27, k⟩ := k
  refine jr_get jf_X11_146 dX11_pays_27 e26 e27 ?_
  refine jr_iload_n 1 dX11_pays_30 rfl rfl ?_
  obtain ⟨n29, f30, e31, e32, k⟩ := k
  refine jr_iald dX11_pays_31 e31 e32 ?_
  refine jr_aload_n 0 dX11_pays_32 rfl rfl ?_
  obtain ⟨fs33, e34, v36, e35, k⟩ := k
  refine jr_get jf_X11_34 dX11_pays_33 e34 e35 ?_
  obtain ⟨fs37, e38, v40, e39, k⟩ := k
  refine jr_get jf_X11_124 dX11_pays_36 e38 e39 ?_
  refine jr_iload_n 1 dX11_pays_39 rfl rfl ?_
  obtain ⟨n41, f42, e43, e44, k⟩ := k
  refine jr_iald dX11_pays_40 e43 e44 ?_
  obtain ⟨fs47, e48, k⟩ := k
  refine jr_cVi (As := [.ref v16, .ref v20, .int x1, .int (f30 x1.toNatClampNeg), .int (f42 x1.toNatClampNeg)]) jl_X11_157 km_X0_payment rfl rfl dX11_pays_41 e48 (Nat.le_of_ble_eq_true rfl) k (fun r45 h46 k => ?_)
  exact jr_iret (ty := .int) rfl rfl dX11_pays_44 k
set_option maxRecDepth 20000 in
theorem bX11_grows_0 {g : jG} {d : Nat} {hs : jH} {P : jO → jH → Prop} {x0 : Nat} {x1 : Int32} {x2 : Int32} {h : jH} (k : ∃ fs3 : List Value, h.1 x0 = some (.inr (11, fs3)) ∧ Con g mX11_checkHouse d [.ref x0, .int x1] h (jPv (fun (h2 : jH) => ∃ fs7 : List Value, h2.1 x0 = some (.inr (11, fs7)) ∧ Con g mX11_checkWithin d [.ref x0, .int x2, .int 0, .int 999999] h2 (jPv (fun (h6 : jH) => ∃ fs9 : List Value, h6.1 x0 = some (.inr (11, fs9)) ∧ ∃ v12 : Nat, fs9[10]? = some (.ref v12) ∧ ∃ fs13 : List Value, h6.1 x0 = some (.inr (11, fs13)) ∧ ∃ v16 : Nat, fs13[5]? = some (.ref v16) ∧ ∃ fs17 : List Value, h6.1 x0 = some (.inr (11, fs17)) ∧ ∃ v20 : Nat, fs17[6]? = some (.ref v20) ∧ ∃ fs23 : List Value, h6.1 v12 = some (.inr (0, fs23)) ∧ Con g mX0_growth d [.ref v12, .ref v16, .ref v20, .int x1, .int x2] h6 (jPi (fun (r21 : Int32) (h22 : jH) => P (.inl (some (.int r21))) h22) (fun E h' => P (.inr E) h'))) (fun E h' => P (.inr E) h'))) (fun E h' => P (.inr E) h'))) : J g mX11_grows (d + 1) hs P 0 [(0, .ref x0), (1, .int x1), (2, .int x2)] [] h := by
  refine jr_aload_n 0 dX11_grows_0 rfl rfl ?_
  refine jr_iload_n 1 dX11_grows_1 rfl rfl ?_
  obtain ⟨fs3, e4, k⟩ := k
  refine jr_cVv (As := [.int x1]) jl_X11_121 km_X11_checkHouse rfl rfl dX11_grows_2 e4 (Nat.le_of_ble_eq_true rfl) k (fun h2 k => ?_)
  refine jr_aload_n 0 dX11_grows_5 rfl rfl ?_
  refine jr_iload_n 2 dX11_grows_6 rfl rfl ?_
  refine jr_iconst (v := 0) dX11_grows_7 (by decide) ?_
  refine jr_ldc (v := 999999) jk_X11_161 dX11_grows_8 ?_
  obtain ⟨fs7, e8, k⟩ := k
  refine jr_cVv (As := [.int x2, .int 0, .int 999999]) jl_X11_162 km_X11_checkWithin rfl rfl dX11_grows_10 e8 (Nat.le_of_ble_eq_true rfl) k (fun h6 k => ?_)
  refine jr_aload_n 0 dX11_grows_13 rfl rfl ?_
  obtain ⟨fs9, e10, v12, e11, k⟩ := k
  refine jr_get jf_X11_62 dX11_grows_14 e10 e11 ?_
  refine jr_aload_n 0 dX11_grows_17 rfl rfl ?_
  obtain ⟨fs13, e14, v16, e15, k⟩ := k
  refine jr_get jf_X11_20 dX11_grows_18 e14 e15 ?_
  refine jr_aload_n 0 dX11_grows_21 rfl rfl ?_
  obtain ⟨fs17, e18, v20, e19, k⟩ := k
  refine jr_get jf_X11_34 dX11_grows_22 e18 e19 ?_
  refine jr_iload_n 1 dX11_grows_25 rfl rfl ?_
  refine jr_iload_n 2 dX11_grows_26 rfl rfl ?_
  obtain ⟨fs23, e24, k⟩ := k
  refine jr_cVi (As := [.ref v16, .ref v20, .int x1, .int x2]) jl_X11_166 km_X0_growth rfl rfl dX11_grows_27 e24 (Nat.le_of_ble_eq_true rfl) k (fun r21 h22 k => ?_)
  exact jr_iret (ty := .int) rfl rfl dX11_grows_30 k
set_option maxRecDepth 20000 in
theorem bX11_takes_0 {g : jG} {d : Nat} {hs : jH} {P : jO → jH → Prop} {x0 : Nat} {x1 : Int32} {x2 : Int32} {h : jH} (k : ∃ fs3 : List Value, h.1 x0 = some (.inr (11, fs3)) ∧ Con g mX11_checkHouse d [.ref x0, .int x1] h (jPv (fun (h2 : jH) => ∃ fs7 : List Value, h2.1 x0 = some (.inr (11, fs7)) ∧ Con g mX11_checkWithin d [.ref x0, .int x2, .int 0, .int 999999] h2 (jPv (fun (h6 : jH) => ∃ fs9 : List Value, h6.1 x0 = some (.inr (11, fs9)) ∧ ∃ v12 : Nat, fs9[10]? = some (.ref v12) ∧ ∃ fs13 : List Value, h6.1 x0 = some (.inr (11, fs13)) ∧ ∃ v16 : Nat, fs13[5]? = some (.ref v16) ∧ ∃ fs17 : List Value, h6.1 x0 = some (.inr (11, fs17)) ∧ ∃ v20 : Nat, fs17[6]? = some (.ref v20) ∧ ∃ fs23 : List Value, h6.1 v12 = some (.inr (0, fs23)) ∧ Con g mX0_taking d [.ref v12, .ref v16, .ref v20, .int x1, .int x2] h6 (jPi (fun (r21 : Int32) (h22 : jH) => (r21 = 0 ∨ r21 = 1) ∧ P (.inl (some (.int r21))) h22) (fun E h' => P (.inr E) h'))) (fun E h' => P (.inr E) h'))) (fun E h' => P (.inr E) h'))) : J g mX11_takes (d + 1) hs P 0 [(0, .ref x0), (1, .int x1), (2, .int x2)] [] h := by
  refine jr_aload_n 0 dX11_takes_0 rfl rfl ?_
  refine jr_iload_n 1 dX11_takes_1 rfl rfl ?_
  obtain ⟨fs3, e4, k⟩ := k
  refine jr_cVv (As := [.int x1]) jl_X11_121 km_X11_checkHouse rfl rfl dX11_takes_2 e4 (Nat.le_of_ble_eq_true rfl) k (fun h2 k => ?_)
  refine jr_aload_n 0 dX11_takes_5 rfl rfl ?_
  refine jr_iload_n 2 dX11_takes_6 rfl rfl ?_
  refine jr_iconst (v := 0) dX11_takes_7 (by decide) ?_
  refine jr_ldc (v := 999999) jk_X11_161 dX11_takes_8 ?_
  obtain ⟨fs7, e8, k⟩ := k
  refine jr_cVv (As := [.int x2, .int 0, .int 999999]) jl_X11_162 km_X11_checkWithin rfl rfl dX11_takes_10 e8 (Nat.le_of_ble_eq_true rfl) k (fun h6 k => ?_)
  refine jr_aload_n 0 dX11_takes_13 rfl rfl ?_
  obtain ⟨fs9, e10, v12, e11, k⟩ := k
  refine jr_get jf_X11_62 dX11_takes_14 e10 e11 ?_
  refine jr_aload_n 0 dX11_takes_17 rfl rfl ?_
  obtain ⟨fs13, e14, v16, e15, k⟩ := k
  refine jr_get jf_X11_20 dX11_takes_18 e14 e15 ?_
  refine jr_aload_n 0 dX11_takes_21 rfl rfl ?_
  obtain ⟨fs17, e18, v20, e19, k⟩ := k
  refine jr_get jf_X11_34 dX11_takes_22 e18 e19 ?_
  refine jr_iload_n 1 dX11_takes_25 rfl rfl ?_
  refine jr_iload_n 2 dX11_takes_26 rfl rfl ?_
  obtain ⟨fs23, e24, k⟩ := k
  refine jr_cVi (As := [.ref v16, .ref v20, .int x1, .int x2]) jl_X11_170 km_X0_taking rfl rfl dX11_takes_27 e24 (Nat.le_of_ble_eq_true rfl) k (fun r21 h22 k => ?_)
  exact jr_iret (ty := .boolean) rfl (jz_n k.1) dX11_takes_30 k.2
set_option maxRecDepth 20000 in
theorem bX11_checkHouse_0 {g : jG} {d : Nat} {hs : jH} {P : jO → jH → Prop} {x0 : Nat} {x1 : Int32} {h : jH} (k : ∃ fs1 : List Value, h.1 x0 = some (.inr (11, fs1)) ∧ ∃ v4 : Nat, fs1[6]? = some (.ref v4) ∧ ∃ fs7 : List Value, h.1 v4 = some (.inr (6, fs7)) ∧ Con g mX6_has d [.ref v4, .int x1] h (jPi (fun (r5 : Int32) (h6 : jH) => (r5 = 0 → jthr g h6 "java/util/NoSuchElementException" P) ∧ (¬ r5 = 0 → P (.inl none) h6)) (fun E h' => P (.inr E) h'))) : J g mX11_checkHouse (d + 1) hs P 0 [(0, .ref x0), (1, .int x1)] [] h := by
  refine jr_aload_n 0 dX11_checkHouse_0 rfl rfl ?_
  obtain ⟨fs1, e2, v4, e3, k⟩ := k
  refine jr_get jf_X11_34 dX11_checkHouse_1 e2 e3 ?_
  refine jr_iload_n 1 dX11_checkHouse_4 rfl rfl ?_
  obtain ⟨fs7, e8, k⟩ := k
  refine jr_cVi (As := [.int x1]) jl_X11_174 km_X6_has rfl rfl dX11_checkHouse_5 e8 (Nat.le_of_ble_eq_true rfl) k (fun r5 h6 k => ?_)
  refine jr_if_ne (tgt := 21) dX11_checkHouse_8 (by decide) (fun c8 => ?_) (fun c8 => ?_)
  · have k := k.2 c8
    exact jr_vret rfl dX11_checkHouse_21 k
  · have k := k.1 c8
    exact jr_throwX rfl jt_X11_180 rfl k.1 (fun hg9 => ⟨_, (hg9.2.2.2.2.2.2.2.1 3 _ rfl).1⟩) dX11_checkHouse_11 dX11_checkHouse_14 dX11_checkHouse_15 dX11_checkHouse_17 dX11_checkHouse_20 (Nat.le_of_ble_eq_true rfl) k.2
set_option maxRecDepth 20000 in
theorem bX11_checkNotGone_0 {g : jG} {d : Nat} {hs : jH} {P : jO → jH → Prop} {x0 : Nat} {x1 : Int32} {h : jH} (k : ∃ fs1 : List Value, h.1 x0 = some (.inr (11, fs1)) ∧ ∃ v4 : Nat, fs1[6]? = some (.ref v4) ∧ ∃ fs7 : List Value, h.1 v4 = some (.inr (6, fs7)) ∧ Con g mX6_isGone d [.ref v4, .int x1] h (jPi (fun (r5 : Int32) (h6 : jH) => (r5 = 0 → P (.inl none) h6) ∧ (¬ r5 = 0 → jthr g h6 "java/lang/IllegalStateException" P)) (fun E h' => P (.inr E) h'))) : J g mX11_checkNotGone (d + 1) hs P 0 [(0, .ref x0), (1, .int x1)] [] h := by
  refine jr_aload_n 0 dX11_checkNotGone_0 rfl rfl ?_
  obtain ⟨fs1, e2, v4, e3, k⟩ := k
  refine jr_get jf_X11_34 dX11_checkNotGone_1 e2 e3 ?_
  refine jr_iload_n 1 dX11_checkNotGone_4 rfl rfl ?_
  obtain ⟨fs7, e8, k⟩ := k
  refine jr_cVi (As := [.int x1]) jl_X11_183 km_X6_isGone rfl rfl dX11_checkNotGone_5 e8 (Nat.le_of_ble_eq_true rfl) k (fun r5 h6 k => ?_)
  refine jr_if_eq (tgt := 21) dX11_checkNotGone_8 (by decide) (fun c8 => ?_) (fun c8 => ?_)
  · have k := k.1 c8
    exact jr_vret rfl dX11_checkNotGone_21 k
  · have k := k.2 c8
    exact jr_throw rfl jt_X11_188 rfl k.1 (fun hg9 => ⟨_, (hg9.2.2.2.2.2.2.2.1 6 _ rfl).1⟩) dX11_checkNotGone_11 dX11_checkNotGone_14 dX11_checkNotGone_15 dX11_checkNotGone_17 dX11_checkNotGone_20 (Nat.le_of_ble_eq_true rfl) k.2
set_option maxRecDepth 20000 in
theorem bX11_checkWithin_0 {g : jG} {d : Nat} {hs : jH} {P : jO → jH → Prop} {x0 : Nat} {x1 : Int32} {x2 : Int32} {x3 : Int32} {h : jH} (k : (x1 < x2 → J g mX11_checkWithin (d + 1) hs P 10 [] [] h) ∧ (¬ x1 < x2 → (x3 < x1 → J g mX11_checkWithin (d + 1) hs P 10 [] [] h) ∧ (¬ x3 < x1 → P (.inl none) h))) : J g mX11_checkWithin (d + 1) hs P 0 [(0, .ref x0), (1, .int x1), (2, .int x2), (3, .int x3)] [] h := by
  refine jr_iload_n 1 dX11_checkWithin_0 rfl rfl ?_
  refine jr_iload_n 2 dX11_checkWithin_1 rfl rfl ?_
  refine jr_icmp_lt (tgt := 10) dX11_checkWithin_2 (by decide) (fun c2 => ?_) (fun c2 => ?_)
  · have k := k.1 c2
    exact jr_sub [] rfl k
  · have k := k.2 c2
    refine jr_iload_n 1 dX11_checkWithin_5 rfl rfl ?_
    refine jr_iload_n 3 dX11_checkWithin_6 rfl rfl ?_
    refine jr_icmp_le (tgt := 20) dX11_checkWithin_7 (by decide) (fun c7 => ?_) (fun c7 => ?_)
    · have k := k.2 c7
      exact jr_vret rfl dX11_checkWithin_20 k
    · have k := k.1 c7
      exact jr_sub [] rfl k
set_option maxRecDepth 20000 in
theorem bX11_checkWithin_10 {g : jG} {d : Nat} {hs : jH} {P : jO → jH → Prop}  {h : jH} (k : jthr g h "java/lang/IllegalArgumentException" P) : J g mX11_checkWithin (d + 1) hs P 10 [] [] h := by
  exact jr_throw rfl jt_X11_191 rfl k.1 (fun hg9 => ⟨_, (hg9.2.2.2.2.2.2.2.1 7 _ rfl).1⟩) dX11_checkWithin_10 dX11_checkWithin_13 dX11_checkWithin_14 dX11_checkWithin_16 dX11_checkWithin_19 (Nat.le_of_ble_eq_true rfl) k.2
set_option maxRecDepth 20000 in
theorem bX11_swap_0 {g : jG} {d : Nat} {hs : jH} {P : jO → jH → Prop} {x0 : Nat} {x1 : Int32} {x2 : Int32} {h : jH} (k : ∃ fs1 : List Value, h.1 x0 = some (.inr (11, fs1)) ∧ ∃ v4 : Nat, fs1[6]? = some (.ref v4) ∧ ∃ fs7 : List Value, h.1 v4 = some (.inr (6, fs7)) ∧ Con g mX6_whyNoSwap d [.ref v4, .int x1, .int x2] h (jPi (fun (r5 : Int32) (h6 : jH) => (r5 = 0 → ∃ fs9 : List Value, h6.1 x0 = some (.inr (11, fs9)) ∧ ∃ v12 : Nat, fs9[7]? = some (.ref v12) ∧ ∃ fs13 : List Value, h6.1 x0 = some (.inr (11, fs13)) ∧ ∃ v16 : Nat, fs13[6]? = some (.ref v16) ∧ ∃ fs19 : List Value, h6.1 v12 = some (.inr (2, fs19)) ∧ Con g mX2_remember d [.ref v12, .ref v16] h6 (jPv (fun (h18 : jH) => ∃ fs21 : List Value, h18.1 x0 = some (.inr (11, fs21)) ∧ ∃ v24 : Nat, fs21[6]? = some (.ref v24) ∧ ∃ fs27 : List Value, h18.1 v24 = some (.inr (6, fs27)) ∧ Con g mX6_exchange d [.ref v24, .int x1, .int x2] h18 (jPv (fun (h26 : jH) => ∃ fs29 : List Value, h26.1 x0 = some (.inr (11, fs29)) ∧ ∃ v32 : Nat, fs29[6]? = some (.ref v32) ∧ ∃ fs33 : List Value, h26.1 v32 = some (.inr (6, fs33)) ∧ ∃ v36 : Nat, fs33[7]? = some (.ref v36) ∧ ∃ (n37 : Nat) (f38 : Nat → Int32), h26.1 v36 = some (.inl (0, (n37, .inl f38))) ∧ vp_in x1 n37 ∧ ∃ fs41 : List Value, h26.1 x0 = some (.inr (11, fs41)) ∧ ∃ v44 : Nat, fs41[6]? = some (.ref v44) ∧ ∃ fs45 : List Value, h26.1 v44 = some (.inr (6, fs45)) ∧ ∃ v48 : Nat, fs45[7]? = some (.ref v48) ∧ ∃ (n49 : Nat) (f50 : Nat → Int32), h26.1 v48 = some (.inl (0, (n49, .inl f50))) ∧ vp_in x2 n49 ∧ P (.inl (some (.int (((f38 x1.toNatClampNeg) + (f50 x2.toNatClampNeg)))))) h26) (fun E h' => P (.inr E) h'))) (fun E h' => P (.inr E) h'))) ∧ (¬ r5 = 0 → P (.inl (some (.int ((-r5))))) h6)) (fun E h' => P (.inr E) h'))) : J g mX11_swap (d + 1) hs P 0 [(0, .ref x0), (1, .int x1), (2, .int x2)] [] h := by
  refine jr_aload_n 0 dX11_swap_0 rfl rfl ?_
  obtain ⟨fs1, e2, v4, e3, k⟩ := k
  refine jr_get jf_X11_34 dX11_swap_1 e2 e3 ?_
  refine jr_iload_n 1 dX11_swap_4 rfl rfl ?_
  refine jr_iload_n 2 dX11_swap_5 rfl rfl ?_
  obtain ⟨fs7, e8, k⟩ := k
  refine jr_cVi (As := [.int x1, .int x2]) jl_X11_193 km_X6_whyNoSwap rfl rfl dX11_swap_6 e8 (Nat.le_of_ble_eq_true rfl) k (fun r5 h6 k => ?_)
  refine jr_istore_n (lv' := [(3, .int r5), (0, .ref x0), (1, .int x1), (2, .int x2)]) dX11_swap_9 rfl (by decide) rfl ?_
  refine jr_iload_n 0 dX11_swap_10 rfl rfl ?_
  refine jr_if_eq (tgt := 17) dX11_swap_11 (by decide) (fun c11 => ?_) (fun c11 => ?_)
  · have k := k.1 c11
    refine jr_aload_n 1 dX11_swap_17 rfl rfl ?_
    obtain ⟨fs9, e10, v12, e11, k⟩ := k
    refine jr_get jf_X11_41 dX11_swap_18 e10 e11 ?_
    refine jr_aload_n 1 dX11_swap_21 rfl rfl ?_
    obtain ⟨fs13, e14, v16, e15, k⟩ := k
    refine jr_get jf_X11_34 dX11_swap_22 e14 e15 ?_
    obtain ⟨fs19, e20, k⟩ := k
    refine jr_cVv (As := [.ref v16]) jl_X11_196 km_X2_remember rfl rfl dX11_swap_25 e20 (Nat.le_of_ble_eq_true rfl) k (fun h18 k => ?_)
    refine jr_aload_n 1 dX11_swap_28 rfl rfl ?_
    obtain ⟨fs21, e22, v24, e23, k⟩ := k
    refine jr_get jf_X11_34 dX11_swap_29 e22 e23 ?_
    refine jr_iload_n 2 dX11_swap_32 rfl rfl ?_
    refine jr_iload_n 3 dX11_swap_33 rfl rfl ?_
    obtain ⟨fs27, e28, k⟩ := k
    refine jr_cVv (As := [.int x1, .int x2]) jl_X11_199 km_X6_exchange rfl rfl dX11_swap_34 e28 (Nat.le_of_ble_eq_true rfl) k (fun h26 k => ?_)
    refine jr_aload_n 1 dX11_swap_37 rfl rfl ?_
    obtain ⟨fs29, e30, v32, e31, k⟩ := k
    refine jr_get jf_X11_34 dX11_swap_38 e30 e31 ?_
    obtain ⟨fs33, e34, v36, e35, k⟩ := k
    refine jr_get jf_X11_124 dX11_swap_41 e34 e35 ?_
    refine jr_iload_n 2 dX11_swap_44 rfl rfl ?_
    obtain ⟨n37, f38, e39, e40, k⟩ := k
    refine jr_iald dX11_swap_45 e39 e40 ?_
    refine jr_aload_n 1 dX11_swap_46 rfl rfl ?_
    obtain ⟨fs41, e42, v44, e43, k⟩ := k
    refine jr_get jf_X11_34 dX11_swap_47 e42 e43 ?_
    obtain ⟨fs45, e46, v48, e47, k⟩ := k
    refine jr_get jf_X11_124 dX11_swap_50 e46 e47 ?_
    refine jr_iload_n 3 dX11_swap_53 rfl rfl ?_
    obtain ⟨n49, f50, e51, e52, k⟩ := k
    refine jr_iald dX11_swap_54 e51 e52 ?_
    refine jr_iadd dX11_swap_55 ?_
    exact jr_iret (ty := .int) rfl rfl dX11_swap_56 k
  · have k := k.2 c11
    refine jr_iload_n 0 dX11_swap_14 rfl rfl ?_
    refine jr_ineg dX11_swap_15 ?_
    exact jr_iret (ty := .int) rfl rfl dX11_swap_16 k
set_option maxRecDepth 20000 in
theorem bX11_gift_0 {g : jG} {d : Nat} {hs : jH} {P : jO → jH → Prop} {x0 : Nat} {x1 : Int32} {x2 : Int32} {x3 : Int32} {h : jH} (k : (x3 < 1 → J g mX11_gift (d + 1) hs P 12 [(0, .ref x0), (1, .int x1), (2, .int x2), (3, .int x3)] [] h) ∧ (¬ x3 < 1 → (999 < x3 → J g mX11_gift (d + 1) hs P 12 [(0, .ref x0), (1, .int x1), (2, .int x2), (3, .int x3)] [] h) ∧ (¬ 999 < x3 → ∃ fs1 : List Value, h.1 x0 = some (.inr (11, fs1)) ∧ ∃ v4 : Nat, fs1[6]? = some (.ref v4) ∧ ∃ fs7 : List Value, h.1 v4 = some (.inr (6, fs7)) ∧ Con g mX6_whyNoGift d [.ref v4, .int x1, .int x2, .int x3] h (jPi (fun (r5 : Int32) (h6 : jH) => J g mX11_gift (d + 1) hs P 26 [(0, .ref x0), (1, .int x1), (2, .int x2), (3, .int x3)] [.int r5] h6) (fun E h' => P (.inr E) h'))))) : J g mX11_gift (d + 1) hs P 0 [(0, .ref x0), (1, .int x1), (2, .int x2), (3, .int x3)] [] h := by
  refine jr_iload_n 3 dX11_gift_0 rfl rfl ?_
  refine jr_iconst (v := 1) dX11_gift_1 (by decide) ?_
  refine jr_icmp_lt (tgt := 12) dX11_gift_2 (by decide) (fun c2 => ?_) (fun c2 => ?_)
  · have k := k.1 c2
    exact jr_sub [0, 1, 2, 3] rfl k
  · have k := k.2 c2
    refine jr_iload_n 3 dX11_gift_5 rfl rfl ?_
    refine jr_sipush (v := 999) dX11_gift_6 (by decide) ?_
    refine jr_icmp_le (tgt := 16) dX11_gift_9 (by decide) (fun c9 => ?_) (fun c9 => ?_)
    · have k := k.2 c9
      refine jr_aload_n 0 dX11_gift_16 rfl rfl ?_
      obtain ⟨fs1, e2, v4, e3, k⟩ := k
      refine jr_get jf_X11_34 dX11_gift_17 e2 e3 ?_
      refine jr_iload_n 1 dX11_gift_20 rfl rfl ?_
      refine jr_iload_n 2 dX11_gift_21 rfl rfl ?_
      refine jr_iload_n 3 dX11_gift_22 rfl rfl ?_
      obtain ⟨fs7, e8, k⟩ := k
      refine jr_cVi (As := [.int x1, .int x2, .int x3]) jl_X11_203 km_X6_whyNoGift rfl rfl dX11_gift_23 e8 (Nat.le_of_ble_eq_true rfl) k (fun r5 h6 k => ?_)
      exact jr_sub [0, 1, 2, 3] rfl k
    · have k := k.1 c9
      exact jr_sub [0, 1, 2, 3] rfl k
set_option maxRecDepth 20000 in
theorem bX11_gift_12 {g : jG} {d : Nat} {hs : jH} {P : jO → jH → Prop} {x0 : Nat} {x1 : Int32} {x2 : Int32} {x3 : Int32} {h : jH} (k : J g mX11_gift (d + 1) hs P 26 [(0, .ref x0), (1, .int x1), (2, .int x2), (3, .int x3)] [.int 1] h) : J g mX11_gift (d + 1) hs P 12 [(0, .ref x0), (1, .int x1), (2, .int x2), (3, .int x3)] [] h := by
  refine jr_iconst (v := 1) dX11_gift_12 (by decide) ?_
  refine jr_goto (tgt := 26) dX11_gift_13 (by decide) ?_
  exact jr_sub [0, 1, 2, 3] rfl k
set_option maxRecDepth 20000 in
theorem bX11_gift_26 {g : jG} {d : Nat} {hs : jH} {P : jO → jH → Prop} {x0 : Nat} {x1 : Int32} {x2 : Int32} {x3 : Int32} {s0 : Int32} {h : jH} (k : (s0 = 0 → ∃ fs1 : List Value, h.1 x0 = some (.inr (11, fs1)) ∧ ∃ v4 : Nat, fs1[7]? = some (.ref v4) ∧ ∃ fs5 : List Value, h.1 x0 = some (.inr (11, fs5)) ∧ ∃ v8 : Nat, fs5[6]? = some (.ref v8) ∧ ∃ fs11 : List Value, h.1 v4 = some (.inr (2, fs11)) ∧ Con g mX2_remember d [.ref v4, .ref v8] h (jPv (fun (h10 : jH) => ∃ fs13 : List Value, h10.1 x0 = some (.inr (11, fs13)) ∧ ∃ v16 : Nat, fs13[6]? = some (.ref v16) ∧ ∃ fs19 : List Value, h10.1 v16 = some (.inr (6, fs19)) ∧ Con g mX6_give d [.ref v16, .int x1, .int x2, .int x3] h10 (jPv (fun (h18 : jH) => ∃ fs21 : List Value, h18.1 x0 = some (.inr (11, fs21)) ∧ ∃ v24 : Nat, fs21[6]? = some (.ref v24) ∧ ∃ fs25 : List Value, h18.1 v24 = some (.inr (6, fs25)) ∧ ∃ v28 : Nat, fs25[5]? = some (.ref v28) ∧ ∃ (n29 : Nat) (f30 : Nat → Int32), h18.1 v28 = some (.inl (0, (n29, .inl f30))) ∧ vp_in x1 n29 ∧ P (.inl (some (.int ((f30 x1.toNatClampNeg))))) h18) (fun E h' => P (.inr E) h'))) (fun E h' => P (.inr E) h'))) ∧ (¬ s0 = 0 → P (.inl (some (.int ((-s0))))) h)) : J g mX11_gift (d + 1) hs P 26 [(0, .ref x0), (1, .int x1), (2, .int x2), (3, .int x3)] [.int s0] h := by
  refine jr_istore (lv' := [(4, .int s0), (0, .ref x0), (1, .int x1), (2, .int x2), (3, .int x3)]) dX11_gift_26 (by decide) rfl ?_
  refine jr_iload 0 dX11_gift_28 rfl ?_
  refine jr_if_eq (tgt := 37) dX11_gift_30 (by decide) (fun c30 => ?_) (fun c30 => ?_)
  · have k := k.1 c30
    refine jr_aload_n 1 dX11_gift_37 rfl rfl ?_
    obtain ⟨fs1, e2, v4, e3, k⟩ := k
    refine jr_get jf_X11_41 dX11_gift_38 e2 e3 ?_
    refine jr_aload_n 1 dX11_gift_41 rfl rfl ?_
    obtain ⟨fs5, e6, v8, e7, k⟩ := k
    refine jr_get jf_X11_34 dX11_gift_42 e6 e7 ?_
    obtain ⟨fs11, e12, k⟩ := k
    refine jr_cVv (As := [.ref v8]) jl_X11_196 km_X2_remember rfl rfl dX11_gift_45 e12 (Nat.le_of_ble_eq_true rfl) k (fun h10 k => ?_)
    refine jr_aload_n 1 dX11_gift_48 rfl rfl ?_
    obtain ⟨fs13, e14, v16, e15, k⟩ := k
    refine jr_get jf_X11_34 dX11_gift_49 e14 e15 ?_
    refine jr_iload_n 2 dX11_gift_52 rfl rfl ?_
    refine jr_iload_n 3 dX11_gift_53 rfl rfl ?_
    refine jr_iload_n 4 dX11_gift_54 rfl rfl ?_
    obtain ⟨fs19, e20, k⟩ := k
    refine jr_cVv (As := [.int x1, .int x2, .int x3]) jl_X11_207 km_X6_give rfl rfl dX11_gift_55 e20 (Nat.le_of_ble_eq_true rfl) k (fun h18 k => ?_)
    refine jr_aload_n 1 dX11_gift_58 rfl rfl ?_
    obtain ⟨fs21, e22, v24, e23, k⟩ := k
    refine jr_get jf_X11_34 dX11_gift_59 e22 e23 ?_
    obtain ⟨fs25, e26, v28, e27, k⟩ := k
    refine jr_get jf_X11_146 dX11_gift_62 e26 e27 ?_
    refine jr_iload_n 2 dX11_gift_65 rfl rfl ?_
    obtain ⟨n29, f30, e31, e32, k⟩ := k
    refine jr_iald dX11_gift_66 e31 e32 ?_
    exact jr_iret (ty := .int) rfl rfl dX11_gift_67 k
  · have k := k.2 c30
    refine jr_iload 0 dX11_gift_33 rfl ?_
    refine jr_ineg dX11_gift_35 ?_
    exact jr_iret (ty := .int) rfl rfl dX11_gift_36 k
set_option maxRecDepth 20000 in
theorem bX11_plant_0 {g : jG} {d : Nat} {hs : jH} {P : jO → jH → Prop} {x0 : Nat} {x1 : Int32} {x2 : Int32} {h : jH} (k : ∃ fs3 : List Value, h.1 x0 = some (.inr (11, fs3)) ∧ Con g mX11_checkHouse d [.ref x0, .int x1] h (jPv (fun (h2 : jH) => ∃ fs7 : List Value, h2.1 x0 = some (.inr (11, fs7)) ∧ Con g mX11_checkWithin d [.ref x0, .int x2, .int 0, .int 20] h2 (jPv (fun (h6 : jH) => ∃ fs9 : List Value, h6.1 x0 = some (.inr (11, fs9)) ∧ ∃ v12 : Nat, fs9[6]? = some (.ref v12) ∧ ∃ fs13 : List Value, h6.1 v12 = some (.inr (6, fs13)) ∧ ∃ v16 : Nat, fs13[8]? = some (.ref v16) ∧ ∃ (n17 : Nat) (f18 : Nat → Int32), h6.1 v16 = some (.inl (0, (n17, .inl f18))) ∧ vp_in x1 n17 ∧ ∃ fs21 : List Value, h6.1 x0 = some (.inr (11, fs21)) ∧ ∃ v24 : Nat, fs21[7]? = some (.ref v24) ∧ ∃ fs25 : List Value, h6.1 x0 = some (.inr (11, fs25)) ∧ ∃ v28 : Nat, fs25[6]? = some (.ref v28) ∧ ∃ fs31 : List Value, h6.1 v24 = some (.inr (2, fs31)) ∧ Con g mX2_remember d [.ref v24, .ref v28] h6 (jPv (fun (h30 : jH) => ∃ fs33 : List Value, h30.1 x0 = some (.inr (11, fs33)) ∧ ∃ v36 : Nat, fs33[6]? = some (.ref v36) ∧ ∃ fs37 : List Value, h30.1 v36 = some (.inr (6, fs37)) ∧ ∃ v40 : Nat, fs37[8]? = some (.ref v40) ∧ ∃ (n41 : Nat) (f42 : Nat → Int32), h30.1 v40 = some (.inl (0, (n41, .inl f42))) ∧ vp_in x1 n41 ∧ ∀ h45 : jH, h45 = jset h30 v40 (.inl (0, (n41, .inl (upd f42 x1.toNatClampNeg x2)))) → P (.inl (some (.int ((f18 x1.toNatClampNeg))))) h45) (fun E h' => P (.inr E) h'))) (fun E h' => P (.inr E) h'))) (fun E h' => P (.inr E) h'))) : J g mX11_plant (d + 1) hs P 0 [(0, .ref x0), (1, .int x1), (2, .int x2)] [] h := by
  refine jr_aload_n 0 dX11_plant_0 rfl rfl ?_
  refine jr_iload_n 1 dX11_plant_1 rfl rfl ?_
  obtain ⟨fs3, e4, k⟩ := k
  refine jr_cVv (As := [.int x1]) jl_X11_121 km_X11_checkHouse rfl rfl dX11_plant_2 e4 (Nat.le_of_ble_eq_true rfl) k (fun h2 k => ?_)
  refine jr_aload_n 0 dX11_plant_5 rfl rfl ?_
  refine jr_iload_n 2 dX11_plant_6 rfl rfl ?_
  refine jr_iconst (v := 0) dX11_plant_7 (by decide) ?_
  refine jr_bipush (v := 20) dX11_plant_8 (by decide) ?_
  obtain ⟨fs7, e8, k⟩ := k
  refine jr_cVv (As := [.int x2, .int 0, .int 20]) jl_X11_162 km_X11_checkWithin rfl rfl dX11_plant_10 e8 (Nat.le_of_ble_eq_true rfl) k (fun h6 k => ?_)
  refine jr_aload_n 0 dX11_plant_13 rfl rfl ?_
  obtain ⟨fs9, e10, v12, e11, k⟩ := k
  refine jr_get jf_X11_34 dX11_plant_14 e10 e11 ?_
  obtain ⟨fs13, e14, v16, e15, k⟩ := k
  refine jr_get jf_X11_128 dX11_plant_17 e14 e15 ?_
  refine jr_iload_n 1 dX11_plant_20 rfl rfl ?_
  obtain ⟨n17, f18, e19, e20, k⟩ := k
  refine jr_iald dX11_plant_21 e19 e20 ?_
  refine jr_istore_n (lv' := [(3, .int (f18 x1.toNatClampNeg)), (0, .ref x0), (1, .int x1), (2, .int x2)]) dX11_plant_22 rfl (by decide) rfl ?_
  refine jr_aload_n 1 dX11_plant_23 rfl rfl ?_
  obtain ⟨fs21, e22, v24, e23, k⟩ := k
  refine jr_get jf_X11_41 dX11_plant_24 e22 e23 ?_
  refine jr_aload_n 1 dX11_plant_27 rfl rfl ?_
  obtain ⟨fs25, e26, v28, e27, k⟩ := k
  refine jr_get jf_X11_34 dX11_plant_28 e26 e27 ?_
  obtain ⟨fs31, e32, k⟩ := k
  refine jr_cVv (As := [.ref v28]) jl_X11_196 km_X2_remember rfl rfl dX11_plant_31 e32 (Nat.le_of_ble_eq_true rfl) k (fun h30 k => ?_)
  refine jr_aload_n 1 dX11_plant_34 rfl rfl ?_
  obtain ⟨fs33, e34, v36, e35, k⟩ := k
  refine jr_get jf_X11_34 dX11_plant_35 e34 e35 ?_
  obtain ⟨fs37, e38, v40, e39, k⟩ := k
  refine jr_get jf_X11_128 dX11_plant_38 e38 e39 ?_
  refine jr_iload_n 2 dX11_plant_41 rfl rfl ?_
  refine jr_iload_n 3 dX11_plant_42 rfl rfl ?_
  obtain ⟨n41, f42, e43, e44, k⟩ := k
  refine jr_iastE dX11_plant_43 e43 e44 (fun h45 eh46 => ?_)
  have k := k h45 eh46
  refine jr_iload_n 0 dX11_plant_44 rfl rfl ?_
  exact jr_iret (ty := .int) rfl rfl dX11_plant_45 k
set_option maxRecDepth 20000 in
theorem bX11_payOff_0 {g : jG} {d : Nat} {hs : jH} {P : jO → jH → Prop} {x0 : Nat} {x1 : Int32} {x2 : Int32} {h : jH} (k : (x2 < 1 → J g mX11_payOff (d + 1) hs P 12 [(0, .ref x0), (1, .int x1), (2, .int x2)] [] h) ∧ (¬ x2 < 1 → (999 < x2 → J g mX11_payOff (d + 1) hs P 12 [(0, .ref x0), (1, .int x1), (2, .int x2)] [] h) ∧ (¬ 999 < x2 → ∃ fs1 : List Value, h.1 x0 = some (.inr (11, fs1)) ∧ ∃ v4 : Nat, fs1[6]? = some (.ref v4) ∧ ∃ fs7 : List Value, h.1 v4 = some (.inr (6, fs7)) ∧ Con g mX6_whyNoPayOff d [.ref v4, .int x1] h (jPi (fun (r5 : Int32) (h6 : jH) => J g mX11_payOff (d + 1) hs P 24 [(0, .ref x0), (1, .int x1), (2, .int x2)] [.int r5] h6) (fun E h' => P (.inr E) h'))))) : J g mX11_payOff (d + 1) hs P 0 [(0, .ref x0), (1, .int x1), (2, .int x2)] [] h := by
  refine jr_iload_n 2 dX11_payOff_0 rfl rfl ?_
  refine jr_iconst (v := 1) dX11_payOff_1 (by decide) ?_
  refine jr_icmp_lt (tgt := 12) dX11_payOff_2 (by decide) (fun c2 => ?_) (fun c2 => ?_)
  · have k := k.1 c2
    exact jr_sub [0, 1, 2] rfl k
  · have k := k.2 c2
    refine jr_iload_n 2 dX11_payOff_5 rfl rfl ?_
    refine jr_sipush (v := 999) dX11_payOff_6 (by decide) ?_
    refine jr_icmp_le (tgt := 16) dX11_payOff_9 (by decide) (fun c9 => ?_) (fun c9 => ?_)
    · have k := k.2 c9
      refine jr_aload_n 0 dX11_payOff_16 rfl rfl ?_
      obtain ⟨fs1, e2, v4, e3, k⟩ := k
      refine jr_get jf_X11_34 dX11_payOff_17 e2 e3 ?_
      refine jr_iload_n 1 dX11_payOff_20 rfl rfl ?_
      obtain ⟨fs7, e8, k⟩ := k
      refine jr_cVi (As := [.int x1]) jl_X11_210 km_X6_whyNoPayOff rfl rfl dX11_payOff_21 e8 (Nat.le_of_ble_eq_true rfl) k (fun r5 h6 k => ?_)
      exact jr_sub [0, 1, 2] rfl k
    · have k := k.1 c9
      exact jr_sub [0, 1, 2] rfl k
set_option maxRecDepth 20000 in
theorem bX11_payOff_12 {g : jG} {d : Nat} {hs : jH} {P : jO → jH → Prop} {x0 : Nat} {x1 : Int32} {x2 : Int32} {h : jH} (k : J g mX11_payOff (d + 1) hs P 24 [(0, .ref x0), (1, .int x1), (2, .int x2)] [.int 1] h) : J g mX11_payOff (d + 1) hs P 12 [(0, .ref x0), (1, .int x1), (2, .int x2)] [] h := by
  refine jr_iconst (v := 1) dX11_payOff_12 (by decide) ?_
  refine jr_goto (tgt := 24) dX11_payOff_13 (by decide) ?_
  exact jr_sub [0, 1, 2] rfl k
set_option maxRecDepth 20000 in
theorem bX11_payOff_24 {g : jG} {d : Nat} {hs : jH} {P : jO → jH → Prop} {x0 : Nat} {x1 : Int32} {x2 : Int32} {s0 : Int32} {h : jH} (k : (s0 = 0 → ∃ fs1 : List Value, h.1 x0 = some (.inr (11, fs1)) ∧ ∃ v4 : Nat, fs1[7]? = some (.ref v4) ∧ ∃ fs5 : List Value, h.1 x0 = some (.inr (11, fs5)) ∧ ∃ v8 : Nat, fs5[6]? = some (.ref v8) ∧ ∃ fs11 : List Value, h.1 v4 = some (.inr (2, fs11)) ∧ Con g mX2_remember d [.ref v4, .ref v8] h (jPv (fun (h10 : jH) => ∃ fs13 : List Value, h10.1 x0 = some (.inr (11, fs13)) ∧ ∃ v16 : Nat, fs13[6]? = some (.ref v16) ∧ ∃ fs19 : List Value, h10.1 v16 = some (.inr (6, fs19)) ∧ Con g mX6_payBack d [.ref v16, .int x1, .int x2] h10 (jPi (fun (r17 : Int32) (h18 : jH) => P (.inl (some (.int r17))) h18) (fun E h' => P (.inr E) h'))) (fun E h' => P (.inr E) h'))) ∧ (¬ s0 = 0 → P (.inl (some (.int ((-s0))))) h)) : J g mX11_payOff (d + 1) hs P 24 [(0, .ref x0), (1, .int x1), (2, .int x2)] [.int s0] h := by
  refine jr_istore_n (lv' := [(3, .int s0), (0, .ref x0), (1, .int x1), (2, .int x2)]) dX11_payOff_24 rfl (by decide) rfl ?_
  refine jr_iload_n 0 dX11_payOff_25 rfl rfl ?_
  refine jr_if_eq (tgt := 32) dX11_payOff_26 (by decide) (fun c26 => ?_) (fun c26 => ?_)
  · have k := k.1 c26
    refine jr_aload_n 1 dX11_payOff_32 rfl rfl ?_
    obtain ⟨fs1, e2, v4, e3, k⟩ := k
    refine jr_get jf_X11_41 dX11_payOff_33 e2 e3 ?_
    refine jr_aload_n 1 dX11_payOff_36 rfl rfl ?_
    obtain ⟨fs5, e6, v8, e7, k⟩ := k
    refine jr_get jf_X11_34 dX11_payOff_37 e6 e7 ?_
    obtain ⟨fs11, e12, k⟩ := k
    refine jr_cVv (As := [.ref v8]) jl_X11_196 km_X2_remember rfl rfl dX11_payOff_40 e12 (Nat.le_of_ble_eq_true rfl) k (fun h10 k => ?_)
    refine jr_aload_n 1 dX11_payOff_43 rfl rfl ?_
    obtain ⟨fs13, e14, v16, e15, k⟩ := k
    refine jr_get jf_X11_34 dX11_payOff_44 e14 e15 ?_
    refine jr_iload_n 2 dX11_payOff_47 rfl rfl ?_
    refine jr_iload_n 3 dX11_payOff_48 rfl rfl ?_
    obtain ⟨fs19, e20, k⟩ := k
    refine jr_cVi (As := [.int x1, .int x2]) jl_X11_214 km_X6_payBack rfl rfl dX11_payOff_49 e20 (Nat.le_of_ble_eq_true rfl) k (fun r17 h18 k => ?_)
    exact jr_iret (ty := .int) rfl rfl dX11_payOff_52 k
  · have k := k.2 c26
    refine jr_iload_n 0 dX11_payOff_29 rfl rfl ?_
    refine jr_ineg dX11_payOff_30 ?_
    exact jr_iret (ty := .int) rfl rfl dX11_payOff_31 k
set_option maxRecDepth 20000 in
theorem bX11_quarters_0 {g : jG} {d : Nat} {hs : jH} {P : jO → jH → Prop} {x0 : Nat} {x1 : Int32} {h : jH} (k : ∃ fs3 : List Value, h.1 x0 = some (.inr (11, fs3)) ∧ Con g mX11_checkWithin d [.ref x0, .int x1, .int 1, .int 99] h (jPv (fun (h2 : jH) => ∃ fs5 : List Value, h2.1 x0 = some (.inr (11, fs5)) ∧ ∃ v8 : Nat, fs5[7]? = some (.ref v8) ∧ ∃ fs9 : List Value, h2.1 x0 = some (.inr (11, fs9)) ∧ ∃ v12 : Nat, fs9[6]? = some (.ref v12) ∧ ∃ fs15 : List Value, h2.1 v8 = some (.inr (2, fs15)) ∧ Con g mX2_remember d [.ref v8, .ref v12] h2 (jPv (fun (h14 : jH) => J g mX11_quarters (d + 1) hs P 23 [(0, .ref x0), (1, .int x1), (2, .int 0), (3, .int 0)] [] h14) (fun E h' => P (.inr E) h'))) (fun E h' => P (.inr E) h'))) : J g mX11_quarters (d + 1) hs P 0 [(0, .ref x0), (1, .int x1)] [] h := by
  refine jr_aload_n 0 dX11_quarters_0 rfl rfl ?_
  refine jr_iload_n 1 dX11_quarters_1 rfl rfl ?_
  refine jr_iconst (v := 1) dX11_quarters_2 (by decide) ?_
  refine jr_bipush (v := 99) dX11_quarters_3 (by decide) ?_
  obtain ⟨fs3, e4, k⟩ := k
  refine jr_cVv (As := [.int x1, .int 1, .int 99]) jl_X11_162 km_X11_checkWithin rfl rfl dX11_quarters_5 e4 (Nat.le_of_ble_eq_true rfl) k (fun h2 k => ?_)
  refine jr_aload_n 0 dX11_quarters_8 rfl rfl ?_
  obtain ⟨fs5, e6, v8, e7, k⟩ := k
  refine jr_get jf_X11_41 dX11_quarters_9 e6 e7 ?_
  refine jr_aload_n 0 dX11_quarters_12 rfl rfl ?_
  obtain ⟨fs9, e10, v12, e11, k⟩ := k
  refine jr_get jf_X11_34 dX11_quarters_13 e10 e11 ?_
  obtain ⟨fs15, e16, k⟩ := k
  refine jr_cVv (As := [.ref v12]) jl_X11_196 km_X2_remember rfl rfl dX11_quarters_16 e16 (Nat.le_of_ble_eq_true rfl) k (fun h14 k => ?_)
  refine jr_iconst (v := 0) dX11_quarters_19 (by decide) ?_
  refine jr_istore_n (lv' := [(2, .int 0), (0, .ref x0), (1, .int x1)]) dX11_quarters_20 rfl (by decide) rfl ?_
  refine jr_iconst (v := 0) dX11_quarters_21 (by decide) ?_
  refine jr_istore_n (lv' := [(3, .int 0), (2, .int 0), (0, .ref x0), (1, .int x1)]) dX11_quarters_22 rfl (by decide) rfl ?_
  exact jr_sub [2, 3, 1, 0] rfl k
set_option maxRecDepth 20000 in
theorem bX11_quarters_23 {g : jG} {d : Nat} {hs : jH} {P : jO → jH → Prop} {x0 : Nat} {x1 : Int32} {x2 : Int32} {x3 : Int32} {h : jH} (k : (x3 < x1 → ∃ fs1 : List Value, h.1 x0 = some (.inr (11, fs1)) ∧ ∃ v4 : Nat, fs1[10]? = some (.ref v4) ∧ ∃ fs5 : List Value, h.1 x0 = some (.inr (11, fs5)) ∧ ∃ v8 : Nat, fs5[5]? = some (.ref v8) ∧ ∃ fs9 : List Value, h.1 x0 = some (.inr (11, fs9)) ∧ ∃ v12 : Nat, fs9[6]? = some (.ref v12) ∧ ∃ fs13 : List Value, h.1 x0 = some (.inr (11, fs13)) ∧ ∃ v16 : Nat, fs13[5]? = some (.ref v16) ∧ ∃ fs17 : List Value, h.1 v16 = some (.inr (9, fs17)) ∧ ∃ v20 : Int32, fs17[3]? = some (.int v20) ∧ ∃ fs23 : List Value, h.1 v4 = some (.inr (0, fs23)) ∧ Con g mX0_pass d [.ref v4, .ref v8, .ref v12, .int v20] h (jPv (fun (h22 : jH) => ∃ fs25 : List Value, h22.1 x0 = some (.inr (11, fs25)) ∧ ∃ v28 : Nat, fs25[10]? = some (.ref v28) ∧ ∃ fs29 : List Value, h22.1 v28 = some (.inr (0, fs29)) ∧ ∃ v32 : Int32, fs29[2]? = some (.int v32) ∧ J g mX11_quarters (d + 1) hs P 23 [(0, .ref x0), (1, .int x1), (2, .int (x2 + v32)), (3, .int (x3 + 1))] [] h22) (fun E h' => P (.inr E) h'))) ∧ (¬ x3 < x1 → P (.inl (some (.int x2))) h)) : J g mX11_quarters (d + 1) hs P 23 [(0, .ref x0), (1, .int x1), (2, .int x2), (3, .int x3)] [] h := by
  refine jr_iload_n 3 dX11_quarters_23 rfl rfl ?_
  refine jr_iload_n 1 dX11_quarters_24 rfl rfl ?_
  refine jr_icmp_ge (tgt := 66) dX11_quarters_25 (by decide) (fun c25 => ?_) (fun c25 => ?_)
  · have k := k.2 c25
    refine jr_iload_n 2 dX11_quarters_66 rfl rfl ?_
    exact jr_iret (ty := .int) rfl rfl dX11_quarters_67 k
  · have k := k.1 c25
    refine jr_aload_n 0 dX11_quarters_28 rfl rfl ?_
    obtain ⟨fs1, e2, v4, e3, k⟩ := k
    refine jr_get jf_X11_62 dX11_quarters_29 e2 e3 ?_
    refine jr_aload_n 0 dX11_quarters_32 rfl rfl ?_
    obtain ⟨fs5, e6, v8, e7, k⟩ := k
    refine jr_get jf_X11_20 dX11_quarters_33 e6 e7 ?_
    refine jr_aload_n 0 dX11_quarters_36 rfl rfl ?_
    obtain ⟨fs9, e10, v12, e11, k⟩ := k
    refine jr_get jf_X11_34 dX11_quarters_37 e10 e11 ?_
    refine jr_aload_n 0 dX11_quarters_40 rfl rfl ?_
    obtain ⟨fs13, e14, v16, e15, k⟩ := k
    refine jr_get jf_X11_20 dX11_quarters_41 e14 e15 ?_
    obtain ⟨fs17, e18, v20, e19, k⟩ := k
    refine jr_get jf_X11_217 dX11_quarters_44 e18 e19 ?_
    obtain ⟨fs23, e24, k⟩ := k
    refine jr_cVv (As := [.ref v8, .ref v12, .int v20]) jl_X11_220 km_X0_pass rfl rfl dX11_quarters_47 e24 (Nat.le_of_ble_eq_true rfl) k (fun h22 k => ?_)
    refine jr_iload_n 2 dX11_quarters_50 rfl rfl ?_
    refine jr_aload_n 0 dX11_quarters_51 rfl rfl ?_
    obtain ⟨fs25, e26, v28, e27, k⟩ := k
    refine jr_get jf_X11_62 dX11_quarters_52 e26 e27 ?_
    obtain ⟨fs29, e30, v32, e31, k⟩ := k
    refine jr_get jf_X11_224 dX11_quarters_55 e30 e31 ?_
    refine jr_iadd dX11_quarters_58 ?_
    refine jr_istore_n (lv' := [(2, .int (x2 + v32)), (0, .ref x0), (1, .int x1), (3, .int x3)]) dX11_quarters_59 rfl (by decide) rfl ?_
    refine jr_iinc (v := (x3 + 1)) (lv' := [(3, .int (x3 + 1)), (2, .int (x2 + v32)), (0, .ref x0), (1, .int x1)]) 3 dX11_quarters_60 rfl rfl (by decide) rfl ?_
    refine jr_goto (tgt := 23) dX11_quarters_63 (by decide) ?_
    exact jr_sub [2, 3, 1, 0] rfl k
set_option maxRecDepth 20000 in
theorem bX11_undo_0 {g : jG} {d : Nat} {hs : jH} {P : jO → jH → Prop} {x0 : Nat} {x1 : Int32} {h : jH} (k : ∃ fs3 : List Value, h.1 x0 = some (.inr (11, fs3)) ∧ Con g mX11_checkWithin d [.ref x0, .int x1, .int 1, .int 10] h (jPv (fun (h2 : jH) => ∃ fs5 : List Value, h2.1 x0 = some (.inr (11, fs5)) ∧ ∃ v8 : Nat, fs5[7]? = some (.ref v8) ∧ ∃ fs9 : List Value, h2.1 v8 = some (.inr (2, fs9)) ∧ ∃ v12 : Int32, fs9[0]? = some (.int v12) ∧ (v12 < x1 → jthr g h2 "java/lang/IllegalArgumentException" P) ∧ (¬ v12 < x1 → ∃ fs13 : List Value, h2.1 x0 = some (.inr (11, fs13)) ∧ ∃ v16 : Nat, fs13[7]? = some (.ref v16) ∧ ∃ fs17 : List Value, h2.1 x0 = some (.inr (11, fs17)) ∧ ∃ v20 : Nat, fs17[6]? = some (.ref v20) ∧ ∃ fs23 : List Value, h2.1 v16 = some (.inr (2, fs23)) ∧ Con g mX2_goBack d [.ref v16, .int x1, .ref v20] h2 (jPv (fun (h22 : jH) => ∃ fs25 : List Value, h22.1 x0 = some (.inr (11, fs25)) ∧ ∃ v28 : Nat, fs25[7]? = some (.ref v28) ∧ ∃ fs29 : List Value, h22.1 v28 = some (.inr (2, fs29)) ∧ ∃ v32 : Int32, fs29[0]? = some (.int v32) ∧ P (.inl (some (.int v32))) h22) (fun E h' => P (.inr E) h')))) (fun E h' => P (.inr E) h'))) : J g mX11_undo (d + 1) hs P 0 [(0, .ref x0), (1, .int x1)] [] h := by
  refine jr_aload_n 0 dX11_undo_0 rfl rfl ?_
  refine jr_iload_n 1 dX11_undo_1 rfl rfl ?_
  refine jr_iconst (v := 1) dX11_undo_2 (by decide) ?_
  refine jr_bipush (v := 10) dX11_undo_3 (by decide) ?_
  obtain ⟨fs3, e4, k⟩ := k
  refine jr_cVv (As := [.int x1, .int 1, .int 10]) jl_X11_162 km_X11_checkWithin rfl rfl dX11_undo_5 e4 (Nat.le_of_ble_eq_true rfl) k (fun h2 k => ?_)
  refine jr_iload_n 1 dX11_undo_8 rfl rfl ?_
  refine jr_aload_n 0 dX11_undo_9 rfl rfl ?_
  obtain ⟨fs5, e6, v8, e7, k⟩ := k
  refine jr_get jf_X11_41 dX11_undo_10 e6 e7 ?_
  obtain ⟨fs9, e10, v12, e11, k⟩ := k
  refine jr_get jf_X11_115 dX11_undo_13 e10 e11 ?_
  refine jr_icmp_le (tgt := 29) dX11_undo_16 (by decide) (fun c16 => ?_) (fun c16 => ?_)
  · have k := k.2 c16
    refine jr_aload_n 0 dX11_undo_29 rfl rfl ?_
    obtain ⟨fs13, e14, v16, e15, k⟩ := k
    refine jr_get jf_X11_41 dX11_undo_30 e14 e15 ?_
    refine jr_iload_n 1 dX11_undo_33 rfl rfl ?_
    refine jr_aload_n 0 dX11_undo_34 rfl rfl ?_
    obtain ⟨fs17, e18, v20, e19, k⟩ := k
    refine jr_get jf_X11_34 dX11_undo_35 e18 e19 ?_
    obtain ⟨fs23, e24, k⟩ := k
    refine jr_cVv (As := [.int x1, .ref v20]) jl_X11_229 km_X2_goBack rfl rfl dX11_undo_38 e24 (Nat.le_of_ble_eq_true rfl) k (fun h22 k => ?_)
    refine jr_aload_n 0 dX11_undo_41 rfl rfl ?_
    obtain ⟨fs25, e26, v28, e27, k⟩ := k
    refine jr_get jf_X11_41 dX11_undo_42 e26 e27 ?_
    obtain ⟨fs29, e30, v32, e31, k⟩ := k
    refine jr_get jf_X11_115 dX11_undo_45 e30 e31 ?_
    exact jr_iret (ty := .int) rfl rfl dX11_undo_48 k
  · have k := k.1 c16
    exact jr_throw rfl jt_X11_227 rfl k.1 (fun hg9 => ⟨_, (hg9.2.2.2.2.2.2.2.1 8 _ rfl).1⟩) dX11_undo_19 dX11_undo_22 dX11_undo_23 dX11_undo_25 dX11_undo_28 (Nat.le_of_ble_eq_true rfl) k.2
set_option maxRecDepth 20000 in
theorem bX11_judge_0 {g : jG} {d : Nat} {hs : jH} {P : jO → jH → Prop} {x0 : Nat} {x1 : Int32} {x2 : Int32} {h : jH} (k : ∃ fs3 : List Value, h.1 x0 = some (.inr (11, fs3)) ∧ Con g mX11_trayAt d [.ref x0, .int x1] h (jPr (fun (r1 : Nat) (h2 : jH) => ∃ fs7 : List Value, h2.1 x0 = some (.inr (11, fs7)) ∧ Con g mX11_checkWithin d [.ref x0, .int x2, .int 0, .int 3] h2 (jPv (fun (h6 : jH) => ∃ fs9 : List Value, h6.1 x0 = some (.inr (11, fs9)) ∧ ∃ v12 : Nat, fs9[10]? = some (.ref v12) ∧ ∃ fs13 : List Value, h6.1 x0 = some (.inr (11, fs13)) ∧ ∃ v16 : Nat, fs13[5]? = some (.ref v16) ∧ ∃ fs17 : List Value, h6.1 x0 = some (.inr (11, fs17)) ∧ ∃ v20 : Nat, fs17[6]? = some (.ref v20) ∧ ∃ fs23 : List Value, h6.1 v12 = some (.inr (0, fs23)) ∧ Con g mX0_from d [.ref v12, .ref v16, .ref v20] h6 (jPr (fun (r21 : Nat) (h22 : jH) => J g mX11_judge (d + 1) hs P 39 [(0, .ref x0), (2, .int x2), (3, .ref r1), (4, .ref r21), (5, .int (-1)), (6, .int 0), (7, .int 0)] [] h22) (fun E h' => P (.inr E) h'))) (fun E h' => P (.inr E) h'))) (fun E h' => P (.inr E) h'))) : J g mX11_judge (d + 1) hs P 0 [(0, .ref x0), (1, .int x1), (2, .int x2)] [] h := by
  refine jr_aload_n 0 dX11_judge_0 rfl rfl ?_
  refine jr_iload_n 1 dX11_judge_1 rfl rfl ?_
  obtain ⟨fs3, e4, k⟩ := k
  refine jr_cVr (As := [.int x1]) jl_X11_233 km_X11_trayAt rfl rfl dX11_judge_2 e4 (Nat.le_of_ble_eq_true rfl) k (fun r1 h2 k => ?_)
  refine jr_astore_n (lv' := [(3, .ref r1), (0, .ref x0), (1, .int x1), (2, .int x2)]) dX11_judge_5 rfl (by decide) rfl ?_
  refine jr_aload_n 1 dX11_judge_6 rfl rfl ?_
  refine jr_iload_n 3 dX11_judge_7 rfl rfl ?_
  refine jr_iconst (v := 0) dX11_judge_8 (by decide) ?_
  refine jr_iconst (v := 3) dX11_judge_9 (by decide) ?_
  obtain ⟨fs7, e8, k⟩ := k
  refine jr_cVv (As := [.int x2, .int 0, .int 3]) jl_X11_162 km_X11_checkWithin rfl rfl dX11_judge_10 e8 (Nat.le_of_ble_eq_true rfl) k (fun h6 k => ?_)
  refine jr_aload_n 1 dX11_judge_13 rfl rfl ?_
  obtain ⟨fs9, e10, v12, e11, k⟩ := k
  refine jr_get jf_X11_62 dX11_judge_14 e10 e11 ?_
  refine jr_aload_n 1 dX11_judge_17 rfl rfl ?_
  obtain ⟨fs13, e14, v16, e15, k⟩ := k
  refine jr_get jf_X11_20 dX11_judge_18 e14 e15 ?_
  refine jr_aload_n 1 dX11_judge_21 rfl rfl ?_
  obtain ⟨fs17, e18, v20, e19, k⟩ := k
  refine jr_get jf_X11_34 dX11_judge_22 e18 e19 ?_
  obtain ⟨fs23, e24, k⟩ := k
  refine jr_cVr (As := [.ref v16, .ref v20]) jl_X11_237 km_X0_from rfl rfl dX11_judge_25 e24 (Nat.le_of_ble_eq_true rfl) k (fun r21 h22 k => ?_)
  refine jr_astore (lv' := [(4, .ref r21), (3, .ref r1), (0, .ref x0), (1, .int x1), (2, .int x2)]) dX11_judge_28 (by decide) rfl ?_
  refine jr_iconst (v := (-1)) dX11_judge_30 (by decide) ?_
  refine jr_istore (lv' := [(5, .int (-1)), (4, .ref r21), (3, .ref r1), (0, .ref x0), (1, .int x1), (2, .int x2)]) dX11_judge_31 (by decide) rfl ?_
  refine jr_iconst (v := 0) dX11_judge_33 (by decide) ?_
  refine jr_istore (lv' := [(6, .int 0), (5, .int (-1)), (4, .ref r21), (3, .ref r1), (0, .ref x0), (1, .int x1), (2, .int x2)]) dX11_judge_34 (by decide) rfl ?_
  refine jr_iconst (v := 0) dX11_judge_36 (by decide) ?_
  refine jr_istore (lv' := [(7, .int 0), (6, .int 0), (5, .int (-1)), (4, .ref r21), (3, .ref r1), (0, .ref x0), (1, .int x1), (2, .int x2)]) dX11_judge_37 (by decide) rfl ?_
  exact jr_sub [5, 7, 4, 3, 2, 1, 0] rfl k
set_option maxRecDepth 20000 in
theorem bX11_judge_39 {g : jG} {d : Nat} {hs : jH} {P : jO → jH → Prop} {x0 : Nat} {x2 : Int32} {x3 : Nat} {x4 : Nat} {x5 : Int32} {x6 : Int32} {x7 : Int32} {h : jH} (k : ∃ fs1 : List Value, h.1 x3 = some (.inr (10, fs1)) ∧ ∃ v4 : Int32, fs1[0]? = some (.int v4) ∧ (x7 < v4 → (x6 = 0 → ∃ fs7 : List Value, h.1 x3 = some (.inr (10, fs7)) ∧ Con g mX10_at d [.ref x3, .int x7] h (jPl (fun (r5 : Int64) (h6 : jH) => ∃ fs11 : List Value, h6.1 x0 = some (.inr (11, fs11)) ∧ Con g mX11_whyNot d [.ref x0, .ref x4, .long r5] h6 (jPi (fun (r9 : Int32) (h10 : jH) => (r9 = 0 → ∃ fs15 : List Value, h10.1 x3 = some (.inr (10, fs15)) ∧ Con g mX10_at d [.ref x3, .int x7] h10 (jPl (fun (r13 : Int64) (h14 : jH) => ∃ fs19 : List Value, h14.1 x0 = some (.inr (11, fs19)) ∧ Con g mX11_carryOut d [.ref x0, .ref x4, .long r13] h14 (jPv (fun (h18 : jH) => J g mX11_judge (d + 1) hs P 39 [(0, .ref x0), (2, .int x2), (3, .ref x3), (4, .ref x4), (5, .int x5), (6, .int r9), (7, .int (x7 + 1))] [] h18) (fun E h' => P (.inr E) h'))) (fun E h' => P (.inr E) h'))) ∧ (¬ r9 = 0 → J g mX11_judge (d + 1) hs P 39 [(0, .ref x0), (2, .int x2), (3, .ref x3), (4, .ref x4), (5, .int x7), (6, .int r9), (7, .int (x7 + 1))] [] h10)) (fun E h' => P (.inr E) h'))) (fun E h' => P (.inr E) h'))) ∧ (¬ x6 = 0 → J g mX11_judge (d + 1) hs P 97 [(2, .int x2), (4, .ref x4), (5, .int x5), (6, .int x6)] [] h)) ∧ (¬ x7 < v4 → J g mX11_judge (d + 1) hs P 97 [(2, .int x2), (4, .ref x4), (5, .int x5), (6, .int x6)] [] h)) : J g mX11_judge (d + 1) hs P 39 [(0, .ref x0), (2, .int x2), (3, .ref x3), (4, .ref x4), (5, .int x5), (6, .int x6), (7, .int x7)] [] h := by
  refine jr_iload 6 dX11_judge_39 rfl ?_
  refine jr_aload_n 2 dX11_judge_41 rfl rfl ?_
  obtain ⟨fs1, e2, v4, e3, k⟩ := k
  refine jr_get jf_X11_241 dX11_judge_42 e2 e3 ?_
  refine jr_icmp_ge (tgt := 97) dX11_judge_45 (by decide) (fun c45 => ?_) (fun c45 => ?_)
  · have k := k.2 c45
    exact jr_sub [1, 3, 4, 5] rfl k
  · have k := k.1 c45
    refine jr_iload 5 dX11_judge_48 rfl ?_
    refine jr_if_ne (tgt := 97) dX11_judge_50 (by decide) (fun c50 => ?_) (fun c50 => ?_)
    · have k := k.2 c50
      exact jr_sub [1, 3, 4, 5] rfl k
    · have k := k.1 c50
      refine jr_aload_n 0 dX11_judge_53 rfl rfl ?_
      refine jr_aload 3 dX11_judge_54 rfl ?_
      refine jr_aload_n 2 dX11_judge_56 rfl rfl ?_
      refine jr_iload 6 dX11_judge_57 rfl ?_
      obtain ⟨fs7, e8, k⟩ := k
      refine jr_cVl (As := [.int x7]) jl_X11_242 km_X10_at rfl rfl dX11_judge_59 e8 (Nat.le_of_ble_eq_true rfl) k (fun r5 h6 k => ?_)
      obtain ⟨fs11, e12, k⟩ := k
      refine jr_cVi (As := [.ref x4, .long r5]) jl_X11_246 km_X11_whyNot rfl rfl dX11_judge_62 e12 (Nat.le_of_ble_eq_true rfl) k (fun r9 h10 k => ?_)
      refine jr_istore (lv' := [(6, .int r9), (0, .ref x0), (2, .int x2), (3, .ref x3), (4, .ref x4), (5, .int x5), (7, .int x7)]) dX11_judge_65 (by decide) rfl ?_
      refine jr_iload 0 dX11_judge_67 rfl ?_
      refine jr_if_ne (tgt := 87) dX11_judge_69 (by decide) (fun c69 => ?_) (fun c69 => ?_)
      · have k := k.2 c69
        refine jr_iload 6 dX11_judge_87 rfl ?_
        refine jr_istore (lv' := [(5, .int x7), (6, .int r9), (0, .ref x0), (2, .int x2), (3, .ref x3), (4, .ref x4), (7, .int x7)]) dX11_judge_89 (by decide) rfl ?_
        refine jr_iinc (v := (x7 + 1)) (lv' := [(7, .int (x7 + 1)), (5, .int x7), (6, .int r9), (0, .ref x0), (2, .int x2), (3, .ref x3), (4, .ref x4)]) 6 dX11_judge_91 rfl rfl (by decide) rfl ?_
        refine jr_goto (tgt := 39) dX11_judge_94 (by decide) ?_
        exact jr_sub [3, 4, 5, 6, 1, 2, 0] rfl k
      · have k := k.1 c69
        refine jr_aload_n 1 dX11_judge_72 rfl rfl ?_
        refine jr_aload 4 dX11_judge_73 rfl ?_
        refine jr_aload_n 3 dX11_judge_75 rfl rfl ?_
        refine jr_iload 6 dX11_judge_76 rfl ?_
        obtain ⟨fs15, e16, k⟩ := k
        refine jr_cVl (As := [.int x7]) jl_X11_242 km_X10_at rfl rfl dX11_judge_78 e16 (Nat.le_of_ble_eq_true rfl) k (fun r13 h14 k => ?_)
        obtain ⟨fs19, e20, k⟩ := k
        refine jr_cVv (As := [.ref x4, .long r13]) jl_X11_250 km_X11_carryOut rfl rfl dX11_judge_81 e20 (Nat.le_of_ble_eq_true rfl) k (fun h18 k => ?_)
        refine jr_goto (tgt := 91) dX11_judge_84 (by decide) ?_
        refine jr_iinc (v := (x7 + 1)) (lv' := [(7, .int (x7 + 1)), (6, .int r9), (0, .ref x0), (2, .int x2), (3, .ref x3), (4, .ref x4), (5, .int x5)]) 6 dX11_judge_91 rfl rfl (by decide) rfl ?_
        refine jr_goto (tgt := 39) dX11_judge_94 (by decide) ?_
        exact jr_sub [2, 3, 4, 5, 6, 1, 0] rfl k
set_option maxRecDepth 20000 in
theorem bX11_judge_97 {g : jG} {d : Nat} {hs : jH} {P : jO → jH → Prop} {x2 : Int32} {x4 : Nat} {x5 : Int32} {x6 : Int32} {h : jH} (k : (x2 = 0 → P (.inl (some (.int x5))) h) ∧ (¬ x2 = 0 → (x2 = 1 → P (.inl (some (.int x6))) h) ∧ (¬ x2 = 1 → (x2 = 2 → ∃ fs1 : List Value, h.1 x4 = some (.inr (6, fs1)) ∧ ∃ v4 : Nat, fs1[7]? = some (.ref v4) ∧ ∃ fs7 : List Value, h.1 x4 = some (.inr (6, fs7)) ∧ Con g mX6_sum d [.ref x4, .ref v4] h (jPi (fun (r5 : Int32) (h6 : jH) => P (.inl (some (.int r5))) h6) (fun E h' => P (.inr E) h'))) ∧ (¬ x2 = 2 → ∃ fs9 : List Value, h.1 x4 = some (.inr (6, fs9)) ∧ ∃ v12 : Int32, fs9[2]? = some (.int v12) ∧ P (.inl (some (.int v12))) h)))) : J g mX11_judge (d + 1) hs P 97 [(2, .int x2), (4, .ref x4), (5, .int x5), (6, .int x6)] [] h := by
  refine jr_iload_n 0 dX11_judge_97 rfl rfl ?_
  by_cases c98_0 : x2 = 0
  · have k := k.1 c98_0
    refine jr_tableIn (tgt := 124) dX11_judge_98 (by rw [c98_0]; decide) (by rw [c98_0]; decide) (by rw [c98_0]; rfl) (by decide) ?_
    refine jr_iload 2 dX11_judge_124 rfl ?_
    exact jr_iret (ty := .int) rfl rfl dX11_judge_126 k
  · have k := k.2 c98_0
    by_cases c98_1 : x2 = 1
    · have k := k.1 c98_1
      refine jr_tableIn (tgt := 127) dX11_judge_98 (by rw [c98_1]; decide) (by rw [c98_1]; decide) (by rw [c98_1]; rfl) (by decide) ?_
      refine jr_iload 3 dX11_judge_127 rfl ?_
      exact jr_iret (ty := .int) rfl rfl dX11_judge_129 k
    · have k := k.2 c98_1
      by_cases c98_2 : x2 = 2
      · have k := k.1 c98_2
        refine jr_tableIn (tgt := 130) dX11_judge_98 (by rw [c98_2]; decide) (by rw [c98_2]; decide) (by rw [c98_2]; rfl) (by decide) ?_
        refine jr_aload 1 dX11_judge_130 rfl ?_
        refine jr_aload 1 dX11_judge_132 rfl ?_
        obtain ⟨fs1, e2, v4, e3, k⟩ := k
        refine jr_get jf_X11_124 dX11_judge_134 e2 e3 ?_
        obtain ⟨fs7, e8, k⟩ := k
        refine jr_cVi (As := [.ref v4]) jl_X11_254 km_X6_sum rfl rfl dX11_judge_137 e8 (Nat.le_of_ble_eq_true rfl) k (fun r5 h6 k => ?_)
        exact jr_iret (ty := .int) rfl rfl dX11_judge_140 k
      · have k := k.2 c98_2
        refine jr_tableOut (tgt := 141) dX11_judge_98 ?_ (by decide) ?_
        · have d98_0 := j_ne c98_0 (z := 0) (by decide)
          have d98_1 := j_ne c98_1 (z := 1) (by decide)
          have d98_2 := j_ne c98_2 (z := 2) (by decide)
          omega
        · refine jr_aload 1 dX11_judge_141 rfl ?_
          obtain ⟨fs9, e10, v12, e11, k⟩ := k
          refine jr_get jf_X11_258 dX11_judge_143 e10 e11 ?_
          exact jr_iret (ty := .int) rfl rfl dX11_judge_146 k
set_option maxRecDepth 20000 in
theorem bX11_perform_0 {g : jG} {d : Nat} {hs : jH} {P : jO → jH → Prop} {x0 : Nat} {x1 : Int32} {h : jH} (k : ∃ fs3 : List Value, h.1 x0 = some (.inr (11, fs3)) ∧ Con g mX11_trayAt d [.ref x0, .int x1] h (jPr (fun (r1 : Nat) (h2 : jH) => J g mX11_perform (d + 1) hs P 8 [(0, .ref x0), (2, .ref r1), (3, .int 0)] [] h2) (fun E h' => P (.inr E) h'))) : J g mX11_perform (d + 1) hs P 0 [(0, .ref x0), (1, .int x1)] [] h := by
  refine jr_aload_n 0 dX11_perform_0 rfl rfl ?_
  refine jr_iload_n 1 dX11_perform_1 rfl rfl ?_
  obtain ⟨fs3, e4, k⟩ := k
  refine jr_cVr (As := [.int x1]) jl_X11_233 km_X11_trayAt rfl rfl dX11_perform_2 e4 (Nat.le_of_ble_eq_true rfl) k (fun r1 h2 k => ?_)
  refine jr_astore_n (lv' := [(2, .ref r1), (0, .ref x0), (1, .int x1)]) dX11_perform_5 rfl (by decide) rfl ?_
  refine jr_iconst (v := 0) dX11_perform_6 (by decide) ?_
  refine jr_istore_n (lv' := [(3, .int 0), (2, .ref r1), (0, .ref x0), (1, .int x1)]) dX11_perform_7 rfl (by decide) rfl ?_
  exact jr_sub [2, 1, 0] rfl k
set_option maxRecDepth 20000 in
theorem bX11_perform_8 {g : jG} {d : Nat} {hs : jH} {P : jO → jH → Prop} {x0 : Nat} {x2 : Nat} {x3 : Int32} {h : jH} (k : ∃ fs1 : List Value, h.1 x2 = some (.inr (10, fs1)) ∧ ∃ v4 : Int32, fs1[0]? = some (.int v4) ∧ (x3 < v4 → ∃ fs11 : List Value, h.1 x2 = some (.inr (10, fs11)) ∧ Con g mX10_at d [.ref x2, .int x3] h (jPl (fun (r9 : Int64) (h10 : jH) => ∃ fs15 : List Value, h10.1 x0 = some (.inr (11, fs15)) ∧ Con g mX11_couldDo d [.ref x0, .long r9] h10 (jPi (fun (r13 : Int32) (h14 : jH) => (r13 = 0 → P (.inl (some (.int x3))) h14) ∧ (¬ r13 = 0 → J g mX11_perform (d + 1) hs P 8 [(0, .ref x0), (2, .ref x2), (3, .int (x3 + 1))] [] h14)) (fun E h' => P (.inr E) h'))) (fun E h' => P (.inr E) h'))) ∧ (¬ x3 < v4 → ∃ fs5 : List Value, h.1 x2 = some (.inr (10, fs5)) ∧ ∃ v8 : Int32, fs5[0]? = some (.int v8) ∧ P (.inl (some (.int v8))) h)) : J g mX11_perform (d + 1) hs P 8 [(0, .ref x0), (2, .ref x2), (3, .int x3)] [] h := by
  refine jr_iload_n 2 dX11_perform_8 rfl rfl ?_
  refine jr_aload_n 1 dX11_perform_9 rfl rfl ?_
  obtain ⟨fs1, e2, v4, e3, k⟩ := k
  refine jr_get jf_X11_241 dX11_perform_10 e2 e3 ?_
  refine jr_icmp_ge (tgt := 36) dX11_perform_13 (by decide) (fun c13 => ?_) (fun c13 => ?_)
  · have k := k.2 c13
    refine jr_aload_n 1 dX11_perform_36 rfl rfl ?_
    obtain ⟨fs5, e6, v8, e7, k⟩ := k
    refine jr_get jf_X11_241 dX11_perform_37 e6 e7 ?_
    exact jr_iret (ty := .int) rfl rfl dX11_perform_40 k
  · have k := k.1 c13
    refine jr_aload_n 0 dX11_perform_16 rfl rfl ?_
    refine jr_aload_n 1 dX11_perform_17 rfl rfl ?_
    refine jr_iload_n 2 dX11_perform_18 rfl rfl ?_
    obtain ⟨fs11, e12, k⟩ := k
    refine jr_cVl (As := [.int x3]) jl_X11_242 km_X10_at rfl rfl dX11_perform_19 e12 (Nat.le_of_ble_eq_true rfl) k (fun r9 h10 k => ?_)
    obtain ⟨fs15, e16, k⟩ := k
    refine jr_cVi (As := [.long r9]) jl_X11_261 km_X11_couldDo rfl rfl dX11_perform_22 e16 (Nat.le_of_ble_eq_true rfl) k (fun r13 h14 k => ?_)
    refine jr_if_ne (tgt := 30) dX11_perform_25 (by decide) (fun c25 => ?_) (fun c25 => ?_)
    · have k := k.2 c25
      refine jr_iinc (v := (x3 + 1)) (lv' := [(3, .int (x3 + 1)), (0, .ref x0), (2, .ref x2)]) 2 dX11_perform_30 rfl rfl (by decide) rfl ?_
      refine jr_goto (tgt := 8) dX11_perform_33 (by decide) ?_
      exact jr_sub [1, 2, 0] rfl k
    · have k := k.1 c25
      refine jr_iload_n 2 dX11_perform_28 rfl rfl ?_
      exact jr_iret (ty := .int) rfl rfl dX11_perform_29 k
set_option maxRecDepth 20000 in
theorem bX11_year_0 {g : jG} {d : Nat} {hs : jH} {P : jO → jH → Prop} {x0 : Nat} {x1 : Int32} {x2 : Int32} {h : jH} (k : ∃ fs3 : List Value, h.1 x0 = some (.inr (11, fs3)) ∧ Con g mX11_checkWithin d [.ref x0, .int x2, .int 1, .int 30] h (jPv (fun (h2 : jH) => ∃ fs5 : List Value, h2.1 x0 = some (.inr (11, fs5)) ∧ 13 < fs5.length ∧ (∀ h8 : jH, h8 = jset h2 x0 (.inr (11, fs5.set 13 (.int x1))) → J g mX11_year (d + 1) hs P 18 [(0, .ref x0), (2, .int x2), (3, .int 0), (4, .int 0)] [] h8)) (fun E h' => P (.inr E) h'))) : J g mX11_year (d + 1) hs P 0 [(0, .ref x0), (1, .int x1), (2, .int x2)] [] h := by
  refine jr_aload_n 0 dX11_year_0 rfl rfl ?_
  refine jr_iload_n 2 dX11_year_1 rfl rfl ?_
  refine jr_iconst (v := 1) dX11_year_2 (by decide) ?_
  refine jr_bipush (v := 30) dX11_year_3 (by decide) ?_
  obtain ⟨fs3, e4, k⟩ := k
  refine jr_cVv (As := [.int x2, .int 1, .int 30]) jl_X11_162 km_X11_checkWithin rfl rfl dX11_year_5 e4 (Nat.le_of_ble_eq_true rfl) k (fun h2 k => ?_)
  refine jr_aload_n 0 dX11_year_8 rfl rfl ?_
  refine jr_iload_n 1 dX11_year_9 rfl rfl ?_
  obtain ⟨fs5, e6, e7, k⟩ := k
  refine jr_putE jp_X11_265 dX11_year_10 e6 e7 rfl rfl (fun h8 eh9 => ?_)
  have k := k h8 eh9
  refine jr_iconst (v := 0) dX11_year_13 (by decide) ?_
  refine jr_istore_n (lv' := [(3, .int 0), (0, .ref x0), (1, .int x1), (2, .int x2)]) dX11_year_14 rfl (by decide) rfl ?_
  refine jr_iconst (v := 0) dX11_year_15 (by decide) ?_
  refine jr_istore (lv' := [(4, .int 0), (3, .int 0), (0, .ref x0), (1, .int x1), (2, .int x2)]) dX11_year_16 (by decide) rfl ?_
  exact jr_sub [2, 4, 1, 0] rfl k
set_option maxRecDepth 20000 in
theorem bX11_year_18 {g : jG} {d : Nat} {hs : jH} {P : jO → jH → Prop} {x0 : Nat} {x2 : Int32} {x3 : Int32} {x4 : Int32} {h : jH} (k : (x4 < x2 → ∃ fs3 : List Value, h.1 x0 = some (.inr (11, fs3)) ∧ Con g mX11_drawDeed d [.ref x0] h (jPi (fun (r1 : Int32) (h2 : jH) => ∃ fs7 : List Value, h2.1 x0 = some (.inr (11, fs7)) ∧ Con g mX11_couldDo d [.ref x0, .long r1.toInt64] h2 (jPi (fun (r5 : Int32) (h6 : jH) => (r5 = 0 → J g mX11_year (d + 1) hs P 18 [(0, .ref x0), (2, .int x2), (3, .int x3), (4, .int (x4 + 1))] [] h6) ∧ (¬ r5 = 0 → J g mX11_year (d + 1) hs P 18 [(0, .ref x0), (2, .int x2), (3, .int (x3 + 1)), (4, .int (x4 + 1))] [] h6)) (fun E h' => P (.inr E) h'))) (fun E h' => P (.inr E) h'))) ∧ (¬ x4 < x2 → P (.inl (some (.int x3))) h)) : J g mX11_year (d + 1) hs P 18 [(0, .ref x0), (2, .int x2), (3, .int x3), (4, .int x4)] [] h := by
  refine jr_iload 3 dX11_year_18 rfl ?_
  refine jr_iload_n 1 dX11_year_20 rfl rfl ?_
  refine jr_icmp_ge (tgt := 45) dX11_year_21 (by decide) (fun c21 => ?_) (fun c21 => ?_)
  · have k := k.2 c21
    refine jr_iload_n 2 dX11_year_45 rfl rfl ?_
    exact jr_iret (ty := .int) rfl rfl dX11_year_46 k
  · have k := k.1 c21
    refine jr_aload_n 0 dX11_year_24 rfl rfl ?_
    refine jr_aload_n 0 dX11_year_25 rfl rfl ?_
    obtain ⟨fs3, e4, k⟩ := k
    refine jr_cVi (As := []) jl_X11_268 km_X11_drawDeed rfl rfl dX11_year_26 e4 (Nat.le_of_ble_eq_true rfl) k (fun r1 h2 k => ?_)
    refine jr_i2l dX11_year_29 ?_
    obtain ⟨fs7, e8, k⟩ := k
    refine jr_cVi (As := [.long r1.toInt64]) jl_X11_261 km_X11_couldDo rfl rfl dX11_year_30 e8 (Nat.le_of_ble_eq_true rfl) k (fun r5 h6 k => ?_)
    refine jr_if_eq (tgt := 39) dX11_year_33 (by decide) (fun c33 => ?_) (fun c33 => ?_)
    · have k := k.1 c33
      refine jr_iinc (v := (x4 + 1)) (lv' := [(4, .int (x4 + 1)), (0, .ref x0), (2, .int x2), (3, .int x3)]) 3 dX11_year_39 rfl rfl (by decide) rfl ?_
      refine jr_goto (tgt := 18) dX11_year_42 (by decide) ?_
      exact jr_sub [1, 2, 3, 0] rfl k
    · have k := k.2 c33
      refine jr_iinc (v := (x3 + 1)) (lv' := [(3, .int (x3 + 1)), (0, .ref x0), (2, .int x2), (4, .int x4)]) 2 dX11_year_36 rfl rfl (by decide) rfl ?_
      refine jr_iinc (v := (x4 + 1)) (lv' := [(4, .int (x4 + 1)), (3, .int (x3 + 1)), (0, .ref x0), (2, .int x2)]) 3 dX11_year_39 rfl rfl (by decide) rfl ?_
      refine jr_goto (tgt := 18) dX11_year_42 (by decide) ?_
      exact jr_sub [2, 3, 1, 0] rfl k
set_option maxRecDepth 20000 in
theorem bX11_drawDeed_0 {g : jG} {d : Nat} {hs : jH} {P : jO → jH → Prop} {x0 : Nat} {h : jH} (k : ∃ fs3 : List Value, h.1 x0 = some (.inr (11, fs3)) ∧ Con g mX11_draw d [.ref x0, .int 6] h (jPi (fun (r1 : Int32) (h2 : jH) => (r1 < 2 → P (.inl (some (.int ((-1))))) h2) ∧ (¬ r1 < 2 → ∃ fs5 : List Value, h2.1 x0 = some (.inr (11, fs5)) ∧ ∃ v8 : Nat, fs5[6]? = some (.ref v8) ∧ ∃ fs9 : List Value, h2.1 v8 = some (.inr (6, fs9)) ∧ ∃ v12 : Int32, fs9[0]? = some (.int v12) ∧ (v12 = 0 → P (.inl (some (.int 0))) h2) ∧ (¬ v12 = 0 → ∃ fs13 : List Value, h2.1 x0 = some (.inr (11, fs13)) ∧ ∃ v16 : Nat, fs13[6]? = some (.ref v16) ∧ ∃ fs17 : List Value, h2.1 v16 = some (.inr (6, fs17)) ∧ ∃ v20 : Int32, fs17[0]? = some (.int v20) ∧ ∃ fs23 : List Value, h2.1 x0 = some (.inr (11, fs23)) ∧ Con g mX11_draw d [.ref x0, .int v20] h2 (jPi (fun (r21 : Int32) (h22 : jH) => (r1 = 2 → ∃ fs25 : List Value, h22.1 x0 = some (.inr (11, fs25)) ∧ ∃ v28 : Nat, fs25[6]? = some (.ref v28) ∧ ∃ fs29 : List Value, h22.1 v28 = some (.inr (6, fs29)) ∧ ∃ v32 : Int32, fs29[0]? = some (.int v32) ∧ ∃ fs35 : List Value, h22.1 x0 = some (.inr (11, fs35)) ∧ Con g mX11_draw d [.ref x0, .int v32] h22 (jPi (fun (r33 : Int32) (h34 : jH) => P (.inl (some (.int (((r21 * 10) + r33))))) h34) (fun E h' => P (.inr E) h'))) ∧ (¬ r1 = 2 → (r1 = 3 → P (.inl (some (.int ((100 + r21))))) h22) ∧ (¬ r1 = 3 → (r1 = 4 → P (.inl (some (.int ((200 + r21))))) h22) ∧ (¬ r1 = 4 → ∃ fs37 : List Value, h22.1 x0 = some (.inr (11, fs37)) ∧ ∃ v40 : Nat, fs37[6]? = some (.ref v40) ∧ ∃ fs41 : List Value, h22.1 v40 = some (.inr (6, fs41)) ∧ ∃ v44 : Int32, fs41[0]? = some (.int v44) ∧ ∃ fs47 : List Value, h22.1 x0 = some (.inr (11, fs47)) ∧ Con g mX11_draw d [.ref x0, .int v44] h22 (jPi (fun (r45 : Int32) (h46 : jH) => P (.inl (some (.int (((300 + (r21 * 10)) + r45))))) h46) (fun E h' => P (.inr E) h')))))) (fun E h' => P (.inr E) h'))))) (fun E h' => P (.inr E) h'))) : J g mX11_drawDeed (d + 1) hs P 0 [(0, .ref x0)] [] h := by
  refine jr_aload_n 0 dX11_drawDeed_0 rfl rfl ?_
  refine jr_bipush (v := 6) dX11_drawDeed_1 (by decide) ?_
  obtain ⟨fs3, e4, k⟩ := k
  refine jr_cVi (As := [.int 6]) jl_X11_272 km_X11_draw rfl rfl dX11_drawDeed_3 e4 (Nat.le_of_ble_eq_true rfl) k (fun r1 h2 k => ?_)
  refine jr_istore_n (lv' := [(1, .int r1), (0, .ref x0)]) dX11_drawDeed_6 rfl (by decide) rfl ?_
  refine jr_iload_n 0 dX11_drawDeed_7 rfl rfl ?_
  refine jr_iconst (v := 2) dX11_drawDeed_8 (by decide) ?_
  refine jr_icmp_ge (tgt := 14) dX11_drawDeed_9 (by decide) (fun c9 => ?_) (fun c9 => ?_)
  · have k := k.2 c9
    refine jr_aload_n 1 dX11_drawDeed_14 rfl rfl ?_
    obtain ⟨fs5, e6, v8, e7, k⟩ := k
    refine jr_get jf_X11_34 dX11_drawDeed_15 e6 e7 ?_
    obtain ⟨fs9, e10, v12, e11, k⟩ := k
    refine jr_get jf_X11_131 dX11_drawDeed_18 e10 e11 ?_
    refine jr_if_ne (tgt := 26) dX11_drawDeed_21 (by decide) (fun c21 => ?_) (fun c21 => ?_)
    · have k := k.2 c21
      refine jr_aload_n 1 dX11_drawDeed_26 rfl rfl ?_
      refine jr_aload_n 1 dX11_drawDeed_27 rfl rfl ?_
      obtain ⟨fs13, e14, v16, e15, k⟩ := k
      refine jr_get jf_X11_34 dX11_drawDeed_28 e14 e15 ?_
      obtain ⟨fs17, e18, v20, e19, k⟩ := k
      refine jr_get jf_X11_131 dX11_drawDeed_31 e18 e19 ?_
      obtain ⟨fs23, e24, k⟩ := k
      refine jr_cVi (As := [.int v20]) jl_X11_272 km_X11_draw rfl rfl dX11_drawDeed_34 e24 (Nat.le_of_ble_eq_true rfl) k (fun r21 h22 k => ?_)
      refine jr_istore_n (lv' := [(2, .int r21), (1, .int r1), (0, .ref x0)]) dX11_drawDeed_37 rfl (by decide) rfl ?_
      refine jr_iload_n 1 dX11_drawDeed_38 rfl rfl ?_
      by_cases c39_0 : r1 = 2
      · have k := k.1 c39_0
        refine jr_tableIn (tgt := 64) dX11_drawDeed_39 (by rw [c39_0]; decide) (by rw [c39_0]; decide) (by rw [c39_0]; rfl) (by decide) ?_
        refine jr_iload_n 0 dX11_drawDeed_64 rfl rfl ?_
        refine jr_bipush (v := 10) dX11_drawDeed_65 (by decide) ?_
        refine jr_imul dX11_drawDeed_67 ?_
        refine jr_aload_n 2 dX11_drawDeed_68 rfl rfl ?_
        refine jr_aload_n 2 dX11_drawDeed_69 rfl rfl ?_
        obtain ⟨fs25, e26, v28, e27, k⟩ := k
        refine jr_get jf_X11_34 dX11_drawDeed_70 e26 e27 ?_
        obtain ⟨fs29, e30, v32, e31, k⟩ := k
        refine jr_get jf_X11_131 dX11_drawDeed_73 e30 e31 ?_
        obtain ⟨fs35, e36, k⟩ := k
        refine jr_cVi (As := [.int v32]) jl_X11_272 km_X11_draw rfl rfl dX11_drawDeed_76 e36 (Nat.le_of_ble_eq_true rfl) k (fun r33 h34 k => ?_)
        refine jr_iadd dX11_drawDeed_79 ?_
        exact jr_iret (ty := .int) rfl rfl dX11_drawDeed_80 k
      · have k := k.2 c39_0
        by_cases c39_1 : r1 = 3
        · have k := k.1 c39_1
          refine jr_tableIn (tgt := 81) dX11_drawDeed_39 (by rw [c39_1]; decide) (by rw [c39_1]; decide) (by rw [c39_1]; rfl) (by decide) ?_
          refine jr_bipush (v := 100) dX11_drawDeed_81 (by decide) ?_
          refine jr_iload_n 0 dX11_drawDeed_83 rfl rfl ?_
          refine jr_iadd dX11_drawDeed_84 ?_
          exact jr_iret (ty := .int) rfl rfl dX11_drawDeed_85 k
        · have k := k.2 c39_1
          by_cases c39_2 : r1 = 4
          · have k := k.1 c39_2
            refine jr_tableIn (tgt := 86) dX11_drawDeed_39 (by rw [c39_2]; decide) (by rw [c39_2]; decide) (by rw [c39_2]; rfl) (by decide) ?_
            refine jr_sipush (v := 200) dX11_drawDeed_86 (by decide) ?_
            refine jr_iload_n 0 dX11_drawDeed_89 rfl rfl ?_
            refine jr_iadd dX11_drawDeed_90 ?_
            exact jr_iret (ty := .int) rfl rfl dX11_drawDeed_91 k
          · have k := k.2 c39_2
            refine jr_tableOut (tgt := 92) dX11_drawDeed_39 ?_ (by decide) ?_
            · have d39_0 := j_ne c39_0 (z := 2) (by decide)
              have d39_1 := j_ne c39_1 (z := 3) (by decide)
              have d39_2 := j_ne c39_2 (z := 4) (by decide)
              omega
            · refine jr_sipush (v := 300) dX11_drawDeed_92 (by decide) ?_
              refine jr_iload_n 0 dX11_drawDeed_95 rfl rfl ?_
              refine jr_bipush (v := 10) dX11_drawDeed_96 (by decide) ?_
              refine jr_imul dX11_drawDeed_98 ?_
              refine jr_iadd dX11_drawDeed_99 ?_
              refine jr_aload_n 2 dX11_drawDeed_100 rfl rfl ?_
              refine jr_aload_n 2 dX11_drawDeed_101 rfl rfl ?_
              obtain ⟨fs37, e38, v40, e39, k⟩ := k
              refine jr_get jf_X11_34 dX11_drawDeed_102 e38 e39 ?_
              obtain ⟨fs41, e42, v44, e43, k⟩ := k
              refine jr_get jf_X11_131 dX11_drawDeed_105 e42 e43 ?_
              obtain ⟨fs47, e48, k⟩ := k
              refine jr_cVi (As := [.int v44]) jl_X11_272 km_X11_draw rfl rfl dX11_drawDeed_108 e48 (Nat.le_of_ble_eq_true rfl) k (fun r45 h46 k => ?_)
              refine jr_iadd dX11_drawDeed_111 ?_
              exact jr_iret (ty := .int) rfl rfl dX11_drawDeed_112 k
    · have k := k.1 c21
      refine jr_iconst (v := 0) dX11_drawDeed_24 (by decide) ?_
      exact jr_iret (ty := .int) rfl rfl dX11_drawDeed_25 k
  · have k := k.1 c9
    refine jr_iconst (v := (-1)) dX11_drawDeed_12 (by decide) ?_
    exact jr_iret (ty := .int) rfl rfl dX11_drawDeed_13 k
set_option maxRecDepth 20000 in
theorem bX11_draw_0 {g : jG} {d : Nat} {hs : jH} {P : jO → jH → Prop} {x0 : Nat} {x1 : Int32} {h : jH} (k : ∃ fs1 : List Value, h.1 x0 = some (.inr (11, fs1)) ∧ ∃ v4 : Int32, fs1[13]? = some (.int v4) ∧ ∃ fs5 : List Value, h.1 x0 = some (.inr (11, fs5)) ∧ 13 < fs5.length ∧ (∀ h8 : jH, h8 = jset h x0 (.inr (11, fs5.set 13 (.int ((1103515245 * v4) + 12345)))) → (x1 < 1 → P (.inl (some (.int 0))) h8) ∧ (¬ x1 < 1 → ∃ fs10 : List Value, h8.1 x0 = some (.inr (11, fs10)) ∧ ∃ v13 : Int32, fs10[13]? = some (.int v13) ∧ ¬ x1 = 0 ∧ (P (.inl (some (.int ((((v13).toUInt32 >>> ((16 : Int32).toUInt32 &&& Int32.toUInt32 31)).toInt32 - ((v13).toUInt32 >>> ((16 : Int32).toUInt32 &&& Int32.toUInt32 31)).toInt32 / x1 * x1))))) h8)))) : J g mX11_draw (d + 1) hs P 0 [(0, .ref x0), (1, .int x1)] [] h := by
  refine jr_aload_n 0 dX11_draw_0 rfl rfl ?_
  refine jr_ldcw (v := 1103515245) jk_X11_275 dX11_draw_1 ?_
  refine jr_aload_n 0 dX11_draw_4 rfl rfl ?_
  obtain ⟨fs1, e2, v4, e3, k⟩ := k
  refine jr_get jf_X11_265 dX11_draw_5 e2 e3 ?_
  refine jr_imul dX11_draw_8 ?_
  refine jr_sipush (v := 12345) dX11_draw_9 (by decide) ?_
  refine jr_iadd dX11_draw_12 ?_
  obtain ⟨fs5, e6, e7, k⟩ := k
  refine jr_putE jp_X11_265 dX11_draw_13 e6 e7 rfl rfl (fun h8 eh9 => ?_)
  have k := k h8 eh9
  refine jr_iload_n 1 dX11_draw_16 rfl rfl ?_
  refine jr_iconst (v := 1) dX11_draw_17 (by decide) ?_
  refine jr_icmp_ge (tgt := 25) dX11_draw_18 (by decide) (fun c18 => ?_) (fun c18 => ?_)
  · have k := k.2 c18
    refine jr_aload_n 0 dX11_draw_25 rfl rfl ?_
    obtain ⟨fs10, e11, v13, e12, k⟩ := k
    refine jr_get jf_X11_265 dX11_draw_26 e11 e12 ?_
    refine jr_bipush (v := 16) dX11_draw_29 (by decide) ?_
    refine jr_iushr dX11_draw_31 ?_
    refine jr_iload_n 1 dX11_draw_32 rfl rfl ?_
    obtain ⟨c9, k⟩ := k
    refine jr_irem dX11_draw_33 c9 ?_
    exact jr_iret (ty := .int) rfl rfl dX11_draw_34 k
  · have k := k.1 c18
    refine jr_iconst (v := 0) dX11_draw_21 (by decide) ?_
    refine jr_goto (tgt := 34) dX11_draw_22 (by decide) ?_
    exact jr_iret (ty := .int) rfl rfl dX11_draw_34 k
set_option maxRecDepth 20000 in
theorem bX11_couldDo_0 {g : jG} {d : Nat} {hs : jH} {P : jO → jH → Prop} {x0 : Nat} {x1 : Int64} {h : jH} (k : ∃ fs1 : List Value, h.1 x0 = some (.inr (11, fs1)) ∧ ∃ v4 : Nat, fs1[6]? = some (.ref v4) ∧ ∃ fs7 : List Value, h.1 x0 = some (.inr (11, fs7)) ∧ Con g mX11_whyNot d [.ref x0, .ref v4, .long x1] h (jPi (fun (r5 : Int32) (h6 : jH) => (r5 = 0 → ∃ fs9 : List Value, h6.1 x0 = some (.inr (11, fs9)) ∧ ∃ v12 : Nat, fs9[7]? = some (.ref v12) ∧ ∃ fs13 : List Value, h6.1 x0 = some (.inr (11, fs13)) ∧ ∃ v16 : Nat, fs13[6]? = some (.ref v16) ∧ ∃ fs19 : List Value, h6.1 v12 = some (.inr (2, fs19)) ∧ Con g mX2_remember d [.ref v12, .ref v16] h6 (jPv (fun (h18 : jH) => ∃ fs21 : List Value, h18.1 x0 = some (.inr (11, fs21)) ∧ ∃ v24 : Nat, fs21[6]? = some (.ref v24) ∧ ∃ fs27 : List Value, h18.1 x0 = some (.inr (11, fs27)) ∧ Con g mX11_carryOut d [.ref x0, .ref v24, .long x1] h18 (jPv (fun (h26 : jH) => P (.inl (some (.int 1))) h26) (fun E h' => P (.inr E) h'))) (fun E h' => P (.inr E) h'))) ∧ (¬ r5 = 0 → P (.inl (some (.int 0))) h6)) (fun E h' => P (.inr E) h'))) : J g mX11_couldDo (d + 1) hs P 0 [(0, .ref x0), (1, .long x1)] [] h := by
  refine jr_aload_n 0 dX11_couldDo_0 rfl rfl ?_
  refine jr_aload_n 0 dX11_couldDo_1 rfl rfl ?_
  obtain ⟨fs1, e2, v4, e3, k⟩ := k
  refine jr_get jf_X11_34 dX11_couldDo_2 e2 e3 ?_
  refine jr_lload_n 1 dX11_couldDo_5 rfl rfl ?_
  obtain ⟨fs7, e8, k⟩ := k
  refine jr_cVi (As := [.ref v4, .long x1]) jl_X11_246 km_X11_whyNot rfl rfl dX11_couldDo_6 e8 (Nat.le_of_ble_eq_true rfl) k (fun r5 h6 k => ?_)
  refine jr_if_eq (tgt := 14) dX11_couldDo_9 (by decide) (fun c9 => ?_) (fun c9 => ?_)
  · have k := k.1 c9
    refine jr_aload_n 0 dX11_couldDo_14 rfl rfl ?_
    obtain ⟨fs9, e10, v12, e11, k⟩ := k
    refine jr_get jf_X11_41 dX11_couldDo_15 e10 e11 ?_
    refine jr_aload_n 0 dX11_couldDo_18 rfl rfl ?_
    obtain ⟨fs13, e14, v16, e15, k⟩ := k
    refine jr_get jf_X11_34 dX11_couldDo_19 e14 e15 ?_
    obtain ⟨fs19, e20, k⟩ := k
    refine jr_cVv (As := [.ref v16]) jl_X11_196 km_X2_remember rfl rfl dX11_couldDo_22 e20 (Nat.le_of_ble_eq_true rfl) k (fun h18 k => ?_)
    refine jr_aload_n 0 dX11_couldDo_25 rfl rfl ?_
    refine jr_aload_n 0 dX11_couldDo_26 rfl rfl ?_
    obtain ⟨fs21, e22, v24, e23, k⟩ := k
    refine jr_get jf_X11_34 dX11_couldDo_27 e22 e23 ?_
    refine jr_lload_n 1 dX11_couldDo_30 rfl rfl ?_
    obtain ⟨fs27, e28, k⟩ := k
    refine jr_cVv (As := [.ref v24, .long x1]) jl_X11_250 km_X11_carryOut rfl rfl dX11_couldDo_31 e28 (Nat.le_of_ble_eq_true rfl) k (fun h26 k => ?_)
    refine jr_iconst (v := 1) dX11_couldDo_34 (by decide) ?_
    exact jr_iret (ty := .boolean) rfl rfl dX11_couldDo_35 k
  · have k := k.2 c9
    refine jr_iconst (v := 0) dX11_couldDo_12 (by decide) ?_
    exact jr_iret (ty := .boolean) rfl rfl dX11_couldDo_13 k
set_option maxRecDepth 20000 in
theorem bX11_whyNot_0 {g : jG} {d : Nat} {hs : jH} {P : jO → jH → Prop} {x0 : Nat} {x1 : Nat} {x2 : Int64} {h : jH} (k : (x2 = (-1) → P (.inl (some (.int 0))) h) ∧ (¬ x2 = (-1) → (x2 < 0 → P (.inl (some (.int 1))) h) ∧ (¬ x2 < 0 → (399 < x2 → P (.inl (some (.int 1))) h) ∧ (¬ 399 < x2 → (((x2 / 100)).toInt32 = 0 → ∃ fs3 : List Value, h.1 x1 = some (.inr (6, fs3)) ∧ Con g mX6_whyNoSwap d [.ref x1, .int (((x2 / 10) - (x2 / 10) / 10 * 10)).toInt32, .int ((x2 - x2 / 10 * 10)).toInt32] h (jPi (fun (r1 : Int32) (h2 : jH) => P (.inl (some (.int r1))) h2) (fun E h' => P (.inr E) h'))) ∧ (¬ ((x2 / 100)).toInt32 = 0 → (((x2 / 100)).toInt32 = 1 → ((((x2 / 10) - (x2 / 10) / 10 * 10)).toInt32 = 0 → ∃ fs7 : List Value, h.1 x1 = some (.inr (6, fs7)) ∧ Con g mX6_has d [.ref x1, .int ((x2 - x2 / 10 * 10)).toInt32] h (jPi (fun (r5 : Int32) (h6 : jH) => (r5 = 0 → P (.inl (some (.int 1))) h6) ∧ (¬ r5 = 0 → P (.inl (some (.int 0))) h6)) (fun E h' => P (.inr E) h'))) ∧ (¬ (((x2 / 10) - (x2 / 10) / 10 * 10)).toInt32 = 0 → P (.inl (some (.int 1))) h)) ∧ (¬ ((x2 / 100)).toInt32 = 1 → (((x2 / 100)).toInt32 = 2 → ((((x2 / 10) - (x2 / 10) / 10 * 10)).toInt32 = 0 → ∃ fs11 : List Value, h.1 x1 = some (.inr (6, fs11)) ∧ Con g mX6_whyNoPayOff d [.ref x1, .int ((x2 - x2 / 10 * 10)).toInt32] h (jPi (fun (r9 : Int32) (h10 : jH) => P (.inl (some (.int r9))) h10) (fun E h' => P (.inr E) h'))) ∧ (¬ (((x2 / 10) - (x2 / 10) / 10 * 10)).toInt32 = 0 → P (.inl (some (.int 1))) h)) ∧ (¬ ((x2 / 100)).toInt32 = 2 → ∃ fs15 : List Value, h.1 x1 = some (.inr (6, fs15)) ∧ Con g mX6_whyNoGift d [.ref x1, .int (((x2 / 10) - (x2 / 10) / 10 * 10)).toInt32, .int ((x2 - x2 / 10 * 10)).toInt32, .int 10] h (jPi (fun (r13 : Int32) (h14 : jH) => P (.inl (some (.int r13))) h14) (fun E h' => P (.inr E) h'))))))))) : J g mX11_whyNot (d + 1) hs P 0 [(0, .ref x0), (1, .ref x1), (2, .long x2)] [] h := by
  refine jr_lload_n 2 dX11_whyNot_0 rfl rfl ?_
  refine jr_ldc2 (v := (-1)) jk_X11_276 dX11_whyNot_1 ?_
  refine jr_lcmp_ne (tgt := 10) dX11_whyNot_4 dX11_whyNot_5 (by decide) (fun c4 => ?_) (fun c4 => ?_)
  · have k := k.2 c4
    refine jr_lload_n 2 dX11_whyNot_10 rfl rfl ?_
    refine jr_lconst (v := 0) dX11_whyNot_11 (by decide) ?_
    refine jr_lcmp_lt (tgt := 24) dX11_whyNot_12 dX11_whyNot_13 (by decide) (fun c12 => ?_) (fun c12 => ?_)
    · have k := k.1 c12
      refine jr_iconst (v := 1) dX11_whyNot_24 (by decide) ?_
      exact jr_iret (ty := .int) rfl rfl dX11_whyNot_25 k
    · have k := k.2 c12
      refine jr_lload_n 2 dX11_whyNot_16 rfl rfl ?_
      refine jr_ldc2 (v := 399) jk_X11_278 dX11_whyNot_17 ?_
      refine jr_lcmp_le (tgt := 26) dX11_whyNot_20 dX11_whyNot_21 (by decide) (fun c20 => ?_) (fun c20 => ?_)
      · have k := k.2 c20
        refine jr_lload_n 2 dX11_whyNot_26 rfl rfl ?_
        refine jr_ldc2 (v := 100) jk_X11_280 dX11_whyNot_27 ?_
        refine jr_ldiv dX11_whyNot_30 (by decide) ?_
        refine jr_l2i dX11_whyNot_31 ?_
        refine jr_istore (lv' := [(4, .int ((x2 / 100)).toInt32), (0, .ref x0), (1, .ref x1), (2, .long x2)]) dX11_whyNot_32 (by decide) rfl ?_
        refine jr_lload_n 3 dX11_whyNot_34 rfl rfl ?_
        refine jr_ldc2 (v := 10) jk_X11_282 dX11_whyNot_35 ?_
        refine jr_ldiv dX11_whyNot_38 (by decide) ?_
        refine jr_ldc2 (v := 10) jk_X11_282 dX11_whyNot_39 ?_
        refine jr_lrem dX11_whyNot_42 (by decide) ?_
        refine jr_l2i dX11_whyNot_43 ?_
        refine jr_istore (lv' := [(5, .int (((x2 / 10) - (x2 / 10) / 10 * 10)).toInt32), (4, .int ((x2 / 100)).toInt32), (0, .ref x0), (1, .ref x1), (2, .long x2)]) dX11_whyNot_44 (by decide) rfl ?_
        refine jr_lload_n 4 dX11_whyNot_46 rfl rfl ?_
        refine jr_ldc2 (v := 10) jk_X11_282 dX11_whyNot_47 ?_
        refine jr_lrem dX11_whyNot_50 (by decide) ?_
        refine jr_l2i dX11_whyNot_51 ?_
        refine jr_istore (lv' := [(6, .int ((x2 - x2 / 10 * 10)).toInt32), (5, .int (((x2 / 10) - (x2 / 10) / 10 * 10)).toInt32), (4, .int ((x2 / 100)).toInt32), (0, .ref x0), (1, .ref x1), (2, .long x2)]) dX11_whyNot_52 (by decide) rfl ?_
        refine jr_iload 2 dX11_whyNot_54 rfl ?_
        by_cases c56_0 : ((x2 / 100)).toInt32 = 0
        · have k := k.1 c56_0
          refine jr_tableIn (tgt := 84) dX11_whyNot_56 (by rw [c56_0]; decide) (by rw [c56_0]; decide) (by rw [c56_0]; rfl) (by decide) ?_
          refine jr_aload_n 4 dX11_whyNot_84 rfl rfl ?_
          refine jr_iload 1 dX11_whyNot_85 rfl ?_
          refine jr_iload 0 dX11_whyNot_87 rfl ?_
          obtain ⟨fs3, e4, k⟩ := k
          refine jr_cVi (As := [.int (((x2 / 10) - (x2 / 10) / 10 * 10)).toInt32, .int ((x2 - x2 / 10 * 10)).toInt32]) jl_X11_193 km_X6_whyNoSwap rfl rfl dX11_whyNot_89 e4 (Nat.le_of_ble_eq_true rfl) k (fun r1 h2 k => ?_)
          exact jr_iret (ty := .int) rfl rfl dX11_whyNot_92 k
        · have k := k.2 c56_0
          by_cases c56_1 : ((x2 / 100)).toInt32 = 1
          · have k := k.1 c56_1
            refine jr_tableIn (tgt := 93) dX11_whyNot_56 (by rw [c56_1]; decide) (by rw [c56_1]; decide) (by rw [c56_1]; rfl) (by decide) ?_
            refine jr_iload 1 dX11_whyNot_93 rfl ?_
            refine jr_if_ne (tgt := 111) dX11_whyNot_95 (by decide) (fun c95 => ?_) (fun c95 => ?_)
            · have k := k.2 c95
              refine jr_iconst (v := 1) dX11_whyNot_111 (by decide) ?_
              exact jr_iret (ty := .int) rfl rfl dX11_whyNot_112 k
            · have k := k.1 c95
              refine jr_aload_n 4 dX11_whyNot_98 rfl rfl ?_
              refine jr_iload 0 dX11_whyNot_99 rfl ?_
              obtain ⟨fs7, e8, k⟩ := k
              refine jr_cVi (As := [.int ((x2 - x2 / 10 * 10)).toInt32]) jl_X11_174 km_X6_has rfl rfl dX11_whyNot_101 e8 (Nat.le_of_ble_eq_true rfl) k (fun r5 h6 k => ?_)
              refine jr_if_eq (tgt := 111) dX11_whyNot_104 (by decide) (fun c104 => ?_) (fun c104 => ?_)
              · have k := k.1 c104
                refine jr_iconst (v := 1) dX11_whyNot_111 (by decide) ?_
                exact jr_iret (ty := .int) rfl rfl dX11_whyNot_112 k
              · have k := k.2 c104
                refine jr_iconst (v := 0) dX11_whyNot_107 (by decide) ?_
                refine jr_goto (tgt := 112) dX11_whyNot_108 (by decide) ?_
                exact jr_iret (ty := .int) rfl rfl dX11_whyNot_112 k
          · have k := k.2 c56_1
            by_cases c56_2 : ((x2 / 100)).toInt32 = 2
            · have k := k.1 c56_2
              refine jr_tableIn (tgt := 113) dX11_whyNot_56 (by rw [c56_2]; decide) (by rw [c56_2]; decide) (by rw [c56_2]; rfl) (by decide) ?_
              refine jr_iload 1 dX11_whyNot_113 rfl ?_
              refine jr_if_ne (tgt := 127) dX11_whyNot_115 (by decide) (fun c115 => ?_) (fun c115 => ?_)
              · have k := k.2 c115
                refine jr_iconst (v := 1) dX11_whyNot_127 (by decide) ?_
                exact jr_iret (ty := .int) rfl rfl dX11_whyNot_128 k
              · have k := k.1 c115
                refine jr_aload_n 4 dX11_whyNot_118 rfl rfl ?_
                refine jr_iload 0 dX11_whyNot_119 rfl ?_
                obtain ⟨fs11, e12, k⟩ := k
                refine jr_cVi (As := [.int ((x2 - x2 / 10 * 10)).toInt32]) jl_X11_210 km_X6_whyNoPayOff rfl rfl dX11_whyNot_121 e12 (Nat.le_of_ble_eq_true rfl) k (fun r9 h10 k => ?_)
                refine jr_goto (tgt := 128) dX11_whyNot_124 (by decide) ?_
                exact jr_iret (ty := .int) rfl rfl dX11_whyNot_128 k
            · have k := k.2 c56_2
              refine jr_tableOut (tgt := 129) dX11_whyNot_56 ?_ (by decide) ?_
              · have d56_0 := j_ne c56_0 (z := 0) (by decide)
                have d56_1 := j_ne c56_1 (z := 1) (by decide)
                have d56_2 := j_ne c56_2 (z := 2) (by decide)
                omega
              · refine jr_aload_n 4 dX11_whyNot_129 rfl rfl ?_
                refine jr_iload 1 dX11_whyNot_130 rfl ?_
                refine jr_iload 0 dX11_whyNot_132 rfl ?_
                refine jr_bipush (v := 10) dX11_whyNot_134 (by decide) ?_
                obtain ⟨fs15, e16, k⟩ := k
                refine jr_cVi (As := [.int (((x2 / 10) - (x2 / 10) / 10 * 10)).toInt32, .int ((x2 - x2 / 10 * 10)).toInt32, .int 10]) jl_X11_203 km_X6_whyNoGift rfl rfl dX11_whyNot_136 e16 (Nat.le_of_ble_eq_true rfl) k (fun r13 h14 k => ?_)
                exact jr_iret (ty := .int) rfl rfl dX11_whyNot_139 k
      · have k := k.1 c20
        refine jr_iconst (v := 1) dX11_whyNot_24 (by decide) ?_
        exact jr_iret (ty := .int) rfl rfl dX11_whyNot_25 k
  · have k := k.1 c4
    refine jr_iconst (v := 0) dX11_whyNot_8 (by decide) ?_
    exact jr_iret (ty := .int) rfl rfl dX11_whyNot_9 k
set_option maxRecDepth 20000 in
theorem bX11_carryOut_0 {g : jG} {d : Nat} {hs : jH} {P : jO → jH → Prop} {x0 : Nat} {x1 : Nat} {x2 : Int64} {h : jH} (k : (x2 < 0 → ∃ fs19 : List Value, h.1 x0 = some (.inr (11, fs19)) ∧ ∃ v22 : Nat, fs19[10]? = some (.ref v22) ∧ ∃ fs23 : List Value, h.1 x0 = some (.inr (11, fs23)) ∧ ∃ v26 : Nat, fs23[5]? = some (.ref v26) ∧ ∃ fs27 : List Value, h.1 x0 = some (.inr (11, fs27)) ∧ ∃ v30 : Nat, fs27[5]? = some (.ref v30) ∧ ∃ fs31 : List Value, h.1 v30 = some (.inr (9, fs31)) ∧ ∃ v34 : Int32, fs31[3]? = some (.int v34) ∧ ∃ fs37 : List Value, h.1 v22 = some (.inr (0, fs37)) ∧ Con g mX0_pass d [.ref v22, .ref v26, .ref x1, .int v34] h (jPv (fun (h36 : jH) => P (.inl none) h36) (fun E h' => P (.inr E) h'))) ∧ (¬ x2 < 0 → (((x2 / 100)).toInt32 = 0 → ∃ fs17 : List Value, h.1 x1 = some (.inr (6, fs17)) ∧ Con g mX6_exchange d [.ref x1, .int (((x2 / 10) - (x2 / 10) / 10 * 10)).toInt32, .int ((x2 - x2 / 10 * 10)).toInt32] h (jPv (fun (h16 : jH) => P (.inl none) h16) (fun E h' => P (.inr E) h'))) ∧ (¬ ((x2 / 100)).toInt32 = 0 → (((x2 / 100)).toInt32 = 1 → ∃ fs3 : List Value, h.1 x1 = some (.inr (6, fs3)) ∧ Con g mX6_has d [.ref x1, .int ((x2 - x2 / 10 * 10)).toInt32] h (jPi (fun (r1 : Int32) (h2 : jH) => (r1 = 0 → J g mX11_carryOut (d + 1) hs P 96 [(1, .ref x1), (4, .int ((x2 / 100)).toInt32), (5, .int (((x2 / 10) - (x2 / 10) / 10 * 10)).toInt32), (6, .int ((x2 - x2 / 10 * 10)).toInt32)] [] h2) ∧ (¬ r1 = 0 → ∃ fs5 : List Value, h2.1 x1 = some (.inr (6, fs5)) ∧ ∃ v8 : Nat, fs5[8]? = some (.ref v8) ∧ ∃ (n9 : Nat) (f10 : Nat → Int32), h2.1 v8 = some (.inl (0, (n9, .inl f10))) ∧ vp_in ((x2 - x2 / 10 * 10)).toInt32 n9 ∧ ∀ h13 : jH, h13 = jset h2 v8 (.inl (0, (n9, .inl (upd f10 (((x2 - x2 / 10 * 10)).toInt32).toNatClampNeg 4)))) → P (.inl none) h13)) (fun E h' => P (.inr E) h'))) ∧ (¬ ((x2 / 100)).toInt32 = 1 → J g mX11_carryOut (d + 1) hs P 96 [(1, .ref x1), (4, .int ((x2 / 100)).toInt32), (5, .int (((x2 / 10) - (x2 / 10) / 10 * 10)).toInt32), (6, .int ((x2 - x2 / 10 * 10)).toInt32)] [] h)))) : J g mX11_carryOut (d + 1) hs P 0 [(0, .ref x0), (1, .ref x1), (2, .long x2)] [] h := by
  refine jr_lload_n 2 dX11_carryOut_0 rfl rfl ?_
  refine jr_lconst (v := 0) dX11_carryOut_1 (by decide) ?_
  refine jr_lcmp_ge (tgt := 26) dX11_carryOut_2 dX11_carryOut_3 (by decide) (fun c2 => ?_) (fun c2 => ?_)
  · have k := k.2 c2
    refine jr_lload_n 2 dX11_carryOut_26 rfl rfl ?_
    refine jr_ldc2 (v := 100) jk_X11_280 dX11_carryOut_27 ?_
    refine jr_ldiv dX11_carryOut_30 (by decide) ?_
    refine jr_l2i dX11_carryOut_31 ?_
    refine jr_istore (lv' := [(4, .int ((x2 / 100)).toInt32), (0, .ref x0), (1, .ref x1), (2, .long x2)]) dX11_carryOut_32 (by decide) rfl ?_
    refine jr_lload_n 3 dX11_carryOut_34 rfl rfl ?_
    refine jr_ldc2 (v := 10) jk_X11_282 dX11_carryOut_35 ?_
    refine jr_ldiv dX11_carryOut_38 (by decide) ?_
    refine jr_ldc2 (v := 10) jk_X11_282 dX11_carryOut_39 ?_
    refine jr_lrem dX11_carryOut_42 (by decide) ?_
    refine jr_l2i dX11_carryOut_43 ?_
    refine jr_istore (lv' := [(5, .int (((x2 / 10) - (x2 / 10) / 10 * 10)).toInt32), (4, .int ((x2 / 100)).toInt32), (0, .ref x0), (1, .ref x1), (2, .long x2)]) dX11_carryOut_44 (by decide) rfl ?_
    refine jr_lload_n 4 dX11_carryOut_46 rfl rfl ?_
    refine jr_ldc2 (v := 10) jk_X11_282 dX11_carryOut_47 ?_
    refine jr_lrem dX11_carryOut_50 (by decide) ?_
    refine jr_l2i dX11_carryOut_51 ?_
    refine jr_istore (lv' := [(6, .int ((x2 - x2 / 10 * 10)).toInt32), (5, .int (((x2 / 10) - (x2 / 10) / 10 * 10)).toInt32), (4, .int ((x2 / 100)).toInt32), (0, .ref x0), (1, .ref x1), (2, .long x2)]) dX11_carryOut_52 (by decide) rfl ?_
    refine jr_iload 2 dX11_carryOut_54 rfl ?_
    refine jr_if_ne (tgt := 70) dX11_carryOut_56 (by decide) (fun c56 => ?_) (fun c56 => ?_)
    · have k := k.2 c56
      refine jr_iload 2 dX11_carryOut_70 rfl ?_
      refine jr_iconst (v := 1) dX11_carryOut_72 (by decide) ?_
      refine jr_icmp_ne (tgt := 96) dX11_carryOut_73 (by decide) (fun c73 => ?_) (fun c73 => ?_)
      · have k := k.2 c73
        exact jr_sub [4, 2, 1, 0] rfl k
      · have k := k.1 c73
        refine jr_aload_n 4 dX11_carryOut_76 rfl rfl ?_
        refine jr_iload 0 dX11_carryOut_77 rfl ?_
        obtain ⟨fs3, e4, k⟩ := k
        refine jr_cVi (As := [.int ((x2 - x2 / 10 * 10)).toInt32]) jl_X11_174 km_X6_has rfl rfl dX11_carryOut_79 e4 (Nat.le_of_ble_eq_true rfl) k (fun r1 h2 k => ?_)
        refine jr_if_eq (tgt := 96) dX11_carryOut_82 (by decide) (fun c82 => ?_) (fun c82 => ?_)
        · have k := k.1 c82
          exact jr_sub [4, 2, 1, 0] rfl k
        · have k := k.2 c82
          refine jr_aload_n 4 dX11_carryOut_85 rfl rfl ?_
          obtain ⟨fs5, e6, v8, e7, k⟩ := k
          refine jr_get jf_X11_128 dX11_carryOut_86 e6 e7 ?_
          refine jr_iload 0 dX11_carryOut_89 rfl ?_
          refine jr_iconst (v := 4) dX11_carryOut_91 (by decide) ?_
          obtain ⟨n9, f10, e11, e12, k⟩ := k
          refine jr_iastE dX11_carryOut_92 e11 e12 (fun h13 eh14 => ?_)
          have k := k h13 eh14
          refine jr_goto (tgt := 124) dX11_carryOut_93 (by decide) ?_
          exact jr_vret rfl dX11_carryOut_124 k
    · have k := k.1 c56
      refine jr_aload_n 4 dX11_carryOut_59 rfl rfl ?_
      refine jr_iload 1 dX11_carryOut_60 rfl ?_
      refine jr_iload 0 dX11_carryOut_62 rfl ?_
      obtain ⟨fs17, e18, k⟩ := k
      refine jr_cVv (As := [.int (((x2 / 10) - (x2 / 10) / 10 * 10)).toInt32, .int ((x2 - x2 / 10 * 10)).toInt32]) jl_X11_199 km_X6_exchange rfl rfl dX11_carryOut_64 e18 (Nat.le_of_ble_eq_true rfl) k (fun h16 k => ?_)
      refine jr_goto (tgt := 124) dX11_carryOut_67 (by decide) ?_
      exact jr_vret rfl dX11_carryOut_124 k
  · have k := k.1 c2
    refine jr_aload_n 0 dX11_carryOut_6 rfl rfl ?_
    obtain ⟨fs19, e20, v22, e21, k⟩ := k
    refine jr_get jf_X11_62 dX11_carryOut_7 e20 e21 ?_
    refine jr_aload_n 0 dX11_carryOut_10 rfl rfl ?_
    obtain ⟨fs23, e24, v26, e25, k⟩ := k
    refine jr_get jf_X11_20 dX11_carryOut_11 e24 e25 ?_
    refine jr_aload_n 1 dX11_carryOut_14 rfl rfl ?_
    refine jr_aload_n 0 dX11_carryOut_15 rfl rfl ?_
    obtain ⟨fs27, e28, v30, e29, k⟩ := k
    refine jr_get jf_X11_20 dX11_carryOut_16 e28 e29 ?_
    obtain ⟨fs31, e32, v34, e33, k⟩ := k
    refine jr_get jf_X11_217 dX11_carryOut_19 e32 e33 ?_
    obtain ⟨fs37, e38, k⟩ := k
    refine jr_cVv (As := [.ref v26, .ref x1, .int v34]) jl_X11_220 km_X0_pass rfl rfl dX11_carryOut_22 e38 (Nat.le_of_ble_eq_true rfl) k (fun h36 k => ?_)
    exact jr_vret rfl dX11_carryOut_25 k
set_option maxRecDepth 20000 in
theorem bX11_carryOut_96 {g : jG} {d : Nat} {hs : jH} {P : jO → jH → Prop} {x1 : Nat} {x4 : Int32} {x5 : Int32} {x6 : Int32} {h : jH} (k : (x4 = 2 → ∃ fs7 : List Value, h.1 x1 = some (.inr (6, fs7)) ∧ Con g mX6_payBack d [.ref x1, .int x6, .int 999999] h (jPi (fun (r5 : Int32) (h6 : jH) => P (.inl none) h6) (fun E h' => P (.inr E) h'))) ∧ (¬ x4 = 2 → ∃ fs3 : List Value, h.1 x1 = some (.inr (6, fs3)) ∧ Con g mX6_give d [.ref x1, .int x5, .int x6, .int 10] h (jPv (fun (h2 : jH) => P (.inl none) h2) (fun E h' => P (.inr E) h')))) : J g mX11_carryOut (d + 1) hs P 96 [(1, .ref x1), (4, .int x4), (5, .int x5), (6, .int x6)] [] h := by
  refine jr_iload 1 dX11_carryOut_96 rfl ?_
  refine jr_iconst (v := 2) dX11_carryOut_98 (by decide) ?_
  refine jr_icmp_ne (tgt := 114) dX11_carryOut_99 (by decide) (fun c99 => ?_) (fun c99 => ?_)
  · have k := k.2 c99
    refine jr_aload_n 0 dX11_carryOut_114 rfl rfl ?_
    refine jr_iload 2 dX11_carryOut_115 rfl ?_
    refine jr_iload 3 dX11_carryOut_117 rfl ?_
    refine jr_bipush (v := 10) dX11_carryOut_119 (by decide) ?_
    obtain ⟨fs3, e4, k⟩ := k
    refine jr_cVv (As := [.int x5, .int x6, .int 10]) jl_X11_207 km_X6_give rfl rfl dX11_carryOut_121 e4 (Nat.le_of_ble_eq_true rfl) k (fun h2 k => ?_)
    exact jr_vret rfl dX11_carryOut_124 k
  · have k := k.1 c99
    refine jr_aload_n 0 dX11_carryOut_102 rfl rfl ?_
    refine jr_iload 3 dX11_carryOut_103 rfl ?_
    refine jr_ldc (v := 999999) jk_X11_161 dX11_carryOut_105 ?_
    obtain ⟨fs7, e8, k⟩ := k
    refine jr_cVi (As := [.int x6, .int 999999]) jl_X11_214 km_X6_payBack rfl rfl dX11_carryOut_107 e8 (Nat.le_of_ble_eq_true rfl) k (fun r5 h6 k => ?_)
    refine jr_pop dX11_carryOut_110 rfl ?_
    refine jr_goto (tgt := 124) dX11_carryOut_111 (by decide) ?_
    exact jr_vret rfl dX11_carryOut_124 k
set_option maxRecDepth 20000 in
theorem bX11_debtIn_0 {g : jG} {d : Nat} {hs : jH} {P : jO → jH → Prop} {x0 : Nat} {x1 : Int32} {x2 : Int32} {h : jH} (k : ∃ fs3 : List Value, h.1 x0 = some (.inr (11, fs3)) ∧ Con g mX11_checkHouse d [.ref x0, .int x1] h (jPv (fun (h2 : jH) => ∃ fs7 : List Value, h2.1 x0 = some (.inr (11, fs7)) ∧ Con g mX11_streetIn d [.ref x0, .int x2] h2 (jPr (fun (r5 : Nat) (h6 : jH) => ∃ fs9 : List Value, h6.1 r5 = some (.inr (6, fs9)) ∧ ∃ v12 : Nat, fs9[7]? = some (.ref v12) ∧ ∃ (n13 : Nat) (f14 : Nat → Int32), h6.1 v12 = some (.inl (0, (n13, .inl f14))) ∧ vp_in x1 n13 ∧ P (.inl (some (.int ((f14 x1.toNatClampNeg))))) h6) (fun E h' => P (.inr E) h'))) (fun E h' => P (.inr E) h'))) : J g mX11_debtIn (d + 1) hs P 0 [(0, .ref x0), (1, .int x1), (2, .int x2)] [] h := by
  refine jr_aload_n 0 dX11_debtIn_0 rfl rfl ?_
  refine jr_iload_n 1 dX11_debtIn_1 rfl rfl ?_
  obtain ⟨fs3, e4, k⟩ := k
  refine jr_cVv (As := [.int x1]) jl_X11_121 km_X11_checkHouse rfl rfl dX11_debtIn_2 e4 (Nat.le_of_ble_eq_true rfl) k (fun h2 k => ?_)
  refine jr_aload_n 0 dX11_debtIn_5 rfl rfl ?_
  refine jr_iload_n 2 dX11_debtIn_6 rfl rfl ?_
  obtain ⟨fs7, e8, k⟩ := k
  refine jr_cVr (As := [.int x2]) jl_X11_284 km_X11_streetIn rfl rfl dX11_debtIn_7 e8 (Nat.le_of_ble_eq_true rfl) k (fun r5 h6 k => ?_)
  obtain ⟨fs9, e10, v12, e11, k⟩ := k
  refine jr_get jf_X11_124 dX11_debtIn_10 e10 e11 ?_
  refine jr_iload_n 1 dX11_debtIn_13 rfl rfl ?_
  obtain ⟨n13, f14, e15, e16, k⟩ := k
  refine jr_iald dX11_debtIn_14 e15 e16 ?_
  exact jr_iret (ty := .int) rfl rfl dX11_debtIn_15 k
set_option maxRecDepth 20000 in
theorem bX11_cashIn_0 {g : jG} {d : Nat} {hs : jH} {P : jO → jH → Prop} {x0 : Nat} {x1 : Int32} {x2 : Int32} {h : jH} (k : ∃ fs3 : List Value, h.1 x0 = some (.inr (11, fs3)) ∧ Con g mX11_checkHouse d [.ref x0, .int x1] h (jPv (fun (h2 : jH) => ∃ fs7 : List Value, h2.1 x0 = some (.inr (11, fs7)) ∧ Con g mX11_streetIn d [.ref x0, .int x2] h2 (jPr (fun (r5 : Nat) (h6 : jH) => ∃ fs9 : List Value, h6.1 r5 = some (.inr (6, fs9)) ∧ ∃ v12 : Nat, fs9[5]? = some (.ref v12) ∧ ∃ (n13 : Nat) (f14 : Nat → Int32), h6.1 v12 = some (.inl (0, (n13, .inl f14))) ∧ vp_in x1 n13 ∧ P (.inl (some (.int ((f14 x1.toNatClampNeg))))) h6) (fun E h' => P (.inr E) h'))) (fun E h' => P (.inr E) h'))) : J g mX11_cashIn (d + 1) hs P 0 [(0, .ref x0), (1, .int x1), (2, .int x2)] [] h := by
  refine jr_aload_n 0 dX11_cashIn_0 rfl rfl ?_
  refine jr_iload_n 1 dX11_cashIn_1 rfl rfl ?_
  obtain ⟨fs3, e4, k⟩ := k
  refine jr_cVv (As := [.int x1]) jl_X11_121 km_X11_checkHouse rfl rfl dX11_cashIn_2 e4 (Nat.le_of_ble_eq_true rfl) k (fun h2 k => ?_)
  refine jr_aload_n 0 dX11_cashIn_5 rfl rfl ?_
  refine jr_iload_n 2 dX11_cashIn_6 rfl rfl ?_
  obtain ⟨fs7, e8, k⟩ := k
  refine jr_cVr (As := [.int x2]) jl_X11_284 km_X11_streetIn rfl rfl dX11_cashIn_7 e8 (Nat.le_of_ble_eq_true rfl) k (fun r5 h6 k => ?_)
  obtain ⟨fs9, e10, v12, e11, k⟩ := k
  refine jr_get jf_X11_146 dX11_cashIn_10 e10 e11 ?_
  refine jr_iload_n 1 dX11_cashIn_13 rfl rfl ?_
  obtain ⟨n13, f14, e15, e16, k⟩ := k
  refine jr_iald dX11_cashIn_14 e15 e16 ?_
  exact jr_iret (ty := .int) rfl rfl dX11_cashIn_15 k
set_option maxRecDepth 20000 in
theorem bX11_seaIn_0 {g : jG} {d : Nat} {hs : jH} {P : jO → jH → Prop} {x0 : Nat} {x1 : Int32} {h : jH} (k : ∃ fs3 : List Value, h.1 x0 = some (.inr (11, fs3)) ∧ Con g mX11_streetIn d [.ref x0, .int x1] h (jPr (fun (r1 : Nat) (h2 : jH) => ∃ fs5 : List Value, h2.1 r1 = some (.inr (6, fs5)) ∧ ∃ v8 : Int32, fs5[1]? = some (.int v8) ∧ P (.inl (some (.int v8))) h2) (fun E h' => P (.inr E) h'))) : J g mX11_seaIn (d + 1) hs P 0 [(0, .ref x0), (1, .int x1)] [] h := by
  refine jr_aload_n 0 dX11_seaIn_0 rfl rfl ?_
  refine jr_iload_n 1 dX11_seaIn_1 rfl rfl ?_
  obtain ⟨fs3, e4, k⟩ := k
  refine jr_cVr (As := [.int x1]) jl_X11_284 km_X11_streetIn rfl rfl dX11_seaIn_2 e4 (Nat.le_of_ble_eq_true rfl) k (fun r1 h2 k => ?_)
  obtain ⟨fs5, e6, v8, e7, k⟩ := k
  refine jr_get jf_X11_288 dX11_seaIn_5 e6 e7 ?_
  exact jr_iret (ty := .int) rfl rfl dX11_seaIn_8 k
set_option maxRecDepth 20000 in
theorem bX11_streetIn_0 {g : jG} {d : Nat} {hs : jH} {P : jO → jH → Prop} {x0 : Nat} {x1 : Int32} {h : jH} (k : ∃ fs3 : List Value, h.1 x0 = some (.inr (11, fs3)) ∧ Con g mX11_checkWithin d [.ref x0, .int x1, .int 0, .int 200] h (jPv (fun (h2 : jH) => ∃ fs5 : List Value, h2.1 x0 = some (.inr (11, fs5)) ∧ ∃ v8 : Nat, fs5[10]? = some (.ref v8) ∧ ∃ fs9 : List Value, h2.1 x0 = some (.inr (11, fs9)) ∧ ∃ v12 : Nat, fs9[5]? = some (.ref v12) ∧ ∃ fs13 : List Value, h2.1 x0 = some (.inr (11, fs13)) ∧ ∃ v16 : Nat, fs13[6]? = some (.ref v16) ∧ ∃ fs19 : List Value, h2.1 v8 = some (.inr (0, fs19)) ∧ Con g mX0_from d [.ref v8, .ref v12, .ref v16] h2 (jPr (fun (r17 : Nat) (h18 : jH) => J g mX11_streetIn (d + 1) hs P 27 [(0, .ref x0), (1, .int x1), (2, .ref r17), (3, .int 0)] [] h18) (fun E h' => P (.inr E) h'))) (fun E h' => P (.inr E) h'))) : J g mX11_streetIn (d + 1) hs P 0 [(0, .ref x0), (1, .int x1)] [] h := by
  refine jr_aload_n 0 dX11_streetIn_0 rfl rfl ?_
  refine jr_iload_n 1 dX11_streetIn_1 rfl rfl ?_
  refine jr_iconst (v := 0) dX11_streetIn_2 (by decide) ?_
  refine jr_sipush (v := 200) dX11_streetIn_3 (by decide) ?_
  obtain ⟨fs3, e4, k⟩ := k
  refine jr_cVv (As := [.int x1, .int 0, .int 200]) jl_X11_162 km_X11_checkWithin rfl rfl dX11_streetIn_6 e4 (Nat.le_of_ble_eq_true rfl) k (fun h2 k => ?_)
  refine jr_aload_n 0 dX11_streetIn_9 rfl rfl ?_
  obtain ⟨fs5, e6, v8, e7, k⟩ := k
  refine jr_get jf_X11_62 dX11_streetIn_10 e6 e7 ?_
  refine jr_aload_n 0 dX11_streetIn_13 rfl rfl ?_
  obtain ⟨fs9, e10, v12, e11, k⟩ := k
  refine jr_get jf_X11_20 dX11_streetIn_14 e10 e11 ?_
  refine jr_aload_n 0 dX11_streetIn_17 rfl rfl ?_
  obtain ⟨fs13, e14, v16, e15, k⟩ := k
  refine jr_get jf_X11_34 dX11_streetIn_18 e14 e15 ?_
  obtain ⟨fs19, e20, k⟩ := k
  refine jr_cVr (As := [.ref v12, .ref v16]) jl_X11_237 km_X0_from rfl rfl dX11_streetIn_21 e20 (Nat.le_of_ble_eq_true rfl) k (fun r17 h18 k => ?_)
  refine jr_astore_n (lv' := [(2, .ref r17), (0, .ref x0), (1, .int x1)]) dX11_streetIn_24 rfl (by decide) rfl ?_
  refine jr_iconst (v := 0) dX11_streetIn_25 (by decide) ?_
  refine jr_istore_n (lv' := [(3, .int 0), (2, .ref r17), (0, .ref x0), (1, .int x1)]) dX11_streetIn_26 rfl (by decide) rfl ?_
  exact jr_sub [2, 3, 1, 0] rfl k
set_option maxRecDepth 20000 in
theorem bX11_streetIn_27 {g : jG} {d : Nat} {hs : jH} {P : jO → jH → Prop} {x0 : Nat} {x1 : Int32} {x2 : Nat} {x3 : Int32} {h : jH} (k : (x3 < x1 → ∃ fs1 : List Value, h.1 x0 = some (.inr (11, fs1)) ∧ ∃ v4 : Nat, fs1[10]? = some (.ref v4) ∧ ∃ fs5 : List Value, h.1 x0 = some (.inr (11, fs5)) ∧ ∃ v8 : Nat, fs5[5]? = some (.ref v8) ∧ ∃ fs9 : List Value, h.1 x0 = some (.inr (11, fs9)) ∧ ∃ v12 : Nat, fs9[5]? = some (.ref v12) ∧ ∃ fs13 : List Value, h.1 v12 = some (.inr (9, fs13)) ∧ ∃ v16 : Int32, fs13[3]? = some (.int v16) ∧ ∃ fs19 : List Value, h.1 v4 = some (.inr (0, fs19)) ∧ Con g mX0_pass d [.ref v4, .ref v8, .ref x2, .int v16] h (jPv (fun (h18 : jH) => J g mX11_streetIn (d + 1) hs P 27 [(0, .ref x0), (1, .int x1), (2, .ref x2), (3, .int (x3 + 1))] [] h18) (fun E h' => P (.inr E) h'))) ∧ (¬ x3 < x1 → P (.inl (some (.ref x2))) h)) : J g mX11_streetIn (d + 1) hs P 27 [(0, .ref x0), (1, .int x1), (2, .ref x2), (3, .int x3)] [] h := by
  refine jr_iload_n 3 dX11_streetIn_27 rfl rfl ?_
  refine jr_iload_n 1 dX11_streetIn_28 rfl rfl ?_
  refine jr_icmp_ge (tgt := 57) dX11_streetIn_29 (by decide) (fun c29 => ?_) (fun c29 => ?_)
  · have k := k.2 c29
    refine jr_aload_n 2 dX11_streetIn_57 rfl rfl ?_
    exact jr_aret rfl (Or.inl ⟨_, rfl⟩) dX11_streetIn_58 k
  · have k := k.1 c29
    refine jr_aload_n 0 dX11_streetIn_32 rfl rfl ?_
    obtain ⟨fs1, e2, v4, e3, k⟩ := k
    refine jr_get jf_X11_62 dX11_streetIn_33 e2 e3 ?_
    refine jr_aload_n 0 dX11_streetIn_36 rfl rfl ?_
    obtain ⟨fs5, e6, v8, e7, k⟩ := k
    refine jr_get jf_X11_20 dX11_streetIn_37 e6 e7 ?_
    refine jr_aload_n 2 dX11_streetIn_40 rfl rfl ?_
    refine jr_aload_n 0 dX11_streetIn_41 rfl rfl ?_
    obtain ⟨fs9, e10, v12, e11, k⟩ := k
    refine jr_get jf_X11_20 dX11_streetIn_42 e10 e11 ?_
    obtain ⟨fs13, e14, v16, e15, k⟩ := k
    refine jr_get jf_X11_217 dX11_streetIn_45 e14 e15 ?_
    obtain ⟨fs19, e20, k⟩ := k
    refine jr_cVv (As := [.ref v8, .ref x2, .int v16]) jl_X11_220 km_X0_pass rfl rfl dX11_streetIn_48 e20 (Nat.le_of_ble_eq_true rfl) k (fun h18 k => ?_)
    refine jr_iinc (v := (x3 + 1)) (lv' := [(3, .int (x3 + 1)), (0, .ref x0), (1, .int x1), (2, .ref x2)]) 3 dX11_streetIn_51 rfl rfl (by decide) rfl ?_
    refine jr_goto (tgt := 27) dX11_streetIn_54 (by decide) ?_
    exact jr_sub [1, 2, 3, 0] rfl k
set_option maxRecDepth 20000 in
theorem bX11_ruinIn_0 {g : jG} {d : Nat} {hs : jH} {P : jO → jH → Prop} {x0 : Nat} {x1 : Int32} {h : jH} (k : ∃ fs3 : List Value, h.1 x0 = some (.inr (11, fs3)) ∧ Con g mX11_checkHouse d [.ref x0, .int x1] h (jPv (fun (h2 : jH) => ∃ fs5 : List Value, h2.1 x0 = some (.inr (11, fs5)) ∧ ∃ v8 : Nat, fs5[10]? = some (.ref v8) ∧ ∃ fs9 : List Value, h2.1 x0 = some (.inr (11, fs9)) ∧ ∃ v12 : Nat, fs9[5]? = some (.ref v12) ∧ ∃ fs13 : List Value, h2.1 x0 = some (.inr (11, fs13)) ∧ ∃ v16 : Nat, fs13[6]? = some (.ref v16) ∧ ∃ fs19 : List Value, h2.1 v8 = some (.inr (0, fs19)) ∧ Con g mX0_from d [.ref v8, .ref v12, .ref v16] h2 (jPr (fun (r17 : Nat) (h18 : jH) => J g mX11_ruinIn (d + 1) hs P 23 [(0, .ref x0), (1, .int x1), (2, .ref r17), (3, .int 0)] [] h18) (fun E h' => P (.inr E) h'))) (fun E h' => P (.inr E) h'))) : J g mX11_ruinIn (d + 1) hs P 0 [(0, .ref x0), (1, .int x1)] [] h := by
  refine jr_aload_n 0 dX11_ruinIn_0 rfl rfl ?_
  refine jr_iload_n 1 dX11_ruinIn_1 rfl rfl ?_
  obtain ⟨fs3, e4, k⟩ := k
  refine jr_cVv (As := [.int x1]) jl_X11_121 km_X11_checkHouse rfl rfl dX11_ruinIn_2 e4 (Nat.le_of_ble_eq_true rfl) k (fun h2 k => ?_)
  refine jr_aload_n 0 dX11_ruinIn_5 rfl rfl ?_
  obtain ⟨fs5, e6, v8, e7, k⟩ := k
  refine jr_get jf_X11_62 dX11_ruinIn_6 e6 e7 ?_
  refine jr_aload_n 0 dX11_ruinIn_9 rfl rfl ?_
  obtain ⟨fs9, e10, v12, e11, k⟩ := k
  refine jr_get jf_X11_20 dX11_ruinIn_10 e10 e11 ?_
  refine jr_aload_n 0 dX11_ruinIn_13 rfl rfl ?_
  obtain ⟨fs13, e14, v16, e15, k⟩ := k
  refine jr_get jf_X11_34 dX11_ruinIn_14 e14 e15 ?_
  obtain ⟨fs19, e20, k⟩ := k
  refine jr_cVr (As := [.ref v12, .ref v16]) jl_X11_237 km_X0_from rfl rfl dX11_ruinIn_17 e20 (Nat.le_of_ble_eq_true rfl) k (fun r17 h18 k => ?_)
  refine jr_astore_n (lv' := [(2, .ref r17), (0, .ref x0), (1, .int x1)]) dX11_ruinIn_20 rfl (by decide) rfl ?_
  refine jr_iconst (v := 0) dX11_ruinIn_21 (by decide) ?_
  refine jr_istore_n (lv' := [(3, .int 0), (2, .ref r17), (0, .ref x0), (1, .int x1)]) dX11_ruinIn_22 rfl (by decide) rfl ?_
  exact jr_sub [2, 3, 1, 0] rfl k
set_option maxRecDepth 20000 in
theorem bX11_ruinIn_23 {g : jG} {d : Nat} {hs : jH} {P : jO → jH → Prop} {x0 : Nat} {x1 : Int32} {x2 : Nat} {x3 : Int32} {h : jH} (k : (200 < x3 → P (.inl (some (.int ((-1))))) h) ∧ (¬ 200 < x3 → ∃ fs3 : List Value, h.1 x2 = some (.inr (6, fs3)) ∧ Con g mX6_isGone d [.ref x2, .int x1] h (jPi (fun (r1 : Int32) (h2 : jH) => (r1 = 0 → ∃ fs5 : List Value, h2.1 x0 = some (.inr (11, fs5)) ∧ ∃ v8 : Nat, fs5[10]? = some (.ref v8) ∧ ∃ fs9 : List Value, h2.1 x0 = some (.inr (11, fs9)) ∧ ∃ v12 : Nat, fs9[5]? = some (.ref v12) ∧ ∃ fs13 : List Value, h2.1 x0 = some (.inr (11, fs13)) ∧ ∃ v16 : Nat, fs13[5]? = some (.ref v16) ∧ ∃ fs17 : List Value, h2.1 v16 = some (.inr (9, fs17)) ∧ ∃ v20 : Int32, fs17[3]? = some (.int v20) ∧ ∃ fs23 : List Value, h2.1 v8 = some (.inr (0, fs23)) ∧ Con g mX0_pass d [.ref v8, .ref v12, .ref x2, .int v20] h2 (jPv (fun (h22 : jH) => J g mX11_ruinIn (d + 1) hs P 23 [(0, .ref x0), (1, .int x1), (2, .ref x2), (3, .int (x3 + 1))] [] h22) (fun E h' => P (.inr E) h'))) ∧ (¬ r1 = 0 → P (.inl (some (.int x3))) h2)) (fun E h' => P (.inr E) h')))) : J g mX11_ruinIn (d + 1) hs P 23 [(0, .ref x0), (1, .int x1), (2, .ref x2), (3, .int x3)] [] h := by
  refine jr_iload_n 3 dX11_ruinIn_23 rfl rfl ?_
  refine jr_sipush (v := 200) dX11_ruinIn_24 (by decide) ?_
  refine jr_icmp_gt (tgt := 65) dX11_ruinIn_27 (by decide) (fun c27 => ?_) (fun c27 => ?_)
  · have k := k.1 c27
    refine jr_iconst (v := (-1)) dX11_ruinIn_65 (by decide) ?_
    exact jr_iret (ty := .int) rfl rfl dX11_ruinIn_66 k
  · have k := k.2 c27
    refine jr_aload_n 2 dX11_ruinIn_30 rfl rfl ?_
    refine jr_iload_n 1 dX11_ruinIn_31 rfl rfl ?_
    obtain ⟨fs3, e4, k⟩ := k
    refine jr_cVi (As := [.int x1]) jl_X11_183 km_X6_isGone rfl rfl dX11_ruinIn_32 e4 (Nat.le_of_ble_eq_true rfl) k (fun r1 h2 k => ?_)
    refine jr_if_eq (tgt := 40) dX11_ruinIn_35 (by decide) (fun c35 => ?_) (fun c35 => ?_)
    · have k := k.1 c35
      refine jr_aload_n 0 dX11_ruinIn_40 rfl rfl ?_
      obtain ⟨fs5, e6, v8, e7, k⟩ := k
      refine jr_get jf_X11_62 dX11_ruinIn_41 e6 e7 ?_
      refine jr_aload_n 0 dX11_ruinIn_44 rfl rfl ?_
      obtain ⟨fs9, e10, v12, e11, k⟩ := k
      refine jr_get jf_X11_20 dX11_ruinIn_45 e10 e11 ?_
      refine jr_aload_n 2 dX11_ruinIn_48 rfl rfl ?_
      refine jr_aload_n 0 dX11_ruinIn_49 rfl rfl ?_
      obtain ⟨fs13, e14, v16, e15, k⟩ := k
      refine jr_get jf_X11_20 dX11_ruinIn_50 e14 e15 ?_
      obtain ⟨fs17, e18, v20, e19, k⟩ := k
      refine jr_get jf_X11_217 dX11_ruinIn_53 e18 e19 ?_
      obtain ⟨fs23, e24, k⟩ := k
      refine jr_cVv (As := [.ref v12, .ref x2, .int v20]) jl_X11_220 km_X0_pass rfl rfl dX11_ruinIn_56 e24 (Nat.le_of_ble_eq_true rfl) k (fun h22 k => ?_)
      refine jr_iinc (v := (x3 + 1)) (lv' := [(3, .int (x3 + 1)), (0, .ref x0), (1, .int x1), (2, .ref x2)]) 3 dX11_ruinIn_59 rfl rfl (by decide) rfl ?_
      refine jr_goto (tgt := 23) dX11_ruinIn_62 (by decide) ?_
      exact jr_sub [1, 2, 3, 0] rfl k
    · have k := k.2 c35
      refine jr_iload_n 3 dX11_ruinIn_38 rfl rfl ?_
      exact jr_iret (ty := .int) rfl rfl dX11_ruinIn_39 k
set_option maxRecDepth 20000 in
theorem bX11_lost_0 {g : jG} {d : Nat} {hs : jH} {P : jO → jH → Prop} {x0 : Nat} {x1 : Int32} {h : jH} (k : ∃ fs3 : List Value, h.1 x0 = some (.inr (11, fs3)) ∧ Con g mX11_checkNear d [.ref x0, .int x1] h (jPv (fun (h2 : jH) => ∃ fs7 : List Value, h2.1 x0 = some (.inr (11, fs7)) ∧ Con g mX11_lostNow d [.ref x0, .int x1] h2 (jPi (fun (r5 : Int32) (h6 : jH) => P (.inl (some (.int r5))) h6) (fun E h' => P (.inr E) h'))) (fun E h' => P (.inr E) h'))) : J g mX11_lost (d + 1) hs P 0 [(0, .ref x0), (1, .int x1)] [] h := by
  refine jr_aload_n 0 dX11_lost_0 rfl rfl ?_
  refine jr_iload_n 1 dX11_lost_1 rfl rfl ?_
  obtain ⟨fs3, e4, k⟩ := k
  refine jr_cVv (As := [.int x1]) jl_X11_291 km_X11_checkNear rfl rfl dX11_lost_2 e4 (Nat.le_of_ble_eq_true rfl) k (fun h2 k => ?_)
  refine jr_aload_n 0 dX11_lost_5 rfl rfl ?_
  refine jr_iload_n 1 dX11_lost_6 rfl rfl ?_
  obtain ⟨fs7, e8, k⟩ := k
  refine jr_cVi (As := [.int x1]) jl_X11_294 km_X11_lostNow rfl rfl dX11_lost_7 e8 (Nat.le_of_ble_eq_true rfl) k (fun r5 h6 k => ?_)
  exact jr_iret (ty := .int) rfl rfl dX11_lost_10 k
set_option maxRecDepth 20000 in
theorem bX11_clear_0 {g : jG} {d : Nat} {hs : jH} {P : jO → jH → Prop} {x0 : Nat} {h : jH} (k : ∃ fs1 : List Value, h.1 x0 = some (.inr (11, fs1)) ∧ ∃ v4 : Nat, fs1[10]? = some (.ref v4) ∧ ∃ fs5 : List Value, h.1 x0 = some (.inr (11, fs5)) ∧ ∃ v8 : Nat, fs5[5]? = some (.ref v8) ∧ ∃ fs9 : List Value, h.1 x0 = some (.inr (11, fs9)) ∧ ∃ v12 : Nat, fs9[6]? = some (.ref v12) ∧ ∃ fs15 : List Value, h.1 v4 = some (.inr (0, fs15)) ∧ Con g mX0_from d [.ref v4, .ref v8, .ref v12] h (jPr (fun (r13 : Nat) (h14 : jH) => J g mX11_clear (d + 1) hs P 18 [(0, .ref x0), (1, .ref r13), (2, .int 0)] [] h14) (fun E h' => P (.inr E) h'))) : J g mX11_clear (d + 1) hs P 0 [(0, .ref x0)] [] h := by
  refine jr_aload_n 0 dX11_clear_0 rfl rfl ?_
  obtain ⟨fs1, e2, v4, e3, k⟩ := k
  refine jr_get jf_X11_62 dX11_clear_1 e2 e3 ?_
  refine jr_aload_n 0 dX11_clear_4 rfl rfl ?_
  obtain ⟨fs5, e6, v8, e7, k⟩ := k
  refine jr_get jf_X11_20 dX11_clear_5 e6 e7 ?_
  refine jr_aload_n 0 dX11_clear_8 rfl rfl ?_
  obtain ⟨fs9, e10, v12, e11, k⟩ := k
  refine jr_get jf_X11_34 dX11_clear_9 e10 e11 ?_
  obtain ⟨fs15, e16, k⟩ := k
  refine jr_cVr (As := [.ref v8, .ref v12]) jl_X11_237 km_X0_from rfl rfl dX11_clear_12 e16 (Nat.le_of_ble_eq_true rfl) k (fun r13 h14 k => ?_)
  refine jr_astore_n (lv' := [(1, .ref r13), (0, .ref x0)]) dX11_clear_15 rfl (by decide) rfl ?_
  refine jr_iconst (v := 0) dX11_clear_16 (by decide) ?_
  refine jr_istore_n (lv' := [(2, .int 0), (1, .ref r13), (0, .ref x0)]) dX11_clear_17 rfl (by decide) rfl ?_
  exact jr_sub [2, 1, 0] rfl k
set_option maxRecDepth 20000 in
theorem bX11_clear_18 {g : jG} {d : Nat} {hs : jH} {P : jO → jH → Prop} {x0 : Nat} {x1 : Nat} {x2 : Int32} {h : jH} (k : (200 < x2 → P (.inl (some (.int ((-1))))) h) ∧ (¬ 200 < x2 → ∃ fs1 : List Value, h.1 x1 = some (.inr (6, fs1)) ∧ ∃ v4 : Nat, fs1[7]? = some (.ref v4) ∧ ∃ fs7 : List Value, h.1 x1 = some (.inr (6, fs7)) ∧ Con g mX6_sum d [.ref x1, .ref v4] h (jPi (fun (r5 : Int32) (h6 : jH) => (r5 = 0 → P (.inl (some (.int x2))) h6) ∧ (¬ r5 = 0 → ∃ fs9 : List Value, h6.1 x0 = some (.inr (11, fs9)) ∧ ∃ v12 : Nat, fs9[10]? = some (.ref v12) ∧ ∃ fs13 : List Value, h6.1 x0 = some (.inr (11, fs13)) ∧ ∃ v16 : Nat, fs13[5]? = some (.ref v16) ∧ ∃ fs17 : List Value, h6.1 x0 = some (.inr (11, fs17)) ∧ ∃ v20 : Nat, fs17[5]? = some (.ref v20) ∧ ∃ fs21 : List Value, h6.1 v20 = some (.inr (9, fs21)) ∧ ∃ v24 : Int32, fs21[3]? = some (.int v24) ∧ ∃ fs27 : List Value, h6.1 v12 = some (.inr (0, fs27)) ∧ Con g mX0_pass d [.ref v12, .ref v16, .ref x1, .int v24] h6 (jPv (fun (h26 : jH) => J g mX11_clear (d + 1) hs P 18 [(0, .ref x0), (1, .ref x1), (2, .int (x2 + 1))] [] h26) (fun E h' => P (.inr E) h')))) (fun E h' => P (.inr E) h')))) : J g mX11_clear (d + 1) hs P 18 [(0, .ref x0), (1, .ref x1), (2, .int x2)] [] h := by
  refine jr_iload_n 2 dX11_clear_18 rfl rfl ?_
  refine jr_sipush (v := 200) dX11_clear_19 (by decide) ?_
  refine jr_icmp_gt (tgt := 63) dX11_clear_22 (by decide) (fun c22 => ?_) (fun c22 => ?_)
  · have k := k.1 c22
    refine jr_iconst (v := (-1)) dX11_clear_63 (by decide) ?_
    exact jr_iret (ty := .int) rfl rfl dX11_clear_64 k
  · have k := k.2 c22
    refine jr_aload_n 1 dX11_clear_25 rfl rfl ?_
    refine jr_aload_n 1 dX11_clear_26 rfl rfl ?_
    obtain ⟨fs1, e2, v4, e3, k⟩ := k
    refine jr_get jf_X11_124 dX11_clear_27 e2 e3 ?_
    obtain ⟨fs7, e8, k⟩ := k
    refine jr_cVi (As := [.ref v4]) jl_X11_254 km_X6_sum rfl rfl dX11_clear_30 e8 (Nat.le_of_ble_eq_true rfl) k (fun r5 h6 k => ?_)
    refine jr_if_ne (tgt := 38) dX11_clear_33 (by decide) (fun c33 => ?_) (fun c33 => ?_)
    · have k := k.2 c33
      refine jr_aload_n 0 dX11_clear_38 rfl rfl ?_
      obtain ⟨fs9, e10, v12, e11, k⟩ := k
      refine jr_get jf_X11_62 dX11_clear_39 e10 e11 ?_
      refine jr_aload_n 0 dX11_clear_42 rfl rfl ?_
      obtain ⟨fs13, e14, v16, e15, k⟩ := k
      refine jr_get jf_X11_20 dX11_clear_43 e14 e15 ?_
      refine jr_aload_n 1 dX11_clear_46 rfl rfl ?_
      refine jr_aload_n 0 dX11_clear_47 rfl rfl ?_
      obtain ⟨fs17, e18, v20, e19, k⟩ := k
      refine jr_get jf_X11_20 dX11_clear_48 e18 e19 ?_
      obtain ⟨fs21, e22, v24, e23, k⟩ := k
      refine jr_get jf_X11_217 dX11_clear_51 e22 e23 ?_
      obtain ⟨fs27, e28, k⟩ := k
      refine jr_cVv (As := [.ref v16, .ref x1, .int v24]) jl_X11_220 km_X0_pass rfl rfl dX11_clear_54 e28 (Nat.le_of_ble_eq_true rfl) k (fun h26 k => ?_)
      refine jr_iinc (v := (x2 + 1)) (lv' := [(2, .int (x2 + 1)), (0, .ref x0), (1, .ref x1)]) 2 dX11_clear_57 rfl rfl (by decide) rfl ?_
      refine jr_goto (tgt := 18) dX11_clear_60 (by decide) ?_
      exact jr_sub [1, 2, 0] rfl k
    · have k := k.1 c33
      refine jr_iload_n 2 dX11_clear_36 rfl rfl ?_
      exact jr_iret (ty := .int) rfl rfl dX11_clear_37 k
set_option maxRecDepth 20000 in
theorem bX11_burden_0 {g : jG} {d : Nat} {hs : jH} {P : jO → jH → Prop} {x0 : Nat} {x1 : Int32} {x2 : Int32} {h : jH} (k : ∃ fs3 : List Value, h.1 x0 = some (.inr (11, fs3)) ∧ Con g mX11_checkHouse d [.ref x0, .int x1] h (jPv (fun (h2 : jH) => ∃ fs7 : List Value, h2.1 x0 = some (.inr (11, fs7)) ∧ Con g mX11_checkNear d [.ref x0, .int x2] h2 (jPv (fun (h6 : jH) => ∃ fs9 : List Value, h6.1 x0 = some (.inr (11, fs9)) ∧ ∃ v12 : Nat, fs9[10]? = some (.ref v12) ∧ ∃ fs13 : List Value, h6.1 x0 = some (.inr (11, fs13)) ∧ ∃ v16 : Nat, fs13[5]? = some (.ref v16) ∧ ∃ fs17 : List Value, h6.1 x0 = some (.inr (11, fs17)) ∧ ∃ v20 : Nat, fs17[6]? = some (.ref v20) ∧ ∃ fs23 : List Value, h6.1 v12 = some (.inr (0, fs23)) ∧ Con g mX0_from d [.ref v12, .ref v16, .ref v20] h6 (jPr (fun (r21 : Nat) (h22 : jH) => ∃ fs25 : List Value, h22.1 x0 = some (.inr (11, fs25)) ∧ ∃ v28 : Nat, fs25[10]? = some (.ref v28) ∧ ∃ fs31 : List Value, h22.1 v28 = some (.inr (0, fs31)) ∧ Con g mX0_addBurdens d [.ref v28, .int x2] h22 (jPv (fun (h30 : jH) => ∃ fs33 : List Value, h30.1 x0 = some (.inr (11, fs33)) ∧ ∃ v36 : Nat, fs33[10]? = some (.ref v36) ∧ ∃ fs37 : List Value, h30.1 v36 = some (.inr (0, fs37)) ∧ ∃ v40 : Nat, fs37[3]? = some (.ref v40) ∧ ∃ (n41 : Nat) (f42 : Nat → Int64), h30.1 v40 = some (.inl (3, (n41, .inr (.inl f42)))) ∧ vp_in x1 n41 ∧ P (.inl (some (.long ((f42 x1.toNatClampNeg))))) h30) (fun E h' => P (.inr E) h'))) (fun E h' => P (.inr E) h'))) (fun E h' => P (.inr E) h'))) (fun E h' => P (.inr E) h'))) : J g mX11_burden (d + 1) hs P 0 [(0, .ref x0), (1, .int x1), (2, .int x2)] [] h := by
  refine jr_aload_n 0 dX11_burden_0 rfl rfl ?_
  refine jr_iload_n 1 dX11_burden_1 rfl rfl ?_
  obtain ⟨fs3, e4, k⟩ := k
  refine jr_cVv (As := [.int x1]) jl_X11_121 km_X11_checkHouse rfl rfl dX11_burden_2 e4 (Nat.le_of_ble_eq_true rfl) k (fun h2 k => ?_)
  refine jr_aload_n 0 dX11_burden_5 rfl rfl ?_
  refine jr_iload_n 2 dX11_burden_6 rfl rfl ?_
  obtain ⟨fs7, e8, k⟩ := k
  refine jr_cVv (As := [.int x2]) jl_X11_291 km_X11_checkNear rfl rfl dX11_burden_7 e8 (Nat.le_of_ble_eq_true rfl) k (fun h6 k => ?_)
  refine jr_aload_n 0 dX11_burden_10 rfl rfl ?_
  obtain ⟨fs9, e10, v12, e11, k⟩ := k
  refine jr_get jf_X11_62 dX11_burden_11 e10 e11 ?_
  refine jr_aload_n 0 dX11_burden_14 rfl rfl ?_
  obtain ⟨fs13, e14, v16, e15, k⟩ := k
  refine jr_get jf_X11_20 dX11_burden_15 e14 e15 ?_
  refine jr_aload_n 0 dX11_burden_18 rfl rfl ?_
  obtain ⟨fs17, e18, v20, e19, k⟩ := k
  refine jr_get jf_X11_34 dX11_burden_19 e18 e19 ?_
  obtain ⟨fs23, e24, k⟩ := k
  refine jr_cVr (As := [.ref v16, .ref v20]) jl_X11_237 km_X0_from rfl rfl dX11_burden_22 e24 (Nat.le_of_ble_eq_true rfl) k (fun r21 h22 k => ?_)
  refine jr_pop dX11_burden_25 rfl ?_
  refine jr_aload_n 0 dX11_burden_26 rfl rfl ?_
  obtain ⟨fs25, e26, v28, e27, k⟩ := k
  refine jr_get jf_X11_62 dX11_burden_27 e26 e27 ?_
  refine jr_iload_n 2 dX11_burden_30 rfl rfl ?_
  obtain ⟨fs31, e32, k⟩ := k
  refine jr_cVv (As := [.int x2]) jl_X11_297 km_X0_addBurdens rfl rfl dX11_burden_31 e32 (Nat.le_of_ble_eq_true rfl) k (fun h30 k => ?_)
  refine jr_aload_n 0 dX11_burden_34 rfl rfl ?_
  obtain ⟨fs33, e34, v36, e35, k⟩ := k
  refine jr_get jf_X11_62 dX11_burden_35 e34 e35 ?_
  obtain ⟨fs37, e38, v40, e39, k⟩ := k
  refine jr_get jf_X11_300 dX11_burden_38 e38 e39 ?_
  refine jr_iload_n 1 dX11_burden_41 rfl rfl ?_
  obtain ⟨n41, f42, e43, e44, k⟩ := k
  refine jr_lald dX11_burden_42 e43 e44 ?_
  exact jr_lret rfl dX11_burden_43 k
set_option maxRecDepth 20000 in
theorem bX11_heaviest_0 {g : jG} {d : Nat} {hs : jH} {P : jO → jH → Prop} {x0 : Nat} {x1 : Int32} {h : jH} (k : ∃ fs3 : List Value, h.1 x0 = some (.inr (11, fs3)) ∧ Con g mX11_checkNear d [.ref x0, .int x1] h (jPv (fun (h2 : jH) => ∃ fs5 : List Value, h2.1 x0 = some (.inr (11, fs5)) ∧ ∃ v8 : Nat, fs5[10]? = some (.ref v8) ∧ ∃ fs9 : List Value, h2.1 x0 = some (.inr (11, fs9)) ∧ ∃ v12 : Nat, fs9[5]? = some (.ref v12) ∧ ∃ fs13 : List Value, h2.1 x0 = some (.inr (11, fs13)) ∧ ∃ v16 : Nat, fs13[6]? = some (.ref v16) ∧ ∃ fs19 : List Value, h2.1 v8 = some (.inr (0, fs19)) ∧ Con g mX0_from d [.ref v8, .ref v12, .ref v16] h2 (jPr (fun (r17 : Nat) (h18 : jH) => ∃ fs21 : List Value, h18.1 x0 = some (.inr (11, fs21)) ∧ ∃ v24 : Nat, fs21[10]? = some (.ref v24) ∧ ∃ fs27 : List Value, h18.1 v24 = some (.inr (0, fs27)) ∧ Con g mX0_addBurdens d [.ref v24, .int x1] h18 (jPv (fun (h26 : jH) => J g mX11_heaviest (d + 1) hs P 33 [(0, .ref x0), (2, .int (-1)), (3, .int 0)] [] h26) (fun E h' => P (.inr E) h'))) (fun E h' => P (.inr E) h'))) (fun E h' => P (.inr E) h'))) : J g mX11_heaviest (d + 1) hs P 0 [(0, .ref x0), (1, .int x1)] [] h := by
  refine jr_aload_n 0 dX11_heaviest_0 rfl rfl ?_
  refine jr_iload_n 1 dX11_heaviest_1 rfl rfl ?_
  obtain ⟨fs3, e4, k⟩ := k
  refine jr_cVv (As := [.int x1]) jl_X11_291 km_X11_checkNear rfl rfl dX11_heaviest_2 e4 (Nat.le_of_ble_eq_true rfl) k (fun h2 k => ?_)
  refine jr_aload_n 0 dX11_heaviest_5 rfl rfl ?_
  obtain ⟨fs5, e6, v8, e7, k⟩ := k
  refine jr_get jf_X11_62 dX11_heaviest_6 e6 e7 ?_
  refine jr_aload_n 0 dX11_heaviest_9 rfl rfl ?_
  obtain ⟨fs9, e10, v12, e11, k⟩ := k
  refine jr_get jf_X11_20 dX11_heaviest_10 e10 e11 ?_
  refine jr_aload_n 0 dX11_heaviest_13 rfl rfl ?_
  obtain ⟨fs13, e14, v16, e15, k⟩ := k
  refine jr_get jf_X11_34 dX11_heaviest_14 e14 e15 ?_
  obtain ⟨fs19, e20, k⟩ := k
  refine jr_cVr (As := [.ref v12, .ref v16]) jl_X11_237 km_X0_from rfl rfl dX11_heaviest_17 e20 (Nat.le_of_ble_eq_true rfl) k (fun r17 h18 k => ?_)
  refine jr_pop dX11_heaviest_20 rfl ?_
  refine jr_aload_n 0 dX11_heaviest_21 rfl rfl ?_
  obtain ⟨fs21, e22, v24, e23, k⟩ := k
  refine jr_get jf_X11_62 dX11_heaviest_22 e22 e23 ?_
  refine jr_iload_n 1 dX11_heaviest_25 rfl rfl ?_
  obtain ⟨fs27, e28, k⟩ := k
  refine jr_cVv (As := [.int x1]) jl_X11_297 km_X0_addBurdens rfl rfl dX11_heaviest_26 e28 (Nat.le_of_ble_eq_true rfl) k (fun h26 k => ?_)
  refine jr_iconst (v := (-1)) dX11_heaviest_29 (by decide) ?_
  refine jr_istore_n (lv' := [(2, .int (-1)), (0, .ref x0), (1, .int x1)]) dX11_heaviest_30 rfl (by decide) rfl ?_
  refine jr_iconst (v := 0) dX11_heaviest_31 (by decide) ?_
  refine jr_istore_n (lv' := [(3, .int 0), (2, .int (-1)), (0, .ref x0), (1, .int x1)]) dX11_heaviest_32 rfl (by decide) rfl ?_
  exact jr_sub [2, 1, 0] rfl k
set_option maxRecDepth 20000 in
theorem bX11_heaviest_33 {g : jG} {d : Nat} {hs : jH} {P : jO → jH → Prop} {x0 : Nat} {x2 : Int32} {x3 : Int32} {h : jH} (k : ∃ fs1 : List Value, h.1 x0 = some (.inr (11, fs1)) ∧ ∃ v4 : Nat, fs1[6]? = some (.ref v4) ∧ ∃ fs5 : List Value, h.1 v4 = some (.inr (6, fs5)) ∧ ∃ v8 : Int32, fs5[0]? = some (.int v8) ∧ (x3 < v8 → (x3 < 7 → (x2 = (-1) → J g mX11_heaviest (d + 1) hs P 33 [(0, .ref x0), (2, .int x3), (3, .int (x3 + 1))] [] h) ∧ (¬ x2 = (-1) → ∃ fs9 : List Value, h.1 x0 = some (.inr (11, fs9)) ∧ ∃ v12 : Nat, fs9[10]? = some (.ref v12) ∧ ∃ fs13 : List Value, h.1 v12 = some (.inr (0, fs13)) ∧ ∃ v16 : Nat, fs13[3]? = some (.ref v16) ∧ ∃ (n17 : Nat) (f18 : Nat → Int64), h.1 v16 = some (.inl (3, (n17, .inr (.inl f18)))) ∧ vp_in x3 n17 ∧ ∃ fs21 : List Value, h.1 x0 = some (.inr (11, fs21)) ∧ ∃ v24 : Nat, fs21[10]? = some (.ref v24) ∧ ∃ fs25 : List Value, h.1 v24 = some (.inr (0, fs25)) ∧ ∃ v28 : Nat, fs25[3]? = some (.ref v28) ∧ ∃ (n29 : Nat) (f30 : Nat → Int64), h.1 v28 = some (.inl (3, (n29, .inr (.inl f30)))) ∧ vp_in x2 n29 ∧ ((f30 x2.toNatClampNeg) < (f18 x3.toNatClampNeg) → J g mX11_heaviest (d + 1) hs P 33 [(0, .ref x0), (2, .int x3), (3, .int (x3 + 1))] [] h) ∧ (¬ (f30 x2.toNatClampNeg) < (f18 x3.toNatClampNeg) → J g mX11_heaviest (d + 1) hs P 33 [(0, .ref x0), (2, .int x2), (3, .int (x3 + 1))] [] h))) ∧ (¬ x3 < 7 → P (.inl (some (.int x2))) h)) ∧ (¬ x3 < v8 → P (.inl (some (.int x2))) h)) : J g mX11_heaviest (d + 1) hs P 33 [(0, .ref x0), (2, .int x2), (3, .int x3)] [] h := by
  refine jr_iload_n 2 dX11_heaviest_33 rfl rfl ?_
  refine jr_aload_n 0 dX11_heaviest_34 rfl rfl ?_
  obtain ⟨fs1, e2, v4, e3, k⟩ := k
  refine jr_get jf_X11_34 dX11_heaviest_35 e2 e3 ?_
  obtain ⟨fs5, e6, v8, e7, k⟩ := k
  refine jr_get jf_X11_131 dX11_heaviest_38 e6 e7 ?_
  refine jr_icmp_ge (tgt := 85) dX11_heaviest_41 (by decide) (fun c41 => ?_) (fun c41 => ?_)
  · have k := k.2 c41
    refine jr_iload_n 1 dX11_heaviest_85 rfl rfl ?_
    exact jr_iret (ty := .int) rfl rfl dX11_heaviest_86 k
  · have k := k.1 c41
    refine jr_iload_n 2 dX11_heaviest_44 rfl rfl ?_
    refine jr_bipush (v := 7) dX11_heaviest_45 (by decide) ?_
    refine jr_icmp_ge (tgt := 85) dX11_heaviest_47 (by decide) (fun c47 => ?_) (fun c47 => ?_)
    · have k := k.2 c47
      refine jr_iload_n 1 dX11_heaviest_85 rfl rfl ?_
      exact jr_iret (ty := .int) rfl rfl dX11_heaviest_86 k
    · have k := k.1 c47
      refine jr_iload_n 1 dX11_heaviest_50 rfl rfl ?_
      refine jr_iconst (v := (-1)) dX11_heaviest_51 (by decide) ?_
      refine jr_icmp_eq (tgt := 77) dX11_heaviest_52 (by decide) (fun c52 => ?_) (fun c52 => ?_)
      · have k := k.1 c52
        refine jr_iload_n 2 dX11_heaviest_77 rfl rfl ?_
        refine jr_istore_n (lv' := [(2, .int x3), (0, .ref x0), (3, .int x3)]) dX11_heaviest_78 rfl (by decide) rfl ?_
        refine jr_iinc (v := (x3 + 1)) (lv' := [(3, .int (x3 + 1)), (2, .int x3), (0, .ref x0)]) 2 dX11_heaviest_79 rfl rfl (by decide) rfl ?_
        refine jr_goto (tgt := 33) dX11_heaviest_82 (by decide) ?_
        exact jr_sub [2, 1, 0] rfl k
      · have k := k.2 c52
        refine jr_aload_n 0 dX11_heaviest_55 rfl rfl ?_
        obtain ⟨fs9, e10, v12, e11, k⟩ := k
        refine jr_get jf_X11_62 dX11_heaviest_56 e10 e11 ?_
        obtain ⟨fs13, e14, v16, e15, k⟩ := k
        refine jr_get jf_X11_300 dX11_heaviest_59 e14 e15 ?_
        refine jr_iload_n 2 dX11_heaviest_62 rfl rfl ?_
        obtain ⟨n17, f18, e19, e20, k⟩ := k
        refine jr_lald dX11_heaviest_63 e19 e20 ?_
        refine jr_aload_n 0 dX11_heaviest_64 rfl rfl ?_
        obtain ⟨fs21, e22, v24, e23, k⟩ := k
        refine jr_get jf_X11_62 dX11_heaviest_65 e22 e23 ?_
        obtain ⟨fs25, e26, v28, e27, k⟩ := k
        refine jr_get jf_X11_300 dX11_heaviest_68 e26 e27 ?_
        refine jr_iload_n 1 dX11_heaviest_71 rfl rfl ?_
        obtain ⟨n29, f30, e31, e32, k⟩ := k
        refine jr_lald dX11_heaviest_72 e31 e32 ?_
        refine jr_lcmp_le (tgt := 79) dX11_heaviest_73 dX11_heaviest_74 (by decide) (fun c73 => ?_) (fun c73 => ?_)
        · have k := k.2 c73
          refine jr_iinc (v := (x3 + 1)) (lv' := [(3, .int (x3 + 1)), (0, .ref x0), (2, .int x2)]) 2 dX11_heaviest_79 rfl rfl (by decide) rfl ?_
          refine jr_goto (tgt := 33) dX11_heaviest_82 (by decide) ?_
          exact jr_sub [1, 2, 0] rfl k
        · have k := k.1 c73
          refine jr_iload_n 2 dX11_heaviest_77 rfl rfl ?_
          refine jr_istore_n (lv' := [(2, .int x3), (0, .ref x0), (3, .int x3)]) dX11_heaviest_78 rfl (by decide) rfl ?_
          refine jr_iinc (v := (x3 + 1)) (lv' := [(3, .int (x3 + 1)), (2, .int x3), (0, .ref x0)]) 2 dX11_heaviest_79 rfl rfl (by decide) rfl ?_
          refine jr_goto (tgt := 33) dX11_heaviest_82 (by decide) ?_
          exact jr_sub [2, 1, 0] rfl k
set_option maxRecDepth 20000 in
theorem bX11_paid_0 {g : jG} {d : Nat} {hs : jH} {P : jO → jH → Prop} {x0 : Nat} {x1 : Int32} {h : jH} (k : ∃ fs3 : List Value, h.1 x0 = some (.inr (11, fs3)) ∧ Con g mX11_checkNear d [.ref x0, .int x1] h (jPv (fun (h2 : jH) => ∃ fs5 : List Value, h2.1 x0 = some (.inr (11, fs5)) ∧ ∃ v8 : Nat, fs5[10]? = some (.ref v8) ∧ ∃ fs9 : List Value, h2.1 x0 = some (.inr (11, fs9)) ∧ ∃ v12 : Nat, fs9[5]? = some (.ref v12) ∧ ∃ fs13 : List Value, h2.1 x0 = some (.inr (11, fs13)) ∧ ∃ v16 : Nat, fs13[6]? = some (.ref v16) ∧ ∃ fs19 : List Value, h2.1 v8 = some (.inr (0, fs19)) ∧ Con g mX0_from d [.ref v8, .ref v12, .ref v16] h2 (jPr (fun (r17 : Nat) (h18 : jH) => J g mX11_paid (d + 1) hs P 26 [(0, .ref x0), (1, .int x1), (2, .ref r17), (3, .long 0), (5, .int 0)] [] h18) (fun E h' => P (.inr E) h'))) (fun E h' => P (.inr E) h'))) : J g mX11_paid (d + 1) hs P 0 [(0, .ref x0), (1, .int x1)] [] h := by
  refine jr_aload_n 0 dX11_paid_0 rfl rfl ?_
  refine jr_iload_n 1 dX11_paid_1 rfl rfl ?_
  obtain ⟨fs3, e4, k⟩ := k
  refine jr_cVv (As := [.int x1]) jl_X11_291 km_X11_checkNear rfl rfl dX11_paid_2 e4 (Nat.le_of_ble_eq_true rfl) k (fun h2 k => ?_)
  refine jr_aload_n 0 dX11_paid_5 rfl rfl ?_
  obtain ⟨fs5, e6, v8, e7, k⟩ := k
  refine jr_get jf_X11_62 dX11_paid_6 e6 e7 ?_
  refine jr_aload_n 0 dX11_paid_9 rfl rfl ?_
  obtain ⟨fs9, e10, v12, e11, k⟩ := k
  refine jr_get jf_X11_20 dX11_paid_10 e10 e11 ?_
  refine jr_aload_n 0 dX11_paid_13 rfl rfl ?_
  obtain ⟨fs13, e14, v16, e15, k⟩ := k
  refine jr_get jf_X11_34 dX11_paid_14 e14 e15 ?_
  obtain ⟨fs19, e20, k⟩ := k
  refine jr_cVr (As := [.ref v12, .ref v16]) jl_X11_237 km_X0_from rfl rfl dX11_paid_17 e20 (Nat.le_of_ble_eq_true rfl) k (fun r17 h18 k => ?_)
  refine jr_astore_n (lv' := [(2, .ref r17), (0, .ref x0), (1, .int x1)]) dX11_paid_20 rfl (by decide) rfl ?_
  refine jr_lconst (v := 0) dX11_paid_21 (by decide) ?_
  refine jr_lstore_n (lv' := [(3, .long 0), (2, .ref r17), (0, .ref x0), (1, .int x1)]) dX11_paid_22 rfl (by decide) rfl ?_
  refine jr_iconst (v := 0) dX11_paid_23 (by decide) ?_
  refine jr_istore (lv' := [(5, .int 0), (3, .long 0), (2, .ref r17), (0, .ref x0), (1, .int x1)]) dX11_paid_24 (by decide) rfl ?_
  exact jr_sub [3, 4, 2, 1, 0] rfl k
set_option maxRecDepth 20000 in
theorem bX11_paid_26 {g : jG} {d : Nat} {hs : jH} {P : jO → jH → Prop} {x0 : Nat} {x1 : Int32} {x2 : Nat} {x3 : Int64} {x5 : Int32} {h : jH} (k : (x5 < x1 → ∃ fs1 : List Value, h.1 x0 = some (.inr (11, fs1)) ∧ ∃ v4 : Nat, fs1[10]? = some (.ref v4) ∧ ∃ fs5 : List Value, h.1 x0 = some (.inr (11, fs5)) ∧ ∃ v8 : Nat, fs5[5]? = some (.ref v8) ∧ ∃ fs9 : List Value, h.1 x0 = some (.inr (11, fs9)) ∧ ∃ v12 : Nat, fs9[5]? = some (.ref v12) ∧ ∃ fs13 : List Value, h.1 v12 = some (.inr (9, fs13)) ∧ ∃ v16 : Int32, fs13[3]? = some (.int v16) ∧ ∃ fs19 : List Value, h.1 v4 = some (.inr (0, fs19)) ∧ Con g mX0_pass d [.ref v4, .ref v8, .ref x2, .int v16] h (jPv (fun (h18 : jH) => ∃ fs21 : List Value, h18.1 x0 = some (.inr (11, fs21)) ∧ ∃ v24 : Nat, fs21[10]? = some (.ref v24) ∧ ∃ fs25 : List Value, h18.1 v24 = some (.inr (0, fs25)) ∧ ∃ v28 : Int32, fs25[1]? = some (.int v28) ∧ J g mX11_paid (d + 1) hs P 26 [(0, .ref x0), (1, .int x1), (2, .ref x2), (3, .long (x3 + v28.toInt64)), (5, .int (x5 + 1))] [] h18) (fun E h' => P (.inr E) h'))) ∧ (¬ x5 < x1 → P (.inl (some (.long x3))) h)) : J g mX11_paid (d + 1) hs P 26 [(0, .ref x0), (1, .int x1), (2, .ref x2), (3, .long x3), (5, .int x5)] [] h := by
  refine jr_iload 4 dX11_paid_26 rfl ?_
  refine jr_iload_n 1 dX11_paid_28 rfl rfl ?_
  refine jr_icmp_ge (tgt := 68) dX11_paid_29 (by decide) (fun c29 => ?_) (fun c29 => ?_)
  · have k := k.2 c29
    refine jr_lload_n 3 dX11_paid_68 rfl rfl ?_
    exact jr_lret rfl dX11_paid_69 k
  · have k := k.1 c29
    refine jr_aload_n 0 dX11_paid_32 rfl rfl ?_
    obtain ⟨fs1, e2, v4, e3, k⟩ := k
    refine jr_get jf_X11_62 dX11_paid_33 e2 e3 ?_
    refine jr_aload_n 0 dX11_paid_36 rfl rfl ?_
    obtain ⟨fs5, e6, v8, e7, k⟩ := k
    refine jr_get jf_X11_20 dX11_paid_37 e6 e7 ?_
    refine jr_aload_n 2 dX11_paid_40 rfl rfl ?_
    refine jr_aload_n 0 dX11_paid_41 rfl rfl ?_
    obtain ⟨fs9, e10, v12, e11, k⟩ := k
    refine jr_get jf_X11_20 dX11_paid_42 e10 e11 ?_
    obtain ⟨fs13, e14, v16, e15, k⟩ := k
    refine jr_get jf_X11_217 dX11_paid_45 e14 e15 ?_
    obtain ⟨fs19, e20, k⟩ := k
    refine jr_cVv (As := [.ref v8, .ref x2, .int v16]) jl_X11_220 km_X0_pass rfl rfl dX11_paid_48 e20 (Nat.le_of_ble_eq_true rfl) k (fun h18 k => ?_)
    refine jr_lload_n 3 dX11_paid_51 rfl rfl ?_
    refine jr_aload_n 0 dX11_paid_52 rfl rfl ?_
    obtain ⟨fs21, e22, v24, e23, k⟩ := k
    refine jr_get jf_X11_62 dX11_paid_53 e22 e23 ?_
    obtain ⟨fs25, e26, v28, e27, k⟩ := k
    refine jr_get jf_X11_304 dX11_paid_56 e26 e27 ?_
    refine jr_i2l dX11_paid_59 ?_
    refine jr_ladd dX11_paid_60 ?_
    refine jr_lstore_n (lv' := [(3, .long (x3 + v28.toInt64)), (0, .ref x0), (1, .int x1), (2, .ref x2), (5, .int x5)]) dX11_paid_61 rfl (by decide) rfl ?_
    refine jr_iinc (v := (x5 + 1)) (lv' := [(5, .int (x5 + 1)), (3, .long (x3 + v28.toInt64)), (0, .ref x0), (1, .int x1), (2, .ref x2)]) 4 dX11_paid_62 rfl rfl (by decide) rfl ?_
    refine jr_goto (tgt := 26) dX11_paid_65 (by decide) ?_
    exact jr_sub [2, 3, 4, 1, 0] rfl k
set_option maxRecDepth 20000 in
theorem bX11_checkNear_0 {g : jG} {d : Nat} {hs : jH} {P : jO → jH → Prop} {x0 : Nat} {x1 : Int32} {h : jH} (k : ∃ fs3 : List Value, h.1 x0 = some (.inr (11, fs3)) ∧ Con g mX11_checkWithin d [.ref x0, .int x1, .int 1, .int 20] h (jPv (fun (h2 : jH) => P (.inl none) h2) (fun E h' => P (.inr E) h'))) : J g mX11_checkNear (d + 1) hs P 0 [(0, .ref x0), (1, .int x1)] [] h := by
  refine jr_aload_n 0 dX11_checkNear_0 rfl rfl ?_
  refine jr_iload_n 1 dX11_checkNear_1 rfl rfl ?_
  refine jr_iconst (v := 1) dX11_checkNear_2 (by decide) ?_
  refine jr_bipush (v := 20) dX11_checkNear_3 (by decide) ?_
  obtain ⟨fs3, e4, k⟩ := k
  refine jr_cVv (As := [.int x1, .int 1, .int 20]) jl_X11_162 km_X11_checkWithin rfl rfl dX11_checkNear_5 e4 (Nat.le_of_ble_eq_true rfl) k (fun h2 k => ?_)
  exact jr_vret rfl dX11_checkNear_8 k
set_option maxRecDepth 20000 in
theorem bX11_lostNow_0 {g : jG} {d : Nat} {hs : jH} {P : jO → jH → Prop} {x0 : Nat} {x1 : Int32} {h : jH} (k : ∃ fs1 : List Value, h.1 x0 = some (.inr (11, fs1)) ∧ ∃ v4 : Nat, fs1[10]? = some (.ref v4) ∧ ∃ fs5 : List Value, h.1 x0 = some (.inr (11, fs5)) ∧ ∃ v8 : Nat, fs5[5]? = some (.ref v8) ∧ ∃ fs9 : List Value, h.1 x0 = some (.inr (11, fs9)) ∧ ∃ v12 : Nat, fs9[6]? = some (.ref v12) ∧ ∃ fs15 : List Value, h.1 v4 = some (.inr (0, fs15)) ∧ Con g mX0_from d [.ref v4, .ref v8, .ref v12] h (jPr (fun (r13 : Nat) (h14 : jH) => ∃ fs17 : List Value, h14.1 x0 = some (.inr (11, fs17)) ∧ ∃ v20 : Nat, fs17[10]? = some (.ref v20) ∧ ∃ fs23 : List Value, h14.1 v20 = some (.inr (0, fs23)) ∧ Con g mX0_losses d [.ref v20, .int x1, .int 7] h14 (jPi (fun (r21 : Int32) (h22 : jH) => P (.inl (some (.int r21))) h22) (fun E h' => P (.inr E) h'))) (fun E h' => P (.inr E) h'))) : J g mX11_lostNow (d + 1) hs P 0 [(0, .ref x0), (1, .int x1)] [] h := by
  refine jr_aload_n 0 dX11_lostNow_0 rfl rfl ?_
  obtain ⟨fs1, e2, v4, e3, k⟩ := k
  refine jr_get jf_X11_62 dX11_lostNow_1 e2 e3 ?_
  refine jr_aload_n 0 dX11_lostNow_4 rfl rfl ?_
  obtain ⟨fs5, e6, v8, e7, k⟩ := k
  refine jr_get jf_X11_20 dX11_lostNow_5 e6 e7 ?_
  refine jr_aload_n 0 dX11_lostNow_8 rfl rfl ?_
  obtain ⟨fs9, e10, v12, e11, k⟩ := k
  refine jr_get jf_X11_34 dX11_lostNow_9 e10 e11 ?_
  obtain ⟨fs15, e16, k⟩ := k
  refine jr_cVr (As := [.ref v8, .ref v12]) jl_X11_237 km_X0_from rfl rfl dX11_lostNow_12 e16 (Nat.le_of_ble_eq_true rfl) k (fun r13 h14 k => ?_)
  refine jr_pop dX11_lostNow_15 rfl ?_
  refine jr_aload_n 0 dX11_lostNow_16 rfl rfl ?_
  obtain ⟨fs17, e18, v20, e19, k⟩ := k
  refine jr_get jf_X11_62 dX11_lostNow_17 e18 e19 ?_
  refine jr_iload_n 1 dX11_lostNow_20 rfl rfl ?_
  refine jr_bipush (v := 7) dX11_lostNow_21 (by decide) ?_
  obtain ⟨fs23, e24, k⟩ := k
  refine jr_cVi (As := [.int x1, .int 7]) jl_X11_307 km_X0_losses rfl rfl dX11_lostNow_23 e24 (Nat.le_of_ble_eq_true rfl) k (fun r21 h22 k => ?_)
  exact jr_iret (ty := .int) rfl rfl dX11_lostNow_26 k
set_option maxRecDepth 20000 in
theorem bX11_order_0 {g : jG} {d : Nat} {hs : jH} {P : jO → jH → Prop} {x0 : Nat} {x1 : Int32} {x2 : Int32} {h : jH} (k : ∃ fs3 : List Value, h.1 x0 = some (.inr (11, fs3)) ∧ Con g mX11_checkNear d [.ref x0, .int x1] h (jPv (fun (h2 : jH) => (x2 = 0 → J g mX11_order (d + 1) hs P 18 [(0, .ref x0), (1, .int x1), (2, .int x2)] [] h2) ∧ (¬ x2 = 0 → ∃ fs7 : List Value, h2.1 x0 = some (.inr (11, fs7)) ∧ Con g mX11_checkWithin d [.ref x0, .int x2, .int 10, .int 16] h2 (jPv (fun (h6 : jH) => J g mX11_order (d + 1) hs P 18 [(0, .ref x0), (1, .int x1), (2, .int x2)] [] h6) (fun E h' => P (.inr E) h')))) (fun E h' => P (.inr E) h'))) : J g mX11_order (d + 1) hs P 0 [(0, .ref x0), (1, .int x1), (2, .int x2)] [] h := by
  refine jr_aload_n 0 dX11_order_0 rfl rfl ?_
  refine jr_iload_n 1 dX11_order_1 rfl rfl ?_
  obtain ⟨fs3, e4, k⟩ := k
  refine jr_cVv (As := [.int x1]) jl_X11_291 km_X11_checkNear rfl rfl dX11_order_2 e4 (Nat.le_of_ble_eq_true rfl) k (fun h2 k => ?_)
  refine jr_iload_n 2 dX11_order_5 rfl rfl ?_
  refine jr_if_eq (tgt := 18) dX11_order_6 (by decide) (fun c6 => ?_) (fun c6 => ?_)
  · have k := k.1 c6
    exact jr_sub [0, 1, 2] rfl k
  · have k := k.2 c6
    refine jr_aload_n 0 dX11_order_9 rfl rfl ?_
    refine jr_iload_n 2 dX11_order_10 rfl rfl ?_
    refine jr_bipush (v := 10) dX11_order_11 (by decide) ?_
    refine jr_bipush (v := 16) dX11_order_13 (by decide) ?_
    obtain ⟨fs7, e8, k⟩ := k
    refine jr_cVv (As := [.int x2, .int 10, .int 16]) jl_X11_162 km_X11_checkWithin rfl rfl dX11_order_15 e8 (Nat.le_of_ble_eq_true rfl) k (fun h6 k => ?_)
    exact jr_sub [0, 1, 2] rfl k
set_option maxRecDepth 20000 in
theorem bX11_order_18 {g : jG} {d : Nat} {hs : jH} {P : jO → jH → Prop} {x0 : Nat} {x1 : Int32} {x2 : Int32} {h : jH} (k : ∃ fs1 : List Value, h.1 x0 = some (.inr (11, fs1)) ∧ ∃ v4 : Nat, fs1[11]? = some (.ref v4) ∧ ∃ fs5 : List Value, h.1 x0 = some (.inr (11, fs5)) ∧ ∃ v8 : Nat, fs5[10]? = some (.ref v8) ∧ ∃ fs9 : List Value, h.1 x0 = some (.inr (11, fs9)) ∧ ∃ v12 : Nat, fs9[5]? = some (.ref v12) ∧ ∃ fs13 : List Value, h.1 x0 = some (.inr (11, fs13)) ∧ ∃ v16 : Nat, fs13[6]? = some (.ref v16) ∧ ∃ fs19 : List Value, h.1 v4 = some (.inr (4, fs19)) ∧ Con g mX4_search d [.ref v4, .ref v8, .ref v12, .ref v16, .int x1, .int 0] h (jPv (fun (h18 : jH) => (x2 = 0 → ∃ fs41 : List Value, h18.1 x0 = some (.inr (11, fs41)) ∧ ∃ v44 : Nat, fs41[11]? = some (.ref v44) ∧ ∃ fs45 : List Value, h18.1 v44 = some (.inr (4, fs45)) ∧ ∃ v48 : Int32, fs45[1]? = some (.int v48) ∧ P (.inl (some (.int v48))) h18) ∧ (¬ x2 = 0 → ∃ fs21 : List Value, h18.1 x0 = some (.inr (11, fs21)) ∧ ∃ v24 : Nat, fs21[6]? = some (.ref v24) ∧ ∃ fs27 : List Value, h18.1 v24 = some (.inr (6, fs27)) ∧ Con g mX6_has d [.ref v24, .int (x2 - 10)] h18 (jPi (fun (r25 : Int32) (h26 : jH) => (r25 = 0 → P (.inl (some (.int ((-1))))) h26) ∧ (¬ r25 = 0 → ∃ fs29 : List Value, h26.1 x0 = some (.inr (11, fs29)) ∧ ∃ v32 : Nat, fs29[11]? = some (.ref v32) ∧ ∃ fs33 : List Value, h26.1 v32 = some (.inr (4, fs33)) ∧ ∃ v36 : Nat, fs33[0]? = some (.ref v36) ∧ ∃ (n37 : Nat) (f38 : Nat → Int32), h26.1 v36 = some (.inl (0, (n37, .inl f38))) ∧ vp_in (x2 - 10) n37 ∧ P (.inl (some (.int ((f38 ((x2 - 10)).toNatClampNeg))))) h26)) (fun E h' => P (.inr E) h')))) (fun E h' => P (.inr E) h'))) : J g mX11_order (d + 1) hs P 18 [(0, .ref x0), (1, .int x1), (2, .int x2)] [] h := by
  refine jr_aload_n 0 dX11_order_18 rfl rfl ?_
  obtain ⟨fs1, e2, v4, e3, k⟩ := k
  refine jr_get jf_X11_69 dX11_order_19 e2 e3 ?_
  refine jr_aload_n 0 dX11_order_22 rfl rfl ?_
  obtain ⟨fs5, e6, v8, e7, k⟩ := k
  refine jr_get jf_X11_62 dX11_order_23 e6 e7 ?_
  refine jr_aload_n 0 dX11_order_26 rfl rfl ?_
  obtain ⟨fs9, e10, v12, e11, k⟩ := k
  refine jr_get jf_X11_20 dX11_order_27 e10 e11 ?_
  refine jr_aload_n 0 dX11_order_30 rfl rfl ?_
  obtain ⟨fs13, e14, v16, e15, k⟩ := k
  refine jr_get jf_X11_34 dX11_order_31 e14 e15 ?_
  refine jr_iload_n 1 dX11_order_34 rfl rfl ?_
  refine jr_iconst (v := 0) dX11_order_35 (by decide) ?_
  obtain ⟨fs19, e20, k⟩ := k
  refine jr_cVv (As := [.ref v8, .ref v12, .ref v16, .int x1, .int 0]) jl_X11_310 km_X4_search rfl rfl dX11_order_36 e20 (Nat.le_of_ble_eq_true rfl) k (fun h18 k => ?_)
  refine jr_iload_n 2 dX11_order_39 rfl rfl ?_
  refine jr_if_ne (tgt := 51) dX11_order_40 (by decide) (fun c40 => ?_) (fun c40 => ?_)
  · have k := k.2 c40
    refine jr_aload_n 0 dX11_order_51 rfl rfl ?_
    obtain ⟨fs21, e22, v24, e23, k⟩ := k
    refine jr_get jf_X11_34 dX11_order_52 e22 e23 ?_
    refine jr_iload_n 2 dX11_order_55 rfl rfl ?_
    refine jr_bipush (v := 10) dX11_order_56 (by decide) ?_
    refine jr_isub dX11_order_58 ?_
    obtain ⟨fs27, e28, k⟩ := k
    refine jr_cVi (As := [.int (x2 - 10)]) jl_X11_174 km_X6_has rfl rfl dX11_order_59 e28 (Nat.le_of_ble_eq_true rfl) k (fun r25 h26 k => ?_)
    refine jr_if_eq (tgt := 80) dX11_order_62 (by decide) (fun c62 => ?_) (fun c62 => ?_)
    · have k := k.1 c62
      refine jr_iconst (v := (-1)) dX11_order_80 (by decide) ?_
      exact jr_iret (ty := .int) rfl rfl dX11_order_81 k
    · have k := k.2 c62
      refine jr_aload_n 0 dX11_order_65 rfl rfl ?_
      obtain ⟨fs29, e30, v32, e31, k⟩ := k
      refine jr_get jf_X11_69 dX11_order_66 e30 e31 ?_
      obtain ⟨fs33, e34, v36, e35, k⟩ := k
      refine jr_get jf_X11_317 dX11_order_69 e34 e35 ?_
      refine jr_iload_n 2 dX11_order_72 rfl rfl ?_
      refine jr_bipush (v := 10) dX11_order_73 (by decide) ?_
      refine jr_isub dX11_order_75 ?_
      obtain ⟨n37, f38, e39, e40, k⟩ := k
      refine jr_iald dX11_order_76 e39 e40 ?_
      refine jr_goto (tgt := 81) dX11_order_77 (by decide) ?_
      exact jr_iret (ty := .int) rfl rfl dX11_order_81 k
  · have k := k.1 c40
    refine jr_aload_n 0 dX11_order_43 rfl rfl ?_
    obtain ⟨fs41, e42, v44, e43, k⟩ := k
    refine jr_get jf_X11_69 dX11_order_44 e42 e43 ?_
    obtain ⟨fs45, e46, v48, e47, k⟩ := k
    refine jr_get jf_X11_314 dX11_order_47 e46 e47 ?_
    exact jr_iret (ty := .int) rfl rfl dX11_order_50 k
set_option maxRecDepth 20000 in
theorem bX11_orders_0 {g : jG} {d : Nat} {hs : jH} {P : jO → jH → Prop} {x0 : Nat} {x1 : Int32} {h : jH} (k : ∃ fs3 : List Value, h.1 x0 = some (.inr (11, fs3)) ∧ Con g mX11_checkNear d [.ref x0, .int x1] h (jPv (fun (h2 : jH) => ∃ fs5 : List Value, h2.1 x0 = some (.inr (11, fs5)) ∧ ∃ v8 : Nat, fs5[11]? = some (.ref v8) ∧ ∃ fs9 : List Value, h2.1 x0 = some (.inr (11, fs9)) ∧ ∃ v12 : Nat, fs9[10]? = some (.ref v12) ∧ ∃ fs13 : List Value, h2.1 x0 = some (.inr (11, fs13)) ∧ ∃ v16 : Nat, fs13[5]? = some (.ref v16) ∧ ∃ fs17 : List Value, h2.1 x0 = some (.inr (11, fs17)) ∧ ∃ v20 : Nat, fs17[6]? = some (.ref v20) ∧ ∃ fs23 : List Value, h2.1 v8 = some (.inr (4, fs23)) ∧ Con g mX4_search d [.ref v8, .ref v12, .ref v16, .ref v20, .int x1, .int 1] h2 (jPv (fun (h22 : jH) => ∃ fs25 : List Value, h22.1 x0 = some (.inr (11, fs25)) ∧ ∃ v28 : Nat, fs25[11]? = some (.ref v28) ∧ ∃ fs29 : List Value, h22.1 v28 = some (.inr (4, fs29)) ∧ ∃ v32 : Int32, fs29[2]? = some (.int v32) ∧ P (.inl (some (.int v32))) h22) (fun E h' => P (.inr E) h'))) (fun E h' => P (.inr E) h'))) : J g mX11_orders (d + 1) hs P 0 [(0, .ref x0), (1, .int x1)] [] h := by
  refine jr_aload_n 0 dX11_orders_0 rfl rfl ?_
  refine jr_iload_n 1 dX11_orders_1 rfl rfl ?_
  obtain ⟨fs3, e4, k⟩ := k
  refine jr_cVv (As := [.int x1]) jl_X11_291 km_X11_checkNear rfl rfl dX11_orders_2 e4 (Nat.le_of_ble_eq_true rfl) k (fun h2 k => ?_)
  refine jr_aload_n 0 dX11_orders_5 rfl rfl ?_
  obtain ⟨fs5, e6, v8, e7, k⟩ := k
  refine jr_get jf_X11_69 dX11_orders_6 e6 e7 ?_
  refine jr_aload_n 0 dX11_orders_9 rfl rfl ?_
  obtain ⟨fs9, e10, v12, e11, k⟩ := k
  refine jr_get jf_X11_62 dX11_orders_10 e10 e11 ?_
  refine jr_aload_n 0 dX11_orders_13 rfl rfl ?_
  obtain ⟨fs13, e14, v16, e15, k⟩ := k
  refine jr_get jf_X11_20 dX11_orders_14 e14 e15 ?_
  refine jr_aload_n 0 dX11_orders_17 rfl rfl ?_
  obtain ⟨fs17, e18, v20, e19, k⟩ := k
  refine jr_get jf_X11_34 dX11_orders_18 e18 e19 ?_
  refine jr_iload_n 1 dX11_orders_21 rfl rfl ?_
  refine jr_iconst (v := 1) dX11_orders_22 (by decide) ?_
  obtain ⟨fs23, e24, k⟩ := k
  refine jr_cVv (As := [.ref v12, .ref v16, .ref v20, .int x1, .int 1]) jl_X11_310 km_X4_search rfl rfl dX11_orders_23 e24 (Nat.le_of_ble_eq_true rfl) k (fun h22 k => ?_)
  refine jr_aload_n 0 dX11_orders_26 rfl rfl ?_
  obtain ⟨fs25, e26, v28, e27, k⟩ := k
  refine jr_get jf_X11_69 dX11_orders_27 e26 e27 ?_
  obtain ⟨fs29, e30, v32, e31, k⟩ := k
  refine jr_get jf_X11_320 dX11_orders_30 e30 e31 ?_
  exact jr_iret (ty := .int) rfl rfl dX11_orders_33 k
set_option maxRecDepth 20000 in
theorem bX11_bestSwap_0 {g : jG} {d : Nat} {hs : jH} {P : jO → jH → Prop} {x0 : Nat} {x1 : Int32} {h : jH} (k : ∃ fs3 : List Value, h.1 x0 = some (.inr (11, fs3)) ∧ Con g mX11_checkNear d [.ref x0, .int x1] h (jPv (fun (h2 : jH) => ∃ fs7 : List Value, h2.1 x0 = some (.inr (11, fs7)) ∧ Con g mX11_lostNow d [.ref x0, .int x1] h2 (jPi (fun (r5 : Int32) (h6 : jH) => J g mX11_bestSwap (d + 1) hs P 16 [(0, .ref x0), (1, .int x1), (2, .int r5), (3, .int (-1)), (4, .int 0)] [] h6) (fun E h' => P (.inr E) h'))) (fun E h' => P (.inr E) h'))) : J g mX11_bestSwap (d + 1) hs P 0 [(0, .ref x0), (1, .int x1)] [] h := by
  refine jr_aload_n 0 dX11_bestSwap_0 rfl rfl ?_
  refine jr_iload_n 1 dX11_bestSwap_1 rfl rfl ?_
  obtain ⟨fs3, e4, k⟩ := k
  refine jr_cVv (As := [.int x1]) jl_X11_291 km_X11_checkNear rfl rfl dX11_bestSwap_2 e4 (Nat.le_of_ble_eq_true rfl) k (fun h2 k => ?_)
  refine jr_aload_n 0 dX11_bestSwap_5 rfl rfl ?_
  refine jr_iload_n 1 dX11_bestSwap_6 rfl rfl ?_
  obtain ⟨fs7, e8, k⟩ := k
  refine jr_cVi (As := [.int x1]) jl_X11_294 km_X11_lostNow rfl rfl dX11_bestSwap_7 e8 (Nat.le_of_ble_eq_true rfl) k (fun r5 h6 k => ?_)
  refine jr_istore_n (lv' := [(2, .int r5), (0, .ref x0), (1, .int x1)]) dX11_bestSwap_10 rfl (by decide) rfl ?_
  refine jr_iconst (v := (-1)) dX11_bestSwap_11 (by decide) ?_
  refine jr_istore_n (lv' := [(3, .int (-1)), (2, .int r5), (0, .ref x0), (1, .int x1)]) dX11_bestSwap_12 rfl (by decide) rfl ?_
  refine jr_iconst (v := 0) dX11_bestSwap_13 (by decide) ?_
  refine jr_istore (lv' := [(4, .int 0), (3, .int (-1)), (2, .int r5), (0, .ref x0), (1, .int x1)]) dX11_bestSwap_14 (by decide) rfl ?_
  exact jr_sub [3, 4, 2, 1, 0] rfl k
set_option maxRecDepth 20000 in
theorem bX11_bestSwap_16 {g : jG} {d : Nat} {hs : jH} {P : jO → jH → Prop} {x0 : Nat} {x1 : Int32} {x2 : Int32} {x3 : Int32} {x4 : Int32} {h : jH} (k : ∃ fs1 : List Value, h.1 x0 = some (.inr (11, fs1)) ∧ ∃ v4 : Nat, fs1[6]? = some (.ref v4) ∧ ∃ fs5 : List Value, h.1 v4 = some (.inr (6, fs5)) ∧ ∃ v8 : Int32, fs5[0]? = some (.int v8) ∧ (x4 < v8 → (x4 < 7 → J g mX11_bestSwap (d + 1) hs P 41 [(0, .ref x0), (1, .int x1), (2, .int x2), (3, .int x3), (4, .int x4), (5, .int (x4 + 1))] [] h) ∧ (¬ x4 < 7 → P (.inl (some (.int x3))) h)) ∧ (¬ x4 < v8 → P (.inl (some (.int x3))) h)) : J g mX11_bestSwap (d + 1) hs P 16 [(0, .ref x0), (1, .int x1), (2, .int x2), (3, .int x3), (4, .int x4)] [] h := by
  refine jr_iload 4 dX11_bestSwap_16 rfl ?_
  refine jr_aload_n 0 dX11_bestSwap_18 rfl rfl ?_
  obtain ⟨fs1, e2, v4, e3, k⟩ := k
  refine jr_get jf_X11_34 dX11_bestSwap_19 e2 e3 ?_
  obtain ⟨fs5, e6, v8, e7, k⟩ := k
  refine jr_get jf_X11_131 dX11_bestSwap_22 e6 e7 ?_
  refine jr_icmp_ge (tgt := 123) dX11_bestSwap_25 (by decide) (fun c25 => ?_) (fun c25 => ?_)
  · have k := k.2 c25
    refine jr_iload_n 3 dX11_bestSwap_123 rfl rfl ?_
    exact jr_iret (ty := .int) rfl rfl dX11_bestSwap_124 k
  · have k := k.1 c25
    refine jr_iload 4 dX11_bestSwap_28 rfl ?_
    refine jr_bipush (v := 7) dX11_bestSwap_30 (by decide) ?_
    refine jr_icmp_ge (tgt := 123) dX11_bestSwap_32 (by decide) (fun c32 => ?_) (fun c32 => ?_)
    · have k := k.2 c32
      refine jr_iload_n 3 dX11_bestSwap_123 rfl rfl ?_
      exact jr_iret (ty := .int) rfl rfl dX11_bestSwap_124 k
    · have k := k.1 c32
      refine jr_iload 4 dX11_bestSwap_35 rfl ?_
      refine jr_iconst (v := 1) dX11_bestSwap_37 (by decide) ?_
      refine jr_iadd dX11_bestSwap_38 ?_
      refine jr_istore (lv' := [(5, .int (x4 + 1)), (0, .ref x0), (1, .int x1), (2, .int x2), (3, .int x3), (4, .int x4)]) dX11_bestSwap_39 (by decide) rfl ?_
      exact jr_sub [1, 2, 3, 4, 5, 0] rfl k
set_option maxRecDepth 20000 in
theorem bX11_bestSwap_41 {g : jG} {d : Nat} {hs : jH} {P : jO → jH → Prop} {x0 : Nat} {x1 : Int32} {x2 : Int32} {x3 : Int32} {x4 : Int32} {x5 : Int32} {h : jH} (k : ∃ fs1 : List Value, h.1 x0 = some (.inr (11, fs1)) ∧ ∃ v4 : Nat, fs1[6]? = some (.ref v4) ∧ ∃ fs5 : List Value, h.1 v4 = some (.inr (6, fs5)) ∧ ∃ v8 : Int32, fs5[0]? = some (.int v8) ∧ (x5 < v8 → (x5 < 7 → ∃ fs9 : List Value, h.1 x0 = some (.inr (11, fs9)) ∧ ∃ v12 : Nat, fs9[10]? = some (.ref v12) ∧ ∃ fs13 : List Value, h.1 x0 = some (.inr (11, fs13)) ∧ ∃ v16 : Nat, fs13[5]? = some (.ref v16) ∧ ∃ fs17 : List Value, h.1 x0 = some (.inr (11, fs17)) ∧ ∃ v20 : Nat, fs17[6]? = some (.ref v20) ∧ ∃ fs23 : List Value, h.1 v12 = some (.inr (0, fs23)) ∧ Con g mX0_from d [.ref v12, .ref v16, .ref v20] h (jPr (fun (r21 : Nat) (h22 : jH) => ∃ fs27 : List Value, h22.1 r21 = some (.inr (6, fs27)) ∧ Con g mX6_exchange d [.ref r21, .int x4, .int x5] h22 (jPv (fun (h26 : jH) => ∃ fs29 : List Value, h26.1 x0 = some (.inr (11, fs29)) ∧ ∃ v32 : Nat, fs29[10]? = some (.ref v32) ∧ ∃ fs35 : List Value, h26.1 v32 = some (.inr (0, fs35)) ∧ Con g mX0_losses d [.ref v32, .int x1, .int x2] h26 (jPi (fun (r33 : Int32) (h34 : jH) => (r33 < x2 → J g mX11_bestSwap (d + 1) hs P 41 [(0, .ref x0), (1, .int x1), (2, .int r33), (3, .int ((x4 * 10) + x5)), (4, .int x4), (5, .int (x5 + 1))] [] h34) ∧ (¬ r33 < x2 → J g mX11_bestSwap (d + 1) hs P 41 [(0, .ref x0), (1, .int x1), (2, .int x2), (3, .int x3), (4, .int x4), (5, .int (x5 + 1))] [] h34)) (fun E h' => P (.inr E) h'))) (fun E h' => P (.inr E) h'))) (fun E h' => P (.inr E) h'))) ∧ (¬ x5 < 7 → J g mX11_bestSwap (d + 1) hs P 16 [(0, .ref x0), (1, .int x1), (2, .int x2), (3, .int x3), (4, .int (x4 + 1))] [] h)) ∧ (¬ x5 < v8 → J g mX11_bestSwap (d + 1) hs P 16 [(0, .ref x0), (1, .int x1), (2, .int x2), (3, .int x3), (4, .int (x4 + 1))] [] h)) : J g mX11_bestSwap (d + 1) hs P 41 [(0, .ref x0), (1, .int x1), (2, .int x2), (3, .int x3), (4, .int x4), (5, .int x5)] [] h := by
  refine jr_iload 5 dX11_bestSwap_41 rfl ?_
  refine jr_aload_n 0 dX11_bestSwap_43 rfl rfl ?_
  obtain ⟨fs1, e2, v4, e3, k⟩ := k
  refine jr_get jf_X11_34 dX11_bestSwap_44 e2 e3 ?_
  obtain ⟨fs5, e6, v8, e7, k⟩ := k
  refine jr_get jf_X11_131 dX11_bestSwap_47 e6 e7 ?_
  refine jr_icmp_ge (tgt := 117) dX11_bestSwap_50 (by decide) (fun c50 => ?_) (fun c50 => ?_)
  · have k := k.2 c50
    refine jr_iinc (v := (x4 + 1)) (lv' := [(4, .int (x4 + 1)), (0, .ref x0), (1, .int x1), (2, .int x2), (3, .int x3), (5, .int x5)]) 4 dX11_bestSwap_117 rfl rfl (by decide) rfl ?_
    refine jr_goto (tgt := 16) dX11_bestSwap_120 (by decide) ?_
    exact jr_sub [1, 2, 3, 4, 0] rfl k
  · have k := k.1 c50
    refine jr_iload 5 dX11_bestSwap_53 rfl ?_
    refine jr_bipush (v := 7) dX11_bestSwap_55 (by decide) ?_
    refine jr_icmp_ge (tgt := 117) dX11_bestSwap_57 (by decide) (fun c57 => ?_) (fun c57 => ?_)
    · have k := k.2 c57
      refine jr_iinc (v := (x4 + 1)) (lv' := [(4, .int (x4 + 1)), (0, .ref x0), (1, .int x1), (2, .int x2), (3, .int x3), (5, .int x5)]) 4 dX11_bestSwap_117 rfl rfl (by decide) rfl ?_
      refine jr_goto (tgt := 16) dX11_bestSwap_120 (by decide) ?_
      exact jr_sub [1, 2, 3, 4, 0] rfl k
    · have k := k.1 c57
      refine jr_aload_n 0 dX11_bestSwap_60 rfl rfl ?_
      obtain ⟨fs9, e10, v12, e11, k⟩ := k
      refine jr_get jf_X11_62 dX11_bestSwap_61 e10 e11 ?_
      refine jr_aload_n 0 dX11_bestSwap_64 rfl rfl ?_
      obtain ⟨fs13, e14, v16, e15, k⟩ := k
      refine jr_get jf_X11_20 dX11_bestSwap_65 e14 e15 ?_
      refine jr_aload_n 0 dX11_bestSwap_68 rfl rfl ?_
      obtain ⟨fs17, e18, v20, e19, k⟩ := k
      refine jr_get jf_X11_34 dX11_bestSwap_69 e18 e19 ?_
      obtain ⟨fs23, e24, k⟩ := k
      refine jr_cVr (As := [.ref v16, .ref v20]) jl_X11_237 km_X0_from rfl rfl dX11_bestSwap_72 e24 (Nat.le_of_ble_eq_true rfl) k (fun r21 h22 k => ?_)
      refine jr_iload 4 dX11_bestSwap_75 rfl ?_
      refine jr_iload 5 dX11_bestSwap_77 rfl ?_
      obtain ⟨fs27, e28, k⟩ := k
      refine jr_cVv (As := [.int x4, .int x5]) jl_X11_199 km_X6_exchange rfl rfl dX11_bestSwap_79 e28 (Nat.le_of_ble_eq_true rfl) k (fun h26 k => ?_)
      refine jr_aload_n 0 dX11_bestSwap_82 rfl rfl ?_
      obtain ⟨fs29, e30, v32, e31, k⟩ := k
      refine jr_get jf_X11_62 dX11_bestSwap_83 e30 e31 ?_
      refine jr_iload_n 1 dX11_bestSwap_86 rfl rfl ?_
      refine jr_iload_n 2 dX11_bestSwap_87 rfl rfl ?_
      obtain ⟨fs35, e36, k⟩ := k
      refine jr_cVi (As := [.int x1, .int x2]) jl_X11_307 km_X0_losses rfl rfl dX11_bestSwap_88 e36 (Nat.le_of_ble_eq_true rfl) k (fun r33 h34 k => ?_)
      refine jr_istore (lv' := [(6, .int r33), (0, .ref x0), (1, .int x1), (2, .int x2), (3, .int x3), (4, .int x4), (5, .int x5)]) dX11_bestSwap_91 (by decide) rfl ?_
      refine jr_iload 0 dX11_bestSwap_93 rfl ?_
      refine jr_iload_n 3 dX11_bestSwap_95 rfl rfl ?_
      refine jr_icmp_ge (tgt := 111) dX11_bestSwap_96 (by decide) (fun c96 => ?_) (fun c96 => ?_)
      · have k := k.2 c96
        refine jr_iinc (v := (x5 + 1)) (lv' := [(5, .int (x5 + 1)), (6, .int r33), (0, .ref x0), (1, .int x1), (2, .int x2), (3, .int x3), (4, .int x4)]) 6 dX11_bestSwap_111 rfl rfl (by decide) rfl ?_
        refine jr_goto (tgt := 41) dX11_bestSwap_114 (by decide) ?_
        exact jr_sub [2, 3, 4, 5, 6, 0] rfl k
      · have k := k.1 c96
        refine jr_iload 0 dX11_bestSwap_99 rfl ?_
        refine jr_istore_n (lv' := [(2, .int r33), (6, .int r33), (0, .ref x0), (1, .int x1), (3, .int x3), (4, .int x4), (5, .int x5)]) dX11_bestSwap_101 rfl (by decide) rfl ?_
        refine jr_iload 5 dX11_bestSwap_102 rfl ?_
        refine jr_bipush (v := 10) dX11_bestSwap_104 (by decide) ?_
        refine jr_imul dX11_bestSwap_106 ?_
        refine jr_iload 6 dX11_bestSwap_107 rfl ?_
        refine jr_iadd dX11_bestSwap_109 ?_
        refine jr_istore_n (lv' := [(3, .int ((x4 * 10) + x5)), (2, .int r33), (6, .int r33), (0, .ref x0), (1, .int x1), (4, .int x4), (5, .int x5)]) dX11_bestSwap_110 rfl (by decide) rfl ?_
        refine jr_iinc (v := (x5 + 1)) (lv' := [(5, .int (x5 + 1)), (3, .int ((x4 * 10) + x5)), (2, .int r33), (6, .int r33), (0, .ref x0), (1, .int x1), (4, .int x4)]) 6 dX11_bestSwap_111 rfl rfl (by decide) rfl ?_
        refine jr_goto (tgt := 41) dX11_bestSwap_114 (by decide) ?_
        exact jr_sub [4, 5, 2, 1, 6, 0] rfl k
set_option maxRecDepth 20000 in
theorem bX11_wouldSwap_0 {g : jG} {d : Nat} {hs : jH} {P : jO → jH → Prop} {x0 : Nat} {x1 : Int32} {h : jH} (k : ∃ fs3 : List Value, h.1 x0 = some (.inr (11, fs3)) ∧ Con g mX11_checkNear d [.ref x0, .int x1] h (jPv (fun (h2 : jH) => ∃ fs5 : List Value, h2.1 x0 = some (.inr (11, fs5)) ∧ ∃ v8 : Nat, fs5[10]? = some (.ref v8) ∧ ∃ fs9 : List Value, h2.1 x0 = some (.inr (11, fs9)) ∧ ∃ v12 : Nat, fs9[5]? = some (.ref v12) ∧ ∃ fs13 : List Value, h2.1 x0 = some (.inr (11, fs13)) ∧ ∃ v16 : Nat, fs13[6]? = some (.ref v16) ∧ ∃ fs19 : List Value, h2.1 v8 = some (.inr (0, fs19)) ∧ Con g mX0_from d [.ref v8, .ref v12, .ref v16] h2 (jPr (fun (r17 : Nat) (h18 : jH) => ∃ fs21 : List Value, h18.1 x0 = some (.inr (11, fs21)) ∧ ∃ v24 : Nat, fs21[10]? = some (.ref v24) ∧ ∃ fs27 : List Value, h18.1 v24 = some (.inr (0, fs27)) ∧ Con g mX0_addBurdens d [.ref v24, .int x1] h18 (jPv (fun (h26 : jH) => ∃ fs29 : List Value, h26.1 x0 = some (.inr (11, fs29)) ∧ ∃ v32 : Nat, fs29[10]? = some (.ref v32) ∧ ∃ fs35 : List Value, h26.1 v32 = some (.inr (0, fs35)) ∧ Con g mX0_keepBurdens d [.ref v32] h26 (jPv (fun (h34 : jH) => J g mX11_wouldSwap (d + 1) hs P 38 [(0, .ref x0), (1, .int x1), (2, .int 0)] [] h34) (fun E h' => P (.inr E) h'))) (fun E h' => P (.inr E) h'))) (fun E h' => P (.inr E) h'))) (fun E h' => P (.inr E) h'))) : J g mX11_wouldSwap (d + 1) hs P 0 [(0, .ref x0), (1, .int x1)] [] h := by
  refine jr_aload_n 0 dX11_wouldSwap_0 rfl rfl ?_
  refine jr_iload_n 1 dX11_wouldSwap_1 rfl rfl ?_
  obtain ⟨fs3, e4, k⟩ := k
  refine jr_cVv (As := [.int x1]) jl_X11_291 km_X11_checkNear rfl rfl dX11_wouldSwap_2 e4 (Nat.le_of_ble_eq_true rfl) k (fun h2 k => ?_)
  refine jr_aload_n 0 dX11_wouldSwap_5 rfl rfl ?_
  obtain ⟨fs5, e6, v8, e7, k⟩ := k
  refine jr_get jf_X11_62 dX11_wouldSwap_6 e6 e7 ?_
  refine jr_aload_n 0 dX11_wouldSwap_9 rfl rfl ?_
  obtain ⟨fs9, e10, v12, e11, k⟩ := k
  refine jr_get jf_X11_20 dX11_wouldSwap_10 e10 e11 ?_
  refine jr_aload_n 0 dX11_wouldSwap_13 rfl rfl ?_
  obtain ⟨fs13, e14, v16, e15, k⟩ := k
  refine jr_get jf_X11_34 dX11_wouldSwap_14 e14 e15 ?_
  obtain ⟨fs19, e20, k⟩ := k
  refine jr_cVr (As := [.ref v12, .ref v16]) jl_X11_237 km_X0_from rfl rfl dX11_wouldSwap_17 e20 (Nat.le_of_ble_eq_true rfl) k (fun r17 h18 k => ?_)
  refine jr_pop dX11_wouldSwap_20 rfl ?_
  refine jr_aload_n 0 dX11_wouldSwap_21 rfl rfl ?_
  obtain ⟨fs21, e22, v24, e23, k⟩ := k
  refine jr_get jf_X11_62 dX11_wouldSwap_22 e22 e23 ?_
  refine jr_iload_n 1 dX11_wouldSwap_25 rfl rfl ?_
  obtain ⟨fs27, e28, k⟩ := k
  refine jr_cVv (As := [.int x1]) jl_X11_297 km_X0_addBurdens rfl rfl dX11_wouldSwap_26 e28 (Nat.le_of_ble_eq_true rfl) k (fun h26 k => ?_)
  refine jr_aload_n 0 dX11_wouldSwap_29 rfl rfl ?_
  obtain ⟨fs29, e30, v32, e31, k⟩ := k
  refine jr_get jf_X11_62 dX11_wouldSwap_30 e30 e31 ?_
  obtain ⟨fs35, e36, k⟩ := k
  refine jr_cVv (As := []) jl_X11_323 km_X0_keepBurdens rfl rfl dX11_wouldSwap_33 e36 (Nat.le_of_ble_eq_true rfl) k (fun h34 k => ?_)
  refine jr_iconst (v := 0) dX11_wouldSwap_36 (by decide) ?_
  refine jr_istore_n (lv' := [(2, .int 0), (0, .ref x0), (1, .int x1)]) dX11_wouldSwap_37 rfl (by decide) rfl ?_
  exact jr_sub [1, 2, 0] rfl k
set_option maxRecDepth 20000 in
theorem bX11_wouldSwap_38 {g : jG} {d : Nat} {hs : jH} {P : jO → jH → Prop} {x0 : Nat} {x1 : Int32} {x2 : Int32} {h : jH} (k : ∃ fs1 : List Value, h.1 x0 = some (.inr (11, fs1)) ∧ ∃ v4 : Nat, fs1[6]? = some (.ref v4) ∧ ∃ fs5 : List Value, h.1 v4 = some (.inr (6, fs5)) ∧ ∃ v8 : Int32, fs5[0]? = some (.int v8) ∧ (x2 < v8 → (x2 < 7 → J g mX11_wouldSwap (d + 1) hs P 59 [(0, .ref x0), (1, .int x1), (2, .int x2), (3, .int (x2 + 1))] [] h) ∧ (¬ x2 < 7 → P (.inl (some (.int ((-1))))) h)) ∧ (¬ x2 < v8 → P (.inl (some (.int ((-1))))) h)) : J g mX11_wouldSwap (d + 1) hs P 38 [(0, .ref x0), (1, .int x1), (2, .int x2)] [] h := by
  refine jr_iload_n 2 dX11_wouldSwap_38 rfl rfl ?_
  refine jr_aload_n 0 dX11_wouldSwap_39 rfl rfl ?_
  obtain ⟨fs1, e2, v4, e3, k⟩ := k
  refine jr_get jf_X11_34 dX11_wouldSwap_40 e2 e3 ?_
  obtain ⟨fs5, e6, v8, e7, k⟩ := k
  refine jr_get jf_X11_131 dX11_wouldSwap_43 e6 e7 ?_
  refine jr_icmp_ge (tgt := 105) dX11_wouldSwap_46 (by decide) (fun c46 => ?_) (fun c46 => ?_)
  · have k := k.2 c46
    refine jr_iconst (v := (-1)) dX11_wouldSwap_105 (by decide) ?_
    exact jr_iret (ty := .int) rfl rfl dX11_wouldSwap_106 k
  · have k := k.1 c46
    refine jr_iload_n 2 dX11_wouldSwap_49 rfl rfl ?_
    refine jr_bipush (v := 7) dX11_wouldSwap_50 (by decide) ?_
    refine jr_icmp_ge (tgt := 105) dX11_wouldSwap_52 (by decide) (fun c52 => ?_) (fun c52 => ?_)
    · have k := k.2 c52
      refine jr_iconst (v := (-1)) dX11_wouldSwap_105 (by decide) ?_
      exact jr_iret (ty := .int) rfl rfl dX11_wouldSwap_106 k
    · have k := k.1 c52
      refine jr_iload_n 2 dX11_wouldSwap_55 rfl rfl ?_
      refine jr_iconst (v := 1) dX11_wouldSwap_56 (by decide) ?_
      refine jr_iadd dX11_wouldSwap_57 ?_
      refine jr_istore_n (lv' := [(3, .int (x2 + 1)), (0, .ref x0), (1, .int x1), (2, .int x2)]) dX11_wouldSwap_58 rfl (by decide) rfl ?_
      exact jr_sub [1, 2, 3, 0] rfl k
set_option maxRecDepth 20000 in
theorem bX11_wouldSwap_59 {g : jG} {d : Nat} {hs : jH} {P : jO → jH → Prop} {x0 : Nat} {x1 : Int32} {x2 : Int32} {x3 : Int32} {h : jH} (k : ∃ fs1 : List Value, h.1 x0 = some (.inr (11, fs1)) ∧ ∃ v4 : Nat, fs1[6]? = some (.ref v4) ∧ ∃ fs5 : List Value, h.1 v4 = some (.inr (6, fs5)) ∧ ∃ v8 : Int32, fs5[0]? = some (.int v8) ∧ (x3 < v8 → (x3 < 7 → ∃ fs11 : List Value, h.1 x0 = some (.inr (11, fs11)) ∧ Con g mX11_bothGain d [.ref x0, .int x2, .int x3, .int x1] h (jPi (fun (r9 : Int32) (h10 : jH) => (r9 = 0 → J g mX11_wouldSwap (d + 1) hs P 59 [(0, .ref x0), (1, .int x1), (2, .int x2), (3, .int (x3 + 1))] [] h10) ∧ (¬ r9 = 0 → P (.inl (some (.int (((x2 * 10) + x3))))) h10)) (fun E h' => P (.inr E) h'))) ∧ (¬ x3 < 7 → J g mX11_wouldSwap (d + 1) hs P 38 [(0, .ref x0), (1, .int x1), (2, .int (x2 + 1))] [] h)) ∧ (¬ x3 < v8 → J g mX11_wouldSwap (d + 1) hs P 38 [(0, .ref x0), (1, .int x1), (2, .int (x2 + 1))] [] h)) : J g mX11_wouldSwap (d + 1) hs P 59 [(0, .ref x0), (1, .int x1), (2, .int x2), (3, .int x3)] [] h := by
  refine jr_iload_n 3 dX11_wouldSwap_59 rfl rfl ?_
  refine jr_aload_n 0 dX11_wouldSwap_60 rfl rfl ?_
  obtain ⟨fs1, e2, v4, e3, k⟩ := k
  refine jr_get jf_X11_34 dX11_wouldSwap_61 e2 e3 ?_
  obtain ⟨fs5, e6, v8, e7, k⟩ := k
  refine jr_get jf_X11_131 dX11_wouldSwap_64 e6 e7 ?_
  refine jr_icmp_ge (tgt := 99) dX11_wouldSwap_67 (by decide) (fun c67 => ?_) (fun c67 => ?_)
  · have k := k.2 c67
    refine jr_iinc (v := (x2 + 1)) (lv' := [(2, .int (x2 + 1)), (0, .ref x0), (1, .int x1), (3, .int x3)]) 2 dX11_wouldSwap_99 rfl rfl (by decide) rfl ?_
    refine jr_goto (tgt := 38) dX11_wouldSwap_102 (by decide) ?_
    exact jr_sub [1, 2, 0] rfl k
  · have k := k.1 c67
    refine jr_iload_n 3 dX11_wouldSwap_70 rfl rfl ?_
    refine jr_bipush (v := 7) dX11_wouldSwap_71 (by decide) ?_
    refine jr_icmp_ge (tgt := 99) dX11_wouldSwap_73 (by decide) (fun c73 => ?_) (fun c73 => ?_)
    · have k := k.2 c73
      refine jr_iinc (v := (x2 + 1)) (lv' := [(2, .int (x2 + 1)), (0, .ref x0), (1, .int x1), (3, .int x3)]) 2 dX11_wouldSwap_99 rfl rfl (by decide) rfl ?_
      refine jr_goto (tgt := 38) dX11_wouldSwap_102 (by decide) ?_
      exact jr_sub [1, 2, 0] rfl k
    · have k := k.1 c73
      refine jr_aload_n 0 dX11_wouldSwap_76 rfl rfl ?_
      refine jr_iload_n 2 dX11_wouldSwap_77 rfl rfl ?_
      refine jr_iload_n 3 dX11_wouldSwap_78 rfl rfl ?_
      refine jr_iload_n 1 dX11_wouldSwap_79 rfl rfl ?_
      obtain ⟨fs11, e12, k⟩ := k
      refine jr_cVi (As := [.int x2, .int x3, .int x1]) jl_X11_326 km_X11_bothGain rfl rfl dX11_wouldSwap_80 e12 (Nat.le_of_ble_eq_true rfl) k (fun r9 h10 k => ?_)
      refine jr_if_eq (tgt := 93) dX11_wouldSwap_83 (by decide) (fun c83 => ?_) (fun c83 => ?_)
      · have k := k.1 c83
        refine jr_iinc (v := (x3 + 1)) (lv' := [(3, .int (x3 + 1)), (0, .ref x0), (1, .int x1), (2, .int x2)]) 3 dX11_wouldSwap_93 rfl rfl (by decide) rfl ?_
        refine jr_goto (tgt := 59) dX11_wouldSwap_96 (by decide) ?_
        exact jr_sub [1, 2, 3, 0] rfl k
      · have k := k.2 c83
        refine jr_iload_n 2 dX11_wouldSwap_86 rfl rfl ?_
        refine jr_bipush (v := 10) dX11_wouldSwap_87 (by decide) ?_
        refine jr_imul dX11_wouldSwap_89 ?_
        refine jr_iload_n 3 dX11_wouldSwap_90 rfl rfl ?_
        refine jr_iadd dX11_wouldSwap_91 ?_
        exact jr_iret (ty := .int) rfl rfl dX11_wouldSwap_92 k
set_option maxRecDepth 20000 in
theorem bX11_bothGain_0 {g : jG} {d : Nat} {hs : jH} {P : jO → jH → Prop} {x0 : Nat} {x1 : Int32} {x2 : Int32} {x3 : Int32} {h : jH} (k : ∃ fs1 : List Value, h.1 x0 = some (.inr (11, fs1)) ∧ ∃ v4 : Nat, fs1[6]? = some (.ref v4) ∧ ∃ fs7 : List Value, h.1 v4 = some (.inr (6, fs7)) ∧ Con g mX6_isGone d [.ref v4, .int x1] h (jPi (fun (r5 : Int32) (h6 : jH) => (r5 = 0 → ∃ fs9 : List Value, h6.1 x0 = some (.inr (11, fs9)) ∧ ∃ v12 : Nat, fs9[6]? = some (.ref v12) ∧ ∃ fs15 : List Value, h6.1 v12 = some (.inr (6, fs15)) ∧ Con g mX6_isGone d [.ref v12, .int x2] h6 (jPi (fun (r13 : Int32) (h14 : jH) => (r13 = 0 → ∃ fs17 : List Value, h14.1 x0 = some (.inr (11, fs17)) ∧ ∃ v20 : Nat, fs17[10]? = some (.ref v20) ∧ ∃ fs21 : List Value, h14.1 x0 = some (.inr (11, fs21)) ∧ ∃ v24 : Nat, fs21[5]? = some (.ref v24) ∧ ∃ fs25 : List Value, h14.1 x0 = some (.inr (11, fs25)) ∧ ∃ v28 : Nat, fs25[6]? = some (.ref v28) ∧ ∃ fs31 : List Value, h14.1 v20 = some (.inr (0, fs31)) ∧ Con g mX0_from d [.ref v20, .ref v24, .ref v28] h14 (jPr (fun (r29 : Nat) (h30 : jH) => ∃ fs35 : List Value, h30.1 r29 = some (.inr (6, fs35)) ∧ Con g mX6_exchange d [.ref r29, .int x1, .int x2] h30 (jPv (fun (h34 : jH) => ∃ fs37 : List Value, h34.1 x0 = some (.inr (11, fs37)) ∧ ∃ v40 : Nat, fs37[10]? = some (.ref v40) ∧ ∃ fs43 : List Value, h34.1 v40 = some (.inr (0, fs43)) ∧ Con g mX0_addBurdens d [.ref v40, .int x3] h34 (jPv (fun (h42 : jH) => ∃ fs45 : List Value, h42.1 x0 = some (.inr (11, fs45)) ∧ ∃ v48 : Nat, fs45[10]? = some (.ref v48) ∧ ∃ fs49 : List Value, h42.1 v48 = some (.inr (0, fs49)) ∧ ∃ v52 : Nat, fs49[3]? = some (.ref v52) ∧ ∃ (n53 : Nat) (f54 : Nat → Int64), h42.1 v52 = some (.inl (3, (n53, .inr (.inl f54)))) ∧ vp_in x2 n53 ∧ ∃ fs57 : List Value, h42.1 x0 = some (.inr (11, fs57)) ∧ ∃ v60 : Nat, fs57[10]? = some (.ref v60) ∧ ∃ fs61 : List Value, h42.1 v60 = some (.inr (0, fs61)) ∧ ∃ v64 : Nat, fs61[4]? = some (.ref v64) ∧ ∃ (n65 : Nat) (f66 : Nat → Int64), h42.1 v64 = some (.inl (3, (n65, .inr (.inl f66)))) ∧ vp_in x1 n65 ∧ ((f54 x2.toNatClampNeg) < (f66 x1.toNatClampNeg) → ∃ fs69 : List Value, h42.1 x0 = some (.inr (11, fs69)) ∧ ∃ v72 : Nat, fs69[10]? = some (.ref v72) ∧ ∃ fs73 : List Value, h42.1 v72 = some (.inr (0, fs73)) ∧ ∃ v76 : Nat, fs73[3]? = some (.ref v76) ∧ ∃ (n77 : Nat) (f78 : Nat → Int64), h42.1 v76 = some (.inl (3, (n77, .inr (.inl f78)))) ∧ vp_in x1 n77 ∧ ∃ fs81 : List Value, h42.1 x0 = some (.inr (11, fs81)) ∧ ∃ v84 : Nat, fs81[10]? = some (.ref v84) ∧ ∃ fs85 : List Value, h42.1 v84 = some (.inr (0, fs85)) ∧ ∃ v88 : Nat, fs85[4]? = some (.ref v88) ∧ ∃ (n89 : Nat) (f90 : Nat → Int64), h42.1 v88 = some (.inl (3, (n89, .inr (.inl f90)))) ∧ vp_in x2 n89 ∧ ((f78 x1.toNatClampNeg) < (f90 x2.toNatClampNeg) → P (.inl (some (.int 1))) h42) ∧ (¬ (f78 x1.toNatClampNeg) < (f90 x2.toNatClampNeg) → P (.inl (some (.int 0))) h42)) ∧ (¬ (f54 x2.toNatClampNeg) < (f66 x1.toNatClampNeg) → P (.inl (some (.int 0))) h42)) (fun E h' => P (.inr E) h'))) (fun E h' => P (.inr E) h'))) (fun E h' => P (.inr E) h'))) ∧ (¬ r13 = 0 → P (.inl (some (.int 0))) h14)) (fun E h' => P (.inr E) h'))) ∧ (¬ r5 = 0 → P (.inl (some (.int 0))) h6)) (fun E h' => P (.inr E) h'))) : J g mX11_bothGain (d + 1) hs P 0 [(0, .ref x0), (1, .int x1), (2, .int x2), (3, .int x3)] [] h := by
  refine jr_aload_n 0 dX11_bothGain_0 rfl rfl ?_
  obtain ⟨fs1, e2, v4, e3, k⟩ := k
  refine jr_get jf_X11_34 dX11_bothGain_1 e2 e3 ?_
  refine jr_iload_n 1 dX11_bothGain_4 rfl rfl ?_
  obtain ⟨fs7, e8, k⟩ := k
  refine jr_cVi (As := [.int x1]) jl_X11_183 km_X6_isGone rfl rfl dX11_bothGain_5 e8 (Nat.le_of_ble_eq_true rfl) k (fun r5 h6 k => ?_)
  refine jr_if_ne (tgt := 22) dX11_bothGain_8 (by decide) (fun c8 => ?_) (fun c8 => ?_)
  · have k := k.2 c8
    refine jr_iconst (v := 0) dX11_bothGain_22 (by decide) ?_
    exact jr_iret (ty := .boolean) rfl rfl dX11_bothGain_23 k
  · have k := k.1 c8
    refine jr_aload_n 0 dX11_bothGain_11 rfl rfl ?_
    obtain ⟨fs9, e10, v12, e11, k⟩ := k
    refine jr_get jf_X11_34 dX11_bothGain_12 e10 e11 ?_
    refine jr_iload_n 2 dX11_bothGain_15 rfl rfl ?_
    obtain ⟨fs15, e16, k⟩ := k
    refine jr_cVi (As := [.int x2]) jl_X11_183 km_X6_isGone rfl rfl dX11_bothGain_16 e16 (Nat.le_of_ble_eq_true rfl) k (fun r13 h14 k => ?_)
    refine jr_if_eq (tgt := 24) dX11_bothGain_19 (by decide) (fun c19 => ?_) (fun c19 => ?_)
    · have k := k.1 c19
      refine jr_aload_n 0 dX11_bothGain_24 rfl rfl ?_
      obtain ⟨fs17, e18, v20, e19, k⟩ := k
      refine jr_get jf_X11_62 dX11_bothGain_25 e18 e19 ?_
      refine jr_aload_n 0 dX11_bothGain_28 rfl rfl ?_
      obtain ⟨fs21, e22, v24, e23, k⟩ := k
      refine jr_get jf_X11_20 dX11_bothGain_29 e22 e23 ?_
      refine jr_aload_n 0 dX11_bothGain_32 rfl rfl ?_
      obtain ⟨fs25, e26, v28, e27, k⟩ := k
      refine jr_get jf_X11_34 dX11_bothGain_33 e26 e27 ?_
      obtain ⟨fs31, e32, k⟩ := k
      refine jr_cVr (As := [.ref v24, .ref v28]) jl_X11_237 km_X0_from rfl rfl dX11_bothGain_36 e32 (Nat.le_of_ble_eq_true rfl) k (fun r29 h30 k => ?_)
      refine jr_iload_n 1 dX11_bothGain_39 rfl rfl ?_
      refine jr_iload_n 2 dX11_bothGain_40 rfl rfl ?_
      obtain ⟨fs35, e36, k⟩ := k
      refine jr_cVv (As := [.int x1, .int x2]) jl_X11_199 km_X6_exchange rfl rfl dX11_bothGain_41 e36 (Nat.le_of_ble_eq_true rfl) k (fun h34 k => ?_)
      refine jr_aload_n 0 dX11_bothGain_44 rfl rfl ?_
      obtain ⟨fs37, e38, v40, e39, k⟩ := k
      refine jr_get jf_X11_62 dX11_bothGain_45 e38 e39 ?_
      refine jr_iload_n 3 dX11_bothGain_48 rfl rfl ?_
      obtain ⟨fs43, e44, k⟩ := k
      refine jr_cVv (As := [.int x3]) jl_X11_297 km_X0_addBurdens rfl rfl dX11_bothGain_49 e44 (Nat.le_of_ble_eq_true rfl) k (fun h42 k => ?_)
      refine jr_aload_n 0 dX11_bothGain_52 rfl rfl ?_
      obtain ⟨fs45, e46, v48, e47, k⟩ := k
      refine jr_get jf_X11_62 dX11_bothGain_53 e46 e47 ?_
      obtain ⟨fs49, e50, v52, e51, k⟩ := k
      refine jr_get jf_X11_300 dX11_bothGain_56 e50 e51 ?_
      refine jr_iload_n 2 dX11_bothGain_59 rfl rfl ?_
      obtain ⟨n53, f54, e55, e56, k⟩ := k
      refine jr_lald dX11_bothGain_60 e55 e56 ?_
      refine jr_aload_n 0 dX11_bothGain_61 rfl rfl ?_
      obtain ⟨fs57, e58, v60, e59, k⟩ := k
      refine jr_get jf_X11_62 dX11_bothGain_62 e58 e59 ?_
      obtain ⟨fs61, e62, v64, e63, k⟩ := k
      refine jr_get jf_X11_330 dX11_bothGain_65 e62 e63 ?_
      refine jr_iload_n 1 dX11_bothGain_68 rfl rfl ?_
      obtain ⟨n65, f66, e67, e68, k⟩ := k
      refine jr_lald dX11_bothGain_69 e67 e68 ?_
      refine jr_lcmp_ge (tgt := 100) dX11_bothGain_70 dX11_bothGain_71 (by decide) (fun c70 => ?_) (fun c70 => ?_)
      · have k := k.2 c70
        refine jr_iconst (v := 0) dX11_bothGain_100 (by decide) ?_
        exact jr_iret (ty := .boolean) rfl rfl dX11_bothGain_101 k
      · have k := k.1 c70
        refine jr_aload_n 0 dX11_bothGain_74 rfl rfl ?_
        obtain ⟨fs69, e70, v72, e71, k⟩ := k
        refine jr_get jf_X11_62 dX11_bothGain_75 e70 e71 ?_
        obtain ⟨fs73, e74, v76, e75, k⟩ := k
        refine jr_get jf_X11_300 dX11_bothGain_78 e74 e75 ?_
        refine jr_iload_n 1 dX11_bothGain_81 rfl rfl ?_
        obtain ⟨n77, f78, e79, e80, k⟩ := k
        refine jr_lald dX11_bothGain_82 e79 e80 ?_
        refine jr_aload_n 0 dX11_bothGain_83 rfl rfl ?_
        obtain ⟨fs81, e82, v84, e83, k⟩ := k
        refine jr_get jf_X11_62 dX11_bothGain_84 e82 e83 ?_
        obtain ⟨fs85, e86, v88, e87, k⟩ := k
        refine jr_get jf_X11_330 dX11_bothGain_87 e86 e87 ?_
        refine jr_iload_n 2 dX11_bothGain_90 rfl rfl ?_
        obtain ⟨n89, f90, e91, e92, k⟩ := k
        refine jr_lald dX11_bothGain_91 e91 e92 ?_
        refine jr_lcmp_ge (tgt := 100) dX11_bothGain_92 dX11_bothGain_93 (by decide) (fun c92 => ?_) (fun c92 => ?_)
        · have k := k.2 c92
          refine jr_iconst (v := 0) dX11_bothGain_100 (by decide) ?_
          exact jr_iret (ty := .boolean) rfl rfl dX11_bothGain_101 k
        · have k := k.1 c92
          refine jr_iconst (v := 1) dX11_bothGain_96 (by decide) ?_
          refine jr_goto (tgt := 101) dX11_bothGain_97 (by decide) ?_
          exact jr_iret (ty := .boolean) rfl rfl dX11_bothGain_101 k
    · have k := k.2 c19
      refine jr_iconst (v := 0) dX11_bothGain_22 (by decide) ?_
      exact jr_iret (ty := .boolean) rfl rfl dX11_bothGain_23 k
set_option maxRecDepth 20000 in
theorem bX11_bestHouse_0 {g : jG} {d : Nat} {hs : jH} {P : jO → jH → Prop} {x0 : Nat} {x1 : Int32} {x2 : Int32} {h : jH} (k : ∃ fs3 : List Value, h.1 x0 = some (.inr (11, fs3)) ∧ Con g mX11_checkHouse d [.ref x0, .int x1] h (jPv (fun (h2 : jH) => ∃ fs7 : List Value, h2.1 x0 = some (.inr (11, fs7)) ∧ Con g mX11_checkNear d [.ref x0, .int x2] h2 (jPv (fun (h6 : jH) => J g mX11_bestHouse (d + 1) hs P 18 [(0, .ref x0), (1, .int x1), (2, .int x2), (3, .int (-1)), (4, .long 0), (6, .int 0)] [] h6) (fun E h' => P (.inr E) h'))) (fun E h' => P (.inr E) h'))) : J g mX11_bestHouse (d + 1) hs P 0 [(0, .ref x0), (1, .int x1), (2, .int x2)] [] h := by
  refine jr_aload_n 0 dX11_bestHouse_0 rfl rfl ?_
  refine jr_iload_n 1 dX11_bestHouse_1 rfl rfl ?_
  obtain ⟨fs3, e4, k⟩ := k
  refine jr_cVv (As := [.int x1]) jl_X11_121 km_X11_checkHouse rfl rfl dX11_bestHouse_2 e4 (Nat.le_of_ble_eq_true rfl) k (fun h2 k => ?_)
  refine jr_aload_n 0 dX11_bestHouse_5 rfl rfl ?_
  refine jr_iload_n 2 dX11_bestHouse_6 rfl rfl ?_
  obtain ⟨fs7, e8, k⟩ := k
  refine jr_cVv (As := [.int x2]) jl_X11_291 km_X11_checkNear rfl rfl dX11_bestHouse_7 e8 (Nat.le_of_ble_eq_true rfl) k (fun h6 k => ?_)
  refine jr_iconst (v := (-1)) dX11_bestHouse_10 (by decide) ?_
  refine jr_istore_n (lv' := [(3, .int (-1)), (0, .ref x0), (1, .int x1), (2, .int x2)]) dX11_bestHouse_11 rfl (by decide) rfl ?_
  refine jr_lconst (v := 0) dX11_bestHouse_12 (by decide) ?_
  refine jr_lstore (lv' := [(4, .long 0), (3, .int (-1)), (0, .ref x0), (1, .int x1), (2, .int x2)]) dX11_bestHouse_13 (by decide) rfl ?_
  refine jr_iconst (v := 0) dX11_bestHouse_15 (by decide) ?_
  refine jr_istore (lv' := [(6, .int 0), (4, .long 0), (3, .int (-1)), (0, .ref x0), (1, .int x1), (2, .int x2)]) dX11_bestHouse_16 (by decide) rfl ?_
  exact jr_sub [3, 4, 5, 2, 1, 0] rfl k
set_option maxRecDepth 20000 in
theorem bX11_bestHouse_18 {g : jG} {d : Nat} {hs : jH} {P : jO → jH → Prop} {x0 : Nat} {x1 : Int32} {x2 : Int32} {x3 : Int32} {x4 : Int64} {x6 : Int32} {h : jH} (k : ∃ fs1 : List Value, h.1 x0 = some (.inr (11, fs1)) ∧ ∃ v4 : Nat, fs1[6]? = some (.ref v4) ∧ ∃ fs5 : List Value, h.1 v4 = some (.inr (6, fs5)) ∧ ∃ v8 : Int32, fs5[0]? = some (.int v8) ∧ (x6 < v8 → (x6 < 7 → ∃ fs9 : List Value, h.1 x0 = some (.inr (11, fs9)) ∧ ∃ v12 : Nat, fs9[10]? = some (.ref v12) ∧ ∃ fs13 : List Value, h.1 x0 = some (.inr (11, fs13)) ∧ ∃ v16 : Nat, fs13[5]? = some (.ref v16) ∧ ∃ fs17 : List Value, h.1 x0 = some (.inr (11, fs17)) ∧ ∃ v20 : Nat, fs17[6]? = some (.ref v20) ∧ ∃ fs23 : List Value, h.1 v12 = some (.inr (0, fs23)) ∧ Con g mX0_from d [.ref v12, .ref v16, .ref v20] h (jPr (fun (r21 : Nat) (h22 : jH) => ∃ fs27 : List Value, h22.1 r21 = some (.inr (6, fs27)) ∧ Con g mX6_exchange d [.ref r21, .int x1, .int x6] h22 (jPv (fun (h26 : jH) => ∃ fs29 : List Value, h26.1 x0 = some (.inr (11, fs29)) ∧ ∃ v32 : Nat, fs29[10]? = some (.ref v32) ∧ ∃ fs35 : List Value, h26.1 v32 = some (.inr (0, fs35)) ∧ Con g mX0_addBurdens d [.ref v32, .int x2] h26 (jPv (fun (h34 : jH) => (x3 = (-1) → J g mX11_bestHouse (d + 1) hs P 87 [(0, .ref x0), (1, .int x1), (2, .int x2), (6, .int x6)] [] h34) ∧ (¬ x3 = (-1) → ∃ fs37 : List Value, h34.1 x0 = some (.inr (11, fs37)) ∧ ∃ v40 : Nat, fs37[10]? = some (.ref v40) ∧ ∃ fs41 : List Value, h34.1 v40 = some (.inr (0, fs41)) ∧ ∃ v44 : Nat, fs41[3]? = some (.ref v44) ∧ ∃ (n45 : Nat) (f46 : Nat → Int64), h34.1 v44 = some (.inl (3, (n45, .inr (.inl f46)))) ∧ vp_in x6 n45 ∧ ((f46 x6.toNatClampNeg) < x4 → J g mX11_bestHouse (d + 1) hs P 87 [(0, .ref x0), (1, .int x1), (2, .int x2), (6, .int x6)] [] h34) ∧ (¬ (f46 x6.toNatClampNeg) < x4 → J g mX11_bestHouse (d + 1) hs P 18 [(0, .ref x0), (1, .int x1), (2, .int x2), (3, .int x3), (4, .long x4), (6, .int (x6 + 1))] [] h34))) (fun E h' => P (.inr E) h'))) (fun E h' => P (.inr E) h'))) (fun E h' => P (.inr E) h'))) ∧ (¬ x6 < 7 → P (.inl (some (.int x3))) h)) ∧ (¬ x6 < v8 → P (.inl (some (.int x3))) h)) : J g mX11_bestHouse (d + 1) hs P 18 [(0, .ref x0), (1, .int x1), (2, .int x2), (3, .int x3), (4, .long x4), (6, .int x6)] [] h := by
  refine jr_iload 5 dX11_bestHouse_18 rfl ?_
  refine jr_aload_n 0 dX11_bestHouse_20 rfl rfl ?_
  obtain ⟨fs1, e2, v4, e3, k⟩ := k
  refine jr_get jf_X11_34 dX11_bestHouse_21 e2 e3 ?_
  obtain ⟨fs5, e6, v8, e7, k⟩ := k
  refine jr_get jf_X11_131 dX11_bestHouse_24 e6 e7 ?_
  refine jr_icmp_ge (tgt := 108) dX11_bestHouse_27 (by decide) (fun c27 => ?_) (fun c27 => ?_)
  · have k := k.2 c27
    refine jr_iload_n 3 dX11_bestHouse_108 rfl rfl ?_
    exact jr_iret (ty := .int) rfl rfl dX11_bestHouse_109 k
  · have k := k.1 c27
    refine jr_iload 5 dX11_bestHouse_30 rfl ?_
    refine jr_bipush (v := 7) dX11_bestHouse_32 (by decide) ?_
    refine jr_icmp_ge (tgt := 108) dX11_bestHouse_34 (by decide) (fun c34 => ?_) (fun c34 => ?_)
    · have k := k.2 c34
      refine jr_iload_n 3 dX11_bestHouse_108 rfl rfl ?_
      exact jr_iret (ty := .int) rfl rfl dX11_bestHouse_109 k
    · have k := k.1 c34
      refine jr_aload_n 0 dX11_bestHouse_37 rfl rfl ?_
      obtain ⟨fs9, e10, v12, e11, k⟩ := k
      refine jr_get jf_X11_62 dX11_bestHouse_38 e10 e11 ?_
      refine jr_aload_n 0 dX11_bestHouse_41 rfl rfl ?_
      obtain ⟨fs13, e14, v16, e15, k⟩ := k
      refine jr_get jf_X11_20 dX11_bestHouse_42 e14 e15 ?_
      refine jr_aload_n 0 dX11_bestHouse_45 rfl rfl ?_
      obtain ⟨fs17, e18, v20, e19, k⟩ := k
      refine jr_get jf_X11_34 dX11_bestHouse_46 e18 e19 ?_
      obtain ⟨fs23, e24, k⟩ := k
      refine jr_cVr (As := [.ref v16, .ref v20]) jl_X11_237 km_X0_from rfl rfl dX11_bestHouse_49 e24 (Nat.le_of_ble_eq_true rfl) k (fun r21 h22 k => ?_)
      refine jr_iload_n 1 dX11_bestHouse_52 rfl rfl ?_
      refine jr_iload 5 dX11_bestHouse_53 rfl ?_
      obtain ⟨fs27, e28, k⟩ := k
      refine jr_cVv (As := [.int x1, .int x6]) jl_X11_199 km_X6_exchange rfl rfl dX11_bestHouse_55 e28 (Nat.le_of_ble_eq_true rfl) k (fun h26 k => ?_)
      refine jr_aload_n 0 dX11_bestHouse_58 rfl rfl ?_
      obtain ⟨fs29, e30, v32, e31, k⟩ := k
      refine jr_get jf_X11_62 dX11_bestHouse_59 e30 e31 ?_
      refine jr_iload_n 2 dX11_bestHouse_62 rfl rfl ?_
      obtain ⟨fs35, e36, k⟩ := k
      refine jr_cVv (As := [.int x2]) jl_X11_297 km_X0_addBurdens rfl rfl dX11_bestHouse_63 e36 (Nat.le_of_ble_eq_true rfl) k (fun h34 k => ?_)
      refine jr_iload_n 3 dX11_bestHouse_66 rfl rfl ?_
      refine jr_iconst (v := (-1)) dX11_bestHouse_67 (by decide) ?_
      refine jr_icmp_eq (tgt := 87) dX11_bestHouse_68 (by decide) (fun c68 => ?_) (fun c68 => ?_)
      · have k := k.1 c68
        exact jr_sub [0, 1, 2, 5] rfl k
      · have k := k.2 c68
        refine jr_aload_n 0 dX11_bestHouse_71 rfl rfl ?_
        obtain ⟨fs37, e38, v40, e39, k⟩ := k
        refine jr_get jf_X11_62 dX11_bestHouse_72 e38 e39 ?_
        obtain ⟨fs41, e42, v44, e43, k⟩ := k
        refine jr_get jf_X11_300 dX11_bestHouse_75 e42 e43 ?_
        refine jr_iload 5 dX11_bestHouse_78 rfl ?_
        obtain ⟨n45, f46, e47, e48, k⟩ := k
        refine jr_lald dX11_bestHouse_80 e47 e48 ?_
        refine jr_lload 4 dX11_bestHouse_81 rfl ?_
        refine jr_lcmp_ge (tgt := 102) dX11_bestHouse_83 dX11_bestHouse_84 (by decide) (fun c83 => ?_) (fun c83 => ?_)
        · have k := k.2 c83
          refine jr_iinc (v := (x6 + 1)) (lv' := [(6, .int (x6 + 1)), (0, .ref x0), (1, .int x1), (2, .int x2), (3, .int x3), (4, .long x4)]) 5 dX11_bestHouse_102 rfl rfl (by decide) rfl ?_
          refine jr_goto (tgt := 18) dX11_bestHouse_105 (by decide) ?_
          exact jr_sub [1, 2, 3, 4, 5, 0] rfl k
        · have k := k.1 c83
          exact jr_sub [0, 1, 2, 5] rfl k
set_option maxRecDepth 20000 in
theorem bX11_bestHouse_87 {g : jG} {d : Nat} {hs : jH} {P : jO → jH → Prop} {x0 : Nat} {x1 : Int32} {x2 : Int32} {x6 : Int32} {h : jH} (k : ∃ fs1 : List Value, h.1 x0 = some (.inr (11, fs1)) ∧ ∃ v4 : Nat, fs1[10]? = some (.ref v4) ∧ ∃ fs5 : List Value, h.1 v4 = some (.inr (0, fs5)) ∧ ∃ v8 : Nat, fs5[3]? = some (.ref v8) ∧ ∃ (n9 : Nat) (f10 : Nat → Int64), h.1 v8 = some (.inl (3, (n9, .inr (.inl f10)))) ∧ vp_in x6 n9 ∧ J g mX11_bestHouse (d + 1) hs P 18 [(0, .ref x0), (1, .int x1), (2, .int x2), (3, .int x6), (4, .long (f10 x6.toNatClampNeg)), (6, .int (x6 + 1))] [] h) : J g mX11_bestHouse (d + 1) hs P 87 [(0, .ref x0), (1, .int x1), (2, .int x2), (6, .int x6)] [] h := by
  refine jr_iload 3 dX11_bestHouse_87 rfl ?_
  refine jr_istore_n (lv' := [(3, .int x6), (0, .ref x0), (1, .int x1), (2, .int x2), (6, .int x6)]) dX11_bestHouse_89 rfl (by decide) rfl ?_
  refine jr_aload_n 1 dX11_bestHouse_90 rfl rfl ?_
  obtain ⟨fs1, e2, v4, e3, k⟩ := k
  refine jr_get jf_X11_62 dX11_bestHouse_91 e2 e3 ?_
  obtain ⟨fs5, e6, v8, e7, k⟩ := k
  refine jr_get jf_X11_300 dX11_bestHouse_94 e6 e7 ?_
  refine jr_iload 4 dX11_bestHouse_97 rfl ?_
  obtain ⟨n9, f10, e11, e12, k⟩ := k
  refine jr_lald dX11_bestHouse_99 e11 e12 ?_
  refine jr_lstore (lv' := [(4, .long (f10 x6.toNatClampNeg)), (3, .int x6), (0, .ref x0), (1, .int x1), (2, .int x2), (6, .int x6)]) dX11_bestHouse_100 (by decide) rfl ?_
  refine jr_iinc (v := (x6 + 1)) (lv' := [(6, .int (x6 + 1)), (4, .long (f10 x6.toNatClampNeg)), (3, .int x6), (0, .ref x0), (1, .int x1), (2, .int x2)]) 5 dX11_bestHouse_102 rfl rfl (by decide) rfl ?_
  refine jr_goto (tgt := 18) dX11_bestHouse_105 (by decide) ?_
  exact jr_sub [3, 4, 5, 2, 1, 0] rfl k
set_option maxRecDepth 20000 in
theorem bX11_hedges_0 {g : jG} {d : Nat} {hs : jH} {P : jO → jH → Prop} {x0 : Nat} {x1 : Int32} {x2 : Int32} {x3 : Int32} {h : jH} (k : ∃ fs3 : List Value, h.1 x0 = some (.inr (11, fs3)) ∧ Con g mX11_checkHouse d [.ref x0, .int x1] h (jPv (fun (h2 : jH) => ∃ fs7 : List Value, h2.1 x0 = some (.inr (11, fs7)) ∧ Con g mX11_checkNear d [.ref x0, .int x2] h2 (jPv (fun (h6 : jH) => ∃ fs11 : List Value, h6.1 x0 = some (.inr (11, fs11)) ∧ Con g mX11_checkWithin d [.ref x0, .int x3, .int 0, .int 1] h6 (jPv (fun (h10 : jH) => ∃ fs15 : List Value, h10.1 x0 = some (.inr (11, fs15)) ∧ Con g mX11_checkNotGone d [.ref x0, .int x1] h10 (jPv (fun (h14 : jH) => J g mX11_hedges (d + 1) hs P 32 [(0, .ref x0), (1, .int x1), (2, .int x2), (3, .int x3), (4, .int 8), (5, .int (-1)), (6, .int 0)] [] h14) (fun E h' => P (.inr E) h'))) (fun E h' => P (.inr E) h'))) (fun E h' => P (.inr E) h'))) (fun E h' => P (.inr E) h'))) : J g mX11_hedges (d + 1) hs P 0 [(0, .ref x0), (1, .int x1), (2, .int x2), (3, .int x3)] [] h := by
  refine jr_aload_n 0 dX11_hedges_0 rfl rfl ?_
  refine jr_iload_n 1 dX11_hedges_1 rfl rfl ?_
  obtain ⟨fs3, e4, k⟩ := k
  refine jr_cVv (As := [.int x1]) jl_X11_121 km_X11_checkHouse rfl rfl dX11_hedges_2 e4 (Nat.le_of_ble_eq_true rfl) k (fun h2 k => ?_)
  refine jr_aload_n 0 dX11_hedges_5 rfl rfl ?_
  refine jr_iload_n 2 dX11_hedges_6 rfl rfl ?_
  obtain ⟨fs7, e8, k⟩ := k
  refine jr_cVv (As := [.int x2]) jl_X11_291 km_X11_checkNear rfl rfl dX11_hedges_7 e8 (Nat.le_of_ble_eq_true rfl) k (fun h6 k => ?_)
  refine jr_aload_n 0 dX11_hedges_10 rfl rfl ?_
  refine jr_iload_n 3 dX11_hedges_11 rfl rfl ?_
  refine jr_iconst (v := 0) dX11_hedges_12 (by decide) ?_
  refine jr_iconst (v := 1) dX11_hedges_13 (by decide) ?_
  obtain ⟨fs11, e12, k⟩ := k
  refine jr_cVv (As := [.int x3, .int 0, .int 1]) jl_X11_162 km_X11_checkWithin rfl rfl dX11_hedges_14 e12 (Nat.le_of_ble_eq_true rfl) k (fun h10 k => ?_)
  refine jr_aload_n 0 dX11_hedges_17 rfl rfl ?_
  refine jr_iload_n 1 dX11_hedges_18 rfl rfl ?_
  obtain ⟨fs15, e16, k⟩ := k
  refine jr_cVv (As := [.int x1]) jl_X11_154 km_X11_checkNotGone rfl rfl dX11_hedges_19 e16 (Nat.le_of_ble_eq_true rfl) k (fun h14 k => ?_)
  refine jr_bipush (v := 8) dX11_hedges_22 (by decide) ?_
  refine jr_istore (lv' := [(4, .int 8), (0, .ref x0), (1, .int x1), (2, .int x2), (3, .int x3)]) dX11_hedges_24 (by decide) rfl ?_
  refine jr_iconst (v := (-1)) dX11_hedges_26 (by decide) ?_
  refine jr_istore (lv' := [(5, .int (-1)), (4, .int 8), (0, .ref x0), (1, .int x1), (2, .int x2), (3, .int x3)]) dX11_hedges_27 (by decide) rfl ?_
  refine jr_iconst (v := 0) dX11_hedges_29 (by decide) ?_
  refine jr_istore (lv' := [(6, .int 0), (5, .int (-1)), (4, .int 8), (0, .ref x0), (1, .int x1), (2, .int x2), (3, .int x3)]) dX11_hedges_30 (by decide) rfl ?_
  exact jr_sub [3, 4, 5, 6, 2, 1, 0] rfl k
set_option maxRecDepth 20000 in
theorem bX11_hedges_32 {g : jG} {d : Nat} {hs : jH} {P : jO → jH → Prop} {x0 : Nat} {x1 : Int32} {x2 : Int32} {x3 : Int32} {x4 : Int32} {x5 : Int32} {x6 : Int32} {h : jH} (k : ∃ fs1 : List Value, h.1 x0 = some (.inr (11, fs1)) ∧ ∃ v4 : Nat, fs1[6]? = some (.ref v4) ∧ ∃ fs5 : List Value, h.1 v4 = some (.inr (6, fs5)) ∧ ∃ v8 : Int32, fs5[0]? = some (.int v8) ∧ (x6 < (1 <<< ((jmin v8 7) &&& 31)) → Con g mJ6_bitCount_0f7a4 d [.int x6] h (jPi (fun (r9 : Int32) (h10 : jH) => (r9 < x4 → ∃ fs13 : List Value, h10.1 x0 = some (.inr (11, fs13)) ∧ Con g mX11_isSavedBy d [.ref x0, .int x6, .int x1, .int x2] h10 (jPi (fun (r11 : Int32) (h12 : jH) => (r11 = 0 → J g mX11_hedges (d + 1) hs P 32 [(0, .ref x0), (1, .int x1), (2, .int x2), (3, .int x3), (4, .int x4), (5, .int x5), (6, .int (x6 + 1))] [] h12) ∧ (¬ r11 = 0 → Con g mJ6_bitCount_0f7a4 d [.int x6] h12 (jPi (fun (r15 : Int32) (h16 : jH) => J g mX11_hedges (d + 1) hs P 32 [(0, .ref x0), (1, .int x1), (2, .int x2), (3, .int x3), (4, .int r15), (5, .int x6), (6, .int (x6 + 1))] [] h16) (fun E h' => P (.inr E) h')))) (fun E h' => P (.inr E) h'))) ∧ (¬ r9 < x4 → J g mX11_hedges (d + 1) hs P 32 [(0, .ref x0), (1, .int x1), (2, .int x2), (3, .int x3), (4, .int x4), (5, .int x5), (6, .int (x6 + 1))] [] h10)) (fun E h' => P (.inr E) h'))) ∧ (¬ x6 < (1 <<< ((jmin v8 7) &&& 31)) → (x5 = (-1) → P (.inl (some (.int x5))) h) ∧ (¬ x5 = (-1) → (x3 = 1 → P (.inl (some (.int x5))) h) ∧ (¬ x3 = 1 → P (.inl (some (.int x4))) h)))) : J g mX11_hedges (d + 1) hs P 32 [(0, .ref x0), (1, .int x1), (2, .int x2), (3, .int x3), (4, .int x4), (5, .int x5), (6, .int x6)] [] h := by
  refine jr_iload 6 dX11_hedges_32 rfl ?_
  refine jr_iconst (v := 1) dX11_hedges_34 (by decide) ?_
  refine jr_aload_n 0 dX11_hedges_35 rfl rfl ?_
  obtain ⟨fs1, e2, v4, e3, k⟩ := k
  refine jr_get jf_X11_34 dX11_hedges_36 e2 e3 ?_
  obtain ⟨fs5, e6, v8, e7, k⟩ := k
  refine jr_get jf_X11_131 dX11_hedges_39 e6 e7 ?_
  refine jr_bipush (v := 7) dX11_hedges_42 (by decide) ?_
  refine jr_mmin jl_X11_333 dX11_hedges_44 (Nat.le_of_ble_eq_true rfl) ?_
  refine jr_ishl dX11_hedges_47 ?_
  refine jr_icmp_ge (tgt := 89) dX11_hedges_48 (by decide) (fun c48 => ?_) (fun c48 => ?_)
  · have k := k.2 c48
    refine jr_iload 5 dX11_hedges_89 rfl ?_
    refine jr_iconst (v := (-1)) dX11_hedges_91 (by decide) ?_
    refine jr_icmp_eq (tgt := 100) dX11_hedges_92 (by decide) (fun c92 => ?_) (fun c92 => ?_)
    · have k := k.1 c92
      refine jr_iload 5 dX11_hedges_100 rfl ?_
      refine jr_goto (tgt := 107) dX11_hedges_102 (by decide) ?_
      exact jr_iret (ty := .int) rfl rfl dX11_hedges_107 k
    · have k := k.2 c92
      refine jr_iload_n 3 dX11_hedges_95 rfl rfl ?_
      refine jr_iconst (v := 1) dX11_hedges_96 (by decide) ?_
      refine jr_icmp_ne (tgt := 105) dX11_hedges_97 (by decide) (fun c97 => ?_) (fun c97 => ?_)
      · have k := k.2 c97
        refine jr_iload 4 dX11_hedges_105 rfl ?_
        exact jr_iret (ty := .int) rfl rfl dX11_hedges_107 k
      · have k := k.1 c97
        refine jr_iload 5 dX11_hedges_100 rfl ?_
        refine jr_goto (tgt := 107) dX11_hedges_102 (by decide) ?_
        exact jr_iret (ty := .int) rfl rfl dX11_hedges_107 k
  · have k := k.1 c48
    refine jr_iload 6 dX11_hedges_51 rfl ?_
    refine jr_cSi (As := [.int x6]) jl_X11_338 km_J6_bitCount_0f7a4 rfl rfl dX11_hedges_53 (Nat.le_of_ble_eq_true rfl) k (fun r9 h10 k => ?_)
    refine jr_iload 4 dX11_hedges_56 rfl ?_
    refine jr_icmp_ge (tgt := 83) dX11_hedges_58 (by decide) (fun c58 => ?_) (fun c58 => ?_)
    · have k := k.2 c58
      refine jr_iinc (v := (x6 + 1)) (lv' := [(6, .int (x6 + 1)), (0, .ref x0), (1, .int x1), (2, .int x2), (3, .int x3), (4, .int x4), (5, .int x5)]) 6 dX11_hedges_83 rfl rfl (by decide) rfl ?_
      refine jr_goto (tgt := 32) dX11_hedges_86 (by decide) ?_
      exact jr_sub [1, 2, 3, 4, 5, 6, 0] rfl k
    · have k := k.1 c58
      refine jr_aload_n 0 dX11_hedges_61 rfl rfl ?_
      refine jr_iload 6 dX11_hedges_62 rfl ?_
      refine jr_iload_n 1 dX11_hedges_64 rfl rfl ?_
      refine jr_iload_n 2 dX11_hedges_65 rfl rfl ?_
      obtain ⟨fs13, e14, k⟩ := k
      refine jr_cVi (As := [.int x6, .int x1, .int x2]) jl_X11_343 km_X11_isSavedBy rfl rfl dX11_hedges_66 e14 (Nat.le_of_ble_eq_true rfl) k (fun r11 h12 k => ?_)
      refine jr_if_eq (tgt := 83) dX11_hedges_69 (by decide) (fun c69 => ?_) (fun c69 => ?_)
      · have k := k.1 c69
        refine jr_iinc (v := (x6 + 1)) (lv' := [(6, .int (x6 + 1)), (0, .ref x0), (1, .int x1), (2, .int x2), (3, .int x3), (4, .int x4), (5, .int x5)]) 6 dX11_hedges_83 rfl rfl (by decide) rfl ?_
        refine jr_goto (tgt := 32) dX11_hedges_86 (by decide) ?_
        exact jr_sub [1, 2, 3, 4, 5, 6, 0] rfl k
      · have k := k.2 c69
        refine jr_iload 6 dX11_hedges_72 rfl ?_
        refine jr_cSi (As := [.int x6]) jl_X11_338 km_J6_bitCount_0f7a4 rfl rfl dX11_hedges_74 (Nat.le_of_ble_eq_true rfl) k (fun r15 h16 k => ?_)
        refine jr_istore (lv' := [(4, .int r15), (0, .ref x0), (1, .int x1), (2, .int x2), (3, .int x3), (5, .int x5), (6, .int x6)]) dX11_hedges_77 (by decide) rfl ?_
        refine jr_iload 6 dX11_hedges_79 rfl ?_
        refine jr_istore (lv' := [(5, .int x6), (4, .int r15), (0, .ref x0), (1, .int x1), (2, .int x2), (3, .int x3), (6, .int x6)]) dX11_hedges_81 (by decide) rfl ?_
        refine jr_iinc (v := (x6 + 1)) (lv' := [(6, .int (x6 + 1)), (5, .int x6), (4, .int r15), (0, .ref x0), (1, .int x1), (2, .int x2), (3, .int x3)]) 6 dX11_hedges_83 rfl rfl (by decide) rfl ?_
        refine jr_goto (tgt := 32) dX11_hedges_86 (by decide) ?_
        exact jr_sub [3, 4, 5, 6, 2, 1, 0] rfl k
set_option maxRecDepth 20000 in
theorem bX11_isSavedBy_0 {g : jG} {d : Nat} {hs : jH} {P : jO → jH → Prop} {x0 : Nat} {x1 : Int32} {x2 : Int32} {x3 : Int32} {h : jH} (k : ∃ fs1 : List Value, h.1 x0 = some (.inr (11, fs1)) ∧ ∃ v4 : Nat, fs1[10]? = some (.ref v4) ∧ ∃ fs5 : List Value, h.1 x0 = some (.inr (11, fs5)) ∧ ∃ v8 : Nat, fs5[5]? = some (.ref v8) ∧ ∃ fs9 : List Value, h.1 x0 = some (.inr (11, fs9)) ∧ ∃ v12 : Nat, fs9[6]? = some (.ref v12) ∧ ∃ fs15 : List Value, h.1 v4 = some (.inr (0, fs15)) ∧ Con g mX0_from d [.ref v4, .ref v8, .ref v12] h (jPr (fun (r13 : Nat) (h14 : jH) => J g mX11_isSavedBy (d + 1) hs P 20 [(0, .ref x0), (1, .int x1), (2, .int x2), (3, .int x3), (4, .ref r13), (5, .int 0)] [] h14) (fun E h' => P (.inr E) h'))) : J g mX11_isSavedBy (d + 1) hs P 0 [(0, .ref x0), (1, .int x1), (2, .int x2), (3, .int x3)] [] h := by
  refine jr_aload_n 0 dX11_isSavedBy_0 rfl rfl ?_
  obtain ⟨fs1, e2, v4, e3, k⟩ := k
  refine jr_get jf_X11_62 dX11_isSavedBy_1 e2 e3 ?_
  refine jr_aload_n 0 dX11_isSavedBy_4 rfl rfl ?_
  obtain ⟨fs5, e6, v8, e7, k⟩ := k
  refine jr_get jf_X11_20 dX11_isSavedBy_5 e6 e7 ?_
  refine jr_aload_n 0 dX11_isSavedBy_8 rfl rfl ?_
  obtain ⟨fs9, e10, v12, e11, k⟩ := k
  refine jr_get jf_X11_34 dX11_isSavedBy_9 e10 e11 ?_
  obtain ⟨fs15, e16, k⟩ := k
  refine jr_cVr (As := [.ref v8, .ref v12]) jl_X11_237 km_X0_from rfl rfl dX11_isSavedBy_12 e16 (Nat.le_of_ble_eq_true rfl) k (fun r13 h14 k => ?_)
  refine jr_astore (lv' := [(4, .ref r13), (0, .ref x0), (1, .int x1), (2, .int x2), (3, .int x3)]) dX11_isSavedBy_15 (by decide) rfl ?_
  refine jr_iconst (v := 0) dX11_isSavedBy_17 (by decide) ?_
  refine jr_istore (lv' := [(5, .int 0), (4, .ref r13), (0, .ref x0), (1, .int x1), (2, .int x2), (3, .int x3)]) dX11_isSavedBy_18 (by decide) rfl ?_
  exact jr_sub [2, 3, 4, 5, 1, 0] rfl k
set_option maxRecDepth 20000 in
theorem bX11_isSavedBy_20 {g : jG} {d : Nat} {hs : jH} {P : jO → jH → Prop} {x0 : Nat} {x1 : Int32} {x2 : Int32} {x3 : Int32} {x4 : Nat} {x5 : Int32} {h : jH} (k : ∃ fs1 : List Value, h.1 x4 = some (.inr (6, fs1)) ∧ ∃ v4 : Int32, fs1[0]? = some (.int v4) ∧ (x5 < v4 → (x5 < 7 → (((x1 >>> (x5 &&& 31)) &&& 1) = 1 → ∃ fs5 : List Value, h.1 x4 = some (.inr (6, fs5)) ∧ ∃ v8 : Nat, fs5[8]? = some (.ref v8) ∧ ∃ (n9 : Nat) (f10 : Nat → Int32), h.1 v8 = some (.inl (0, (n9, .inl f10))) ∧ vp_in x5 n9 ∧ ∀ h13 : jH, h13 = jset h v8 (.inl (0, (n9, .inl (upd f10 x5.toNatClampNeg x3)))) → J g mX11_isSavedBy (d + 1) hs P 20 [(0, .ref x0), (1, .int x1), (2, .int x2), (3, .int x3), (4, .ref x4), (5, .int (x5 + 1))] [] h13) ∧ (¬ ((x1 >>> (x5 &&& 31)) &&& 1) = 1 → J g mX11_isSavedBy (d + 1) hs P 20 [(0, .ref x0), (1, .int x1), (2, .int x2), (3, .int x3), (4, .ref x4), (5, .int (x5 + 1))] [] h)) ∧ (¬ x5 < 7 → J g mX11_isSavedBy (d + 1) hs P 62 [(0, .ref x0), (2, .int x2), (3, .int x3)] [] h)) ∧ (¬ x5 < v4 → J g mX11_isSavedBy (d + 1) hs P 62 [(0, .ref x0), (2, .int x2), (3, .int x3)] [] h)) : J g mX11_isSavedBy (d + 1) hs P 20 [(0, .ref x0), (1, .int x1), (2, .int x2), (3, .int x3), (4, .ref x4), (5, .int x5)] [] h := by
  refine jr_iload 5 dX11_isSavedBy_20 rfl ?_
  refine jr_aload 4 dX11_isSavedBy_22 rfl ?_
  obtain ⟨fs1, e2, v4, e3, k⟩ := k
  refine jr_get jf_X11_131 dX11_isSavedBy_24 e2 e3 ?_
  refine jr_icmp_ge (tgt := 62) dX11_isSavedBy_27 (by decide) (fun c27 => ?_) (fun c27 => ?_)
  · have k := k.2 c27
    exact jr_sub [0, 2, 3] rfl k
  · have k := k.1 c27
    refine jr_iload 5 dX11_isSavedBy_30 rfl ?_
    refine jr_bipush (v := 7) dX11_isSavedBy_32 (by decide) ?_
    refine jr_icmp_ge (tgt := 62) dX11_isSavedBy_34 (by decide) (fun c34 => ?_) (fun c34 => ?_)
    · have k := k.2 c34
      exact jr_sub [0, 2, 3] rfl k
    · have k := k.1 c34
      refine jr_iload_n 1 dX11_isSavedBy_37 rfl rfl ?_
      refine jr_iload 5 dX11_isSavedBy_38 rfl ?_
      refine jr_ishr dX11_isSavedBy_40 ?_
      refine jr_iconst (v := 1) dX11_isSavedBy_41 (by decide) ?_
      refine jr_iand dX11_isSavedBy_42 ?_
      refine jr_iconst (v := 1) dX11_isSavedBy_43 (by decide) ?_
      refine jr_icmp_ne (tgt := 56) dX11_isSavedBy_44 (by decide) (fun c44 => ?_) (fun c44 => ?_)
      · have k := k.2 c44
        refine jr_iinc (v := (x5 + 1)) (lv' := [(5, .int (x5 + 1)), (0, .ref x0), (1, .int x1), (2, .int x2), (3, .int x3), (4, .ref x4)]) 5 dX11_isSavedBy_56 rfl rfl (by decide) rfl ?_
        refine jr_goto (tgt := 20) dX11_isSavedBy_59 (by decide) ?_
        exact jr_sub [1, 2, 3, 4, 5, 0] rfl k
      · have k := k.1 c44
        refine jr_aload 4 dX11_isSavedBy_47 rfl ?_
        obtain ⟨fs5, e6, v8, e7, k⟩ := k
        refine jr_get jf_X11_128 dX11_isSavedBy_49 e6 e7 ?_
        refine jr_iload 5 dX11_isSavedBy_52 rfl ?_
        refine jr_iload_n 3 dX11_isSavedBy_54 rfl rfl ?_
        obtain ⟨n9, f10, e11, e12, k⟩ := k
        refine jr_iastE dX11_isSavedBy_55 e11 e12 (fun h13 eh14 => ?_)
        have k := k h13 eh14
        refine jr_iinc (v := (x5 + 1)) (lv' := [(5, .int (x5 + 1)), (0, .ref x0), (1, .int x1), (2, .int x2), (3, .int x3), (4, .ref x4)]) 5 dX11_isSavedBy_56 rfl rfl (by decide) rfl ?_
        refine jr_goto (tgt := 20) dX11_isSavedBy_59 (by decide) ?_
        exact jr_sub [1, 2, 3, 4, 5, 0] rfl k
set_option maxRecDepth 20000 in
theorem bX11_isSavedBy_62 {g : jG} {d : Nat} {hs : jH} {P : jO → jH → Prop} {x0 : Nat} {x2 : Int32} {x3 : Int32} {h : jH} (k : ∃ fs1 : List Value, h.1 x0 = some (.inr (11, fs1)) ∧ ∃ v4 : Nat, fs1[10]? = some (.ref v4) ∧ ∃ fs7 : List Value, h.1 v4 = some (.inr (0, fs7)) ∧ Con g mX0_ruins d [.ref v4, .int x2, .int x3] h (jPi (fun (r5 : Int32) (h6 : jH) => (r5 = 0 → P (.inl (some (.int 1))) h6) ∧ (¬ r5 = 0 → P (.inl (some (.int 0))) h6)) (fun E h' => P (.inr E) h'))) : J g mX11_isSavedBy (d + 1) hs P 62 [(0, .ref x0), (2, .int x2), (3, .int x3)] [] h := by
  refine jr_aload_n 0 dX11_isSavedBy_62 rfl rfl ?_
  obtain ⟨fs1, e2, v4, e3, k⟩ := k
  refine jr_get jf_X11_62 dX11_isSavedBy_63 e2 e3 ?_
  refine jr_iload_n 1 dX11_isSavedBy_66 rfl rfl ?_
  refine jr_iload_n 2 dX11_isSavedBy_67 rfl rfl ?_
  obtain ⟨fs7, e8, k⟩ := k
  refine jr_cVi (As := [.int x2, .int x3]) jl_X11_346 km_X0_ruins rfl rfl dX11_isSavedBy_68 e8 (Nat.le_of_ble_eq_true rfl) k (fun r5 h6 k => ?_)
  refine jr_if_ne (tgt := 78) dX11_isSavedBy_71 (by decide) (fun c71 => ?_) (fun c71 => ?_)
  · have k := k.2 c71
    refine jr_iconst (v := 0) dX11_isSavedBy_78 (by decide) ?_
    exact jr_iret (ty := .boolean) rfl rfl dX11_isSavedBy_79 k
  · have k := k.1 c71
    refine jr_iconst (v := 1) dX11_isSavedBy_74 (by decide) ?_
    refine jr_goto (tgt := 79) dX11_isSavedBy_75 (by decide) ?_
    exact jr_iret (ty := .boolean) rfl rfl dX11_isSavedBy_79 k
set_option maxRecDepth 20000 in
theorem bX11_bestHedge_0 {g : jG} {d : Nat} {hs : jH} {P : jO → jH → Prop} {x0 : Nat} {x1 : Int32} {h : jH} (k : ∃ fs3 : List Value, h.1 x0 = some (.inr (11, fs3)) ∧ Con g mX11_checkNear d [.ref x0, .int x1] h (jPv (fun (h2 : jH) => ∃ fs7 : List Value, h2.1 x0 = some (.inr (11, fs7)) ∧ Con g mX11_lostNow d [.ref x0, .int x1] h2 (jPi (fun (r5 : Int32) (h6 : jH) => J g mX11_bestHedge (d + 1) hs P 16 [(0, .ref x0), (1, .int x1), (2, .int r5), (3, .int (-1)), (4, .int 0)] [] h6) (fun E h' => P (.inr E) h'))) (fun E h' => P (.inr E) h'))) : J g mX11_bestHedge (d + 1) hs P 0 [(0, .ref x0), (1, .int x1)] [] h := by
  refine jr_aload_n 0 dX11_bestHedge_0 rfl rfl ?_
  refine jr_iload_n 1 dX11_bestHedge_1 rfl rfl ?_
  obtain ⟨fs3, e4, k⟩ := k
  refine jr_cVv (As := [.int x1]) jl_X11_291 km_X11_checkNear rfl rfl dX11_bestHedge_2 e4 (Nat.le_of_ble_eq_true rfl) k (fun h2 k => ?_)
  refine jr_aload_n 0 dX11_bestHedge_5 rfl rfl ?_
  refine jr_iload_n 1 dX11_bestHedge_6 rfl rfl ?_
  obtain ⟨fs7, e8, k⟩ := k
  refine jr_cVi (As := [.int x1]) jl_X11_294 km_X11_lostNow rfl rfl dX11_bestHedge_7 e8 (Nat.le_of_ble_eq_true rfl) k (fun r5 h6 k => ?_)
  refine jr_istore_n (lv' := [(2, .int r5), (0, .ref x0), (1, .int x1)]) dX11_bestHedge_10 rfl (by decide) rfl ?_
  refine jr_iconst (v := (-1)) dX11_bestHedge_11 (by decide) ?_
  refine jr_istore_n (lv' := [(3, .int (-1)), (2, .int r5), (0, .ref x0), (1, .int x1)]) dX11_bestHedge_12 rfl (by decide) rfl ?_
  refine jr_iconst (v := 0) dX11_bestHedge_13 (by decide) ?_
  refine jr_istore (lv' := [(4, .int 0), (3, .int (-1)), (2, .int r5), (0, .ref x0), (1, .int x1)]) dX11_bestHedge_14 (by decide) rfl ?_
  exact jr_sub [3, 4, 2, 1, 0] rfl k
set_option maxRecDepth 20000 in
theorem bX11_bestHedge_16 {g : jG} {d : Nat} {hs : jH} {P : jO → jH → Prop} {x0 : Nat} {x1 : Int32} {x2 : Int32} {x3 : Int32} {x4 : Int32} {h : jH} (k : ∃ fs1 : List Value, h.1 x0 = some (.inr (11, fs1)) ∧ ∃ v4 : Nat, fs1[6]? = some (.ref v4) ∧ ∃ fs5 : List Value, h.1 v4 = some (.inr (6, fs5)) ∧ ∃ v8 : Int32, fs5[0]? = some (.int v8) ∧ (x4 < v8 → (x4 < 7 → ∃ fs9 : List Value, h.1 x0 = some (.inr (11, fs9)) ∧ ∃ v12 : Nat, fs9[10]? = some (.ref v12) ∧ ∃ fs13 : List Value, h.1 x0 = some (.inr (11, fs13)) ∧ ∃ v16 : Nat, fs13[5]? = some (.ref v16) ∧ ∃ fs17 : List Value, h.1 x0 = some (.inr (11, fs17)) ∧ ∃ v20 : Nat, fs17[6]? = some (.ref v20) ∧ ∃ fs23 : List Value, h.1 v12 = some (.inr (0, fs23)) ∧ Con g mX0_from d [.ref v12, .ref v16, .ref v20] h (jPr (fun (r21 : Nat) (h22 : jH) => ∃ fs25 : List Value, h22.1 r21 = some (.inr (6, fs25)) ∧ ∃ v28 : Nat, fs25[8]? = some (.ref v28) ∧ ∃ (n29 : Nat) (f30 : Nat → Int32), h22.1 v28 = some (.inl (0, (n29, .inl f30))) ∧ vp_in x4 n29 ∧ ∀ h33 : jH, h33 = jset h22 v28 (.inl (0, (n29, .inl (upd f30 x4.toNatClampNeg x1)))) → ∃ fs35 : List Value, h33.1 x0 = some (.inr (11, fs35)) ∧ ∃ v38 : Nat, fs35[10]? = some (.ref v38) ∧ ∃ fs41 : List Value, h33.1 v38 = some (.inr (0, fs41)) ∧ Con g mX0_losses d [.ref v38, .int x1, .int x2] h33 (jPi (fun (r39 : Int32) (h40 : jH) => (r39 < x2 → J g mX11_bestHedge (d + 1) hs P 16 [(0, .ref x0), (1, .int x1), (2, .int r39), (3, .int x4), (4, .int (x4 + 1))] [] h40) ∧ (¬ r39 < x2 → J g mX11_bestHedge (d + 1) hs P 16 [(0, .ref x0), (1, .int x1), (2, .int x2), (3, .int x3), (4, .int (x4 + 1))] [] h40)) (fun E h' => P (.inr E) h'))) (fun E h' => P (.inr E) h'))) ∧ (¬ x4 < 7 → P (.inl (some (.int x3))) h)) ∧ (¬ x4 < v8 → P (.inl (some (.int x3))) h)) : J g mX11_bestHedge (d + 1) hs P 16 [(0, .ref x0), (1, .int x1), (2, .int x2), (3, .int x3), (4, .int x4)] [] h := by
  refine jr_iload 4 dX11_bestHedge_16 rfl ?_
  refine jr_aload_n 0 dX11_bestHedge_18 rfl rfl ?_
  obtain ⟨fs1, e2, v4, e3, k⟩ := k
  refine jr_get jf_X11_34 dX11_bestHedge_19 e2 e3 ?_
  obtain ⟨fs5, e6, v8, e7, k⟩ := k
  refine jr_get jf_X11_131 dX11_bestHedge_22 e6 e7 ?_
  refine jr_icmp_ge (tgt := 86) dX11_bestHedge_25 (by decide) (fun c25 => ?_) (fun c25 => ?_)
  · have k := k.2 c25
    refine jr_iload_n 3 dX11_bestHedge_86 rfl rfl ?_
    exact jr_iret (ty := .int) rfl rfl dX11_bestHedge_87 k
  · have k := k.1 c25
    refine jr_iload 4 dX11_bestHedge_28 rfl ?_
    refine jr_bipush (v := 7) dX11_bestHedge_30 (by decide) ?_
    refine jr_icmp_ge (tgt := 86) dX11_bestHedge_32 (by decide) (fun c32 => ?_) (fun c32 => ?_)
    · have k := k.2 c32
      refine jr_iload_n 3 dX11_bestHedge_86 rfl rfl ?_
      exact jr_iret (ty := .int) rfl rfl dX11_bestHedge_87 k
    · have k := k.1 c32
      refine jr_aload_n 0 dX11_bestHedge_35 rfl rfl ?_
      obtain ⟨fs9, e10, v12, e11, k⟩ := k
      refine jr_get jf_X11_62 dX11_bestHedge_36 e10 e11 ?_
      refine jr_aload_n 0 dX11_bestHedge_39 rfl rfl ?_
      obtain ⟨fs13, e14, v16, e15, k⟩ := k
      refine jr_get jf_X11_20 dX11_bestHedge_40 e14 e15 ?_
      refine jr_aload_n 0 dX11_bestHedge_43 rfl rfl ?_
      obtain ⟨fs17, e18, v20, e19, k⟩ := k
      refine jr_get jf_X11_34 dX11_bestHedge_44 e18 e19 ?_
      obtain ⟨fs23, e24, k⟩ := k
      refine jr_cVr (As := [.ref v16, .ref v20]) jl_X11_237 km_X0_from rfl rfl dX11_bestHedge_47 e24 (Nat.le_of_ble_eq_true rfl) k (fun r21 h22 k => ?_)
      obtain ⟨fs25, e26, v28, e27, k⟩ := k
      refine jr_get jf_X11_128 dX11_bestHedge_50 e26 e27 ?_
      refine jr_iload 4 dX11_bestHedge_53 rfl ?_
      refine jr_iload_n 1 dX11_bestHedge_55 rfl rfl ?_
      obtain ⟨n29, f30, e31, e32, k⟩ := k
      refine jr_iastE dX11_bestHedge_56 e31 e32 (fun h33 eh34 => ?_)
      have k := k h33 eh34
      refine jr_aload_n 0 dX11_bestHedge_57 rfl rfl ?_
      obtain ⟨fs35, e36, v38, e37, k⟩ := k
      refine jr_get jf_X11_62 dX11_bestHedge_58 e36 e37 ?_
      refine jr_iload_n 1 dX11_bestHedge_61 rfl rfl ?_
      refine jr_iload_n 2 dX11_bestHedge_62 rfl rfl ?_
      obtain ⟨fs41, e42, k⟩ := k
      refine jr_cVi (As := [.int x1, .int x2]) jl_X11_307 km_X0_losses rfl rfl dX11_bestHedge_63 e42 (Nat.le_of_ble_eq_true rfl) k (fun r39 h40 k => ?_)
      refine jr_istore (lv' := [(5, .int r39), (0, .ref x0), (1, .int x1), (2, .int x2), (3, .int x3), (4, .int x4)]) dX11_bestHedge_66 (by decide) rfl ?_
      refine jr_iload 0 dX11_bestHedge_68 rfl ?_
      refine jr_iload_n 3 dX11_bestHedge_70 rfl rfl ?_
      refine jr_icmp_ge (tgt := 80) dX11_bestHedge_71 (by decide) (fun c71 => ?_) (fun c71 => ?_)
      · have k := k.2 c71
        refine jr_iinc (v := (x4 + 1)) (lv' := [(4, .int (x4 + 1)), (5, .int r39), (0, .ref x0), (1, .int x1), (2, .int x2), (3, .int x3)]) 5 dX11_bestHedge_80 rfl rfl (by decide) rfl ?_
        refine jr_goto (tgt := 16) dX11_bestHedge_83 (by decide) ?_
        exact jr_sub [2, 3, 4, 5, 0] rfl k
      · have k := k.1 c71
        refine jr_iload 0 dX11_bestHedge_74 rfl ?_
        refine jr_istore_n (lv' := [(2, .int r39), (5, .int r39), (0, .ref x0), (1, .int x1), (3, .int x3), (4, .int x4)]) dX11_bestHedge_76 rfl (by decide) rfl ?_
        refine jr_iload 5 dX11_bestHedge_77 rfl ?_
        refine jr_istore_n (lv' := [(3, .int x4), (2, .int r39), (5, .int r39), (0, .ref x0), (1, .int x1), (4, .int x4)]) dX11_bestHedge_79 rfl (by decide) rfl ?_
        refine jr_iinc (v := (x4 + 1)) (lv' := [(4, .int (x4 + 1)), (3, .int x4), (2, .int r39), (5, .int r39), (0, .ref x0), (1, .int x1)]) 5 dX11_bestHedge_80 rfl rfl (by decide) rfl ?_
        refine jr_goto (tgt := 16) dX11_bestHedge_83 (by decide) ?_
        exact jr_sub [4, 5, 2, 1, 0] rfl k
set_option maxRecDepth 20000 in
theorem bX11_saves_0 {g : jG} {d : Nat} {hs : jH} {P : jO → jH → Prop} {x0 : Nat} {x1 : Int32} {x2 : Int32} {h : jH} (k : ∃ fs3 : List Value, h.1 x0 = some (.inr (11, fs3)) ∧ Con g mX11_checkHouse d [.ref x0, .int x1] h (jPv (fun (h2 : jH) => ∃ fs7 : List Value, h2.1 x0 = some (.inr (11, fs7)) ∧ Con g mX11_checkNear d [.ref x0, .int x2] h2 (jPv (fun (h6 : jH) => ∃ fs11 : List Value, h6.1 x0 = some (.inr (11, fs11)) ∧ Con g mX11_checkNotGone d [.ref x0, .int x1] h6 (jPv (fun (h10 : jH) => J g mX11_saves (d + 1) hs P 17 [(0, .ref x0), (1, .int x1), (2, .int x2), (3, .int 0)] [] h10) (fun E h' => P (.inr E) h'))) (fun E h' => P (.inr E) h'))) (fun E h' => P (.inr E) h'))) : J g mX11_saves (d + 1) hs P 0 [(0, .ref x0), (1, .int x1), (2, .int x2)] [] h := by
  refine jr_aload_n 0 dX11_saves_0 rfl rfl ?_
  refine jr_iload_n 1 dX11_saves_1 rfl rfl ?_
  obtain ⟨fs3, e4, k⟩ := k
  refine jr_cVv (As := [.int x1]) jl_X11_121 km_X11_checkHouse rfl rfl dX11_saves_2 e4 (Nat.le_of_ble_eq_true rfl) k (fun h2 k => ?_)
  refine jr_aload_n 0 dX11_saves_5 rfl rfl ?_
  refine jr_iload_n 2 dX11_saves_6 rfl rfl ?_
  obtain ⟨fs7, e8, k⟩ := k
  refine jr_cVv (As := [.int x2]) jl_X11_291 km_X11_checkNear rfl rfl dX11_saves_7 e8 (Nat.le_of_ble_eq_true rfl) k (fun h6 k => ?_)
  refine jr_aload_n 0 dX11_saves_10 rfl rfl ?_
  refine jr_iload_n 1 dX11_saves_11 rfl rfl ?_
  obtain ⟨fs11, e12, k⟩ := k
  refine jr_cVv (As := [.int x1]) jl_X11_154 km_X11_checkNotGone rfl rfl dX11_saves_12 e12 (Nat.le_of_ble_eq_true rfl) k (fun h10 k => ?_)
  refine jr_iconst (v := 0) dX11_saves_15 (by decide) ?_
  refine jr_istore_n (lv' := [(3, .int 0), (0, .ref x0), (1, .int x1), (2, .int x2)]) dX11_saves_16 rfl (by decide) rfl ?_
  exact jr_sub [1, 2, 3, 0] rfl k
set_option maxRecDepth 20000 in
theorem bX11_saves_17 {g : jG} {d : Nat} {hs : jH} {P : jO → jH → Prop} {x0 : Nat} {x1 : Int32} {x2 : Int32} {x3 : Int32} {h : jH} (k : (999 < x3 → P (.inl (some (.int ((-1))))) h) ∧ (¬ 999 < x3 → ∃ fs1 : List Value, h.1 x0 = some (.inr (11, fs1)) ∧ ∃ v4 : Nat, fs1[10]? = some (.ref v4) ∧ ∃ fs5 : List Value, h.1 x0 = some (.inr (11, fs5)) ∧ ∃ v8 : Nat, fs5[5]? = some (.ref v8) ∧ ∃ fs9 : List Value, h.1 x0 = some (.inr (11, fs9)) ∧ ∃ v12 : Nat, fs9[6]? = some (.ref v12) ∧ ∃ fs15 : List Value, h.1 v4 = some (.inr (0, fs15)) ∧ Con g mX0_from d [.ref v4, .ref v8, .ref v12] h (jPr (fun (r13 : Nat) (h14 : jH) => ∃ fs17 : List Value, h14.1 r13 = some (.inr (6, fs17)) ∧ ∃ v20 : Nat, fs17[5]? = some (.ref v20) ∧ ∃ fs21 : List Value, h14.1 x0 = some (.inr (11, fs21)) ∧ ∃ v24 : Nat, fs21[6]? = some (.ref v24) ∧ ∃ fs25 : List Value, h14.1 v24 = some (.inr (6, fs25)) ∧ ∃ v28 : Nat, fs25[5]? = some (.ref v28) ∧ ∃ (n29 : Nat) (f30 : Nat → Int32), h14.1 v28 = some (.inl (0, (n29, .inl f30))) ∧ vp_in x1 n29 ∧ ∃ (n33 : Nat) (f34 : Nat → Int32), h14.1 v20 = some (.inl (0, (n33, .inl f34))) ∧ vp_in x1 n33 ∧ ∀ h37 : jH, h37 = jset h14 v20 (.inl (0, (n33, .inl (upd f34 x1.toNatClampNeg ((jmin (((f30 x1.toNatClampNeg) + x3)) 999999)))))) → ∃ fs39 : List Value, h37.1 x0 = some (.inr (11, fs39)) ∧ ∃ v42 : Nat, fs39[10]? = some (.ref v42) ∧ ∃ fs45 : List Value, h37.1 v42 = some (.inr (0, fs45)) ∧ Con g mX0_ruins d [.ref v42, .int x1, .int x2] h37 (jPi (fun (r43 : Int32) (h44 : jH) => (r43 = 0 → P (.inl (some (.int x3))) h44) ∧ (¬ r43 = 0 → J g mX11_saves (d + 1) hs P 17 [(0, .ref x0), (1, .int x1), (2, .int x2), (3, .int (x3 + 1))] [] h44)) (fun E h' => P (.inr E) h'))) (fun E h' => P (.inr E) h')))) : J g mX11_saves (d + 1) hs P 17 [(0, .ref x0), (1, .int x1), (2, .int x2), (3, .int x3)] [] h := by
  refine jr_iload_n 3 dX11_saves_17 rfl rfl ?_
  refine jr_sipush (v := 999) dX11_saves_18 (by decide) ?_
  refine jr_icmp_gt (tgt := 80) dX11_saves_21 (by decide) (fun c21 => ?_) (fun c21 => ?_)
  · have k := k.1 c21
    refine jr_iconst (v := (-1)) dX11_saves_80 (by decide) ?_
    exact jr_iret (ty := .int) rfl rfl dX11_saves_81 k
  · have k := k.2 c21
    refine jr_aload_n 0 dX11_saves_24 rfl rfl ?_
    obtain ⟨fs1, e2, v4, e3, k⟩ := k
    refine jr_get jf_X11_62 dX11_saves_25 e2 e3 ?_
    refine jr_aload_n 0 dX11_saves_28 rfl rfl ?_
    obtain ⟨fs5, e6, v8, e7, k⟩ := k
    refine jr_get jf_X11_20 dX11_saves_29 e6 e7 ?_
    refine jr_aload_n 0 dX11_saves_32 rfl rfl ?_
    obtain ⟨fs9, e10, v12, e11, k⟩ := k
    refine jr_get jf_X11_34 dX11_saves_33 e10 e11 ?_
    obtain ⟨fs15, e16, k⟩ := k
    refine jr_cVr (As := [.ref v8, .ref v12]) jl_X11_237 km_X0_from rfl rfl dX11_saves_36 e16 (Nat.le_of_ble_eq_true rfl) k (fun r13 h14 k => ?_)
    obtain ⟨fs17, e18, v20, e19, k⟩ := k
    refine jr_get jf_X11_146 dX11_saves_39 e18 e19 ?_
    refine jr_iload_n 1 dX11_saves_42 rfl rfl ?_
    refine jr_aload_n 0 dX11_saves_43 rfl rfl ?_
    obtain ⟨fs21, e22, v24, e23, k⟩ := k
    refine jr_get jf_X11_34 dX11_saves_44 e22 e23 ?_
    obtain ⟨fs25, e26, v28, e27, k⟩ := k
    refine jr_get jf_X11_146 dX11_saves_47 e26 e27 ?_
    refine jr_iload_n 1 dX11_saves_50 rfl rfl ?_
    obtain ⟨n29, f30, e31, e32, k⟩ := k
    refine jr_iald dX11_saves_51 e31 e32 ?_
    refine jr_iload_n 3 dX11_saves_52 rfl rfl ?_
    refine jr_iadd dX11_saves_53 ?_
    refine jr_ldc (v := 999999) jk_X11_161 dX11_saves_54 ?_
    refine jr_mmin jl_X11_333 dX11_saves_56 (Nat.le_of_ble_eq_true rfl) ?_
    obtain ⟨n33, f34, e35, e36, k⟩ := k
    refine jr_iastE dX11_saves_59 e35 e36 (fun h37 eh38 => ?_)
    have k := k h37 eh38
    refine jr_aload_n 0 dX11_saves_60 rfl rfl ?_
    obtain ⟨fs39, e40, v42, e41, k⟩ := k
    refine jr_get jf_X11_62 dX11_saves_61 e40 e41 ?_
    refine jr_iload_n 1 dX11_saves_64 rfl rfl ?_
    refine jr_iload_n 2 dX11_saves_65 rfl rfl ?_
    obtain ⟨fs45, e46, k⟩ := k
    refine jr_cVi (As := [.int x1, .int x2]) jl_X11_346 km_X0_ruins rfl rfl dX11_saves_66 e46 (Nat.le_of_ble_eq_true rfl) k (fun r43 h44 k => ?_)
    refine jr_if_ne (tgt := 74) dX11_saves_69 (by decide) (fun c69 => ?_) (fun c69 => ?_)
    · have k := k.2 c69
      refine jr_iinc (v := (x3 + 1)) (lv' := [(3, .int (x3 + 1)), (0, .ref x0), (1, .int x1), (2, .int x2)]) 3 dX11_saves_74 rfl rfl (by decide) rfl ?_
      refine jr_goto (tgt := 17) dX11_saves_77 (by decide) ?_
      exact jr_sub [1, 2, 3, 0] rfl k
    · have k := k.1 c69
      refine jr_iload_n 3 dX11_saves_72 rfl rfl ?_
      exact jr_iret (ty := .int) rfl rfl dX11_saves_73 k
set_option maxRecDepth 20000 in
theorem bX11_leastLimit_0 {g : jG} {d : Nat} {hs : jH} {P : jO → jH → Prop} {x0 : Nat} {x1 : Int32} {h : jH} (k : ∃ fs3 : List Value, h.1 x0 = some (.inr (11, fs3)) ∧ Con g mX11_checkNear d [.ref x0, .int x1] h (jPv (fun (h2 : jH) => ∃ fs5 : List Value, h2.1 x0 = some (.inr (11, fs5)) ∧ ∃ v8 : Nat, fs5[10]? = some (.ref v8) ∧ ∃ fs9 : List Value, h2.1 x0 = some (.inr (11, fs9)) ∧ ∃ v12 : Nat, fs9[5]? = some (.ref v12) ∧ ∃ fs13 : List Value, h2.1 x0 = some (.inr (11, fs13)) ∧ ∃ v16 : Nat, fs13[6]? = some (.ref v16) ∧ ∃ fs19 : List Value, h2.1 v8 = some (.inr (0, fs19)) ∧ Con g mX0_from d [.ref v8, .ref v12, .ref v16] h2 (jPr (fun (r17 : Nat) (h18 : jH) => J g mX11_leastLimit (d + 1) hs P 26 [(0, .ref x0), (1, .int x1), (2, .ref r17), (3, .int 0), (4, .int 0)] [] h18) (fun E h' => P (.inr E) h'))) (fun E h' => P (.inr E) h'))) : J g mX11_leastLimit (d + 1) hs P 0 [(0, .ref x0), (1, .int x1)] [] h := by
  refine jr_aload_n 0 dX11_leastLimit_0 rfl rfl ?_
  refine jr_iload_n 1 dX11_leastLimit_1 rfl rfl ?_
  obtain ⟨fs3, e4, k⟩ := k
  refine jr_cVv (As := [.int x1]) jl_X11_291 km_X11_checkNear rfl rfl dX11_leastLimit_2 e4 (Nat.le_of_ble_eq_true rfl) k (fun h2 k => ?_)
  refine jr_aload_n 0 dX11_leastLimit_5 rfl rfl ?_
  obtain ⟨fs5, e6, v8, e7, k⟩ := k
  refine jr_get jf_X11_62 dX11_leastLimit_6 e6 e7 ?_
  refine jr_aload_n 0 dX11_leastLimit_9 rfl rfl ?_
  obtain ⟨fs9, e10, v12, e11, k⟩ := k
  refine jr_get jf_X11_20 dX11_leastLimit_10 e10 e11 ?_
  refine jr_aload_n 0 dX11_leastLimit_13 rfl rfl ?_
  obtain ⟨fs13, e14, v16, e15, k⟩ := k
  refine jr_get jf_X11_34 dX11_leastLimit_14 e14 e15 ?_
  obtain ⟨fs19, e20, k⟩ := k
  refine jr_cVr (As := [.ref v12, .ref v16]) jl_X11_237 km_X0_from rfl rfl dX11_leastLimit_17 e20 (Nat.le_of_ble_eq_true rfl) k (fun r17 h18 k => ?_)
  refine jr_astore_n (lv' := [(2, .ref r17), (0, .ref x0), (1, .int x1)]) dX11_leastLimit_20 rfl (by decide) rfl ?_
  refine jr_iconst (v := 0) dX11_leastLimit_21 (by decide) ?_
  refine jr_istore_n (lv' := [(3, .int 0), (2, .ref r17), (0, .ref x0), (1, .int x1)]) dX11_leastLimit_22 rfl (by decide) rfl ?_
  refine jr_iconst (v := 0) dX11_leastLimit_23 (by decide) ?_
  refine jr_istore (lv' := [(4, .int 0), (3, .int 0), (2, .ref r17), (0, .ref x0), (1, .int x1)]) dX11_leastLimit_24 (by decide) rfl ?_
  exact jr_sub [3, 4, 2, 1, 0] rfl k
set_option maxRecDepth 20000 in
theorem bX11_leastLimit_26 {g : jG} {d : Nat} {hs : jH} {P : jO → jH → Prop} {x0 : Nat} {x1 : Int32} {x2 : Nat} {x3 : Int32} {x4 : Int32} {h : jH} (k : (x4 < x1 → ∃ fs1 : List Value, h.1 x0 = some (.inr (11, fs1)) ∧ ∃ v4 : Nat, fs1[10]? = some (.ref v4) ∧ ∃ fs5 : List Value, h.1 x0 = some (.inr (11, fs5)) ∧ ∃ v8 : Nat, fs5[5]? = some (.ref v8) ∧ ∃ fs11 : List Value, h.1 v4 = some (.inr (0, fs11)) ∧ Con g mX0_pass d [.ref v4, .ref v8, .ref x2, .int 999999] h (jPv (fun (h10 : jH) => J g mX11_leastLimit (d + 1) hs P 49 [(0, .ref x0), (1, .int x1), (2, .ref x2), (3, .int x3), (4, .int x4), (5, .int 0)] [] h10) (fun E h' => P (.inr E) h'))) ∧ (¬ x4 < x1 → (999 < x3 → P (.inl (some (.int ((-1))))) h) ∧ (¬ 999 < x3 → P (.inl (some (.int x3))) h))) : J g mX11_leastLimit (d + 1) hs P 26 [(0, .ref x0), (1, .int x1), (2, .ref x2), (3, .int x3), (4, .int x4)] [] h := by
  refine jr_iload 4 dX11_leastLimit_26 rfl ?_
  refine jr_iload_n 1 dX11_leastLimit_28 rfl rfl ?_
  refine jr_icmp_ge (tgt := 98) dX11_leastLimit_29 (by decide) (fun c29 => ?_) (fun c29 => ?_)
  · have k := k.2 c29
    refine jr_iload_n 3 dX11_leastLimit_98 rfl rfl ?_
    refine jr_sipush (v := 999) dX11_leastLimit_99 (by decide) ?_
    refine jr_icmp_gt (tgt := 109) dX11_leastLimit_102 (by decide) (fun c102 => ?_) (fun c102 => ?_)
    · have k := k.1 c102
      refine jr_iconst (v := (-1)) dX11_leastLimit_109 (by decide) ?_
      exact jr_iret (ty := .int) rfl rfl dX11_leastLimit_110 k
    · have k := k.2 c102
      refine jr_iload_n 3 dX11_leastLimit_105 rfl rfl ?_
      refine jr_goto (tgt := 110) dX11_leastLimit_106 (by decide) ?_
      exact jr_iret (ty := .int) rfl rfl dX11_leastLimit_110 k
  · have k := k.1 c29
    refine jr_aload_n 0 dX11_leastLimit_32 rfl rfl ?_
    obtain ⟨fs1, e2, v4, e3, k⟩ := k
    refine jr_get jf_X11_62 dX11_leastLimit_33 e2 e3 ?_
    refine jr_aload_n 0 dX11_leastLimit_36 rfl rfl ?_
    obtain ⟨fs5, e6, v8, e7, k⟩ := k
    refine jr_get jf_X11_20 dX11_leastLimit_37 e6 e7 ?_
    refine jr_aload_n 2 dX11_leastLimit_40 rfl rfl ?_
    refine jr_ldc (v := 999999) jk_X11_161 dX11_leastLimit_41 ?_
    obtain ⟨fs11, e12, k⟩ := k
    refine jr_cVv (As := [.ref v8, .ref x2, .int 999999]) jl_X11_220 km_X0_pass rfl rfl dX11_leastLimit_43 e12 (Nat.le_of_ble_eq_true rfl) k (fun h10 k => ?_)
    refine jr_iconst (v := 0) dX11_leastLimit_46 (by decide) ?_
    refine jr_istore (lv' := [(5, .int 0), (0, .ref x0), (1, .int x1), (2, .ref x2), (3, .int x3), (4, .int x4)]) dX11_leastLimit_47 (by decide) rfl ?_
    exact jr_sub [1, 2, 3, 4, 5, 0] rfl k
set_option maxRecDepth 20000 in
theorem bX11_leastLimit_49 {g : jG} {d : Nat} {hs : jH} {P : jO → jH → Prop} {x0 : Nat} {x1 : Int32} {x2 : Nat} {x3 : Int32} {x4 : Int32} {x5 : Int32} {h : jH} (k : ∃ fs1 : List Value, h.1 x2 = some (.inr (6, fs1)) ∧ ∃ v4 : Int32, fs1[0]? = some (.int v4) ∧ (x5 < v4 → (x5 < 7 → ∃ fs7 : List Value, h.1 x2 = some (.inr (6, fs7)) ∧ Con g mX6_isGone d [.ref x2, .int x5] h (jPi (fun (r5 : Int32) (h6 : jH) => (r5 = 0 → ∃ fs9 : List Value, h6.1 x2 = some (.inr (6, fs9)) ∧ ∃ v12 : Nat, fs9[7]? = some (.ref v12) ∧ ∃ (n13 : Nat) (f14 : Nat → Int32), h6.1 v12 = some (.inl (0, (n13, .inl f14))) ∧ vp_in x5 n13 ∧ J g mX11_leastLimit (d + 1) hs P 49 [(0, .ref x0), (1, .int x1), (2, .ref x2), (3, .int (jmax x3 ((f14 x5.toNatClampNeg)))), (4, .int x4), (5, .int (x5 + 1))] [] h6) ∧ (¬ r5 = 0 → J g mX11_leastLimit (d + 1) hs P 49 [(0, .ref x0), (1, .int x1), (2, .ref x2), (3, .int x3), (4, .int x4), (5, .int (x5 + 1))] [] h6)) (fun E h' => P (.inr E) h'))) ∧ (¬ x5 < 7 → J g mX11_leastLimit (d + 1) hs P 26 [(0, .ref x0), (1, .int x1), (2, .ref x2), (3, .int x3), (4, .int (x4 + 1))] [] h)) ∧ (¬ x5 < v4 → J g mX11_leastLimit (d + 1) hs P 26 [(0, .ref x0), (1, .int x1), (2, .ref x2), (3, .int x3), (4, .int (x4 + 1))] [] h)) : J g mX11_leastLimit (d + 1) hs P 49 [(0, .ref x0), (1, .int x1), (2, .ref x2), (3, .int x3), (4, .int x4), (5, .int x5)] [] h := by
  refine jr_iload 5 dX11_leastLimit_49 rfl ?_
  refine jr_aload_n 2 dX11_leastLimit_51 rfl rfl ?_
  obtain ⟨fs1, e2, v4, e3, k⟩ := k
  refine jr_get jf_X11_131 dX11_leastLimit_52 e2 e3 ?_
  refine jr_icmp_ge (tgt := 92) dX11_leastLimit_55 (by decide) (fun c55 => ?_) (fun c55 => ?_)
  · have k := k.2 c55
    refine jr_iinc (v := (x4 + 1)) (lv' := [(4, .int (x4 + 1)), (0, .ref x0), (1, .int x1), (2, .ref x2), (3, .int x3), (5, .int x5)]) 4 dX11_leastLimit_92 rfl rfl (by decide) rfl ?_
    refine jr_goto (tgt := 26) dX11_leastLimit_95 (by decide) ?_
    exact jr_sub [1, 2, 3, 4, 0] rfl k
  · have k := k.1 c55
    refine jr_iload 5 dX11_leastLimit_58 rfl ?_
    refine jr_bipush (v := 7) dX11_leastLimit_60 (by decide) ?_
    refine jr_icmp_ge (tgt := 92) dX11_leastLimit_62 (by decide) (fun c62 => ?_) (fun c62 => ?_)
    · have k := k.2 c62
      refine jr_iinc (v := (x4 + 1)) (lv' := [(4, .int (x4 + 1)), (0, .ref x0), (1, .int x1), (2, .ref x2), (3, .int x3), (5, .int x5)]) 4 dX11_leastLimit_92 rfl rfl (by decide) rfl ?_
      refine jr_goto (tgt := 26) dX11_leastLimit_95 (by decide) ?_
      exact jr_sub [1, 2, 3, 4, 0] rfl k
    · have k := k.1 c62
      refine jr_aload_n 2 dX11_leastLimit_65 rfl rfl ?_
      refine jr_iload 5 dX11_leastLimit_66 rfl ?_
      obtain ⟨fs7, e8, k⟩ := k
      refine jr_cVi (As := [.int x5]) jl_X11_183 km_X6_isGone rfl rfl dX11_leastLimit_68 e8 (Nat.le_of_ble_eq_true rfl) k (fun r5 h6 k => ?_)
      refine jr_if_ne (tgt := 86) dX11_leastLimit_71 (by decide) (fun c71 => ?_) (fun c71 => ?_)
      · have k := k.2 c71
        refine jr_iinc (v := (x5 + 1)) (lv' := [(5, .int (x5 + 1)), (0, .ref x0), (1, .int x1), (2, .ref x2), (3, .int x3), (4, .int x4)]) 5 dX11_leastLimit_86 rfl rfl (by decide) rfl ?_
        refine jr_goto (tgt := 49) dX11_leastLimit_89 (by decide) ?_
        exact jr_sub [1, 2, 3, 4, 5, 0] rfl k
      · have k := k.1 c71
        refine jr_iload_n 3 dX11_leastLimit_74 rfl rfl ?_
        refine jr_aload_n 2 dX11_leastLimit_75 rfl rfl ?_
        obtain ⟨fs9, e10, v12, e11, k⟩ := k
        refine jr_get jf_X11_124 dX11_leastLimit_76 e10 e11 ?_
        refine jr_iload 5 dX11_leastLimit_79 rfl ?_
        obtain ⟨n13, f14, e15, e16, k⟩ := k
        refine jr_iald dX11_leastLimit_81 e15 e16 ?_
        refine jr_mmax jl_X11_350 dX11_leastLimit_82 (Nat.le_of_ble_eq_true rfl) ?_
        refine jr_istore_n (lv' := [(3, .int (jmax x3 ((f14 x5.toNatClampNeg)))), (0, .ref x0), (1, .int x1), (2, .ref x2), (4, .int x4), (5, .int x5)]) dX11_leastLimit_85 rfl (by decide) rfl ?_
        refine jr_iinc (v := (x5 + 1)) (lv' := [(5, .int (x5 + 1)), (3, .int (jmax x3 ((f14 x5.toNatClampNeg)))), (0, .ref x0), (1, .int x1), (2, .ref x2), (4, .int x4)]) 5 dX11_leastLimit_86 rfl rfl (by decide) rfl ?_
        refine jr_goto (tgt := 49) dX11_leastLimit_89 (by decide) ?_
        exact jr_sub [2, 3, 4, 1, 5, 0] rfl k
set_option maxRecDepth 20000 in
theorem bX11_worth_0 {g : jG} {d : Nat} {hs : jH} {P : jO → jH → Prop} {x0 : Nat} {x1 : Int32} {x2 : Int32} {h : jH} (k : ∃ fs3 : List Value, h.1 x0 = some (.inr (11, fs3)) ∧ Con g mX11_checkHouse d [.ref x0, .int x1] h (jPv (fun (h2 : jH) => ∃ fs7 : List Value, h2.1 x0 = some (.inr (11, fs7)) ∧ Con g mX11_checkNear d [.ref x0, .int x2] h2 (jPv (fun (h6 : jH) => ∃ fs11 : List Value, h6.1 x0 = some (.inr (11, fs11)) ∧ Con g mX11_checkNotGone d [.ref x0, .int x1] h6 (jPv (fun (h10 : jH) => ∃ fs15 : List Value, h10.1 x0 = some (.inr (11, fs15)) ∧ Con g mX11_lossWithout d [.ref x0, .int x1, .int x2] h10 (jPi (fun (r13 : Int32) (h14 : jH) => P (.inl (some (.int r13))) h14) (fun E h' => P (.inr E) h'))) (fun E h' => P (.inr E) h'))) (fun E h' => P (.inr E) h'))) (fun E h' => P (.inr E) h'))) : J g mX11_worth (d + 1) hs P 0 [(0, .ref x0), (1, .int x1), (2, .int x2)] [] h := by
  refine jr_aload_n 0 dX11_worth_0 rfl rfl ?_
  refine jr_iload_n 1 dX11_worth_1 rfl rfl ?_
  obtain ⟨fs3, e4, k⟩ := k
  refine jr_cVv (As := [.int x1]) jl_X11_121 km_X11_checkHouse rfl rfl dX11_worth_2 e4 (Nat.le_of_ble_eq_true rfl) k (fun h2 k => ?_)
  refine jr_aload_n 0 dX11_worth_5 rfl rfl ?_
  refine jr_iload_n 2 dX11_worth_6 rfl rfl ?_
  obtain ⟨fs7, e8, k⟩ := k
  refine jr_cVv (As := [.int x2]) jl_X11_291 km_X11_checkNear rfl rfl dX11_worth_7 e8 (Nat.le_of_ble_eq_true rfl) k (fun h6 k => ?_)
  refine jr_aload_n 0 dX11_worth_10 rfl rfl ?_
  refine jr_iload_n 1 dX11_worth_11 rfl rfl ?_
  obtain ⟨fs11, e12, k⟩ := k
  refine jr_cVv (As := [.int x1]) jl_X11_154 km_X11_checkNotGone rfl rfl dX11_worth_12 e12 (Nat.le_of_ble_eq_true rfl) k (fun h10 k => ?_)
  refine jr_aload_n 0 dX11_worth_15 rfl rfl ?_
  refine jr_iload_n 1 dX11_worth_16 rfl rfl ?_
  refine jr_iload_n 2 dX11_worth_17 rfl rfl ?_
  obtain ⟨fs15, e16, k⟩ := k
  refine jr_cVi (As := [.int x1, .int x2]) jl_X11_353 km_X11_lossWithout rfl rfl dX11_worth_18 e16 (Nat.le_of_ble_eq_true rfl) k (fun r13 h14 k => ?_)
  exact jr_iret (ty := .int) rfl rfl dX11_worth_21 k
set_option maxRecDepth 20000 in
theorem bX11_lossWithout_0 {g : jG} {d : Nat} {hs : jH} {P : jO → jH → Prop} {x0 : Nat} {x1 : Int32} {x2 : Int32} {h : jH} (k : ∃ fs1 : List Value, h.1 x0 = some (.inr (11, fs1)) ∧ ∃ v4 : Nat, fs1[10]? = some (.ref v4) ∧ ∃ fs5 : List Value, h.1 x0 = some (.inr (11, fs5)) ∧ ∃ v8 : Nat, fs5[5]? = some (.ref v8) ∧ ∃ fs9 : List Value, h.1 x0 = some (.inr (11, fs9)) ∧ ∃ v12 : Nat, fs9[6]? = some (.ref v12) ∧ ∃ fs15 : List Value, h.1 v4 = some (.inr (0, fs15)) ∧ Con g mX0_from d [.ref v4, .ref v8, .ref v12] h (jPr (fun (r13 : Nat) (h14 : jH) => ∃ fs17 : List Value, h14.1 x0 = some (.inr (11, fs17)) ∧ ∃ v20 : Nat, fs17[10]? = some (.ref v20) ∧ ∃ fs23 : List Value, h14.1 v20 = some (.inr (0, fs23)) ∧ Con g mX0_losses d [.ref v20, .int x2, .int 7] h14 (jPi (fun (r21 : Int32) (h22 : jH) => ∃ fs27 : List Value, h22.1 r13 = some (.inr (6, fs27)) ∧ Con g mX6_isGone d [.ref r13, .int x1] h22 (jPi (fun (r25 : Int32) (h26 : jH) => (r25 = 0 → J g mX11_lossWithout (d + 1) hs P 45 [(0, .ref x0), (1, .int x1), (2, .int x2)] [.int r21] h26) ∧ (¬ r25 = 0 → J g mX11_lossWithout (d + 1) hs P 45 [(0, .ref x0), (1, .int x1), (2, .int x2)] [.int (r21 - 1)] h26)) (fun E h' => P (.inr E) h'))) (fun E h' => P (.inr E) h'))) (fun E h' => P (.inr E) h'))) : J g mX11_lossWithout (d + 1) hs P 0 [(0, .ref x0), (1, .int x1), (2, .int x2)] [] h := by
  refine jr_aload_n 0 dX11_lossWithout_0 rfl rfl ?_
  obtain ⟨fs1, e2, v4, e3, k⟩ := k
  refine jr_get jf_X11_62 dX11_lossWithout_1 e2 e3 ?_
  refine jr_aload_n 0 dX11_lossWithout_4 rfl rfl ?_
  obtain ⟨fs5, e6, v8, e7, k⟩ := k
  refine jr_get jf_X11_20 dX11_lossWithout_5 e6 e7 ?_
  refine jr_aload_n 0 dX11_lossWithout_8 rfl rfl ?_
  obtain ⟨fs9, e10, v12, e11, k⟩ := k
  refine jr_get jf_X11_34 dX11_lossWithout_9 e10 e11 ?_
  obtain ⟨fs15, e16, k⟩ := k
  refine jr_cVr (As := [.ref v8, .ref v12]) jl_X11_237 km_X0_from rfl rfl dX11_lossWithout_12 e16 (Nat.le_of_ble_eq_true rfl) k (fun r13 h14 k => ?_)
  refine jr_astore_n (lv' := [(3, .ref r13), (0, .ref x0), (1, .int x1), (2, .int x2)]) dX11_lossWithout_15 rfl (by decide) rfl ?_
  refine jr_aload_n 1 dX11_lossWithout_16 rfl rfl ?_
  obtain ⟨fs17, e18, v20, e19, k⟩ := k
  refine jr_get jf_X11_62 dX11_lossWithout_17 e18 e19 ?_
  refine jr_iload_n 3 dX11_lossWithout_20 rfl rfl ?_
  refine jr_bipush (v := 7) dX11_lossWithout_21 (by decide) ?_
  obtain ⟨fs23, e24, k⟩ := k
  refine jr_cVi (As := [.int x2, .int 7]) jl_X11_307 km_X0_losses rfl rfl dX11_lossWithout_23 e24 (Nat.le_of_ble_eq_true rfl) k (fun r21 h22 k => ?_)
  refine jr_istore (lv' := [(4, .int r21), (3, .ref r13), (0, .ref x0), (1, .int x1), (2, .int x2)]) dX11_lossWithout_26 (by decide) rfl ?_
  refine jr_aload_n 1 dX11_lossWithout_28 rfl rfl ?_
  refine jr_iload_n 3 dX11_lossWithout_29 rfl rfl ?_
  obtain ⟨fs27, e28, k⟩ := k
  refine jr_cVi (As := [.int x1]) jl_X11_183 km_X6_isGone rfl rfl dX11_lossWithout_30 e28 (Nat.le_of_ble_eq_true rfl) k (fun r25 h26 k => ?_)
  refine jr_if_eq (tgt := 43) dX11_lossWithout_33 (by decide) (fun c33 => ?_) (fun c33 => ?_)
  · have k := k.1 c33
    refine jr_iload 0 dX11_lossWithout_43 rfl ?_
    exact jr_sub [2, 3, 4] rfl k
  · have k := k.2 c33
    refine jr_iload 0 dX11_lossWithout_36 rfl ?_
    refine jr_iconst (v := 1) dX11_lossWithout_38 (by decide) ?_
    refine jr_isub dX11_lossWithout_39 ?_
    refine jr_goto (tgt := 45) dX11_lossWithout_40 (by decide) ?_
    exact jr_sub [2, 3, 4] rfl k
set_option maxRecDepth 20000 in
theorem bX11_lossWithout_45 {g : jG} {d : Nat} {hs : jH} {P : jO → jH → Prop} {x0 : Nat} {x1 : Int32} {x2 : Int32} {s0 : Int32} {h : jH} (k : ∃ fs1 : List Value, h.1 x0 = some (.inr (11, fs1)) ∧ ∃ v4 : Nat, fs1[10]? = some (.ref v4) ∧ ∃ fs5 : List Value, h.1 x0 = some (.inr (11, fs5)) ∧ ∃ v8 : Nat, fs5[5]? = some (.ref v8) ∧ ∃ fs9 : List Value, h.1 x0 = some (.inr (11, fs9)) ∧ ∃ v12 : Nat, fs9[6]? = some (.ref v12) ∧ ∃ fs15 : List Value, h.1 v4 = some (.inr (0, fs15)) ∧ Con g mX0_from d [.ref v4, .ref v8, .ref v12] h (jPr (fun (r13 : Nat) (h14 : jH) => ∃ fs19 : List Value, h14.1 r13 = some (.inr (6, fs19)) ∧ Con g mX6_ruin d [.ref r13, .int x1] h14 (jPv (fun (h18 : jH) => ∃ fs21 : List Value, h18.1 x0 = some (.inr (11, fs21)) ∧ ∃ v24 : Nat, fs21[10]? = some (.ref v24) ∧ ∃ fs27 : List Value, h18.1 v24 = some (.inr (0, fs27)) ∧ Con g mX0_losses d [.ref v24, .int x2, .int 7] h18 (jPi (fun (r25 : Int32) (h26 : jH) => P (.inl (some (.int ((r25 - s0))))) h26) (fun E h' => P (.inr E) h'))) (fun E h' => P (.inr E) h'))) (fun E h' => P (.inr E) h'))) : J g mX11_lossWithout (d + 1) hs P 45 [(0, .ref x0), (1, .int x1), (2, .int x2)] [.int s0] h := by
  refine jr_istore (lv' := [(5, .int s0), (0, .ref x0), (1, .int x1), (2, .int x2)]) dX11_lossWithout_45 (by decide) rfl ?_
  refine jr_aload_n 1 dX11_lossWithout_47 rfl rfl ?_
  obtain ⟨fs1, e2, v4, e3, k⟩ := k
  refine jr_get jf_X11_62 dX11_lossWithout_48 e2 e3 ?_
  refine jr_aload_n 1 dX11_lossWithout_51 rfl rfl ?_
  obtain ⟨fs5, e6, v8, e7, k⟩ := k
  refine jr_get jf_X11_20 dX11_lossWithout_52 e6 e7 ?_
  refine jr_aload_n 1 dX11_lossWithout_55 rfl rfl ?_
  obtain ⟨fs9, e10, v12, e11, k⟩ := k
  refine jr_get jf_X11_34 dX11_lossWithout_56 e10 e11 ?_
  obtain ⟨fs15, e16, k⟩ := k
  refine jr_cVr (As := [.ref v8, .ref v12]) jl_X11_237 km_X0_from rfl rfl dX11_lossWithout_59 e16 (Nat.le_of_ble_eq_true rfl) k (fun r13 h14 k => ?_)
  refine jr_iload_n 2 dX11_lossWithout_62 rfl rfl ?_
  obtain ⟨fs19, e20, k⟩ := k
  refine jr_cVv (As := [.int x1]) jl_X11_356 km_X6_ruin rfl rfl dX11_lossWithout_63 e20 (Nat.le_of_ble_eq_true rfl) k (fun h18 k => ?_)
  refine jr_aload_n 1 dX11_lossWithout_66 rfl rfl ?_
  obtain ⟨fs21, e22, v24, e23, k⟩ := k
  refine jr_get jf_X11_62 dX11_lossWithout_67 e22 e23 ?_
  refine jr_iload_n 3 dX11_lossWithout_70 rfl rfl ?_
  refine jr_bipush (v := 7) dX11_lossWithout_71 (by decide) ?_
  obtain ⟨fs27, e28, k⟩ := k
  refine jr_cVi (As := [.int x2, .int 7]) jl_X11_307 km_X0_losses rfl rfl dX11_lossWithout_73 e28 (Nat.le_of_ble_eq_true rfl) k (fun r25 h26 k => ?_)
  refine jr_iload 0 dX11_lossWithout_76 rfl ?_
  refine jr_isub dX11_lossWithout_78 ?_
  exact jr_iret (ty := .int) rfl rfl dX11_lossWithout_79 k
set_option maxRecDepth 20000 in
theorem bX11_pillar_0 {g : jG} {d : Nat} {hs : jH} {P : jO → jH → Prop} {x0 : Nat} {x1 : Int32} {h : jH} (k : ∃ fs3 : List Value, h.1 x0 = some (.inr (11, fs3)) ∧ Con g mX11_checkNear d [.ref x0, .int x1] h (jPv (fun (h2 : jH) => J g mX11_pillar (d + 1) hs P 8 [(0, .ref x0), (1, .int x1), (2, .int 6)] [] h2) (fun E h' => P (.inr E) h'))) : J g mX11_pillar (d + 1) hs P 0 [(0, .ref x0), (1, .int x1)] [] h := by
  refine jr_aload_n 0 dX11_pillar_0 rfl rfl ?_
  refine jr_iload_n 1 dX11_pillar_1 rfl rfl ?_
  obtain ⟨fs3, e4, k⟩ := k
  refine jr_cVv (As := [.int x1]) jl_X11_291 km_X11_checkNear rfl rfl dX11_pillar_2 e4 (Nat.le_of_ble_eq_true rfl) k (fun h2 k => ?_)
  refine jr_bipush (v := 6) dX11_pillar_5 (by decide) ?_
  refine jr_istore_n (lv' := [(2, .int 6), (0, .ref x0), (1, .int x1)]) dX11_pillar_7 rfl (by decide) rfl ?_
  exact jr_sub [1, 2, 0] rfl k
set_option maxRecDepth 20000 in
theorem bX11_pillar_8 {g : jG} {d : Nat} {hs : jH} {P : jO → jH → Prop} {x0 : Nat} {x1 : Int32} {x2 : Int32} {h : jH} (k : (x2 < 0 → P (.inl (some (.int ((-1))))) h) ∧ (¬ x2 < 0 → ∃ fs1 : List Value, h.1 x0 = some (.inr (11, fs1)) ∧ ∃ v4 : Nat, fs1[6]? = some (.ref v4) ∧ ∃ fs7 : List Value, h.1 v4 = some (.inr (6, fs7)) ∧ Con g mX6_has d [.ref v4, .int x2] h (jPi (fun (r5 : Int32) (h6 : jH) => (r5 = 0 → J g mX11_pillar (d + 1) hs P 8 [(0, .ref x0), (1, .int x1), (2, .int (x2 + (-1)))] [] h6) ∧ (¬ r5 = 0 → ∃ fs9 : List Value, h6.1 x0 = some (.inr (11, fs9)) ∧ ∃ v12 : Nat, fs9[6]? = some (.ref v12) ∧ ∃ fs15 : List Value, h6.1 v12 = some (.inr (6, fs15)) ∧ Con g mX6_isGone d [.ref v12, .int x2] h6 (jPi (fun (r13 : Int32) (h14 : jH) => (r13 = 0 → ∃ fs19 : List Value, h14.1 x0 = some (.inr (11, fs19)) ∧ Con g mX11_lossWithout d [.ref x0, .int x2, .int x1] h14 (jPi (fun (r17 : Int32) (h18 : jH) => (0 < r17 → P (.inl (some (.int x2))) h18) ∧ (¬ 0 < r17 → J g mX11_pillar (d + 1) hs P 8 [(0, .ref x0), (1, .int x1), (2, .int (x2 + (-1)))] [] h18)) (fun E h' => P (.inr E) h'))) ∧ (¬ r13 = 0 → J g mX11_pillar (d + 1) hs P 8 [(0, .ref x0), (1, .int x1), (2, .int (x2 + (-1)))] [] h14)) (fun E h' => P (.inr E) h')))) (fun E h' => P (.inr E) h')))) : J g mX11_pillar (d + 1) hs P 8 [(0, .ref x0), (1, .int x1), (2, .int x2)] [] h := by
  refine jr_iload_n 2 dX11_pillar_8 rfl rfl ?_
  refine jr_if_lt (tgt := 51) dX11_pillar_9 (by decide) (fun c9 => ?_) (fun c9 => ?_)
  · have k := k.1 c9
    refine jr_iconst (v := (-1)) dX11_pillar_51 (by decide) ?_
    exact jr_iret (ty := .int) rfl rfl dX11_pillar_52 k
  · have k := k.2 c9
    refine jr_aload_n 0 dX11_pillar_12 rfl rfl ?_
    obtain ⟨fs1, e2, v4, e3, k⟩ := k
    refine jr_get jf_X11_34 dX11_pillar_13 e2 e3 ?_
    refine jr_iload_n 2 dX11_pillar_16 rfl rfl ?_
    obtain ⟨fs7, e8, k⟩ := k
    refine jr_cVi (As := [.int x2]) jl_X11_174 km_X6_has rfl rfl dX11_pillar_17 e8 (Nat.le_of_ble_eq_true rfl) k (fun r5 h6 k => ?_)
    refine jr_if_eq (tgt := 45) dX11_pillar_20 (by decide) (fun c20 => ?_) (fun c20 => ?_)
    · have k := k.1 c20
      refine jr_iinc (v := (x2 + (-1))) (lv' := [(2, .int (x2 + (-1))), (0, .ref x0), (1, .int x1)]) 2 dX11_pillar_45 rfl rfl (by decide) rfl ?_
      refine jr_goto (tgt := 8) dX11_pillar_48 (by decide) ?_
      exact jr_sub [1, 2, 0] rfl k
    · have k := k.2 c20
      refine jr_aload_n 0 dX11_pillar_23 rfl rfl ?_
      obtain ⟨fs9, e10, v12, e11, k⟩ := k
      refine jr_get jf_X11_34 dX11_pillar_24 e10 e11 ?_
      refine jr_iload_n 2 dX11_pillar_27 rfl rfl ?_
      obtain ⟨fs15, e16, k⟩ := k
      refine jr_cVi (As := [.int x2]) jl_X11_183 km_X6_isGone rfl rfl dX11_pillar_28 e16 (Nat.le_of_ble_eq_true rfl) k (fun r13 h14 k => ?_)
      refine jr_if_ne (tgt := 45) dX11_pillar_31 (by decide) (fun c31 => ?_) (fun c31 => ?_)
      · have k := k.2 c31
        refine jr_iinc (v := (x2 + (-1))) (lv' := [(2, .int (x2 + (-1))), (0, .ref x0), (1, .int x1)]) 2 dX11_pillar_45 rfl rfl (by decide) rfl ?_
        refine jr_goto (tgt := 8) dX11_pillar_48 (by decide) ?_
        exact jr_sub [1, 2, 0] rfl k
      · have k := k.1 c31
        refine jr_aload_n 0 dX11_pillar_34 rfl rfl ?_
        refine jr_iload_n 2 dX11_pillar_35 rfl rfl ?_
        refine jr_iload_n 1 dX11_pillar_36 rfl rfl ?_
        obtain ⟨fs19, e20, k⟩ := k
        refine jr_cVi (As := [.int x2, .int x1]) jl_X11_353 km_X11_lossWithout rfl rfl dX11_pillar_37 e20 (Nat.le_of_ble_eq_true rfl) k (fun r17 h18 k => ?_)
        refine jr_if_le (tgt := 45) dX11_pillar_40 (by decide) (fun c40 => ?_) (fun c40 => ?_)
        · have k := k.2 c40
          refine jr_iinc (v := (x2 + (-1))) (lv' := [(2, .int (x2 + (-1))), (0, .ref x0), (1, .int x1)]) 2 dX11_pillar_45 rfl rfl (by decide) rfl ?_
          refine jr_goto (tgt := 8) dX11_pillar_48 (by decide) ?_
          exact jr_sub [1, 2, 0] rfl k
        · have k := k.1 c40
          refine jr_iload_n 2 dX11_pillar_43 rfl rfl ?_
          exact jr_iret (ty := .int) rfl rfl dX11_pillar_44 k
set_option maxRecDepth 20000 in
theorem bX11_seen_0 {g : jG} {d : Nat} {hs : jH} {P : jO → jH → Prop} {x0 : Nat} {x1 : Int32} {x2 : Int32} {h : jH} (k : ∃ fs1 : List Value, h.1 x0 = some (.inr (11, fs1)) ∧ ∃ v4 : Nat, fs1[12]? = some (.ref v4) ∧ ∃ fs5 : List Value, h.1 x0 = some (.inr (11, fs5)) ∧ ∃ v8 : Nat, fs5[10]? = some (.ref v8) ∧ ∃ fs9 : List Value, h.1 x0 = some (.inr (11, fs9)) ∧ ∃ v12 : Nat, fs9[5]? = some (.ref v12) ∧ ∃ fs15 : List Value, h.1 x0 = some (.inr (11, fs15)) ∧ Con g mX11_seenTray d [.ref x0, .int x1, .int x2] h (jPr (fun (r13 : Nat) (h14 : jH) => ∃ fs19 : List Value, h14.1 v4 = some (.inr (1, fs19)) ∧ Con g mX1_find d [.ref v4, .ref v8, .ref v12, .ref r13, .int x2] h14 (jPv (fun (h18 : jH) => ∃ fs21 : List Value, h18.1 x0 = some (.inr (11, fs21)) ∧ ∃ v24 : Nat, fs21[12]? = some (.ref v24) ∧ ∃ fs25 : List Value, h18.1 v24 = some (.inr (1, fs25)) ∧ ∃ v28 : Int32, fs25[1]? = some (.int v28) ∧ P (.inl (some (.int v28))) h18) (fun E h' => P (.inr E) h'))) (fun E h' => P (.inr E) h'))) : J g mX11_seen (d + 1) hs P 0 [(0, .ref x0), (1, .int x1), (2, .int x2)] [] h := by
  refine jr_aload_n 0 dX11_seen_0 rfl rfl ?_
  obtain ⟨fs1, e2, v4, e3, k⟩ := k
  refine jr_get jf_X11_76 dX11_seen_1 e2 e3 ?_
  refine jr_aload_n 0 dX11_seen_4 rfl rfl ?_
  obtain ⟨fs5, e6, v8, e7, k⟩ := k
  refine jr_get jf_X11_62 dX11_seen_5 e6 e7 ?_
  refine jr_aload_n 0 dX11_seen_8 rfl rfl ?_
  obtain ⟨fs9, e10, v12, e11, k⟩ := k
  refine jr_get jf_X11_20 dX11_seen_9 e10 e11 ?_
  refine jr_aload_n 0 dX11_seen_12 rfl rfl ?_
  refine jr_iload_n 1 dX11_seen_13 rfl rfl ?_
  refine jr_iload_n 2 dX11_seen_14 rfl rfl ?_
  obtain ⟨fs15, e16, k⟩ := k
  refine jr_cVr (As := [.int x1, .int x2]) jl_X11_359 km_X11_seenTray rfl rfl dX11_seen_15 e16 (Nat.le_of_ble_eq_true rfl) k (fun r13 h14 k => ?_)
  refine jr_iload_n 2 dX11_seen_18 rfl rfl ?_
  obtain ⟨fs19, e20, k⟩ := k
  refine jr_cVv (As := [.ref v8, .ref v12, .ref r13, .int x2]) jl_X11_363 km_X1_find rfl rfl dX11_seen_19 e20 (Nat.le_of_ble_eq_true rfl) k (fun h18 k => ?_)
  refine jr_aload_n 0 dX11_seen_22 rfl rfl ?_
  obtain ⟨fs21, e22, v24, e23, k⟩ := k
  refine jr_get jf_X11_76 dX11_seen_23 e22 e23 ?_
  obtain ⟨fs25, e26, v28, e27, k⟩ := k
  refine jr_get jf_X11_367 dX11_seen_26 e26 e27 ?_
  exact jr_iret (ty := .int) rfl rfl dX11_seen_29 k
set_option maxRecDepth 20000 in
theorem bX11_hidden_0 {g : jG} {d : Nat} {hs : jH} {P : jO → jH → Prop} {x0 : Nat} {x1 : Int32} {x2 : Int32} {x3 : Int32} {h : jH} (k : ∃ fs3 : List Value, h.1 x0 = some (.inr (11, fs3)) ∧ Con g mX11_seenTray d [.ref x0, .int x1, .int x2] h (jPr (fun (r1 : Nat) (h2 : jH) => (x3 < 0 → jthr g h2 "java/lang/IllegalArgumentException" P) ∧ (¬ x3 < 0 → ∃ fs5 : List Value, h2.1 x0 = some (.inr (11, fs5)) ∧ ∃ v8 : Nat, fs5[12]? = some (.ref v8) ∧ ∃ fs9 : List Value, h2.1 x0 = some (.inr (11, fs9)) ∧ ∃ v12 : Nat, fs9[10]? = some (.ref v12) ∧ ∃ fs13 : List Value, h2.1 x0 = some (.inr (11, fs13)) ∧ ∃ v16 : Nat, fs13[5]? = some (.ref v16) ∧ ∃ fs19 : List Value, h2.1 v8 = some (.inr (1, fs19)) ∧ Con g mX1_find d [.ref v8, .ref v12, .ref v16, .ref r1, .int x2] h2 (jPv (fun (h18 : jH) => ∃ fs21 : List Value, h18.1 x0 = some (.inr (11, fs21)) ∧ ∃ v24 : Nat, fs21[12]? = some (.ref v24) ∧ ∃ fs25 : List Value, h18.1 v24 = some (.inr (1, fs25)) ∧ ∃ v28 : Int32, fs25[1]? = some (.int v28) ∧ (x3 < v28 → ∃ fs29 : List Value, h18.1 x0 = some (.inr (11, fs29)) ∧ ∃ v32 : Nat, fs29[12]? = some (.ref v32) ∧ ∃ fs33 : List Value, h18.1 v32 = some (.inr (1, fs33)) ∧ ∃ v36 : Nat, fs33[0]? = some (.ref v36) ∧ ∃ (t37 : Nat) (z38 : vp_A), h18.1 v36 = some (.inl (t37, z38)) ∧ (∃ ty41 : FieldType, jTy t37 = some ty41) ∧ (x3 < (nI z38.1) → ∃ fs42 : List Value, h18.1 x0 = some (.inr (11, fs42)) ∧ ∃ v45 : Nat, fs42[12]? = some (.ref v45) ∧ ∃ fs46 : List Value, h18.1 v45 = some (.inr (1, fs46)) ∧ ∃ v49 : Nat, fs46[0]? = some (.ref v49) ∧ ∃ (n50 : Nat) (f51 : Nat → Int32), h18.1 v49 = some (.inl (0, (n50, .inl f51))) ∧ vp_in x3 n50 ∧ P (.inl (some (.int ((f51 x3.toNatClampNeg))))) h18) ∧ (¬ x3 < (nI z38.1) → P (.inl (some (.int ((-1))))) h18)) ∧ (¬ x3 < v28 → P (.inl (some (.int ((-1))))) h18)) (fun E h' => P (.inr E) h')))) (fun E h' => P (.inr E) h'))) : J g mX11_hidden (d + 1) hs P 0 [(0, .ref x0), (1, .int x1), (2, .int x2), (3, .int x3)] [] h := by
  refine jr_aload_n 0 dX11_hidden_0 rfl rfl ?_
  refine jr_iload_n 1 dX11_hidden_1 rfl rfl ?_
  refine jr_iload_n 2 dX11_hidden_2 rfl rfl ?_
  obtain ⟨fs3, e4, k⟩ := k
  refine jr_cVr (As := [.int x1, .int x2]) jl_X11_359 km_X11_seenTray rfl rfl dX11_hidden_3 e4 (Nat.le_of_ble_eq_true rfl) k (fun r1 h2 k => ?_)
  refine jr_astore (lv' := [(4, .ref r1), (0, .ref x0), (1, .int x1), (2, .int x2), (3, .int x3)]) dX11_hidden_6 (by decide) rfl ?_
  refine jr_iload_n 4 dX11_hidden_8 rfl rfl ?_
  refine jr_if_ge (tgt := 23) dX11_hidden_9 (by decide) (fun c9 => ?_) (fun c9 => ?_)
  · have k := k.2 c9
    refine jr_aload_n 1 dX11_hidden_23 rfl rfl ?_
    obtain ⟨fs5, e6, v8, e7, k⟩ := k
    refine jr_get jf_X11_76 dX11_hidden_24 e6 e7 ?_
    refine jr_aload_n 1 dX11_hidden_27 rfl rfl ?_
    obtain ⟨fs9, e10, v12, e11, k⟩ := k
    refine jr_get jf_X11_62 dX11_hidden_28 e10 e11 ?_
    refine jr_aload_n 1 dX11_hidden_31 rfl rfl ?_
    obtain ⟨fs13, e14, v16, e15, k⟩ := k
    refine jr_get jf_X11_20 dX11_hidden_32 e14 e15 ?_
    refine jr_aload 0 dX11_hidden_35 rfl ?_
    refine jr_iload_n 3 dX11_hidden_37 rfl rfl ?_
    obtain ⟨fs19, e20, k⟩ := k
    refine jr_cVv (As := [.ref v12, .ref v16, .ref r1, .int x2]) jl_X11_363 km_X1_find rfl rfl dX11_hidden_38 e20 (Nat.le_of_ble_eq_true rfl) k (fun h18 k => ?_)
    refine jr_iload_n 4 dX11_hidden_41 rfl rfl ?_
    refine jr_aload_n 1 dX11_hidden_42 rfl rfl ?_
    obtain ⟨fs21, e22, v24, e23, k⟩ := k
    refine jr_get jf_X11_76 dX11_hidden_43 e22 e23 ?_
    obtain ⟨fs25, e26, v28, e27, k⟩ := k
    refine jr_get jf_X11_367 dX11_hidden_46 e26 e27 ?_
    refine jr_icmp_ge (tgt := 76) dX11_hidden_49 (by decide) (fun c49 => ?_) (fun c49 => ?_)
    · have k := k.2 c49
      refine jr_iconst (v := (-1)) dX11_hidden_76 (by decide) ?_
      exact jr_iret (ty := .int) rfl rfl dX11_hidden_77 k
    · have k := k.1 c49
      refine jr_iload_n 4 dX11_hidden_52 rfl rfl ?_
      refine jr_aload_n 1 dX11_hidden_53 rfl rfl ?_
      obtain ⟨fs29, e30, v32, e31, k⟩ := k
      refine jr_get jf_X11_76 dX11_hidden_54 e30 e31 ?_
      obtain ⟨fs33, e34, v36, e35, k⟩ := k
      refine jr_get jf_X11_372 dX11_hidden_57 e34 e35 ?_
      obtain ⟨t37, z38, e39, ⟨ty41, e40⟩, k⟩ := k
      refine jr_alen (v := nI z38.1) dX11_hidden_60 e40 e39 rfl ?_
      refine jr_icmp_ge (tgt := 76) dX11_hidden_61 (by decide) (fun c61 => ?_) (fun c61 => ?_)
      · have k := k.2 c61
        refine jr_iconst (v := (-1)) dX11_hidden_76 (by decide) ?_
        exact jr_iret (ty := .int) rfl rfl dX11_hidden_77 k
      · have k := k.1 c61
        refine jr_aload_n 1 dX11_hidden_64 rfl rfl ?_
        obtain ⟨fs42, e43, v45, e44, k⟩ := k
        refine jr_get jf_X11_76 dX11_hidden_65 e43 e44 ?_
        obtain ⟨fs46, e47, v49, e48, k⟩ := k
        refine jr_get jf_X11_372 dX11_hidden_68 e47 e48 ?_
        refine jr_iload_n 4 dX11_hidden_71 rfl rfl ?_
        obtain ⟨n50, f51, e52, e53, k⟩ := k
        refine jr_iald dX11_hidden_72 e52 e53 ?_
        refine jr_goto (tgt := 77) dX11_hidden_73 (by decide) ?_
        exact jr_iret (ty := .int) rfl rfl dX11_hidden_77 k
  · have k := k.1 c9
    exact jr_throwW rfl jt_X11_370 rfl k.1 (fun hg9 => ⟨_, (hg9.2.2.2.2.2.2.2.1 13 _ rfl).1⟩) dX11_hidden_12 dX11_hidden_15 dX11_hidden_16 dX11_hidden_19 dX11_hidden_22 (Nat.le_of_ble_eq_true rfl) k.2
set_option maxRecDepth 20000 in
theorem bX11_look_0 {g : jG} {d : Nat} {hs : jH} {P : jO → jH → Prop} {x0 : Nat} {x1 : Int32} {x2 : Int32} {h : jH} (k : ∃ fs1 : List Value, h.1 x0 = some (.inr (11, fs1)) ∧ ∃ v4 : Nat, fs1[12]? = some (.ref v4) ∧ ∃ fs5 : List Value, h.1 x0 = some (.inr (11, fs5)) ∧ ∃ v8 : Nat, fs5[10]? = some (.ref v8) ∧ ∃ fs9 : List Value, h.1 x0 = some (.inr (11, fs9)) ∧ ∃ v12 : Nat, fs9[5]? = some (.ref v12) ∧ ∃ fs15 : List Value, h.1 x0 = some (.inr (11, fs15)) ∧ Con g mX11_seenTray d [.ref x0, .int x1, .int x2] h (jPr (fun (r13 : Nat) (h14 : jH) => ∃ fs19 : List Value, h14.1 v4 = some (.inr (1, fs19)) ∧ Con g mX1_find d [.ref v4, .ref v8, .ref v12, .ref r13, .int x2] h14 (jPv (fun (h18 : jH) => ∃ fs21 : List Value, h18.1 x0 = some (.inr (11, fs21)) ∧ ∃ v24 : Nat, fs21[12]? = some (.ref v24) ∧ ∃ fs25 : List Value, h18.1 x0 = some (.inr (11, fs25)) ∧ ∃ v28 : Nat, fs25[6]? = some (.ref v28) ∧ ∃ fs29 : List Value, h18.1 v28 = some (.inr (6, fs29)) ∧ ∃ v32 : Int32, fs29[0]? = some (.int v32) ∧ ∃ fs35 : List Value, h18.1 v24 = some (.inr (1, fs35)) ∧ Con g mX1_tellingMost d [.ref v24, .int v32] h18 (jPi (fun (r33 : Int32) (h34 : jH) => P (.inl (some (.int r33))) h34) (fun E h' => P (.inr E) h'))) (fun E h' => P (.inr E) h'))) (fun E h' => P (.inr E) h'))) : J g mX11_look (d + 1) hs P 0 [(0, .ref x0), (1, .int x1), (2, .int x2)] [] h := by
  refine jr_aload_n 0 dX11_look_0 rfl rfl ?_
  obtain ⟨fs1, e2, v4, e3, k⟩ := k
  refine jr_get jf_X11_76 dX11_look_1 e2 e3 ?_
  refine jr_aload_n 0 dX11_look_4 rfl rfl ?_
  obtain ⟨fs5, e6, v8, e7, k⟩ := k
  refine jr_get jf_X11_62 dX11_look_5 e6 e7 ?_
  refine jr_aload_n 0 dX11_look_8 rfl rfl ?_
  obtain ⟨fs9, e10, v12, e11, k⟩ := k
  refine jr_get jf_X11_20 dX11_look_9 e10 e11 ?_
  refine jr_aload_n 0 dX11_look_12 rfl rfl ?_
  refine jr_iload_n 1 dX11_look_13 rfl rfl ?_
  refine jr_iload_n 2 dX11_look_14 rfl rfl ?_
  obtain ⟨fs15, e16, k⟩ := k
  refine jr_cVr (As := [.int x1, .int x2]) jl_X11_359 km_X11_seenTray rfl rfl dX11_look_15 e16 (Nat.le_of_ble_eq_true rfl) k (fun r13 h14 k => ?_)
  refine jr_iload_n 2 dX11_look_18 rfl rfl ?_
  obtain ⟨fs19, e20, k⟩ := k
  refine jr_cVv (As := [.ref v8, .ref v12, .ref r13, .int x2]) jl_X11_363 km_X1_find rfl rfl dX11_look_19 e20 (Nat.le_of_ble_eq_true rfl) k (fun h18 k => ?_)
  refine jr_aload_n 0 dX11_look_22 rfl rfl ?_
  obtain ⟨fs21, e22, v24, e23, k⟩ := k
  refine jr_get jf_X11_76 dX11_look_23 e22 e23 ?_
  refine jr_aload_n 0 dX11_look_26 rfl rfl ?_
  obtain ⟨fs25, e26, v28, e27, k⟩ := k
  refine jr_get jf_X11_34 dX11_look_27 e26 e27 ?_
  obtain ⟨fs29, e30, v32, e31, k⟩ := k
  refine jr_get jf_X11_131 dX11_look_30 e30 e31 ?_
  obtain ⟨fs35, e36, k⟩ := k
  refine jr_cVi (As := [.int v32]) jl_X11_375 km_X1_tellingMost rfl rfl dX11_look_33 e36 (Nat.le_of_ble_eq_true rfl) k (fun r33 h34 k => ?_)
  exact jr_iret (ty := .int) rfl rfl dX11_look_36 k
set_option maxRecDepth 20000 in
theorem bX11_seenTray_0 {g : jG} {d : Nat} {hs : jH} {P : jO → jH → Prop} {x0 : Nat} {x1 : Int32} {x2 : Int32} {h : jH} (k : ∃ fs3 : List Value, h.1 x0 = some (.inr (11, fs3)) ∧ Con g mX11_checkTray d [.ref x0, .int x1] h (jPv (fun (h2 : jH) => ∃ fs7 : List Value, h2.1 x0 = some (.inr (11, fs7)) ∧ Con g mX11_checkHouse d [.ref x0, .int x2] h2 (jPv (fun (h6 : jH) => ∃ fs11 : List Value, h6.1 x0 = some (.inr (11, fs11)) ∧ Con g mX11_trayAt d [.ref x0, .int x1] h6 (jPr (fun (r9 : Nat) (h10 : jH) => ∃ fs13 : List Value, h10.1 r9 = some (.inr (10, fs13)) ∧ ∃ v16 : Int32, fs13[0]? = some (.int v16) ∧ (v16 < 1 → J g mX11_seenTray (d + 1) hs P 33 [] [] h10) ∧ (¬ v16 < 1 → ∃ fs17 : List Value, h10.1 r9 = some (.inr (10, fs17)) ∧ ∃ v20 : Int32, fs17[0]? = some (.int v20) ∧ (12 < v20 → J g mX11_seenTray (d + 1) hs P 33 [] [] h10) ∧ (¬ 12 < v20 → J g mX11_seenTray (d + 1) hs P 47 [(3, .ref r9), (4, .int 0)] [] h10))) (fun E h' => P (.inr E) h'))) (fun E h' => P (.inr E) h'))) (fun E h' => P (.inr E) h'))) : J g mX11_seenTray (d + 1) hs P 0 [(0, .ref x0), (1, .int x1), (2, .int x2)] [] h := by
  refine jr_aload_n 0 dX11_seenTray_0 rfl rfl ?_
  refine jr_iload_n 1 dX11_seenTray_1 rfl rfl ?_
  obtain ⟨fs3, e4, k⟩ := k
  refine jr_cVv (As := [.int x1]) jl_X11_378 km_X11_checkTray rfl rfl dX11_seenTray_2 e4 (Nat.le_of_ble_eq_true rfl) k (fun h2 k => ?_)
  refine jr_aload_n 0 dX11_seenTray_5 rfl rfl ?_
  refine jr_iload_n 2 dX11_seenTray_6 rfl rfl ?_
  obtain ⟨fs7, e8, k⟩ := k
  refine jr_cVv (As := [.int x2]) jl_X11_121 km_X11_checkHouse rfl rfl dX11_seenTray_7 e8 (Nat.le_of_ble_eq_true rfl) k (fun h6 k => ?_)
  refine jr_aload_n 0 dX11_seenTray_10 rfl rfl ?_
  refine jr_iload_n 1 dX11_seenTray_11 rfl rfl ?_
  obtain ⟨fs11, e12, k⟩ := k
  refine jr_cVr (As := [.int x1]) jl_X11_233 km_X11_trayAt rfl rfl dX11_seenTray_12 e12 (Nat.le_of_ble_eq_true rfl) k (fun r9 h10 k => ?_)
  refine jr_astore_n (lv' := [(3, .ref r9), (0, .ref x0), (1, .int x1), (2, .int x2)]) dX11_seenTray_15 rfl (by decide) rfl ?_
  refine jr_aload_n 0 dX11_seenTray_16 rfl rfl ?_
  obtain ⟨fs13, e14, v16, e15, k⟩ := k
  refine jr_get jf_X11_241 dX11_seenTray_17 e14 e15 ?_
  refine jr_iconst (v := 1) dX11_seenTray_20 (by decide) ?_
  refine jr_icmp_lt (tgt := 33) dX11_seenTray_21 (by decide) (fun c21 => ?_) (fun c21 => ?_)
  · have k := k.1 c21
    exact jr_sub [] rfl k
  · have k := k.2 c21
    refine jr_aload_n 0 dX11_seenTray_24 rfl rfl ?_
    obtain ⟨fs17, e18, v20, e19, k⟩ := k
    refine jr_get jf_X11_241 dX11_seenTray_25 e18 e19 ?_
    refine jr_bipush (v := 12) dX11_seenTray_28 (by decide) ?_
    refine jr_icmp_le (tgt := 44) dX11_seenTray_30 (by decide) (fun c30 => ?_) (fun c30 => ?_)
    · have k := k.2 c30
      refine jr_iconst (v := 0) dX11_seenTray_44 (by decide) ?_
      refine jr_istore (lv' := [(4, .int 0), (3, .ref r9), (0, .ref x0), (1, .int x1), (2, .int x2)]) dX11_seenTray_45 (by decide) rfl ?_
      exact jr_sub [1, 0] rfl k
    · have k := k.1 c30
      exact jr_sub [] rfl k
set_option maxRecDepth 20000 in
theorem bX11_seenTray_33 {g : jG} {d : Nat} {hs : jH} {P : jO → jH → Prop}  {h : jH} (k : jthr g h "java/lang/IllegalArgumentException" P) : J g mX11_seenTray (d + 1) hs P 33 [] [] h := by
  exact jr_throwW rfl jt_X11_381 rfl k.1 (fun hg9 => ⟨_, (hg9.2.2.2.2.2.2.2.1 11 _ rfl).1⟩) dX11_seenTray_33 dX11_seenTray_36 dX11_seenTray_37 dX11_seenTray_40 dX11_seenTray_43 (Nat.le_of_ble_eq_true rfl) k.2
set_option maxRecDepth 20000 in
theorem bX11_seenTray_47 {g : jG} {d : Nat} {hs : jH} {P : jO → jH → Prop} {x3 : Nat} {x4 : Int32} {h : jH} (k : ∃ fs1 : List Value, h.1 x3 = some (.inr (10, fs1)) ∧ ∃ v4 : Int32, fs1[0]? = some (.int v4) ∧ (x4 < v4 → ∃ fs7 : List Value, h.1 x3 = some (.inr (10, fs7)) ∧ Con g mX10_at d [.ref x3, .int x4] h (jPl (fun (r5 : Int64) (h6 : jH) => (r5 < (-1) → J g mX11_seenTray (d + 1) hs P 82 [] [] h6) ∧ (¬ r5 < (-1) → ∃ fs11 : List Value, h6.1 x3 = some (.inr (10, fs11)) ∧ Con g mX10_at d [.ref x3, .int x4] h6 (jPl (fun (r9 : Int64) (h10 : jH) => (999999 < r9 → J g mX11_seenTray (d + 1) hs P 82 [] [] h10) ∧ (¬ 999999 < r9 → J g mX11_seenTray (d + 1) hs P 47 [(3, .ref x3), (4, .int (x4 + 1))] [] h10)) (fun E h' => P (.inr E) h')))) (fun E h' => P (.inr E) h'))) ∧ (¬ x4 < v4 → P (.inl (some (.ref x3))) h)) : J g mX11_seenTray (d + 1) hs P 47 [(3, .ref x3), (4, .int x4)] [] h := by
  refine jr_iload 1 dX11_seenTray_47 rfl ?_
  refine jr_aload_n 0 dX11_seenTray_49 rfl rfl ?_
  obtain ⟨fs1, e2, v4, e3, k⟩ := k
  refine jr_get jf_X11_241 dX11_seenTray_50 e2 e3 ?_
  refine jr_icmp_ge (tgt := 99) dX11_seenTray_53 (by decide) (fun c53 => ?_) (fun c53 => ?_)
  · have k := k.2 c53
    refine jr_aload_n 0 dX11_seenTray_99 rfl rfl ?_
    exact jr_aret rfl (Or.inl ⟨_, rfl⟩) dX11_seenTray_100 k
  · have k := k.1 c53
    refine jr_aload_n 0 dX11_seenTray_56 rfl rfl ?_
    refine jr_iload 1 dX11_seenTray_57 rfl ?_
    obtain ⟨fs7, e8, k⟩ := k
    refine jr_cVl (As := [.int x4]) jl_X11_242 km_X10_at rfl rfl dX11_seenTray_59 e8 (Nat.le_of_ble_eq_true rfl) k (fun r5 h6 k => ?_)
    refine jr_ldc2 (v := (-1)) jk_X11_276 dX11_seenTray_62 ?_
    refine jr_lcmp_lt (tgt := 82) dX11_seenTray_65 dX11_seenTray_66 (by decide) (fun c65 => ?_) (fun c65 => ?_)
    · have k := k.1 c65
      exact jr_sub [] rfl k
    · have k := k.2 c65
      refine jr_aload_n 0 dX11_seenTray_69 rfl rfl ?_
      refine jr_iload 1 dX11_seenTray_70 rfl ?_
      obtain ⟨fs11, e12, k⟩ := k
      refine jr_cVl (As := [.int x4]) jl_X11_242 km_X10_at rfl rfl dX11_seenTray_72 e12 (Nat.le_of_ble_eq_true rfl) k (fun r9 h10 k => ?_)
      refine jr_ldc2 (v := 999999) jk_X11_383 dX11_seenTray_75 ?_
      refine jr_lcmp_le (tgt := 93) dX11_seenTray_78 dX11_seenTray_79 (by decide) (fun c78 => ?_) (fun c78 => ?_)
      · have k := k.2 c78
        refine jr_iinc (v := (x4 + 1)) (lv' := [(4, .int (x4 + 1)), (3, .ref x3)]) 1 dX11_seenTray_93 rfl rfl (by decide) rfl ?_
        refine jr_goto (tgt := 47) dX11_seenTray_96 (by decide) ?_
        exact jr_sub [1, 0] rfl k
      · have k := k.1 c78
        exact jr_sub [] rfl k
set_option maxRecDepth 20000 in
theorem bX11_seenTray_82 {g : jG} {d : Nat} {hs : jH} {P : jO → jH → Prop}  {h : jH} (k : jthr g h "java/lang/IllegalArgumentException" P) : J g mX11_seenTray (d + 1) hs P 82 [] [] h := by
  exact jr_throwW rfl jt_X11_385 rfl k.1 (fun hg9 => ⟨_, (hg9.2.2.2.2.2.2.2.1 12 _ rfl).1⟩) dX11_seenTray_82 dX11_seenTray_85 dX11_seenTray_86 dX11_seenTray_89 dX11_seenTray_92 (Nat.le_of_ble_eq_true rfl) k.2
set_option maxRecDepth 20000 in
theorem bX11_tray_0 {g : jG} {d : Nat} {hs : jH} {P : jO → jH → Prop} {x0 : Nat} {x1 : Int32} {x2 : Int32} {x3 : Int32} {h : jH} (k : ∃ fs3 : List Value, h.1 x0 = some (.inr (11, fs3)) ∧ Con g mX11_checkTray d [.ref x0, .int x1] h (jPv (fun (h2 : jH) => ∃ fs7 : List Value, h2.1 x0 = some (.inr (11, fs7)) ∧ Con g mX11_checkWithin d [.ref x0, .int x2, .int 0, .int 3] h2 (jPv (fun (h6 : jH) => ∃ fs11 : List Value, h6.1 x0 = some (.inr (11, fs11)) ∧ Con g mX11_checkWithin d [.ref x0, .int x3, .int 0, .int 30] h6 (jPv (fun (h10 : jH) => ∃ fs13 : List Value, h10.1 x0 = some (.inr (11, fs13)) ∧ ∃ v16 : Nat, fs13[9]? = some (.ref v16) ∧ ∃ (n17 : Nat) (f18 : Nat → Option Nat), h10.1 v16 = some (.inl (6, (n17, .inr (.inr (.inr (.inr f18)))))) ∧ vp_in x1 n17 ∧ ∃ v21 : Nat, f18 x1.toNatClampNeg = some v21 ∧ ∃ fs25 : List Value, h10.1 v21 = some (.inr (10, fs25)) ∧ Con g mX10_lay d [.ref v21, .int x2, .int x3] h10 (jPv (fun (h24 : jH) => P (.inl none) h24) (fun E h' => P (.inr E) h'))) (fun E h' => P (.inr E) h'))) (fun E h' => P (.inr E) h'))) (fun E h' => P (.inr E) h'))) : J g mX11_tray (d + 1) hs P 0 [(0, .ref x0), (1, .int x1), (2, .int x2), (3, .int x3)] [] h := by
  refine jr_aload_n 0 dX11_tray_0 rfl rfl ?_
  refine jr_iload_n 1 dX11_tray_1 rfl rfl ?_
  obtain ⟨fs3, e4, k⟩ := k
  refine jr_cVv (As := [.int x1]) jl_X11_378 km_X11_checkTray rfl rfl dX11_tray_2 e4 (Nat.le_of_ble_eq_true rfl) k (fun h2 k => ?_)
  refine jr_aload_n 0 dX11_tray_5 rfl rfl ?_
  refine jr_iload_n 2 dX11_tray_6 rfl rfl ?_
  refine jr_iconst (v := 0) dX11_tray_7 (by decide) ?_
  refine jr_iconst (v := 3) dX11_tray_8 (by decide) ?_
  obtain ⟨fs7, e8, k⟩ := k
  refine jr_cVv (As := [.int x2, .int 0, .int 3]) jl_X11_162 km_X11_checkWithin rfl rfl dX11_tray_9 e8 (Nat.le_of_ble_eq_true rfl) k (fun h6 k => ?_)
  refine jr_aload_n 0 dX11_tray_12 rfl rfl ?_
  refine jr_iload_n 3 dX11_tray_13 rfl rfl ?_
  refine jr_iconst (v := 0) dX11_tray_14 (by decide) ?_
  refine jr_bipush (v := 30) dX11_tray_15 (by decide) ?_
  obtain ⟨fs11, e12, k⟩ := k
  refine jr_cVv (As := [.int x3, .int 0, .int 30]) jl_X11_162 km_X11_checkWithin rfl rfl dX11_tray_17 e12 (Nat.le_of_ble_eq_true rfl) k (fun h10 k => ?_)
  refine jr_aload_n 0 dX11_tray_20 rfl rfl ?_
  obtain ⟨fs13, e14, v16, e15, k⟩ := k
  refine jr_get jf_X11_54 dX11_tray_21 e14 e15 ?_
  refine jr_iload_n 1 dX11_tray_24 rfl rfl ?_
  obtain ⟨n17, f18, e19, e20, v21, e22, k⟩ := k
  refine jr_qald6 dX11_tray_25 e19 e20 ?_
  rw [e22]
  refine jr_iload_n 2 dX11_tray_26 rfl rfl ?_
  refine jr_iload_n 3 dX11_tray_27 rfl rfl ?_
  obtain ⟨fs25, e26, k⟩ := k
  refine jr_cVv (As := [.int x2, .int x3]) jl_X11_387 km_X10_lay rfl rfl dX11_tray_28 e26 (Nat.le_of_ble_eq_true rfl) k (fun h24 k => ?_)
  exact jr_vret rfl dX11_tray_31 k
set_option maxRecDepth 20000 in
theorem bX11_write_0 {g : jG} {d : Nat} {hs : jH} {P : jO → jH → Prop} {x0 : Nat} {x1 : Int32} {x2 : Int32} {x3 : Int64} {h : jH} (k : ∃ fs3 : List Value, h.1 x0 = some (.inr (11, fs3)) ∧ Con g mX11_trayAt d [.ref x0, .int x1] h (jPr (fun (r1 : Nat) (h2 : jH) => (x2 < 0 → J g mX11_write (d + 1) hs P 20 [] [] h2) ∧ (¬ x2 < 0 → ∃ fs5 : List Value, h2.1 r1 = some (.inr (10, fs5)) ∧ ∃ v8 : Int32, fs5[0]? = some (.int v8) ∧ (x2 < v8 → ∃ fs11 : List Value, h2.1 r1 = some (.inr (10, fs11)) ∧ Con g mX10_put d [.ref r1, .int x2, .long x3] h2 (jPv (fun (h10 : jH) => ∃ fs15 : List Value, h10.1 r1 = some (.inr (10, fs15)) ∧ Con g mX10_at d [.ref r1, .int x2] h10 (jPl (fun (r13 : Int64) (h14 : jH) => P (.inl (some (.long r13))) h14) (fun E h' => P (.inr E) h'))) (fun E h' => P (.inr E) h'))) ∧ (¬ x2 < v8 → J g mX11_write (d + 1) hs P 20 [] [] h2))) (fun E h' => P (.inr E) h'))) : J g mX11_write (d + 1) hs P 0 [(0, .ref x0), (1, .int x1), (2, .int x2), (3, .long x3)] [] h := by
  refine jr_aload_n 0 dX11_write_0 rfl rfl ?_
  refine jr_iload_n 1 dX11_write_1 rfl rfl ?_
  obtain ⟨fs3, e4, k⟩ := k
  refine jr_cVr (As := [.int x1]) jl_X11_233 km_X11_trayAt rfl rfl dX11_write_2 e4 (Nat.le_of_ble_eq_true rfl) k (fun r1 h2 k => ?_)
  refine jr_astore (lv' := [(5, .ref r1), (0, .ref x0), (1, .int x1), (2, .int x2), (3, .long x3)]) dX11_write_5 (by decide) rfl ?_
  refine jr_iload_n 3 dX11_write_7 rfl rfl ?_
  refine jr_if_lt (tgt := 20) dX11_write_8 (by decide) (fun c8 => ?_) (fun c8 => ?_)
  · have k := k.1 c8
    exact jr_sub [] rfl k
  · have k := k.2 c8
    refine jr_iload_n 3 dX11_write_11 rfl rfl ?_
    refine jr_aload 0 dX11_write_12 rfl ?_
    obtain ⟨fs5, e6, v8, e7, k⟩ := k
    refine jr_get jf_X11_241 dX11_write_14 e6 e7 ?_
    refine jr_icmp_lt (tgt := 31) dX11_write_17 (by decide) (fun c17 => ?_) (fun c17 => ?_)
    · have k := k.1 c17
      refine jr_aload 0 dX11_write_31 rfl ?_
      refine jr_iload_n 3 dX11_write_33 rfl rfl ?_
      refine jr_lload_n 4 dX11_write_34 rfl rfl ?_
      obtain ⟨fs11, e12, k⟩ := k
      refine jr_cVv (As := [.int x2, .long x3]) jl_X11_395 km_X10_put rfl rfl dX11_write_35 e12 (Nat.le_of_ble_eq_true rfl) k (fun h10 k => ?_)
      refine jr_aload 0 dX11_write_38 rfl ?_
      refine jr_iload_n 3 dX11_write_40 rfl rfl ?_
      obtain ⟨fs15, e16, k⟩ := k
      refine jr_cVl (As := [.int x2]) jl_X11_242 km_X10_at rfl rfl dX11_write_41 e16 (Nat.le_of_ble_eq_true rfl) k (fun r13 h14 k => ?_)
      exact jr_lret rfl dX11_write_44 k
    · have k := k.2 c17
      exact jr_sub [] rfl k
set_option maxRecDepth 20000 in
theorem bX11_write_20 {g : jG} {d : Nat} {hs : jH} {P : jO → jH → Prop}  {h : jH} (k : jthr g h "java/lang/IndexOutOfBoundsException" P) : J g mX11_write (d + 1) hs P 20 [] [] h := by
  exact jr_throwW rfl jt_X11_392 rfl k.1 (fun hg9 => ⟨_, (hg9.2.2.2.2.2.2.2.1 14 _ rfl).1⟩) dX11_write_20 dX11_write_23 dX11_write_24 dX11_write_27 dX11_write_30 (Nat.le_of_ble_eq_true rfl) k.2
set_option maxRecDepth 20000 in
theorem bX11_copy_0 {g : jG} {d : Nat} {hs : jH} {P : jO → jH → Prop} {x0 : Nat} {x1 : Int32} {x2 : Int32} {h : jH} (k : ∃ fs3 : List Value, h.1 x0 = some (.inr (11, fs3)) ∧ Con g mX11_checkTray d [.ref x0, .int x1] h (jPv (fun (h2 : jH) => ∃ fs7 : List Value, h2.1 x0 = some (.inr (11, fs7)) ∧ Con g mX11_checkHouse d [.ref x0, .int x2] h2 (jPv (fun (h6 : jH) => ∃ fs11 : List Value, h6.1 x0 = some (.inr (11, fs11)) ∧ Con g mX11_trayAt d [.ref x0, .int x1] h6 (jPr (fun (r9 : Nat) (h10 : jH) => ∃ fs13 : List Value, h10.1 x0 = some (.inr (11, fs13)) ∧ ∃ v16 : Nat, fs13[10]? = some (.ref v16) ∧ ∃ fs17 : List Value, h10.1 x0 = some (.inr (11, fs17)) ∧ ∃ v20 : Nat, fs17[5]? = some (.ref v20) ∧ ∃ fs21 : List Value, h10.1 x0 = some (.inr (11, fs21)) ∧ ∃ v24 : Nat, fs21[6]? = some (.ref v24) ∧ ∃ fs27 : List Value, h10.1 v16 = some (.inr (0, fs27)) ∧ Con g mX0_from d [.ref v16, .ref v20, .ref v24] h10 (jPr (fun (r25 : Nat) (h26 : jH) => J g mX11_copy (d + 1) hs P 36 [(0, .ref x0), (2, .int x2), (3, .ref r9), (4, .ref r25), (5, .int 0)] [] h26) (fun E h' => P (.inr E) h'))) (fun E h' => P (.inr E) h'))) (fun E h' => P (.inr E) h'))) (fun E h' => P (.inr E) h'))) : J g mX11_copy (d + 1) hs P 0 [(0, .ref x0), (1, .int x1), (2, .int x2)] [] h := by
  refine jr_aload_n 0 dX11_copy_0 rfl rfl ?_
  refine jr_iload_n 1 dX11_copy_1 rfl rfl ?_
  obtain ⟨fs3, e4, k⟩ := k
  refine jr_cVv (As := [.int x1]) jl_X11_378 km_X11_checkTray rfl rfl dX11_copy_2 e4 (Nat.le_of_ble_eq_true rfl) k (fun h2 k => ?_)
  refine jr_aload_n 0 dX11_copy_5 rfl rfl ?_
  refine jr_iload_n 2 dX11_copy_6 rfl rfl ?_
  obtain ⟨fs7, e8, k⟩ := k
  refine jr_cVv (As := [.int x2]) jl_X11_121 km_X11_checkHouse rfl rfl dX11_copy_7 e8 (Nat.le_of_ble_eq_true rfl) k (fun h6 k => ?_)
  refine jr_aload_n 0 dX11_copy_10 rfl rfl ?_
  refine jr_iload_n 1 dX11_copy_11 rfl rfl ?_
  obtain ⟨fs11, e12, k⟩ := k
  refine jr_cVr (As := [.int x1]) jl_X11_233 km_X11_trayAt rfl rfl dX11_copy_12 e12 (Nat.le_of_ble_eq_true rfl) k (fun r9 h10 k => ?_)
  refine jr_astore_n (lv' := [(3, .ref r9), (0, .ref x0), (1, .int x1), (2, .int x2)]) dX11_copy_15 rfl (by decide) rfl ?_
  refine jr_aload_n 1 dX11_copy_16 rfl rfl ?_
  obtain ⟨fs13, e14, v16, e15, k⟩ := k
  refine jr_get jf_X11_62 dX11_copy_17 e14 e15 ?_
  refine jr_aload_n 1 dX11_copy_20 rfl rfl ?_
  obtain ⟨fs17, e18, v20, e19, k⟩ := k
  refine jr_get jf_X11_20 dX11_copy_21 e18 e19 ?_
  refine jr_aload_n 1 dX11_copy_24 rfl rfl ?_
  obtain ⟨fs21, e22, v24, e23, k⟩ := k
  refine jr_get jf_X11_34 dX11_copy_25 e22 e23 ?_
  obtain ⟨fs27, e28, k⟩ := k
  refine jr_cVr (As := [.ref v20, .ref v24]) jl_X11_237 km_X0_from rfl rfl dX11_copy_28 e28 (Nat.le_of_ble_eq_true rfl) k (fun r25 h26 k => ?_)
  refine jr_astore (lv' := [(4, .ref r25), (3, .ref r9), (0, .ref x0), (1, .int x1), (2, .int x2)]) dX11_copy_31 (by decide) rfl ?_
  refine jr_iconst (v := 0) dX11_copy_33 (by decide) ?_
  refine jr_istore (lv' := [(5, .int 0), (4, .ref r25), (3, .ref r9), (0, .ref x0), (1, .int x1), (2, .int x2)]) dX11_copy_34 (by decide) rfl ?_
  exact jr_sub [3, 5, 2, 1, 0] rfl k
set_option maxRecDepth 20000 in
theorem bX11_copy_36 {g : jG} {d : Nat} {hs : jH} {P : jO → jH → Prop} {x0 : Nat} {x2 : Int32} {x3 : Nat} {x4 : Nat} {x5 : Int32} {h : jH} (k : ∃ fs1 : List Value, h.1 x3 = some (.inr (10, fs1)) ∧ ∃ v4 : Int32, fs1[0]? = some (.int v4) ∧ (x5 < v4 → ∃ fs9 : List Value, h.1 x0 = some (.inr (11, fs9)) ∧ ∃ v12 : Nat, fs9[10]? = some (.ref v12) ∧ ∃ fs13 : List Value, h.1 x0 = some (.inr (11, fs13)) ∧ ∃ v16 : Nat, fs13[5]? = some (.ref v16) ∧ ∃ fs17 : List Value, h.1 x0 = some (.inr (11, fs17)) ∧ ∃ v20 : Nat, fs17[5]? = some (.ref v20) ∧ ∃ fs21 : List Value, h.1 v20 = some (.inr (9, fs21)) ∧ ∃ v24 : Int32, fs21[3]? = some (.int v24) ∧ ∃ fs27 : List Value, h.1 v12 = some (.inr (0, fs27)) ∧ Con g mX0_pass d [.ref v12, .ref v16, .ref x4, .int v24] h (jPv (fun (h26 : jH) => ∃ fs29 : List Value, h26.1 x0 = some (.inr (11, fs29)) ∧ ∃ v32 : Nat, fs29[10]? = some (.ref v32) ∧ ∃ fs33 : List Value, h26.1 v32 = some (.inr (0, fs33)) ∧ ∃ v36 : Nat, fs33[0]? = some (.ref v36) ∧ ∃ (n37 : Nat) (f38 : Nat → Int32), h26.1 v36 = some (.inl (0, (n37, .inl f38))) ∧ vp_in x2 n37 ∧ ∃ fs43 : List Value, h26.1 x3 = some (.inr (10, fs43)) ∧ Con g mX10_put d [.ref x3, .int x5, .long ((f38 x2.toNatClampNeg)).toInt64] h26 (jPv (fun (h42 : jH) => J g mX11_copy (d + 1) hs P 36 [(0, .ref x0), (2, .int x2), (3, .ref x3), (4, .ref x4), (5, .int (x5 + 1))] [] h42) (fun E h' => P (.inr E) h'))) (fun E h' => P (.inr E) h'))) ∧ (¬ x5 < v4 → ∃ fs5 : List Value, h.1 x3 = some (.inr (10, fs5)) ∧ ∃ v8 : Int32, fs5[0]? = some (.int v8) ∧ P (.inl (some (.int v8))) h)) : J g mX11_copy (d + 1) hs P 36 [(0, .ref x0), (2, .int x2), (3, .ref x3), (4, .ref x4), (5, .int x5)] [] h := by
  refine jr_iload 4 dX11_copy_36 rfl ?_
  refine jr_aload_n 2 dX11_copy_38 rfl rfl ?_
  obtain ⟨fs1, e2, v4, e3, k⟩ := k
  refine jr_get jf_X11_241 dX11_copy_39 e2 e3 ?_
  refine jr_icmp_ge (tgt := 87) dX11_copy_42 (by decide) (fun c42 => ?_) (fun c42 => ?_)
  · have k := k.2 c42
    refine jr_aload_n 2 dX11_copy_87 rfl rfl ?_
    obtain ⟨fs5, e6, v8, e7, k⟩ := k
    refine jr_get jf_X11_241 dX11_copy_88 e6 e7 ?_
    exact jr_iret (ty := .int) rfl rfl dX11_copy_91 k
  · have k := k.1 c42
    refine jr_aload_n 0 dX11_copy_45 rfl rfl ?_
    obtain ⟨fs9, e10, v12, e11, k⟩ := k
    refine jr_get jf_X11_62 dX11_copy_46 e10 e11 ?_
    refine jr_aload_n 0 dX11_copy_49 rfl rfl ?_
    obtain ⟨fs13, e14, v16, e15, k⟩ := k
    refine jr_get jf_X11_20 dX11_copy_50 e14 e15 ?_
    refine jr_aload 3 dX11_copy_53 rfl ?_
    refine jr_aload_n 0 dX11_copy_55 rfl rfl ?_
    obtain ⟨fs17, e18, v20, e19, k⟩ := k
    refine jr_get jf_X11_20 dX11_copy_56 e18 e19 ?_
    obtain ⟨fs21, e22, v24, e23, k⟩ := k
    refine jr_get jf_X11_217 dX11_copy_59 e22 e23 ?_
    obtain ⟨fs27, e28, k⟩ := k
    refine jr_cVv (As := [.ref v16, .ref x4, .int v24]) jl_X11_220 km_X0_pass rfl rfl dX11_copy_62 e28 (Nat.le_of_ble_eq_true rfl) k (fun h26 k => ?_)
    refine jr_aload_n 2 dX11_copy_65 rfl rfl ?_
    refine jr_iload 4 dX11_copy_66 rfl ?_
    refine jr_aload_n 0 dX11_copy_68 rfl rfl ?_
    obtain ⟨fs29, e30, v32, e31, k⟩ := k
    refine jr_get jf_X11_62 dX11_copy_69 e30 e31 ?_
    obtain ⟨fs33, e34, v36, e35, k⟩ := k
    refine jr_get jf_X11_399 dX11_copy_72 e34 e35 ?_
    refine jr_iload_n 1 dX11_copy_75 rfl rfl ?_
    obtain ⟨n37, f38, e39, e40, k⟩ := k
    refine jr_iald dX11_copy_76 e39 e40 ?_
    refine jr_i2l dX11_copy_77 ?_
    obtain ⟨fs43, e44, k⟩ := k
    refine jr_cVv (As := [.int x5, .long ((f38 x2.toNatClampNeg)).toInt64]) jl_X11_395 km_X10_put rfl rfl dX11_copy_78 e44 (Nat.le_of_ble_eq_true rfl) k (fun h42 k => ?_)
    refine jr_iinc (v := (x5 + 1)) (lv' := [(5, .int (x5 + 1)), (0, .ref x0), (2, .int x2), (3, .ref x3), (4, .ref x4)]) 4 dX11_copy_81 rfl rfl (by decide) rfl ?_
    refine jr_goto (tgt := 36) dX11_copy_84 (by decide) ?_
    exact jr_sub [1, 2, 3, 4, 0] rfl k
set_option maxRecDepth 20000 in
theorem bX11_checkTray_0 {g : jG} {d : Nat} {hs : jH} {P : jO → jH → Prop} {x0 : Nat} {x1 : Int32} {h : jH} (k : (x1 < 0 → J g mX11_checkTray (d + 1) hs P 13 [] [] h) ∧ (¬ x1 < 0 → ∃ fs1 : List Value, h.1 x0 = some (.inr (11, fs1)) ∧ ∃ v4 : Nat, fs1[9]? = some (.ref v4) ∧ ∃ (t5 : Nat) (z6 : vp_A), h.1 v4 = some (.inl (t5, z6)) ∧ (∃ ty9 : FieldType, jTy t5 = some ty9) ∧ (x1 < (nI z6.1) → P (.inl none) h) ∧ (¬ x1 < (nI z6.1) → J g mX11_checkTray (d + 1) hs P 13 [] [] h))) : J g mX11_checkTray (d + 1) hs P 0 [(0, .ref x0), (1, .int x1)] [] h := by
  refine jr_iload_n 1 dX11_checkTray_0 rfl rfl ?_
  refine jr_if_lt (tgt := 13) dX11_checkTray_1 (by decide) (fun c1 => ?_) (fun c1 => ?_)
  · have k := k.1 c1
    exact jr_sub [] rfl k
  · have k := k.2 c1
    refine jr_iload_n 1 dX11_checkTray_4 rfl rfl ?_
    refine jr_aload_n 0 dX11_checkTray_5 rfl rfl ?_
    obtain ⟨fs1, e2, v4, e3, k⟩ := k
    refine jr_get jf_X11_54 dX11_checkTray_6 e2 e3 ?_
    obtain ⟨t5, z6, e7, ⟨ty9, e8⟩, k⟩ := k
    refine jr_alen (v := nI z6.1) dX11_checkTray_9 e8 e7 rfl ?_
    refine jr_icmp_lt (tgt := 24) dX11_checkTray_10 (by decide) (fun c10 => ?_) (fun c10 => ?_)
    · have k := k.1 c10
      exact jr_vret rfl dX11_checkTray_24 k
    · have k := k.2 c10
      exact jr_sub [] rfl k
set_option maxRecDepth 20000 in
theorem bX11_checkTray_13 {g : jG} {d : Nat} {hs : jH} {P : jO → jH → Prop}  {h : jH} (k : jthr g h "java/util/NoSuchElementException" P) : J g mX11_checkTray (d + 1) hs P 13 [] [] h := by
  exact jr_throwXW rfl jt_X11_402 rfl k.1 (fun hg9 => ⟨_, (hg9.2.2.2.2.2.2.2.1 9 _ rfl).1⟩) dX11_checkTray_13 dX11_checkTray_16 dX11_checkTray_17 dX11_checkTray_20 dX11_checkTray_23 (Nat.le_of_ble_eq_true rfl) k.2
set_option maxRecDepth 20000 in
theorem bX11_trayAt_0 {g : jG} {d : Nat} {hs : jH} {P : jO → jH → Prop} {x0 : Nat} {x1 : Int32} {h : jH} (k : ∃ fs3 : List Value, h.1 x0 = some (.inr (11, fs3)) ∧ Con g mX11_checkTray d [.ref x0, .int x1] h (jPv (fun (h2 : jH) => ∃ fs5 : List Value, h2.1 x0 = some (.inr (11, fs5)) ∧ ∃ v8 : Nat, fs5[9]? = some (.ref v8) ∧ ∃ (n9 : Nat) (f10 : Nat → Option Nat), h2.1 v8 = some (.inl (6, (n9, .inr (.inr (.inr (.inr f10)))))) ∧ vp_in x1 n9 ∧ ∃ v13 : Nat, f10 x1.toNatClampNeg = some v13 ∧ ∃ fs17 : List Value, h2.1 v13 = some (.inr (10, fs17)) ∧ Con g mX10_isMissing d [.ref v13] h2 (jPi (fun (r15 : Int32) (h16 : jH) => (r15 = 0 → ∃ fs19 : List Value, h16.1 x0 = some (.inr (11, fs19)) ∧ ∃ v22 : Nat, fs19[9]? = some (.ref v22) ∧ ∃ (n23 : Nat) (f24 : Nat → Option Nat), h16.1 v22 = some (.inl (6, (n23, .inr (.inr (.inr (.inr f24)))))) ∧ vp_in x1 n23 ∧ ∃ v27 : Nat, f24 x1.toNatClampNeg = some v27 ∧ P (.inl (some (.ref v27))) h16) ∧ (¬ r15 = 0 → jthr g h16 "java/lang/IllegalStateException" P)) (fun E h' => P (.inr E) h'))) (fun E h' => P (.inr E) h'))) : J g mX11_trayAt (d + 1) hs P 0 [(0, .ref x0), (1, .int x1)] [] h := by
  refine jr_aload_n 0 dX11_trayAt_0 rfl rfl ?_
  refine jr_iload_n 1 dX11_trayAt_1 rfl rfl ?_
  obtain ⟨fs3, e4, k⟩ := k
  refine jr_cVv (As := [.int x1]) jl_X11_378 km_X11_checkTray rfl rfl dX11_trayAt_2 e4 (Nat.le_of_ble_eq_true rfl) k (fun h2 k => ?_)
  refine jr_aload_n 0 dX11_trayAt_5 rfl rfl ?_
  obtain ⟨fs5, e6, v8, e7, k⟩ := k
  refine jr_get jf_X11_54 dX11_trayAt_6 e6 e7 ?_
  refine jr_iload_n 1 dX11_trayAt_9 rfl rfl ?_
  obtain ⟨n9, f10, e11, e12, v13, e14, k⟩ := k
  refine jr_qald6 dX11_trayAt_10 e11 e12 ?_
  rw [e14]
  obtain ⟨fs17, e18, k⟩ := k
  refine jr_cVi (As := []) jl_X11_404 km_X10_isMissing rfl rfl dX11_trayAt_11 e18 (Nat.le_of_ble_eq_true rfl) k (fun r15 h16 k => ?_)
  refine jr_if_eq (tgt := 28) dX11_trayAt_14 (by decide) (fun c14 => ?_) (fun c14 => ?_)
  · have k := k.1 c14
    refine jr_aload_n 0 dX11_trayAt_28 rfl rfl ?_
    obtain ⟨fs19, e20, v22, e21, k⟩ := k
    refine jr_get jf_X11_54 dX11_trayAt_29 e20 e21 ?_
    refine jr_iload_n 1 dX11_trayAt_32 rfl rfl ?_
    obtain ⟨n23, f24, e25, e26, v27, e28, k⟩ := k
    refine jr_qald6 dX11_trayAt_33 e25 e26 ?_
    rw [e28]
    exact jr_aret rfl (Or.inl ⟨_, rfl⟩) dX11_trayAt_34 k
  · have k := k.2 c14
    exact jr_throwW rfl jt_X11_408 rfl k.1 (fun hg9 => ⟨_, (hg9.2.2.2.2.2.2.2.1 10 _ rfl).1⟩) dX11_trayAt_17 dX11_trayAt_20 dX11_trayAt_21 dX11_trayAt_24 dX11_trayAt_27 (Nat.le_of_ble_eq_true rfl) k.2
set_option maxRecDepth 20000 in
theorem bX11_image_0 {g : jG} {d : Nat} {hs : jH} {P : jO → jH → Prop} {x0 : Nat} {x1 : Int32} {h : jH} (k : ∃ fs3 : List Value, h.1 x0 = some (.inr (11, fs3)) ∧ Con g mX11_checkImage d [.ref x0, .int x1] h (jPv (fun (h2 : jH) => ∃ fs5 : List Value, h2.1 x0 = some (.inr (11, fs5)) ∧ ∃ v8 : Nat, fs5[8]? = some (.ref v8) ∧ ∃ (n9 : Nat) (f10 : Nat → Option Nat), h2.1 v8 = some (.inl (5, (n9, .inr (.inr (.inr (.inr f10)))))) ∧ vp_in x1 n9 ∧ ∃ v13 : Nat, f10 x1.toNatClampNeg = some v13 ∧ ∃ fs15 : List Value, h2.1 x0 = some (.inr (11, fs15)) ∧ ∃ v18 : Nat, fs15[5]? = some (.ref v18) ∧ ∃ fs19 : List Value, h2.1 v13 = some (.inr (3, fs19)) ∧ 0 < fs19.length ∧ (∀ h22 : jH, h22 = jset h2 v13 (.inr (3, fs19.set 0 (.ref v18))) → ∃ fs24 : List Value, h22.1 x0 = some (.inr (11, fs24)) ∧ ∃ v27 : Nat, fs24[8]? = some (.ref v27) ∧ ∃ (n28 : Nat) (f29 : Nat → Option Nat), h22.1 v27 = some (.inl (5, (n28, .inr (.inr (.inr (.inr f29)))))) ∧ vp_in x1 n28 ∧ ∃ v32 : Nat, f29 x1.toNatClampNeg = some v32 ∧ ∃ fs34 : List Value, h22.1 v32 = some (.inr (3, fs34)) ∧ ∃ v37 : Nat, fs34[1]? = some (.ref v37) ∧ ∃ fs38 : List Value, h22.1 x0 = some (.inr (11, fs38)) ∧ ∃ v41 : Nat, fs38[6]? = some (.ref v41) ∧ ∃ fs44 : List Value, h22.1 v37 = some (.inr (6, fs44)) ∧ Con g mX6_takeOver d [.ref v37, .ref v41] h22 (jPv (fun (h43 : jH) => ∃ fs46 : List Value, h43.1 x0 = some (.inr (11, fs46)) ∧ ∃ v49 : Nat, fs46[8]? = some (.ref v49) ∧ ∃ (n50 : Nat) (f51 : Nat → Option Nat), h43.1 v49 = some (.inl (5, (n50, .inr (.inr (.inr (.inr f51)))))) ∧ vp_in x1 n50 ∧ ∃ v54 : Nat, f51 x1.toNatClampNeg = some v54 ∧ ∃ fs56 : List Value, h43.1 v54 = some (.inr (3, fs56)) ∧ ∃ v59 : Nat, fs56[2]? = some (.ref v59) ∧ ∃ fs60 : List Value, h43.1 x0 = some (.inr (11, fs60)) ∧ ∃ v63 : Nat, fs60[7]? = some (.ref v63) ∧ ∃ fs66 : List Value, h43.1 v59 = some (.inr (2, fs66)) ∧ Con g mX2_takeOver d [.ref v59, .ref v63] h43 (jPv (fun (h65 : jH) => P (.inl none) h65) (fun E h' => P (.inr E) h'))) (fun E h' => P (.inr E) h')))) (fun E h' => P (.inr E) h'))) : J g mX11_image (d + 1) hs P 0 [(0, .ref x0), (1, .int x1)] [] h := by
  refine jr_aload_n 0 dX11_image_0 rfl rfl ?_
  refine jr_iload_n 1 dX11_image_1 rfl rfl ?_
  obtain ⟨fs3, e4, k⟩ := k
  refine jr_cVv (As := [.int x1]) jl_X11_410 km_X11_checkImage rfl rfl dX11_image_2 e4 (Nat.le_of_ble_eq_true rfl) k (fun h2 k => ?_)
  refine jr_aload_n 0 dX11_image_5 rfl rfl ?_
  obtain ⟨fs5, e6, v8, e7, k⟩ := k
  refine jr_get jf_X11_47 dX11_image_6 e6 e7 ?_
  refine jr_iload_n 1 dX11_image_9 rfl rfl ?_
  obtain ⟨n9, f10, e11, e12, v13, e14, k⟩ := k
  refine jr_qald5 dX11_image_10 e11 e12 ?_
  rw [e14]
  refine jr_aload_n 0 dX11_image_11 rfl rfl ?_
  obtain ⟨fs15, e16, v18, e17, k⟩ := k
  refine jr_get jf_X11_20 dX11_image_12 e16 e17 ?_
  obtain ⟨fs19, e20, e21, k⟩ := k
  refine jr_putE jp_X11_413 dX11_image_15 e20 e21 rfl rfl (fun h22 eh23 => ?_)
  have k := k h22 eh23
  refine jr_aload_n 0 dX11_image_18 rfl rfl ?_
  obtain ⟨fs24, e25, v27, e26, k⟩ := k
  refine jr_get jf_X11_47 dX11_image_19 e25 e26 ?_
  refine jr_iload_n 1 dX11_image_22 rfl rfl ?_
  obtain ⟨n28, f29, e30, e31, v32, e33, k⟩ := k
  refine jr_qald5 dX11_image_23 e30 e31 ?_
  rw [e33]
  obtain ⟨fs34, e35, v37, e36, k⟩ := k
  refine jr_get jf_X11_414 dX11_image_24 e35 e36 ?_
  refine jr_aload_n 0 dX11_image_27 rfl rfl ?_
  obtain ⟨fs38, e39, v41, e40, k⟩ := k
  refine jr_get jf_X11_34 dX11_image_28 e39 e40 ?_
  obtain ⟨fs44, e45, k⟩ := k
  refine jr_cVv (As := [.ref v41]) jl_X11_111 km_X6_takeOver rfl rfl dX11_image_31 e45 (Nat.le_of_ble_eq_true rfl) k (fun h43 k => ?_)
  refine jr_aload_n 0 dX11_image_34 rfl rfl ?_
  obtain ⟨fs46, e47, v49, e48, k⟩ := k
  refine jr_get jf_X11_47 dX11_image_35 e47 e48 ?_
  refine jr_iload_n 1 dX11_image_38 rfl rfl ?_
  obtain ⟨n50, f51, e52, e53, v54, e55, k⟩ := k
  refine jr_qald5 dX11_image_39 e52 e53 ?_
  rw [e55]
  obtain ⟨fs56, e57, v59, e58, k⟩ := k
  refine jr_get jf_X11_417 dX11_image_40 e57 e58 ?_
  refine jr_aload_n 0 dX11_image_43 rfl rfl ?_
  obtain ⟨fs60, e61, v63, e62, k⟩ := k
  refine jr_get jf_X11_41 dX11_image_44 e61 e62 ?_
  obtain ⟨fs66, e67, k⟩ := k
  refine jr_cVv (As := [.ref v63]) jl_X11_418 km_X2_takeOver rfl rfl dX11_image_47 e67 (Nat.le_of_ble_eq_true rfl) k (fun h65 k => ?_)
  exact jr_vret rfl dX11_image_50 k
set_option maxRecDepth 20000 in
theorem bX11_restore_0 {g : jG} {d : Nat} {hs : jH} {P : jO → jH → Prop} {x0 : Nat} {x1 : Int32} {h : jH} (k : ∃ fs3 : List Value, h.1 x0 = some (.inr (11, fs3)) ∧ Con g mX11_checkImage d [.ref x0, .int x1] h (jPv (fun (h2 : jH) => ∃ fs5 : List Value, h2.1 x0 = some (.inr (11, fs5)) ∧ ∃ v8 : Nat, fs5[8]? = some (.ref v8) ∧ ∃ (n9 : Nat) (f10 : Nat → Option Nat), h2.1 v8 = some (.inl (5, (n9, .inr (.inr (.inr (.inr f10)))))) ∧ vp_in x1 n9 ∧ ∃ v13 : Nat, f10 x1.toNatClampNeg = some v13 ∧ ∃ fs15 : List Value, h2.1 v13 = some (.inr (3, fs15)) ∧ ((fs15[0]? = some .null ∧ jthr g h2 "java/lang/IllegalStateException" P) ∨ (∃ v18 : Nat, fs15[0]? = some (.ref v18) ∧ ∃ fs19 : List Value, h2.1 x0 = some (.inr (11, fs19)) ∧ 5 < fs19.length ∧ (∀ h22 : jH, h22 = jset h2 x0 (.inr (11, fs19.set 5 (.ref v18))) → ∃ fs24 : List Value, h22.1 x0 = some (.inr (11, fs24)) ∧ ∃ v27 : Nat, fs24[6]? = some (.ref v27) ∧ ∃ fs28 : List Value, h22.1 x0 = some (.inr (11, fs28)) ∧ ∃ v31 : Nat, fs28[8]? = some (.ref v31) ∧ ∃ (n32 : Nat) (f33 : Nat → Option Nat), h22.1 v31 = some (.inl (5, (n32, .inr (.inr (.inr (.inr f33)))))) ∧ vp_in x1 n32 ∧ ∃ v36 : Nat, f33 x1.toNatClampNeg = some v36 ∧ ∃ fs38 : List Value, h22.1 v36 = some (.inr (3, fs38)) ∧ ∃ v41 : Nat, fs38[1]? = some (.ref v41) ∧ ∃ fs44 : List Value, h22.1 v27 = some (.inr (6, fs44)) ∧ Con g mX6_takeOver d [.ref v27, .ref v41] h22 (jPv (fun (h43 : jH) => ∃ fs46 : List Value, h43.1 x0 = some (.inr (11, fs46)) ∧ ∃ v49 : Nat, fs46[7]? = some (.ref v49) ∧ ∃ fs50 : List Value, h43.1 x0 = some (.inr (11, fs50)) ∧ ∃ v53 : Nat, fs50[8]? = some (.ref v53) ∧ ∃ (n54 : Nat) (f55 : Nat → Option Nat), h43.1 v53 = some (.inl (5, (n54, .inr (.inr (.inr (.inr f55)))))) ∧ vp_in x1 n54 ∧ ∃ v58 : Nat, f55 x1.toNatClampNeg = some v58 ∧ ∃ fs60 : List Value, h43.1 v58 = some (.inr (3, fs60)) ∧ ∃ v63 : Nat, fs60[2]? = some (.ref v63) ∧ ∃ fs66 : List Value, h43.1 v49 = some (.inr (2, fs66)) ∧ Con g mX2_takeOver d [.ref v49, .ref v63] h43 (jPv (fun (h65 : jH) => P (.inl none) h65) (fun E h' => P (.inr E) h'))) (fun E h' => P (.inr E) h')))))) (fun E h' => P (.inr E) h'))) : J g mX11_restore (d + 1) hs P 0 [(0, .ref x0), (1, .int x1)] [] h := by
  refine jr_aload_n 0 dX11_restore_0 rfl rfl ?_
  refine jr_iload_n 1 dX11_restore_1 rfl rfl ?_
  obtain ⟨fs3, e4, k⟩ := k
  refine jr_cVv (As := [.int x1]) jl_X11_410 km_X11_checkImage rfl rfl dX11_restore_2 e4 (Nat.le_of_ble_eq_true rfl) k (fun h2 k => ?_)
  refine jr_aload_n 0 dX11_restore_5 rfl rfl ?_
  obtain ⟨fs5, e6, v8, e7, k⟩ := k
  refine jr_get jf_X11_47 dX11_restore_6 e6 e7 ?_
  refine jr_iload_n 1 dX11_restore_9 rfl rfl ?_
  obtain ⟨n9, f10, e11, e12, v13, e14, k⟩ := k
  refine jr_qald5 dX11_restore_10 e11 e12 ?_
  rw [e14]
  obtain ⟨fs15, e16, k⟩ := k
  rcases k with ⟨e17, k⟩ | ⟨v18, e17, k⟩
  · refine jr_get jf_X11_413 dX11_restore_11 e16 e17 ?_
    refine jr_astore_nN (lv' := [(2, .null), (0, .ref x0), (1, .int x1)]) dX11_restore_14 rfl (by decide) rfl ?_
    refine jr_aload_nN 0 dX11_restore_15 rfl rfl ?_
    refine jr_ifnonnullN dX11_restore_16 ?_
    exact jr_throwW rfl jt_X11_421 rfl k.1 (fun hg9 => ⟨_, (hg9.2.2.2.2.2.2.2.1 16 _ rfl).1⟩) dX11_restore_19 dX11_restore_22 dX11_restore_23 dX11_restore_26 dX11_restore_29 (Nat.le_of_ble_eq_true rfl) k.2
  · refine jr_get jf_X11_413 dX11_restore_11 e16 e17 ?_
    refine jr_astore_n (lv' := [(2, .ref v18), (0, .ref x0), (1, .int x1)]) dX11_restore_14 rfl (by decide) rfl ?_
    refine jr_aload_n 0 dX11_restore_15 rfl rfl ?_
    refine jr_ifnonnull (tgt := 30) dX11_restore_16 (by decide) ?_
    refine jr_aload_n 1 dX11_restore_30 rfl rfl ?_
    refine jr_aload_n 0 dX11_restore_31 rfl rfl ?_
    obtain ⟨fs19, e20, e21, k⟩ := k
    refine jr_putE jp_X11_20 dX11_restore_32 e20 e21 rfl rfl (fun h22 eh23 => ?_)
    have k := k h22 eh23
    refine jr_aload_n 1 dX11_restore_35 rfl rfl ?_
    obtain ⟨fs24, e25, v27, e26, k⟩ := k
    refine jr_get jf_X11_34 dX11_restore_36 e25 e26 ?_
    refine jr_aload_n 1 dX11_restore_39 rfl rfl ?_
    obtain ⟨fs28, e29, v31, e30, k⟩ := k
    refine jr_get jf_X11_47 dX11_restore_40 e29 e30 ?_
    refine jr_iload_n 2 dX11_restore_43 rfl rfl ?_
    obtain ⟨n32, f33, e34, e35, v36, e37, k⟩ := k
    refine jr_qald5 dX11_restore_44 e34 e35 ?_
    rw [e37]
    obtain ⟨fs38, e39, v41, e40, k⟩ := k
    refine jr_get jf_X11_414 dX11_restore_45 e39 e40 ?_
    obtain ⟨fs44, e45, k⟩ := k
    refine jr_cVv (As := [.ref v41]) jl_X11_111 km_X6_takeOver rfl rfl dX11_restore_48 e45 (Nat.le_of_ble_eq_true rfl) k (fun h43 k => ?_)
    refine jr_aload_n 1 dX11_restore_51 rfl rfl ?_
    obtain ⟨fs46, e47, v49, e48, k⟩ := k
    refine jr_get jf_X11_41 dX11_restore_52 e47 e48 ?_
    refine jr_aload_n 1 dX11_restore_55 rfl rfl ?_
    obtain ⟨fs50, e51, v53, e52, k⟩ := k
    refine jr_get jf_X11_47 dX11_restore_56 e51 e52 ?_
    refine jr_iload_n 2 dX11_restore_59 rfl rfl ?_
    obtain ⟨n54, f55, e56, e57, v58, e59, k⟩ := k
    refine jr_qald5 dX11_restore_60 e56 e57 ?_
    rw [e59]
    obtain ⟨fs60, e61, v63, e62, k⟩ := k
    refine jr_get jf_X11_417 dX11_restore_61 e61 e62 ?_
    obtain ⟨fs66, e67, k⟩ := k
    refine jr_cVv (As := [.ref v63]) jl_X11_418 km_X2_takeOver rfl rfl dX11_restore_64 e67 (Nat.le_of_ble_eq_true rfl) k (fun h65 k => ?_)
    exact jr_vret rfl dX11_restore_67 k
set_option maxRecDepth 20000 in
theorem bX11_checkImage_0 {g : jG} {d : Nat} {hs : jH} {P : jO → jH → Prop} {x0 : Nat} {x1 : Int32} {h : jH} (k : (x1 < 0 → J g mX11_checkImage (d + 1) hs P 13 [] [] h) ∧ (¬ x1 < 0 → ∃ fs1 : List Value, h.1 x0 = some (.inr (11, fs1)) ∧ ∃ v4 : Nat, fs1[8]? = some (.ref v4) ∧ ∃ (t5 : Nat) (z6 : vp_A), h.1 v4 = some (.inl (t5, z6)) ∧ (∃ ty9 : FieldType, jTy t5 = some ty9) ∧ (x1 < (nI z6.1) → P (.inl none) h) ∧ (¬ x1 < (nI z6.1) → J g mX11_checkImage (d + 1) hs P 13 [] [] h))) : J g mX11_checkImage (d + 1) hs P 0 [(0, .ref x0), (1, .int x1)] [] h := by
  refine jr_iload_n 1 dX11_checkImage_0 rfl rfl ?_
  refine jr_if_lt (tgt := 13) dX11_checkImage_1 (by decide) (fun c1 => ?_) (fun c1 => ?_)
  · have k := k.1 c1
    exact jr_sub [] rfl k
  · have k := k.2 c1
    refine jr_iload_n 1 dX11_checkImage_4 rfl rfl ?_
    refine jr_aload_n 0 dX11_checkImage_5 rfl rfl ?_
    obtain ⟨fs1, e2, v4, e3, k⟩ := k
    refine jr_get jf_X11_47 dX11_checkImage_6 e2 e3 ?_
    obtain ⟨t5, z6, e7, ⟨ty9, e8⟩, k⟩ := k
    refine jr_alen (v := nI z6.1) dX11_checkImage_9 e8 e7 rfl ?_
    refine jr_icmp_lt (tgt := 24) dX11_checkImage_10 (by decide) (fun c10 => ?_) (fun c10 => ?_)
    · have k := k.1 c10
      exact jr_vret rfl dX11_checkImage_24 k
    · have k := k.2 c10
      exact jr_sub [] rfl k
set_option maxRecDepth 20000 in
theorem bX11_checkImage_13 {g : jG} {d : Nat} {hs : jH} {P : jO → jH → Prop}  {h : jH} (k : jthr g h "java/util/NoSuchElementException" P) : J g mX11_checkImage (d + 1) hs P 13 [] [] h := by
  exact jr_throwXW rfl jt_X11_423 rfl k.1 (fun hg9 => ⟨_, (hg9.2.2.2.2.2.2.2.1 15 _ rfl).1⟩) dX11_checkImage_13 dX11_checkImage_16 dX11_checkImage_17 dX11_checkImage_20 dX11_checkImage_23 (Nat.le_of_ble_eq_true rfl) k.2
set_option maxRecDepth 20000 in
theorem bX11_count_0 {g : jG} {d : Nat} {hs : jH} {P : jO → jH → Prop} {x0 : Nat} {x1 : Int32} {h : jH} (k : (x1 = 0 → ∃ fs1 : List Value, h.1 x0 = some (.inr (11, fs1)) ∧ ∃ v4 : Nat, fs1[5]? = some (.ref v4) ∧ ∃ fs5 : List Value, h.1 v4 = some (.inr (9, fs5)) ∧ ∃ v8 : Int32, fs5[2]? = some (.int v8) ∧ P (.inl (some (.int v8))) h) ∧ (¬ x1 = 0 → (x1 = 1 → ∃ fs9 : List Value, h.1 x0 = some (.inr (11, fs9)) ∧ ∃ v12 : Nat, fs9[6]? = some (.ref v12) ∧ ∃ fs13 : List Value, h.1 v12 = some (.inr (6, fs13)) ∧ ∃ v16 : Int32, fs13[0]? = some (.int v16) ∧ P (.inl (some (.int v16))) h) ∧ (¬ x1 = 1 → (x1 = 2 → ∃ fs17 : List Value, h.1 x0 = some (.inr (11, fs17)) ∧ ∃ v20 : Nat, fs17[6]? = some (.ref v20) ∧ ∃ fs21 : List Value, h.1 x0 = some (.inr (11, fs21)) ∧ ∃ v24 : Nat, fs21[6]? = some (.ref v24) ∧ ∃ fs25 : List Value, h.1 v24 = some (.inr (6, fs25)) ∧ ∃ v28 : Nat, fs25[6]? = some (.ref v28) ∧ ∃ fs31 : List Value, h.1 v20 = some (.inr (6, fs31)) ∧ Con g mX6_sum d [.ref v20, .ref v28] h (jPi (fun (r29 : Int32) (h30 : jH) => P (.inl (some (.int r29))) h30) (fun E h' => P (.inr E) h'))) ∧ (¬ x1 = 2 → (x1 = 3 → ∃ fs33 : List Value, h.1 x0 = some (.inr (11, fs33)) ∧ ∃ v36 : Nat, fs33[6]? = some (.ref v36) ∧ ∃ fs37 : List Value, h.1 x0 = some (.inr (11, fs37)) ∧ ∃ v40 : Nat, fs37[6]? = some (.ref v40) ∧ ∃ fs41 : List Value, h.1 v40 = some (.inr (6, fs41)) ∧ ∃ v44 : Nat, fs41[7]? = some (.ref v44) ∧ ∃ fs47 : List Value, h.1 v36 = some (.inr (6, fs47)) ∧ Con g mX6_sum d [.ref v36, .ref v44] h (jPi (fun (r45 : Int32) (h46 : jH) => P (.inl (some (.int r45))) h46) (fun E h' => P (.inr E) h'))) ∧ (¬ x1 = 3 → (x1 = 4 → ∃ fs49 : List Value, h.1 x0 = some (.inr (11, fs49)) ∧ ∃ v52 : Nat, fs49[6]? = some (.ref v52) ∧ ∃ fs53 : List Value, h.1 x0 = some (.inr (11, fs53)) ∧ ∃ v56 : Nat, fs53[6]? = some (.ref v56) ∧ ∃ fs57 : List Value, h.1 v56 = some (.inr (6, fs57)) ∧ ∃ v60 : Nat, fs57[5]? = some (.ref v60) ∧ ∃ fs63 : List Value, h.1 v52 = some (.inr (6, fs63)) ∧ Con g mX6_sum d [.ref v52, .ref v60] h (jPi (fun (r61 : Int32) (h62 : jH) => P (.inl (some (.int r61))) h62) (fun E h' => P (.inr E) h'))) ∧ (¬ x1 = 4 → (x1 = 5 → ∃ fs65 : List Value, h.1 x0 = some (.inr (11, fs65)) ∧ ∃ v68 : Nat, fs65[6]? = some (.ref v68) ∧ ∃ fs69 : List Value, h.1 v68 = some (.inr (6, fs69)) ∧ ∃ v72 : Int32, fs69[1]? = some (.int v72) ∧ P (.inl (some (.int v72))) h) ∧ (¬ x1 = 5 → (x1 = 6 → ∃ fs73 : List Value, h.1 x0 = some (.inr (11, fs73)) ∧ ∃ v76 : Nat, fs73[5]? = some (.ref v76) ∧ ∃ fs77 : List Value, h.1 v76 = some (.inr (9, fs77)) ∧ ∃ v80 : Int32, fs77[3]? = some (.int v80) ∧ P (.inl (some (.int v80))) h) ∧ (¬ x1 = 6 → (x1 = 7 → ∃ fs81 : List Value, h.1 x0 = some (.inr (11, fs81)) ∧ ∃ v84 : Nat, fs81[6]? = some (.ref v84) ∧ ∃ fs85 : List Value, h.1 v84 = some (.inr (6, fs85)) ∧ ∃ v88 : Int32, fs85[2]? = some (.int v88) ∧ P (.inl (some (.int v88))) h) ∧ (¬ x1 = 7 → (x1 = 8 → ∃ fs89 : List Value, h.1 x0 = some (.inr (11, fs89)) ∧ ∃ v92 : Nat, fs89[5]? = some (.ref v92) ∧ ∃ fs93 : List Value, h.1 v92 = some (.inr (9, fs93)) ∧ ∃ v96 : Int32, fs93[1]? = some (.int v96) ∧ (v96 = 0 → P (.inl (some (.int 0))) h) ∧ (¬ v96 = 0 → P (.inl (some (.int 1))) h)) ∧ (¬ x1 = 8 → (x1 = 9 → ∃ fs97 : List Value, h.1 x0 = some (.inr (11, fs97)) ∧ ∃ v100 : Nat, fs97[7]? = some (.ref v100) ∧ ∃ fs101 : List Value, h.1 v100 = some (.inr (2, fs101)) ∧ ∃ v104 : Int32, fs101[0]? = some (.int v104) ∧ P (.inl (some (.int v104))) h) ∧ (¬ x1 = 9 → (x1 = 10 → ∃ fs105 : List Value, h.1 x0 = some (.inr (11, fs105)) ∧ ∃ v108 : Int32, fs105[1]? = some (.int v108) ∧ P (.inl (some (.int v108))) h) ∧ (¬ x1 = 10 → P (.inl (some (.int ((-1))))) h)))))))))))) : J g mX11_count (d + 1) hs P 0 [(0, .ref x0), (1, .int x1)] [] h := by
  refine jr_iload_n 1 dX11_count_0 rfl rfl ?_
  by_cases c1_0 : x1 = 0
  · have k := k.1 c1_0
    refine jr_tableIn (tgt := 60) dX11_count_1 (by rw [c1_0]; decide) (by rw [c1_0]; decide) (by rw [c1_0]; rfl) (by decide) ?_
    refine jr_aload_n 0 dX11_count_60 rfl rfl ?_
    obtain ⟨fs1, e2, v4, e3, k⟩ := k
    refine jr_get jf_X11_20 dX11_count_61 e2 e3 ?_
    obtain ⟨fs5, e6, v8, e7, k⟩ := k
    refine jr_get jf_X11_118 dX11_count_64 e6 e7 ?_
    exact jr_iret (ty := .int) rfl rfl dX11_count_67 k
  · have k := k.2 c1_0
    by_cases c1_1 : x1 = 1
    · have k := k.1 c1_1
      refine jr_tableIn (tgt := 68) dX11_count_1 (by rw [c1_1]; decide) (by rw [c1_1]; decide) (by rw [c1_1]; rfl) (by decide) ?_
      refine jr_aload_n 0 dX11_count_68 rfl rfl ?_
      obtain ⟨fs9, e10, v12, e11, k⟩ := k
      refine jr_get jf_X11_34 dX11_count_69 e10 e11 ?_
      obtain ⟨fs13, e14, v16, e15, k⟩ := k
      refine jr_get jf_X11_131 dX11_count_72 e14 e15 ?_
      exact jr_iret (ty := .int) rfl rfl dX11_count_75 k
    · have k := k.2 c1_1
      by_cases c1_2 : x1 = 2
      · have k := k.1 c1_2
        refine jr_tableIn (tgt := 76) dX11_count_1 (by rw [c1_2]; decide) (by rw [c1_2]; decide) (by rw [c1_2]; rfl) (by decide) ?_
        refine jr_aload_n 0 dX11_count_76 rfl rfl ?_
        obtain ⟨fs17, e18, v20, e19, k⟩ := k
        refine jr_get jf_X11_34 dX11_count_77 e18 e19 ?_
        refine jr_aload_n 0 dX11_count_80 rfl rfl ?_
        obtain ⟨fs21, e22, v24, e23, k⟩ := k
        refine jr_get jf_X11_34 dX11_count_81 e22 e23 ?_
        obtain ⟨fs25, e26, v28, e27, k⟩ := k
        refine jr_get jf_X11_149 dX11_count_84 e26 e27 ?_
        obtain ⟨fs31, e32, k⟩ := k
        refine jr_cVi (As := [.ref v28]) jl_X11_254 km_X6_sum rfl rfl dX11_count_87 e32 (Nat.le_of_ble_eq_true rfl) k (fun r29 h30 k => ?_)
        exact jr_iret (ty := .int) rfl rfl dX11_count_90 k
      · have k := k.2 c1_2
        by_cases c1_3 : x1 = 3
        · have k := k.1 c1_3
          refine jr_tableIn (tgt := 91) dX11_count_1 (by rw [c1_3]; decide) (by rw [c1_3]; decide) (by rw [c1_3]; rfl) (by decide) ?_
          refine jr_aload_n 0 dX11_count_91 rfl rfl ?_
          obtain ⟨fs33, e34, v36, e35, k⟩ := k
          refine jr_get jf_X11_34 dX11_count_92 e34 e35 ?_
          refine jr_aload_n 0 dX11_count_95 rfl rfl ?_
          obtain ⟨fs37, e38, v40, e39, k⟩ := k
          refine jr_get jf_X11_34 dX11_count_96 e38 e39 ?_
          obtain ⟨fs41, e42, v44, e43, k⟩ := k
          refine jr_get jf_X11_124 dX11_count_99 e42 e43 ?_
          obtain ⟨fs47, e48, k⟩ := k
          refine jr_cVi (As := [.ref v44]) jl_X11_254 km_X6_sum rfl rfl dX11_count_102 e48 (Nat.le_of_ble_eq_true rfl) k (fun r45 h46 k => ?_)
          exact jr_iret (ty := .int) rfl rfl dX11_count_105 k
        · have k := k.2 c1_3
          by_cases c1_4 : x1 = 4
          · have k := k.1 c1_4
            refine jr_tableIn (tgt := 106) dX11_count_1 (by rw [c1_4]; decide) (by rw [c1_4]; decide) (by rw [c1_4]; rfl) (by decide) ?_
            refine jr_aload_n 0 dX11_count_106 rfl rfl ?_
            obtain ⟨fs49, e50, v52, e51, k⟩ := k
            refine jr_get jf_X11_34 dX11_count_107 e50 e51 ?_
            refine jr_aload_n 0 dX11_count_110 rfl rfl ?_
            obtain ⟨fs53, e54, v56, e55, k⟩ := k
            refine jr_get jf_X11_34 dX11_count_111 e54 e55 ?_
            obtain ⟨fs57, e58, v60, e59, k⟩ := k
            refine jr_get jf_X11_146 dX11_count_114 e58 e59 ?_
            obtain ⟨fs63, e64, k⟩ := k
            refine jr_cVi (As := [.ref v60]) jl_X11_254 km_X6_sum rfl rfl dX11_count_117 e64 (Nat.le_of_ble_eq_true rfl) k (fun r61 h62 k => ?_)
            exact jr_iret (ty := .int) rfl rfl dX11_count_120 k
          · have k := k.2 c1_4
            by_cases c1_5 : x1 = 5
            · have k := k.1 c1_5
              refine jr_tableIn (tgt := 121) dX11_count_1 (by rw [c1_5]; decide) (by rw [c1_5]; decide) (by rw [c1_5]; rfl) (by decide) ?_
              refine jr_aload_n 0 dX11_count_121 rfl rfl ?_
              obtain ⟨fs65, e66, v68, e67, k⟩ := k
              refine jr_get jf_X11_34 dX11_count_122 e66 e67 ?_
              obtain ⟨fs69, e70, v72, e71, k⟩ := k
              refine jr_get jf_X11_288 dX11_count_125 e70 e71 ?_
              exact jr_iret (ty := .int) rfl rfl dX11_count_128 k
            · have k := k.2 c1_5
              by_cases c1_6 : x1 = 6
              · have k := k.1 c1_6
                refine jr_tableIn (tgt := 129) dX11_count_1 (by rw [c1_6]; decide) (by rw [c1_6]; decide) (by rw [c1_6]; rfl) (by decide) ?_
                refine jr_aload_n 0 dX11_count_129 rfl rfl ?_
                obtain ⟨fs73, e74, v76, e75, k⟩ := k
                refine jr_get jf_X11_20 dX11_count_130 e74 e75 ?_
                obtain ⟨fs77, e78, v80, e79, k⟩ := k
                refine jr_get jf_X11_217 dX11_count_133 e78 e79 ?_
                exact jr_iret (ty := .int) rfl rfl dX11_count_136 k
              · have k := k.2 c1_6
                by_cases c1_7 : x1 = 7
                · have k := k.1 c1_7
                  refine jr_tableIn (tgt := 137) dX11_count_1 (by rw [c1_7]; decide) (by rw [c1_7]; decide) (by rw [c1_7]; rfl) (by decide) ?_
                  refine jr_aload_n 0 dX11_count_137 rfl rfl ?_
                  obtain ⟨fs81, e82, v84, e83, k⟩ := k
                  refine jr_get jf_X11_34 dX11_count_138 e82 e83 ?_
                  obtain ⟨fs85, e86, v88, e87, k⟩ := k
                  refine jr_get jf_X11_258 dX11_count_141 e86 e87 ?_
                  exact jr_iret (ty := .int) rfl rfl dX11_count_144 k
                · have k := k.2 c1_7
                  by_cases c1_8 : x1 = 8
                  · have k := k.1 c1_8
                    refine jr_tableIn (tgt := 145) dX11_count_1 (by rw [c1_8]; decide) (by rw [c1_8]; decide) (by rw [c1_8]; rfl) (by decide) ?_
                    refine jr_aload_n 0 dX11_count_145 rfl rfl ?_
                    obtain ⟨fs89, e90, v92, e91, k⟩ := k
                    refine jr_get jf_X11_20 dX11_count_146 e90 e91 ?_
                    obtain ⟨fs93, e94, v96, e95, k⟩ := k
                    refine jr_get jf_X11_425 dX11_count_149 e94 e95 ?_
                    refine jr_if_eq (tgt := 159) dX11_count_152 (by decide) (fun c152 => ?_) (fun c152 => ?_)
                    · have k := k.1 c152
                      refine jr_iconst (v := 0) dX11_count_159 (by decide) ?_
                      exact jr_iret (ty := .int) rfl rfl dX11_count_160 k
                    · have k := k.2 c152
                      refine jr_iconst (v := 1) dX11_count_155 (by decide) ?_
                      refine jr_goto (tgt := 160) dX11_count_156 (by decide) ?_
                      exact jr_iret (ty := .int) rfl rfl dX11_count_160 k
                  · have k := k.2 c1_8
                    by_cases c1_9 : x1 = 9
                    · have k := k.1 c1_9
                      refine jr_tableIn (tgt := 161) dX11_count_1 (by rw [c1_9]; decide) (by rw [c1_9]; decide) (by rw [c1_9]; rfl) (by decide) ?_
                      refine jr_aload_n 0 dX11_count_161 rfl rfl ?_
                      obtain ⟨fs97, e98, v100, e99, k⟩ := k
                      refine jr_get jf_X11_41 dX11_count_162 e98 e99 ?_
                      obtain ⟨fs101, e102, v104, e103, k⟩ := k
                      refine jr_get jf_X11_115 dX11_count_165 e102 e103 ?_
                      exact jr_iret (ty := .int) rfl rfl dX11_count_168 k
                    · have k := k.2 c1_9
                      by_cases c1_10 : x1 = 10
                      · have k := k.1 c1_10
                        refine jr_tableIn (tgt := 169) dX11_count_1 (by rw [c1_10]; decide) (by rw [c1_10]; decide) (by rw [c1_10]; rfl) (by decide) ?_
                        refine jr_aload_n 0 dX11_count_169 rfl rfl ?_
                        obtain ⟨fs105, e106, v108, e107, k⟩ := k
                        refine jr_get jf_X11_80 dX11_count_170 e106 e107 ?_
                        exact jr_iret (ty := .int) rfl rfl dX11_count_173 k
                      · have k := k.2 c1_10
                        refine jr_tableOut (tgt := 174) dX11_count_1 ?_ (by decide) ?_
                        · have d1_0 := j_ne c1_0 (z := 0) (by decide)
                          have d1_1 := j_ne c1_1 (z := 1) (by decide)
                          have d1_2 := j_ne c1_2 (z := 2) (by decide)
                          have d1_3 := j_ne c1_3 (z := 3) (by decide)
                          have d1_4 := j_ne c1_4 (z := 4) (by decide)
                          have d1_5 := j_ne c1_5 (z := 5) (by decide)
                          have d1_6 := j_ne c1_6 (z := 6) (by decide)
                          have d1_7 := j_ne c1_7 (z := 7) (by decide)
                          have d1_8 := j_ne c1_8 (z := 8) (by decide)
                          have d1_9 := j_ne c1_9 (z := 9) (by decide)
                          have d1_10 := j_ne c1_10 (z := 10) (by decide)
                          omega
                        · refine jr_iconst (v := (-1)) dX11_count_174 (by decide) ?_
                          exact jr_iret (ty := .int) rfl rfl dX11_count_175 k
