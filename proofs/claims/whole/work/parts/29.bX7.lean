set_option maxRecDepth 20000 in
theorem bX7_init_0 {g : jG} {d : Nat} {hs : jH} {P : jO → jH → Prop} {x0 : Nat} {h : jH} (k : jroom g h 1 7 ∧ ∀ (q1 : Nat) (h2 : jH), q1 = h.2.1 → h2 = jnew h (.inr (9, [.null, .int 0, .int 0, .int 0, .null, .null, .null])) 7 → Con g mX9_init d [.ref q1] h2 (jPv (fun (h7 : jH) => ∃ fs8 : List Value, h7.1 x0 = some (.inr (7, fs8)) ∧ 0 < fs8.length ∧ (∀ h11 : jH, h11 = jset h7 x0 (.inr (7, fs8.set 0 (.ref q1))) → jroom g h11 1 4 ∧ ∀ (q13 : Nat) (h14 : jH), q13 = h11.2.1 → h14 = jnew h11 (.inr (8, [.null, .null, .null, .int 0])) 4 → Con g mX8_init d [.ref q13] h14 (jPv (fun (h19 : jH) => ∃ fs20 : List Value, h19.1 x0 = some (.inr (7, fs20)) ∧ 3 < fs20.length ∧ (∀ h23 : jH, h23 = jset h19 x0 (.inr (7, fs20.set 3 (.ref q13))) → ∃ N25 : Nat, (900 : Int32) = nI N25 ∧ N25 < 60000000 ∧ jroom g h23 1 N25 ∧ ∀ (q28 : Nat) (h29 : jH), q28 = h23.2.1 → h29 = jnew h23 (.inl (0, (N25, .inl (fun _ => 0)))) N25 → ∃ fs33 : List Value, h29.1 x0 = some (.inr (7, fs33)) ∧ 6 < fs33.length ∧ (∀ h36 : jH, h36 = jset h29 x0 (.inr (7, fs33.set 6 (.ref q28))) → P (.inl none) h36))) (fun E h' => P (.inr E) h')))) (fun E h' => P (.inr E) h'))) : J g mX7_init (d + 1) hs P 0 [(0, .ref x0)] [] h := by
  refine jr_aload_n 0 dX7_init_0 rfl rfl ?_
  refine jr_objInit jl_X7_3 dX7_init_1 (Nat.le_of_ble_eq_true rfl) ?_
  refine jr_aload_n 0 dX7_init_4 rfl rfl ?_
  obtain ⟨rm5, k⟩ := k
  refine jr_newE (fs := [.null, .int 0, .int 0, .int 0, .null, .null, .null]) jn_X7_9 jfs_9 rm5 dX7_init_5 (fun q1 h2 eq3 eh4 => ?_)
  have k := k q1 h2 eq3 eh4
  refine jr_dup dX7_init_8 rfl ?_
  refine jr_cNv (As := []) jl_X7_11 km_X9_init rfl rfl dX7_init_9 (Nat.le_of_ble_eq_true rfl) k (fun h7 k => ?_)
  obtain ⟨fs8, e9, e10, k⟩ := k
  refine jr_putE jp_X7_12 dX7_init_12 e9 e10 rfl rfl (fun h11 eh12 => ?_)
  have k := k h11 eh12
  refine jr_aload_n 0 dX7_init_15 rfl rfl ?_
  obtain ⟨rm17, k⟩ := k
  refine jr_newE (fs := [.null, .null, .null, .int 0]) jn_X7_18 jfs_8 rm17 dX7_init_16 (fun q13 h14 eq15 eh16 => ?_)
  have k := k q13 h14 eq15 eh16
  refine jr_dup dX7_init_19 rfl ?_
  refine jr_cNv (As := []) jl_X7_20 km_X8_init rfl rfl dX7_init_20 (Nat.le_of_ble_eq_true rfl) k (fun h19 k => ?_)
  obtain ⟨fs20, e21, e22, k⟩ := k
  refine jr_putFE jp_X7_21 (fun C T N hc => by cases hc; rfl) rfl dX7_init_23 e21 e22 rfl rfl (fun h23 eh24 => ?_)
  have k := k h23 eh24
  refine jr_aload_n 0 dX7_init_26 rfl rfl ?_
  refine jr_sipush (v := 900) dX7_init_27 (by decide) ?_
  obtain ⟨N25, e26, e27, rm32, k⟩ := k
  refine jr_new_int e26 e27 rm32 dX7_init_30 (fun q28 h29 eq30 eh31 => ?_)
  have k := k q28 h29 eq30 eh31
  obtain ⟨fs33, e34, e35, k⟩ := k
  refine jr_putFE jp_X7_25 (fun C T N hc => by cases hc; rfl) rfl dX7_init_32 e34 e35 rfl rfl (fun h36 eh37 => ?_)
  have k := k h36 eh37
  exact jr_vret rfl dX7_init_35 k
set_option maxRecDepth 20000 in
theorem bX7_read_0 {g : jG} {d : Nat} {hs : jH} {P : jO → jH → Prop} {x0 : Nat} {x1 : Nat} {x2 : Int32} {h : jH} (k : jroom g h 1 7 ∧ ∀ (q1 : Nat) (h2 : jH), q1 = h.2.1 → h2 = jnew h (.inr (9, [.null, .int 0, .int 0, .int 0, .null, .null, .null])) 7 → Con g mX9_init d [.ref q1] h2 (jPv (fun (h7 : jH) => ∃ fs8 : List Value, h7.1 x0 = some (.inr (7, fs8)) ∧ 0 < fs8.length ∧ (∀ h11 : jH, h11 = jset h7 x0 (.inr (7, fs8.set 0 (.ref q1))) → ∃ fs13 : List Value, h11.1 x0 = some (.inr (7, fs13)) ∧ 1 < fs13.length ∧ (∀ h16 : jH, h16 = jset h11 x0 (.inr (7, fs13.set 1 (.int 0))) → ∃ fs18 : List Value, h16.1 x0 = some (.inr (7, fs18)) ∧ 2 < fs18.length ∧ (∀ h21 : jH, h21 = jset h16 x0 (.inr (7, fs18.set 2 (.int (-1)))) → ∃ fs23 : List Value, h21.1 x0 = some (.inr (7, fs23)) ∧ ∃ v26 : Nat, fs23[3]? = some (.ref v26) ∧ ∃ fs29 : List Value, h21.1 v26 = some (.inr (8, fs29)) ∧ Con g mX8_cut d [.ref v26, .ref x1, .int x2] h21 (jPv (fun (h28 : jH) => ∃ fs31 : List Value, h28.1 x0 = some (.inr (7, fs31)) ∧ 4 < fs31.length ∧ (∀ h34 : jH, h34 = jset h28 x0 (.inr (7, fs31.set 4 (.int (-1)))) → ∃ fs38 : List Value, h34.1 x0 = some (.inr (7, fs38)) ∧ Con g mX7_skip d [.ref x0] h34 (jPv (fun (h37 : jH) => ∃ fs42 : List Value, h37.1 x0 = some (.inr (7, fs42)) ∧ Con g mX7_expect d [.ref x0, .int 135] h37 (jPi (fun (r40 : Int32) (h41 : jH) => ∃ fs44 : List Value, h41.1 x0 = some (.inr (7, fs44)) ∧ ∃ v47 : Nat, fs44[0]? = some (.ref v47) ∧ ∃ fs48 : List Value, h41.1 x0 = some (.inr (7, fs48)) ∧ ∃ v51 : Int32, fs48[5]? = some (.int v51) ∧ (v51 = 136 → J g mX7_read (d + 1) hs P 66 [(0, .ref x0), (3, .int r40)] [.int 1, .ref v47] h41) ∧ (¬ v51 = 136 → J g mX7_read (d + 1) hs P 66 [(0, .ref x0), (3, .int r40)] [.int 0, .ref v47] h41)) (fun E h' => P (.inr E) h'))) (fun E h' => P (.inr E) h')))) (fun E h' => P (.inr E) h')))))) (fun E h' => P (.inr E) h'))) : J g mX7_read (d + 1) hs P 0 [(0, .ref x0), (1, .ref x1), (2, .int x2)] [] h := by
  refine jr_aload_n 0 dX7_read_0 rfl rfl ?_
  obtain ⟨rm5, k⟩ := k
  refine jr_newE (fs := [.null, .int 0, .int 0, .int 0, .null, .null, .null]) jn_X7_9 jfs_9 rm5 dX7_read_1 (fun q1 h2 eq3 eh4 => ?_)
  have k := k q1 h2 eq3 eh4
  refine jr_dup dX7_read_4 rfl ?_
  refine jr_cNv (As := []) jl_X7_11 km_X9_init rfl rfl dX7_read_5 (Nat.le_of_ble_eq_true rfl) k (fun h7 k => ?_)
  obtain ⟨fs8, e9, e10, k⟩ := k
  refine jr_putE jp_X7_12 dX7_read_8 e9 e10 rfl rfl (fun h11 eh12 => ?_)
  have k := k h11 eh12
  refine jr_aload_n 0 dX7_read_11 rfl rfl ?_
  refine jr_iconst (v := 0) dX7_read_12 (by decide) ?_
  obtain ⟨fs13, e14, e15, k⟩ := k
  refine jr_putE jp_X7_29 dX7_read_13 e14 e15 rfl rfl (fun h16 eh17 => ?_)
  have k := k h16 eh17
  refine jr_aload_n 0 dX7_read_16 rfl rfl ?_
  refine jr_iconst (v := (-1)) dX7_read_17 (by decide) ?_
  obtain ⟨fs18, e19, e20, k⟩ := k
  refine jr_putE jp_X7_33 dX7_read_18 e19 e20 rfl rfl (fun h21 eh22 => ?_)
  have k := k h21 eh22
  refine jr_aload_n 0 dX7_read_21 rfl rfl ?_
  obtain ⟨fs23, e24, v26, e25, k⟩ := k
  refine jr_get jf_X7_21 dX7_read_22 e24 e25 ?_
  refine jr_aload_n 1 dX7_read_25 rfl rfl ?_
  refine jr_iload_n 2 dX7_read_26 rfl rfl ?_
  obtain ⟨fs29, e30, k⟩ := k
  refine jr_cVv (As := [.ref x1, .int x2]) jl_X7_36 km_X8_cut rfl rfl dX7_read_27 e30 (Nat.le_of_ble_eq_true rfl) k (fun h28 k => ?_)
  refine jr_aload_n 0 dX7_read_30 rfl rfl ?_
  refine jr_iconst (v := (-1)) dX7_read_31 (by decide) ?_
  obtain ⟨fs31, e32, e33, k⟩ := k
  refine jr_putE jp_X7_40 dX7_read_32 e32 e33 rfl rfl (fun h34 eh35 => ?_)
  have k := k h34 eh35
  refine jr_aload_n 0 dX7_read_35 rfl rfl ?_
  obtain ⟨fs38, e39, k⟩ := k
  refine jr_cVv (As := []) jl_X7_43 km_X7_skip rfl rfl dX7_read_36 e39 (Nat.le_of_ble_eq_true rfl) k (fun h37 k => ?_)
  refine jr_aload_n 0 dX7_read_39 rfl rfl ?_
  refine jr_sipush (v := 135) dX7_read_40 (by decide) ?_
  obtain ⟨fs42, e43, k⟩ := k
  refine jr_cVi (As := [.int 135]) jl_X7_46 km_X7_expect rfl rfl dX7_read_43 e43 (Nat.le_of_ble_eq_true rfl) k (fun r40 h41 k => ?_)
  refine jr_istore_n (lv' := [(3, .int r40), (0, .ref x0), (1, .ref x1), (2, .int x2)]) dX7_read_46 rfl (by decide) rfl ?_
  refine jr_aload_n 1 dX7_read_47 rfl rfl ?_
  obtain ⟨fs44, e45, v47, e46, k⟩ := k
  refine jr_get jf_X7_12 dX7_read_48 e45 e46 ?_
  refine jr_aload_n 1 dX7_read_51 rfl rfl ?_
  obtain ⟨fs48, e49, v51, e50, k⟩ := k
  refine jr_get jf_X7_50 dX7_read_52 e49 e50 ?_
  refine jr_sipush (v := 136) dX7_read_55 (by decide) ?_
  refine jr_icmp_ne (tgt := 65) dX7_read_58 (by decide) (fun c58 => ?_) (fun c58 => ?_)
  · have k := k.2 c58
    refine jr_iconst (v := 0) dX7_read_65 (by decide) ?_
    exact jr_sub [1, 0] rfl k
  · have k := k.1 c58
    refine jr_iconst (v := 1) dX7_read_61 (by decide) ?_
    refine jr_goto (tgt := 66) dX7_read_62 (by decide) ?_
    exact jr_sub [1, 0] rfl k
set_option maxRecDepth 20000 in
theorem bX7_read_66 {g : jG} {d : Nat} {hs : jH} {P : jO → jH → Prop} {x0 : Nat} {x3 : Int32} {s0 : Nat} {s1 : Int32} {h : jH} (k : ∃ fs1 : List Value, h.1 s0 = some (.inr (9, fs1)) ∧ 1 < fs1.length ∧ (s1 = 0 ∨ s1 = 1) ∧ (∀ h4 : jH, h4 = jset h s0 (.inr (9, fs1.set 1 (.int s1))) → (x3 = 0 → J g mX7_read (d + 1) hs P 112 [(0, .ref x0)] [] h4) ∧ (¬ x3 = 0 → ∃ fs7 : List Value, h4.1 x0 = some (.inr (7, fs7)) ∧ ∃ v10 : Nat, fs7[0]? = some (.ref v10) ∧ ∃ fs11 : List Value, h4.1 v10 = some (.inr (9, fs11)) ∧ ∃ v14 : Int32, fs11[1]? = some (.int v14) ∧ (v14 = 0 → J g mX7_read (d + 1) hs P 93 [(0, .ref x0)] [.int 137, .ref x0] h4) ∧ (¬ v14 = 0 → J g mX7_read (d + 1) hs P 93 [(0, .ref x0)] [.int 136, .ref x0] h4)))) : J g mX7_read (d + 1) hs P 66 [(0, .ref x0), (3, .int x3)] [.int s1, .ref s0] h := by
  obtain ⟨fs1, e2, e3, b6, k⟩ := k
  refine jr_putE jp_X7_53 dX7_read_66 e2 e3 (jz_n b6) (jz_f b6) (fun h4 eh5 => ?_)
  have k := k h4 eh5
  refine jr_iload_n 1 dX7_read_69 rfl rfl ?_
  refine jr_if_eq (tgt := 112) dX7_read_70 (by decide) (fun c70 => ?_) (fun c70 => ?_)
  · have k := k.1 c70
    exact jr_sub [0] rfl k
  · have k := k.2 c70
    refine jr_aload_n 0 dX7_read_73 rfl rfl ?_
    refine jr_aload_n 0 dX7_read_74 rfl rfl ?_
    obtain ⟨fs7, e8, v10, e9, k⟩ := k
    refine jr_get jf_X7_12 dX7_read_75 e8 e9 ?_
    obtain ⟨fs11, e12, v14, e13, k⟩ := k
    refine jr_get jf_X7_53 dX7_read_78 e12 e13 ?_
    refine jr_if_eq (tgt := 90) dX7_read_81 (by decide) (fun c81 => ?_) (fun c81 => ?_)
    · have k := k.1 c81
      refine jr_sipush (v := 137) dX7_read_90 (by decide) ?_
      exact jr_sub [0] rfl k
    · have k := k.2 c81
      refine jr_sipush (v := 136) dX7_read_84 (by decide) ?_
      refine jr_goto (tgt := 93) dX7_read_87 (by decide) ?_
      exact jr_sub [0] rfl k
set_option maxRecDepth 20000 in
theorem bX7_read_93 {g : jG} {d : Nat} {hs : jH} {P : jO → jH → Prop} {x0 : Nat} {s0 : Nat} {s1 : Int32} {h : jH} (k : ∃ fs3 : List Value, h.1 s0 = some (.inr (7, fs3)) ∧ Con g mX7_expect d [.ref s0, .int s1] h (jPi (fun (r1 : Int32) (h2 : jH) => (r1 = 0 → J g mX7_read (d + 1) hs P 112 [(0, .ref x0)] [] h2) ∧ (¬ r1 = 0 → ∃ fs7 : List Value, h2.1 x0 = some (.inr (7, fs7)) ∧ Con g mX7_expect d [.ref x0, .int 59] h2 (jPi (fun (r5 : Int32) (h6 : jH) => (r5 = 0 → J g mX7_read (d + 1) hs P 112 [(0, .ref x0)] [] h6) ∧ (¬ r5 = 0 → J g mX7_read (d + 1) hs P 113 [(0, .ref x0)] [.int 1] h6)) (fun E h' => P (.inr E) h')))) (fun E h' => P (.inr E) h'))) : J g mX7_read (d + 1) hs P 93 [(0, .ref x0)] [.int s1, .ref s0] h := by
  obtain ⟨fs3, e4, k⟩ := k
  refine jr_cVi (As := [.int s1]) jl_X7_46 km_X7_expect rfl rfl dX7_read_93 e4 (Nat.le_of_ble_eq_true rfl) k (fun r1 h2 k => ?_)
  refine jr_if_eq (tgt := 112) dX7_read_96 (by decide) (fun c96 => ?_) (fun c96 => ?_)
  · have k := k.1 c96
    exact jr_sub [0] rfl k
  · have k := k.2 c96
    refine jr_aload_n 0 dX7_read_99 rfl rfl ?_
    refine jr_bipush (v := 59) dX7_read_100 (by decide) ?_
    obtain ⟨fs7, e8, k⟩ := k
    refine jr_cVi (As := [.int 59]) jl_X7_46 km_X7_expect rfl rfl dX7_read_102 e8 (Nat.le_of_ble_eq_true rfl) k (fun r5 h6 k => ?_)
    refine jr_if_eq (tgt := 112) dX7_read_105 (by decide) (fun c105 => ?_) (fun c105 => ?_)
    · have k := k.1 c105
      exact jr_sub [0] rfl k
    · have k := k.2 c105
      refine jr_iconst (v := 1) dX7_read_108 (by decide) ?_
      refine jr_goto (tgt := 113) dX7_read_109 (by decide) ?_
      exact jr_sub [0] rfl k
set_option maxRecDepth 20000 in
theorem bX7_read_112 {g : jG} {d : Nat} {hs : jH} {P : jO → jH → Prop} {x0 : Nat} {h : jH} (k : J g mX7_read (d + 1) hs P 113 [(0, .ref x0)] [.int 0] h) : J g mX7_read (d + 1) hs P 112 [(0, .ref x0)] [] h := by
  refine jr_iconst (v := 0) dX7_read_112 (by decide) ?_
  exact jr_sub [0] rfl k
set_option maxRecDepth 20000 in
theorem bX7_read_113 {g : jG} {d : Nat} {hs : jH} {P : jO → jH → Prop} {x0 : Nat} {s0 : Int32} {h : jH} (k : ∃ fs1 : List Value, h.1 x0 = some (.inr (7, fs1)) ∧ ∃ v4 : Nat, fs1[0]? = some (.ref v4) ∧ ∃ fs5 : List Value, h.1 v4 = some (.inr (9, fs5)) ∧ 2 < fs5.length ∧ (∀ h8 : jH, h8 = jset h v4 (.inr (9, fs5.set 2 (.int 1))) → J g mX7_read (d + 1) hs P 125 [(0, .ref x0), (3, .int s0), (4, .int 0)] [] h8)) : J g mX7_read (d + 1) hs P 113 [(0, .ref x0)] [.int s0] h := by
  refine jr_istore_n (lv' := [(3, .int s0), (0, .ref x0)]) dX7_read_113 rfl (by decide) rfl ?_
  refine jr_aload_n 1 dX7_read_114 rfl rfl ?_
  obtain ⟨fs1, e2, v4, e3, k⟩ := k
  refine jr_get jf_X7_12 dX7_read_115 e2 e3 ?_
  refine jr_iconst (v := 1) dX7_read_118 (by decide) ?_
  obtain ⟨fs5, e6, e7, k⟩ := k
  refine jr_putE jp_X7_57 dX7_read_119 e6 e7 rfl rfl (fun h8 eh9 => ?_)
  have k := k h8 eh9
  refine jr_iconst (v := 0) dX7_read_122 (by decide) ?_
  refine jr_istore (lv' := [(4, .int 0), (3, .int s0), (0, .ref x0)]) dX7_read_123 (by decide) rfl ?_
  exact jr_sub [2, 1, 0] rfl k
set_option maxRecDepth 20000 in
theorem bX7_read_125 {g : jG} {d : Nat} {hs : jH} {P : jO → jH → Prop} {x0 : Nat} {x3 : Int32} {x4 : Int32} {h : jH} (k : (x4 < 900 → (x3 = 0 → (x3 = 0 ∨ x3 = 1) ∧ P (.inl (some (.int x3))) h) ∧ (¬ x3 = 0 → ∃ fs1 : List Value, h.1 x0 = some (.inr (7, fs1)) ∧ ∃ v4 : Int32, fs1[5]? = some (.int v4) ∧ (v4 = 0 → (x3 = 0 ∨ x3 = 1) ∧ P (.inl (some (.int x3))) h) ∧ (¬ v4 = 0 → ∃ fs5 : List Value, h.1 x0 = some (.inr (7, fs5)) ∧ ∃ v8 : Int32, fs5[5]? = some (.int v8) ∧ ∃ fs11 : List Value, h.1 x0 = some (.inr (7, fs11)) ∧ Con g mX7_line d [.ref x0, .int v8] h (jPi (fun (r9 : Int32) (h10 : jH) => (r9 = 0 → J g mX7_read (d + 1) hs P 168 [(0, .ref x0), (4, .int x4)] [] h10) ∧ (¬ r9 = 0 → ∃ fs15 : List Value, h10.1 x0 = some (.inr (7, fs15)) ∧ Con g mX7_expect d [.ref x0, .int 59] h10 (jPi (fun (r13 : Int32) (h14 : jH) => (r13 = 0 → J g mX7_read (d + 1) hs P 168 [(0, .ref x0), (4, .int x4)] [] h14) ∧ (¬ r13 = 0 → J g mX7_read (d + 1) hs P 169 [(0, .ref x0), (4, .int x4)] [.int 1] h14)) (fun E h' => P (.inr E) h')))) (fun E h' => P (.inr E) h'))))) ∧ (¬ x4 < 900 → (x3 = 0 ∨ x3 = 1) ∧ P (.inl (some (.int x3))) h)) : J g mX7_read (d + 1) hs P 125 [(0, .ref x0), (3, .int x3), (4, .int x4)] [] h := by
  refine jr_iload 2 dX7_read_125 rfl ?_
  refine jr_sipush (v := 900) dX7_read_127 (by decide) ?_
  refine jr_icmp_ge (tgt := 189) dX7_read_130 (by decide) (fun c130 => ?_) (fun c130 => ?_)
  · have k := k.2 c130
    refine jr_iload_n 1 dX7_read_189 rfl rfl ?_
    exact jr_iret (ty := .boolean) rfl (jz_n k.1) dX7_read_190 k.2
  · have k := k.1 c130
    refine jr_iload_n 1 dX7_read_133 rfl rfl ?_
    refine jr_if_eq (tgt := 189) dX7_read_134 (by decide) (fun c134 => ?_) (fun c134 => ?_)
    · have k := k.1 c134
      refine jr_iload_n 1 dX7_read_189 rfl rfl ?_
      exact jr_iret (ty := .boolean) rfl (jz_n k.1) dX7_read_190 k.2
    · have k := k.2 c134
      refine jr_aload_n 0 dX7_read_137 rfl rfl ?_
      obtain ⟨fs1, e2, v4, e3, k⟩ := k
      refine jr_get jf_X7_50 dX7_read_138 e2 e3 ?_
      refine jr_if_eq (tgt := 189) dX7_read_141 (by decide) (fun c141 => ?_) (fun c141 => ?_)
      · have k := k.1 c141
        refine jr_iload_n 1 dX7_read_189 rfl rfl ?_
        exact jr_iret (ty := .boolean) rfl (jz_n k.1) dX7_read_190 k.2
      · have k := k.2 c141
        refine jr_aload_n 0 dX7_read_144 rfl rfl ?_
        refine jr_aload_n 0 dX7_read_145 rfl rfl ?_
        obtain ⟨fs5, e6, v8, e7, k⟩ := k
        refine jr_get jf_X7_50 dX7_read_146 e6 e7 ?_
        obtain ⟨fs11, e12, k⟩ := k
        refine jr_cVi (As := [.int v8]) jl_X7_60 km_X7_line rfl rfl dX7_read_149 e12 (Nat.le_of_ble_eq_true rfl) k (fun r9 h10 k => ?_)
        refine jr_if_eq (tgt := 168) dX7_read_152 (by decide) (fun c152 => ?_) (fun c152 => ?_)
        · have k := k.1 c152
          exact jr_sub [0, 2] rfl k
        · have k := k.2 c152
          refine jr_aload_n 0 dX7_read_155 rfl rfl ?_
          refine jr_bipush (v := 59) dX7_read_156 (by decide) ?_
          obtain ⟨fs15, e16, k⟩ := k
          refine jr_cVi (As := [.int 59]) jl_X7_46 km_X7_expect rfl rfl dX7_read_158 e16 (Nat.le_of_ble_eq_true rfl) k (fun r13 h14 k => ?_)
          refine jr_if_eq (tgt := 168) dX7_read_161 (by decide) (fun c161 => ?_) (fun c161 => ?_)
          · have k := k.1 c161
            exact jr_sub [0, 2] rfl k
          · have k := k.2 c161
            refine jr_iconst (v := 1) dX7_read_164 (by decide) ?_
            refine jr_goto (tgt := 169) dX7_read_165 (by decide) ?_
            exact jr_sub [0, 2] rfl k
set_option maxRecDepth 20000 in
theorem bX7_read_168 {g : jG} {d : Nat} {hs : jH} {P : jO → jH → Prop} {x0 : Nat} {x4 : Int32} {h : jH} (k : J g mX7_read (d + 1) hs P 169 [(0, .ref x0), (4, .int x4)] [.int 0] h) : J g mX7_read (d + 1) hs P 168 [(0, .ref x0), (4, .int x4)] [] h := by
  refine jr_iconst (v := 0) dX7_read_168 (by decide) ?_
  exact jr_sub [0, 1] rfl k
set_option maxRecDepth 20000 in
theorem bX7_read_169 {g : jG} {d : Nat} {hs : jH} {P : jO → jH → Prop} {x0 : Nat} {x4 : Int32} {s0 : Int32} {h : jH} (k : ∃ fs1 : List Value, h.1 x0 = some (.inr (7, fs1)) ∧ ∃ v4 : Nat, fs1[0]? = some (.ref v4) ∧ ∃ fs5 : List Value, h.1 v4 = some (.inr (9, fs5)) ∧ ∃ v8 : Int32, fs5[2]? = some (.int v8) ∧ ∃ fs9 : List Value, h.1 v4 = some (.inr (9, fs9)) ∧ 2 < fs9.length ∧ (∀ h12 : jH, h12 = jset h v4 (.inr (9, fs9.set 2 (.int (v8 + 1)))) → J g mX7_read (d + 1) hs P 125 [(0, .ref x0), (3, .int s0), (4, .int (x4 + 1))] [] h12)) : J g mX7_read (d + 1) hs P 169 [(0, .ref x0), (4, .int x4)] [.int s0] h := by
  refine jr_istore_n (lv' := [(3, .int s0), (0, .ref x0), (4, .int x4)]) dX7_read_169 rfl (by decide) rfl ?_
  refine jr_aload_n 1 dX7_read_170 rfl rfl ?_
  obtain ⟨fs1, e2, v4, e3, k⟩ := k
  refine jr_get jf_X7_12 dX7_read_171 e2 e3 ?_
  refine jr_dup dX7_read_174 rfl ?_
  obtain ⟨fs5, e6, v8, e7, k⟩ := k
  refine jr_get jf_X7_57 dX7_read_175 e6 e7 ?_
  refine jr_iconst (v := 1) dX7_read_178 (by decide) ?_
  refine jr_iadd dX7_read_179 ?_
  obtain ⟨fs9, e10, e11, k⟩ := k
  refine jr_putE jp_X7_57 dX7_read_180 e10 e11 rfl rfl (fun h12 eh13 => ?_)
  have k := k h12 eh13
  refine jr_iinc (v := (x4 + 1)) (lv' := [(4, .int (x4 + 1)), (3, .int s0), (0, .ref x0)]) 2 dX7_read_183 rfl rfl (by decide) rfl ?_
  refine jr_goto (tgt := 125) dX7_read_186 (by decide) ?_
  exact jr_sub [2, 1, 0] rfl k
set_option maxRecDepth 20000 in
theorem bX7_line_0 {g : jG} {d : Nat} {hs : jH} {P : jO → jH → Prop} {x0 : Nat} {x1 : Int32} {h : jH} (k : (x1 = 129 → ∃ fs1 : List Value, h.1 x0 = some (.inr (7, fs1)) ∧ ∃ v4 : Nat, fs1[0]? = some (.ref v4) ∧ ∃ fs5 : List Value, h.1 v4 = some (.inr (9, fs5)) ∧ ∃ v8 : Nat, fs5[0]? = some (.ref v8) ∧ ∃ fs11 : List Value, h.1 x0 = some (.inr (7, fs11)) ∧ Con g mX7_home d [.ref x0, .ref v8] h (jPi (fun (r9 : Int32) (h10 : jH) => (r9 = 0 ∨ r9 = 1) ∧ P (.inl (some (.int r9))) h10) (fun E h' => P (.inr E) h'))) ∧ (¬ x1 = 129 → (x1 = 130 → ∃ fs15 : List Value, h.1 x0 = some (.inr (7, fs15)) ∧ Con g mX7_skip d [.ref x0] h (jPv (fun (h14 : jH) => ∃ fs17 : List Value, h14.1 x0 = some (.inr (7, fs17)) ∧ ∃ v20 : Nat, fs17[0]? = some (.ref v20) ∧ ∃ fs21 : List Value, h14.1 v20 = some (.inr (9, fs21)) ∧ ∃ v24 : Nat, fs21[0]? = some (.ref v24) ∧ ∃ fs27 : List Value, h14.1 x0 = some (.inr (7, fs27)) ∧ Con g mX7_numberTo d [.ref x0, .int 999] h14 (jPi (fun (r25 : Int32) (h26 : jH) => ∃ fs29 : List Value, h26.1 v24 = some (.inr (6, fs29)) ∧ 2 < fs29.length ∧ (∀ h32 : jH, h32 = jset h26 v24 (.inr (6, fs29.set 2 (.int r25))) → ∃ fs34 : List Value, h32.1 x0 = some (.inr (7, fs34)) ∧ ∃ v37 : Nat, fs34[0]? = some (.ref v37) ∧ ∃ fs38 : List Value, h32.1 v37 = some (.inr (9, fs38)) ∧ ∃ v41 : Nat, fs38[0]? = some (.ref v41) ∧ ∃ fs42 : List Value, h32.1 v41 = some (.inr (6, fs42)) ∧ ∃ v45 : Int32, fs42[2]? = some (.int v45) ∧ (v45 = (-1) → P (.inl (some (.int 0))) h32) ∧ (¬ v45 = (-1) → P (.inl (some (.int 1))) h32))) (fun E h' => P (.inr E) h'))) (fun E h' => P (.inr E) h'))) ∧ (¬ x1 = 130 → (x1 = 131 → ∃ fs48 : List Value, h.1 x0 = some (.inr (7, fs48)) ∧ Con g mX7_fail d [.ref x0, .int 2] h (jPi (fun (r46 : Int32) (h47 : jH) => (r46 = 0 ∨ r46 = 1) ∧ P (.inl (some (.int r46))) h47) (fun E h' => P (.inr E) h'))) ∧ (¬ x1 = 131 → (x1 = 132 → ∃ fs52 : List Value, h.1 x0 = some (.inr (7, fs52)) ∧ Con g mX7_fail d [.ref x0, .int 2] h (jPi (fun (r50 : Int32) (h51 : jH) => (r50 = 0 ∨ r50 = 1) ∧ P (.inl (some (.int r50))) h51) (fun E h' => P (.inr E) h'))) ∧ (¬ x1 = 132 → (x1 = 133 → ∃ fs56 : List Value, h.1 x0 = some (.inr (7, fs56)) ∧ Con g mX7_fail d [.ref x0, .int 2] h (jPi (fun (r54 : Int32) (h55 : jH) => (r54 = 0 ∨ r54 = 1) ∧ P (.inl (some (.int r54))) h55) (fun E h' => P (.inr E) h'))) ∧ (¬ x1 = 133 → (x1 = 134 → ∃ fs60 : List Value, h.1 x0 = some (.inr (7, fs60)) ∧ Con g mX7_fail d [.ref x0, .int 2] h (jPi (fun (r58 : Int32) (h59 : jH) => (r58 = 0 ∨ r58 = 1) ∧ P (.inl (some (.int r58))) h59) (fun E h' => P (.inr E) h'))) ∧ (¬ x1 = 134 → (x1 = 135 → ∃ fs64 : List Value, h.1 x0 = some (.inr (7, fs64)) ∧ Con g mX7_fail d [.ref x0, .int 2] h (jPi (fun (r62 : Int32) (h63 : jH) => (r62 = 0 ∨ r62 = 1) ∧ P (.inl (some (.int r62))) h63) (fun E h' => P (.inr E) h'))) ∧ (¬ x1 = 135 → (x1 = 136 → ∃ fs68 : List Value, h.1 x0 = some (.inr (7, fs68)) ∧ Con g mX7_fail d [.ref x0, .int 2] h (jPi (fun (r66 : Int32) (h67 : jH) => (r66 = 0 ∨ r66 = 1) ∧ P (.inl (some (.int r66))) h67) (fun E h' => P (.inr E) h'))) ∧ (¬ x1 = 136 → (x1 = 137 → ∃ fs72 : List Value, h.1 x0 = some (.inr (7, fs72)) ∧ Con g mX7_fail d [.ref x0, .int 2] h (jPi (fun (r70 : Int32) (h71 : jH) => (r70 = 0 ∨ r70 = 1) ∧ P (.inl (some (.int r70))) h71) (fun E h' => P (.inr E) h'))) ∧ (¬ x1 = 137 → (x1 = 138 → ∃ fs76 : List Value, h.1 x0 = some (.inr (7, fs76)) ∧ Con g mX7_fail d [.ref x0, .int 2] h (jPi (fun (r74 : Int32) (h75 : jH) => (r74 = 0 ∨ r74 = 1) ∧ P (.inl (some (.int r74))) h75) (fun E h' => P (.inr E) h'))) ∧ (¬ x1 = 138 → (x1 = 139 → ∃ fs80 : List Value, h.1 x0 = some (.inr (7, fs80)) ∧ Con g mX7_fail d [.ref x0, .int 2] h (jPi (fun (r78 : Int32) (h79 : jH) => (r78 = 0 ∨ r78 = 1) ∧ P (.inl (some (.int r78))) h79) (fun E h' => P (.inr E) h'))) ∧ (¬ x1 = 139 → (x1 = 140 → ∃ fs84 : List Value, h.1 x0 = some (.inr (7, fs84)) ∧ Con g mX7_fail d [.ref x0, .int 2] h (jPi (fun (r82 : Int32) (h83 : jH) => (r82 = 0 ∨ r82 = 1) ∧ P (.inl (some (.int r82))) h83) (fun E h' => P (.inr E) h'))) ∧ (¬ x1 = 140 → (x1 = 141 → ∃ fs88 : List Value, h.1 x0 = some (.inr (7, fs88)) ∧ Con g mX7_beginLaw d [.ref x0, .int 63] h (jPi (fun (r86 : Int32) (h87 : jH) => (r86 = 0 → P (.inl (some (.int 0))) h87) ∧ (¬ r86 = 0 → ∃ fs92 : List Value, h87.1 x0 = some (.inr (7, fs92)) ∧ Con g mX7_sum d [.ref x0, .int 0] h87 (jPi (fun (r90 : Int32) (h91 : jH) => (r90 = 0 → P (.inl (some (.int 0))) h91) ∧ (¬ r90 = 0 → ∃ fs96 : List Value, h91.1 x0 = some (.inr (7, fs96)) ∧ Con g mX7_keepLaw d [.ref x0, .int x1] h91 (jPi (fun (r94 : Int32) (h95 : jH) => (r94 = 0 → P (.inl (some (.int 0))) h95) ∧ (¬ r94 = 0 → P (.inl (some (.int 1))) h95)) (fun E h' => P (.inr E) h')))) (fun E h' => P (.inr E) h')))) (fun E h' => P (.inr E) h'))) ∧ (¬ x1 = 141 → (x1 = 142 → ∃ fs100 : List Value, h.1 x0 = some (.inr (7, fs100)) ∧ Con g mX7_beginLaw d [.ref x0, .int 7] h (jPi (fun (r98 : Int32) (h99 : jH) => (r98 = 0 → P (.inl (some (.int 0))) h99) ∧ (¬ r98 = 0 → ∃ fs104 : List Value, h99.1 x0 = some (.inr (7, fs104)) ∧ Con g mX7_sum d [.ref x0, .int 0] h99 (jPi (fun (r102 : Int32) (h103 : jH) => (r102 = 0 → P (.inl (some (.int 0))) h103) ∧ (¬ r102 = 0 → ∃ fs108 : List Value, h103.1 x0 = some (.inr (7, fs108)) ∧ Con g mX7_keepLaw d [.ref x0, .int x1] h103 (jPi (fun (r106 : Int32) (h107 : jH) => (r106 = 0 → P (.inl (some (.int 0))) h107) ∧ (¬ r106 = 0 → P (.inl (some (.int 1))) h107)) (fun E h' => P (.inr E) h')))) (fun E h' => P (.inr E) h')))) (fun E h' => P (.inr E) h'))) ∧ (¬ x1 = 142 → (x1 = 143 → ∃ fs112 : List Value, h.1 x0 = some (.inr (7, fs112)) ∧ Con g mX7_beginLaw d [.ref x0, .int 79] h (jPi (fun (r110 : Int32) (h111 : jH) => (r110 = 0 → P (.inl (some (.int 0))) h111) ∧ (¬ r110 = 0 → ∃ fs116 : List Value, h111.1 x0 = some (.inr (7, fs116)) ∧ Con g mX7_truth d [.ref x0, .int 0] h111 (jPi (fun (r114 : Int32) (h115 : jH) => (r114 = 0 → P (.inl (some (.int 0))) h115) ∧ (¬ r114 = 0 → ∃ fs120 : List Value, h115.1 x0 = some (.inr (7, fs120)) ∧ Con g mX7_keepLaw d [.ref x0, .int x1] h115 (jPi (fun (r118 : Int32) (h119 : jH) => (r118 = 0 → P (.inl (some (.int 0))) h119) ∧ (¬ r118 = 0 → P (.inl (some (.int 1))) h119)) (fun E h' => P (.inr E) h')))) (fun E h' => P (.inr E) h')))) (fun E h' => P (.inr E) h'))) ∧ (¬ x1 = 143 → (x1 = 144 → ∃ fs124 : List Value, h.1 x0 = some (.inr (7, fs124)) ∧ Con g mX7_skip d [.ref x0] h (jPv (fun (h123 : jH) => ∃ fs126 : List Value, h123.1 x0 = some (.inr (7, fs126)) ∧ ∃ v129 : Nat, fs126[0]? = some (.ref v129) ∧ ∃ fs132 : List Value, h123.1 x0 = some (.inr (7, fs132)) ∧ Con g mX7_numberTo d [.ref x0, .int 999] h123 (jPi (fun (r130 : Int32) (h131 : jH) => ∃ fs134 : List Value, h131.1 v129 = some (.inr (9, fs134)) ∧ 3 < fs134.length ∧ (∀ h137 : jH, h137 = jset h131 v129 (.inr (9, fs134.set 3 (.int r130))) → ∃ fs139 : List Value, h137.1 x0 = some (.inr (7, fs139)) ∧ ∃ v142 : Nat, fs139[0]? = some (.ref v142) ∧ ∃ fs143 : List Value, h137.1 v142 = some (.inr (9, fs143)) ∧ ∃ v146 : Int32, fs143[3]? = some (.int v146) ∧ (v146 = (-1) → P (.inl (some (.int 0))) h137) ∧ (¬ v146 = (-1) → P (.inl (some (.int 1))) h137))) (fun E h' => P (.inr E) h'))) (fun E h' => P (.inr E) h'))) ∧ (¬ x1 = 144 → ∃ fs149 : List Value, h.1 x0 = some (.inr (7, fs149)) ∧ Con g mX7_fail d [.ref x0, .int 2] h (jPi (fun (r147 : Int32) (h148 : jH) => (r147 = 0 ∨ r147 = 1) ∧ P (.inl (some (.int r147))) h148) (fun E h' => P (.inr E) h'))))))))))))))))))) : J g mX7_line (d + 1) hs P 0 [(0, .ref x0), (1, .int x1)] [] h := by
  refine jr_iload_n 1 dX7_line_0 rfl rfl ?_
  by_cases c1_0 : x1 = 129
  · have k := k.1 c1_0
    refine jr_tableIn (tgt := 80) dX7_line_1 (by rw [c1_0]; decide) (by rw [c1_0]; decide) (by rw [c1_0]; rfl) (by decide) ?_
    refine jr_aload_n 0 dX7_line_80 rfl rfl ?_
    refine jr_aload_n 0 dX7_line_81 rfl rfl ?_
    obtain ⟨fs1, e2, v4, e3, k⟩ := k
    refine jr_get jf_X7_12 dX7_line_82 e2 e3 ?_
    obtain ⟨fs5, e6, v8, e7, k⟩ := k
    refine jr_get jf_X7_63 dX7_line_85 e6 e7 ?_
    obtain ⟨fs11, e12, k⟩ := k
    refine jr_cVi (As := [.ref v8]) jl_X7_67 km_X7_home rfl rfl dX7_line_88 e12 (Nat.le_of_ble_eq_true rfl) k (fun r9 h10 k => ?_)
    exact jr_iret (ty := .boolean) rfl (jz_n k.1) dX7_line_91 k.2
  · have k := k.2 c1_0
    by_cases c1_1 : x1 = 130
    · have k := k.1 c1_1
      refine jr_tableIn (tgt := 220) dX7_line_1 (by rw [c1_1]; decide) (by rw [c1_1]; decide) (by rw [c1_1]; rfl) (by decide) ?_
      refine jr_aload_n 0 dX7_line_220 rfl rfl ?_
      obtain ⟨fs15, e16, k⟩ := k
      refine jr_cVv (As := []) jl_X7_43 km_X7_skip rfl rfl dX7_line_221 e16 (Nat.le_of_ble_eq_true rfl) k (fun h14 k => ?_)
      refine jr_aload_n 0 dX7_line_224 rfl rfl ?_
      obtain ⟨fs17, e18, v20, e19, k⟩ := k
      refine jr_get jf_X7_12 dX7_line_225 e18 e19 ?_
      obtain ⟨fs21, e22, v24, e23, k⟩ := k
      refine jr_get jf_X7_63 dX7_line_228 e22 e23 ?_
      refine jr_aload_n 0 dX7_line_231 rfl rfl ?_
      refine jr_sipush (v := 999) dX7_line_232 (by decide) ?_
      obtain ⟨fs27, e28, k⟩ := k
      refine jr_cVi (As := [.int 999]) jl_X7_83 km_X7_numberTo rfl rfl dX7_line_235 e28 (Nat.le_of_ble_eq_true rfl) k (fun r25 h26 k => ?_)
      obtain ⟨fs29, e30, e31, k⟩ := k
      refine jr_putE jp_X7_90 dX7_line_238 e30 e31 rfl rfl (fun h32 eh33 => ?_)
      have k := k h32 eh33
      refine jr_aload_n 0 dX7_line_241 rfl rfl ?_
      obtain ⟨fs34, e35, v37, e36, k⟩ := k
      refine jr_get jf_X7_12 dX7_line_242 e35 e36 ?_
      obtain ⟨fs38, e39, v41, e40, k⟩ := k
      refine jr_get jf_X7_63 dX7_line_245 e39 e40 ?_
      obtain ⟨fs42, e43, v45, e44, k⟩ := k
      refine jr_get jf_X7_90 dX7_line_248 e43 e44 ?_
      refine jr_iconst (v := (-1)) dX7_line_251 (by decide) ?_
      refine jr_icmp_eq (tgt := 259) dX7_line_252 (by decide) (fun c252 => ?_) (fun c252 => ?_)
      · have k := k.1 c252
        refine jr_iconst (v := 0) dX7_line_259 (by decide) ?_
        exact jr_iret (ty := .boolean) rfl rfl dX7_line_260 k
      · have k := k.2 c252
        refine jr_iconst (v := 1) dX7_line_255 (by decide) ?_
        refine jr_goto (tgt := 260) dX7_line_256 (by decide) ?_
        exact jr_iret (ty := .boolean) rfl rfl dX7_line_260 k
    · have k := k.2 c1_1
      by_cases c1_2 : x1 = 131
      · have k := k.1 c1_2
        refine jr_tableIn (tgt := 261) dX7_line_1 (by rw [c1_2]; decide) (by rw [c1_2]; decide) (by rw [c1_2]; rfl) (by decide) ?_
        refine jr_aload_n 0 dX7_line_261 rfl rfl ?_
        refine jr_iconst (v := 2) dX7_line_262 (by decide) ?_
        obtain ⟨fs48, e49, k⟩ := k
        refine jr_cVi (As := [.int 2]) jl_X7_95 km_X7_fail rfl rfl dX7_line_263 e49 (Nat.le_of_ble_eq_true rfl) k (fun r46 h47 k => ?_)
        exact jr_iret (ty := .boolean) rfl (jz_n k.1) dX7_line_266 k.2
      · have k := k.2 c1_2
        by_cases c1_3 : x1 = 132
        · have k := k.1 c1_3
          refine jr_tableIn (tgt := 261) dX7_line_1 (by rw [c1_3]; decide) (by rw [c1_3]; decide) (by rw [c1_3]; rfl) (by decide) ?_
          refine jr_aload_n 0 dX7_line_261 rfl rfl ?_
          refine jr_iconst (v := 2) dX7_line_262 (by decide) ?_
          obtain ⟨fs52, e53, k⟩ := k
          refine jr_cVi (As := [.int 2]) jl_X7_95 km_X7_fail rfl rfl dX7_line_263 e53 (Nat.le_of_ble_eq_true rfl) k (fun r50 h51 k => ?_)
          exact jr_iret (ty := .boolean) rfl (jz_n k.1) dX7_line_266 k.2
        · have k := k.2 c1_3
          by_cases c1_4 : x1 = 133
          · have k := k.1 c1_4
            refine jr_tableIn (tgt := 261) dX7_line_1 (by rw [c1_4]; decide) (by rw [c1_4]; decide) (by rw [c1_4]; rfl) (by decide) ?_
            refine jr_aload_n 0 dX7_line_261 rfl rfl ?_
            refine jr_iconst (v := 2) dX7_line_262 (by decide) ?_
            obtain ⟨fs56, e57, k⟩ := k
            refine jr_cVi (As := [.int 2]) jl_X7_95 km_X7_fail rfl rfl dX7_line_263 e57 (Nat.le_of_ble_eq_true rfl) k (fun r54 h55 k => ?_)
            exact jr_iret (ty := .boolean) rfl (jz_n k.1) dX7_line_266 k.2
          · have k := k.2 c1_4
            by_cases c1_5 : x1 = 134
            · have k := k.1 c1_5
              refine jr_tableIn (tgt := 261) dX7_line_1 (by rw [c1_5]; decide) (by rw [c1_5]; decide) (by rw [c1_5]; rfl) (by decide) ?_
              refine jr_aload_n 0 dX7_line_261 rfl rfl ?_
              refine jr_iconst (v := 2) dX7_line_262 (by decide) ?_
              obtain ⟨fs60, e61, k⟩ := k
              refine jr_cVi (As := [.int 2]) jl_X7_95 km_X7_fail rfl rfl dX7_line_263 e61 (Nat.le_of_ble_eq_true rfl) k (fun r58 h59 k => ?_)
              exact jr_iret (ty := .boolean) rfl (jz_n k.1) dX7_line_266 k.2
            · have k := k.2 c1_5
              by_cases c1_6 : x1 = 135
              · have k := k.1 c1_6
                refine jr_tableIn (tgt := 261) dX7_line_1 (by rw [c1_6]; decide) (by rw [c1_6]; decide) (by rw [c1_6]; rfl) (by decide) ?_
                refine jr_aload_n 0 dX7_line_261 rfl rfl ?_
                refine jr_iconst (v := 2) dX7_line_262 (by decide) ?_
                obtain ⟨fs64, e65, k⟩ := k
                refine jr_cVi (As := [.int 2]) jl_X7_95 km_X7_fail rfl rfl dX7_line_263 e65 (Nat.le_of_ble_eq_true rfl) k (fun r62 h63 k => ?_)
                exact jr_iret (ty := .boolean) rfl (jz_n k.1) dX7_line_266 k.2
              · have k := k.2 c1_6
                by_cases c1_7 : x1 = 136
                · have k := k.1 c1_7
                  refine jr_tableIn (tgt := 261) dX7_line_1 (by rw [c1_7]; decide) (by rw [c1_7]; decide) (by rw [c1_7]; rfl) (by decide) ?_
                  refine jr_aload_n 0 dX7_line_261 rfl rfl ?_
                  refine jr_iconst (v := 2) dX7_line_262 (by decide) ?_
                  obtain ⟨fs68, e69, k⟩ := k
                  refine jr_cVi (As := [.int 2]) jl_X7_95 km_X7_fail rfl rfl dX7_line_263 e69 (Nat.le_of_ble_eq_true rfl) k (fun r66 h67 k => ?_)
                  exact jr_iret (ty := .boolean) rfl (jz_n k.1) dX7_line_266 k.2
                · have k := k.2 c1_7
                  by_cases c1_8 : x1 = 137
                  · have k := k.1 c1_8
                    refine jr_tableIn (tgt := 261) dX7_line_1 (by rw [c1_8]; decide) (by rw [c1_8]; decide) (by rw [c1_8]; rfl) (by decide) ?_
                    refine jr_aload_n 0 dX7_line_261 rfl rfl ?_
                    refine jr_iconst (v := 2) dX7_line_262 (by decide) ?_
                    obtain ⟨fs72, e73, k⟩ := k
                    refine jr_cVi (As := [.int 2]) jl_X7_95 km_X7_fail rfl rfl dX7_line_263 e73 (Nat.le_of_ble_eq_true rfl) k (fun r70 h71 k => ?_)
                    exact jr_iret (ty := .boolean) rfl (jz_n k.1) dX7_line_266 k.2
                  · have k := k.2 c1_8
                    by_cases c1_9 : x1 = 138
                    · have k := k.1 c1_9
                      refine jr_tableIn (tgt := 261) dX7_line_1 (by rw [c1_9]; decide) (by rw [c1_9]; decide) (by rw [c1_9]; rfl) (by decide) ?_
                      refine jr_aload_n 0 dX7_line_261 rfl rfl ?_
                      refine jr_iconst (v := 2) dX7_line_262 (by decide) ?_
                      obtain ⟨fs76, e77, k⟩ := k
                      refine jr_cVi (As := [.int 2]) jl_X7_95 km_X7_fail rfl rfl dX7_line_263 e77 (Nat.le_of_ble_eq_true rfl) k (fun r74 h75 k => ?_)
                      exact jr_iret (ty := .boolean) rfl (jz_n k.1) dX7_line_266 k.2
                    · have k := k.2 c1_9
                      by_cases c1_10 : x1 = 139
                      · have k := k.1 c1_10
                        refine jr_tableIn (tgt := 261) dX7_line_1 (by rw [c1_10]; decide) (by rw [c1_10]; decide) (by rw [c1_10]; rfl) (by decide) ?_
                        refine jr_aload_n 0 dX7_line_261 rfl rfl ?_
                        refine jr_iconst (v := 2) dX7_line_262 (by decide) ?_
                        obtain ⟨fs80, e81, k⟩ := k
                        refine jr_cVi (As := [.int 2]) jl_X7_95 km_X7_fail rfl rfl dX7_line_263 e81 (Nat.le_of_ble_eq_true rfl) k (fun r78 h79 k => ?_)
                        exact jr_iret (ty := .boolean) rfl (jz_n k.1) dX7_line_266 k.2
                      · have k := k.2 c1_10
                        by_cases c1_11 : x1 = 140
                        · have k := k.1 c1_11
                          refine jr_tableIn (tgt := 261) dX7_line_1 (by rw [c1_11]; decide) (by rw [c1_11]; decide) (by rw [c1_11]; rfl) (by decide) ?_
                          refine jr_aload_n 0 dX7_line_261 rfl rfl ?_
                          refine jr_iconst (v := 2) dX7_line_262 (by decide) ?_
                          obtain ⟨fs84, e85, k⟩ := k
                          refine jr_cVi (As := [.int 2]) jl_X7_95 km_X7_fail rfl rfl dX7_line_263 e85 (Nat.le_of_ble_eq_true rfl) k (fun r82 h83 k => ?_)
                          exact jr_iret (ty := .boolean) rfl (jz_n k.1) dX7_line_266 k.2
                        · have k := k.2 c1_11
                          by_cases c1_12 : x1 = 141
                          · have k := k.1 c1_12
                            refine jr_tableIn (tgt := 92) dX7_line_1 (by rw [c1_12]; decide) (by rw [c1_12]; decide) (by rw [c1_12]; rfl) (by decide) ?_
                            refine jr_aload_n 0 dX7_line_92 rfl rfl ?_
                            refine jr_bipush (v := 63) dX7_line_93 (by decide) ?_
                            obtain ⟨fs88, e89, k⟩ := k
                            refine jr_cVi (As := [.int 63]) jl_X7_71 km_X7_beginLaw rfl rfl dX7_line_95 e89 (Nat.le_of_ble_eq_true rfl) k (fun r86 h87 k => ?_)
                            refine jr_if_eq (tgt := 121) dX7_line_98 (by decide) (fun c98 => ?_) (fun c98 => ?_)
                            · have k := k.1 c98
                              refine jr_iconst (v := 0) dX7_line_121 (by decide) ?_
                              exact jr_iret (ty := .boolean) rfl rfl dX7_line_122 k
                            · have k := k.2 c98
                              refine jr_aload_n 0 dX7_line_101 rfl rfl ?_
                              refine jr_iconst (v := 0) dX7_line_102 (by decide) ?_
                              obtain ⟨fs92, e93, k⟩ := k
                              refine jr_cVi (As := [.int 0]) jl_X7_74 km_X7_sum rfl rfl dX7_line_103 e93 (Nat.le_of_ble_eq_true rfl) k (fun r90 h91 k => ?_)
                              refine jr_if_eq (tgt := 121) dX7_line_106 (by decide) (fun c106 => ?_) (fun c106 => ?_)
                              · have k := k.1 c106
                                refine jr_iconst (v := 0) dX7_line_121 (by decide) ?_
                                exact jr_iret (ty := .boolean) rfl rfl dX7_line_122 k
                              · have k := k.2 c106
                                refine jr_aload_n 0 dX7_line_109 rfl rfl ?_
                                refine jr_iload_n 1 dX7_line_110 rfl rfl ?_
                                obtain ⟨fs96, e97, k⟩ := k
                                refine jr_cVi (As := [.int x1]) jl_X7_77 km_X7_keepLaw rfl rfl dX7_line_111 e97 (Nat.le_of_ble_eq_true rfl) k (fun r94 h95 k => ?_)
                                refine jr_if_eq (tgt := 121) dX7_line_114 (by decide) (fun c114 => ?_) (fun c114 => ?_)
                                · have k := k.1 c114
                                  refine jr_iconst (v := 0) dX7_line_121 (by decide) ?_
                                  exact jr_iret (ty := .boolean) rfl rfl dX7_line_122 k
                                · have k := k.2 c114
                                  refine jr_iconst (v := 1) dX7_line_117 (by decide) ?_
                                  refine jr_goto (tgt := 122) dX7_line_118 (by decide) ?_
                                  exact jr_iret (ty := .boolean) rfl rfl dX7_line_122 k
                          · have k := k.2 c1_12
                            by_cases c1_13 : x1 = 142
                            · have k := k.1 c1_13
                              refine jr_tableIn (tgt := 123) dX7_line_1 (by rw [c1_13]; decide) (by rw [c1_13]; decide) (by rw [c1_13]; rfl) (by decide) ?_
                              refine jr_aload_n 0 dX7_line_123 rfl rfl ?_
                              refine jr_bipush (v := 7) dX7_line_124 (by decide) ?_
                              obtain ⟨fs100, e101, k⟩ := k
                              refine jr_cVi (As := [.int 7]) jl_X7_71 km_X7_beginLaw rfl rfl dX7_line_126 e101 (Nat.le_of_ble_eq_true rfl) k (fun r98 h99 k => ?_)
                              refine jr_if_eq (tgt := 152) dX7_line_129 (by decide) (fun c129 => ?_) (fun c129 => ?_)
                              · have k := k.1 c129
                                refine jr_iconst (v := 0) dX7_line_152 (by decide) ?_
                                exact jr_iret (ty := .boolean) rfl rfl dX7_line_153 k
                              · have k := k.2 c129
                                refine jr_aload_n 0 dX7_line_132 rfl rfl ?_
                                refine jr_iconst (v := 0) dX7_line_133 (by decide) ?_
                                obtain ⟨fs104, e105, k⟩ := k
                                refine jr_cVi (As := [.int 0]) jl_X7_74 km_X7_sum rfl rfl dX7_line_134 e105 (Nat.le_of_ble_eq_true rfl) k (fun r102 h103 k => ?_)
                                refine jr_if_eq (tgt := 152) dX7_line_137 (by decide) (fun c137 => ?_) (fun c137 => ?_)
                                · have k := k.1 c137
                                  refine jr_iconst (v := 0) dX7_line_152 (by decide) ?_
                                  exact jr_iret (ty := .boolean) rfl rfl dX7_line_153 k
                                · have k := k.2 c137
                                  refine jr_aload_n 0 dX7_line_140 rfl rfl ?_
                                  refine jr_iload_n 1 dX7_line_141 rfl rfl ?_
                                  obtain ⟨fs108, e109, k⟩ := k
                                  refine jr_cVi (As := [.int x1]) jl_X7_77 km_X7_keepLaw rfl rfl dX7_line_142 e109 (Nat.le_of_ble_eq_true rfl) k (fun r106 h107 k => ?_)
                                  refine jr_if_eq (tgt := 152) dX7_line_145 (by decide) (fun c145 => ?_) (fun c145 => ?_)
                                  · have k := k.1 c145
                                    refine jr_iconst (v := 0) dX7_line_152 (by decide) ?_
                                    exact jr_iret (ty := .boolean) rfl rfl dX7_line_153 k
                                  · have k := k.2 c145
                                    refine jr_iconst (v := 1) dX7_line_148 (by decide) ?_
                                    refine jr_goto (tgt := 153) dX7_line_149 (by decide) ?_
                                    exact jr_iret (ty := .boolean) rfl rfl dX7_line_153 k
                            · have k := k.2 c1_13
                              by_cases c1_14 : x1 = 143
                              · have k := k.1 c1_14
                                refine jr_tableIn (tgt := 154) dX7_line_1 (by rw [c1_14]; decide) (by rw [c1_14]; decide) (by rw [c1_14]; rfl) (by decide) ?_
                                refine jr_aload_n 0 dX7_line_154 rfl rfl ?_
                                refine jr_bipush (v := 79) dX7_line_155 (by decide) ?_
                                obtain ⟨fs112, e113, k⟩ := k
                                refine jr_cVi (As := [.int 79]) jl_X7_71 km_X7_beginLaw rfl rfl dX7_line_157 e113 (Nat.le_of_ble_eq_true rfl) k (fun r110 h111 k => ?_)
                                refine jr_if_eq (tgt := 183) dX7_line_160 (by decide) (fun c160 => ?_) (fun c160 => ?_)
                                · have k := k.1 c160
                                  refine jr_iconst (v := 0) dX7_line_183 (by decide) ?_
                                  exact jr_iret (ty := .boolean) rfl rfl dX7_line_184 k
                                · have k := k.2 c160
                                  refine jr_aload_n 0 dX7_line_163 rfl rfl ?_
                                  refine jr_iconst (v := 0) dX7_line_164 (by decide) ?_
                                  obtain ⟨fs116, e117, k⟩ := k
                                  refine jr_cVi (As := [.int 0]) jl_X7_80 km_X7_truth rfl rfl dX7_line_165 e117 (Nat.le_of_ble_eq_true rfl) k (fun r114 h115 k => ?_)
                                  refine jr_if_eq (tgt := 183) dX7_line_168 (by decide) (fun c168 => ?_) (fun c168 => ?_)
                                  · have k := k.1 c168
                                    refine jr_iconst (v := 0) dX7_line_183 (by decide) ?_
                                    exact jr_iret (ty := .boolean) rfl rfl dX7_line_184 k
                                  · have k := k.2 c168
                                    refine jr_aload_n 0 dX7_line_171 rfl rfl ?_
                                    refine jr_iload_n 1 dX7_line_172 rfl rfl ?_
                                    obtain ⟨fs120, e121, k⟩ := k
                                    refine jr_cVi (As := [.int x1]) jl_X7_77 km_X7_keepLaw rfl rfl dX7_line_173 e121 (Nat.le_of_ble_eq_true rfl) k (fun r118 h119 k => ?_)
                                    refine jr_if_eq (tgt := 183) dX7_line_176 (by decide) (fun c176 => ?_) (fun c176 => ?_)
                                    · have k := k.1 c176
                                      refine jr_iconst (v := 0) dX7_line_183 (by decide) ?_
                                      exact jr_iret (ty := .boolean) rfl rfl dX7_line_184 k
                                    · have k := k.2 c176
                                      refine jr_iconst (v := 1) dX7_line_179 (by decide) ?_
                                      refine jr_goto (tgt := 184) dX7_line_180 (by decide) ?_
                                      exact jr_iret (ty := .boolean) rfl rfl dX7_line_184 k
                              · have k := k.2 c1_14
                                by_cases c1_15 : x1 = 144
                                · have k := k.1 c1_15
                                  refine jr_tableIn (tgt := 185) dX7_line_1 (by rw [c1_15]; decide) (by rw [c1_15]; decide) (by rw [c1_15]; rfl) (by decide) ?_
                                  refine jr_aload_n 0 dX7_line_185 rfl rfl ?_
                                  obtain ⟨fs124, e125, k⟩ := k
                                  refine jr_cVv (As := []) jl_X7_43 km_X7_skip rfl rfl dX7_line_186 e125 (Nat.le_of_ble_eq_true rfl) k (fun h123 k => ?_)
                                  refine jr_aload_n 0 dX7_line_189 rfl rfl ?_
                                  obtain ⟨fs126, e127, v129, e128, k⟩ := k
                                  refine jr_get jf_X7_12 dX7_line_190 e127 e128 ?_
                                  refine jr_aload_n 0 dX7_line_193 rfl rfl ?_
                                  refine jr_sipush (v := 999) dX7_line_194 (by decide) ?_
                                  obtain ⟨fs132, e133, k⟩ := k
                                  refine jr_cVi (As := [.int 999]) jl_X7_83 km_X7_numberTo rfl rfl dX7_line_197 e133 (Nat.le_of_ble_eq_true rfl) k (fun r130 h131 k => ?_)
                                  obtain ⟨fs134, e135, e136, k⟩ := k
                                  refine jr_putE jp_X7_87 dX7_line_200 e135 e136 rfl rfl (fun h137 eh138 => ?_)
                                  have k := k h137 eh138
                                  refine jr_aload_n 0 dX7_line_203 rfl rfl ?_
                                  obtain ⟨fs139, e140, v142, e141, k⟩ := k
                                  refine jr_get jf_X7_12 dX7_line_204 e140 e141 ?_
                                  obtain ⟨fs143, e144, v146, e145, k⟩ := k
                                  refine jr_get jf_X7_87 dX7_line_207 e144 e145 ?_
                                  refine jr_iconst (v := (-1)) dX7_line_210 (by decide) ?_
                                  refine jr_icmp_eq (tgt := 218) dX7_line_211 (by decide) (fun c211 => ?_) (fun c211 => ?_)
                                  · have k := k.1 c211
                                    refine jr_iconst (v := 0) dX7_line_218 (by decide) ?_
                                    exact jr_iret (ty := .boolean) rfl rfl dX7_line_219 k
                                  · have k := k.2 c211
                                    refine jr_iconst (v := 1) dX7_line_214 (by decide) ?_
                                    refine jr_goto (tgt := 219) dX7_line_215 (by decide) ?_
                                    exact jr_iret (ty := .boolean) rfl rfl dX7_line_219 k
                                · have k := k.2 c1_15
                                  refine jr_tableOut (tgt := 261) dX7_line_1 ?_ (by decide) ?_
                                  · have d1_0 := j_ne c1_0 (z := 129) (by decide)
                                    have d1_1 := j_ne c1_1 (z := 130) (by decide)
                                    have d1_2 := j_ne c1_2 (z := 131) (by decide)
                                    have d1_3 := j_ne c1_3 (z := 132) (by decide)
                                    have d1_4 := j_ne c1_4 (z := 133) (by decide)
                                    have d1_5 := j_ne c1_5 (z := 134) (by decide)
                                    have d1_6 := j_ne c1_6 (z := 135) (by decide)
                                    have d1_7 := j_ne c1_7 (z := 136) (by decide)
                                    have d1_8 := j_ne c1_8 (z := 137) (by decide)
                                    have d1_9 := j_ne c1_9 (z := 138) (by decide)
                                    have d1_10 := j_ne c1_10 (z := 139) (by decide)
                                    have d1_11 := j_ne c1_11 (z := 140) (by decide)
                                    have d1_12 := j_ne c1_12 (z := 141) (by decide)
                                    have d1_13 := j_ne c1_13 (z := 142) (by decide)
                                    have d1_14 := j_ne c1_14 (z := 143) (by decide)
                                    have d1_15 := j_ne c1_15 (z := 144) (by decide)
                                    omega
                                  · refine jr_aload_n 0 dX7_line_261 rfl rfl ?_
                                    refine jr_iconst (v := 2) dX7_line_262 (by decide) ?_
                                    obtain ⟨fs149, e150, k⟩ := k
                                    refine jr_cVi (As := [.int 2]) jl_X7_95 km_X7_fail rfl rfl dX7_line_263 e150 (Nat.le_of_ble_eq_true rfl) k (fun r147 h148 k => ?_)
                                    exact jr_iret (ty := .boolean) rfl (jz_n k.1) dX7_line_266 k.2
set_option maxRecDepth 20000 in
theorem bX7_skip_0 {g : jG} {d : Nat} {hs : jH} {P : jO → jH → Prop} {x0 : Nat} {h : jH} (k : ∃ fs1 : List Value, h.1 x0 = some (.inr (7, fs1)) ∧ ∃ v4 : Int32, fs1[4]? = some (.int v4) ∧ ((v4 + 1) < 0 → P (.inl none) h) ∧ (¬ (v4 + 1) < 0 → ∃ fs5 : List Value, h.1 x0 = some (.inr (7, fs5)) ∧ ∃ v8 : Nat, fs5[3]? = some (.ref v8) ∧ ∃ fs9 : List Value, h.1 v8 = some (.inr (8, fs9)) ∧ ∃ v12 : Int32, fs9[3]? = some (.int v12) ∧ ((v4 + 1) < v12 → (900 < (v4 + 1) → P (.inl none) h) ∧ (¬ 900 < (v4 + 1) → ∃ fs13 : List Value, h.1 x0 = some (.inr (7, fs13)) ∧ 4 < fs13.length ∧ (∀ h16 : jH, h16 = jset h x0 (.inr (7, fs13.set 4 (.int (v4 + 1)))) → ∃ fs18 : List Value, h16.1 x0 = some (.inr (7, fs18)) ∧ ∃ v21 : Nat, fs18[3]? = some (.ref v21) ∧ ∃ fs22 : List Value, h16.1 v21 = some (.inr (8, fs22)) ∧ ∃ v25 : Nat, fs22[0]? = some (.ref v25) ∧ ∃ (n26 : Nat) (f27 : Nat → Int32), h16.1 v25 = some (.inl (0, (n26, .inl f27))) ∧ vp_in (v4 + 1) n26 ∧ ∃ fs30 : List Value, h16.1 x0 = some (.inr (7, fs30)) ∧ 5 < fs30.length ∧ (∀ h33 : jH, h33 = jset h16 x0 (.inr (7, fs30.set 5 (.int (f27 ((v4 + 1)).toNatClampNeg)))) → P (.inl none) h33)))) ∧ (¬ (v4 + 1) < v12 → P (.inl none) h))) : J g mX7_skip (d + 1) hs P 0 [(0, .ref x0)] [] h := by
  refine jr_aload_n 0 dX7_skip_0 rfl rfl ?_
  obtain ⟨fs1, e2, v4, e3, k⟩ := k
  refine jr_get jf_X7_40 dX7_skip_1 e2 e3 ?_
  refine jr_iconst (v := 1) dX7_skip_4 (by decide) ?_
  refine jr_iadd dX7_skip_5 ?_
  refine jr_istore_n (lv' := [(1, .int (v4 + 1)), (0, .ref x0)]) dX7_skip_6 rfl (by decide) rfl ?_
  refine jr_iload_n 0 dX7_skip_7 rfl rfl ?_
  refine jr_if_lt (tgt := 47) dX7_skip_8 (by decide) (fun c8 => ?_) (fun c8 => ?_)
  · have k := k.1 c8
    exact jr_vret rfl dX7_skip_47 k
  · have k := k.2 c8
    refine jr_iload_n 0 dX7_skip_11 rfl rfl ?_
    refine jr_aload_n 1 dX7_skip_12 rfl rfl ?_
    obtain ⟨fs5, e6, v8, e7, k⟩ := k
    refine jr_get jf_X7_21 dX7_skip_13 e6 e7 ?_
    obtain ⟨fs9, e10, v12, e11, k⟩ := k
    refine jr_get jf_X7_98 dX7_skip_16 e10 e11 ?_
    refine jr_icmp_ge (tgt := 47) dX7_skip_19 (by decide) (fun c19 => ?_) (fun c19 => ?_)
    · have k := k.2 c19
      exact jr_vret rfl dX7_skip_47 k
    · have k := k.1 c19
      refine jr_iload_n 0 dX7_skip_22 rfl rfl ?_
      refine jr_sipush (v := 900) dX7_skip_23 (by decide) ?_
      refine jr_icmp_gt (tgt := 47) dX7_skip_26 (by decide) (fun c26 => ?_) (fun c26 => ?_)
      · have k := k.1 c26
        exact jr_vret rfl dX7_skip_47 k
      · have k := k.2 c26
        refine jr_aload_n 1 dX7_skip_29 rfl rfl ?_
        refine jr_iload_n 0 dX7_skip_30 rfl rfl ?_
        obtain ⟨fs13, e14, e15, k⟩ := k
        refine jr_putE jp_X7_40 dX7_skip_31 e14 e15 rfl rfl (fun h16 eh17 => ?_)
        have k := k h16 eh17
        refine jr_aload_n 1 dX7_skip_34 rfl rfl ?_
        refine jr_aload_n 1 dX7_skip_35 rfl rfl ?_
        obtain ⟨fs18, e19, v21, e20, k⟩ := k
        refine jr_get jf_X7_21 dX7_skip_36 e19 e20 ?_
        obtain ⟨fs22, e23, v25, e24, k⟩ := k
        refine jr_get jf_X7_101 dX7_skip_39 e23 e24 ?_
        refine jr_iload_n 0 dX7_skip_42 rfl rfl ?_
        obtain ⟨n26, f27, e28, e29, k⟩ := k
        refine jr_iald dX7_skip_43 e28 e29 ?_
        obtain ⟨fs30, e31, e32, k⟩ := k
        refine jr_putE jp_X7_50 dX7_skip_44 e31 e32 rfl rfl (fun h33 eh34 => ?_)
        have k := k h33 eh34
        exact jr_vret rfl dX7_skip_47 k
set_option maxRecDepth 20000 in
theorem bX7_fail_0 {g : jG} {d : Nat} {hs : jH} {P : jO → jH → Prop} {x0 : Nat} {x1 : Int32} {h : jH} (k : ∃ fs1 : List Value, h.1 x0 = some (.inr (7, fs1)) ∧ ∃ v4 : Int32, fs1[5]? = some (.int v4) ∧ (v4 = 1 → J g mX7_fail (d + 1) hs P 14 [(0, .ref x0)] [.int 1, .ref x0] h) ∧ (¬ v4 = 1 → J g mX7_fail (d + 1) hs P 14 [(0, .ref x0)] [.int x1, .ref x0] h)) : J g mX7_fail (d + 1) hs P 0 [(0, .ref x0), (1, .int x1)] [] h := by
  refine jr_aload_n 0 dX7_fail_0 rfl rfl ?_
  refine jr_aload_n 0 dX7_fail_1 rfl rfl ?_
  obtain ⟨fs1, e2, v4, e3, k⟩ := k
  refine jr_get jf_X7_50 dX7_fail_2 e2 e3 ?_
  refine jr_iconst (v := 1) dX7_fail_5 (by decide) ?_
  refine jr_icmp_ne (tgt := 13) dX7_fail_6 (by decide) (fun c6 => ?_) (fun c6 => ?_)
  · have k := k.2 c6
    refine jr_iload_n 1 dX7_fail_13 rfl rfl ?_
    exact jr_sub [0] rfl k
  · have k := k.1 c6
    refine jr_iconst (v := 1) dX7_fail_9 (by decide) ?_
    refine jr_goto (tgt := 14) dX7_fail_10 (by decide) ?_
    exact jr_sub [0] rfl k
set_option maxRecDepth 20000 in
theorem bX7_fail_14 {g : jG} {d : Nat} {hs : jH} {P : jO → jH → Prop} {x0 : Nat} {s0 : Nat} {s1 : Int32} {h : jH} (k : ∃ fs1 : List Value, h.1 s0 = some (.inr (7, fs1)) ∧ 1 < fs1.length ∧ (∀ h4 : jH, h4 = jset h s0 (.inr (7, fs1.set 1 (.int s1))) → ∃ fs6 : List Value, h4.1 x0 = some (.inr (7, fs6)) ∧ ∃ v9 : Int32, fs6[4]? = some (.int v9) ∧ (v9 < 0 → J g mX7_fail (d + 1) hs P 50 [] [.ref x0] h4) ∧ (¬ v9 < 0 → ∃ fs10 : List Value, h4.1 x0 = some (.inr (7, fs10)) ∧ ∃ v13 : Int32, fs10[4]? = some (.int v13) ∧ (900 < v13 → J g mX7_fail (d + 1) hs P 50 [] [.ref x0] h4) ∧ (¬ 900 < v13 → ∃ fs14 : List Value, h4.1 x0 = some (.inr (7, fs14)) ∧ ∃ v17 : Nat, fs14[3]? = some (.ref v17) ∧ ∃ fs18 : List Value, h4.1 v17 = some (.inr (8, fs18)) ∧ ∃ v21 : Nat, fs18[2]? = some (.ref v21) ∧ ∃ fs22 : List Value, h4.1 x0 = some (.inr (7, fs22)) ∧ ∃ v25 : Int32, fs22[4]? = some (.int v25) ∧ ∃ (n26 : Nat) (f27 : Nat → Int32), h4.1 v21 = some (.inl (0, (n26, .inl f27))) ∧ vp_in v25 n26 ∧ J g mX7_fail (d + 1) hs P 51 [] [.int (f27 v25.toNatClampNeg), .ref x0] h4)))) : J g mX7_fail (d + 1) hs P 14 [(0, .ref x0)] [.int s1, .ref s0] h := by
  obtain ⟨fs1, e2, e3, k⟩ := k
  refine jr_putE jp_X7_29 dX7_fail_14 e2 e3 rfl rfl (fun h4 eh5 => ?_)
  have k := k h4 eh5
  refine jr_aload_n 0 dX7_fail_17 rfl rfl ?_
  refine jr_aload_n 0 dX7_fail_18 rfl rfl ?_
  obtain ⟨fs6, e7, v9, e8, k⟩ := k
  refine jr_get jf_X7_40 dX7_fail_19 e7 e8 ?_
  refine jr_if_lt (tgt := 50) dX7_fail_22 (by decide) (fun c22 => ?_) (fun c22 => ?_)
  · have k := k.1 c22
    exact jr_sub [] rfl k
  · have k := k.2 c22
    refine jr_aload_n 0 dX7_fail_25 rfl rfl ?_
    obtain ⟨fs10, e11, v13, e12, k⟩ := k
    refine jr_get jf_X7_40 dX7_fail_26 e11 e12 ?_
    refine jr_sipush (v := 900) dX7_fail_29 (by decide) ?_
    refine jr_icmp_gt (tgt := 50) dX7_fail_32 (by decide) (fun c32 => ?_) (fun c32 => ?_)
    · have k := k.1 c32
      exact jr_sub [] rfl k
    · have k := k.2 c32
      refine jr_aload_n 0 dX7_fail_35 rfl rfl ?_
      obtain ⟨fs14, e15, v17, e16, k⟩ := k
      refine jr_get jf_X7_21 dX7_fail_36 e15 e16 ?_
      obtain ⟨fs18, e19, v21, e20, k⟩ := k
      refine jr_get jf_X7_104 dX7_fail_39 e19 e20 ?_
      refine jr_aload_n 0 dX7_fail_42 rfl rfl ?_
      obtain ⟨fs22, e23, v25, e24, k⟩ := k
      refine jr_get jf_X7_40 dX7_fail_43 e23 e24 ?_
      obtain ⟨n26, f27, e28, e29, k⟩ := k
      refine jr_iald dX7_fail_46 e28 e29 ?_
      refine jr_goto (tgt := 51) dX7_fail_47 (by decide) ?_
      exact jr_sub [] rfl k
set_option maxRecDepth 20000 in
theorem bX7_fail_50 {g : jG} {d : Nat} {hs : jH} {P : jO → jH → Prop} {s0 : Nat} {h : jH} (k : J g mX7_fail (d + 1) hs P 51 [] [.int 0, .ref s0] h) : J g mX7_fail (d + 1) hs P 50 [] [.ref s0] h := by
  refine jr_iconst (v := 0) dX7_fail_50 (by decide) ?_
  exact jr_sub [] rfl k
set_option maxRecDepth 20000 in
theorem bX7_fail_51 {g : jG} {d : Nat} {hs : jH} {P : jO → jH → Prop} {s0 : Nat} {s1 : Int32} {h : jH} (k : ∃ fs1 : List Value, h.1 s0 = some (.inr (7, fs1)) ∧ 2 < fs1.length ∧ (∀ h4 : jH, h4 = jset h s0 (.inr (7, fs1.set 2 (.int s1))) → P (.inl (some (.int 0))) h4)) : J g mX7_fail (d + 1) hs P 51 [] [.int s1, .ref s0] h := by
  obtain ⟨fs1, e2, e3, k⟩ := k
  refine jr_putE jp_X7_33 dX7_fail_51 e2 e3 rfl rfl (fun h4 eh5 => ?_)
  have k := k h4 eh5
  refine jr_iconst (v := 0) dX7_fail_54 (by decide) ?_
  exact jr_iret (ty := .boolean) rfl rfl dX7_fail_55 k
set_option maxRecDepth 20000 in
theorem bX7_expect_0 {g : jG} {d : Nat} {hs : jH} {P : jO → jH → Prop} {x0 : Nat} {x1 : Int32} {h : jH} (k : ∃ fs1 : List Value, h.1 x0 = some (.inr (7, fs1)) ∧ ∃ v4 : Int32, fs1[5]? = some (.int v4) ∧ (v4 = x1 → ∃ fs7 : List Value, h.1 x0 = some (.inr (7, fs7)) ∧ Con g mX7_skip d [.ref x0] h (jPv (fun (h6 : jH) => P (.inl (some (.int 1))) h6) (fun E h' => P (.inr E) h'))) ∧ (¬ v4 = x1 → ∃ fs11 : List Value, h.1 x0 = some (.inr (7, fs11)) ∧ Con g mX7_fail d [.ref x0, .int 2] h (jPi (fun (r9 : Int32) (h10 : jH) => (r9 = 0 ∨ r9 = 1) ∧ P (.inl (some (.int r9))) h10) (fun E h' => P (.inr E) h')))) : J g mX7_expect (d + 1) hs P 0 [(0, .ref x0), (1, .int x1)] [] h := by
  refine jr_aload_n 0 dX7_expect_0 rfl rfl ?_
  obtain ⟨fs1, e2, v4, e3, k⟩ := k
  refine jr_get jf_X7_50 dX7_expect_1 e2 e3 ?_
  refine jr_iload_n 1 dX7_expect_4 rfl rfl ?_
  refine jr_icmp_eq (tgt := 14) dX7_expect_5 (by decide) (fun c5 => ?_) (fun c5 => ?_)
  · have k := k.1 c5
    refine jr_aload_n 0 dX7_expect_14 rfl rfl ?_
    obtain ⟨fs7, e8, k⟩ := k
    refine jr_cVv (As := []) jl_X7_43 km_X7_skip rfl rfl dX7_expect_15 e8 (Nat.le_of_ble_eq_true rfl) k (fun h6 k => ?_)
    refine jr_iconst (v := 1) dX7_expect_18 (by decide) ?_
    exact jr_iret (ty := .boolean) rfl rfl dX7_expect_19 k
  · have k := k.2 c5
    refine jr_aload_n 0 dX7_expect_8 rfl rfl ?_
    refine jr_iconst (v := 2) dX7_expect_9 (by decide) ?_
    obtain ⟨fs11, e12, k⟩ := k
    refine jr_cVi (As := [.int 2]) jl_X7_95 km_X7_fail rfl rfl dX7_expect_10 e12 (Nat.le_of_ble_eq_true rfl) k (fun r9 h10 k => ?_)
    exact jr_iret (ty := .boolean) rfl (jz_n k.1) dX7_expect_13 k.2
set_option maxRecDepth 20000 in
theorem bX7_number_0 {g : jG} {d : Nat} {hs : jH} {P : jO → jH → Prop} {x0 : Nat} {h : jH} (k : ∃ fs1 : List Value, h.1 x0 = some (.inr (7, fs1)) ∧ ∃ v4 : Int32, fs1[4]? = some (.int v4) ∧ (v4 < 0 → P (.inl (some (.int 0))) h) ∧ (¬ v4 < 0 → ∃ fs5 : List Value, h.1 x0 = some (.inr (7, fs5)) ∧ ∃ v8 : Int32, fs5[4]? = some (.int v8) ∧ (900 < v8 → P (.inl (some (.int 0))) h) ∧ (¬ 900 < v8 → ∃ fs9 : List Value, h.1 x0 = some (.inr (7, fs9)) ∧ ∃ v12 : Nat, fs9[3]? = some (.ref v12) ∧ ∃ fs13 : List Value, h.1 v12 = some (.inr (8, fs13)) ∧ ∃ v16 : Nat, fs13[1]? = some (.ref v16) ∧ ∃ fs17 : List Value, h.1 x0 = some (.inr (7, fs17)) ∧ ∃ v20 : Int32, fs17[4]? = some (.int v20) ∧ ∃ (n21 : Nat) (f22 : Nat → Int32), h.1 v16 = some (.inl (0, (n21, .inl f22))) ∧ vp_in v20 n21 ∧ P (.inl (some (.int ((f22 v20.toNatClampNeg))))) h))) : J g mX7_number (d + 1) hs P 0 [(0, .ref x0)] [] h := by
  refine jr_aload_n 0 dX7_number_0 rfl rfl ?_
  obtain ⟨fs1, e2, v4, e3, k⟩ := k
  refine jr_get jf_X7_40 dX7_number_1 e2 e3 ?_
  refine jr_if_lt (tgt := 32) dX7_number_4 (by decide) (fun c4 => ?_) (fun c4 => ?_)
  · have k := k.1 c4
    refine jr_iconst (v := 0) dX7_number_32 (by decide) ?_
    exact jr_iret (ty := .int) rfl rfl dX7_number_33 k
  · have k := k.2 c4
    refine jr_aload_n 0 dX7_number_7 rfl rfl ?_
    obtain ⟨fs5, e6, v8, e7, k⟩ := k
    refine jr_get jf_X7_40 dX7_number_8 e6 e7 ?_
    refine jr_sipush (v := 900) dX7_number_11 (by decide) ?_
    refine jr_icmp_gt (tgt := 32) dX7_number_14 (by decide) (fun c14 => ?_) (fun c14 => ?_)
    · have k := k.1 c14
      refine jr_iconst (v := 0) dX7_number_32 (by decide) ?_
      exact jr_iret (ty := .int) rfl rfl dX7_number_33 k
    · have k := k.2 c14
      refine jr_aload_n 0 dX7_number_17 rfl rfl ?_
      obtain ⟨fs9, e10, v12, e11, k⟩ := k
      refine jr_get jf_X7_21 dX7_number_18 e10 e11 ?_
      obtain ⟨fs13, e14, v16, e15, k⟩ := k
      refine jr_get jf_X7_107 dX7_number_21 e14 e15 ?_
      refine jr_aload_n 0 dX7_number_24 rfl rfl ?_
      obtain ⟨fs17, e18, v20, e19, k⟩ := k
      refine jr_get jf_X7_40 dX7_number_25 e18 e19 ?_
      obtain ⟨n21, f22, e23, e24, k⟩ := k
      refine jr_iald dX7_number_28 e23 e24 ?_
      refine jr_goto (tgt := 33) dX7_number_29 (by decide) ?_
      exact jr_iret (ty := .int) rfl rfl dX7_number_33 k
set_option maxRecDepth 20000 in
theorem bX7_numberTo_0 {g : jG} {d : Nat} {hs : jH} {P : jO → jH → Prop} {x0 : Nat} {x1 : Int32} {h : jH} (k : ∃ fs3 : List Value, h.1 x0 = some (.inr (7, fs3)) ∧ Con g mX7_number d [.ref x0] h (jPi (fun (r1 : Int32) (h2 : jH) => ∃ fs5 : List Value, h2.1 x0 = some (.inr (7, fs5)) ∧ ∃ v8 : Int32, fs5[5]? = some (.int v8) ∧ (v8 = 2 → (x1 < r1 → ∃ fs15 : List Value, h2.1 x0 = some (.inr (7, fs15)) ∧ Con g mX7_fail d [.ref x0, .int 3] h2 (jPi (fun (r13 : Int32) (h14 : jH) => P (.inl (some (.int ((-1))))) h14) (fun E h' => P (.inr E) h'))) ∧ (¬ x1 < r1 → ∃ fs11 : List Value, h2.1 x0 = some (.inr (7, fs11)) ∧ Con g mX7_skip d [.ref x0] h2 (jPv (fun (h10 : jH) => P (.inl (some (.int r1))) h10) (fun E h' => P (.inr E) h')))) ∧ (¬ v8 = 2 → ∃ fs19 : List Value, h2.1 x0 = some (.inr (7, fs19)) ∧ Con g mX7_fail d [.ref x0, .int 2] h2 (jPi (fun (r17 : Int32) (h18 : jH) => P (.inl (some (.int ((-1))))) h18) (fun E h' => P (.inr E) h')))) (fun E h' => P (.inr E) h'))) : J g mX7_numberTo (d + 1) hs P 0 [(0, .ref x0), (1, .int x1)] [] h := by
  refine jr_aload_n 0 dX7_numberTo_0 rfl rfl ?_
  obtain ⟨fs3, e4, k⟩ := k
  refine jr_cVi (As := []) jl_X7_110 km_X7_number rfl rfl dX7_numberTo_1 e4 (Nat.le_of_ble_eq_true rfl) k (fun r1 h2 k => ?_)
  refine jr_istore_n (lv' := [(2, .int r1), (0, .ref x0), (1, .int x1)]) dX7_numberTo_4 rfl (by decide) rfl ?_
  refine jr_aload_n 1 dX7_numberTo_5 rfl rfl ?_
  obtain ⟨fs5, e6, v8, e7, k⟩ := k
  refine jr_get jf_X7_50 dX7_numberTo_6 e6 e7 ?_
  refine jr_iconst (v := 2) dX7_numberTo_9 (by decide) ?_
  refine jr_icmp_eq (tgt := 21) dX7_numberTo_10 (by decide) (fun c10 => ?_) (fun c10 => ?_)
  · have k := k.1 c10
    refine jr_iload_n 0 dX7_numberTo_21 rfl rfl ?_
    refine jr_iload_n 2 dX7_numberTo_22 rfl rfl ?_
    refine jr_icmp_le (tgt := 34) dX7_numberTo_23 (by decide) (fun c23 => ?_) (fun c23 => ?_)
    · have k := k.2 c23
      refine jr_aload_n 1 dX7_numberTo_34 rfl rfl ?_
      obtain ⟨fs11, e12, k⟩ := k
      refine jr_cVv (As := []) jl_X7_43 km_X7_skip rfl rfl dX7_numberTo_35 e12 (Nat.le_of_ble_eq_true rfl) k (fun h10 k => ?_)
      refine jr_iload_n 0 dX7_numberTo_38 rfl rfl ?_
      exact jr_iret (ty := .int) rfl rfl dX7_numberTo_39 k
    · have k := k.1 c23
      refine jr_aload_n 1 dX7_numberTo_26 rfl rfl ?_
      refine jr_iconst (v := 3) dX7_numberTo_27 (by decide) ?_
      obtain ⟨fs15, e16, k⟩ := k
      refine jr_cVi (As := [.int 3]) jl_X7_95 km_X7_fail rfl rfl dX7_numberTo_28 e16 (Nat.le_of_ble_eq_true rfl) k (fun r13 h14 k => ?_)
      refine jr_pop dX7_numberTo_31 rfl ?_
      refine jr_iconst (v := (-1)) dX7_numberTo_32 (by decide) ?_
      exact jr_iret (ty := .int) rfl rfl dX7_numberTo_33 k
  · have k := k.2 c10
    refine jr_aload_n 1 dX7_numberTo_13 rfl rfl ?_
    refine jr_iconst (v := 2) dX7_numberTo_14 (by decide) ?_
    obtain ⟨fs19, e20, k⟩ := k
    refine jr_cVi (As := [.int 2]) jl_X7_95 km_X7_fail rfl rfl dX7_numberTo_15 e20 (Nat.le_of_ble_eq_true rfl) k (fun r17 h18 k => ?_)
    refine jr_pop dX7_numberTo_18 rfl ?_
    refine jr_iconst (v := (-1)) dX7_numberTo_19 (by decide) ?_
    exact jr_iret (ty := .int) rfl rfl dX7_numberTo_20 k
set_option maxRecDepth 20000 in
theorem bX7_home_0 {g : jG} {d : Nat} {hs : jH} {P : jO → jH → Prop} {x0 : Nat} {x1 : Nat} {h : jH} (k : ∃ fs1 : List Value, h.1 x1 = some (.inr (6, fs1)) ∧ ∃ v4 : Int32, fs1[0]? = some (.int v4) ∧ (v4 < 0 → J g mX7_home (d + 1) hs P 15 [(0, .ref x0)] [] h) ∧ (¬ v4 < 0 → (v4 < 7 → ∃ fs7 : List Value, h.1 x0 = some (.inr (7, fs7)) ∧ Con g mX7_skip d [.ref x0] h (jPv (fun (h6 : jH) => ∃ fs9 : List Value, h6.1 x1 = some (.inr (6, fs9)) ∧ ∃ v12 : Nat, fs9[3]? = some (.ref v12) ∧ ∃ fs15 : List Value, h6.1 x0 = some (.inr (7, fs15)) ∧ Con g mX7_numberTo d [.ref x0, .int 99] h6 (jPi (fun (r13 : Int32) (h14 : jH) => ∃ (n17 : Nat) (f18 : Nat → Int32), h14.1 v12 = some (.inl (0, (n17, .inl f18))) ∧ vp_in v4 n17 ∧ ∀ h21 : jH, h21 = jset h14 v12 (.inl (0, (n17, .inl (upd f18 v4.toNatClampNeg r13)))) → ∃ fs23 : List Value, h21.1 x1 = some (.inr (6, fs23)) ∧ ∃ v26 : Nat, fs23[3]? = some (.ref v26) ∧ ∃ (n27 : Nat) (f28 : Nat → Int32), h21.1 v26 = some (.inl (0, (n27, .inl f28))) ∧ vp_in v4 n27 ∧ ((f28 v4.toNatClampNeg) = (-1) → P (.inl (some (.int 0))) h21) ∧ (¬ (f28 v4.toNatClampNeg) = (-1) → ∃ fs33 : List Value, h21.1 x0 = some (.inr (7, fs33)) ∧ Con g mX7_expect d [.ref x0, .int 133] h21 (jPi (fun (r31 : Int32) (h32 : jH) => (r31 = 0 → P (.inl (some (.int 0))) h32) ∧ (¬ r31 = 0 → ∃ fs35 : List Value, h32.1 x1 = some (.inr (6, fs35)) ∧ ∃ v38 : Nat, fs35[4]? = some (.ref v38) ∧ ∃ fs41 : List Value, h32.1 x0 = some (.inr (7, fs41)) ∧ Con g mX7_numberTo d [.ref x0, .int 99] h32 (jPi (fun (r39 : Int32) (h40 : jH) => ∃ (n43 : Nat) (f44 : Nat → Int32), h40.1 v38 = some (.inl (0, (n43, .inl f44))) ∧ vp_in v4 n43 ∧ ∀ h47 : jH, h47 = jset h40 v38 (.inl (0, (n43, .inl (upd f44 v4.toNatClampNeg r39)))) → ∃ fs49 : List Value, h47.1 x1 = some (.inr (6, fs49)) ∧ ∃ v52 : Nat, fs49[4]? = some (.ref v52) ∧ ∃ (n53 : Nat) (f54 : Nat → Int32), h47.1 v52 = some (.inl (0, (n53, .inl f54))) ∧ vp_in v4 n53 ∧ ((f54 v4.toNatClampNeg) = (-1) → J g mX7_home (d + 1) hs P 90 [(0, .ref x0), (1, .ref x1), (2, .int v4), (3, .int 0), (4, .int 0)] [] h47) ∧ (¬ (f54 v4.toNatClampNeg) = (-1) → J g mX7_home (d + 1) hs P 90 [(0, .ref x0), (1, .ref x1), (2, .int v4), (3, .int 1), (4, .int 0)] [] h47)) (fun E h' => P (.inr E) h')))) (fun E h' => P (.inr E) h')))) (fun E h' => P (.inr E) h'))) (fun E h' => P (.inr E) h'))) ∧ (¬ v4 < 7 → J g mX7_home (d + 1) hs P 15 [(0, .ref x0)] [] h))) : J g mX7_home (d + 1) hs P 0 [(0, .ref x0), (1, .ref x1)] [] h := by
  refine jr_aload_n 1 dX7_home_0 rfl rfl ?_
  obtain ⟨fs1, e2, v4, e3, k⟩ := k
  refine jr_get jf_X7_114 dX7_home_1 e2 e3 ?_
  refine jr_istore_n (lv' := [(2, .int v4), (0, .ref x0), (1, .ref x1)]) dX7_home_4 rfl (by decide) rfl ?_
  refine jr_iload_n 0 dX7_home_5 rfl rfl ?_
  refine jr_if_lt (tgt := 15) dX7_home_6 (by decide) (fun c6 => ?_) (fun c6 => ?_)
  · have k := k.1 c6
    exact jr_sub [1] rfl k
  · have k := k.2 c6
    refine jr_iload_n 0 dX7_home_9 rfl rfl ?_
    refine jr_bipush (v := 7) dX7_home_10 (by decide) ?_
    refine jr_icmp_lt (tgt := 21) dX7_home_12 (by decide) (fun c12 => ?_) (fun c12 => ?_)
    · have k := k.1 c12
      refine jr_aload_n 1 dX7_home_21 rfl rfl ?_
      obtain ⟨fs7, e8, k⟩ := k
      refine jr_cVv (As := []) jl_X7_43 km_X7_skip rfl rfl dX7_home_22 e8 (Nat.le_of_ble_eq_true rfl) k (fun h6 k => ?_)
      refine jr_aload_n 2 dX7_home_25 rfl rfl ?_
      obtain ⟨fs9, e10, v12, e11, k⟩ := k
      refine jr_get jf_X7_117 dX7_home_26 e10 e11 ?_
      refine jr_iload_n 0 dX7_home_29 rfl rfl ?_
      refine jr_aload_n 1 dX7_home_30 rfl rfl ?_
      refine jr_bipush (v := 99) dX7_home_31 (by decide) ?_
      obtain ⟨fs15, e16, k⟩ := k
      refine jr_cVi (As := [.int 99]) jl_X7_83 km_X7_numberTo rfl rfl dX7_home_33 e16 (Nat.le_of_ble_eq_true rfl) k (fun r13 h14 k => ?_)
      obtain ⟨n17, f18, e19, e20, k⟩ := k
      refine jr_iastE dX7_home_36 e19 e20 (fun h21 eh22 => ?_)
      have k := k h21 eh22
      refine jr_aload_n 2 dX7_home_37 rfl rfl ?_
      obtain ⟨fs23, e24, v26, e25, k⟩ := k
      refine jr_get jf_X7_117 dX7_home_38 e24 e25 ?_
      refine jr_iload_n 0 dX7_home_41 rfl rfl ?_
      obtain ⟨n27, f28, e29, e30, k⟩ := k
      refine jr_iald dX7_home_42 e29 e30 ?_
      refine jr_iconst (v := (-1)) dX7_home_43 (by decide) ?_
      refine jr_icmp_eq (tgt := 57) dX7_home_44 (by decide) (fun c44 => ?_) (fun c44 => ?_)
      · have k := k.1 c44
        refine jr_iconst (v := 0) dX7_home_57 (by decide) ?_
        exact jr_iret (ty := .boolean) rfl rfl dX7_home_58 k
      · have k := k.2 c44
        refine jr_aload_n 1 dX7_home_47 rfl rfl ?_
        refine jr_sipush (v := 133) dX7_home_48 (by decide) ?_
        obtain ⟨fs33, e34, k⟩ := k
        refine jr_cVi (As := [.int 133]) jl_X7_46 km_X7_expect rfl rfl dX7_home_51 e34 (Nat.le_of_ble_eq_true rfl) k (fun r31 h32 k => ?_)
        refine jr_if_ne (tgt := 59) dX7_home_54 (by decide) (fun c54 => ?_) (fun c54 => ?_)
        · have k := k.2 c54
          refine jr_aload_n 2 dX7_home_59 rfl rfl ?_
          obtain ⟨fs35, e36, v38, e37, k⟩ := k
          refine jr_get jf_X7_120 dX7_home_60 e36 e37 ?_
          refine jr_iload_n 0 dX7_home_63 rfl rfl ?_
          refine jr_aload_n 1 dX7_home_64 rfl rfl ?_
          refine jr_bipush (v := 99) dX7_home_65 (by decide) ?_
          obtain ⟨fs41, e42, k⟩ := k
          refine jr_cVi (As := [.int 99]) jl_X7_83 km_X7_numberTo rfl rfl dX7_home_67 e42 (Nat.le_of_ble_eq_true rfl) k (fun r39 h40 k => ?_)
          obtain ⟨n43, f44, e45, e46, k⟩ := k
          refine jr_iastE dX7_home_70 e45 e46 (fun h47 eh48 => ?_)
          have k := k h47 eh48
          refine jr_aload_n 2 dX7_home_71 rfl rfl ?_
          obtain ⟨fs49, e50, v52, e51, k⟩ := k
          refine jr_get jf_X7_120 dX7_home_72 e50 e51 ?_
          refine jr_iload_n 0 dX7_home_75 rfl rfl ?_
          obtain ⟨n53, f54, e55, e56, k⟩ := k
          refine jr_iald dX7_home_76 e55 e56 ?_
          refine jr_iconst (v := (-1)) dX7_home_77 (by decide) ?_
          refine jr_icmp_eq (tgt := 85) dX7_home_78 (by decide) (fun c78 => ?_) (fun c78 => ?_)
          · have k := k.1 c78
            refine jr_iconst (v := 0) dX7_home_85 (by decide) ?_
            refine jr_istore_n (lv' := [(3, .int 0), (2, .int v4), (0, .ref x0), (1, .ref x1)]) dX7_home_86 rfl (by decide) rfl ?_
            refine jr_iconst (v := 0) dX7_home_87 (by decide) ?_
            refine jr_istore (lv' := [(4, .int 0), (3, .int 0), (2, .int v4), (0, .ref x0), (1, .ref x1)]) dX7_home_88 (by decide) rfl ?_
            exact jr_sub [3, 4, 2, 1, 0] rfl k
          · have k := k.2 c78
            refine jr_iconst (v := 1) dX7_home_81 (by decide) ?_
            refine jr_goto (tgt := 86) dX7_home_82 (by decide) ?_
            refine jr_istore_n (lv' := [(3, .int 1), (2, .int v4), (0, .ref x0), (1, .ref x1)]) dX7_home_86 rfl (by decide) rfl ?_
            refine jr_iconst (v := 0) dX7_home_87 (by decide) ?_
            refine jr_istore (lv' := [(4, .int 0), (3, .int 1), (2, .int v4), (0, .ref x0), (1, .ref x1)]) dX7_home_88 (by decide) rfl ?_
            exact jr_sub [3, 4, 2, 1, 0] rfl k
        · have k := k.1 c54
          refine jr_iconst (v := 0) dX7_home_57 (by decide) ?_
          exact jr_iret (ty := .boolean) rfl rfl dX7_home_58 k
    · have k := k.2 c12
      exact jr_sub [1] rfl k
set_option maxRecDepth 20000 in
theorem bX7_home_15 {g : jG} {d : Nat} {hs : jH} {P : jO → jH → Prop} {x0 : Nat} {h : jH} (k : ∃ fs3 : List Value, h.1 x0 = some (.inr (7, fs3)) ∧ Con g mX7_fail d [.ref x0, .int 4] h (jPi (fun (r1 : Int32) (h2 : jH) => (r1 = 0 ∨ r1 = 1) ∧ P (.inl (some (.int r1))) h2) (fun E h' => P (.inr E) h'))) : J g mX7_home (d + 1) hs P 15 [(0, .ref x0)] [] h := by
  refine jr_aload_n 0 dX7_home_15 rfl rfl ?_
  refine jr_iconst (v := 4) dX7_home_16 (by decide) ?_
  obtain ⟨fs3, e4, k⟩ := k
  refine jr_cVi (As := [.int 4]) jl_X7_95 km_X7_fail rfl rfl dX7_home_17 e4 (Nat.le_of_ble_eq_true rfl) k (fun r1 h2 k => ?_)
  exact jr_iret (ty := .boolean) rfl (jz_n k.1) dX7_home_20 k.2
set_option maxRecDepth 20000 in
theorem bX7_home_90 {g : jG} {d : Nat} {hs : jH} {P : jO → jH → Prop} {x0 : Nat} {x1 : Nat} {x2 : Int32} {x3 : Int32} {x4 : Int32} {h : jH} (k : (x4 < 900 → (x3 = 0 → J g mX7_home (d + 1) hs P 122 [(1, .ref x1), (2, .int x2), (3, .int x3)] [] h) ∧ (¬ x3 = 0 → ∃ fs3 : List Value, h.1 x0 = some (.inr (7, fs3)) ∧ Con g mX7_isFlag d [.ref x0] h (jPi (fun (r1 : Int32) (h2 : jH) => (r1 = 0 → J g mX7_home (d + 1) hs P 122 [(1, .ref x1), (2, .int x2), (3, .int x3)] [] h2) ∧ (¬ r1 = 0 → ∃ fs7 : List Value, h2.1 x0 = some (.inr (7, fs7)) ∧ Con g mX7_flag d [.ref x0, .ref x1, .int x2] h2 (jPi (fun (r5 : Int32) (h6 : jH) => J g mX7_home (d + 1) hs P 90 [(0, .ref x0), (1, .ref x1), (2, .int x2), (3, .int r5), (4, .int (x4 + 1))] [] h6) (fun E h' => P (.inr E) h')))) (fun E h' => P (.inr E) h')))) ∧ (¬ x4 < 900 → J g mX7_home (d + 1) hs P 122 [(1, .ref x1), (2, .int x2), (3, .int x3)] [] h)) : J g mX7_home (d + 1) hs P 90 [(0, .ref x0), (1, .ref x1), (2, .int x2), (3, .int x3), (4, .int x4)] [] h := by
  refine jr_iload 4 dX7_home_90 rfl ?_
  refine jr_sipush (v := 900) dX7_home_92 (by decide) ?_
  refine jr_icmp_ge (tgt := 122) dX7_home_95 (by decide) (fun c95 => ?_) (fun c95 => ?_)
  · have k := k.2 c95
    exact jr_sub [1, 2, 3] rfl k
  · have k := k.1 c95
    refine jr_iload_n 3 dX7_home_98 rfl rfl ?_
    refine jr_if_eq (tgt := 122) dX7_home_99 (by decide) (fun c99 => ?_) (fun c99 => ?_)
    · have k := k.1 c99
      exact jr_sub [1, 2, 3] rfl k
    · have k := k.2 c99
      refine jr_aload_n 0 dX7_home_102 rfl rfl ?_
      obtain ⟨fs3, e4, k⟩ := k
      refine jr_cVi (As := []) jl_X7_123 km_X7_isFlag rfl rfl dX7_home_103 e4 (Nat.le_of_ble_eq_true rfl) k (fun r1 h2 k => ?_)
      refine jr_if_eq (tgt := 122) dX7_home_106 (by decide) (fun c106 => ?_) (fun c106 => ?_)
      · have k := k.1 c106
        exact jr_sub [1, 2, 3] rfl k
      · have k := k.2 c106
        refine jr_aload_n 0 dX7_home_109 rfl rfl ?_
        refine jr_aload_n 1 dX7_home_110 rfl rfl ?_
        refine jr_iload_n 2 dX7_home_111 rfl rfl ?_
        obtain ⟨fs7, e8, k⟩ := k
        refine jr_cVi (As := [.ref x1, .int x2]) jl_X7_127 km_X7_flag rfl rfl dX7_home_112 e8 (Nat.le_of_ble_eq_true rfl) k (fun r5 h6 k => ?_)
        refine jr_istore_n (lv' := [(3, .int r5), (0, .ref x0), (1, .ref x1), (2, .int x2), (4, .int x4)]) dX7_home_115 rfl (by decide) rfl ?_
        refine jr_iinc (v := (x4 + 1)) (lv' := [(4, .int (x4 + 1)), (3, .int r5), (0, .ref x0), (1, .ref x1), (2, .int x2)]) 4 dX7_home_116 rfl rfl (by decide) rfl ?_
        refine jr_goto (tgt := 90) dX7_home_119 (by decide) ?_
        exact jr_sub [2, 3, 4, 1, 0] rfl k
set_option maxRecDepth 20000 in
theorem bX7_home_122 {g : jG} {d : Nat} {hs : jH} {P : jO → jH → Prop} {x1 : Nat} {x2 : Int32} {x3 : Int32} {h : jH} (k : ∃ fs1 : List Value, h.1 x1 = some (.inr (6, fs1)) ∧ ∃ v4 : Nat, fs1[6]? = some (.ref v4) ∧ ∃ (n5 : Nat) (f6 : Nat → Int32), h.1 v4 = some (.inl (0, (n5, .inl f6))) ∧ vp_in x2 n5 ∧ ((f6 x2.toNatClampNeg) = 1 → ∃ fs9 : List Value, h.1 x1 = some (.inr (6, fs9)) ∧ ∃ v12 : Nat, fs9[5]? = some (.ref v12) ∧ ∃ (n13 : Nat) (f14 : Nat → Int32), h.1 v12 = some (.inl (0, (n13, .inl f14))) ∧ vp_in x2 n13 ∧ ∀ h17 : jH, h17 = jset h v12 (.inl (0, (n13, .inl (upd f14 x2.toNatClampNeg 0)))) → J g mX7_home (d + 1) hs P 139 [(1, .ref x1), (3, .int x3)] [] h17) ∧ (¬ (f6 x2.toNatClampNeg) = 1 → J g mX7_home (d + 1) hs P 139 [(1, .ref x1), (3, .int x3)] [] h)) : J g mX7_home (d + 1) hs P 122 [(1, .ref x1), (2, .int x2), (3, .int x3)] [] h := by
  refine jr_aload_n 0 dX7_home_122 rfl rfl ?_
  obtain ⟨fs1, e2, v4, e3, k⟩ := k
  refine jr_get jf_X7_131 dX7_home_123 e2 e3 ?_
  refine jr_iload_n 1 dX7_home_126 rfl rfl ?_
  obtain ⟨n5, f6, e7, e8, k⟩ := k
  refine jr_iald dX7_home_127 e7 e8 ?_
  refine jr_iconst (v := 1) dX7_home_128 (by decide) ?_
  refine jr_icmp_ne (tgt := 139) dX7_home_129 (by decide) (fun c129 => ?_) (fun c129 => ?_)
  · have k := k.2 c129
    exact jr_sub [0, 2] rfl k
  · have k := k.1 c129
    refine jr_aload_n 0 dX7_home_132 rfl rfl ?_
    obtain ⟨fs9, e10, v12, e11, k⟩ := k
    refine jr_get jf_X7_134 dX7_home_133 e10 e11 ?_
    refine jr_iload_n 1 dX7_home_136 rfl rfl ?_
    refine jr_iconst (v := 0) dX7_home_137 (by decide) ?_
    obtain ⟨n13, f14, e15, e16, k⟩ := k
    refine jr_iastE dX7_home_138 e15 e16 (fun h17 eh18 => ?_)
    have k := k h17 eh18
    exact jr_sub [0, 2] rfl k
set_option maxRecDepth 20000 in
theorem bX7_home_139 {g : jG} {d : Nat} {hs : jH} {P : jO → jH → Prop} {x1 : Nat} {x3 : Int32} {h : jH} (k : ∃ fs1 : List Value, h.1 x1 = some (.inr (6, fs1)) ∧ ∃ v4 : Int32, fs1[0]? = some (.int v4) ∧ ∃ fs5 : List Value, h.1 x1 = some (.inr (6, fs5)) ∧ 0 < fs5.length ∧ (∀ h8 : jH, h8 = jset h x1 (.inr (6, fs5.set 0 (.int (v4 + 1)))) → (x3 = 0 ∨ x3 = 1) ∧ P (.inl (some (.int x3))) h8)) : J g mX7_home (d + 1) hs P 139 [(1, .ref x1), (3, .int x3)] [] h := by
  refine jr_aload_n 0 dX7_home_139 rfl rfl ?_
  refine jr_dup dX7_home_140 rfl ?_
  obtain ⟨fs1, e2, v4, e3, k⟩ := k
  refine jr_get jf_X7_114 dX7_home_141 e2 e3 ?_
  refine jr_iconst (v := 1) dX7_home_144 (by decide) ?_
  refine jr_iadd dX7_home_145 ?_
  obtain ⟨fs5, e6, e7, k⟩ := k
  refine jr_putE jp_X7_114 dX7_home_146 e6 e7 rfl rfl (fun h8 eh9 => ?_)
  have k := k h8 eh9
  refine jr_iload_n 1 dX7_home_149 rfl rfl ?_
  exact jr_iret (ty := .boolean) rfl (jz_n k.1) dX7_home_150 k.2
set_option maxRecDepth 20000 in
theorem bX7_isFlag_0 {g : jG} {d : Nat} {hs : jH} {P : jO → jH → Prop} {x0 : Nat} {h : jH} (k : ∃ fs1 : List Value, h.1 x0 = some (.inr (7, fs1)) ∧ ∃ v4 : Int32, fs1[5]? = some (.int v4) ∧ (v4 = 131 → P (.inl (some (.int 1))) h) ∧ (¬ v4 = 131 → ∃ fs5 : List Value, h.1 x0 = some (.inr (7, fs5)) ∧ ∃ v8 : Int32, fs5[5]? = some (.int v8) ∧ (v8 = 138 → P (.inl (some (.int 1))) h) ∧ (¬ v8 = 138 → ∃ fs9 : List Value, h.1 x0 = some (.inr (7, fs9)) ∧ ∃ v12 : Int32, fs9[5]? = some (.int v12) ∧ (v12 = 139 → P (.inl (some (.int 1))) h) ∧ (¬ v12 = 139 → ∃ fs13 : List Value, h.1 x0 = some (.inr (7, fs13)) ∧ ∃ v16 : Int32, fs13[5]? = some (.int v16) ∧ (v16 = 140 → P (.inl (some (.int 1))) h) ∧ (¬ v16 = 140 → P (.inl (some (.int 0))) h))))) : J g mX7_isFlag (d + 1) hs P 0 [(0, .ref x0)] [] h := by
  refine jr_aload_n 0 dX7_isFlag_0 rfl rfl ?_
  obtain ⟨fs1, e2, v4, e3, k⟩ := k
  refine jr_get jf_X7_50 dX7_isFlag_1 e2 e3 ?_
  refine jr_sipush (v := 131) dX7_isFlag_4 (by decide) ?_
  refine jr_icmp_eq (tgt := 40) dX7_isFlag_7 (by decide) (fun c7 => ?_) (fun c7 => ?_)
  · have k := k.1 c7
    refine jr_iconst (v := 1) dX7_isFlag_40 (by decide) ?_
    refine jr_goto (tgt := 45) dX7_isFlag_41 (by decide) ?_
    exact jr_iret (ty := .boolean) rfl rfl dX7_isFlag_45 k
  · have k := k.2 c7
    refine jr_aload_n 0 dX7_isFlag_10 rfl rfl ?_
    obtain ⟨fs5, e6, v8, e7, k⟩ := k
    refine jr_get jf_X7_50 dX7_isFlag_11 e6 e7 ?_
    refine jr_sipush (v := 138) dX7_isFlag_14 (by decide) ?_
    refine jr_icmp_eq (tgt := 40) dX7_isFlag_17 (by decide) (fun c17 => ?_) (fun c17 => ?_)
    · have k := k.1 c17
      refine jr_iconst (v := 1) dX7_isFlag_40 (by decide) ?_
      refine jr_goto (tgt := 45) dX7_isFlag_41 (by decide) ?_
      exact jr_iret (ty := .boolean) rfl rfl dX7_isFlag_45 k
    · have k := k.2 c17
      refine jr_aload_n 0 dX7_isFlag_20 rfl rfl ?_
      obtain ⟨fs9, e10, v12, e11, k⟩ := k
      refine jr_get jf_X7_50 dX7_isFlag_21 e10 e11 ?_
      refine jr_sipush (v := 139) dX7_isFlag_24 (by decide) ?_
      refine jr_icmp_eq (tgt := 40) dX7_isFlag_27 (by decide) (fun c27 => ?_) (fun c27 => ?_)
      · have k := k.1 c27
        refine jr_iconst (v := 1) dX7_isFlag_40 (by decide) ?_
        refine jr_goto (tgt := 45) dX7_isFlag_41 (by decide) ?_
        exact jr_iret (ty := .boolean) rfl rfl dX7_isFlag_45 k
      · have k := k.2 c27
        refine jr_aload_n 0 dX7_isFlag_30 rfl rfl ?_
        obtain ⟨fs13, e14, v16, e15, k⟩ := k
        refine jr_get jf_X7_50 dX7_isFlag_31 e14 e15 ?_
        refine jr_sipush (v := 140) dX7_isFlag_34 (by decide) ?_
        refine jr_icmp_ne (tgt := 44) dX7_isFlag_37 (by decide) (fun c37 => ?_) (fun c37 => ?_)
        · have k := k.2 c37
          refine jr_iconst (v := 0) dX7_isFlag_44 (by decide) ?_
          exact jr_iret (ty := .boolean) rfl rfl dX7_isFlag_45 k
        · have k := k.1 c37
          refine jr_iconst (v := 1) dX7_isFlag_40 (by decide) ?_
          refine jr_goto (tgt := 45) dX7_isFlag_41 (by decide) ?_
          exact jr_iret (ty := .boolean) rfl rfl dX7_isFlag_45 k
set_option maxRecDepth 20000 in
theorem bX7_flag_0 {g : jG} {d : Nat} {hs : jH} {P : jO → jH → Prop} {x0 : Nat} {x1 : Nat} {x2 : Int32} {h : jH} (k : ∃ fs1 : List Value, h.1 x0 = some (.inr (7, fs1)) ∧ ∃ v4 : Int32, fs1[5]? = some (.int v4) ∧ ∃ fs7 : List Value, h.1 x0 = some (.inr (7, fs7)) ∧ Con g mX7_skip d [.ref x0] h (jPv (fun (h6 : jH) => (v4 = 140 → ∃ fs9 : List Value, h6.1 x1 = some (.inr (6, fs9)) ∧ ∃ v12 : Nat, fs9[6]? = some (.ref v12) ∧ ∃ (n13 : Nat) (f14 : Nat → Int32), h6.1 v12 = some (.inl (0, (n13, .inl f14))) ∧ vp_in x2 n13 ∧ ∀ h17 : jH, h17 = jset h6 v12 (.inl (0, (n13, .inl (upd f14 x2.toNatClampNeg 1)))) → P (.inl (some (.int 1))) h17) ∧ (¬ v4 = 140 → (v4 = 139 → J g mX7_flag (d + 1) hs P 41 [(1, .ref x1), (2, .int x2), (3, .int v4)] [.int 20, .ref x0] h6) ∧ (¬ v4 = 139 → J g mX7_flag (d + 1) hs P 41 [(1, .ref x1), (2, .int x2), (3, .int v4)] [.int 999, .ref x0] h6))) (fun E h' => P (.inr E) h'))) : J g mX7_flag (d + 1) hs P 0 [(0, .ref x0), (1, .ref x1), (2, .int x2)] [] h := by
  refine jr_aload_n 0 dX7_flag_0 rfl rfl ?_
  obtain ⟨fs1, e2, v4, e3, k⟩ := k
  refine jr_get jf_X7_50 dX7_flag_1 e2 e3 ?_
  refine jr_istore_n (lv' := [(3, .int v4), (0, .ref x0), (1, .ref x1), (2, .int x2)]) dX7_flag_4 rfl (by decide) rfl ?_
  refine jr_aload_n 1 dX7_flag_5 rfl rfl ?_
  obtain ⟨fs7, e8, k⟩ := k
  refine jr_cVv (As := []) jl_X7_43 km_X7_skip rfl rfl dX7_flag_6 e8 (Nat.le_of_ble_eq_true rfl) k (fun h6 k => ?_)
  refine jr_iload_n 0 dX7_flag_9 rfl rfl ?_
  refine jr_sipush (v := 140) dX7_flag_10 (by decide) ?_
  refine jr_icmp_ne (tgt := 25) dX7_flag_13 (by decide) (fun c13 => ?_) (fun c13 => ?_)
  · have k := k.2 c13
    refine jr_aload_n 1 dX7_flag_25 rfl rfl ?_
    refine jr_iload_n 0 dX7_flag_26 rfl rfl ?_
    refine jr_sipush (v := 139) dX7_flag_27 (by decide) ?_
    refine jr_icmp_ne (tgt := 38) dX7_flag_30 (by decide) (fun c30 => ?_) (fun c30 => ?_)
    · have k := k.2 c30
      refine jr_sipush (v := 999) dX7_flag_38 (by decide) ?_
      exact jr_sub [2, 3, 0] rfl k
    · have k := k.1 c30
      refine jr_bipush (v := 20) dX7_flag_33 (by decide) ?_
      refine jr_goto (tgt := 41) dX7_flag_35 (by decide) ?_
      exact jr_sub [2, 3, 0] rfl k
  · have k := k.1 c13
    refine jr_aload_n 2 dX7_flag_16 rfl rfl ?_
    obtain ⟨fs9, e10, v12, e11, k⟩ := k
    refine jr_get jf_X7_131 dX7_flag_17 e10 e11 ?_
    refine jr_iload_n 3 dX7_flag_20 rfl rfl ?_
    refine jr_iconst (v := 1) dX7_flag_21 (by decide) ?_
    obtain ⟨n13, f14, e15, e16, k⟩ := k
    refine jr_iastE dX7_flag_22 e15 e16 (fun h17 eh18 => ?_)
    have k := k h17 eh18
    refine jr_iconst (v := 1) dX7_flag_23 (by decide) ?_
    exact jr_iret (ty := .boolean) rfl rfl dX7_flag_24 k
set_option maxRecDepth 20000 in
theorem bX7_flag_41 {g : jG} {d : Nat} {hs : jH} {P : jO → jH → Prop} {x1 : Nat} {x2 : Int32} {x3 : Int32} {s0 : Nat} {s1 : Int32} {h : jH} (k : ∃ fs3 : List Value, h.1 s0 = some (.inr (7, fs3)) ∧ Con g mX7_numberTo d [.ref s0, .int s1] h (jPi (fun (r1 : Int32) (h2 : jH) => (x3 = 131 → ∃ fs13 : List Value, h2.1 x1 = some (.inr (6, fs13)) ∧ ∃ v16 : Nat, fs13[5]? = some (.ref v16) ∧ J g mX7_flag (d + 1) hs P 78 [(2, .int x2), (4, .int r1)] [.ref v16] h2) ∧ (¬ x3 = 131 → (x3 = 138 → ∃ fs9 : List Value, h2.1 x1 = some (.inr (6, fs9)) ∧ ∃ v12 : Nat, fs9[7]? = some (.ref v12) ∧ J g mX7_flag (d + 1) hs P 78 [(2, .int x2), (4, .int r1)] [.ref v12] h2) ∧ (¬ x3 = 138 → ∃ fs5 : List Value, h2.1 x1 = some (.inr (6, fs5)) ∧ ∃ v8 : Nat, fs5[8]? = some (.ref v8) ∧ J g mX7_flag (d + 1) hs P 78 [(2, .int x2), (4, .int r1)] [.ref v8] h2))) (fun E h' => P (.inr E) h'))) : J g mX7_flag (d + 1) hs P 41 [(1, .ref x1), (2, .int x2), (3, .int x3)] [.int s1, .ref s0] h := by
  obtain ⟨fs3, e4, k⟩ := k
  refine jr_cVi (As := [.int s1]) jl_X7_83 km_X7_numberTo rfl rfl dX7_flag_41 e4 (Nat.le_of_ble_eq_true rfl) k (fun r1 h2 k => ?_)
  refine jr_istore (lv' := [(4, .int r1), (1, .ref x1), (2, .int x2), (3, .int x3)]) dX7_flag_44 (by decide) rfl ?_
  refine jr_iload_n 3 dX7_flag_46 rfl rfl ?_
  refine jr_sipush (v := 131) dX7_flag_47 (by decide) ?_
  refine jr_icmp_ne (tgt := 60) dX7_flag_50 (by decide) (fun c50 => ?_) (fun c50 => ?_)
  · have k := k.2 c50
    refine jr_iload_n 3 dX7_flag_60 rfl rfl ?_
    refine jr_sipush (v := 138) dX7_flag_61 (by decide) ?_
    refine jr_icmp_ne (tgt := 74) dX7_flag_64 (by decide) (fun c64 => ?_) (fun c64 => ?_)
    · have k := k.2 c64
      refine jr_aload_n 1 dX7_flag_74 rfl rfl ?_
      obtain ⟨fs5, e6, v8, e7, k⟩ := k
      refine jr_get jf_X7_140 dX7_flag_75 e6 e7 ?_
      exact jr_sub [2, 0] rfl k
    · have k := k.1 c64
      refine jr_aload_n 1 dX7_flag_67 rfl rfl ?_
      obtain ⟨fs9, e10, v12, e11, k⟩ := k
      refine jr_get jf_X7_137 dX7_flag_68 e10 e11 ?_
      refine jr_goto (tgt := 78) dX7_flag_71 (by decide) ?_
      exact jr_sub [2, 0] rfl k
  · have k := k.1 c50
    refine jr_aload_n 1 dX7_flag_53 rfl rfl ?_
    obtain ⟨fs13, e14, v16, e15, k⟩ := k
    refine jr_get jf_X7_134 dX7_flag_54 e14 e15 ?_
    refine jr_goto (tgt := 78) dX7_flag_57 (by decide) ?_
    exact jr_sub [2, 0] rfl k
set_option maxRecDepth 20000 in
theorem bX7_flag_78 {g : jG} {d : Nat} {hs : jH} {P : jO → jH → Prop} {x2 : Int32} {x4 : Int32} {s0 : Nat} {h : jH} (k : ∃ (n1 : Nat) (f2 : Nat → Int32), h.1 s0 = some (.inl (0, (n1, .inl f2))) ∧ vp_in x2 n1 ∧ ∀ h5 : jH, h5 = jset h s0 (.inl (0, (n1, .inl (upd f2 x2.toNatClampNeg x4)))) → (x4 = (-1) → P (.inl (some (.int 0))) h5) ∧ (¬ x4 = (-1) → P (.inl (some (.int 1))) h5)) : J g mX7_flag (d + 1) hs P 78 [(2, .int x2), (4, .int x4)] [.ref s0] h := by
  refine jr_astore (lv' := [(5, .ref s0), (2, .int x2), (4, .int x4)]) dX7_flag_78 (by decide) rfl ?_
  refine jr_aload 0 dX7_flag_80 rfl ?_
  refine jr_iload_n 1 dX7_flag_82 rfl rfl ?_
  refine jr_iload 2 dX7_flag_83 rfl ?_
  obtain ⟨n1, f2, e3, e4, k⟩ := k
  refine jr_iastE dX7_flag_85 e3 e4 (fun h5 eh6 => ?_)
  have k := k h5 eh6
  refine jr_iload 2 dX7_flag_86 rfl ?_
  refine jr_iconst (v := (-1)) dX7_flag_88 (by decide) ?_
  refine jr_icmp_eq (tgt := 96) dX7_flag_89 (by decide) (fun c89 => ?_) (fun c89 => ?_)
  · have k := k.1 c89
    refine jr_iconst (v := 0) dX7_flag_96 (by decide) ?_
    exact jr_iret (ty := .boolean) rfl rfl dX7_flag_97 k
  · have k := k.2 c89
    refine jr_iconst (v := 1) dX7_flag_92 (by decide) ?_
    refine jr_goto (tgt := 97) dX7_flag_93 (by decide) ?_
    exact jr_iret (ty := .boolean) rfl rfl dX7_flag_97 k
set_option maxRecDepth 20000 in
theorem bX7_beginLaw_0 {g : jG} {d : Nat} {hs : jH} {P : jO → jH → Prop} {x0 : Nat} {x1 : Int32} {h : jH} (k : ∃ fs1 : List Value, h.1 x0 = some (.inr (7, fs1)) ∧ 8 < fs1.length ∧ (∀ h4 : jH, h4 = jset h x0 (.inr (7, fs1.set 8 (.int x1))) → ∃ fs6 : List Value, h4.1 x0 = some (.inr (7, fs6)) ∧ 7 < fs6.length ∧ (∀ h9 : jH, h9 = jset h4 x0 (.inr (7, fs6.set 7 (.int 0))) → ∃ fs13 : List Value, h9.1 x0 = some (.inr (7, fs13)) ∧ Con g mX7_skip d [.ref x0] h9 (jPv (fun (h12 : jH) => ∃ fs17 : List Value, h12.1 x0 = some (.inr (7, fs17)) ∧ Con g mX7_expect d [.ref x0, .int 58] h12 (jPi (fun (r15 : Int32) (h16 : jH) => (r15 = 0 ∨ r15 = 1) ∧ P (.inl (some (.int r15))) h16) (fun E h' => P (.inr E) h'))) (fun E h' => P (.inr E) h'))))) : J g mX7_beginLaw (d + 1) hs P 0 [(0, .ref x0), (1, .int x1)] [] h := by
  refine jr_aload_n 0 dX7_beginLaw_0 rfl rfl ?_
  refine jr_iload_n 1 dX7_beginLaw_1 rfl rfl ?_
  obtain ⟨fs1, e2, e3, k⟩ := k
  refine jr_putE jp_X7_143 dX7_beginLaw_2 e2 e3 rfl rfl (fun h4 eh5 => ?_)
  have k := k h4 eh5
  refine jr_aload_n 0 dX7_beginLaw_5 rfl rfl ?_
  refine jr_iconst (v := 0) dX7_beginLaw_6 (by decide) ?_
  obtain ⟨fs6, e7, e8, k⟩ := k
  refine jr_putE jp_X7_146 dX7_beginLaw_7 e7 e8 rfl rfl (fun h9 eh10 => ?_)
  have k := k h9 eh10
  refine jr_aload_n 0 dX7_beginLaw_10 rfl rfl ?_
  obtain ⟨fs13, e14, k⟩ := k
  refine jr_cVv (As := []) jl_X7_43 km_X7_skip rfl rfl dX7_beginLaw_11 e14 (Nat.le_of_ble_eq_true rfl) k (fun h12 k => ?_)
  refine jr_aload_n 0 dX7_beginLaw_14 rfl rfl ?_
  refine jr_bipush (v := 58) dX7_beginLaw_15 (by decide) ?_
  obtain ⟨fs17, e18, k⟩ := k
  refine jr_cVi (As := [.int 58]) jl_X7_46 km_X7_expect rfl rfl dX7_beginLaw_17 e18 (Nat.le_of_ble_eq_true rfl) k (fun r15 h16 k => ?_)
  exact jr_iret (ty := .boolean) rfl (jz_n k.1) dX7_beginLaw_20 k.2
set_option maxRecDepth 20000 in
theorem bX7_keepLaw_0 {g : jG} {d : Nat} {hs : jH} {P : jO → jH → Prop} {x0 : Nat} {x1 : Int32} {h : jH} (k : ∃ fs1 : List Value, h.1 x0 = some (.inr (7, fs1)) ∧ ∃ v4 : Nat, fs1[6]? = some (.ref v4) ∧ ∃ fs5 : List Value, h.1 x0 = some (.inr (7, fs5)) ∧ ∃ v8 : Int32, fs5[7]? = some (.int v8) ∧ Con g mJ7_copyOf_59c91 d [.ref v4, .int (jmax v8 0)] h (jPr (fun (r9 : Nat) (h10 : jH) => (x1 = 141 → ∃ fs29 : List Value, h10.1 x0 = some (.inr (7, fs29)) ∧ ∃ v32 : Nat, fs29[0]? = some (.ref v32) ∧ ∃ fs33 : List Value, h10.1 v32 = some (.inr (9, fs33)) ∧ 4 < fs33.length ∧ (∀ h36 : jH, h36 = jset h10 v32 (.inr (9, fs33.set 4 (.ref r9))) → P (.inl (some (.int 1))) h36)) ∧ (¬ x1 = 141 → (x1 = 142 → ∃ fs20 : List Value, h10.1 x0 = some (.inr (7, fs20)) ∧ ∃ v23 : Nat, fs20[0]? = some (.ref v23) ∧ ∃ fs24 : List Value, h10.1 v23 = some (.inr (9, fs24)) ∧ 5 < fs24.length ∧ (∀ h27 : jH, h27 = jset h10 v23 (.inr (9, fs24.set 5 (.ref r9))) → P (.inl (some (.int 1))) h27)) ∧ (¬ x1 = 142 → ∃ fs11 : List Value, h10.1 x0 = some (.inr (7, fs11)) ∧ ∃ v14 : Nat, fs11[0]? = some (.ref v14) ∧ ∃ fs15 : List Value, h10.1 v14 = some (.inr (9, fs15)) ∧ 6 < fs15.length ∧ (∀ h18 : jH, h18 = jset h10 v14 (.inr (9, fs15.set 6 (.ref r9))) → P (.inl (some (.int 1))) h18)))) (fun E h' => P (.inr E) h'))) : J g mX7_keepLaw (d + 1) hs P 0 [(0, .ref x0), (1, .int x1)] [] h := by
  refine jr_aload_n 0 dX7_keepLaw_0 rfl rfl ?_
  obtain ⟨fs1, e2, v4, e3, k⟩ := k
  refine jr_get jf_X7_25 dX7_keepLaw_1 e2 e3 ?_
  refine jr_aload_n 0 dX7_keepLaw_4 rfl rfl ?_
  obtain ⟨fs5, e6, v8, e7, k⟩ := k
  refine jr_get jf_X7_146 dX7_keepLaw_5 e6 e7 ?_
  refine jr_iconst (v := 0) dX7_keepLaw_8 (by decide) ?_
  refine jr_mmax jl_X7_149 dX7_keepLaw_9 (Nat.le_of_ble_eq_true rfl) ?_
  refine jr_cSr (As := [.ref v4, .int (jmax v8 0)]) jl_X7_155 km_J7_copyOf_59c91 rfl rfl dX7_keepLaw_12 (Nat.le_of_ble_eq_true rfl) k (fun r9 h10 k => ?_)
  refine jr_astore_n (lv' := [(2, .ref r9), (0, .ref x0), (1, .int x1)]) dX7_keepLaw_15 rfl (by decide) rfl ?_
  refine jr_iload_n 2 dX7_keepLaw_16 rfl rfl ?_
  refine jr_sipush (v := 141) dX7_keepLaw_17 (by decide) ?_
  refine jr_icmp_ne (tgt := 34) dX7_keepLaw_20 (by decide) (fun c20 => ?_) (fun c20 => ?_)
  · have k := k.2 c20
    refine jr_iload_n 2 dX7_keepLaw_34 rfl rfl ?_
    refine jr_sipush (v := 142) dX7_keepLaw_35 (by decide) ?_
    refine jr_icmp_ne (tgt := 52) dX7_keepLaw_38 (by decide) (fun c38 => ?_) (fun c38 => ?_)
    · have k := k.2 c38
      refine jr_aload_n 1 dX7_keepLaw_52 rfl rfl ?_
      obtain ⟨fs11, e12, v14, e13, k⟩ := k
      refine jr_get jf_X7_12 dX7_keepLaw_53 e12 e13 ?_
      refine jr_aload_n 0 dX7_keepLaw_56 rfl rfl ?_
      obtain ⟨fs15, e16, e17, k⟩ := k
      refine jr_putE jp_X7_167 dX7_keepLaw_57 e16 e17 rfl rfl (fun h18 eh19 => ?_)
      have k := k h18 eh19
      refine jr_iconst (v := 1) dX7_keepLaw_60 (by decide) ?_
      exact jr_iret (ty := .boolean) rfl rfl dX7_keepLaw_61 k
    · have k := k.1 c38
      refine jr_aload_n 1 dX7_keepLaw_41 rfl rfl ?_
      obtain ⟨fs20, e21, v23, e22, k⟩ := k
      refine jr_get jf_X7_12 dX7_keepLaw_42 e21 e22 ?_
      refine jr_aload_n 0 dX7_keepLaw_45 rfl rfl ?_
      obtain ⟨fs24, e25, e26, k⟩ := k
      refine jr_putE jp_X7_164 dX7_keepLaw_46 e25 e26 rfl rfl (fun h27 eh28 => ?_)
      have k := k h27 eh28
      refine jr_goto (tgt := 60) dX7_keepLaw_49 (by decide) ?_
      refine jr_iconst (v := 1) dX7_keepLaw_60 (by decide) ?_
      exact jr_iret (ty := .boolean) rfl rfl dX7_keepLaw_61 k
  · have k := k.1 c20
    refine jr_aload_n 1 dX7_keepLaw_23 rfl rfl ?_
    obtain ⟨fs29, e30, v32, e31, k⟩ := k
    refine jr_get jf_X7_12 dX7_keepLaw_24 e30 e31 ?_
    refine jr_aload_n 0 dX7_keepLaw_27 rfl rfl ?_
    obtain ⟨fs33, e34, e35, k⟩ := k
    refine jr_putE jp_X7_161 dX7_keepLaw_28 e34 e35 rfl rfl (fun h36 eh37 => ?_)
    have k := k h36 eh37
    refine jr_goto (tgt := 60) dX7_keepLaw_31 (by decide) ?_
    refine jr_iconst (v := 1) dX7_keepLaw_60 (by decide) ?_
    exact jr_iret (ty := .boolean) rfl rfl dX7_keepLaw_61 k
set_option maxRecDepth 20000 in
theorem bX7_emit_0 {g : jG} {d : Nat} {hs : jH} {P : jO → jH → Prop} {x0 : Nat} {x1 : Int32} {h : jH} (k : ∃ fs1 : List Value, h.1 x0 = some (.inr (7, fs1)) ∧ ∃ v4 : Int32, fs1[7]? = some (.int v4) ∧ (v4 < 0 → P (.inl none) h) ∧ (¬ v4 < 0 → ∃ fs5 : List Value, h.1 x0 = some (.inr (7, fs5)) ∧ ∃ v8 : Int32, fs5[7]? = some (.int v8) ∧ (v8 < 900 → ∃ fs9 : List Value, h.1 x0 = some (.inr (7, fs9)) ∧ ∃ v12 : Nat, fs9[6]? = some (.ref v12) ∧ ∃ fs13 : List Value, h.1 x0 = some (.inr (7, fs13)) ∧ ∃ v16 : Int32, fs13[7]? = some (.int v16) ∧ ∃ (n17 : Nat) (f18 : Nat → Int32), h.1 v12 = some (.inl (0, (n17, .inl f18))) ∧ vp_in v16 n17 ∧ ∀ h21 : jH, h21 = jset h v12 (.inl (0, (n17, .inl (upd f18 v16.toNatClampNeg x1)))) → ∃ fs23 : List Value, h21.1 x0 = some (.inr (7, fs23)) ∧ ∃ v26 : Int32, fs23[7]? = some (.int v26) ∧ ∃ fs27 : List Value, h21.1 x0 = some (.inr (7, fs27)) ∧ 7 < fs27.length ∧ (∀ h30 : jH, h30 = jset h21 x0 (.inr (7, fs27.set 7 (.int (v26 + 1)))) → P (.inl none) h30)) ∧ (¬ v8 < 900 → P (.inl none) h))) : J g mX7_emit (d + 1) hs P 0 [(0, .ref x0), (1, .int x1)] [] h := by
  refine jr_aload_n 0 dX7_emit_0 rfl rfl ?_
  obtain ⟨fs1, e2, v4, e3, k⟩ := k
  refine jr_get jf_X7_146 dX7_emit_1 e2 e3 ?_
  refine jr_if_lt (tgt := 37) dX7_emit_4 (by decide) (fun c4 => ?_) (fun c4 => ?_)
  · have k := k.1 c4
    exact jr_vret rfl dX7_emit_37 k
  · have k := k.2 c4
    refine jr_aload_n 0 dX7_emit_7 rfl rfl ?_
    obtain ⟨fs5, e6, v8, e7, k⟩ := k
    refine jr_get jf_X7_146 dX7_emit_8 e6 e7 ?_
    refine jr_sipush (v := 900) dX7_emit_11 (by decide) ?_
    refine jr_icmp_ge (tgt := 37) dX7_emit_14 (by decide) (fun c14 => ?_) (fun c14 => ?_)
    · have k := k.2 c14
      exact jr_vret rfl dX7_emit_37 k
    · have k := k.1 c14
      refine jr_aload_n 0 dX7_emit_17 rfl rfl ?_
      obtain ⟨fs9, e10, v12, e11, k⟩ := k
      refine jr_get jf_X7_25 dX7_emit_18 e10 e11 ?_
      refine jr_aload_n 0 dX7_emit_21 rfl rfl ?_
      obtain ⟨fs13, e14, v16, e15, k⟩ := k
      refine jr_get jf_X7_146 dX7_emit_22 e14 e15 ?_
      refine jr_iload_n 1 dX7_emit_25 rfl rfl ?_
      obtain ⟨n17, f18, e19, e20, k⟩ := k
      refine jr_iastE dX7_emit_26 e19 e20 (fun h21 eh22 => ?_)
      have k := k h21 eh22
      refine jr_aload_n 0 dX7_emit_27 rfl rfl ?_
      refine jr_dup dX7_emit_28 rfl ?_
      obtain ⟨fs23, e24, v26, e25, k⟩ := k
      refine jr_get jf_X7_146 dX7_emit_29 e24 e25 ?_
      refine jr_iconst (v := 1) dX7_emit_32 (by decide) ?_
      refine jr_iadd dX7_emit_33 ?_
      obtain ⟨fs27, e28, e29, k⟩ := k
      refine jr_putE jp_X7_146 dX7_emit_34 e28 e29 rfl rfl (fun h30 eh31 => ?_)
      have k := k h30 eh31
      exact jr_vret rfl dX7_emit_37 k
set_option maxRecDepth 20000 in
theorem bX7_truth_0 {g : jG} {d : Nat} {hs : jH} {P : jO → jH → Prop} {x0 : Nat} {x1 : Int32} {h : jH} (k : ∃ fs3 : List Value, h.1 x0 = some (.inr (7, fs3)) ∧ Con g mX7_both d [.ref x0, .int x1] h (jPi (fun (r1 : Int32) (h2 : jH) => J g mX7_truth (d + 1) hs P 8 [(0, .ref x0), (1, .int x1), (2, .int r1), (3, .int 0)] [] h2) (fun E h' => P (.inr E) h'))) : J g mX7_truth (d + 1) hs P 0 [(0, .ref x0), (1, .int x1)] [] h := by
  refine jr_aload_n 0 dX7_truth_0 rfl rfl ?_
  refine jr_iload_n 1 dX7_truth_1 rfl rfl ?_
  obtain ⟨fs3, e4, k⟩ := k
  refine jr_cVi (As := [.int x1]) jl_X7_170 km_X7_both rfl rfl dX7_truth_2 e4 (Nat.le_of_ble_eq_true rfl) k (fun r1 h2 k => ?_)
  refine jr_istore_n (lv' := [(2, .int r1), (0, .ref x0), (1, .int x1)]) dX7_truth_5 rfl (by decide) rfl ?_
  refine jr_iconst (v := 0) dX7_truth_6 (by decide) ?_
  refine jr_istore_n (lv' := [(3, .int 0), (2, .int r1), (0, .ref x0), (1, .int x1)]) dX7_truth_7 rfl (by decide) rfl ?_
  exact jr_sub [2, 3, 1, 0] rfl k
set_option maxRecDepth 20000 in
theorem bX7_truth_8 {g : jG} {d : Nat} {hs : jH} {P : jO → jH → Prop} {x0 : Nat} {x1 : Int32} {x2 : Int32} {x3 : Int32} {h : jH} (k : (x3 < 900 → (x2 = 0 → (x2 = 0 ∨ x2 = 1) ∧ P (.inl (some (.int x2))) h) ∧ (¬ x2 = 0 → ∃ fs1 : List Value, h.1 x0 = some (.inr (7, fs1)) ∧ ∃ v4 : Int32, fs1[5]? = some (.int v4) ∧ (v4 = 147 → ∃ fs7 : List Value, h.1 x0 = some (.inr (7, fs7)) ∧ Con g mX7_skip d [.ref x0] h (jPv (fun (h6 : jH) => ∃ fs11 : List Value, h6.1 x0 = some (.inr (7, fs11)) ∧ Con g mX7_both d [.ref x0, .int x1] h6 (jPi (fun (r9 : Int32) (h10 : jH) => ∃ fs15 : List Value, h10.1 x0 = some (.inr (7, fs15)) ∧ Con g mX7_emit d [.ref x0, .int 1147] h10 (jPv (fun (h14 : jH) => J g mX7_truth (d + 1) hs P 8 [(0, .ref x0), (1, .int x1), (2, .int r9), (3, .int (x3 + 1))] [] h14) (fun E h' => P (.inr E) h'))) (fun E h' => P (.inr E) h'))) (fun E h' => P (.inr E) h'))) ∧ (¬ v4 = 147 → (x2 = 0 ∨ x2 = 1) ∧ P (.inl (some (.int x2))) h))) ∧ (¬ x3 < 900 → (x2 = 0 ∨ x2 = 1) ∧ P (.inl (some (.int x2))) h)) : J g mX7_truth (d + 1) hs P 8 [(0, .ref x0), (1, .int x1), (2, .int x2), (3, .int x3)] [] h := by
  refine jr_iload_n 3 dX7_truth_8 rfl rfl ?_
  refine jr_sipush (v := 900) dX7_truth_9 (by decide) ?_
  refine jr_icmp_ge (tgt := 52) dX7_truth_12 (by decide) (fun c12 => ?_) (fun c12 => ?_)
  · have k := k.2 c12
    refine jr_iload_n 2 dX7_truth_52 rfl rfl ?_
    exact jr_iret (ty := .boolean) rfl (jz_n k.1) dX7_truth_53 k.2
  · have k := k.1 c12
    refine jr_iload_n 2 dX7_truth_15 rfl rfl ?_
    refine jr_if_eq (tgt := 52) dX7_truth_16 (by decide) (fun c16 => ?_) (fun c16 => ?_)
    · have k := k.1 c16
      refine jr_iload_n 2 dX7_truth_52 rfl rfl ?_
      exact jr_iret (ty := .boolean) rfl (jz_n k.1) dX7_truth_53 k.2
    · have k := k.2 c16
      refine jr_aload_n 0 dX7_truth_19 rfl rfl ?_
      obtain ⟨fs1, e2, v4, e3, k⟩ := k
      refine jr_get jf_X7_50 dX7_truth_20 e2 e3 ?_
      refine jr_sipush (v := 147) dX7_truth_23 (by decide) ?_
      refine jr_icmp_ne (tgt := 52) dX7_truth_26 (by decide) (fun c26 => ?_) (fun c26 => ?_)
      · have k := k.2 c26
        refine jr_iload_n 2 dX7_truth_52 rfl rfl ?_
        exact jr_iret (ty := .boolean) rfl (jz_n k.1) dX7_truth_53 k.2
      · have k := k.1 c26
        refine jr_aload_n 0 dX7_truth_29 rfl rfl ?_
        obtain ⟨fs7, e8, k⟩ := k
        refine jr_cVv (As := []) jl_X7_43 km_X7_skip rfl rfl dX7_truth_30 e8 (Nat.le_of_ble_eq_true rfl) k (fun h6 k => ?_)
        refine jr_aload_n 0 dX7_truth_33 rfl rfl ?_
        refine jr_iload_n 1 dX7_truth_34 rfl rfl ?_
        obtain ⟨fs11, e12, k⟩ := k
        refine jr_cVi (As := [.int x1]) jl_X7_170 km_X7_both rfl rfl dX7_truth_35 e12 (Nat.le_of_ble_eq_true rfl) k (fun r9 h10 k => ?_)
        refine jr_istore_n (lv' := [(2, .int r9), (0, .ref x0), (1, .int x1), (3, .int x3)]) dX7_truth_38 rfl (by decide) rfl ?_
        refine jr_aload_n 1 dX7_truth_39 rfl rfl ?_
        refine jr_sipush (v := 1147) dX7_truth_40 (by decide) ?_
        obtain ⟨fs15, e16, k⟩ := k
        refine jr_cVv (As := [.int 1147]) jl_X7_173 km_X7_emit rfl rfl dX7_truth_43 e16 (Nat.le_of_ble_eq_true rfl) k (fun h14 k => ?_)
        refine jr_iinc (v := (x3 + 1)) (lv' := [(3, .int (x3 + 1)), (2, .int r9), (0, .ref x0), (1, .int x1)]) 3 dX7_truth_46 rfl rfl (by decide) rfl ?_
        refine jr_goto (tgt := 8) dX7_truth_49 (by decide) ?_
        exact jr_sub [2, 3, 1, 0] rfl k
set_option maxRecDepth 20000 in
theorem bX7_both_0 {g : jG} {d : Nat} {hs : jH} {P : jO → jH → Prop} {x0 : Nat} {x1 : Int32} {h : jH} (k : ∃ fs3 : List Value, h.1 x0 = some (.inr (7, fs3)) ∧ Con g mX7_unit d [.ref x0, .int x1] h (jPi (fun (r1 : Int32) (h2 : jH) => J g mX7_both (d + 1) hs P 8 [(0, .ref x0), (1, .int x1), (2, .int r1), (3, .int 0)] [] h2) (fun E h' => P (.inr E) h'))) : J g mX7_both (d + 1) hs P 0 [(0, .ref x0), (1, .int x1)] [] h := by
  refine jr_aload_n 0 dX7_both_0 rfl rfl ?_
  refine jr_iload_n 1 dX7_both_1 rfl rfl ?_
  obtain ⟨fs3, e4, k⟩ := k
  refine jr_cVi (As := [.int x1]) jl_X7_177 km_X7_unit rfl rfl dX7_both_2 e4 (Nat.le_of_ble_eq_true rfl) k (fun r1 h2 k => ?_)
  refine jr_istore_n (lv' := [(2, .int r1), (0, .ref x0), (1, .int x1)]) dX7_both_5 rfl (by decide) rfl ?_
  refine jr_iconst (v := 0) dX7_both_6 (by decide) ?_
  refine jr_istore_n (lv' := [(3, .int 0), (2, .int r1), (0, .ref x0), (1, .int x1)]) dX7_both_7 rfl (by decide) rfl ?_
  exact jr_sub [2, 3, 1, 0] rfl k
set_option maxRecDepth 20000 in
theorem bX7_both_8 {g : jG} {d : Nat} {hs : jH} {P : jO → jH → Prop} {x0 : Nat} {x1 : Int32} {x2 : Int32} {x3 : Int32} {h : jH} (k : (x3 < 900 → (x2 = 0 → (x2 = 0 ∨ x2 = 1) ∧ P (.inl (some (.int x2))) h) ∧ (¬ x2 = 0 → ∃ fs1 : List Value, h.1 x0 = some (.inr (7, fs1)) ∧ ∃ v4 : Int32, fs1[5]? = some (.int v4) ∧ (v4 = 146 → ∃ fs7 : List Value, h.1 x0 = some (.inr (7, fs7)) ∧ Con g mX7_skip d [.ref x0] h (jPv (fun (h6 : jH) => ∃ fs11 : List Value, h6.1 x0 = some (.inr (7, fs11)) ∧ Con g mX7_unit d [.ref x0, .int x1] h6 (jPi (fun (r9 : Int32) (h10 : jH) => ∃ fs15 : List Value, h10.1 x0 = some (.inr (7, fs15)) ∧ Con g mX7_emit d [.ref x0, .int 1146] h10 (jPv (fun (h14 : jH) => J g mX7_both (d + 1) hs P 8 [(0, .ref x0), (1, .int x1), (2, .int r9), (3, .int (x3 + 1))] [] h14) (fun E h' => P (.inr E) h'))) (fun E h' => P (.inr E) h'))) (fun E h' => P (.inr E) h'))) ∧ (¬ v4 = 146 → (x2 = 0 ∨ x2 = 1) ∧ P (.inl (some (.int x2))) h))) ∧ (¬ x3 < 900 → (x2 = 0 ∨ x2 = 1) ∧ P (.inl (some (.int x2))) h)) : J g mX7_both (d + 1) hs P 8 [(0, .ref x0), (1, .int x1), (2, .int x2), (3, .int x3)] [] h := by
  refine jr_iload_n 3 dX7_both_8 rfl rfl ?_
  refine jr_sipush (v := 900) dX7_both_9 (by decide) ?_
  refine jr_icmp_ge (tgt := 52) dX7_both_12 (by decide) (fun c12 => ?_) (fun c12 => ?_)
  · have k := k.2 c12
    refine jr_iload_n 2 dX7_both_52 rfl rfl ?_
    exact jr_iret (ty := .boolean) rfl (jz_n k.1) dX7_both_53 k.2
  · have k := k.1 c12
    refine jr_iload_n 2 dX7_both_15 rfl rfl ?_
    refine jr_if_eq (tgt := 52) dX7_both_16 (by decide) (fun c16 => ?_) (fun c16 => ?_)
    · have k := k.1 c16
      refine jr_iload_n 2 dX7_both_52 rfl rfl ?_
      exact jr_iret (ty := .boolean) rfl (jz_n k.1) dX7_both_53 k.2
    · have k := k.2 c16
      refine jr_aload_n 0 dX7_both_19 rfl rfl ?_
      obtain ⟨fs1, e2, v4, e3, k⟩ := k
      refine jr_get jf_X7_50 dX7_both_20 e2 e3 ?_
      refine jr_sipush (v := 146) dX7_both_23 (by decide) ?_
      refine jr_icmp_ne (tgt := 52) dX7_both_26 (by decide) (fun c26 => ?_) (fun c26 => ?_)
      · have k := k.2 c26
        refine jr_iload_n 2 dX7_both_52 rfl rfl ?_
        exact jr_iret (ty := .boolean) rfl (jz_n k.1) dX7_both_53 k.2
      · have k := k.1 c26
        refine jr_aload_n 0 dX7_both_29 rfl rfl ?_
        obtain ⟨fs7, e8, k⟩ := k
        refine jr_cVv (As := []) jl_X7_43 km_X7_skip rfl rfl dX7_both_30 e8 (Nat.le_of_ble_eq_true rfl) k (fun h6 k => ?_)
        refine jr_aload_n 0 dX7_both_33 rfl rfl ?_
        refine jr_iload_n 1 dX7_both_34 rfl rfl ?_
        obtain ⟨fs11, e12, k⟩ := k
        refine jr_cVi (As := [.int x1]) jl_X7_177 km_X7_unit rfl rfl dX7_both_35 e12 (Nat.le_of_ble_eq_true rfl) k (fun r9 h10 k => ?_)
        refine jr_istore_n (lv' := [(2, .int r9), (0, .ref x0), (1, .int x1), (3, .int x3)]) dX7_both_38 rfl (by decide) rfl ?_
        refine jr_aload_n 1 dX7_both_39 rfl rfl ?_
        refine jr_sipush (v := 1146) dX7_both_40 (by decide) ?_
        obtain ⟨fs15, e16, k⟩ := k
        refine jr_cVv (As := [.int 1146]) jl_X7_173 km_X7_emit rfl rfl dX7_both_43 e16 (Nat.le_of_ble_eq_true rfl) k (fun h14 k => ?_)
        refine jr_iinc (v := (x3 + 1)) (lv' := [(3, .int (x3 + 1)), (2, .int r9), (0, .ref x0), (1, .int x1)]) 3 dX7_both_46 rfl rfl (by decide) rfl ?_
        refine jr_goto (tgt := 8) dX7_both_49 (by decide) ?_
        exact jr_sub [2, 3, 1, 0] rfl k
set_option maxRecDepth 20000 in
theorem bX7_unit_0 {g : jG} {d : Nat} {hs : jH} {P : jO → jH → Prop} {x0 : Nat} {x1 : Int32} {h : jH} (k : J g mX7_unit (d + 1) hs P 4 [(0, .ref x0), (1, .int x1), (2, .int x1), (3, .int 0)] [] h) : J g mX7_unit (d + 1) hs P 0 [(0, .ref x0), (1, .int x1)] [] h := by
  refine jr_iload_n 1 dX7_unit_0 rfl rfl ?_
  refine jr_istore_n (lv' := [(2, .int x1), (0, .ref x0), (1, .int x1)]) dX7_unit_1 rfl (by decide) rfl ?_
  refine jr_iconst (v := 0) dX7_unit_2 (by decide) ?_
  refine jr_istore_n (lv' := [(3, .int 0), (2, .int x1), (0, .ref x0), (1, .int x1)]) dX7_unit_3 rfl (by decide) rfl ?_
  exact jr_sub [2, 3, 1, 0] rfl k
set_option maxRecDepth 20000 in
theorem bX7_unit_4 {g : jG} {d : Nat} {hs : jH} {P : jO → jH → Prop} {x0 : Nat} {x1 : Int32} {x2 : Int32} {x3 : Int32} {h : jH} (k : (6 < x3 → J g mX7_unit (d + 1) hs P 45 [(0, .ref x0), (1, .int x1), (2, .int x2)] [] h) ∧ (¬ 6 < x3 → ∃ fs1 : List Value, h.1 x0 = some (.inr (7, fs1)) ∧ ∃ v4 : Int32, fs1[5]? = some (.int v4) ∧ (v4 = 145 → (x2 < 6 → ∃ fs7 : List Value, h.1 x0 = some (.inr (7, fs7)) ∧ Con g mX7_skip d [.ref x0] h (jPv (fun (h6 : jH) => J g mX7_unit (d + 1) hs P 4 [(0, .ref x0), (1, .int x1), (2, .int (x2 + 1)), (3, .int (x3 + 1))] [] h6) (fun E h' => P (.inr E) h'))) ∧ (¬ x2 < 6 → ∃ fs11 : List Value, h.1 x0 = some (.inr (7, fs11)) ∧ Con g mX7_fail d [.ref x0, .int 4] h (jPi (fun (r9 : Int32) (h10 : jH) => (r9 = 0 ∨ r9 = 1) ∧ P (.inl (some (.int r9))) h10) (fun E h' => P (.inr E) h')))) ∧ (¬ v4 = 145 → J g mX7_unit (d + 1) hs P 45 [(0, .ref x0), (1, .int x1), (2, .int x2)] [] h))) : J g mX7_unit (d + 1) hs P 4 [(0, .ref x0), (1, .int x1), (2, .int x2), (3, .int x3)] [] h := by
  refine jr_iload_n 3 dX7_unit_4 rfl rfl ?_
  refine jr_bipush (v := 6) dX7_unit_5 (by decide) ?_
  refine jr_icmp_gt (tgt := 45) dX7_unit_7 (by decide) (fun c7 => ?_) (fun c7 => ?_)
  · have k := k.1 c7
    exact jr_sub [0, 1, 2] rfl k
  · have k := k.2 c7
    refine jr_aload_n 0 dX7_unit_10 rfl rfl ?_
    obtain ⟨fs1, e2, v4, e3, k⟩ := k
    refine jr_get jf_X7_50 dX7_unit_11 e2 e3 ?_
    refine jr_sipush (v := 145) dX7_unit_14 (by decide) ?_
    refine jr_icmp_ne (tgt := 45) dX7_unit_17 (by decide) (fun c17 => ?_) (fun c17 => ?_)
    · have k := k.2 c17
      exact jr_sub [0, 1, 2] rfl k
    · have k := k.1 c17
      refine jr_iload_n 2 dX7_unit_20 rfl rfl ?_
      refine jr_bipush (v := 6) dX7_unit_21 (by decide) ?_
      refine jr_icmp_lt (tgt := 32) dX7_unit_23 (by decide) (fun c23 => ?_) (fun c23 => ?_)
      · have k := k.1 c23
        refine jr_aload_n 0 dX7_unit_32 rfl rfl ?_
        obtain ⟨fs7, e8, k⟩ := k
        refine jr_cVv (As := []) jl_X7_43 km_X7_skip rfl rfl dX7_unit_33 e8 (Nat.le_of_ble_eq_true rfl) k (fun h6 k => ?_)
        refine jr_iinc (v := (x2 + 1)) (lv' := [(2, .int (x2 + 1)), (0, .ref x0), (1, .int x1), (3, .int x3)]) 2 dX7_unit_36 rfl rfl (by decide) rfl ?_
        refine jr_iinc (v := (x3 + 1)) (lv' := [(3, .int (x3 + 1)), (2, .int (x2 + 1)), (0, .ref x0), (1, .int x1)]) 3 dX7_unit_39 rfl rfl (by decide) rfl ?_
        refine jr_goto (tgt := 4) dX7_unit_42 (by decide) ?_
        exact jr_sub [2, 3, 1, 0] rfl k
      · have k := k.2 c23
        refine jr_aload_n 0 dX7_unit_26 rfl rfl ?_
        refine jr_iconst (v := 4) dX7_unit_27 (by decide) ?_
        obtain ⟨fs11, e12, k⟩ := k
        refine jr_cVi (As := [.int 4]) jl_X7_95 km_X7_fail rfl rfl dX7_unit_28 e12 (Nat.le_of_ble_eq_true rfl) k (fun r9 h10 k => ?_)
        exact jr_iret (ty := .boolean) rfl (jz_n k.1) dX7_unit_31 k.2
set_option maxRecDepth 20000 in
theorem bX7_unit_45 {g : jG} {d : Nat} {hs : jH} {P : jO → jH → Prop} {x0 : Nat} {x1 : Int32} {x2 : Int32} {h : jH} (k : ∃ fs1 : List Value, h.1 x0 = some (.inr (7, fs1)) ∧ ∃ v4 : Int32, fs1[5]? = some (.int v4) ∧ (v4 = 91 → ∃ fs11 : List Value, h.1 x0 = some (.inr (7, fs11)) ∧ Con g mX7_bracket d [.ref x0, .int x2] h (jPi (fun (r9 : Int32) (h10 : jH) => J g mX7_unit (d + 1) hs P 67 [(0, .ref x0), (1, .int x1), (2, .int x2)] [.int r9] h10) (fun E h' => P (.inr E) h'))) ∧ (¬ v4 = 91 → ∃ fs7 : List Value, h.1 x0 = some (.inr (7, fs7)) ∧ Con g mX7_comparison d [.ref x0, .int x2] h (jPi (fun (r5 : Int32) (h6 : jH) => J g mX7_unit (d + 1) hs P 67 [(0, .ref x0), (1, .int x1), (2, .int x2)] [.int r5] h6) (fun E h' => P (.inr E) h')))) : J g mX7_unit (d + 1) hs P 45 [(0, .ref x0), (1, .int x1), (2, .int x2)] [] h := by
  refine jr_aload_n 0 dX7_unit_45 rfl rfl ?_
  obtain ⟨fs1, e2, v4, e3, k⟩ := k
  refine jr_get jf_X7_50 dX7_unit_46 e2 e3 ?_
  refine jr_bipush (v := 91) dX7_unit_49 (by decide) ?_
  refine jr_icmp_ne (tgt := 62) dX7_unit_51 (by decide) (fun c51 => ?_) (fun c51 => ?_)
  · have k := k.2 c51
    refine jr_aload_n 0 dX7_unit_62 rfl rfl ?_
    refine jr_iload_n 2 dX7_unit_63 rfl rfl ?_
    obtain ⟨fs7, e8, k⟩ := k
    refine jr_cVi (As := [.int x2]) jl_X7_183 km_X7_comparison rfl rfl dX7_unit_64 e8 (Nat.le_of_ble_eq_true rfl) k (fun r5 h6 k => ?_)
    exact jr_sub [0, 1, 2] rfl k
  · have k := k.1 c51
    refine jr_aload_n 0 dX7_unit_54 rfl rfl ?_
    refine jr_iload_n 2 dX7_unit_55 rfl rfl ?_
    obtain ⟨fs11, e12, k⟩ := k
    refine jr_cVi (As := [.int x2]) jl_X7_180 km_X7_bracket rfl rfl dX7_unit_56 e12 (Nat.le_of_ble_eq_true rfl) k (fun r9 h10 k => ?_)
    refine jr_goto (tgt := 67) dX7_unit_59 (by decide) ?_
    exact jr_sub [0, 1, 2] rfl k
set_option maxRecDepth 20000 in
theorem bX7_unit_67 {g : jG} {d : Nat} {hs : jH} {P : jO → jH → Prop} {x0 : Nat} {x1 : Int32} {x2 : Int32} {s0 : Int32} {h : jH} (k : (((x2 - x1) &&& 1) = 1 → ∃ fs3 : List Value, h.1 x0 = some (.inr (7, fs3)) ∧ Con g mX7_emit d [.ref x0, .int 1145] h (jPv (fun (h2 : jH) => (s0 = 0 ∨ s0 = 1) ∧ P (.inl (some (.int s0))) h2) (fun E h' => P (.inr E) h'))) ∧ (¬ ((x2 - x1) &&& 1) = 1 → (s0 = 0 ∨ s0 = 1) ∧ P (.inl (some (.int s0))) h)) : J g mX7_unit (d + 1) hs P 67 [(0, .ref x0), (1, .int x1), (2, .int x2)] [.int s0] h := by
  refine jr_istore_n (lv' := [(3, .int s0), (0, .ref x0), (1, .int x1), (2, .int x2)]) dX7_unit_67 rfl (by decide) rfl ?_
  refine jr_iload_n 3 dX7_unit_68 rfl rfl ?_
  refine jr_iload_n 2 dX7_unit_69 rfl rfl ?_
  refine jr_isub dX7_unit_70 ?_
  refine jr_iconst (v := 1) dX7_unit_71 (by decide) ?_
  refine jr_iand dX7_unit_72 ?_
  refine jr_iconst (v := 1) dX7_unit_73 (by decide) ?_
  refine jr_icmp_ne (tgt := 84) dX7_unit_74 (by decide) (fun c74 => ?_) (fun c74 => ?_)
  · have k := k.2 c74
    refine jr_iload_n 0 dX7_unit_84 rfl rfl ?_
    exact jr_iret (ty := .boolean) rfl (jz_n k.1) dX7_unit_85 k.2
  · have k := k.1 c74
    refine jr_aload_n 1 dX7_unit_77 rfl rfl ?_
    refine jr_sipush (v := 1145) dX7_unit_78 (by decide) ?_
    obtain ⟨fs3, e4, k⟩ := k
    refine jr_cVv (As := [.int 1145]) jl_X7_173 km_X7_emit rfl rfl dX7_unit_81 e4 (Nat.le_of_ble_eq_true rfl) k (fun h2 k => ?_)
    refine jr_iload_n 0 dX7_unit_84 rfl rfl ?_
    exact jr_iret (ty := .boolean) rfl (jz_n k.1) dX7_unit_85 k.2
set_option maxRecDepth 20000 in
theorem bX7_bracket_0 {g : jG} {d : Nat} {hs : jH} {P : jO → jH → Prop} {x0 : Nat} {x1 : Int32} {h : jH} (k : (x1 < 6 → ∃ fs3 : List Value, h.1 x0 = some (.inr (7, fs3)) ∧ Con g mX7_skip d [.ref x0] h (jPv (fun (h2 : jH) => ∃ fs7 : List Value, h2.1 x0 = some (.inr (7, fs7)) ∧ Con g mX7_truth d [.ref x0, .int (x1 + 1)] h2 (jPi (fun (r5 : Int32) (h6 : jH) => (r5 = 0 → P (.inl (some (.int 0))) h6) ∧ (¬ r5 = 0 → ∃ fs11 : List Value, h6.1 x0 = some (.inr (7, fs11)) ∧ Con g mX7_expect d [.ref x0, .int 93] h6 (jPi (fun (r9 : Int32) (h10 : jH) => (r9 = 0 → P (.inl (some (.int 0))) h10) ∧ (¬ r9 = 0 → P (.inl (some (.int 1))) h10)) (fun E h' => P (.inr E) h')))) (fun E h' => P (.inr E) h'))) (fun E h' => P (.inr E) h'))) ∧ (¬ x1 < 6 → ∃ fs15 : List Value, h.1 x0 = some (.inr (7, fs15)) ∧ Con g mX7_fail d [.ref x0, .int 4] h (jPi (fun (r13 : Int32) (h14 : jH) => (r13 = 0 ∨ r13 = 1) ∧ P (.inl (some (.int r13))) h14) (fun E h' => P (.inr E) h')))) : J g mX7_bracket (d + 1) hs P 0 [(0, .ref x0), (1, .int x1)] [] h := by
  refine jr_iload_n 1 dX7_bracket_0 rfl rfl ?_
  refine jr_bipush (v := 6) dX7_bracket_1 (by decide) ?_
  refine jr_icmp_lt (tgt := 12) dX7_bracket_3 (by decide) (fun c3 => ?_) (fun c3 => ?_)
  · have k := k.1 c3
    refine jr_aload_n 0 dX7_bracket_12 rfl rfl ?_
    obtain ⟨fs3, e4, k⟩ := k
    refine jr_cVv (As := []) jl_X7_43 km_X7_skip rfl rfl dX7_bracket_13 e4 (Nat.le_of_ble_eq_true rfl) k (fun h2 k => ?_)
    refine jr_aload_n 0 dX7_bracket_16 rfl rfl ?_
    refine jr_iload_n 1 dX7_bracket_17 rfl rfl ?_
    refine jr_iconst (v := 1) dX7_bracket_18 (by decide) ?_
    refine jr_iadd dX7_bracket_19 ?_
    obtain ⟨fs7, e8, k⟩ := k
    refine jr_cVi (As := [.int (x1 + 1)]) jl_X7_80 km_X7_truth rfl rfl dX7_bracket_20 e8 (Nat.le_of_ble_eq_true rfl) k (fun r5 h6 k => ?_)
    refine jr_if_eq (tgt := 39) dX7_bracket_23 (by decide) (fun c23 => ?_) (fun c23 => ?_)
    · have k := k.1 c23
      refine jr_iconst (v := 0) dX7_bracket_39 (by decide) ?_
      exact jr_iret (ty := .boolean) rfl rfl dX7_bracket_40 k
    · have k := k.2 c23
      refine jr_aload_n 0 dX7_bracket_26 rfl rfl ?_
      refine jr_bipush (v := 93) dX7_bracket_27 (by decide) ?_
      obtain ⟨fs11, e12, k⟩ := k
      refine jr_cVi (As := [.int 93]) jl_X7_46 km_X7_expect rfl rfl dX7_bracket_29 e12 (Nat.le_of_ble_eq_true rfl) k (fun r9 h10 k => ?_)
      refine jr_if_eq (tgt := 39) dX7_bracket_32 (by decide) (fun c32 => ?_) (fun c32 => ?_)
      · have k := k.1 c32
        refine jr_iconst (v := 0) dX7_bracket_39 (by decide) ?_
        exact jr_iret (ty := .boolean) rfl rfl dX7_bracket_40 k
      · have k := k.2 c32
        refine jr_iconst (v := 1) dX7_bracket_35 (by decide) ?_
        refine jr_goto (tgt := 40) dX7_bracket_36 (by decide) ?_
        exact jr_iret (ty := .boolean) rfl rfl dX7_bracket_40 k
  · have k := k.2 c3
    refine jr_aload_n 0 dX7_bracket_6 rfl rfl ?_
    refine jr_iconst (v := 4) dX7_bracket_7 (by decide) ?_
    obtain ⟨fs15, e16, k⟩ := k
    refine jr_cVi (As := [.int 4]) jl_X7_95 km_X7_fail rfl rfl dX7_bracket_8 e16 (Nat.le_of_ble_eq_true rfl) k (fun r13 h14 k => ?_)
    exact jr_iret (ty := .boolean) rfl (jz_n k.1) dX7_bracket_11 k.2
set_option maxRecDepth 20000 in
theorem bX7_comparison_0 {g : jG} {d : Nat} {hs : jH} {P : jO → jH → Prop} {x0 : Nat} {x1 : Int32} {h : jH} (k : ∃ fs3 : List Value, h.1 x0 = some (.inr (7, fs3)) ∧ Con g mX7_sum d [.ref x0, .int x1] h (jPi (fun (r1 : Int32) (h2 : jH) => (r1 = 0 → P (.inl (some (.int 0))) h2) ∧ (¬ r1 = 0 → ∃ fs5 : List Value, h2.1 x0 = some (.inr (7, fs5)) ∧ ∃ v8 : Int32, fs5[5]? = some (.int v8) ∧ (v8 = 61 → J g mX7_comparison (d + 1) hs P 39 [(0, .ref x0), (1, .int x1), (2, .int v8)] [] h2) ∧ (¬ v8 = 61 → (v8 = 60 → J g mX7_comparison (d + 1) hs P 39 [(0, .ref x0), (1, .int x1), (2, .int v8)] [] h2) ∧ (¬ v8 = 60 → (v8 = 62 → J g mX7_comparison (d + 1) hs P 39 [(0, .ref x0), (1, .int x1), (2, .int v8)] [] h2) ∧ (¬ v8 = 62 → ∃ fs11 : List Value, h2.1 x0 = some (.inr (7, fs11)) ∧ Con g mX7_fail d [.ref x0, .int 2] h2 (jPi (fun (r9 : Int32) (h10 : jH) => (r9 = 0 ∨ r9 = 1) ∧ P (.inl (some (.int r9))) h10) (fun E h' => P (.inr E) h'))))))) (fun E h' => P (.inr E) h'))) : J g mX7_comparison (d + 1) hs P 0 [(0, .ref x0), (1, .int x1)] [] h := by
  refine jr_aload_n 0 dX7_comparison_0 rfl rfl ?_
  refine jr_iload_n 1 dX7_comparison_1 rfl rfl ?_
  obtain ⟨fs3, e4, k⟩ := k
  refine jr_cVi (As := [.int x1]) jl_X7_74 km_X7_sum rfl rfl dX7_comparison_2 e4 (Nat.le_of_ble_eq_true rfl) k (fun r1 h2 k => ?_)
  refine jr_if_ne (tgt := 10) dX7_comparison_5 (by decide) (fun c5 => ?_) (fun c5 => ?_)
  · have k := k.2 c5
    refine jr_aload_n 0 dX7_comparison_10 rfl rfl ?_
    obtain ⟨fs5, e6, v8, e7, k⟩ := k
    refine jr_get jf_X7_50 dX7_comparison_11 e6 e7 ?_
    refine jr_istore_n (lv' := [(2, .int v8), (0, .ref x0), (1, .int x1)]) dX7_comparison_14 rfl (by decide) rfl ?_
    refine jr_iload_n 0 dX7_comparison_15 rfl rfl ?_
    refine jr_bipush (v := 61) dX7_comparison_16 (by decide) ?_
    refine jr_icmp_eq (tgt := 39) dX7_comparison_18 (by decide) (fun c18 => ?_) (fun c18 => ?_)
    · have k := k.1 c18
      exact jr_sub [1, 2, 0] rfl k
    · have k := k.2 c18
      refine jr_iload_n 0 dX7_comparison_21 rfl rfl ?_
      refine jr_bipush (v := 60) dX7_comparison_22 (by decide) ?_
      refine jr_icmp_eq (tgt := 39) dX7_comparison_24 (by decide) (fun c24 => ?_) (fun c24 => ?_)
      · have k := k.1 c24
        exact jr_sub [1, 2, 0] rfl k
      · have k := k.2 c24
        refine jr_iload_n 0 dX7_comparison_27 rfl rfl ?_
        refine jr_bipush (v := 62) dX7_comparison_28 (by decide) ?_
        refine jr_icmp_eq (tgt := 39) dX7_comparison_30 (by decide) (fun c30 => ?_) (fun c30 => ?_)
        · have k := k.1 c30
          exact jr_sub [1, 2, 0] rfl k
        · have k := k.2 c30
          refine jr_aload_n 1 dX7_comparison_33 rfl rfl ?_
          refine jr_iconst (v := 2) dX7_comparison_34 (by decide) ?_
          obtain ⟨fs11, e12, k⟩ := k
          refine jr_cVi (As := [.int 2]) jl_X7_95 km_X7_fail rfl rfl dX7_comparison_35 e12 (Nat.le_of_ble_eq_true rfl) k (fun r9 h10 k => ?_)
          exact jr_iret (ty := .boolean) rfl (jz_n k.1) dX7_comparison_38 k.2
  · have k := k.1 c5
    refine jr_iconst (v := 0) dX7_comparison_8 (by decide) ?_
    exact jr_iret (ty := .boolean) rfl rfl dX7_comparison_9 k
set_option maxRecDepth 20000 in
theorem bX7_comparison_39 {g : jG} {d : Nat} {hs : jH} {P : jO → jH → Prop} {x0 : Nat} {x1 : Int32} {x2 : Int32} {h : jH} (k : ∃ fs3 : List Value, h.1 x0 = some (.inr (7, fs3)) ∧ Con g mX7_skip d [.ref x0] h (jPv (fun (h2 : jH) => ∃ fs7 : List Value, h2.1 x0 = some (.inr (7, fs7)) ∧ Con g mX7_sum d [.ref x0, .int x1] h2 (jPi (fun (r5 : Int32) (h6 : jH) => ∃ fs11 : List Value, h6.1 x0 = some (.inr (7, fs11)) ∧ Con g mX7_emit d [.ref x0, .int (1000 + x2)] h6 (jPv (fun (h10 : jH) => (r5 = 0 ∨ r5 = 1) ∧ P (.inl (some (.int r5))) h10) (fun E h' => P (.inr E) h'))) (fun E h' => P (.inr E) h'))) (fun E h' => P (.inr E) h'))) : J g mX7_comparison (d + 1) hs P 39 [(0, .ref x0), (1, .int x1), (2, .int x2)] [] h := by
  refine jr_aload_n 0 dX7_comparison_39 rfl rfl ?_
  obtain ⟨fs3, e4, k⟩ := k
  refine jr_cVv (As := []) jl_X7_43 km_X7_skip rfl rfl dX7_comparison_40 e4 (Nat.le_of_ble_eq_true rfl) k (fun h2 k => ?_)
  refine jr_aload_n 0 dX7_comparison_43 rfl rfl ?_
  refine jr_iload_n 1 dX7_comparison_44 rfl rfl ?_
  obtain ⟨fs7, e8, k⟩ := k
  refine jr_cVi (As := [.int x1]) jl_X7_74 km_X7_sum rfl rfl dX7_comparison_45 e8 (Nat.le_of_ble_eq_true rfl) k (fun r5 h6 k => ?_)
  refine jr_istore_n (lv' := [(3, .int r5), (0, .ref x0), (1, .int x1), (2, .int x2)]) dX7_comparison_48 rfl (by decide) rfl ?_
  refine jr_aload_n 1 dX7_comparison_49 rfl rfl ?_
  refine jr_sipush (v := 1000) dX7_comparison_50 (by decide) ?_
  refine jr_iload_n 3 dX7_comparison_53 rfl rfl ?_
  refine jr_iadd dX7_comparison_54 ?_
  obtain ⟨fs11, e12, k⟩ := k
  refine jr_cVv (As := [.int (1000 + x2)]) jl_X7_173 km_X7_emit rfl rfl dX7_comparison_55 e12 (Nat.le_of_ble_eq_true rfl) k (fun h10 k => ?_)
  refine jr_iload_n 0 dX7_comparison_58 rfl rfl ?_
  exact jr_iret (ty := .boolean) rfl (jz_n k.1) dX7_comparison_59 k.2
set_option maxRecDepth 20000 in
theorem bX7_sum_0 {g : jG} {d : Nat} {hs : jH} {P : jO → jH → Prop} {x0 : Nat} {x1 : Int32} {h : jH} (k : ∃ fs3 : List Value, h.1 x0 = some (.inr (7, fs3)) ∧ Con g mX7_term d [.ref x0, .int x1] h (jPi (fun (r1 : Int32) (h2 : jH) => ∃ fs5 : List Value, h2.1 x0 = some (.inr (7, fs5)) ∧ ∃ v8 : Int32, fs5[5]? = some (.int v8) ∧ J g mX7_sum (d + 1) hs P 14 [(0, .ref x0), (1, .int x1), (2, .int r1), (3, .int v8), (4, .int 0)] [] h2) (fun E h' => P (.inr E) h'))) : J g mX7_sum (d + 1) hs P 0 [(0, .ref x0), (1, .int x1)] [] h := by
  refine jr_aload_n 0 dX7_sum_0 rfl rfl ?_
  refine jr_iload_n 1 dX7_sum_1 rfl rfl ?_
  obtain ⟨fs3, e4, k⟩ := k
  refine jr_cVi (As := [.int x1]) jl_X7_186 km_X7_term rfl rfl dX7_sum_2 e4 (Nat.le_of_ble_eq_true rfl) k (fun r1 h2 k => ?_)
  refine jr_istore_n (lv' := [(2, .int r1), (0, .ref x0), (1, .int x1)]) dX7_sum_5 rfl (by decide) rfl ?_
  refine jr_aload_n 1 dX7_sum_6 rfl rfl ?_
  obtain ⟨fs5, e6, v8, e7, k⟩ := k
  refine jr_get jf_X7_50 dX7_sum_7 e6 e7 ?_
  refine jr_istore_n (lv' := [(3, .int v8), (2, .int r1), (0, .ref x0), (1, .int x1)]) dX7_sum_10 rfl (by decide) rfl ?_
  refine jr_iconst (v := 0) dX7_sum_11 (by decide) ?_
  refine jr_istore (lv' := [(4, .int 0), (3, .int v8), (2, .int r1), (0, .ref x0), (1, .int x1)]) dX7_sum_12 (by decide) rfl ?_
  exact jr_sub [3, 4, 2, 1, 0] rfl k
set_option maxRecDepth 20000 in
theorem bX7_sum_14 {g : jG} {d : Nat} {hs : jH} {P : jO → jH → Prop} {x0 : Nat} {x1 : Int32} {x2 : Int32} {x3 : Int32} {x4 : Int32} {h : jH} (k : (x4 < 900 → (x2 = 0 → (x2 = 0 ∨ x2 = 1) ∧ P (.inl (some (.int x2))) h) ∧ (¬ x2 = 0 → (x3 = 43 → J g mX7_sum (d + 1) hs P 38 [(0, .ref x0), (1, .int x1), (3, .int x3), (4, .int x4)] [] h) ∧ (¬ x3 = 43 → (x3 = 45 → J g mX7_sum (d + 1) hs P 38 [(0, .ref x0), (1, .int x1), (3, .int x3), (4, .int x4)] [] h) ∧ (¬ x3 = 45 → (x2 = 0 ∨ x2 = 1) ∧ P (.inl (some (.int x2))) h)))) ∧ (¬ x4 < 900 → (x2 = 0 ∨ x2 = 1) ∧ P (.inl (some (.int x2))) h)) : J g mX7_sum (d + 1) hs P 14 [(0, .ref x0), (1, .int x1), (2, .int x2), (3, .int x3), (4, .int x4)] [] h := by
  refine jr_iload 4 dX7_sum_14 rfl ?_
  refine jr_sipush (v := 900) dX7_sum_16 (by decide) ?_
  refine jr_icmp_ge (tgt := 68) dX7_sum_19 (by decide) (fun c19 => ?_) (fun c19 => ?_)
  · have k := k.2 c19
    refine jr_iload_n 2 dX7_sum_68 rfl rfl ?_
    exact jr_iret (ty := .boolean) rfl (jz_n k.1) dX7_sum_69 k.2
  · have k := k.1 c19
    refine jr_iload_n 2 dX7_sum_22 rfl rfl ?_
    refine jr_if_eq (tgt := 68) dX7_sum_23 (by decide) (fun c23 => ?_) (fun c23 => ?_)
    · have k := k.1 c23
      refine jr_iload_n 2 dX7_sum_68 rfl rfl ?_
      exact jr_iret (ty := .boolean) rfl (jz_n k.1) dX7_sum_69 k.2
    · have k := k.2 c23
      refine jr_iload_n 3 dX7_sum_26 rfl rfl ?_
      refine jr_bipush (v := 43) dX7_sum_27 (by decide) ?_
      refine jr_icmp_eq (tgt := 38) dX7_sum_29 (by decide) (fun c29 => ?_) (fun c29 => ?_)
      · have k := k.1 c29
        exact jr_sub [0, 1, 3, 4] rfl k
      · have k := k.2 c29
        refine jr_iload_n 3 dX7_sum_32 rfl rfl ?_
        refine jr_bipush (v := 45) dX7_sum_33 (by decide) ?_
        refine jr_icmp_ne (tgt := 68) dX7_sum_35 (by decide) (fun c35 => ?_) (fun c35 => ?_)
        · have k := k.2 c35
          refine jr_iload_n 2 dX7_sum_68 rfl rfl ?_
          exact jr_iret (ty := .boolean) rfl (jz_n k.1) dX7_sum_69 k.2
        · have k := k.1 c35
          exact jr_sub [0, 1, 3, 4] rfl k
set_option maxRecDepth 20000 in
theorem bX7_sum_38 {g : jG} {d : Nat} {hs : jH} {P : jO → jH → Prop} {x0 : Nat} {x1 : Int32} {x3 : Int32} {x4 : Int32} {h : jH} (k : ∃ fs3 : List Value, h.1 x0 = some (.inr (7, fs3)) ∧ Con g mX7_skip d [.ref x0] h (jPv (fun (h2 : jH) => ∃ fs7 : List Value, h2.1 x0 = some (.inr (7, fs7)) ∧ Con g mX7_term d [.ref x0, .int x1] h2 (jPi (fun (r5 : Int32) (h6 : jH) => ∃ fs11 : List Value, h6.1 x0 = some (.inr (7, fs11)) ∧ Con g mX7_emit d [.ref x0, .int (1000 + x3)] h6 (jPv (fun (h10 : jH) => ∃ fs13 : List Value, h10.1 x0 = some (.inr (7, fs13)) ∧ ∃ v16 : Int32, fs13[5]? = some (.int v16) ∧ J g mX7_sum (d + 1) hs P 14 [(0, .ref x0), (1, .int x1), (2, .int r5), (3, .int v16), (4, .int (x4 + 1))] [] h10) (fun E h' => P (.inr E) h'))) (fun E h' => P (.inr E) h'))) (fun E h' => P (.inr E) h'))) : J g mX7_sum (d + 1) hs P 38 [(0, .ref x0), (1, .int x1), (3, .int x3), (4, .int x4)] [] h := by
  refine jr_aload_n 0 dX7_sum_38 rfl rfl ?_
  obtain ⟨fs3, e4, k⟩ := k
  refine jr_cVv (As := []) jl_X7_43 km_X7_skip rfl rfl dX7_sum_39 e4 (Nat.le_of_ble_eq_true rfl) k (fun h2 k => ?_)
  refine jr_aload_n 0 dX7_sum_42 rfl rfl ?_
  refine jr_iload_n 1 dX7_sum_43 rfl rfl ?_
  obtain ⟨fs7, e8, k⟩ := k
  refine jr_cVi (As := [.int x1]) jl_X7_186 km_X7_term rfl rfl dX7_sum_44 e8 (Nat.le_of_ble_eq_true rfl) k (fun r5 h6 k => ?_)
  refine jr_istore_n (lv' := [(2, .int r5), (0, .ref x0), (1, .int x1), (3, .int x3), (4, .int x4)]) dX7_sum_47 rfl (by decide) rfl ?_
  refine jr_aload_n 1 dX7_sum_48 rfl rfl ?_
  refine jr_sipush (v := 1000) dX7_sum_49 (by decide) ?_
  refine jr_iload_n 3 dX7_sum_52 rfl rfl ?_
  refine jr_iadd dX7_sum_53 ?_
  obtain ⟨fs11, e12, k⟩ := k
  refine jr_cVv (As := [.int (1000 + x3)]) jl_X7_173 km_X7_emit rfl rfl dX7_sum_54 e12 (Nat.le_of_ble_eq_true rfl) k (fun h10 k => ?_)
  refine jr_aload_n 1 dX7_sum_57 rfl rfl ?_
  obtain ⟨fs13, e14, v16, e15, k⟩ := k
  refine jr_get jf_X7_50 dX7_sum_58 e14 e15 ?_
  refine jr_istore_n (lv' := [(3, .int v16), (2, .int r5), (0, .ref x0), (1, .int x1), (4, .int x4)]) dX7_sum_61 rfl (by decide) rfl ?_
  refine jr_iinc (v := (x4 + 1)) (lv' := [(4, .int (x4 + 1)), (3, .int v16), (2, .int r5), (0, .ref x0), (1, .int x1)]) 4 dX7_sum_62 rfl rfl (by decide) rfl ?_
  refine jr_goto (tgt := 14) dX7_sum_65 (by decide) ?_
  exact jr_sub [3, 4, 2, 1, 0] rfl k
set_option maxRecDepth 20000 in
theorem bX7_term_0 {g : jG} {d : Nat} {hs : jH} {P : jO → jH → Prop} {x0 : Nat} {x1 : Int32} {h : jH} (k : ∃ fs3 : List Value, h.1 x0 = some (.inr (7, fs3)) ∧ Con g mX7_atom d [.ref x0, .int x1] h (jPi (fun (r1 : Int32) (h2 : jH) => J g mX7_term (d + 1) hs P 8 [(0, .ref x0), (1, .int x1), (2, .int r1), (3, .int 0)] [] h2) (fun E h' => P (.inr E) h'))) : J g mX7_term (d + 1) hs P 0 [(0, .ref x0), (1, .int x1)] [] h := by
  refine jr_aload_n 0 dX7_term_0 rfl rfl ?_
  refine jr_iload_n 1 dX7_term_1 rfl rfl ?_
  obtain ⟨fs3, e4, k⟩ := k
  refine jr_cVi (As := [.int x1]) jl_X7_189 km_X7_atom rfl rfl dX7_term_2 e4 (Nat.le_of_ble_eq_true rfl) k (fun r1 h2 k => ?_)
  refine jr_istore_n (lv' := [(2, .int r1), (0, .ref x0), (1, .int x1)]) dX7_term_5 rfl (by decide) rfl ?_
  refine jr_iconst (v := 0) dX7_term_6 (by decide) ?_
  refine jr_istore_n (lv' := [(3, .int 0), (2, .int r1), (0, .ref x0), (1, .int x1)]) dX7_term_7 rfl (by decide) rfl ?_
  exact jr_sub [2, 3, 1, 0] rfl k
set_option maxRecDepth 20000 in
theorem bX7_term_8 {g : jG} {d : Nat} {hs : jH} {P : jO → jH → Prop} {x0 : Nat} {x1 : Int32} {x2 : Int32} {x3 : Int32} {h : jH} (k : (x3 < 900 → (x2 = 0 → (x2 = 0 ∨ x2 = 1) ∧ P (.inl (some (.int x2))) h) ∧ (¬ x2 = 0 → ∃ fs1 : List Value, h.1 x0 = some (.inr (7, fs1)) ∧ ∃ v4 : Int32, fs1[5]? = some (.int v4) ∧ (v4 = 42 → ∃ fs7 : List Value, h.1 x0 = some (.inr (7, fs7)) ∧ Con g mX7_skip d [.ref x0] h (jPv (fun (h6 : jH) => ∃ fs11 : List Value, h6.1 x0 = some (.inr (7, fs11)) ∧ Con g mX7_atom d [.ref x0, .int x1] h6 (jPi (fun (r9 : Int32) (h10 : jH) => ∃ fs15 : List Value, h10.1 x0 = some (.inr (7, fs15)) ∧ Con g mX7_emit d [.ref x0, .int 1042] h10 (jPv (fun (h14 : jH) => J g mX7_term (d + 1) hs P 8 [(0, .ref x0), (1, .int x1), (2, .int r9), (3, .int (x3 + 1))] [] h14) (fun E h' => P (.inr E) h'))) (fun E h' => P (.inr E) h'))) (fun E h' => P (.inr E) h'))) ∧ (¬ v4 = 42 → (x2 = 0 ∨ x2 = 1) ∧ P (.inl (some (.int x2))) h))) ∧ (¬ x3 < 900 → (x2 = 0 ∨ x2 = 1) ∧ P (.inl (some (.int x2))) h)) : J g mX7_term (d + 1) hs P 8 [(0, .ref x0), (1, .int x1), (2, .int x2), (3, .int x3)] [] h := by
  refine jr_iload_n 3 dX7_term_8 rfl rfl ?_
  refine jr_sipush (v := 900) dX7_term_9 (by decide) ?_
  refine jr_icmp_ge (tgt := 51) dX7_term_12 (by decide) (fun c12 => ?_) (fun c12 => ?_)
  · have k := k.2 c12
    refine jr_iload_n 2 dX7_term_51 rfl rfl ?_
    exact jr_iret (ty := .boolean) rfl (jz_n k.1) dX7_term_52 k.2
  · have k := k.1 c12
    refine jr_iload_n 2 dX7_term_15 rfl rfl ?_
    refine jr_if_eq (tgt := 51) dX7_term_16 (by decide) (fun c16 => ?_) (fun c16 => ?_)
    · have k := k.1 c16
      refine jr_iload_n 2 dX7_term_51 rfl rfl ?_
      exact jr_iret (ty := .boolean) rfl (jz_n k.1) dX7_term_52 k.2
    · have k := k.2 c16
      refine jr_aload_n 0 dX7_term_19 rfl rfl ?_
      obtain ⟨fs1, e2, v4, e3, k⟩ := k
      refine jr_get jf_X7_50 dX7_term_20 e2 e3 ?_
      refine jr_bipush (v := 42) dX7_term_23 (by decide) ?_
      refine jr_icmp_ne (tgt := 51) dX7_term_25 (by decide) (fun c25 => ?_) (fun c25 => ?_)
      · have k := k.2 c25
        refine jr_iload_n 2 dX7_term_51 rfl rfl ?_
        exact jr_iret (ty := .boolean) rfl (jz_n k.1) dX7_term_52 k.2
      · have k := k.1 c25
        refine jr_aload_n 0 dX7_term_28 rfl rfl ?_
        obtain ⟨fs7, e8, k⟩ := k
        refine jr_cVv (As := []) jl_X7_43 km_X7_skip rfl rfl dX7_term_29 e8 (Nat.le_of_ble_eq_true rfl) k (fun h6 k => ?_)
        refine jr_aload_n 0 dX7_term_32 rfl rfl ?_
        refine jr_iload_n 1 dX7_term_33 rfl rfl ?_
        obtain ⟨fs11, e12, k⟩ := k
        refine jr_cVi (As := [.int x1]) jl_X7_189 km_X7_atom rfl rfl dX7_term_34 e12 (Nat.le_of_ble_eq_true rfl) k (fun r9 h10 k => ?_)
        refine jr_istore_n (lv' := [(2, .int r9), (0, .ref x0), (1, .int x1), (3, .int x3)]) dX7_term_37 rfl (by decide) rfl ?_
        refine jr_aload_n 1 dX7_term_38 rfl rfl ?_
        refine jr_sipush (v := 1042) dX7_term_39 (by decide) ?_
        obtain ⟨fs15, e16, k⟩ := k
        refine jr_cVv (As := [.int 1042]) jl_X7_173 km_X7_emit rfl rfl dX7_term_42 e16 (Nat.le_of_ble_eq_true rfl) k (fun h14 k => ?_)
        refine jr_iinc (v := (x3 + 1)) (lv' := [(3, .int (x3 + 1)), (2, .int r9), (0, .ref x0), (1, .int x1)]) 3 dX7_term_45 rfl rfl (by decide) rfl ?_
        refine jr_goto (tgt := 8) dX7_term_48 (by decide) ?_
        exact jr_sub [2, 3, 1, 0] rfl k
set_option maxRecDepth 20000 in
theorem bX7_atom_0 {g : jG} {d : Nat} {hs : jH} {P : jO → jH → Prop} {x0 : Nat} {x1 : Int32} {h : jH} (k : ∃ fs1 : List Value, h.1 x0 = some (.inr (7, fs1)) ∧ ∃ v4 : Int32, fs1[5]? = some (.int v4) ∧ (v4 = 40 → ∃ fs43 : List Value, h.1 x0 = some (.inr (7, fs43)) ∧ Con g mX7_parenthesis d [.ref x0, .int x1] h (jPi (fun (r41 : Int32) (h42 : jH) => (r41 = 0 ∨ r41 = 1) ∧ P (.inl (some (.int r41))) h42) (fun E h' => P (.inr E) h'))) ∧ (¬ v4 = 40 → ∃ fs5 : List Value, h.1 x0 = some (.inr (7, fs5)) ∧ ∃ v8 : Int32, fs5[5]? = some (.int v8) ∧ (v8 = 2 → ∃ fs35 : List Value, h.1 x0 = some (.inr (7, fs35)) ∧ Con g mX7_number d [.ref x0] h (jPi (fun (r33 : Int32) (h34 : jH) => ∃ fs39 : List Value, h34.1 x0 = some (.inr (7, fs39)) ∧ Con g mX7_emit d [.ref x0, .int r33] h34 (jPv (fun (h38 : jH) => J g mX7_atom (d + 1) hs P 94 [(0, .ref x0)] [] h38) (fun E h' => P (.inr E) h'))) (fun E h' => P (.inr E) h'))) ∧ (¬ v8 = 2 → ∃ fs9 : List Value, h.1 x0 = some (.inr (7, fs9)) ∧ ∃ v12 : Int32, fs9[5]? = some (.int v12) ∧ (v12 < 128 → J g mX7_atom (d + 1) hs P 88 [(0, .ref x0)] [] h) ∧ (¬ v12 < 128 → ∃ fs13 : List Value, h.1 x0 = some (.inr (7, fs13)) ∧ ∃ v16 : Int32, fs13[5]? = some (.int v16) ∧ (134 < v16 → J g mX7_atom (d + 1) hs P 88 [(0, .ref x0)] [] h) ∧ (¬ 134 < v16 → ∃ fs17 : List Value, h.1 x0 = some (.inr (7, fs17)) ∧ ∃ v20 : Int32, fs17[8]? = some (.int v20) ∧ ∃ fs21 : List Value, h.1 x0 = some (.inr (7, fs21)) ∧ ∃ v24 : Int32, fs21[5]? = some (.int v24) ∧ (((v20 >>> ((v24 - 128) &&& 31)) &&& 1) = 1 → ∃ fs25 : List Value, h.1 x0 = some (.inr (7, fs25)) ∧ ∃ v28 : Int32, fs25[5]? = some (.int v28) ∧ ∃ fs31 : List Value, h.1 x0 = some (.inr (7, fs31)) ∧ Con g mX7_emit d [.ref x0, .int (1000 + v28)] h (jPv (fun (h30 : jH) => J g mX7_atom (d + 1) hs P 94 [(0, .ref x0)] [] h30) (fun E h' => P (.inr E) h'))) ∧ (¬ ((v20 >>> ((v24 - 128) &&& 31)) &&& 1) = 1 → J g mX7_atom (d + 1) hs P 88 [(0, .ref x0)] [] h)))))) : J g mX7_atom (d + 1) hs P 0 [(0, .ref x0), (1, .int x1)] [] h := by
  refine jr_aload_n 0 dX7_atom_0 rfl rfl ?_
  obtain ⟨fs1, e2, v4, e3, k⟩ := k
  refine jr_get jf_X7_50 dX7_atom_1 e2 e3 ?_
  refine jr_bipush (v := 40) dX7_atom_4 (by decide) ?_
  refine jr_icmp_ne (tgt := 15) dX7_atom_6 (by decide) (fun c6 => ?_) (fun c6 => ?_)
  · have k := k.2 c6
    refine jr_aload_n 0 dX7_atom_15 rfl rfl ?_
    obtain ⟨fs5, e6, v8, e7, k⟩ := k
    refine jr_get jf_X7_50 dX7_atom_16 e6 e7 ?_
    refine jr_iconst (v := 2) dX7_atom_19 (by decide) ?_
    refine jr_icmp_ne (tgt := 34) dX7_atom_20 (by decide) (fun c20 => ?_) (fun c20 => ?_)
    · have k := k.2 c20
      refine jr_aload_n 0 dX7_atom_34 rfl rfl ?_
      obtain ⟨fs9, e10, v12, e11, k⟩ := k
      refine jr_get jf_X7_50 dX7_atom_35 e10 e11 ?_
      refine jr_sipush (v := 128) dX7_atom_38 (by decide) ?_
      refine jr_icmp_lt (tgt := 88) dX7_atom_41 (by decide) (fun c41 => ?_) (fun c41 => ?_)
      · have k := k.1 c41
        exact jr_sub [0] rfl k
      · have k := k.2 c41
        refine jr_aload_n 0 dX7_atom_44 rfl rfl ?_
        obtain ⟨fs13, e14, v16, e15, k⟩ := k
        refine jr_get jf_X7_50 dX7_atom_45 e14 e15 ?_
        refine jr_sipush (v := 134) dX7_atom_48 (by decide) ?_
        refine jr_icmp_gt (tgt := 88) dX7_atom_51 (by decide) (fun c51 => ?_) (fun c51 => ?_)
        · have k := k.1 c51
          exact jr_sub [0] rfl k
        · have k := k.2 c51
          refine jr_aload_n 0 dX7_atom_54 rfl rfl ?_
          obtain ⟨fs17, e18, v20, e19, k⟩ := k
          refine jr_get jf_X7_143 dX7_atom_55 e18 e19 ?_
          refine jr_aload_n 0 dX7_atom_58 rfl rfl ?_
          obtain ⟨fs21, e22, v24, e23, k⟩ := k
          refine jr_get jf_X7_50 dX7_atom_59 e22 e23 ?_
          refine jr_sipush (v := 128) dX7_atom_62 (by decide) ?_
          refine jr_isub dX7_atom_65 ?_
          refine jr_ishr dX7_atom_66 ?_
          refine jr_iconst (v := 1) dX7_atom_67 (by decide) ?_
          refine jr_iand dX7_atom_68 ?_
          refine jr_iconst (v := 1) dX7_atom_69 (by decide) ?_
          refine jr_icmp_ne (tgt := 88) dX7_atom_70 (by decide) (fun c70 => ?_) (fun c70 => ?_)
          · have k := k.2 c70
            exact jr_sub [0] rfl k
          · have k := k.1 c70
            refine jr_aload_n 0 dX7_atom_73 rfl rfl ?_
            refine jr_sipush (v := 1000) dX7_atom_74 (by decide) ?_
            refine jr_aload_n 0 dX7_atom_77 rfl rfl ?_
            obtain ⟨fs25, e26, v28, e27, k⟩ := k
            refine jr_get jf_X7_50 dX7_atom_78 e26 e27 ?_
            refine jr_iadd dX7_atom_81 ?_
            obtain ⟨fs31, e32, k⟩ := k
            refine jr_cVv (As := [.int (1000 + v28)]) jl_X7_173 km_X7_emit rfl rfl dX7_atom_82 e32 (Nat.le_of_ble_eq_true rfl) k (fun h30 k => ?_)
            refine jr_goto (tgt := 94) dX7_atom_85 (by decide) ?_
            exact jr_sub [0] rfl k
    · have k := k.1 c20
      refine jr_aload_n 0 dX7_atom_23 rfl rfl ?_
      refine jr_aload_n 0 dX7_atom_24 rfl rfl ?_
      obtain ⟨fs35, e36, k⟩ := k
      refine jr_cVi (As := []) jl_X7_110 km_X7_number rfl rfl dX7_atom_25 e36 (Nat.le_of_ble_eq_true rfl) k (fun r33 h34 k => ?_)
      obtain ⟨fs39, e40, k⟩ := k
      refine jr_cVv (As := [.int r33]) jl_X7_173 km_X7_emit rfl rfl dX7_atom_28 e40 (Nat.le_of_ble_eq_true rfl) k (fun h38 k => ?_)
      refine jr_goto (tgt := 94) dX7_atom_31 (by decide) ?_
      exact jr_sub [0] rfl k
  · have k := k.1 c6
    refine jr_aload_n 0 dX7_atom_9 rfl rfl ?_
    refine jr_iload_n 1 dX7_atom_10 rfl rfl ?_
    obtain ⟨fs43, e44, k⟩ := k
    refine jr_cVi (As := [.int x1]) jl_X7_192 km_X7_parenthesis rfl rfl dX7_atom_11 e44 (Nat.le_of_ble_eq_true rfl) k (fun r41 h42 k => ?_)
    exact jr_iret (ty := .boolean) rfl (jz_n k.1) dX7_atom_14 k.2
set_option maxRecDepth 20000 in
theorem bX7_atom_88 {g : jG} {d : Nat} {hs : jH} {P : jO → jH → Prop} {x0 : Nat} {h : jH} (k : ∃ fs3 : List Value, h.1 x0 = some (.inr (7, fs3)) ∧ Con g mX7_fail d [.ref x0, .int 2] h (jPi (fun (r1 : Int32) (h2 : jH) => (r1 = 0 ∨ r1 = 1) ∧ P (.inl (some (.int r1))) h2) (fun E h' => P (.inr E) h'))) : J g mX7_atom (d + 1) hs P 88 [(0, .ref x0)] [] h := by
  refine jr_aload_n 0 dX7_atom_88 rfl rfl ?_
  refine jr_iconst (v := 2) dX7_atom_89 (by decide) ?_
  obtain ⟨fs3, e4, k⟩ := k
  refine jr_cVi (As := [.int 2]) jl_X7_95 km_X7_fail rfl rfl dX7_atom_90 e4 (Nat.le_of_ble_eq_true rfl) k (fun r1 h2 k => ?_)
  exact jr_iret (ty := .boolean) rfl (jz_n k.1) dX7_atom_93 k.2
set_option maxRecDepth 20000 in
theorem bX7_atom_94 {g : jG} {d : Nat} {hs : jH} {P : jO → jH → Prop} {x0 : Nat} {h : jH} (k : ∃ fs3 : List Value, h.1 x0 = some (.inr (7, fs3)) ∧ Con g mX7_skip d [.ref x0] h (jPv (fun (h2 : jH) => P (.inl (some (.int 1))) h2) (fun E h' => P (.inr E) h'))) : J g mX7_atom (d + 1) hs P 94 [(0, .ref x0)] [] h := by
  refine jr_aload_n 0 dX7_atom_94 rfl rfl ?_
  obtain ⟨fs3, e4, k⟩ := k
  refine jr_cVv (As := []) jl_X7_43 km_X7_skip rfl rfl dX7_atom_95 e4 (Nat.le_of_ble_eq_true rfl) k (fun h2 k => ?_)
  refine jr_iconst (v := 1) dX7_atom_98 (by decide) ?_
  exact jr_iret (ty := .boolean) rfl rfl dX7_atom_99 k
set_option maxRecDepth 20000 in
theorem bX7_parenthesis_0 {g : jG} {d : Nat} {hs : jH} {P : jO → jH → Prop} {x0 : Nat} {x1 : Int32} {h : jH} (k : (x1 < 6 → ∃ fs3 : List Value, h.1 x0 = some (.inr (7, fs3)) ∧ Con g mX7_skip d [.ref x0] h (jPv (fun (h2 : jH) => ∃ fs7 : List Value, h2.1 x0 = some (.inr (7, fs7)) ∧ Con g mX7_sum d [.ref x0, .int (x1 + 1)] h2 (jPi (fun (r5 : Int32) (h6 : jH) => (r5 = 0 → P (.inl (some (.int 0))) h6) ∧ (¬ r5 = 0 → ∃ fs11 : List Value, h6.1 x0 = some (.inr (7, fs11)) ∧ Con g mX7_expect d [.ref x0, .int 41] h6 (jPi (fun (r9 : Int32) (h10 : jH) => (r9 = 0 → P (.inl (some (.int 0))) h10) ∧ (¬ r9 = 0 → P (.inl (some (.int 1))) h10)) (fun E h' => P (.inr E) h')))) (fun E h' => P (.inr E) h'))) (fun E h' => P (.inr E) h'))) ∧ (¬ x1 < 6 → ∃ fs15 : List Value, h.1 x0 = some (.inr (7, fs15)) ∧ Con g mX7_fail d [.ref x0, .int 4] h (jPi (fun (r13 : Int32) (h14 : jH) => (r13 = 0 ∨ r13 = 1) ∧ P (.inl (some (.int r13))) h14) (fun E h' => P (.inr E) h')))) : J g mX7_parenthesis (d + 1) hs P 0 [(0, .ref x0), (1, .int x1)] [] h := by
  refine jr_iload_n 1 dX7_parenthesis_0 rfl rfl ?_
  refine jr_bipush (v := 6) dX7_parenthesis_1 (by decide) ?_
  refine jr_icmp_lt (tgt := 12) dX7_parenthesis_3 (by decide) (fun c3 => ?_) (fun c3 => ?_)
  · have k := k.1 c3
    refine jr_aload_n 0 dX7_parenthesis_12 rfl rfl ?_
    obtain ⟨fs3, e4, k⟩ := k
    refine jr_cVv (As := []) jl_X7_43 km_X7_skip rfl rfl dX7_parenthesis_13 e4 (Nat.le_of_ble_eq_true rfl) k (fun h2 k => ?_)
    refine jr_aload_n 0 dX7_parenthesis_16 rfl rfl ?_
    refine jr_iload_n 1 dX7_parenthesis_17 rfl rfl ?_
    refine jr_iconst (v := 1) dX7_parenthesis_18 (by decide) ?_
    refine jr_iadd dX7_parenthesis_19 ?_
    obtain ⟨fs7, e8, k⟩ := k
    refine jr_cVi (As := [.int (x1 + 1)]) jl_X7_74 km_X7_sum rfl rfl dX7_parenthesis_20 e8 (Nat.le_of_ble_eq_true rfl) k (fun r5 h6 k => ?_)
    refine jr_if_eq (tgt := 39) dX7_parenthesis_23 (by decide) (fun c23 => ?_) (fun c23 => ?_)
    · have k := k.1 c23
      refine jr_iconst (v := 0) dX7_parenthesis_39 (by decide) ?_
      exact jr_iret (ty := .boolean) rfl rfl dX7_parenthesis_40 k
    · have k := k.2 c23
      refine jr_aload_n 0 dX7_parenthesis_26 rfl rfl ?_
      refine jr_bipush (v := 41) dX7_parenthesis_27 (by decide) ?_
      obtain ⟨fs11, e12, k⟩ := k
      refine jr_cVi (As := [.int 41]) jl_X7_46 km_X7_expect rfl rfl dX7_parenthesis_29 e12 (Nat.le_of_ble_eq_true rfl) k (fun r9 h10 k => ?_)
      refine jr_if_eq (tgt := 39) dX7_parenthesis_32 (by decide) (fun c32 => ?_) (fun c32 => ?_)
      · have k := k.1 c32
        refine jr_iconst (v := 0) dX7_parenthesis_39 (by decide) ?_
        exact jr_iret (ty := .boolean) rfl rfl dX7_parenthesis_40 k
      · have k := k.2 c32
        refine jr_iconst (v := 1) dX7_parenthesis_35 (by decide) ?_
        refine jr_goto (tgt := 40) dX7_parenthesis_36 (by decide) ?_
        exact jr_iret (ty := .boolean) rfl rfl dX7_parenthesis_40 k
  · have k := k.2 c3
    refine jr_aload_n 0 dX7_parenthesis_6 rfl rfl ?_
    refine jr_iconst (v := 4) dX7_parenthesis_7 (by decide) ?_
    obtain ⟨fs15, e16, k⟩ := k
    refine jr_cVi (As := [.int 4]) jl_X7_95 km_X7_fail rfl rfl dX7_parenthesis_8 e16 (Nat.le_of_ble_eq_true rfl) k (fun r13 h14 k => ?_)
    exact jr_iret (ty := .boolean) rfl (jz_n k.1) dX7_parenthesis_11 k.2
