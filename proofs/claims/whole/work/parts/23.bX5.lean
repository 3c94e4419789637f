set_option maxRecDepth 20000 in
theorem bX5_init_0 {g : jG} {d : Nat} {hs : jH} {P : jO → jH → Prop} {x0 : Nat} {h : jH} (k : ∃ N1 : Nat, (7 : Int32) = nI N1 ∧ N1 < 60000000 ∧ jroom g h 1 N1 ∧ ∀ (q4 : Nat) (h5 : jH), q4 = h.2.1 → h5 = jnew h (.inl (0, (N1, .inl (fun _ => 0)))) N1 → ∃ fs9 : List Value, h5.1 x0 = some (.inr (5, fs9)) ∧ 0 < fs9.length ∧ (∀ h12 : jH, h12 = jset h5 x0 (.inr (5, fs9.set 0 (.ref q4))) → ∃ N14 : Nat, (64 : Int32) = nI N14 ∧ N14 < 60000000 ∧ jroom g h12 1 N14 ∧ ∀ (q17 : Nat) (h18 : jH), q17 = h12.2.1 → h18 = jnew h12 (.inl (0, (N14, .inl (fun _ => 0)))) N14 → ∃ fs22 : List Value, h18.1 x0 = some (.inr (5, fs22)) ∧ 1 < fs22.length ∧ (∀ h25 : jH, h25 = jset h18 x0 (.inr (5, fs22.set 1 (.ref q17))) → P (.inl none) h25))) : J g mX5_init (d + 1) hs P 0 [(0, .ref x0)] [] h := by
  refine jr_aload_n 0 dX5_init_0 rfl rfl ?_
  refine jr_objInit jl_X5_3 dX5_init_1 (Nat.le_of_ble_eq_true rfl) ?_
  refine jr_aload_n 0 dX5_init_4 rfl rfl ?_
  refine jr_bipush (v := 7) dX5_init_5 (by decide) ?_
  obtain ⟨N1, e2, e3, rm8, k⟩ := k
  refine jr_new_int e2 e3 rm8 dX5_init_7 (fun q4 h5 eq6 eh7 => ?_)
  have k := k q4 h5 eq6 eh7
  obtain ⟨fs9, e10, e11, k⟩ := k
  refine jr_putFE jp_X5_9 (fun C T N hc => by cases hc; rfl) rfl dX5_init_9 e10 e11 rfl rfl (fun h12 eh13 => ?_)
  have k := k h12 eh13
  refine jr_aload_n 0 dX5_init_12 rfl rfl ?_
  refine jr_bipush (v := 64) dX5_init_13 (by decide) ?_
  obtain ⟨N14, e15, e16, rm21, k⟩ := k
  refine jr_new_int e15 e16 rm21 dX5_init_15 (fun q17 h18 eq19 eh20 => ?_)
  have k := k q17 h18 eq19 eh20
  obtain ⟨fs22, e23, e24, k⟩ := k
  refine jr_putFE jp_X5_15 (fun C T N hc => by cases hc; rfl) rfl dX5_init_17 e23 e24 rfl rfl (fun h25 eh26 => ?_)
  have k := k h25 eh26
  exact jr_vret rfl dX5_init_20 k
set_option maxRecDepth 20000 in
theorem bX5_put_0 {g : jG} {d : Nat} {hs : jH} {P : jO → jH → Prop} {x0 : Nat} {x1 : Int32} {x2 : Int32} {x3 : Int32} {x4 : Int32} {h : jH} (k : ∃ fs1 : List Value, h.1 x0 = some (.inr (5, fs1)) ∧ ∃ v4 : Nat, fs1[0]? = some (.ref v4) ∧ ∃ (n5 : Nat) (f6 : Nat → Int32), h.1 v4 = some (.inl (0, (n5, .inl f6))) ∧ vp_in 0 n5 ∧ ∀ h9 : jH, h9 = jset h v4 (.inl (0, (n5, .inl (upd f6 ((0 : Int32)).toNatClampNeg x1)))) → ∃ fs11 : List Value, h9.1 x0 = some (.inr (5, fs11)) ∧ ∃ v14 : Nat, fs11[0]? = some (.ref v14) ∧ ∃ (n15 : Nat) (f16 : Nat → Int32), h9.1 v14 = some (.inl (0, (n15, .inl f16))) ∧ vp_in 1 n15 ∧ ∀ h19 : jH, h19 = jset h9 v14 (.inl (0, (n15, .inl (upd f16 ((1 : Int32)).toNatClampNeg x2)))) → ∃ fs21 : List Value, h19.1 x0 = some (.inr (5, fs21)) ∧ ∃ v24 : Nat, fs21[0]? = some (.ref v24) ∧ ∃ (n25 : Nat) (f26 : Nat → Int32), h19.1 v24 = some (.inl (0, (n25, .inl f26))) ∧ vp_in 2 n25 ∧ ∀ h29 : jH, h29 = jset h19 v24 (.inl (0, (n25, .inl (upd f26 ((2 : Int32)).toNatClampNeg ((x3 - x3 / 1000 * 1000)))))) → ∃ fs31 : List Value, h29.1 x0 = some (.inr (5, fs31)) ∧ ∃ v34 : Nat, fs31[0]? = some (.ref v34) ∧ ∃ (n35 : Nat) (f36 : Nat → Int32), h29.1 v34 = some (.inl (0, (n35, .inl f36))) ∧ vp_in 3 n35 ∧ ∀ h39 : jH, h39 = jset h29 v34 (.inl (0, (n35, .inl (upd f36 ((3 : Int32)).toNatClampNeg x4)))) → P (.inl none) h39) : J g mX5_put (d + 1) hs P 0 [(0, .ref x0), (1, .int x1), (2, .int x2), (3, .int x3), (4, .int x4)] [] h := by
  refine jr_aload_n 0 dX5_put_0 rfl rfl ?_
  obtain ⟨fs1, e2, v4, e3, k⟩ := k
  refine jr_get jf_X5_9 dX5_put_1 e2 e3 ?_
  refine jr_iconst (v := 0) dX5_put_4 (by decide) ?_
  refine jr_iload_n 1 dX5_put_5 rfl rfl ?_
  obtain ⟨n5, f6, e7, e8, k⟩ := k
  refine jr_iastE dX5_put_6 e7 e8 (fun h9 eh10 => ?_)
  have k := k h9 eh10
  refine jr_aload_n 0 dX5_put_7 rfl rfl ?_
  obtain ⟨fs11, e12, v14, e13, k⟩ := k
  refine jr_get jf_X5_9 dX5_put_8 e12 e13 ?_
  refine jr_iconst (v := 1) dX5_put_11 (by decide) ?_
  refine jr_iload_n 2 dX5_put_12 rfl rfl ?_
  obtain ⟨n15, f16, e17, e18, k⟩ := k
  refine jr_iastE dX5_put_13 e17 e18 (fun h19 eh20 => ?_)
  have k := k h19 eh20
  refine jr_aload_n 0 dX5_put_14 rfl rfl ?_
  obtain ⟨fs21, e22, v24, e23, k⟩ := k
  refine jr_get jf_X5_9 dX5_put_15 e22 e23 ?_
  refine jr_iconst (v := 2) dX5_put_18 (by decide) ?_
  refine jr_iload_n 3 dX5_put_19 rfl rfl ?_
  refine jr_sipush (v := 1000) dX5_put_20 (by decide) ?_
  refine jr_irem dX5_put_23 (by decide) ?_
  obtain ⟨n25, f26, e27, e28, k⟩ := k
  refine jr_iastE dX5_put_24 e27 e28 (fun h29 eh30 => ?_)
  have k := k h29 eh30
  refine jr_aload_n 0 dX5_put_25 rfl rfl ?_
  obtain ⟨fs31, e32, v34, e33, k⟩ := k
  refine jr_get jf_X5_9 dX5_put_26 e32 e33 ?_
  refine jr_iconst (v := 3) dX5_put_29 (by decide) ?_
  refine jr_iload 4 dX5_put_30 rfl ?_
  obtain ⟨n35, f36, e37, e38, k⟩ := k
  refine jr_iastE dX5_put_32 e37 e38 (fun h39 eh40 => ?_)
  have k := k h39 eh40
  exact jr_vret rfl dX5_put_33 k
set_option maxRecDepth 20000 in
theorem bX5_weigh_0 {g : jG} {d : Nat} {hs : jH} {P : jO → jH → Prop} {x0 : Nat} {x1 : Nat} {h : jH} (k : J g mX5_weigh (d + 1) hs P 4 [(0, .ref x0), (1, .ref x1), (2, .int 0), (3, .int 0)] [] h) : J g mX5_weigh (d + 1) hs P 0 [(0, .ref x0), (1, .ref x1)] [] h := by
  refine jr_iconst (v := 0) dX5_weigh_0 (by decide) ?_
  refine jr_istore_n (lv' := [(2, .int 0), (0, .ref x0), (1, .ref x1)]) dX5_weigh_1 rfl (by decide) rfl ?_
  refine jr_iconst (v := 0) dX5_weigh_2 (by decide) ?_
  refine jr_istore_n (lv' := [(3, .int 0), (2, .int 0), (0, .ref x0), (1, .ref x1)]) dX5_weigh_3 rfl (by decide) rfl ?_
  exact jr_sub [2, 3, 1, 0] rfl k
set_option maxRecDepth 20000 in
theorem bX5_weigh_4 {g : jG} {d : Nat} {hs : jH} {P : jO → jH → Prop} {x0 : Nat} {x1 : Nat} {x2 : Int32} {x3 : Int32} {h : jH} (k : ∃ (t1 : Nat) (z2 : vp_A), h.1 x1 = some (.inl (t1, z2)) ∧ (∃ ty5 : FieldType, jTy t1 = some ty5) ∧ (x3 < (nI z2.1) → ∃ (n14 : Nat) (f15 : Nat → Int32), h.1 x1 = some (.inl (0, (n14, .inl f15))) ∧ vp_in x3 n14 ∧ (((f15 x3.toNatClampNeg) - 1000) < 0 → J g mX5_weigh (d + 1) hs P 40 [(0, .ref x0), (1, .ref x1), (2, .int x2), (3, .int x3), (4, .int ((f15 x3.toNatClampNeg) - 1000))] [] h) ∧ (¬ ((f15 x3.toNatClampNeg) - 1000) < 0 → (((f15 x3.toNatClampNeg) - 1000) < 128 → J g mX5_weigh (d + 1) hs P 85 [(0, .ref x0), (1, .ref x1), (2, .int x2), (3, .int x3), (4, .int ((f15 x3.toNatClampNeg) - 1000))] [] h) ∧ (¬ ((f15 x3.toNatClampNeg) - 1000) < 128 → (134 < ((f15 x3.toNatClampNeg) - 1000) → J g mX5_weigh (d + 1) hs P 85 [(0, .ref x0), (1, .ref x1), (2, .int x2), (3, .int x3), (4, .int ((f15 x3.toNatClampNeg) - 1000))] [] h) ∧ (¬ 134 < ((f15 x3.toNatClampNeg) - 1000) → J g mX5_weigh (d + 1) hs P 40 [(0, .ref x0), (1, .ref x1), (2, .int x2), (3, .int x3), (4, .int ((f15 x3.toNatClampNeg) - 1000))] [] h)))) ∧ (¬ x3 < (nI z2.1) → (x2 < 1 → P (.inl (some (.int 0))) h) ∧ (¬ x2 < 1 → ∃ fs6 : List Value, h.1 x0 = some (.inr (5, fs6)) ∧ ∃ v9 : Nat, fs6[1]? = some (.ref v9) ∧ ∃ (n10 : Nat) (f11 : Nat → Int32), h.1 v9 = some (.inl (0, (n10, .inl f11))) ∧ vp_in 0 n10 ∧ P (.inl (some (.int ((f11 ((0 : Int32)).toNatClampNeg))))) h))) : J g mX5_weigh (d + 1) hs P 4 [(0, .ref x0), (1, .ref x1), (2, .int x2), (3, .int x3)] [] h := by
  refine jr_iload_n 3 dX5_weigh_4 rfl rfl ?_
  refine jr_aload_n 1 dX5_weigh_5 rfl rfl ?_
  obtain ⟨t1, z2, e3, ⟨ty5, e4⟩, k⟩ := k
  refine jr_alen (v := nI z2.1) dX5_weigh_6 e4 e3 rfl ?_
  refine jr_icmp_ge (tgt := 165) dX5_weigh_7 (by decide) (fun c7 => ?_) (fun c7 => ?_)
  · have k := k.2 c7
    refine jr_iload_n 2 dX5_weigh_165 rfl rfl ?_
    refine jr_iconst (v := 1) dX5_weigh_166 (by decide) ?_
    refine jr_icmp_ge (tgt := 174) dX5_weigh_167 (by decide) (fun c167 => ?_) (fun c167 => ?_)
    · have k := k.2 c167
      refine jr_aload_n 0 dX5_weigh_174 rfl rfl ?_
      obtain ⟨fs6, e7, v9, e8, k⟩ := k
      refine jr_get jf_X5_15 dX5_weigh_175 e7 e8 ?_
      refine jr_iconst (v := 0) dX5_weigh_178 (by decide) ?_
      obtain ⟨n10, f11, e12, e13, k⟩ := k
      refine jr_iald dX5_weigh_179 e12 e13 ?_
      exact jr_iret (ty := .int) rfl rfl dX5_weigh_180 k
    · have k := k.1 c167
      refine jr_iconst (v := 0) dX5_weigh_170 (by decide) ?_
      refine jr_goto (tgt := 180) dX5_weigh_171 (by decide) ?_
      exact jr_iret (ty := .int) rfl rfl dX5_weigh_180 k
  · have k := k.1 c7
    refine jr_aload_n 1 dX5_weigh_10 rfl rfl ?_
    refine jr_iload_n 3 dX5_weigh_11 rfl rfl ?_
    obtain ⟨n14, f15, e16, e17, k⟩ := k
    refine jr_iald dX5_weigh_12 e16 e17 ?_
    refine jr_sipush (v := 1000) dX5_weigh_13 (by decide) ?_
    refine jr_isub dX5_weigh_16 ?_
    refine jr_istore (lv' := [(4, .int ((f15 x3.toNatClampNeg) - 1000)), (0, .ref x0), (1, .ref x1), (2, .int x2), (3, .int x3)]) dX5_weigh_17 (by decide) rfl ?_
    refine jr_iload 0 dX5_weigh_19 rfl ?_
    refine jr_if_lt (tgt := 40) dX5_weigh_21 (by decide) (fun c21 => ?_) (fun c21 => ?_)
    · have k := k.1 c21
      exact jr_sub [1, 2, 3, 4, 0] rfl k
    · have k := k.2 c21
      refine jr_iload 0 dX5_weigh_24 rfl ?_
      refine jr_sipush (v := 128) dX5_weigh_26 (by decide) ?_
      refine jr_icmp_lt (tgt := 85) dX5_weigh_29 (by decide) (fun c29 => ?_) (fun c29 => ?_)
      · have k := k.1 c29
        exact jr_sub [1, 2, 3, 4, 0] rfl k
      · have k := k.2 c29
        refine jr_iload 0 dX5_weigh_32 rfl ?_
        refine jr_sipush (v := 134) dX5_weigh_34 (by decide) ?_
        refine jr_icmp_gt (tgt := 85) dX5_weigh_37 (by decide) (fun c37 => ?_) (fun c37 => ?_)
        · have k := k.1 c37
          exact jr_sub [1, 2, 3, 4, 0] rfl k
        · have k := k.2 c37
          exact jr_sub [1, 2, 3, 4, 0] rfl k
set_option maxRecDepth 20000 in
theorem bX5_weigh_40 {g : jG} {d : Nat} {hs : jH} {P : jO → jH → Prop} {x0 : Nat} {x1 : Nat} {x2 : Int32} {x3 : Int32} {x4 : Int32} {h : jH} (k : ∃ fs1 : List Value, h.1 x0 = some (.inr (5, fs1)) ∧ ∃ v4 : Nat, fs1[1]? = some (.ref v4) ∧ ∃ (t5 : Nat) (z6 : vp_A), h.1 v4 = some (.inl (t5, z6)) ∧ (∃ ty9 : FieldType, jTy t5 = some ty9) ∧ (x2 < (nI z6.1) → ∃ fs10 : List Value, h.1 x0 = some (.inr (5, fs10)) ∧ ∃ v13 : Nat, fs10[1]? = some (.ref v13) ∧ (x4 < 0 → ∃ (n22 : Nat) (f23 : Nat → Int32), h.1 x1 = some (.inl (0, (n22, .inl f23))) ∧ vp_in x3 n22 ∧ J g mX5_weigh (d + 1) hs P 78 [(0, .ref x0), (1, .ref x1), (2, .int x2), (3, .int x3)] [.int (f23 x3.toNatClampNeg), .int x2, .ref v13] h) ∧ (¬ x4 < 0 → ∃ fs14 : List Value, h.1 x0 = some (.inr (5, fs14)) ∧ ∃ v17 : Nat, fs14[0]? = some (.ref v17) ∧ ∃ (n18 : Nat) (f19 : Nat → Int32), h.1 v17 = some (.inl (0, (n18, .inl f19))) ∧ vp_in (x4 - 128) n18 ∧ J g mX5_weigh (d + 1) hs P 78 [(0, .ref x0), (1, .ref x1), (2, .int x2), (3, .int x3)] [.int (f19 ((x4 - 128)).toNatClampNeg), .int x2, .ref v13] h)) ∧ (¬ x2 < (nI z6.1) → P (.inl (some (.int 0))) h)) : J g mX5_weigh (d + 1) hs P 40 [(0, .ref x0), (1, .ref x1), (2, .int x2), (3, .int x3), (4, .int x4)] [] h := by
  refine jr_iload_n 2 dX5_weigh_40 rfl rfl ?_
  refine jr_aload_n 0 dX5_weigh_41 rfl rfl ?_
  obtain ⟨fs1, e2, v4, e3, k⟩ := k
  refine jr_get jf_X5_15 dX5_weigh_42 e2 e3 ?_
  obtain ⟨t5, z6, e7, ⟨ty9, e8⟩, k⟩ := k
  refine jr_alen (v := nI z6.1) dX5_weigh_45 e8 e7 rfl ?_
  refine jr_icmp_lt (tgt := 51) dX5_weigh_46 (by decide) (fun c46 => ?_) (fun c46 => ?_)
  · have k := k.1 c46
    refine jr_aload_n 0 dX5_weigh_51 rfl rfl ?_
    obtain ⟨fs10, e11, v13, e12, k⟩ := k
    refine jr_get jf_X5_15 dX5_weigh_52 e11 e12 ?_
    refine jr_iload_n 2 dX5_weigh_55 rfl rfl ?_
    refine jr_iload 4 dX5_weigh_56 rfl ?_
    refine jr_if_ge (tgt := 67) dX5_weigh_58 (by decide) (fun c58 => ?_) (fun c58 => ?_)
    · have k := k.2 c58
      refine jr_aload_n 0 dX5_weigh_67 rfl rfl ?_
      obtain ⟨fs14, e15, v17, e16, k⟩ := k
      refine jr_get jf_X5_9 dX5_weigh_68 e15 e16 ?_
      refine jr_iload 4 dX5_weigh_71 rfl ?_
      refine jr_sipush (v := 128) dX5_weigh_73 (by decide) ?_
      refine jr_isub dX5_weigh_76 ?_
      obtain ⟨n18, f19, e20, e21, k⟩ := k
      refine jr_iald dX5_weigh_77 e20 e21 ?_
      exact jr_sub [0, 1, 2, 3] rfl k
    · have k := k.1 c58
      refine jr_aload_n 1 dX5_weigh_61 rfl rfl ?_
      refine jr_iload_n 3 dX5_weigh_62 rfl rfl ?_
      obtain ⟨n22, f23, e24, e25, k⟩ := k
      refine jr_iald dX5_weigh_63 e24 e25 ?_
      refine jr_goto (tgt := 78) dX5_weigh_64 (by decide) ?_
      exact jr_sub [0, 1, 2, 3] rfl k
  · have k := k.2 c46
    refine jr_iconst (v := 0) dX5_weigh_49 (by decide) ?_
    exact jr_iret (ty := .int) rfl rfl dX5_weigh_50 k
set_option maxRecDepth 20000 in
theorem bX5_weigh_78 {g : jG} {d : Nat} {hs : jH} {P : jO → jH → Prop} {x0 : Nat} {x1 : Nat} {x2 : Int32} {x3 : Int32} {s0 : Nat} {s1 : Int32} {s2 : Int32} {h : jH} (k : ∃ (n1 : Nat) (f2 : Nat → Int32), h.1 s0 = some (.inl (0, (n1, .inl f2))) ∧ vp_in s1 n1 ∧ ∀ h5 : jH, h5 = jset h s0 (.inl (0, (n1, .inl (upd f2 s1.toNatClampNeg s2)))) → J g mX5_weigh (d + 1) hs P 4 [(0, .ref x0), (1, .ref x1), (2, .int (x2 + 1)), (3, .int (x3 + 1))] [] h5) : J g mX5_weigh (d + 1) hs P 78 [(0, .ref x0), (1, .ref x1), (2, .int x2), (3, .int x3)] [.int s2, .int s1, .ref s0] h := by
  obtain ⟨n1, f2, e3, e4, k⟩ := k
  refine jr_iastE dX5_weigh_78 e3 e4 (fun h5 eh6 => ?_)
  have k := k h5 eh6
  refine jr_iinc (v := (x2 + 1)) (lv' := [(2, .int (x2 + 1)), (0, .ref x0), (1, .ref x1), (3, .int x3)]) 2 dX5_weigh_79 rfl rfl (by decide) rfl ?_
  refine jr_goto (tgt := 159) dX5_weigh_82 (by decide) ?_
  refine jr_iinc (v := (x3 + 1)) (lv' := [(3, .int (x3 + 1)), (2, .int (x2 + 1)), (0, .ref x0), (1, .ref x1)]) 3 dX5_weigh_159 rfl rfl (by decide) rfl ?_
  refine jr_goto (tgt := 4) dX5_weigh_162 (by decide) ?_
  exact jr_sub [2, 3, 1, 0] rfl k
set_option maxRecDepth 20000 in
theorem bX5_weigh_85 {g : jG} {d : Nat} {hs : jH} {P : jO → jH → Prop} {x0 : Nat} {x1 : Nat} {x2 : Int32} {x3 : Int32} {x4 : Int32} {h : jH} (k : (x4 = 145 → (x2 < 1 → P (.inl (some (.int 0))) h) ∧ (¬ x2 < 1 → ∃ fs31 : List Value, h.1 x0 = some (.inr (5, fs31)) ∧ ∃ v34 : Nat, fs31[1]? = some (.ref v34) ∧ ∃ fs35 : List Value, h.1 x0 = some (.inr (5, fs35)) ∧ ∃ v38 : Nat, fs35[1]? = some (.ref v38) ∧ ∃ (n39 : Nat) (f40 : Nat → Int32), h.1 v38 = some (.inl (0, (n39, .inl f40))) ∧ vp_in (x2 - 1) n39 ∧ ∃ (n43 : Nat) (f44 : Nat → Int32), h.1 v34 = some (.inl (0, (n43, .inl f44))) ∧ vp_in (x2 - 1) n43 ∧ ∀ h47 : jH, h47 = jset h v34 (.inl (0, (n43, .inl (upd f44 ((x2 - 1)).toNatClampNeg ((1 - (f40 ((x2 - 1)).toNatClampNeg))))))) → J g mX5_weigh (d + 1) hs P 4 [(0, .ref x0), (1, .ref x1), (2, .int x2), (3, .int (x3 + 1))] [] h47)) ∧ (¬ x4 = 145 → (x2 < 2 → P (.inl (some (.int 0))) h) ∧ (¬ x2 < 2 → ∃ fs1 : List Value, h.1 x0 = some (.inr (5, fs1)) ∧ ∃ v4 : Nat, fs1[1]? = some (.ref v4) ∧ ∃ fs5 : List Value, h.1 x0 = some (.inr (5, fs5)) ∧ ∃ v8 : Nat, fs5[1]? = some (.ref v8) ∧ ∃ (n9 : Nat) (f10 : Nat → Int32), h.1 v8 = some (.inl (0, (n9, .inl f10))) ∧ vp_in ((x2 + (-1)) - 1) n9 ∧ ∃ fs13 : List Value, h.1 x0 = some (.inr (5, fs13)) ∧ ∃ v16 : Nat, fs13[1]? = some (.ref v16) ∧ ∃ (n17 : Nat) (f18 : Nat → Int32), h.1 v16 = some (.inl (0, (n17, .inl f18))) ∧ vp_in (x2 + (-1)) n17 ∧ ∃ fs23 : List Value, h.1 x0 = some (.inr (5, fs23)) ∧ Con g mX5_join d [.ref x0, .int x4, .int (f10 (((x2 + (-1)) - 1)).toNatClampNeg), .int (f18 ((x2 + (-1))).toNatClampNeg)] h (jPi (fun (r21 : Int32) (h22 : jH) => ∃ (n25 : Nat) (f26 : Nat → Int32), h22.1 v4 = some (.inl (0, (n25, .inl f26))) ∧ vp_in ((x2 + (-1)) - 1) n25 ∧ ∀ h29 : jH, h29 = jset h22 v4 (.inl (0, (n25, .inl (upd f26 (((x2 + (-1)) - 1)).toNatClampNeg r21)))) → J g mX5_weigh (d + 1) hs P 4 [(0, .ref x0), (1, .ref x1), (2, .int (x2 + (-1))), (3, .int (x3 + 1))] [] h29) (fun E h' => P (.inr E) h'))))) : J g mX5_weigh (d + 1) hs P 85 [(0, .ref x0), (1, .ref x1), (2, .int x2), (3, .int x3), (4, .int x4)] [] h := by
  refine jr_iload 4 dX5_weigh_85 rfl ?_
  refine jr_sipush (v := 145) dX5_weigh_87 (by decide) ?_
  refine jr_icmp_ne (tgt := 121) dX5_weigh_90 (by decide) (fun c90 => ?_) (fun c90 => ?_)
  · have k := k.2 c90
    refine jr_iload_n 2 dX5_weigh_121 rfl rfl ?_
    refine jr_iconst (v := 2) dX5_weigh_122 (by decide) ?_
    refine jr_icmp_ge (tgt := 128) dX5_weigh_123 (by decide) (fun c123 => ?_) (fun c123 => ?_)
    · have k := k.2 c123
      refine jr_iinc (v := (x2 + (-1))) (lv' := [(2, .int (x2 + (-1))), (0, .ref x0), (1, .ref x1), (3, .int x3), (4, .int x4)]) 2 dX5_weigh_128 rfl rfl (by decide) rfl ?_
      refine jr_aload_n 1 dX5_weigh_131 rfl rfl ?_
      obtain ⟨fs1, e2, v4, e3, k⟩ := k
      refine jr_get jf_X5_15 dX5_weigh_132 e2 e3 ?_
      refine jr_iload_n 0 dX5_weigh_135 rfl rfl ?_
      refine jr_iconst (v := 1) dX5_weigh_136 (by decide) ?_
      refine jr_isub dX5_weigh_137 ?_
      refine jr_aload_n 1 dX5_weigh_138 rfl rfl ?_
      refine jr_iload 4 dX5_weigh_139 rfl ?_
      refine jr_aload_n 1 dX5_weigh_141 rfl rfl ?_
      obtain ⟨fs5, e6, v8, e7, k⟩ := k
      refine jr_get jf_X5_15 dX5_weigh_142 e6 e7 ?_
      refine jr_iload_n 0 dX5_weigh_145 rfl rfl ?_
      refine jr_iconst (v := 1) dX5_weigh_146 (by decide) ?_
      refine jr_isub dX5_weigh_147 ?_
      obtain ⟨n9, f10, e11, e12, k⟩ := k
      refine jr_iald dX5_weigh_148 e11 e12 ?_
      refine jr_aload_n 1 dX5_weigh_149 rfl rfl ?_
      obtain ⟨fs13, e14, v16, e15, k⟩ := k
      refine jr_get jf_X5_15 dX5_weigh_150 e14 e15 ?_
      refine jr_iload_n 0 dX5_weigh_153 rfl rfl ?_
      obtain ⟨n17, f18, e19, e20, k⟩ := k
      refine jr_iald dX5_weigh_154 e19 e20 ?_
      obtain ⟨fs23, e24, k⟩ := k
      refine jr_cVi (As := [.int x4, .int (f10 (((x2 + (-1)) - 1)).toNatClampNeg), .int (f18 ((x2 + (-1))).toNatClampNeg)]) jl_X5_18 km_X5_join rfl rfl dX5_weigh_155 e24 (Nat.le_of_ble_eq_true rfl) k (fun r21 h22 k => ?_)
      obtain ⟨n25, f26, e27, e28, k⟩ := k
      refine jr_iastE dX5_weigh_158 e27 e28 (fun h29 eh30 => ?_)
      have k := k h29 eh30
      refine jr_iinc (v := (x3 + 1)) (lv' := [(3, .int (x3 + 1)), (2, .int (x2 + (-1))), (0, .ref x0), (1, .ref x1), (4, .int x4)]) 3 dX5_weigh_159 rfl rfl (by decide) rfl ?_
      refine jr_goto (tgt := 4) dX5_weigh_162 (by decide) ?_
      exact jr_sub [2, 3, 1, 0] rfl k
    · have k := k.1 c123
      refine jr_iconst (v := 0) dX5_weigh_126 (by decide) ?_
      exact jr_iret (ty := .int) rfl rfl dX5_weigh_127 k
  · have k := k.1 c90
    refine jr_iload_n 2 dX5_weigh_93 rfl rfl ?_
    refine jr_iconst (v := 1) dX5_weigh_94 (by decide) ?_
    refine jr_icmp_ge (tgt := 100) dX5_weigh_95 (by decide) (fun c95 => ?_) (fun c95 => ?_)
    · have k := k.2 c95
      refine jr_aload_n 0 dX5_weigh_100 rfl rfl ?_
      obtain ⟨fs31, e32, v34, e33, k⟩ := k
      refine jr_get jf_X5_15 dX5_weigh_101 e32 e33 ?_
      refine jr_iload_n 2 dX5_weigh_104 rfl rfl ?_
      refine jr_iconst (v := 1) dX5_weigh_105 (by decide) ?_
      refine jr_isub dX5_weigh_106 ?_
      refine jr_iconst (v := 1) dX5_weigh_107 (by decide) ?_
      refine jr_aload_n 0 dX5_weigh_108 rfl rfl ?_
      obtain ⟨fs35, e36, v38, e37, k⟩ := k
      refine jr_get jf_X5_15 dX5_weigh_109 e36 e37 ?_
      refine jr_iload_n 2 dX5_weigh_112 rfl rfl ?_
      refine jr_iconst (v := 1) dX5_weigh_113 (by decide) ?_
      refine jr_isub dX5_weigh_114 ?_
      obtain ⟨n39, f40, e41, e42, k⟩ := k
      refine jr_iald dX5_weigh_115 e41 e42 ?_
      refine jr_isub dX5_weigh_116 ?_
      obtain ⟨n43, f44, e45, e46, k⟩ := k
      refine jr_iastE dX5_weigh_117 e45 e46 (fun h47 eh48 => ?_)
      have k := k h47 eh48
      refine jr_goto (tgt := 159) dX5_weigh_118 (by decide) ?_
      refine jr_iinc (v := (x3 + 1)) (lv' := [(3, .int (x3 + 1)), (0, .ref x0), (1, .ref x1), (2, .int x2), (4, .int x4)]) 3 dX5_weigh_159 rfl rfl (by decide) rfl ?_
      refine jr_goto (tgt := 4) dX5_weigh_162 (by decide) ?_
      exact jr_sub [1, 2, 3, 0] rfl k
    · have k := k.1 c95
      refine jr_iconst (v := 0) dX5_weigh_98 (by decide) ?_
      exact jr_iret (ty := .int) rfl rfl dX5_weigh_99 k
set_option maxRecDepth 20000 in
theorem bX5_join_0 {g : jG} {d : Nat} {hs : jH} {P : jO → jH → Prop} {x0 : Nat} {x1 : Int32} {x2 : Int32} {x3 : Int32} {h : jH} (k : (x1 = 60 → (x2 < x3 → P (.inl (some (.int 1))) h) ∧ (¬ x2 < x3 → P (.inl (some (.int 0))) h)) ∧ (¬ x1 = 60 → (x1 = 61 → (x2 = x3 → P (.inl (some (.int 1))) h) ∧ (¬ x2 = x3 → P (.inl (some (.int 0))) h)) ∧ (¬ x1 = 61 → (x1 = 62 → (x3 < x2 → P (.inl (some (.int 1))) h) ∧ (¬ x3 < x2 → P (.inl (some (.int 0))) h)) ∧ (¬ x1 = 62 → (x1 = 146 → P (.inl (some (.int ((x2 &&& x3))))) h) ∧ (¬ x1 = 146 → (x1 = 147 → P (.inl (some (.int ((x2 ||| x3))))) h) ∧ (¬ x1 = 147 → (x1 = 43 → J g mX5_join (d + 1) hs P 126 [] [.long (x2.toInt64 + x3.toInt64)] h) ∧ (¬ x1 = 43 → (x1 = 45 → J g mX5_join (d + 1) hs P 126 [] [.long (x2.toInt64 - x3.toInt64)] h) ∧ (¬ x1 = 45 → J g mX5_join (d + 1) hs P 126 [] [.long (x2.toInt64 * x3.toInt64)] h)))))))) : J g mX5_join (d + 1) hs P 0 [(0, .ref x0), (1, .int x1), (2, .int x2), (3, .int x3)] [] h := by
  refine jr_iload_n 1 dX5_join_0 rfl rfl ?_
  by_cases c1_0 : x1 = 60
  · have k := k.1 c1_0
    refine jr_lookup (off := 62) (tgt := 63) dX5_join_1 (by decide) (by rw [c1_0]; decide) (by decide) ?_
    refine jr_iload_n 2 dX5_join_63 rfl rfl ?_
    refine jr_iload_n 3 dX5_join_64 rfl rfl ?_
    refine jr_icmp_ge (tgt := 72) dX5_join_65 (by decide) (fun c65 => ?_) (fun c65 => ?_)
    · have k := k.2 c65
      refine jr_iconst (v := 0) dX5_join_72 (by decide) ?_
      exact jr_iret (ty := .int) rfl rfl dX5_join_73 k
    · have k := k.1 c65
      refine jr_iconst (v := 1) dX5_join_68 (by decide) ?_
      refine jr_goto (tgt := 73) dX5_join_69 (by decide) ?_
      exact jr_iret (ty := .int) rfl rfl dX5_join_73 k
  · have k := k.2 c1_0
    by_cases c1_1 : x1 = 61
    · have k := k.1 c1_1
      refine jr_lookup (off := 51) (tgt := 52) dX5_join_1 (by decide) (by rw [c1_1]; decide) (by decide) ?_
      refine jr_iload_n 2 dX5_join_52 rfl rfl ?_
      refine jr_iload_n 3 dX5_join_53 rfl rfl ?_
      refine jr_icmp_ne (tgt := 61) dX5_join_54 (by decide) (fun c54 => ?_) (fun c54 => ?_)
      · have k := k.2 c54
        refine jr_iconst (v := 0) dX5_join_61 (by decide) ?_
        exact jr_iret (ty := .int) rfl rfl dX5_join_62 k
      · have k := k.1 c54
        refine jr_iconst (v := 1) dX5_join_57 (by decide) ?_
        refine jr_goto (tgt := 62) dX5_join_58 (by decide) ?_
        exact jr_iret (ty := .int) rfl rfl dX5_join_62 k
    · have k := k.2 c1_1
      by_cases c1_2 : x1 = 62
      · have k := k.1 c1_2
        refine jr_lookup (off := 73) (tgt := 74) dX5_join_1 (by decide) (by rw [c1_2]; decide) (by decide) ?_
        refine jr_iload_n 2 dX5_join_74 rfl rfl ?_
        refine jr_iload_n 3 dX5_join_75 rfl rfl ?_
        refine jr_icmp_le (tgt := 83) dX5_join_76 (by decide) (fun c76 => ?_) (fun c76 => ?_)
        · have k := k.2 c76
          refine jr_iconst (v := 0) dX5_join_83 (by decide) ?_
          exact jr_iret (ty := .int) rfl rfl dX5_join_84 k
        · have k := k.1 c76
          refine jr_iconst (v := 1) dX5_join_79 (by decide) ?_
          refine jr_goto (tgt := 84) dX5_join_80 (by decide) ?_
          exact jr_iret (ty := .int) rfl rfl dX5_join_84 k
      · have k := k.2 c1_2
        by_cases c1_3 : x1 = 146
        · have k := k.1 c1_3
          refine jr_lookup (off := 84) (tgt := 85) dX5_join_1 (by decide) (by rw [c1_3]; decide) (by decide) ?_
          refine jr_iload_n 2 dX5_join_85 rfl rfl ?_
          refine jr_iload_n 3 dX5_join_86 rfl rfl ?_
          refine jr_iand dX5_join_87 ?_
          exact jr_iret (ty := .int) rfl rfl dX5_join_88 k
        · have k := k.2 c1_3
          by_cases c1_4 : x1 = 147
          · have k := k.1 c1_4
            refine jr_lookup (off := 88) (tgt := 89) dX5_join_1 (by decide) (by rw [c1_4]; decide) (by decide) ?_
            refine jr_iload_n 2 dX5_join_89 rfl rfl ?_
            refine jr_iload_n 3 dX5_join_90 rfl rfl ?_
            refine jr_ior dX5_join_91 ?_
            exact jr_iret (ty := .int) rfl rfl dX5_join_92 k
          · have k := k.2 c1_4
            refine jr_lookup (off := 92) (tgt := 93) dX5_join_1 (by decide) ?_ (by decide) ?_
            · show Op.lookupswitch.offset [(60, 62), (61, 51), (62, 73), (146, 84), (147, 88)] 92 _ = _
              rw [lv_osw c1_0 (a := 60) (by decide), lv_osw c1_1 (a := 61) (by decide), lv_osw c1_2 (a := 62) (by decide), lv_osw c1_3 (a := 146) (by decide), lv_osw c1_4 (a := 147) (by decide)]
              rfl
            · refine jr_iload_n 1 dX5_join_93 rfl rfl ?_
              refine jr_bipush (v := 43) dX5_join_94 (by decide) ?_
              refine jr_icmp_ne (tgt := 107) dX5_join_96 (by decide) (fun c96 => ?_) (fun c96 => ?_)
              · have k := k.2 c96
                refine jr_iload_n 1 dX5_join_107 rfl rfl ?_
                refine jr_bipush (v := 45) dX5_join_108 (by decide) ?_
                refine jr_icmp_ne (tgt := 121) dX5_join_110 (by decide) (fun c110 => ?_) (fun c110 => ?_)
                · have k := k.2 c110
                  refine jr_iload_n 2 dX5_join_121 rfl rfl ?_
                  refine jr_i2l dX5_join_122 ?_
                  refine jr_iload_n 3 dX5_join_123 rfl rfl ?_
                  refine jr_i2l dX5_join_124 ?_
                  refine jr_lmul dX5_join_125 ?_
                  exact jr_sub [] rfl k
                · have k := k.1 c110
                  refine jr_iload_n 2 dX5_join_113 rfl rfl ?_
                  refine jr_i2l dX5_join_114 ?_
                  refine jr_iload_n 3 dX5_join_115 rfl rfl ?_
                  refine jr_i2l dX5_join_116 ?_
                  refine jr_lsub dX5_join_117 ?_
                  refine jr_goto (tgt := 126) dX5_join_118 (by decide) ?_
                  exact jr_sub [] rfl k
              · have k := k.1 c96
                refine jr_iload_n 2 dX5_join_99 rfl rfl ?_
                refine jr_i2l dX5_join_100 ?_
                refine jr_iload_n 3 dX5_join_101 rfl rfl ?_
                refine jr_i2l dX5_join_102 ?_
                refine jr_ladd dX5_join_103 ?_
                refine jr_goto (tgt := 126) dX5_join_104 (by decide) ?_
                exact jr_sub [] rfl k
set_option maxRecDepth 20000 in
theorem bX5_join_126 {g : jG} {d : Nat} {hs : jH} {P : jO → jH → Prop} {s0 : Int64} {h : jH} (k : (1000000 < s0 → P (.inl (some (.int (((1000000 : Int64)).toInt32)))) h) ∧ (¬ 1000000 < s0 → (s0 < (-1000000) → P (.inl (some (.int ((((-1000000) : Int64)).toInt32)))) h) ∧ (¬ s0 < (-1000000) → P (.inl (some (.int s0.toInt32))) h))) : J g mX5_join (d + 1) hs P 126 [] [.long s0] h := by
  refine jr_lstore (lv' := [(4, .long s0)]) dX5_join_126 (by decide) rfl ?_
  refine jr_lload 0 dX5_join_128 rfl ?_
  refine jr_ldc2 (v := 1000000) jk_X5_22 dX5_join_130 ?_
  refine jr_lcmp_le (tgt := 143) dX5_join_133 dX5_join_134 (by decide) (fun c133 => ?_) (fun c133 => ?_)
  · have k := k.2 c133
    refine jr_lload 0 dX5_join_143 rfl ?_
    refine jr_ldc2 (v := (-1000000)) jk_X5_24 dX5_join_145 ?_
    refine jr_lcmp_ge (tgt := 158) dX5_join_148 dX5_join_149 (by decide) (fun c148 => ?_) (fun c148 => ?_)
    · have k := k.2 c148
      refine jr_lload 0 dX5_join_158 rfl ?_
      refine jr_l2i dX5_join_160 ?_
      exact jr_iret (ty := .int) rfl rfl dX5_join_161 k
    · have k := k.1 c148
      refine jr_ldc2 (v := (-1000000)) jk_X5_24 dX5_join_152 ?_
      refine jr_goto (tgt := 160) dX5_join_155 (by decide) ?_
      refine jr_l2i dX5_join_160 ?_
      exact jr_iret (ty := .int) rfl rfl dX5_join_161 k
  · have k := k.1 c133
    refine jr_ldc2 (v := 1000000) jk_X5_22 dX5_join_137 ?_
    refine jr_goto (tgt := 160) dX5_join_140 (by decide) ?_
    refine jr_l2i dX5_join_160 ?_
    exact jr_iret (ty := .int) rfl rfl dX5_join_161 k
