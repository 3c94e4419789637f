set_option maxRecDepth 20000 in
theorem bX8_init_0 {g : jG} {d : Nat} {hs : jH} {P : jO → jH → Prop} {x0 : Nat} {h : jH} (k : ∃ N1 : Nat, (901 : Int32) = nI N1 ∧ N1 < 60000000 ∧ jroom g h 1 N1 ∧ ∀ (q4 : Nat) (h5 : jH), q4 = h.2.1 → h5 = jnew h (.inl (0, (N1, .inl (fun _ => 0)))) N1 → ∃ fs9 : List Value, h5.1 x0 = some (.inr (8, fs9)) ∧ 0 < fs9.length ∧ (∀ h12 : jH, h12 = jset h5 x0 (.inr (8, fs9.set 0 (.ref q4))) → ∃ N14 : Nat, (901 : Int32) = nI N14 ∧ N14 < 60000000 ∧ jroom g h12 1 N14 ∧ ∀ (q17 : Nat) (h18 : jH), q17 = h12.2.1 → h18 = jnew h12 (.inl (0, (N14, .inl (fun _ => 0)))) N14 → ∃ fs22 : List Value, h18.1 x0 = some (.inr (8, fs22)) ∧ 1 < fs22.length ∧ (∀ h25 : jH, h25 = jset h18 x0 (.inr (8, fs22.set 1 (.ref q17))) → ∃ N27 : Nat, (901 : Int32) = nI N27 ∧ N27 < 60000000 ∧ jroom g h25 1 N27 ∧ ∀ (q30 : Nat) (h31 : jH), q30 = h25.2.1 → h31 = jnew h25 (.inl (0, (N27, .inl (fun _ => 0)))) N27 → ∃ fs35 : List Value, h31.1 x0 = some (.inr (8, fs35)) ∧ 2 < fs35.length ∧ (∀ h38 : jH, h38 = jset h31 x0 (.inr (8, fs35.set 2 (.ref q30))) → P (.inl none) h38)))) : J g mX8_init (d + 1) hs P 0 [(0, .ref x0)] [] h := by
  refine jr_aload_n 0 dX8_init_0 rfl rfl ?_
  refine jr_objInit jl_X8_3 dX8_init_1 (Nat.le_of_ble_eq_true rfl) ?_
  refine jr_aload_n 0 dX8_init_4 rfl rfl ?_
  refine jr_sipush (v := 901) dX8_init_5 (by decide) ?_
  obtain ⟨N1, e2, e3, rm8, k⟩ := k
  refine jr_new_int e2 e3 rm8 dX8_init_8 (fun q4 h5 eq6 eh7 => ?_)
  have k := k q4 h5 eq6 eh7
  obtain ⟨fs9, e10, e11, k⟩ := k
  refine jr_putFE jp_X8_9 (fun C T N hc => by cases hc; rfl) rfl dX8_init_10 e10 e11 rfl rfl (fun h12 eh13 => ?_)
  have k := k h12 eh13
  refine jr_aload_n 0 dX8_init_13 rfl rfl ?_
  refine jr_sipush (v := 901) dX8_init_14 (by decide) ?_
  obtain ⟨N14, e15, e16, rm21, k⟩ := k
  refine jr_new_int e15 e16 rm21 dX8_init_17 (fun q17 h18 eq19 eh20 => ?_)
  have k := k q17 h18 eq19 eh20
  obtain ⟨fs22, e23, e24, k⟩ := k
  refine jr_putFE jp_X8_15 (fun C T N hc => by cases hc; rfl) rfl dX8_init_19 e23 e24 rfl rfl (fun h25 eh26 => ?_)
  have k := k h25 eh26
  refine jr_aload_n 0 dX8_init_22 rfl rfl ?_
  refine jr_sipush (v := 901) dX8_init_23 (by decide) ?_
  obtain ⟨N27, e28, e29, rm34, k⟩ := k
  refine jr_new_int e28 e29 rm34 dX8_init_26 (fun q30 h31 eq32 eh33 => ?_)
  have k := k q30 h31 eq32 eh33
  obtain ⟨fs35, e36, e37, k⟩ := k
  refine jr_putFE jp_X8_18 (fun C T N hc => by cases hc; rfl) rfl dX8_init_28 e36 e37 rfl rfl (fun h38 eh39 => ?_)
  have k := k h38 eh39
  exact jr_vret rfl dX8_init_31 k
set_option maxRecDepth 20000 in
theorem bX8_cut_0 {g : jG} {d : Nat} {hs : jH} {P : jO → jH → Prop} {x0 : Nat} {x1 : Nat} {x2 : Int32} {h : jH} (k : ∃ (t1 : Nat) (z2 : vp_A), h.1 x1 = some (.inl (t1, z2)) ∧ (∃ ty5 : FieldType, jTy t1 = some ty5) ∧ ∃ fs6 : List Value, h.1 x0 = some (.inr (8, fs6)) ∧ 3 < fs6.length ∧ (∀ h9 : jH, h9 = jset h x0 (.inr (8, fs6.set 3 (.int 0))) → J g mX8_cut (d + 1) hs P 15 [(0, .ref x0), (1, .ref x1), (3, .int (jmin x2 ((nI z2.1)))), (4, .int 0)] [] h9)) : J g mX8_cut (d + 1) hs P 0 [(0, .ref x0), (1, .ref x1), (2, .int x2)] [] h := by
  refine jr_iload_n 2 dX8_cut_0 rfl rfl ?_
  refine jr_aload_n 1 dX8_cut_1 rfl rfl ?_
  obtain ⟨t1, z2, e3, ⟨ty5, e4⟩, k⟩ := k
  refine jr_alen (v := nI z2.1) dX8_cut_2 e4 e3 rfl ?_
  refine jr_mmin jl_X8_21 dX8_cut_3 (Nat.le_of_ble_eq_true rfl) ?_
  refine jr_istore_n (lv' := [(3, .int (jmin x2 ((nI z2.1)))), (0, .ref x0), (1, .ref x1), (2, .int x2)]) dX8_cut_6 rfl (by decide) rfl ?_
  refine jr_aload_n 1 dX8_cut_7 rfl rfl ?_
  refine jr_iconst (v := 0) dX8_cut_8 (by decide) ?_
  obtain ⟨fs6, e7, e8, k⟩ := k
  refine jr_putE jp_X8_27 dX8_cut_9 e7 e8 rfl rfl (fun h9 eh10 => ?_)
  have k := k h9 eh10
  refine jr_iconst (v := 0) dX8_cut_12 (by decide) ?_
  refine jr_istore (lv' := [(4, .int 0), (3, .int (jmin x2 ((nI z2.1)))), (0, .ref x0), (1, .ref x1), (2, .int x2)]) dX8_cut_13 (by decide) rfl ?_
  exact jr_sub [2, 3, 1, 0] rfl k
set_option maxRecDepth 20000 in
theorem bX8_cut_15 {g : jG} {d : Nat} {hs : jH} {P : jO → jH → Prop} {x0 : Nat} {x1 : Nat} {x3 : Int32} {x4 : Int32} {h : jH} (k : (x4 < x3 → ∃ (n5 : Nat) (f6 : Nat → Int32), h.1 x1 = some (.inl (1, (n5, .inl f6))) ∧ vp_in x4 n5 ∧ ((f6 x4.toNatClampNeg) = 10 → J g mX8_cut (d + 1) hs P 15 [(0, .ref x0), (1, .ref x1), (3, .int x3), (4, .int (x4 + 1))] [] h) ∧ (¬ (f6 x4.toNatClampNeg) = 10 → ∃ (n9 : Nat) (f10 : Nat → Int32), h.1 x1 = some (.inl (1, (n9, .inl f10))) ∧ vp_in x4 n9 ∧ ((f10 x4.toNatClampNeg) = 32 → J g mX8_cut (d + 1) hs P 15 [(0, .ref x0), (1, .ref x1), (3, .int x3), (4, .int (x4 + 1))] [] h) ∧ (¬ (f10 x4.toNatClampNeg) = 32 → ∃ fs15 : List Value, h.1 x0 = some (.inr (8, fs15)) ∧ Con g mX8_cutOne d [.ref x0, .ref x1, .int x4, .int x3] h (jPi (fun (r13 : Int32) (h14 : jH) => J g mX8_cut (d + 1) hs P 15 [(0, .ref x0), (1, .ref x1), (3, .int x3), (4, .int ((jmax x4 r13) + 1))] [] h14) (fun E h' => P (.inr E) h'))))) ∧ (¬ x4 < x3 → ∃ fs3 : List Value, h.1 x0 = some (.inr (8, fs3)) ∧ Con g mX8_add d [.ref x0, .int 0, .int 0, .int x3] h (jPv (fun (h2 : jH) => P (.inl none) h2) (fun E h' => P (.inr E) h')))) : J g mX8_cut (d + 1) hs P 15 [(0, .ref x0), (1, .ref x1), (3, .int x3), (4, .int x4)] [] h := by
  refine jr_iload 3 dX8_cut_15 rfl ?_
  refine jr_iload_n 2 dX8_cut_17 rfl rfl ?_
  refine jr_icmp_ge (tgt := 60) dX8_cut_18 (by decide) (fun c18 => ?_) (fun c18 => ?_)
  · have k := k.2 c18
    refine jr_aload_n 0 dX8_cut_60 rfl rfl ?_
    refine jr_iconst (v := 0) dX8_cut_61 (by decide) ?_
    refine jr_iconst (v := 0) dX8_cut_62 (by decide) ?_
    refine jr_iload_n 2 dX8_cut_63 rfl rfl ?_
    obtain ⟨fs3, e4, k⟩ := k
    refine jr_cVv (As := [.int 0, .int 0, .int x3]) jl_X8_38 km_X8_add rfl rfl dX8_cut_64 e4 (Nat.le_of_ble_eq_true rfl) k (fun h2 k => ?_)
    exact jr_vret rfl dX8_cut_67 k
  · have k := k.1 c18
    refine jr_aload_n 1 dX8_cut_21 rfl rfl ?_
    refine jr_iload 3 dX8_cut_22 rfl ?_
    obtain ⟨n5, f6, e7, e8, k⟩ := k
    refine jr_bald dX8_cut_24 e7 e8 ?_
    refine jr_bipush (v := 10) dX8_cut_25 (by decide) ?_
    refine jr_icmp_eq (tgt := 54) dX8_cut_27 (by decide) (fun c27 => ?_) (fun c27 => ?_)
    · have k := k.1 c27
      refine jr_iinc (v := (x4 + 1)) (lv' := [(4, .int (x4 + 1)), (0, .ref x0), (1, .ref x1), (3, .int x3)]) 3 dX8_cut_54 rfl rfl (by decide) rfl ?_
      refine jr_goto (tgt := 15) dX8_cut_57 (by decide) ?_
      exact jr_sub [1, 2, 3, 0] rfl k
    · have k := k.2 c27
      refine jr_aload_n 1 dX8_cut_30 rfl rfl ?_
      refine jr_iload 3 dX8_cut_31 rfl ?_
      obtain ⟨n9, f10, e11, e12, k⟩ := k
      refine jr_bald dX8_cut_33 e11 e12 ?_
      refine jr_bipush (v := 32) dX8_cut_34 (by decide) ?_
      refine jr_icmp_eq (tgt := 54) dX8_cut_36 (by decide) (fun c36 => ?_) (fun c36 => ?_)
      · have k := k.1 c36
        refine jr_iinc (v := (x4 + 1)) (lv' := [(4, .int (x4 + 1)), (0, .ref x0), (1, .ref x1), (3, .int x3)]) 3 dX8_cut_54 rfl rfl (by decide) rfl ?_
        refine jr_goto (tgt := 15) dX8_cut_57 (by decide) ?_
        exact jr_sub [1, 2, 3, 0] rfl k
      · have k := k.2 c36
        refine jr_iload 3 dX8_cut_39 rfl ?_
        refine jr_aload_n 0 dX8_cut_41 rfl rfl ?_
        refine jr_aload_n 1 dX8_cut_42 rfl rfl ?_
        refine jr_iload 3 dX8_cut_43 rfl ?_
        refine jr_iload_n 2 dX8_cut_45 rfl rfl ?_
        obtain ⟨fs15, e16, k⟩ := k
        refine jr_cVi (As := [.ref x1, .int x4, .int x3]) jl_X8_31 km_X8_cutOne rfl rfl dX8_cut_46 e16 (Nat.le_of_ble_eq_true rfl) k (fun r13 h14 k => ?_)
        refine jr_mmax jl_X8_35 dX8_cut_49 (Nat.le_of_ble_eq_true rfl) ?_
        refine jr_istore (lv' := [(4, .int (jmax x4 r13)), (0, .ref x0), (1, .ref x1), (3, .int x3)]) dX8_cut_52 (by decide) rfl ?_
        refine jr_iinc (v := ((jmax x4 r13) + 1)) (lv' := [(4, .int ((jmax x4 r13) + 1)), (0, .ref x0), (1, .ref x1), (3, .int x3)]) 0 dX8_cut_54 rfl rfl (by decide) rfl ?_
        refine jr_goto (tgt := 15) dX8_cut_57 (by decide) ?_
        exact jr_sub [1, 2, 3, 0] rfl k
set_option maxRecDepth 20000 in
theorem bX8_cutOne_0 {g : jG} {d : Nat} {hs : jH} {P : jO → jH → Prop} {x0 : Nat} {x1 : Nat} {x2 : Int32} {x3 : Int32} {h : jH} (k : ∃ (n1 : Nat) (f2 : Nat → Int32), h.1 x1 = some (.inl (1, (n1, .inl f2))) ∧ vp_in x2 n1 ∧ ∃ fs7 : List Value, h.1 x0 = some (.inr (8, fs7)) ∧ Con g mX8_isDigit d [.ref x0, .int (f2 x2.toNatClampNeg)] h (jPi (fun (r5 : Int32) (h6 : jH) => (r5 = 0 → ∃ (n9 : Nat) (f10 : Nat → Int32), h6.1 x1 = some (.inl (1, (n9, .inl f10))) ∧ vp_in x2 n9 ∧ ∃ fs15 : List Value, h6.1 x0 = some (.inr (8, fs15)) ∧ Con g mX8_isLetter d [.ref x0, .int (f10 x2.toNatClampNeg)] h6 (jPi (fun (r13 : Int32) (h14 : jH) => (r13 = 0 → ∃ (n17 : Nat) (f18 : Nat → Int32), h14.1 x1 = some (.inl (1, (n17, .inl f18))) ∧ vp_in x2 n17 ∧ (∃ k9 : Nat, k9 < 37 ∧ (gS g 2) = gS g k9) ∧ Con g mJ0_indexOf_0f7a4 d [.ref (gS g 2), .int ((((f18 x2.toNatClampNeg) &&& 255)).toUInt32 % 65536).toInt32] h14 (jPi (fun (r21 : Int32) (h22 : jH) => (r21 < 0 → J g mX8_cutOne (d + 1) hs P 164 [(2, .int x2), (4, .int (x2 + 1))] [.int 1, .ref x0] h22) ∧ (¬ r21 < 0 → ∃ (n24 : Nat) (f25 : Nat → Int32), h22.1 x1 = some (.inl (1, (n24, .inl f25))) ∧ vp_in x2 n24 ∧ J g mX8_cutOne (d + 1) hs P 164 [(2, .int x2), (4, .int (x2 + 1))] [.int (f25 x2.toNatClampNeg), .ref x0] h22)) (fun E h' => P (.inr E) h'))) ∧ (¬ r13 = 0 → J g mX8_cutOne (d + 1) hs P 100 [(0, .ref x0), (1, .ref x1), (2, .int x2), (3, .int x3), (4, .int (x2 + 1))] [] h14)) (fun E h' => P (.inr E) h'))) ∧ (¬ r5 = 0 → ∃ (n28 : Nat) (f29 : Nat → Int32), h6.1 x1 = some (.inl (1, (n28, .inl f29))) ∧ vp_in x2 n28 ∧ J g mX8_cutOne (d + 1) hs P 23 [(0, .ref x0), (1, .ref x1), (2, .int x2), (3, .int x3), (4, .int (x2 + 1)), (5, .int ((f29 x2.toNatClampNeg) - 48))] [] h6)) (fun E h' => P (.inr E) h'))) : J g mX8_cutOne (d + 1) hs P 0 [(0, .ref x0), (1, .ref x1), (2, .int x2), (3, .int x3)] [] h := by
  refine jr_iload_n 2 dX8_cutOne_0 rfl rfl ?_
  refine jr_iconst (v := 1) dX8_cutOne_1 (by decide) ?_
  refine jr_iadd dX8_cutOne_2 ?_
  refine jr_istore (lv' := [(4, .int (x2 + 1)), (0, .ref x0), (1, .ref x1), (2, .int x2), (3, .int x3)]) dX8_cutOne_3 (by decide) rfl ?_
  refine jr_aload_n 1 dX8_cutOne_5 rfl rfl ?_
  refine jr_aload_n 2 dX8_cutOne_6 rfl rfl ?_
  refine jr_iload_n 3 dX8_cutOne_7 rfl rfl ?_
  obtain ⟨n1, f2, e3, e4, k⟩ := k
  refine jr_bald dX8_cutOne_8 e3 e4 ?_
  obtain ⟨fs7, e8, k⟩ := k
  refine jr_cVi (As := [.int (f2 x2.toNatClampNeg)]) jl_X8_42 km_X8_isDigit rfl rfl dX8_cutOne_9 e8 (Nat.le_of_ble_eq_true rfl) k (fun r5 h6 k => ?_)
  refine jr_if_eq (tgt := 90) dX8_cutOne_12 (by decide) (fun c12 => ?_) (fun c12 => ?_)
  · have k := k.1 c12
    refine jr_aload_n 1 dX8_cutOne_90 rfl rfl ?_
    refine jr_aload_n 2 dX8_cutOne_91 rfl rfl ?_
    refine jr_iload_n 3 dX8_cutOne_92 rfl rfl ?_
    obtain ⟨n9, f10, e11, e12, k⟩ := k
    refine jr_bald dX8_cutOne_93 e11 e12 ?_
    obtain ⟨fs15, e16, k⟩ := k
    refine jr_cVi (As := [.int (f10 x2.toNatClampNeg)]) jl_X8_46 km_X8_isLetter rfl rfl dX8_cutOne_94 e16 (Nat.le_of_ble_eq_true rfl) k (fun r13 h14 k => ?_)
    refine jr_if_eq (tgt := 140) dX8_cutOne_97 (by decide) (fun c97 => ?_) (fun c97 => ?_)
    · have k := k.1 c97
      refine jr_aload_n 1 dX8_cutOne_140 rfl rfl ?_
      refine jr_ldcS (k9 := 2) rfl rfl rfl dX8_cutOne_141 ?_
      refine jr_aload_n 2 dX8_cutOne_143 rfl rfl ?_
      refine jr_iload_n 3 dX8_cutOne_144 rfl rfl ?_
      obtain ⟨n17, f18, e19, e20, k⟩ := k
      refine jr_bald dX8_cutOne_145 e19 e20 ?_
      refine jr_sipush (v := 255) dX8_cutOne_146 (by decide) ?_
      refine jr_iand dX8_cutOne_149 ?_
      refine jr_i2c dX8_cutOne_150 ?_
      obtain ⟨b23, k⟩ := k
      refine jr_cQi (As := [.int ((((f18 x2.toNatClampNeg) &&& 255)).toUInt32 % 65536).toInt32]) jl_X8_54 km_J0_indexOf_0f7a4 rfl rfl dX8_cutOne_151 b23 (Nat.le_of_ble_eq_true rfl) k (fun r21 h22 k => ?_)
      refine jr_if_lt (tgt := 163) dX8_cutOne_154 (by decide) (fun c154 => ?_) (fun c154 => ?_)
      · have k := k.1 c154
        refine jr_iconst (v := 1) dX8_cutOne_163 (by decide) ?_
        exact jr_sub [3, 0] rfl k
      · have k := k.2 c154
        refine jr_aload_n 2 dX8_cutOne_157 rfl rfl ?_
        refine jr_iload_n 3 dX8_cutOne_158 rfl rfl ?_
        obtain ⟨n24, f25, e26, e27, k⟩ := k
        refine jr_bald dX8_cutOne_159 e26 e27 ?_
        refine jr_goto (tgt := 164) dX8_cutOne_160 (by decide) ?_
        exact jr_sub [3, 0] rfl k
    · have k := k.2 c97
      exact jr_sub [1, 2, 3, 4, 0] rfl k
  · have k := k.2 c12
    refine jr_aload_n 2 dX8_cutOne_15 rfl rfl ?_
    refine jr_iload_n 3 dX8_cutOne_16 rfl rfl ?_
    obtain ⟨n28, f29, e30, e31, k⟩ := k
    refine jr_bald dX8_cutOne_17 e30 e31 ?_
    refine jr_bipush (v := 48) dX8_cutOne_18 (by decide) ?_
    refine jr_isub dX8_cutOne_20 ?_
    refine jr_istore (lv' := [(5, .int ((f29 x2.toNatClampNeg) - 48)), (4, .int (x2 + 1)), (0, .ref x0), (1, .ref x1), (2, .int x2), (3, .int x3)]) dX8_cutOne_21 (by decide) rfl ?_
    exact jr_sub [2, 3, 4, 5, 1, 0] rfl k
set_option maxRecDepth 20000 in
theorem bX8_cutOne_23 {g : jG} {d : Nat} {hs : jH} {P : jO → jH → Prop} {x0 : Nat} {x1 : Nat} {x2 : Int32} {x3 : Int32} {x4 : Int32} {x5 : Int32} {h : jH} (k : (x4 < x3 → ∃ (n1 : Nat) (f2 : Nat → Int32), h.1 x1 = some (.inl (1, (n1, .inl f2))) ∧ vp_in x4 n1 ∧ ∃ fs7 : List Value, h.1 x0 = some (.inr (8, fs7)) ∧ Con g mX8_isDigit d [.ref x0, .int (f2 x4.toNatClampNeg)] h (jPi (fun (r5 : Int32) (h6 : jH) => (r5 = 0 → J g mX8_cutOne (d + 1) hs P 67 [(0, .ref x0), (2, .int x2), (4, .int x4), (5, .int x5)] [] h6) ∧ (¬ r5 = 0 → ∃ (n9 : Nat) (f10 : Nat → Int32), h6.1 x1 = some (.inl (1, (n9, .inl f10))) ∧ vp_in x4 n9 ∧ J g mX8_cutOne (d + 1) hs P 23 [(0, .ref x0), (1, .ref x1), (2, .int x2), (3, .int x3), (4, .int (x4 + 1)), (5, .int (jmin ((((x5 * 10) + (f10 x4.toNatClampNeg)) - 48)) 1000))] [] h6)) (fun E h' => P (.inr E) h'))) ∧ (¬ x4 < x3 → J g mX8_cutOne (d + 1) hs P 67 [(0, .ref x0), (2, .int x2), (4, .int x4), (5, .int x5)] [] h)) : J g mX8_cutOne (d + 1) hs P 23 [(0, .ref x0), (1, .ref x1), (2, .int x2), (3, .int x3), (4, .int x4), (5, .int x5)] [] h := by
  refine jr_iload 4 dX8_cutOne_23 rfl ?_
  refine jr_iload_n 3 dX8_cutOne_25 rfl rfl ?_
  refine jr_icmp_ge (tgt := 67) dX8_cutOne_26 (by decide) (fun c26 => ?_) (fun c26 => ?_)
  · have k := k.2 c26
    exact jr_sub [0, 2, 4, 5] rfl k
  · have k := k.1 c26
    refine jr_aload_n 0 dX8_cutOne_29 rfl rfl ?_
    refine jr_aload_n 1 dX8_cutOne_30 rfl rfl ?_
    refine jr_iload 4 dX8_cutOne_31 rfl ?_
    obtain ⟨n1, f2, e3, e4, k⟩ := k
    refine jr_bald dX8_cutOne_33 e3 e4 ?_
    obtain ⟨fs7, e8, k⟩ := k
    refine jr_cVi (As := [.int (f2 x4.toNatClampNeg)]) jl_X8_42 km_X8_isDigit rfl rfl dX8_cutOne_34 e8 (Nat.le_of_ble_eq_true rfl) k (fun r5 h6 k => ?_)
    refine jr_if_eq (tgt := 67) dX8_cutOne_37 (by decide) (fun c37 => ?_) (fun c37 => ?_)
    · have k := k.1 c37
      exact jr_sub [0, 2, 4, 5] rfl k
    · have k := k.2 c37
      refine jr_iload 5 dX8_cutOne_40 rfl ?_
      refine jr_bipush (v := 10) dX8_cutOne_42 (by decide) ?_
      refine jr_imul dX8_cutOne_44 ?_
      refine jr_aload_n 1 dX8_cutOne_45 rfl rfl ?_
      refine jr_iload 4 dX8_cutOne_46 rfl ?_
      obtain ⟨n9, f10, e11, e12, k⟩ := k
      refine jr_bald dX8_cutOne_48 e11 e12 ?_
      refine jr_iadd dX8_cutOne_49 ?_
      refine jr_bipush (v := 48) dX8_cutOne_50 (by decide) ?_
      refine jr_isub dX8_cutOne_52 ?_
      refine jr_sipush (v := 1000) dX8_cutOne_53 (by decide) ?_
      refine jr_mmin jl_X8_21 dX8_cutOne_56 (Nat.le_of_ble_eq_true rfl) ?_
      refine jr_istore (lv' := [(5, .int (jmin ((((x5 * 10) + (f10 x4.toNatClampNeg)) - 48)) 1000)), (0, .ref x0), (1, .ref x1), (2, .int x2), (3, .int x3), (4, .int x4)]) dX8_cutOne_59 (by decide) rfl ?_
      refine jr_iinc (v := (x4 + 1)) (lv' := [(4, .int (x4 + 1)), (5, .int (jmin ((((x5 * 10) + (f10 x4.toNatClampNeg)) - 48)) 1000)), (0, .ref x0), (1, .ref x1), (2, .int x2), (3, .int x3)]) 5 dX8_cutOne_61 rfl rfl (by decide) rfl ?_
      refine jr_goto (tgt := 23) dX8_cutOne_64 (by decide) ?_
      exact jr_sub [2, 3, 4, 5, 0, 1] rfl k
set_option maxRecDepth 20000 in
theorem bX8_cutOne_67 {g : jG} {d : Nat} {hs : jH} {P : jO → jH → Prop} {x0 : Nat} {x2 : Int32} {x4 : Int32} {x5 : Int32} {h : jH} (k : (3 < (x4 - x2) → J g mX8_cutOne (d + 1) hs P 81 [(2, .int x2), (4, .int x4), (5, .int x5)] [.int 1, .ref x0] h) ∧ (¬ 3 < (x4 - x2) → J g mX8_cutOne (d + 1) hs P 81 [(2, .int x2), (4, .int x4), (5, .int x5)] [.int 2, .ref x0] h)) : J g mX8_cutOne (d + 1) hs P 67 [(0, .ref x0), (2, .int x2), (4, .int x4), (5, .int x5)] [] h := by
  refine jr_aload_n 0 dX8_cutOne_67 rfl rfl ?_
  refine jr_iload 2 dX8_cutOne_68 rfl ?_
  refine jr_iload_n 1 dX8_cutOne_70 rfl rfl ?_
  refine jr_isub dX8_cutOne_71 ?_
  refine jr_iconst (v := 3) dX8_cutOne_72 (by decide) ?_
  refine jr_icmp_le (tgt := 80) dX8_cutOne_73 (by decide) (fun c73 => ?_) (fun c73 => ?_)
  · have k := k.2 c73
    refine jr_iconst (v := 2) dX8_cutOne_80 (by decide) ?_
    exact jr_sub [1, 2, 3] rfl k
  · have k := k.1 c73
    refine jr_iconst (v := 1) dX8_cutOne_76 (by decide) ?_
    refine jr_goto (tgt := 81) dX8_cutOne_77 (by decide) ?_
    exact jr_sub [1, 2, 3] rfl k
set_option maxRecDepth 20000 in
theorem bX8_cutOne_81 {g : jG} {d : Nat} {hs : jH} {P : jO → jH → Prop} {x2 : Int32} {x4 : Int32} {x5 : Int32} {s0 : Nat} {s1 : Int32} {h : jH} (k : ∃ fs3 : List Value, h.1 s0 = some (.inr (8, fs3)) ∧ Con g mX8_add d [.ref s0, .int s1, .int x5, .int x2] h (jPv (fun (h2 : jH) => P (.inl (some (.int ((x4 - 1))))) h2) (fun E h' => P (.inr E) h'))) : J g mX8_cutOne (d + 1) hs P 81 [(2, .int x2), (4, .int x4), (5, .int x5)] [.int s1, .ref s0] h := by
  refine jr_iload 2 dX8_cutOne_81 rfl ?_
  refine jr_iload_n 0 dX8_cutOne_83 rfl rfl ?_
  obtain ⟨fs3, e4, k⟩ := k
  refine jr_cVv (As := [.int s1, .int x5, .int x2]) jl_X8_38 km_X8_add rfl rfl dX8_cutOne_84 e4 (Nat.le_of_ble_eq_true rfl) k (fun h2 k => ?_)
  refine jr_goto (tgt := 169) dX8_cutOne_87 (by decide) ?_
  refine jr_iload 1 dX8_cutOne_169 rfl ?_
  refine jr_iconst (v := 1) dX8_cutOne_171 (by decide) ?_
  refine jr_isub dX8_cutOne_172 ?_
  exact jr_iret (ty := .int) rfl rfl dX8_cutOne_173 k
set_option maxRecDepth 20000 in
theorem bX8_cutOne_100 {g : jG} {d : Nat} {hs : jH} {P : jO → jH → Prop} {x0 : Nat} {x1 : Nat} {x2 : Int32} {x3 : Int32} {x4 : Int32} {h : jH} (k : (x4 < x3 → ∃ (n1 : Nat) (f2 : Nat → Int32), h.1 x1 = some (.inl (1, (n1, .inl f2))) ∧ vp_in x4 n1 ∧ ∃ fs7 : List Value, h.1 x0 = some (.inr (8, fs7)) ∧ Con g mX8_isLetter d [.ref x0, .int (f2 x4.toNatClampNeg)] h (jPi (fun (r5 : Int32) (h6 : jH) => (r5 = 0 → J g mX8_cutOne (d + 1) hs P 123 [(0, .ref x0), (1, .ref x1), (2, .int x2), (4, .int x4)] [] h6) ∧ (¬ r5 = 0 → J g mX8_cutOne (d + 1) hs P 100 [(0, .ref x0), (1, .ref x1), (2, .int x2), (3, .int x3), (4, .int (x4 + 1))] [] h6)) (fun E h' => P (.inr E) h'))) ∧ (¬ x4 < x3 → J g mX8_cutOne (d + 1) hs P 123 [(0, .ref x0), (1, .ref x1), (2, .int x2), (4, .int x4)] [] h)) : J g mX8_cutOne (d + 1) hs P 100 [(0, .ref x0), (1, .ref x1), (2, .int x2), (3, .int x3), (4, .int x4)] [] h := by
  refine jr_iload 4 dX8_cutOne_100 rfl ?_
  refine jr_iload_n 3 dX8_cutOne_102 rfl rfl ?_
  refine jr_icmp_ge (tgt := 123) dX8_cutOne_103 (by decide) (fun c103 => ?_) (fun c103 => ?_)
  · have k := k.2 c103
    exact jr_sub [0, 1, 2, 4] rfl k
  · have k := k.1 c103
    refine jr_aload_n 0 dX8_cutOne_106 rfl rfl ?_
    refine jr_aload_n 1 dX8_cutOne_107 rfl rfl ?_
    refine jr_iload 4 dX8_cutOne_108 rfl ?_
    obtain ⟨n1, f2, e3, e4, k⟩ := k
    refine jr_bald dX8_cutOne_110 e3 e4 ?_
    obtain ⟨fs7, e8, k⟩ := k
    refine jr_cVi (As := [.int (f2 x4.toNatClampNeg)]) jl_X8_46 km_X8_isLetter rfl rfl dX8_cutOne_111 e8 (Nat.le_of_ble_eq_true rfl) k (fun r5 h6 k => ?_)
    refine jr_if_eq (tgt := 123) dX8_cutOne_114 (by decide) (fun c114 => ?_) (fun c114 => ?_)
    · have k := k.1 c114
      exact jr_sub [0, 1, 2, 4] rfl k
    · have k := k.2 c114
      refine jr_iinc (v := (x4 + 1)) (lv' := [(4, .int (x4 + 1)), (0, .ref x0), (1, .ref x1), (2, .int x2), (3, .int x3)]) 4 dX8_cutOne_117 rfl rfl (by decide) rfl ?_
      refine jr_goto (tgt := 100) dX8_cutOne_120 (by decide) ?_
      exact jr_sub [1, 2, 3, 4, 0] rfl k
set_option maxRecDepth 20000 in
theorem bX8_cutOne_123 {g : jG} {d : Nat} {hs : jH} {P : jO → jH → Prop} {x0 : Nat} {x1 : Nat} {x2 : Int32} {x4 : Int32} {h : jH} (k : ∃ fs3 : List Value, h.1 x0 = some (.inr (8, fs3)) ∧ Con g mX8_wordOf d [.ref x0, .ref x1, .int x2, .int x4] h (jPi (fun (r1 : Int32) (h2 : jH) => ∃ fs7 : List Value, h2.1 x0 = some (.inr (8, fs7)) ∧ Con g mX8_add d [.ref x0, .int r1, .int 0, .int x2] h2 (jPv (fun (h6 : jH) => P (.inl (some (.int ((x4 - 1))))) h6) (fun E h' => P (.inr E) h'))) (fun E h' => P (.inr E) h'))) : J g mX8_cutOne (d + 1) hs P 123 [(0, .ref x0), (1, .ref x1), (2, .int x2), (4, .int x4)] [] h := by
  refine jr_aload_n 0 dX8_cutOne_123 rfl rfl ?_
  refine jr_aload_n 0 dX8_cutOne_124 rfl rfl ?_
  refine jr_aload_n 1 dX8_cutOne_125 rfl rfl ?_
  refine jr_iload_n 2 dX8_cutOne_126 rfl rfl ?_
  refine jr_iload 3 dX8_cutOne_127 rfl ?_
  obtain ⟨fs3, e4, k⟩ := k
  refine jr_cVi (As := [.ref x1, .int x2, .int x4]) jl_X8_49 km_X8_wordOf rfl rfl dX8_cutOne_129 e4 (Nat.le_of_ble_eq_true rfl) k (fun r1 h2 k => ?_)
  refine jr_iconst (v := 0) dX8_cutOne_132 (by decide) ?_
  refine jr_iload_n 2 dX8_cutOne_133 rfl rfl ?_
  obtain ⟨fs7, e8, k⟩ := k
  refine jr_cVv (As := [.int r1, .int 0, .int x2]) jl_X8_38 km_X8_add rfl rfl dX8_cutOne_134 e8 (Nat.le_of_ble_eq_true rfl) k (fun h6 k => ?_)
  refine jr_goto (tgt := 169) dX8_cutOne_137 (by decide) ?_
  refine jr_iload 3 dX8_cutOne_169 rfl ?_
  refine jr_iconst (v := 1) dX8_cutOne_171 (by decide) ?_
  refine jr_isub dX8_cutOne_172 ?_
  exact jr_iret (ty := .int) rfl rfl dX8_cutOne_173 k
set_option maxRecDepth 20000 in
theorem bX8_cutOne_164 {g : jG} {d : Nat} {hs : jH} {P : jO → jH → Prop} {x2 : Int32} {x4 : Int32} {s0 : Nat} {s1 : Int32} {h : jH} (k : ∃ fs3 : List Value, h.1 s0 = some (.inr (8, fs3)) ∧ Con g mX8_add d [.ref s0, .int s1, .int 0, .int x2] h (jPv (fun (h2 : jH) => P (.inl (some (.int ((x4 - 1))))) h2) (fun E h' => P (.inr E) h'))) : J g mX8_cutOne (d + 1) hs P 164 [(2, .int x2), (4, .int x4)] [.int s1, .ref s0] h := by
  refine jr_iconst (v := 0) dX8_cutOne_164 (by decide) ?_
  refine jr_iload_n 0 dX8_cutOne_165 rfl rfl ?_
  obtain ⟨fs3, e4, k⟩ := k
  refine jr_cVv (As := [.int s1, .int 0, .int x2]) jl_X8_38 km_X8_add rfl rfl dX8_cutOne_166 e4 (Nat.le_of_ble_eq_true rfl) k (fun h2 k => ?_)
  refine jr_iload 1 dX8_cutOne_169 rfl ?_
  refine jr_iconst (v := 1) dX8_cutOne_171 (by decide) ?_
  refine jr_isub dX8_cutOne_172 ?_
  exact jr_iret (ty := .int) rfl rfl dX8_cutOne_173 k
set_option maxRecDepth 20000 in
theorem bX8_isDigit_0 {g : jG} {d : Nat} {hs : jH} {P : jO → jH → Prop} {x0 : Nat} {x1 : Int32} {h : jH} (k : (x1 < 48 → P (.inl (some (.int 0))) h) ∧ (¬ x1 < 48 → (57 < x1 → P (.inl (some (.int 0))) h) ∧ (¬ 57 < x1 → P (.inl (some (.int 1))) h))) : J g mX8_isDigit (d + 1) hs P 0 [(0, .ref x0), (1, .int x1)] [] h := by
  refine jr_iload_n 1 dX8_isDigit_0 rfl rfl ?_
  refine jr_bipush (v := 48) dX8_isDigit_1 (by decide) ?_
  refine jr_icmp_lt (tgt := 16) dX8_isDigit_3 (by decide) (fun c3 => ?_) (fun c3 => ?_)
  · have k := k.1 c3
    refine jr_iconst (v := 0) dX8_isDigit_16 (by decide) ?_
    exact jr_iret (ty := .boolean) rfl rfl dX8_isDigit_17 k
  · have k := k.2 c3
    refine jr_iload_n 1 dX8_isDigit_6 rfl rfl ?_
    refine jr_bipush (v := 57) dX8_isDigit_7 (by decide) ?_
    refine jr_icmp_gt (tgt := 16) dX8_isDigit_9 (by decide) (fun c9 => ?_) (fun c9 => ?_)
    · have k := k.1 c9
      refine jr_iconst (v := 0) dX8_isDigit_16 (by decide) ?_
      exact jr_iret (ty := .boolean) rfl rfl dX8_isDigit_17 k
    · have k := k.2 c9
      refine jr_iconst (v := 1) dX8_isDigit_12 (by decide) ?_
      refine jr_goto (tgt := 17) dX8_isDigit_13 (by decide) ?_
      exact jr_iret (ty := .boolean) rfl rfl dX8_isDigit_17 k
set_option maxRecDepth 20000 in
theorem bX8_isLetter_0 {g : jG} {d : Nat} {hs : jH} {P : jO → jH → Prop} {x0 : Nat} {x1 : Int32} {h : jH} (k : (x1 < 97 → P (.inl (some (.int 0))) h) ∧ (¬ x1 < 97 → (122 < x1 → P (.inl (some (.int 0))) h) ∧ (¬ 122 < x1 → P (.inl (some (.int 1))) h))) : J g mX8_isLetter (d + 1) hs P 0 [(0, .ref x0), (1, .int x1)] [] h := by
  refine jr_iload_n 1 dX8_isLetter_0 rfl rfl ?_
  refine jr_bipush (v := 97) dX8_isLetter_1 (by decide) ?_
  refine jr_icmp_lt (tgt := 16) dX8_isLetter_3 (by decide) (fun c3 => ?_) (fun c3 => ?_)
  · have k := k.1 c3
    refine jr_iconst (v := 0) dX8_isLetter_16 (by decide) ?_
    exact jr_iret (ty := .boolean) rfl rfl dX8_isLetter_17 k
  · have k := k.2 c3
    refine jr_iload_n 1 dX8_isLetter_6 rfl rfl ?_
    refine jr_bipush (v := 122) dX8_isLetter_7 (by decide) ?_
    refine jr_icmp_gt (tgt := 16) dX8_isLetter_9 (by decide) (fun c9 => ?_) (fun c9 => ?_)
    · have k := k.1 c9
      refine jr_iconst (v := 0) dX8_isLetter_16 (by decide) ?_
      exact jr_iret (ty := .boolean) rfl rfl dX8_isLetter_17 k
    · have k := k.2 c9
      refine jr_iconst (v := 1) dX8_isLetter_12 (by decide) ?_
      refine jr_goto (tgt := 17) dX8_isLetter_13 (by decide) ?_
      exact jr_iret (ty := .boolean) rfl rfl dX8_isLetter_17 k
set_option maxRecDepth 20000 in
theorem bX8_wordOf_0 {g : jG} {d : Nat} {hs : jH} {P : jO → jH → Prop} {x0 : Nat} {x1 : Nat} {x2 : Int32} {x3 : Int32} {h : jH} (k : J g mX8_wordOf (d + 1) hs P 14 [(1, .ref x1), (2, .int x2), (3, .int x3), (4, .int 128), (5, .int x2), (6, .int 1), (7, .int 0)] [] h) : J g mX8_wordOf (d + 1) hs P 0 [(0, .ref x0), (1, .ref x1), (2, .int x2), (3, .int x3)] [] h := by
  refine jr_sipush (v := 128) dX8_wordOf_0 (by decide) ?_
  refine jr_istore (lv' := [(4, .int 128), (0, .ref x0), (1, .ref x1), (2, .int x2), (3, .int x3)]) dX8_wordOf_3 (by decide) rfl ?_
  refine jr_iload_n 3 dX8_wordOf_5 rfl rfl ?_
  refine jr_istore (lv' := [(5, .int x2), (4, .int 128), (0, .ref x0), (1, .ref x1), (2, .int x2), (3, .int x3)]) dX8_wordOf_6 (by decide) rfl ?_
  refine jr_iconst (v := 1) dX8_wordOf_8 (by decide) ?_
  refine jr_istore (lv' := [(6, .int 1), (5, .int x2), (4, .int 128), (0, .ref x0), (1, .ref x1), (2, .int x2), (3, .int x3)]) dX8_wordOf_9 (by decide) rfl ?_
  refine jr_iconst (v := 0) dX8_wordOf_11 (by decide) ?_
  refine jr_istore (lv' := [(7, .int 0), (6, .int 1), (5, .int x2), (4, .int 128), (0, .ref x0), (1, .ref x1), (2, .int x2), (3, .int x3)]) dX8_wordOf_12 (by decide) rfl ?_
  exact jr_sub [5, 6, 7, 3, 2, 1, 0] rfl k
set_option maxRecDepth 20000 in
theorem bX8_wordOf_14 {g : jG} {d : Nat} {hs : jH} {P : jO → jH → Prop} {x1 : Nat} {x2 : Int32} {x3 : Int32} {x4 : Int32} {x5 : Int32} {x6 : Int32} {x7 : Int32} {h : jH} (k : (∃ k9 : Nat, k9 < 37 ∧ (gS g 1) = gS g k9) ∧ Con g mJ0_length_8abf5 d [.ref (gS g 1)] h (jPi (fun (r1 : Int32) (h2 : jH) => (x7 < r1 → (∃ k9 : Nat, k9 < 37 ∧ (gS g 1) = gS g k9) ∧ Con g mJ0_charAt_5068e d [.ref (gS g 1), .int x7] h2 (jPi (fun (r4 : Int32) (h5 : jH) => (r4 = 32 → (x6 = 0 → J g mX8_wordOf (d + 1) hs P 14 [(1, .ref x1), (2, .int x2), (3, .int x3), (4, .int (x4 + 1)), (5, .int x2), (6, .int 1), (7, .int (x7 + 1))] [] h5) ∧ (¬ x6 = 0 → (x5 = x3 → P (.inl (some (.int x4))) h5) ∧ (¬ x5 = x3 → J g mX8_wordOf (d + 1) hs P 14 [(1, .ref x1), (2, .int x2), (3, .int x3), (4, .int (x4 + 1)), (5, .int x2), (6, .int 1), (7, .int (x7 + 1))] [] h5))) ∧ (¬ r4 = 32 → (x6 = 0 → J g mX8_wordOf (d + 1) hs P 14 [(1, .ref x1), (2, .int x2), (3, .int x3), (4, .int x4), (5, .int (x5 + 1)), (6, .int 0), (7, .int (x7 + 1))] [] h5) ∧ (¬ x6 = 0 → (x5 < x3 → ∃ (n7 : Nat) (f8 : Nat → Int32), h5.1 x1 = some (.inl (1, (n7, .inl f8))) ∧ vp_in x5 n7 ∧ (∃ k9 : Nat, k9 < 37 ∧ (gS g 1) = gS g k9) ∧ Con g mJ0_charAt_5068e d [.ref (gS g 1), .int x7] h5 (jPi (fun (r11 : Int32) (h12 : jH) => ((f8 x5.toNatClampNeg) = r11 → J g mX8_wordOf (d + 1) hs P 14 [(1, .ref x1), (2, .int x2), (3, .int x3), (4, .int x4), (5, .int (x5 + 1)), (6, .int 1), (7, .int (x7 + 1))] [] h12) ∧ (¬ (f8 x5.toNatClampNeg) = r11 → J g mX8_wordOf (d + 1) hs P 14 [(1, .ref x1), (2, .int x2), (3, .int x3), (4, .int x4), (5, .int (x5 + 1)), (6, .int 0), (7, .int (x7 + 1))] [] h12)) (fun E h' => P (.inr E) h'))) ∧ (¬ x5 < x3 → J g mX8_wordOf (d + 1) hs P 14 [(1, .ref x1), (2, .int x2), (3, .int x3), (4, .int x4), (5, .int (x5 + 1)), (6, .int 0), (7, .int (x7 + 1))] [] h5)))) (fun E h' => P (.inr E) h'))) ∧ (¬ x7 < r1 → P (.inl (some (.int 3))) h2)) (fun E h' => P (.inr E) h'))) : J g mX8_wordOf (d + 1) hs P 14 [(1, .ref x1), (2, .int x2), (3, .int x3), (4, .int x4), (5, .int x5), (6, .int x6), (7, .int x7)] [] h := by
  refine jr_iload 6 dX8_wordOf_14 rfl ?_
  refine jr_ldcS (k9 := 1) rfl rfl rfl dX8_wordOf_16 ?_
  obtain ⟨b3, k⟩ := k
  refine jr_cQi (As := []) jl_X8_62 km_J0_length_8abf5 rfl rfl dX8_wordOf_18 b3 (Nat.le_of_ble_eq_true rfl) k (fun r1 h2 k => ?_)
  refine jr_icmp_ge (tgt := 103) dX8_wordOf_21 (by decide) (fun c21 => ?_) (fun c21 => ?_)
  · have k := k.2 c21
    refine jr_iconst (v := 3) dX8_wordOf_103 (by decide) ?_
    exact jr_iret (ty := .int) rfl rfl dX8_wordOf_104 k
  · have k := k.1 c21
    refine jr_ldcS (k9 := 1) rfl rfl rfl dX8_wordOf_24 ?_
    refine jr_iload 6 dX8_wordOf_26 rfl ?_
    obtain ⟨b6, k⟩ := k
    refine jr_cQi (As := [.int x7]) jl_X8_66 km_J0_charAt_5068e rfl rfl dX8_wordOf_28 b6 (Nat.le_of_ble_eq_true rfl) k (fun r4 h5 k => ?_)
    refine jr_bipush (v := 32) dX8_wordOf_31 (by decide) ?_
    refine jr_icmp_eq (tgt := 74) dX8_wordOf_33 (by decide) (fun c33 => ?_) (fun c33 => ?_)
    · have k := k.1 c33
      refine jr_iload 5 dX8_wordOf_74 rfl ?_
      refine jr_if_eq (tgt := 88) dX8_wordOf_76 (by decide) (fun c76 => ?_) (fun c76 => ?_)
      · have k := k.1 c76
        refine jr_iinc (v := (x4 + 1)) (lv' := [(4, .int (x4 + 1)), (1, .ref x1), (2, .int x2), (3, .int x3), (5, .int x5), (6, .int x6), (7, .int x7)]) 3 dX8_wordOf_88 rfl rfl (by decide) rfl ?_
        refine jr_iload_n 2 dX8_wordOf_91 rfl rfl ?_
        refine jr_istore (lv' := [(5, .int x2), (4, .int (x4 + 1)), (1, .ref x1), (2, .int x2), (3, .int x3), (6, .int x6), (7, .int x7)]) dX8_wordOf_92 (by decide) rfl ?_
        refine jr_iconst (v := 1) dX8_wordOf_94 (by decide) ?_
        refine jr_istore (lv' := [(6, .int 1), (5, .int x2), (4, .int (x4 + 1)), (1, .ref x1), (2, .int x2), (3, .int x3), (7, .int x7)]) dX8_wordOf_95 (by decide) rfl ?_
        refine jr_iinc (v := (x7 + 1)) (lv' := [(7, .int (x7 + 1)), (6, .int 1), (5, .int x2), (4, .int (x4 + 1)), (1, .ref x1), (2, .int x2), (3, .int x3)]) 6 dX8_wordOf_97 rfl rfl (by decide) rfl ?_
        refine jr_goto (tgt := 14) dX8_wordOf_100 (by decide) ?_
        exact jr_sub [4, 5, 6, 3, 2, 1, 0] rfl k
      · have k := k.2 c76
        refine jr_iload 4 dX8_wordOf_79 rfl ?_
        refine jr_iload_n 2 dX8_wordOf_81 rfl rfl ?_
        refine jr_icmp_ne (tgt := 88) dX8_wordOf_82 (by decide) (fun c82 => ?_) (fun c82 => ?_)
        · have k := k.2 c82
          refine jr_iinc (v := (x4 + 1)) (lv' := [(4, .int (x4 + 1)), (1, .ref x1), (2, .int x2), (3, .int x3), (5, .int x5), (6, .int x6), (7, .int x7)]) 3 dX8_wordOf_88 rfl rfl (by decide) rfl ?_
          refine jr_iload_n 2 dX8_wordOf_91 rfl rfl ?_
          refine jr_istore (lv' := [(5, .int x2), (4, .int (x4 + 1)), (1, .ref x1), (2, .int x2), (3, .int x3), (6, .int x6), (7, .int x7)]) dX8_wordOf_92 (by decide) rfl ?_
          refine jr_iconst (v := 1) dX8_wordOf_94 (by decide) ?_
          refine jr_istore (lv' := [(6, .int 1), (5, .int x2), (4, .int (x4 + 1)), (1, .ref x1), (2, .int x2), (3, .int x3), (7, .int x7)]) dX8_wordOf_95 (by decide) rfl ?_
          refine jr_iinc (v := (x7 + 1)) (lv' := [(7, .int (x7 + 1)), (6, .int 1), (5, .int x2), (4, .int (x4 + 1)), (1, .ref x1), (2, .int x2), (3, .int x3)]) 6 dX8_wordOf_97 rfl rfl (by decide) rfl ?_
          refine jr_goto (tgt := 14) dX8_wordOf_100 (by decide) ?_
          exact jr_sub [4, 5, 6, 3, 2, 1, 0] rfl k
        · have k := k.1 c82
          refine jr_iload 3 dX8_wordOf_85 rfl ?_
          exact jr_iret (ty := .int) rfl rfl dX8_wordOf_87 k
    · have k := k.2 c33
      refine jr_iload 5 dX8_wordOf_36 rfl ?_
      refine jr_if_eq (tgt := 65) dX8_wordOf_38 (by decide) (fun c38 => ?_) (fun c38 => ?_)
      · have k := k.1 c38
        refine jr_iconst (v := 0) dX8_wordOf_65 (by decide) ?_
        refine jr_istore (lv' := [(6, .int 0), (1, .ref x1), (2, .int x2), (3, .int x3), (4, .int x4), (5, .int x5), (7, .int x7)]) dX8_wordOf_66 (by decide) rfl ?_
        refine jr_iinc (v := (x5 + 1)) (lv' := [(5, .int (x5 + 1)), (6, .int 0), (1, .ref x1), (2, .int x2), (3, .int x3), (4, .int x4), (7, .int x7)]) 5 dX8_wordOf_68 rfl rfl (by decide) rfl ?_
        refine jr_goto (tgt := 97) dX8_wordOf_71 (by decide) ?_
        refine jr_iinc (v := (x7 + 1)) (lv' := [(7, .int (x7 + 1)), (5, .int (x5 + 1)), (6, .int 0), (1, .ref x1), (2, .int x2), (3, .int x3), (4, .int x4)]) 6 dX8_wordOf_97 rfl rfl (by decide) rfl ?_
        refine jr_goto (tgt := 14) dX8_wordOf_100 (by decide) ?_
        exact jr_sub [3, 4, 5, 6, 1, 2, 0] rfl k
      · have k := k.2 c38
        refine jr_iload 4 dX8_wordOf_41 rfl ?_
        refine jr_iload_n 2 dX8_wordOf_43 rfl rfl ?_
        refine jr_icmp_ge (tgt := 65) dX8_wordOf_44 (by decide) (fun c44 => ?_) (fun c44 => ?_)
        · have k := k.2 c44
          refine jr_iconst (v := 0) dX8_wordOf_65 (by decide) ?_
          refine jr_istore (lv' := [(6, .int 0), (1, .ref x1), (2, .int x2), (3, .int x3), (4, .int x4), (5, .int x5), (7, .int x7)]) dX8_wordOf_66 (by decide) rfl ?_
          refine jr_iinc (v := (x5 + 1)) (lv' := [(5, .int (x5 + 1)), (6, .int 0), (1, .ref x1), (2, .int x2), (3, .int x3), (4, .int x4), (7, .int x7)]) 5 dX8_wordOf_68 rfl rfl (by decide) rfl ?_
          refine jr_goto (tgt := 97) dX8_wordOf_71 (by decide) ?_
          refine jr_iinc (v := (x7 + 1)) (lv' := [(7, .int (x7 + 1)), (5, .int (x5 + 1)), (6, .int 0), (1, .ref x1), (2, .int x2), (3, .int x3), (4, .int x4)]) 6 dX8_wordOf_97 rfl rfl (by decide) rfl ?_
          refine jr_goto (tgt := 14) dX8_wordOf_100 (by decide) ?_
          exact jr_sub [3, 4, 5, 6, 1, 2, 0] rfl k
        · have k := k.1 c44
          refine jr_aload_n 0 dX8_wordOf_47 rfl rfl ?_
          refine jr_iload 4 dX8_wordOf_48 rfl ?_
          obtain ⟨n7, f8, e9, e10, k⟩ := k
          refine jr_bald dX8_wordOf_50 e9 e10 ?_
          refine jr_ldcS (k9 := 1) rfl rfl rfl dX8_wordOf_51 ?_
          refine jr_iload 6 dX8_wordOf_53 rfl ?_
          obtain ⟨b13, k⟩ := k
          refine jr_cQi (As := [.int x7]) jl_X8_66 km_J0_charAt_5068e rfl rfl dX8_wordOf_55 b13 (Nat.le_of_ble_eq_true rfl) k (fun r11 h12 k => ?_)
          refine jr_icmp_ne (tgt := 65) dX8_wordOf_58 (by decide) (fun c58 => ?_) (fun c58 => ?_)
          · have k := k.2 c58
            refine jr_iconst (v := 0) dX8_wordOf_65 (by decide) ?_
            refine jr_istore (lv' := [(6, .int 0), (1, .ref x1), (2, .int x2), (3, .int x3), (4, .int x4), (5, .int x5), (7, .int x7)]) dX8_wordOf_66 (by decide) rfl ?_
            refine jr_iinc (v := (x5 + 1)) (lv' := [(5, .int (x5 + 1)), (6, .int 0), (1, .ref x1), (2, .int x2), (3, .int x3), (4, .int x4), (7, .int x7)]) 5 dX8_wordOf_68 rfl rfl (by decide) rfl ?_
            refine jr_goto (tgt := 97) dX8_wordOf_71 (by decide) ?_
            refine jr_iinc (v := (x7 + 1)) (lv' := [(7, .int (x7 + 1)), (5, .int (x5 + 1)), (6, .int 0), (1, .ref x1), (2, .int x2), (3, .int x3), (4, .int x4)]) 6 dX8_wordOf_97 rfl rfl (by decide) rfl ?_
            refine jr_goto (tgt := 14) dX8_wordOf_100 (by decide) ?_
            exact jr_sub [3, 4, 5, 6, 1, 2, 0] rfl k
          · have k := k.1 c58
            refine jr_iconst (v := 1) dX8_wordOf_61 (by decide) ?_
            refine jr_goto (tgt := 66) dX8_wordOf_62 (by decide) ?_
            refine jr_istore (lv' := [(6, .int 1), (1, .ref x1), (2, .int x2), (3, .int x3), (4, .int x4), (5, .int x5), (7, .int x7)]) dX8_wordOf_66 (by decide) rfl ?_
            refine jr_iinc (v := (x5 + 1)) (lv' := [(5, .int (x5 + 1)), (6, .int 1), (1, .ref x1), (2, .int x2), (3, .int x3), (4, .int x4), (7, .int x7)]) 5 dX8_wordOf_68 rfl rfl (by decide) rfl ?_
            refine jr_goto (tgt := 97) dX8_wordOf_71 (by decide) ?_
            refine jr_iinc (v := (x7 + 1)) (lv' := [(7, .int (x7 + 1)), (5, .int (x5 + 1)), (6, .int 1), (1, .ref x1), (2, .int x2), (3, .int x3), (4, .int x4)]) 6 dX8_wordOf_97 rfl rfl (by decide) rfl ?_
            refine jr_goto (tgt := 14) dX8_wordOf_100 (by decide) ?_
            exact jr_sub [3, 4, 5, 6, 1, 2, 0] rfl k
set_option maxRecDepth 20000 in
theorem bX8_add_0 {g : jG} {d : Nat} {hs : jH} {P : jO → jH → Prop} {x0 : Nat} {x1 : Int32} {x2 : Int32} {x3 : Int32} {h : jH} (k : ∃ fs1 : List Value, h.1 x0 = some (.inr (8, fs1)) ∧ ∃ v4 : Int32, fs1[3]? = some (.int v4) ∧ (v4 < 0 → P (.inl none) h) ∧ (¬ v4 < 0 → ∃ fs5 : List Value, h.1 x0 = some (.inr (8, fs5)) ∧ ∃ v8 : Int32, fs5[3]? = some (.int v8) ∧ (900 < v8 → P (.inl none) h) ∧ (¬ 900 < v8 → ∃ fs9 : List Value, h.1 x0 = some (.inr (8, fs9)) ∧ ∃ v12 : Nat, fs9[0]? = some (.ref v12) ∧ ∃ fs13 : List Value, h.1 x0 = some (.inr (8, fs13)) ∧ ∃ v16 : Int32, fs13[3]? = some (.int v16) ∧ ∃ (n17 : Nat) (f18 : Nat → Int32), h.1 v12 = some (.inl (0, (n17, .inl f18))) ∧ vp_in v16 n17 ∧ ∀ h21 : jH, h21 = jset h v12 (.inl (0, (n17, .inl (upd f18 v16.toNatClampNeg x1)))) → ∃ fs23 : List Value, h21.1 x0 = some (.inr (8, fs23)) ∧ ∃ v26 : Nat, fs23[1]? = some (.ref v26) ∧ ∃ fs27 : List Value, h21.1 x0 = some (.inr (8, fs27)) ∧ ∃ v30 : Int32, fs27[3]? = some (.int v30) ∧ ∃ (n31 : Nat) (f32 : Nat → Int32), h21.1 v26 = some (.inl (0, (n31, .inl f32))) ∧ vp_in v30 n31 ∧ ∀ h35 : jH, h35 = jset h21 v26 (.inl (0, (n31, .inl (upd f32 v30.toNatClampNeg x2)))) → ∃ fs37 : List Value, h35.1 x0 = some (.inr (8, fs37)) ∧ ∃ v40 : Nat, fs37[2]? = some (.ref v40) ∧ ∃ fs41 : List Value, h35.1 x0 = some (.inr (8, fs41)) ∧ ∃ v44 : Int32, fs41[3]? = some (.int v44) ∧ ∃ (n45 : Nat) (f46 : Nat → Int32), h35.1 v40 = some (.inl (0, (n45, .inl f46))) ∧ vp_in v44 n45 ∧ ∀ h49 : jH, h49 = jset h35 v40 (.inl (0, (n45, .inl (upd f46 v44.toNatClampNeg x3)))) → ∃ fs51 : List Value, h49.1 x0 = some (.inr (8, fs51)) ∧ ∃ v54 : Int32, fs51[3]? = some (.int v54) ∧ ∃ fs55 : List Value, h49.1 x0 = some (.inr (8, fs55)) ∧ 3 < fs55.length ∧ (∀ h58 : jH, h58 = jset h49 x0 (.inr (8, fs55.set 3 (.int (v54 + 1)))) → P (.inl none) h58)))) : J g mX8_add (d + 1) hs P 0 [(0, .ref x0), (1, .int x1), (2, .int x2), (3, .int x3)] [] h := by
  refine jr_aload_n 0 dX8_add_0 rfl rfl ?_
  obtain ⟨fs1, e2, v4, e3, k⟩ := k
  refine jr_get jf_X8_27 dX8_add_1 e2 e3 ?_
  refine jr_if_lt (tgt := 57) dX8_add_4 (by decide) (fun c4 => ?_) (fun c4 => ?_)
  · have k := k.1 c4
    exact jr_vret rfl dX8_add_57 k
  · have k := k.2 c4
    refine jr_aload_n 0 dX8_add_7 rfl rfl ?_
    obtain ⟨fs5, e6, v8, e7, k⟩ := k
    refine jr_get jf_X8_27 dX8_add_8 e6 e7 ?_
    refine jr_sipush (v := 900) dX8_add_11 (by decide) ?_
    refine jr_icmp_gt (tgt := 57) dX8_add_14 (by decide) (fun c14 => ?_) (fun c14 => ?_)
    · have k := k.1 c14
      exact jr_vret rfl dX8_add_57 k
    · have k := k.2 c14
      refine jr_aload_n 0 dX8_add_17 rfl rfl ?_
      obtain ⟨fs9, e10, v12, e11, k⟩ := k
      refine jr_get jf_X8_9 dX8_add_18 e10 e11 ?_
      refine jr_aload_n 0 dX8_add_21 rfl rfl ?_
      obtain ⟨fs13, e14, v16, e15, k⟩ := k
      refine jr_get jf_X8_27 dX8_add_22 e14 e15 ?_
      refine jr_iload_n 1 dX8_add_25 rfl rfl ?_
      obtain ⟨n17, f18, e19, e20, k⟩ := k
      refine jr_iastE dX8_add_26 e19 e20 (fun h21 eh22 => ?_)
      have k := k h21 eh22
      refine jr_aload_n 0 dX8_add_27 rfl rfl ?_
      obtain ⟨fs23, e24, v26, e25, k⟩ := k
      refine jr_get jf_X8_15 dX8_add_28 e24 e25 ?_
      refine jr_aload_n 0 dX8_add_31 rfl rfl ?_
      obtain ⟨fs27, e28, v30, e29, k⟩ := k
      refine jr_get jf_X8_27 dX8_add_32 e28 e29 ?_
      refine jr_iload_n 2 dX8_add_35 rfl rfl ?_
      obtain ⟨n31, f32, e33, e34, k⟩ := k
      refine jr_iastE dX8_add_36 e33 e34 (fun h35 eh36 => ?_)
      have k := k h35 eh36
      refine jr_aload_n 0 dX8_add_37 rfl rfl ?_
      obtain ⟨fs37, e38, v40, e39, k⟩ := k
      refine jr_get jf_X8_18 dX8_add_38 e38 e39 ?_
      refine jr_aload_n 0 dX8_add_41 rfl rfl ?_
      obtain ⟨fs41, e42, v44, e43, k⟩ := k
      refine jr_get jf_X8_27 dX8_add_42 e42 e43 ?_
      refine jr_iload_n 3 dX8_add_45 rfl rfl ?_
      obtain ⟨n45, f46, e47, e48, k⟩ := k
      refine jr_iastE dX8_add_46 e47 e48 (fun h49 eh50 => ?_)
      have k := k h49 eh50
      refine jr_aload_n 0 dX8_add_47 rfl rfl ?_
      refine jr_dup dX8_add_48 rfl ?_
      obtain ⟨fs51, e52, v54, e53, k⟩ := k
      refine jr_get jf_X8_27 dX8_add_49 e52 e53 ?_
      refine jr_iconst (v := 1) dX8_add_52 (by decide) ?_
      refine jr_iadd dX8_add_53 ?_
      obtain ⟨fs55, e56, e57, k⟩ := k
      refine jr_putE jp_X8_27 dX8_add_54 e56 e57 rfl rfl (fun h58 eh59 => ?_)
      have k := k h58 eh59
      exact jr_vret rfl dX8_add_57 k
