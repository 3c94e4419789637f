set_option maxRecDepth 20000 in
theorem bX10_init_0 {g : jG} {d : Nat} {hs : jH} {P : jO → jH → Prop} {x0 : Nat} {h : jH} (k : ∃ fs1 : List Value, h.1 x0 = some (.inr (10, fs1)) ∧ 1 < fs1.length ∧ (∀ h4 : jH, h4 = jset h x0 (.inr (10, fs1.set 1 (.int (-1)))) → ∃ N6 : Nat, (30 : Int32) = nI N6 ∧ N6 < 60000000 ∧ jroom g h4 1 N6 ∧ ∀ (q9 : Nat) (h10 : jH), q9 = h4.2.1 → h10 = jnew h4 (.inl (3, (N6, .inr (.inl (fun _ => 0))))) N6 → ∃ fs14 : List Value, h10.1 x0 = some (.inr (10, fs14)) ∧ 2 < fs14.length ∧ (∀ h17 : jH, h17 = jset h10 x0 (.inr (10, fs14.set 2 (.ref q9))) → P (.inl none) h17))) : J g mX10_init (d + 1) hs P 0 [(0, .ref x0)] [] h := by
  refine jr_aload_n 0 dX10_init_0 rfl rfl ?_
  refine jr_objInit jl_X10_3 dX10_init_1 (Nat.le_of_ble_eq_true rfl) ?_
  refine jr_aload_n 0 dX10_init_4 rfl rfl ?_
  refine jr_iconst (v := (-1)) dX10_init_5 (by decide) ?_
  obtain ⟨fs1, e2, e3, k⟩ := k
  refine jr_putE jp_X10_9 dX10_init_6 e2 e3 rfl rfl (fun h4 eh5 => ?_)
  have k := k h4 eh5
  refine jr_aload_n 0 dX10_init_9 rfl rfl ?_
  refine jr_bipush (v := 30) dX10_init_10 (by decide) ?_
  obtain ⟨N6, e7, e8, rm13, k⟩ := k
  refine jr_new_long e7 e8 rm13 dX10_init_12 (fun q9 h10 eq11 eh12 => ?_)
  have k := k q9 h10 eq11 eh12
  obtain ⟨fs14, e15, e16, k⟩ := k
  refine jr_putFE jp_X10_15 (fun C T N hc => by cases hc; rfl) rfl dX10_init_14 e15 e16 rfl rfl (fun h17 eh18 => ?_)
  have k := k h17 eh18
  exact jr_vret rfl dX10_init_17 k
set_option maxRecDepth 20000 in
theorem bX10_isMissing_0 {g : jG} {d : Nat} {hs : jH} {P : jO → jH → Prop} {x0 : Nat} {h : jH} (k : ∃ fs1 : List Value, h.1 x0 = some (.inr (10, fs1)) ∧ ∃ v4 : Int32, fs1[1]? = some (.int v4) ∧ (v4 = (-1) → P (.inl (some (.int 1))) h) ∧ (¬ v4 = (-1) → P (.inl (some (.int 0))) h)) : J g mX10_isMissing (d + 1) hs P 0 [(0, .ref x0)] [] h := by
  refine jr_aload_n 0 dX10_isMissing_0 rfl rfl ?_
  obtain ⟨fs1, e2, v4, e3, k⟩ := k
  refine jr_get jf_X10_9 dX10_isMissing_1 e2 e3 ?_
  refine jr_iconst (v := (-1)) dX10_isMissing_4 (by decide) ?_
  refine jr_icmp_ne (tgt := 12) dX10_isMissing_5 (by decide) (fun c5 => ?_) (fun c5 => ?_)
  · have k := k.2 c5
    refine jr_iconst (v := 0) dX10_isMissing_12 (by decide) ?_
    exact jr_iret (ty := .boolean) rfl rfl dX10_isMissing_13 k
  · have k := k.1 c5
    refine jr_iconst (v := 1) dX10_isMissing_8 (by decide) ?_
    refine jr_goto (tgt := 13) dX10_isMissing_9 (by decide) ?_
    exact jr_iret (ty := .boolean) rfl rfl dX10_isMissing_13 k
set_option maxRecDepth 20000 in
theorem bX10_lay_0 {g : jG} {d : Nat} {hs : jH} {P : jO → jH → Prop} {x0 : Nat} {x1 : Int32} {x2 : Int32} {h : jH} (k : ∃ fs1 : List Value, h.1 x0 = some (.inr (10, fs1)) ∧ 1 < fs1.length ∧ (∀ h4 : jH, h4 = jset h x0 (.inr (10, fs1.set 1 (.int x1))) → ∃ fs6 : List Value, h4.1 x0 = some (.inr (10, fs6)) ∧ 0 < fs6.length ∧ (∀ h9 : jH, h9 = jset h4 x0 (.inr (10, fs6.set 0 (.int x2))) → ∃ fs11 : List Value, h9.1 x0 = some (.inr (10, fs11)) ∧ ∃ v14 : Nat, fs11[2]? = some (.ref v14) ∧ Con g mJ7_fill_d0a16 d [.ref v14, .long 0] h9 (jPv (fun (h16 : jH) => P (.inl none) h16) (fun E h' => P (.inr E) h'))))) : J g mX10_lay (d + 1) hs P 0 [(0, .ref x0), (1, .int x1), (2, .int x2)] [] h := by
  refine jr_aload_n 0 dX10_lay_0 rfl rfl ?_
  refine jr_iload_n 1 dX10_lay_1 rfl rfl ?_
  obtain ⟨fs1, e2, e3, k⟩ := k
  refine jr_putE jp_X10_9 dX10_lay_2 e2 e3 rfl rfl (fun h4 eh5 => ?_)
  have k := k h4 eh5
  refine jr_aload_n 0 dX10_lay_5 rfl rfl ?_
  refine jr_iload_n 2 dX10_lay_6 rfl rfl ?_
  obtain ⟨fs6, e7, e8, k⟩ := k
  refine jr_putE jp_X10_19 dX10_lay_7 e7 e8 rfl rfl (fun h9 eh10 => ?_)
  have k := k h9 eh10
  refine jr_aload_n 0 dX10_lay_10 rfl rfl ?_
  obtain ⟨fs11, e12, v14, e13, k⟩ := k
  refine jr_get jf_X10_15 dX10_lay_11 e12 e13 ?_
  refine jr_lconst (v := 0) dX10_lay_14 (by decide) ?_
  refine jr_cSv (As := [.ref v14, .long 0]) jl_X10_22 km_J7_fill_d0a16 rfl rfl dX10_lay_15 (Nat.le_of_ble_eq_true rfl) k (fun h16 k => ?_)
  exact jr_vret rfl dX10_lay_18 k
set_option maxRecDepth 20000 in
theorem bX10_at_0 {g : jG} {d : Nat} {hs : jH} {P : jO → jH → Prop} {x0 : Nat} {x1 : Int32} {h : jH} (k : (x1 < 0 → P (.inl (some (.long 0))) h) ∧ (¬ x1 < 0 → ∃ fs1 : List Value, h.1 x0 = some (.inr (10, fs1)) ∧ ∃ v4 : Nat, fs1[2]? = some (.ref v4) ∧ ∃ (t5 : Nat) (z6 : vp_A), h.1 v4 = some (.inl (t5, z6)) ∧ (∃ ty9 : FieldType, jTy t5 = some ty9) ∧ (x1 < (nI z6.1) → ∃ fs10 : List Value, h.1 x0 = some (.inr (10, fs10)) ∧ ∃ v13 : Nat, fs10[2]? = some (.ref v13) ∧ ∃ (n14 : Nat) (f15 : Nat → Int64), h.1 v13 = some (.inl (3, (n14, .inr (.inl f15)))) ∧ vp_in x1 n14 ∧ P (.inl (some (.long ((f15 x1.toNatClampNeg))))) h) ∧ (¬ x1 < (nI z6.1) → P (.inl (some (.long 0))) h))) : J g mX10_at (d + 1) hs P 0 [(0, .ref x0), (1, .int x1)] [] h := by
  refine jr_iload_n 1 dX10_at_0 rfl rfl ?_
  refine jr_if_lt (tgt := 22) dX10_at_1 (by decide) (fun c1 => ?_) (fun c1 => ?_)
  · have k := k.1 c1
    refine jr_lconst (v := 0) dX10_at_22 (by decide) ?_
    exact jr_lret rfl dX10_at_23 k
  · have k := k.2 c1
    refine jr_iload_n 1 dX10_at_4 rfl rfl ?_
    refine jr_aload_n 0 dX10_at_5 rfl rfl ?_
    obtain ⟨fs1, e2, v4, e3, k⟩ := k
    refine jr_get jf_X10_15 dX10_at_6 e2 e3 ?_
    obtain ⟨t5, z6, e7, ⟨ty9, e8⟩, k⟩ := k
    refine jr_alen (v := nI z6.1) dX10_at_9 e8 e7 rfl ?_
    refine jr_icmp_ge (tgt := 22) dX10_at_10 (by decide) (fun c10 => ?_) (fun c10 => ?_)
    · have k := k.2 c10
      refine jr_lconst (v := 0) dX10_at_22 (by decide) ?_
      exact jr_lret rfl dX10_at_23 k
    · have k := k.1 c10
      refine jr_aload_n 0 dX10_at_13 rfl rfl ?_
      obtain ⟨fs10, e11, v13, e12, k⟩ := k
      refine jr_get jf_X10_15 dX10_at_14 e11 e12 ?_
      refine jr_iload_n 1 dX10_at_17 rfl rfl ?_
      obtain ⟨n14, f15, e16, e17, k⟩ := k
      refine jr_lald dX10_at_18 e16 e17 ?_
      refine jr_goto (tgt := 23) dX10_at_19 (by decide) ?_
      exact jr_lret rfl dX10_at_23 k
set_option maxRecDepth 20000 in
theorem bX10_put_0 {g : jG} {d : Nat} {hs : jH} {P : jO → jH → Prop} {x0 : Nat} {x1 : Int32} {x2 : Int64} {h : jH} (k : (x1 < 0 → P (.inl none) h) ∧ (¬ x1 < 0 → ∃ fs1 : List Value, h.1 x0 = some (.inr (10, fs1)) ∧ ∃ v4 : Nat, fs1[2]? = some (.ref v4) ∧ ∃ (t5 : Nat) (z6 : vp_A), h.1 v4 = some (.inl (t5, z6)) ∧ (∃ ty9 : FieldType, jTy t5 = some ty9) ∧ (x1 < (nI z6.1) → ∃ fs10 : List Value, h.1 x0 = some (.inr (10, fs10)) ∧ ∃ v13 : Nat, fs10[2]? = some (.ref v13) ∧ ∃ fs16 : List Value, h.1 x0 = some (.inr (10, fs16)) ∧ Con g mX10_cut d [.ref x0, .long x2] h (jPl (fun (r14 : Int64) (h15 : jH) => ∃ (n18 : Nat) (f19 : Nat → Int64), h15.1 v13 = some (.inl (3, (n18, .inr (.inl f19)))) ∧ vp_in x1 n18 ∧ ∀ h22 : jH, h22 = jset h15 v13 (.inl (3, (n18, .inr (.inl (vp_updL f19 x1.toNatClampNeg r14))))) → P (.inl none) h22) (fun E h' => P (.inr E) h'))) ∧ (¬ x1 < (nI z6.1) → P (.inl none) h))) : J g mX10_put (d + 1) hs P 0 [(0, .ref x0), (1, .int x1), (2, .long x2)] [] h := by
  refine jr_iload_n 1 dX10_put_0 rfl rfl ?_
  refine jr_if_lt (tgt := 24) dX10_put_1 (by decide) (fun c1 => ?_) (fun c1 => ?_)
  · have k := k.1 c1
    exact jr_vret rfl dX10_put_24 k
  · have k := k.2 c1
    refine jr_iload_n 1 dX10_put_4 rfl rfl ?_
    refine jr_aload_n 0 dX10_put_5 rfl rfl ?_
    obtain ⟨fs1, e2, v4, e3, k⟩ := k
    refine jr_get jf_X10_15 dX10_put_6 e2 e3 ?_
    obtain ⟨t5, z6, e7, ⟨ty9, e8⟩, k⟩ := k
    refine jr_alen (v := nI z6.1) dX10_put_9 e8 e7 rfl ?_
    refine jr_icmp_ge (tgt := 24) dX10_put_10 (by decide) (fun c10 => ?_) (fun c10 => ?_)
    · have k := k.2 c10
      exact jr_vret rfl dX10_put_24 k
    · have k := k.1 c10
      refine jr_aload_n 0 dX10_put_13 rfl rfl ?_
      obtain ⟨fs10, e11, v13, e12, k⟩ := k
      refine jr_get jf_X10_15 dX10_put_14 e11 e12 ?_
      refine jr_iload_n 1 dX10_put_17 rfl rfl ?_
      refine jr_aload_n 0 dX10_put_18 rfl rfl ?_
      refine jr_lload_n 2 dX10_put_19 rfl rfl ?_
      obtain ⟨fs16, e17, k⟩ := k
      refine jr_cVl (As := [.long x2]) jl_X10_28 km_X10_cut rfl rfl dX10_put_20 e17 (Nat.le_of_ble_eq_true rfl) k (fun r14 h15 k => ?_)
      obtain ⟨n18, f19, e20, e21, k⟩ := k
      refine jr_lastE dX10_put_23 e20 e21 (fun h22 eh23 => ?_)
      have k := k h22 eh23
      exact jr_vret rfl dX10_put_24 k
set_option maxRecDepth 20000 in
theorem bX10_cut_0 {g : jG} {d : Nat} {hs : jH} {P : jO → jH → Prop} {x0 : Nat} {x1 : Int64} {h : jH} (k : ∃ fs1 : List Value, h.1 x0 = some (.inr (10, fs1)) ∧ ∃ v4 : Int32, fs1[1]? = some (.int v4) ∧ (v4 = 0 → P (.inl (some (.long x1.toInt32.toInt8.toInt32.toInt64))) h) ∧ (¬ v4 = 0 → (v4 = 1 → P (.inl (some (.long x1.toInt32.toInt16.toInt32.toInt64))) h) ∧ (¬ v4 = 1 → (v4 = 2 → P (.inl (some (.long x1.toInt32.toInt64))) h) ∧ (¬ v4 = 2 → P (.inl (some (.long x1))) h)))) : J g mX10_cut (d + 1) hs P 0 [(0, .ref x0), (1, .long x1)] [] h := by
  refine jr_aload_n 0 dX10_cut_0 rfl rfl ?_
  obtain ⟨fs1, e2, v4, e3, k⟩ := k
  refine jr_get jf_X10_9 dX10_cut_1 e2 e3 ?_
  by_cases c4_0 : v4 = 0
  · have k := k.1 c4_0
    refine jr_tableIn (tgt := 32) dX10_cut_4 (by rw [c4_0]; decide) (by rw [c4_0]; decide) (by rw [c4_0]; rfl) (by decide) ?_
    refine jr_lload_n 1 dX10_cut_32 rfl rfl ?_
    refine jr_l2i dX10_cut_33 ?_
    refine jr_i2b dX10_cut_34 ?_
    refine jr_i2l dX10_cut_35 ?_
    exact jr_lret rfl dX10_cut_36 k
  · have k := k.2 c4_0
    by_cases c4_1 : v4 = 1
    · have k := k.1 c4_1
      refine jr_tableIn (tgt := 37) dX10_cut_4 (by rw [c4_1]; decide) (by rw [c4_1]; decide) (by rw [c4_1]; rfl) (by decide) ?_
      refine jr_lload_n 1 dX10_cut_37 rfl rfl ?_
      refine jr_l2i dX10_cut_38 ?_
      refine jr_i2s dX10_cut_39 ?_
      refine jr_i2l dX10_cut_40 ?_
      exact jr_lret rfl dX10_cut_41 k
    · have k := k.2 c4_1
      by_cases c4_2 : v4 = 2
      · have k := k.1 c4_2
        refine jr_tableIn (tgt := 42) dX10_cut_4 (by rw [c4_2]; decide) (by rw [c4_2]; decide) (by rw [c4_2]; rfl) (by decide) ?_
        refine jr_lload_n 1 dX10_cut_42 rfl rfl ?_
        refine jr_l2i dX10_cut_43 ?_
        refine jr_i2l dX10_cut_44 ?_
        exact jr_lret rfl dX10_cut_45 k
      · have k := k.2 c4_2
        refine jr_tableOut (tgt := 46) dX10_cut_4 ?_ (by decide) ?_
        · have d4_0 := j_ne c4_0 (z := 0) (by decide)
          have d4_1 := j_ne c4_1 (z := 1) (by decide)
          have d4_2 := j_ne c4_2 (z := 2) (by decide)
          omega
        · refine jr_lload_n 1 dX10_cut_46 rfl rfl ?_
          exact jr_lret rfl dX10_cut_47 k
