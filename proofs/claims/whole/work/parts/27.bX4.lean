set_option maxRecDepth 20000 in
theorem bX4_init_0 {g : jG} {d : Nat} {hs : jH} {P : jO → jH → Prop} {x0 : Nat} {h : jH} (k : ∃ N1 : Nat, (7 : Int32) = nI N1 ∧ N1 < 60000000 ∧ jroom g h 1 N1 ∧ ∀ (q4 : Nat) (h5 : jH), q4 = h.2.1 → h5 = jnew h (.inl (0, (N1, .inl (fun _ => 0)))) N1 → ∃ fs9 : List Value, h5.1 x0 = some (.inr (4, fs9)) ∧ 0 < fs9.length ∧ (∀ h12 : jH, h12 = jset h5 x0 (.inr (4, fs9.set 0 (.ref q4))) → jroom g h12 1 9 ∧ ∀ (q14 : Nat) (h15 : jH), q14 = h12.2.1 → h15 = jnew h12 (.inr (6, [.int 0, .int 0, .int 0, .null, .null, .null, .null, .null, .null])) 9 → Con g mX6_init d [.ref q14] h15 (jPv (fun (h20 : jH) => ∃ fs21 : List Value, h20.1 x0 = some (.inr (4, fs21)) ∧ 3 < fs21.length ∧ (∀ h24 : jH, h24 = jset h20 x0 (.inr (4, fs21.set 3 (.ref q14))) → ∃ N26 : Nat, (7 : Int32) = nI N26 ∧ N26 < 60000000 ∧ jroom g h24 1 N26 ∧ ∀ (q29 : Nat) (h30 : jH), q29 = h24.2.1 → h30 = jnew h24 (.inl (0, (N26, .inl (fun _ => 0)))) N26 → ∃ fs34 : List Value, h30.1 x0 = some (.inr (4, fs34)) ∧ 4 < fs34.length ∧ (∀ h37 : jH, h37 = jset h30 x0 (.inr (4, fs34.set 4 (.ref q29))) → P (.inl none) h37))) (fun E h' => P (.inr E) h')))) : J g mX4_init (d + 1) hs P 0 [(0, .ref x0)] [] h := by
  refine jr_aload_n 0 dX4_init_0 rfl rfl ?_
  refine jr_objInit jl_X4_3 dX4_init_1 (Nat.le_of_ble_eq_true rfl) ?_
  refine jr_aload_n 0 dX4_init_4 rfl rfl ?_
  refine jr_bipush (v := 7) dX4_init_5 (by decide) ?_
  obtain ⟨N1, e2, e3, rm8, k⟩ := k
  refine jr_new_int e2 e3 rm8 dX4_init_7 (fun q4 h5 eq6 eh7 => ?_)
  have k := k q4 h5 eq6 eh7
  obtain ⟨fs9, e10, e11, k⟩ := k
  refine jr_putFE jp_X4_9 (fun C T N hc => by cases hc; rfl) rfl dX4_init_9 e10 e11 rfl rfl (fun h12 eh13 => ?_)
  have k := k h12 eh13
  refine jr_aload_n 0 dX4_init_12 rfl rfl ?_
  obtain ⟨rm18, k⟩ := k
  refine jr_newE (fs := [.int 0, .int 0, .int 0, .null, .null, .null, .null, .null, .null]) jn_X4_15 jfs_6 rm18 dX4_init_13 (fun q14 h15 eq16 eh17 => ?_)
  have k := k q14 h15 eq16 eh17
  refine jr_dup dX4_init_16 rfl ?_
  refine jr_cNv (As := []) jl_X4_17 km_X6_init rfl rfl dX4_init_17 (Nat.le_of_ble_eq_true rfl) k (fun h20 k => ?_)
  obtain ⟨fs21, e22, e23, k⟩ := k
  refine jr_putFE jp_X4_18 (fun C T N hc => by cases hc; rfl) rfl dX4_init_20 e22 e23 rfl rfl (fun h24 eh25 => ?_)
  have k := k h24 eh25
  refine jr_aload_n 0 dX4_init_23 rfl rfl ?_
  refine jr_bipush (v := 7) dX4_init_24 (by decide) ?_
  obtain ⟨N26, e27, e28, rm33, k⟩ := k
  refine jr_new_int e27 e28 rm33 dX4_init_26 (fun q29 h30 eq31 eh32 => ?_)
  have k := k q29 h30 eq31 eh32
  obtain ⟨fs34, e35, e36, k⟩ := k
  refine jr_putFE jp_X4_22 (fun C T N hc => by cases hc; rfl) rfl dX4_init_28 e35 e36 rfl rfl (fun h37 eh38 => ?_)
  have k := k h37 eh38
  exact jr_vret rfl dX4_init_31 k
set_option maxRecDepth 20000 in
theorem bX4_search_0 {g : jG} {d : Nat} {hs : jH} {P : jO → jH → Prop} {x0 : Nat} {x1 : Nat} {x2 : Nat} {x3 : Nat} {x4 : Int32} {x5 : Int32} {h : jH} (k : ∃ fs1 : List Value, h.1 x0 = some (.inr (4, fs1)) ∧ ((fs1[5]? = some .null ∧ ((none : Option Nat) = (some x2) → ∃ fs5 : List Value, h.1 x0 = some (.inr (4, fs5)) ∧ ∃ v8 : Int32, fs5[6]? = some (.int v8) ∧ (v8 = x4 → ∃ fs9 : List Value, h.1 x0 = some (.inr (4, fs9)) ∧ ∃ v12 : Nat, fs9[3]? = some (.ref v12) ∧ ∃ fs15 : List Value, h.1 v12 = some (.inr (6, fs15)) ∧ Con g mX6_isLike d [.ref v12, .ref x3] h (jPi (fun (r13 : Int32) (h14 : jH) => (r13 = 0 → J g mX4_search (d + 1) hs P 32 [(0, .ref x0), (1, .ref x1), (2, .ref x2), (3, .ref x3), (4, .int x4), (5, .int x5)] [] h14) ∧ (¬ r13 = 0 → J g mX4_search (d + 1) hs P 33 [(0, .ref x0), (1, .ref x1), (2, .ref x2), (3, .ref x3), (4, .int x4), (5, .int x5)] [.int 1] h14)) (fun E h' => P (.inr E) h'))) ∧ (¬ v8 = x4 → J g mX4_search (d + 1) hs P 32 [(0, .ref x0), (1, .ref x1), (2, .ref x2), (3, .ref x3), (4, .int x4), (5, .int x5)] [] h)) ∧ (¬ (none : Option Nat) = (some x2) → J g mX4_search (d + 1) hs P 32 [(0, .ref x0), (1, .ref x1), (2, .ref x2), (3, .ref x3), (4, .int x4), (5, .int x5)] [] h)) ∨ (∃ v4 : Nat, fs1[5]? = some (.ref v4) ∧ ((some v4) = (some x2) → ∃ fs17 : List Value, h.1 x0 = some (.inr (4, fs17)) ∧ ∃ v20 : Int32, fs17[6]? = some (.int v20) ∧ (v20 = x4 → ∃ fs21 : List Value, h.1 x0 = some (.inr (4, fs21)) ∧ ∃ v24 : Nat, fs21[3]? = some (.ref v24) ∧ ∃ fs27 : List Value, h.1 v24 = some (.inr (6, fs27)) ∧ Con g mX6_isLike d [.ref v24, .ref x3] h (jPi (fun (r25 : Int32) (h26 : jH) => (r25 = 0 → J g mX4_search (d + 1) hs P 32 [(0, .ref x0), (1, .ref x1), (2, .ref x2), (3, .ref x3), (4, .int x4), (5, .int x5)] [] h26) ∧ (¬ r25 = 0 → J g mX4_search (d + 1) hs P 33 [(0, .ref x0), (1, .ref x1), (2, .ref x2), (3, .ref x3), (4, .int x4), (5, .int x5)] [.int 1] h26)) (fun E h' => P (.inr E) h'))) ∧ (¬ v20 = x4 → J g mX4_search (d + 1) hs P 32 [(0, .ref x0), (1, .ref x1), (2, .ref x2), (3, .ref x3), (4, .int x4), (5, .int x5)] [] h)) ∧ (¬ (some v4) = (some x2) → J g mX4_search (d + 1) hs P 32 [(0, .ref x0), (1, .ref x1), (2, .ref x2), (3, .ref x3), (4, .int x4), (5, .int x5)] [] h)))) : J g mX4_search (d + 1) hs P 0 [(0, .ref x0), (1, .ref x1), (2, .ref x2), (3, .ref x3), (4, .int x4), (5, .int x5)] [] h := by
  refine jr_aload_n 0 dX4_search_0 rfl rfl ?_
  obtain ⟨fs1, e2, k⟩ := k
  rcases k with ⟨e3, k⟩ | ⟨v4, e3, k⟩
  · refine jr_get jf_X4_25 dX4_search_1 e2 e3 ?_
    refine jr_aload_n 2 dX4_search_4 rfl rfl ?_
    refine jr_acmp_ne (rx := none) (ry := (some x2)) (tgt := 32) dX4_search_5 (by decide) (fun c5 => ?_) (fun c5 => ?_)
    · have k := k.2 c5
      exact jr_sub [0, 1, 2, 3, 4, 5] rfl k
    · have k := k.1 c5
      refine jr_aload_n 0 dX4_search_8 rfl rfl ?_
      obtain ⟨fs5, e6, v8, e7, k⟩ := k
      refine jr_get jf_X4_29 dX4_search_9 e6 e7 ?_
      refine jr_iload 4 dX4_search_12 rfl ?_
      refine jr_icmp_ne (tgt := 32) dX4_search_14 (by decide) (fun c14 => ?_) (fun c14 => ?_)
      · have k := k.2 c14
        exact jr_sub [0, 1, 2, 3, 4, 5] rfl k
      · have k := k.1 c14
        refine jr_aload_n 0 dX4_search_17 rfl rfl ?_
        obtain ⟨fs9, e10, v12, e11, k⟩ := k
        refine jr_get jf_X4_18 dX4_search_18 e10 e11 ?_
        refine jr_aload_n 3 dX4_search_21 rfl rfl ?_
        obtain ⟨fs15, e16, k⟩ := k
        refine jr_cVi (As := [.ref x3]) jl_X4_33 km_X6_isLike rfl rfl dX4_search_22 e16 (Nat.le_of_ble_eq_true rfl) k (fun r13 h14 k => ?_)
        refine jr_if_eq (tgt := 32) dX4_search_25 (by decide) (fun c25 => ?_) (fun c25 => ?_)
        · have k := k.1 c25
          exact jr_sub [0, 1, 2, 3, 4, 5] rfl k
        · have k := k.2 c25
          refine jr_iconst (v := 1) dX4_search_28 (by decide) ?_
          refine jr_goto (tgt := 33) dX4_search_29 (by decide) ?_
          exact jr_sub [0, 1, 2, 3, 4, 5] rfl k
  · refine jr_get jf_X4_25 dX4_search_1 e2 e3 ?_
    refine jr_aload_n 2 dX4_search_4 rfl rfl ?_
    refine jr_acmp_ne (rx := (some v4)) (ry := (some x2)) (tgt := 32) dX4_search_5 (by decide) (fun c5 => ?_) (fun c5 => ?_)
    · have k := k.2 c5
      exact jr_sub [0, 1, 2, 3, 4, 5] rfl k
    · have k := k.1 c5
      refine jr_aload_n 0 dX4_search_8 rfl rfl ?_
      obtain ⟨fs17, e18, v20, e19, k⟩ := k
      refine jr_get jf_X4_29 dX4_search_9 e18 e19 ?_
      refine jr_iload 4 dX4_search_12 rfl ?_
      refine jr_icmp_ne (tgt := 32) dX4_search_14 (by decide) (fun c14 => ?_) (fun c14 => ?_)
      · have k := k.2 c14
        exact jr_sub [0, 1, 2, 3, 4, 5] rfl k
      · have k := k.1 c14
        refine jr_aload_n 0 dX4_search_17 rfl rfl ?_
        obtain ⟨fs21, e22, v24, e23, k⟩ := k
        refine jr_get jf_X4_18 dX4_search_18 e22 e23 ?_
        refine jr_aload_n 3 dX4_search_21 rfl rfl ?_
        obtain ⟨fs27, e28, k⟩ := k
        refine jr_cVi (As := [.ref x3]) jl_X4_33 km_X6_isLike rfl rfl dX4_search_22 e28 (Nat.le_of_ble_eq_true rfl) k (fun r25 h26 k => ?_)
        refine jr_if_eq (tgt := 32) dX4_search_25 (by decide) (fun c25 => ?_) (fun c25 => ?_)
        · have k := k.1 c25
          exact jr_sub [0, 1, 2, 3, 4, 5] rfl k
        · have k := k.2 c25
          refine jr_iconst (v := 1) dX4_search_28 (by decide) ?_
          refine jr_goto (tgt := 33) dX4_search_29 (by decide) ?_
          exact jr_sub [0, 1, 2, 3, 4, 5] rfl k
set_option maxRecDepth 20000 in
theorem bX4_search_32 {g : jG} {d : Nat} {hs : jH} {P : jO → jH → Prop} {x0 : Nat} {x1 : Nat} {x2 : Nat} {x3 : Nat} {x4 : Int32} {x5 : Int32} {h : jH} (k : J g mX4_search (d + 1) hs P 33 [(0, .ref x0), (1, .ref x1), (2, .ref x2), (3, .ref x3), (4, .int x4), (5, .int x5)] [.int 0] h) : J g mX4_search (d + 1) hs P 32 [(0, .ref x0), (1, .ref x1), (2, .ref x2), (3, .ref x3), (4, .int x4), (5, .int x5)] [] h := by
  refine jr_iconst (v := 0) dX4_search_32 (by decide) ?_
  exact jr_sub [0, 1, 2, 3, 4, 5] rfl k
set_option maxRecDepth 20000 in
theorem bX4_search_33 {g : jG} {d : Nat} {hs : jH} {P : jO → jH → Prop} {x0 : Nat} {x1 : Nat} {x2 : Nat} {x3 : Nat} {x4 : Int32} {x5 : Int32} {s0 : Int32} {h : jH} (k : (s0 = 0 → J g mX4_search (d + 1) hs P 53 [(0, .ref x0), (1, .ref x1), (2, .ref x2), (3, .ref x3), (4, .int x4), (5, .int x5)] [] h) ∧ (¬ s0 = 0 → ∃ fs1 : List Value, h.1 x0 = some (.inr (4, fs1)) ∧ ∃ v4 : Int32, fs1[7]? = some (.int v4) ∧ (v4 = 0 → (x5 = 0 → P (.inl none) h) ∧ (¬ x5 = 0 → J g mX4_search (d + 1) hs P 53 [(0, .ref x0), (1, .ref x1), (2, .ref x2), (3, .ref x3), (4, .int x4), (5, .int x5)] [] h)) ∧ (¬ v4 = 0 → P (.inl none) h))) : J g mX4_search (d + 1) hs P 33 [(0, .ref x0), (1, .ref x1), (2, .ref x2), (3, .ref x3), (4, .int x4), (5, .int x5)] [.int s0] h := by
  refine jr_istore (lv' := [(6, .int s0), (0, .ref x0), (1, .ref x1), (2, .ref x2), (3, .ref x3), (4, .int x4), (5, .int x5)]) dX4_search_33 (by decide) rfl ?_
  refine jr_iload 0 dX4_search_35 rfl ?_
  refine jr_if_eq (tgt := 53) dX4_search_37 (by decide) (fun c37 => ?_) (fun c37 => ?_)
  · have k := k.1 c37
    exact jr_sub [1, 2, 3, 4, 5, 6] rfl k
  · have k := k.2 c37
    refine jr_aload_n 1 dX4_search_40 rfl rfl ?_
    obtain ⟨fs1, e2, v4, e3, k⟩ := k
    refine jr_get jf_X4_37 dX4_search_41 e2 e3 ?_
    refine jr_if_ne (tgt := 52) dX4_search_44 (by decide) (fun c44 => ?_) (fun c44 => ?_)
    · have k := k.2 c44
      exact jr_vret rfl dX4_search_52 k
    · have k := k.1 c44
      refine jr_iload 6 dX4_search_47 rfl ?_
      refine jr_if_ne (tgt := 53) dX4_search_49 (by decide) (fun c49 => ?_) (fun c49 => ?_)
      · have k := k.2 c49
        exact jr_sub [1, 2, 3, 4, 5, 6] rfl k
      · have k := k.1 c49
        exact jr_vret rfl dX4_search_52 k
set_option maxRecDepth 20000 in
theorem bX4_search_53 {g : jG} {d : Nat} {hs : jH} {P : jO → jH → Prop} {x0 : Nat} {x1 : Nat} {x2 : Nat} {x3 : Nat} {x4 : Int32} {x5 : Int32} {h : jH} (k : ∃ fs1 : List Value, h.1 x0 = some (.inr (4, fs1)) ∧ 5 < fs1.length ∧ (∀ h4 : jH, h4 = jset h x0 (.inr (4, fs1.set 5 (.ref x2))) → ∃ fs6 : List Value, h4.1 x0 = some (.inr (4, fs6)) ∧ 6 < fs6.length ∧ (∀ h9 : jH, h9 = jset h4 x0 (.inr (4, fs6.set 6 (.int x4))) → ∃ fs11 : List Value, h9.1 x0 = some (.inr (4, fs11)) ∧ ∃ v14 : Nat, fs11[3]? = some (.ref v14) ∧ ∃ fs17 : List Value, h9.1 v14 = some (.inr (6, fs17)) ∧ Con g mX6_takeOver d [.ref v14, .ref x3] h9 (jPv (fun (h16 : jH) => ∃ fs19 : List Value, h16.1 x0 = some (.inr (4, fs19)) ∧ 7 < fs19.length ∧ (∀ h22 : jH, h22 = jset h16 x0 (.inr (4, fs19.set 7 (.int 1))) → J g mX4_search (d + 1) hs P 80 [(0, .ref x0), (1, .ref x1), (2, .ref x2), (3, .ref x3), (4, .int x4), (5, .int x5), (7, .int 0)] [] h22)) (fun E h' => P (.inr E) h'))))) : J g mX4_search (d + 1) hs P 53 [(0, .ref x0), (1, .ref x1), (2, .ref x2), (3, .ref x3), (4, .int x4), (5, .int x5)] [] h := by
  refine jr_aload_n 0 dX4_search_53 rfl rfl ?_
  refine jr_aload_n 2 dX4_search_54 rfl rfl ?_
  obtain ⟨fs1, e2, e3, k⟩ := k
  refine jr_putE jp_X4_25 dX4_search_55 e2 e3 rfl rfl (fun h4 eh5 => ?_)
  have k := k h4 eh5
  refine jr_aload_n 0 dX4_search_58 rfl rfl ?_
  refine jr_iload 4 dX4_search_59 rfl ?_
  obtain ⟨fs6, e7, e8, k⟩ := k
  refine jr_putE jp_X4_29 dX4_search_61 e7 e8 rfl rfl (fun h9 eh10 => ?_)
  have k := k h9 eh10
  refine jr_aload_n 0 dX4_search_64 rfl rfl ?_
  obtain ⟨fs11, e12, v14, e13, k⟩ := k
  refine jr_get jf_X4_18 dX4_search_65 e12 e13 ?_
  refine jr_aload_n 3 dX4_search_68 rfl rfl ?_
  obtain ⟨fs17, e18, k⟩ := k
  refine jr_cVv (As := [.ref x3]) jl_X4_41 km_X6_takeOver rfl rfl dX4_search_69 e18 (Nat.le_of_ble_eq_true rfl) k (fun h16 k => ?_)
  refine jr_aload_n 0 dX4_search_72 rfl rfl ?_
  refine jr_iconst (v := 1) dX4_search_73 (by decide) ?_
  obtain ⟨fs19, e20, e21, k⟩ := k
  refine jr_putE jp_X4_37 dX4_search_74 e20 e21 rfl rfl (fun h22 eh23 => ?_)
  have k := k h22 eh23
  refine jr_iconst (v := 0) dX4_search_77 (by decide) ?_
  refine jr_istore (lv' := [(7, .int 0), (0, .ref x0), (1, .ref x1), (2, .ref x2), (3, .ref x3), (4, .int x4), (5, .int x5)]) dX4_search_78 (by decide) rfl ?_
  exact jr_sub [1, 2, 3, 4, 5, 6, 0] rfl k
set_option maxRecDepth 20000 in
theorem bX4_search_80 {g : jG} {d : Nat} {hs : jH} {P : jO → jH → Prop} {x0 : Nat} {x1 : Nat} {x2 : Nat} {x3 : Nat} {x4 : Int32} {x5 : Int32} {x7 : Int32} {h : jH} (k : (x7 < 7 → ∃ fs6 : List Value, h.1 x0 = some (.inr (4, fs6)) ∧ ∃ v9 : Nat, fs6[4]? = some (.ref v9) ∧ ∃ (n10 : Nat) (f11 : Nat → Int32), h.1 v9 = some (.inl (0, (n10, .inl f11))) ∧ vp_in x7 n10 ∧ ∀ h14 : jH, h14 = jset h v9 (.inl (0, (n10, .inl (upd f11 x7.toNatClampNeg x7)))) → J g mX4_search (d + 1) hs P 80 [(0, .ref x0), (1, .ref x1), (2, .ref x2), (3, .ref x3), (4, .int x4), (5, .int x5), (7, .int (x7 + 1))] [] h14) ∧ (¬ x7 < 7 → ∃ fs1 : List Value, h.1 x0 = some (.inr (4, fs1)) ∧ 1 < fs1.length ∧ (∀ h4 : jH, h4 = jset h x0 (.inr (4, fs1.set 1 (.int 8))) → J g mX4_search (d + 1) hs P 114 [(0, .ref x0), (1, .ref x1), (2, .ref x2), (3, .ref x3), (4, .int x4), (5, .int x5), (7, .int 1), (8, .int 0)] [] h4))) : J g mX4_search (d + 1) hs P 80 [(0, .ref x0), (1, .ref x1), (2, .ref x2), (3, .ref x3), (4, .int x4), (5, .int x5), (7, .int x7)] [] h := by
  refine jr_iload 6 dX4_search_80 rfl ?_
  refine jr_bipush (v := 7) dX4_search_82 (by decide) ?_
  refine jr_icmp_ge (tgt := 102) dX4_search_84 (by decide) (fun c84 => ?_) (fun c84 => ?_)
  · have k := k.2 c84
    refine jr_aload_n 0 dX4_search_102 rfl rfl ?_
    refine jr_bipush (v := 8) dX4_search_103 (by decide) ?_
    obtain ⟨fs1, e2, e3, k⟩ := k
    refine jr_putE jp_X4_45 dX4_search_105 e2 e3 rfl rfl (fun h4 eh5 => ?_)
    have k := k h4 eh5
    refine jr_iconst (v := 1) dX4_search_108 (by decide) ?_
    refine jr_istore (lv' := [(7, .int 1), (0, .ref x0), (1, .ref x1), (2, .ref x2), (3, .ref x3), (4, .int x4), (5, .int x5)]) dX4_search_109 (by decide) rfl ?_
    refine jr_iconst (v := 0) dX4_search_111 (by decide) ?_
    refine jr_istore (lv' := [(8, .int 0), (7, .int 1), (0, .ref x0), (1, .ref x1), (2, .ref x2), (3, .ref x3), (4, .int x4), (5, .int x5)]) dX4_search_112 (by decide) rfl ?_
    exact jr_sub [2, 3, 4, 5, 6, 7, 1, 0] rfl k
  · have k := k.1 c84
    refine jr_aload_n 0 dX4_search_87 rfl rfl ?_
    obtain ⟨fs6, e7, v9, e8, k⟩ := k
    refine jr_get jf_X4_22 dX4_search_88 e7 e8 ?_
    refine jr_iload 6 dX4_search_91 rfl ?_
    refine jr_iload 6 dX4_search_93 rfl ?_
    obtain ⟨n10, f11, e12, e13, k⟩ := k
    refine jr_iastE dX4_search_95 e12 e13 (fun h14 eh15 => ?_)
    have k := k h14 eh15
    refine jr_iinc (v := (x7 + 1)) (lv' := [(7, .int (x7 + 1)), (0, .ref x0), (1, .ref x1), (2, .ref x2), (3, .ref x3), (4, .int x4), (5, .int x5)]) 6 dX4_search_96 rfl rfl (by decide) rfl ?_
    refine jr_goto (tgt := 80) dX4_search_99 (by decide) ?_
    exact jr_sub [1, 2, 3, 4, 5, 6, 0] rfl k
set_option maxRecDepth 20000 in
theorem bX4_search_114 {g : jG} {d : Nat} {hs : jH} {P : jO → jH → Prop} {x0 : Nat} {x1 : Nat} {x2 : Nat} {x3 : Nat} {x4 : Int32} {x5 : Int32} {x7 : Int32} {x8 : Int32} {h : jH} (k : (x8 < 5040 → (x7 = 0 → P (.inl none) h) ∧ (¬ x7 = 0 → ∃ fs3 : List Value, h.1 x1 = some (.inr (0, fs3)) ∧ Con g mX0_from d [.ref x1, .ref x2, .ref x3] h (jPr (fun (r1 : Nat) (h2 : jH) => J g mX4_search (d + 1) hs P 138 [(0, .ref x0), (1, .ref x1), (2, .ref x2), (3, .ref x3), (4, .int x4), (5, .int x5), (8, .int x8), (9, .ref r1), (10, .int 0)] [] h2) (fun E h' => P (.inr E) h')))) ∧ (¬ x8 < 5040 → P (.inl none) h)) : J g mX4_search (d + 1) hs P 114 [(0, .ref x0), (1, .ref x1), (2, .ref x2), (3, .ref x3), (4, .int x4), (5, .int x5), (7, .int x7), (8, .int x8)] [] h := by
  refine jr_iload 7 dX4_search_114 rfl ?_
  refine jr_sipush (v := 5040) dX4_search_116 (by decide) ?_
  refine jr_icmp_ge (tgt := 235) dX4_search_119 (by decide) (fun c119 => ?_) (fun c119 => ?_)
  · have k := k.2 c119
    exact jr_vret rfl dX4_search_235 k
  · have k := k.1 c119
    refine jr_iload 6 dX4_search_122 rfl ?_
    refine jr_if_eq (tgt := 235) dX4_search_124 (by decide) (fun c124 => ?_) (fun c124 => ?_)
    · have k := k.1 c124
      exact jr_vret rfl dX4_search_235 k
    · have k := k.2 c124
      refine jr_aload_n 1 dX4_search_127 rfl rfl ?_
      refine jr_aload_n 2 dX4_search_128 rfl rfl ?_
      refine jr_aload_n 3 dX4_search_129 rfl rfl ?_
      obtain ⟨fs3, e4, k⟩ := k
      refine jr_cVr (As := [.ref x2, .ref x3]) jl_X4_48 km_X0_from rfl rfl dX4_search_130 e4 (Nat.le_of_ble_eq_true rfl) k (fun r1 h2 k => ?_)
      refine jr_astore (lv' := [(9, .ref r1), (0, .ref x0), (1, .ref x1), (2, .ref x2), (3, .ref x3), (4, .int x4), (5, .int x5), (7, .int x7), (8, .int x8)]) dX4_search_133 (by decide) rfl ?_
      refine jr_iconst (v := 0) dX4_search_135 (by decide) ?_
      refine jr_istore (lv' := [(10, .int 0), (9, .ref r1), (0, .ref x0), (1, .ref x1), (2, .ref x2), (3, .ref x3), (4, .int x4), (5, .int x5), (7, .int x7), (8, .int x8)]) dX4_search_136 (by decide) rfl ?_
      exact jr_sub [2, 3, 4, 5, 6, 7, 9, 1, 0] rfl k
set_option maxRecDepth 20000 in
theorem bX4_search_138 {g : jG} {d : Nat} {hs : jH} {P : jO → jH → Prop} {x0 : Nat} {x1 : Nat} {x2 : Nat} {x3 : Nat} {x4 : Int32} {x5 : Int32} {x8 : Int32} {x9 : Nat} {x10 : Int32} {h : jH} (k : ∃ fs1 : List Value, h.1 x3 = some (.inr (6, fs1)) ∧ ∃ v4 : Int32, fs1[0]? = some (.int v4) ∧ (x10 < v4 → (x10 < 7 → ∃ fs5 : List Value, h.1 x0 = some (.inr (4, fs5)) ∧ ∃ v8 : Nat, fs5[4]? = some (.ref v8) ∧ ∃ (n9 : Nat) (f10 : Nat → Int32), h.1 v8 = some (.inl (0, (n9, .inl f10))) ∧ vp_in x10 n9 ∧ ∃ fs15 : List Value, h.1 x9 = some (.inr (6, fs15)) ∧ Con g mX6_moveIn d [.ref x9, .ref x3, .int (f10 x10.toNatClampNeg), .int x10] h (jPv (fun (h14 : jH) => J g mX4_search (d + 1) hs P 138 [(0, .ref x0), (1, .ref x1), (2, .ref x2), (3, .ref x3), (4, .int x4), (5, .int x5), (8, .int x8), (9, .ref x9), (10, .int (x10 + 1))] [] h14) (fun E h' => P (.inr E) h'))) ∧ (¬ x10 < 7 → J g mX4_search (d + 1) hs P 175 [(0, .ref x0), (1, .ref x1), (2, .ref x2), (3, .ref x3), (4, .int x4), (5, .int x5), (8, .int x8)] [] h)) ∧ (¬ x10 < v4 → J g mX4_search (d + 1) hs P 175 [(0, .ref x0), (1, .ref x1), (2, .ref x2), (3, .ref x3), (4, .int x4), (5, .int x5), (8, .int x8)] [] h)) : J g mX4_search (d + 1) hs P 138 [(0, .ref x0), (1, .ref x1), (2, .ref x2), (3, .ref x3), (4, .int x4), (5, .int x5), (8, .int x8), (9, .ref x9), (10, .int x10)] [] h := by
  refine jr_iload 8 dX4_search_138 rfl ?_
  refine jr_aload_n 3 dX4_search_140 rfl rfl ?_
  obtain ⟨fs1, e2, v4, e3, k⟩ := k
  refine jr_get jf_X4_54 dX4_search_141 e2 e3 ?_
  refine jr_icmp_ge (tgt := 175) dX4_search_144 (by decide) (fun c144 => ?_) (fun c144 => ?_)
  · have k := k.2 c144
    exact jr_sub [0, 1, 2, 3, 4, 5, 6] rfl k
  · have k := k.1 c144
    refine jr_iload 8 dX4_search_147 rfl ?_
    refine jr_bipush (v := 7) dX4_search_149 (by decide) ?_
    refine jr_icmp_ge (tgt := 175) dX4_search_151 (by decide) (fun c151 => ?_) (fun c151 => ?_)
    · have k := k.2 c151
      exact jr_sub [0, 1, 2, 3, 4, 5, 6] rfl k
    · have k := k.1 c151
      refine jr_aload 7 dX4_search_154 rfl ?_
      refine jr_aload_n 3 dX4_search_156 rfl rfl ?_
      refine jr_aload_n 0 dX4_search_157 rfl rfl ?_
      obtain ⟨fs5, e6, v8, e7, k⟩ := k
      refine jr_get jf_X4_22 dX4_search_158 e6 e7 ?_
      refine jr_iload 8 dX4_search_161 rfl ?_
      obtain ⟨n9, f10, e11, e12, k⟩ := k
      refine jr_iald dX4_search_163 e11 e12 ?_
      refine jr_iload 8 dX4_search_164 rfl ?_
      obtain ⟨fs15, e16, k⟩ := k
      refine jr_cVv (As := [.ref x3, .int (f10 x10.toNatClampNeg), .int x10]) jl_X4_57 km_X6_moveIn rfl rfl dX4_search_166 e16 (Nat.le_of_ble_eq_true rfl) k (fun h14 k => ?_)
      refine jr_iinc (v := (x10 + 1)) (lv' := [(10, .int (x10 + 1)), (0, .ref x0), (1, .ref x1), (2, .ref x2), (3, .ref x3), (4, .int x4), (5, .int x5), (8, .int x8), (9, .ref x9)]) 8 dX4_search_169 rfl rfl (by decide) rfl ?_
      refine jr_goto (tgt := 138) dX4_search_172 (by decide) ?_
      exact jr_sub [1, 2, 3, 4, 5, 6, 7, 8, 0] rfl k
set_option maxRecDepth 20000 in
theorem bX4_search_175 {g : jG} {d : Nat} {hs : jH} {P : jO → jH → Prop} {x0 : Nat} {x1 : Nat} {x2 : Nat} {x3 : Nat} {x4 : Int32} {x5 : Int32} {x8 : Int32} {h : jH} (k : ∃ fs1 : List Value, h.1 x0 = some (.inr (4, fs1)) ∧ ∃ v4 : Int32, fs1[1]? = some (.int v4) ∧ ∃ fs7 : List Value, h.1 x1 = some (.inr (0, fs7)) ∧ Con g mX0_losses d [.ref x1, .int x4, .int v4] h (jPi (fun (r5 : Int32) (h6 : jH) => ∃ fs11 : List Value, h6.1 x0 = some (.inr (4, fs11)) ∧ Con g mX4_note d [.ref x0, .int r5] h6 (jPv (fun (h10 : jH) => ∃ fs13 : List Value, h10.1 x3 = some (.inr (6, fs13)) ∧ ∃ v16 : Int32, fs13[0]? = some (.int v16) ∧ ∃ fs19 : List Value, h10.1 x0 = some (.inr (4, fs19)) ∧ Con g mX4_step d [.ref x0, .int (jmin v16 7)] h10 (jPi (fun (r17 : Int32) (h18 : jH) => (r17 = 0 → J g mX4_search (d + 1) hs P 114 [(0, .ref x0), (1, .ref x1), (2, .ref x2), (3, .ref x3), (4, .int x4), (5, .int x5), (7, .int r17), (8, .int (x8 + 1))] [] h18) ∧ (¬ r17 = 0 → ∃ fs21 : List Value, h18.1 x0 = some (.inr (4, fs21)) ∧ ∃ v24 : Int32, fs21[1]? = some (.int v24) ∧ (v24 = 0 → (x5 = 0 → ∃ fs25 : List Value, h18.1 x0 = some (.inr (4, fs25)) ∧ 7 < fs25.length ∧ (∀ h28 : jH, h28 = jset h18 x0 (.inr (4, fs25.set 7 (.int 0))) → J g mX4_search (d + 1) hs P 114 [(0, .ref x0), (1, .ref x1), (2, .ref x2), (3, .ref x3), (4, .int x4), (5, .int x5), (7, .int 0), (8, .int (x8 + 1))] [] h28)) ∧ (¬ x5 = 0 → J g mX4_search (d + 1) hs P 114 [(0, .ref x0), (1, .ref x1), (2, .ref x2), (3, .ref x3), (4, .int x4), (5, .int x5), (7, .int r17), (8, .int (x8 + 1))] [] h18)) ∧ (¬ v24 = 0 → J g mX4_search (d + 1) hs P 114 [(0, .ref x0), (1, .ref x1), (2, .ref x2), (3, .ref x3), (4, .int x4), (5, .int x5), (7, .int r17), (8, .int (x8 + 1))] [] h18))) (fun E h' => P (.inr E) h'))) (fun E h' => P (.inr E) h'))) (fun E h' => P (.inr E) h'))) : J g mX4_search (d + 1) hs P 175 [(0, .ref x0), (1, .ref x1), (2, .ref x2), (3, .ref x3), (4, .int x4), (5, .int x5), (8, .int x8)] [] h := by
  refine jr_aload_n 0 dX4_search_175 rfl rfl ?_
  refine jr_aload_n 1 dX4_search_176 rfl rfl ?_
  refine jr_iload 4 dX4_search_177 rfl ?_
  refine jr_aload_n 0 dX4_search_179 rfl rfl ?_
  obtain ⟨fs1, e2, v4, e3, k⟩ := k
  refine jr_get jf_X4_45 dX4_search_180 e2 e3 ?_
  obtain ⟨fs7, e8, k⟩ := k
  refine jr_cVi (As := [.int x4, .int v4]) jl_X4_61 km_X0_losses rfl rfl dX4_search_183 e8 (Nat.le_of_ble_eq_true rfl) k (fun r5 h6 k => ?_)
  obtain ⟨fs11, e12, k⟩ := k
  refine jr_cVv (As := [.int r5]) jl_X4_65 km_X4_note rfl rfl dX4_search_186 e12 (Nat.le_of_ble_eq_true rfl) k (fun h10 k => ?_)
  refine jr_aload_n 0 dX4_search_189 rfl rfl ?_
  refine jr_aload_n 3 dX4_search_190 rfl rfl ?_
  obtain ⟨fs13, e14, v16, e15, k⟩ := k
  refine jr_get jf_X4_54 dX4_search_191 e14 e15 ?_
  refine jr_bipush (v := 7) dX4_search_194 (by decide) ?_
  refine jr_mmin jl_X4_69 dX4_search_196 (Nat.le_of_ble_eq_true rfl) ?_
  obtain ⟨fs19, e20, k⟩ := k
  refine jr_cVi (As := [.int (jmin v16 7)]) jl_X4_74 km_X4_step rfl rfl dX4_search_199 e20 (Nat.le_of_ble_eq_true rfl) k (fun r17 h18 k => ?_)
  refine jr_istore (lv' := [(7, .int r17), (0, .ref x0), (1, .ref x1), (2, .ref x2), (3, .ref x3), (4, .int x4), (5, .int x5), (8, .int x8)]) dX4_search_202 (by decide) rfl ?_
  refine jr_iload 0 dX4_search_204 rfl ?_
  refine jr_if_eq (tgt := 229) dX4_search_206 (by decide) (fun c206 => ?_) (fun c206 => ?_)
  · have k := k.1 c206
    refine jr_iinc (v := (x8 + 1)) (lv' := [(8, .int (x8 + 1)), (7, .int r17), (0, .ref x0), (1, .ref x1), (2, .ref x2), (3, .ref x3), (4, .int x4), (5, .int x5)]) 7 dX4_search_229 rfl rfl (by decide) rfl ?_
    refine jr_goto (tgt := 114) dX4_search_232 (by decide) ?_
    exact jr_sub [2, 3, 4, 5, 6, 7, 1, 0] rfl k
  · have k := k.2 c206
    refine jr_aload_n 1 dX4_search_209 rfl rfl ?_
    obtain ⟨fs21, e22, v24, e23, k⟩ := k
    refine jr_get jf_X4_45 dX4_search_210 e22 e23 ?_
    refine jr_if_ne (tgt := 229) dX4_search_213 (by decide) (fun c213 => ?_) (fun c213 => ?_)
    · have k := k.2 c213
      refine jr_iinc (v := (x8 + 1)) (lv' := [(8, .int (x8 + 1)), (7, .int r17), (0, .ref x0), (1, .ref x1), (2, .ref x2), (3, .ref x3), (4, .int x4), (5, .int x5)]) 7 dX4_search_229 rfl rfl (by decide) rfl ?_
      refine jr_goto (tgt := 114) dX4_search_232 (by decide) ?_
      exact jr_sub [2, 3, 4, 5, 6, 7, 1, 0] rfl k
    · have k := k.1 c213
      refine jr_iload 6 dX4_search_216 rfl ?_
      refine jr_if_ne (tgt := 229) dX4_search_218 (by decide) (fun c218 => ?_) (fun c218 => ?_)
      · have k := k.2 c218
        refine jr_iinc (v := (x8 + 1)) (lv' := [(8, .int (x8 + 1)), (7, .int r17), (0, .ref x0), (1, .ref x1), (2, .ref x2), (3, .ref x3), (4, .int x4), (5, .int x5)]) 7 dX4_search_229 rfl rfl (by decide) rfl ?_
        refine jr_goto (tgt := 114) dX4_search_232 (by decide) ?_
        exact jr_sub [2, 3, 4, 5, 6, 7, 1, 0] rfl k
      · have k := k.1 c218
        refine jr_aload_n 1 dX4_search_221 rfl rfl ?_
        refine jr_iconst (v := 0) dX4_search_222 (by decide) ?_
        obtain ⟨fs25, e26, e27, k⟩ := k
        refine jr_putE jp_X4_37 dX4_search_223 e26 e27 rfl rfl (fun h28 eh29 => ?_)
        have k := k h28 eh29
        refine jr_iconst (v := 0) dX4_search_226 (by decide) ?_
        refine jr_istore (lv' := [(7, .int 0), (0, .ref x0), (1, .ref x1), (2, .ref x2), (3, .ref x3), (4, .int x4), (5, .int x5), (8, .int x8)]) dX4_search_227 (by decide) rfl ?_
        refine jr_iinc (v := (x8 + 1)) (lv' := [(8, .int (x8 + 1)), (7, .int 0), (0, .ref x0), (1, .ref x1), (2, .ref x2), (3, .ref x3), (4, .int x4), (5, .int x5)]) 7 dX4_search_229 rfl rfl (by decide) rfl ?_
        refine jr_goto (tgt := 114) dX4_search_232 (by decide) ?_
        exact jr_sub [2, 3, 4, 5, 6, 7, 1, 0] rfl k
set_option maxRecDepth 20000 in
theorem bX4_note_0 {g : jG} {d : Nat} {hs : jH} {P : jO → jH → Prop} {x0 : Nat} {x1 : Int32} {h : jH} (k : ∃ fs1 : List Value, h.1 x0 = some (.inr (4, fs1)) ∧ ∃ v4 : Int32, fs1[1]? = some (.int v4) ∧ (x1 < v4 → ∃ fs5 : List Value, h.1 x0 = some (.inr (4, fs5)) ∧ 1 < fs5.length ∧ (∀ h8 : jH, h8 = jset h x0 (.inr (4, fs5.set 1 (.int x1))) → ∃ fs10 : List Value, h8.1 x0 = some (.inr (4, fs10)) ∧ 2 < fs10.length ∧ (∀ h13 : jH, h13 = jset h8 x0 (.inr (4, fs10.set 2 (.int 0))) → ∃ fs15 : List Value, h13.1 x0 = some (.inr (4, fs15)) ∧ ∃ v18 : Nat, fs15[4]? = some (.ref v18) ∧ ∃ fs19 : List Value, h13.1 x0 = some (.inr (4, fs19)) ∧ ∃ v22 : Nat, fs19[0]? = some (.ref v22) ∧ ∃ (n23 : Nat) (f25 : Nat → Int32), h13.1 v18 = some (.inl (0, (n23, .inl f25))) ∧ ∃ (n24 : Nat) (f26 : Nat → Int32), h13.1 v22 = some (.inl (0, (n24, .inl f26))) ∧ ¬ (0 : Int32) < 0 ∧ ¬ (0 : Int32) < 0 ∧ ¬ (7 : Int32) < 0 ∧ (0 : Int32).toNatClampNeg + (7 : Int32).toNatClampNeg ≤ n23 ∧ (0 : Int32).toNatClampNeg + (7 : Int32).toNatClampNeg ≤ n24 ∧ ∀ h34, h34 = jset h13 v22 (.inl (0, (n24, .inl (va_cpy f25 f26 (0 : Int32).toNatClampNeg (0 : Int32).toNatClampNeg (7 : Int32).toNatClampNeg)))) → J g mX4_note (d + 1) hs P 33 [(0, .ref x0), (1, .int x1)] [] h34))) ∧ (¬ x1 < v4 → J g mX4_note (d + 1) hs P 33 [(0, .ref x0), (1, .int x1)] [] h)) : J g mX4_note (d + 1) hs P 0 [(0, .ref x0), (1, .int x1)] [] h := by
  refine jr_iload_n 1 dX4_note_0 rfl rfl ?_
  refine jr_aload_n 0 dX4_note_1 rfl rfl ?_
  obtain ⟨fs1, e2, v4, e3, k⟩ := k
  refine jr_get jf_X4_45 dX4_note_2 e2 e3 ?_
  refine jr_icmp_ge (tgt := 33) dX4_note_5 (by decide) (fun c5 => ?_) (fun c5 => ?_)
  · have k := k.2 c5
    exact jr_sub [0, 1] rfl k
  · have k := k.1 c5
    refine jr_aload_n 0 dX4_note_8 rfl rfl ?_
    refine jr_iload_n 1 dX4_note_9 rfl rfl ?_
    obtain ⟨fs5, e6, e7, k⟩ := k
    refine jr_putE jp_X4_45 dX4_note_10 e6 e7 rfl rfl (fun h8 eh9 => ?_)
    have k := k h8 eh9
    refine jr_aload_n 0 dX4_note_13 rfl rfl ?_
    refine jr_iconst (v := 0) dX4_note_14 (by decide) ?_
    obtain ⟨fs10, e11, e12, k⟩ := k
    refine jr_putE jp_X4_78 dX4_note_15 e11 e12 rfl rfl (fun h13 eh14 => ?_)
    have k := k h13 eh14
    refine jr_aload_n 0 dX4_note_18 rfl rfl ?_
    obtain ⟨fs15, e16, v18, e17, k⟩ := k
    refine jr_get jf_X4_22 dX4_note_19 e16 e17 ?_
    refine jr_iconst (v := 0) dX4_note_22 (by decide) ?_
    refine jr_aload_n 0 dX4_note_23 rfl rfl ?_
    obtain ⟨fs19, e20, v22, e21, k⟩ := k
    refine jr_get jf_X4_9 dX4_note_24 e20 e21 ?_
    refine jr_iconst (v := 0) dX4_note_27 (by decide) ?_
    refine jr_bipush (v := 7) dX4_note_28 (by decide) ?_
    obtain ⟨n23, f25, e27, n24, f26, e28, e29, e30, e31, e32, e33, k⟩ := k
    refine jr_copyiE jl_X4_81 dX4_note_30 e27 e28 e29 e30 e31 e32 e33 (Nat.le_of_ble_eq_true rfl) (fun h34 eh35 => ?_)
    have k := k h34 eh35
    exact jr_sub [0, 1] rfl k
set_option maxRecDepth 20000 in
theorem bX4_note_33 {g : jG} {d : Nat} {hs : jH} {P : jO → jH → Prop} {x0 : Nat} {x1 : Int32} {h : jH} (k : ∃ fs1 : List Value, h.1 x0 = some (.inr (4, fs1)) ∧ ∃ v4 : Int32, fs1[1]? = some (.int v4) ∧ (x1 = v4 → ∃ fs5 : List Value, h.1 x0 = some (.inr (4, fs5)) ∧ ∃ v8 : Int32, fs5[2]? = some (.int v8) ∧ ∃ fs9 : List Value, h.1 x0 = some (.inr (4, fs9)) ∧ 2 < fs9.length ∧ (∀ h12 : jH, h12 = jset h x0 (.inr (4, fs9.set 2 (.int (v8 + 1)))) → P (.inl none) h12)) ∧ (¬ x1 = v4 → P (.inl none) h)) : J g mX4_note (d + 1) hs P 33 [(0, .ref x0), (1, .int x1)] [] h := by
  refine jr_iload_n 1 dX4_note_33 rfl rfl ?_
  refine jr_aload_n 0 dX4_note_34 rfl rfl ?_
  obtain ⟨fs1, e2, v4, e3, k⟩ := k
  refine jr_get jf_X4_45 dX4_note_35 e2 e3 ?_
  refine jr_icmp_ne (tgt := 51) dX4_note_38 (by decide) (fun c38 => ?_) (fun c38 => ?_)
  · have k := k.2 c38
    exact jr_vret rfl dX4_note_51 k
  · have k := k.1 c38
    refine jr_aload_n 0 dX4_note_41 rfl rfl ?_
    refine jr_dup dX4_note_42 rfl ?_
    obtain ⟨fs5, e6, v8, e7, k⟩ := k
    refine jr_get jf_X4_78 dX4_note_43 e6 e7 ?_
    refine jr_iconst (v := 1) dX4_note_46 (by decide) ?_
    refine jr_iadd dX4_note_47 ?_
    obtain ⟨fs9, e10, e11, k⟩ := k
    refine jr_putE jp_X4_78 dX4_note_48 e10 e11 rfl rfl (fun h12 eh13 => ?_)
    have k := k h12 eh13
    exact jr_vret rfl dX4_note_51 k
set_option maxRecDepth 20000 in
theorem bX4_step_0 {g : jG} {d : Nat} {hs : jH} {P : jO → jH → Prop} {x0 : Nat} {x1 : Int32} {h : jH} (k : J g mX4_step (d + 1) hs P 4 [(0, .ref x0), (1, .int x1), (2, .int (x1 - 2))] [] h) : J g mX4_step (d + 1) hs P 0 [(0, .ref x0), (1, .int x1)] [] h := by
  refine jr_iload_n 1 dX4_step_0 rfl rfl ?_
  refine jr_iconst (v := 2) dX4_step_1 (by decide) ?_
  refine jr_isub dX4_step_2 ?_
  refine jr_istore_n (lv' := [(2, .int (x1 - 2)), (0, .ref x0), (1, .int x1)]) dX4_step_3 rfl (by decide) rfl ?_
  exact jr_sub [1, 2, 0] rfl k
set_option maxRecDepth 20000 in
theorem bX4_step_4 {g : jG} {d : Nat} {hs : jH} {P : jO → jH → Prop} {x0 : Nat} {x1 : Int32} {x2 : Int32} {h : jH} (k : (x2 < 0 → J g mX4_step (d + 1) hs P 31 [(0, .ref x0), (1, .int x1), (2, .int x2)] [] h) ∧ (¬ x2 < 0 → ∃ fs1 : List Value, h.1 x0 = some (.inr (4, fs1)) ∧ ∃ v4 : Nat, fs1[4]? = some (.ref v4) ∧ ∃ (n5 : Nat) (f6 : Nat → Int32), h.1 v4 = some (.inl (0, (n5, .inl f6))) ∧ vp_in x2 n5 ∧ ∃ fs9 : List Value, h.1 x0 = some (.inr (4, fs9)) ∧ ∃ v12 : Nat, fs9[4]? = some (.ref v12) ∧ ∃ (n13 : Nat) (f14 : Nat → Int32), h.1 v12 = some (.inl (0, (n13, .inl f14))) ∧ vp_in (x2 + 1) n13 ∧ ((f14 ((x2 + 1)).toNatClampNeg) < (f6 x2.toNatClampNeg) → J g mX4_step (d + 1) hs P 4 [(0, .ref x0), (1, .int x1), (2, .int (x2 + (-1)))] [] h) ∧ (¬ (f14 ((x2 + 1)).toNatClampNeg) < (f6 x2.toNatClampNeg) → J g mX4_step (d + 1) hs P 31 [(0, .ref x0), (1, .int x1), (2, .int x2)] [] h))) : J g mX4_step (d + 1) hs P 4 [(0, .ref x0), (1, .int x1), (2, .int x2)] [] h := by
  refine jr_iload_n 2 dX4_step_4 rfl rfl ?_
  refine jr_if_lt (tgt := 31) dX4_step_5 (by decide) (fun c5 => ?_) (fun c5 => ?_)
  · have k := k.1 c5
    exact jr_sub [0, 1, 2] rfl k
  · have k := k.2 c5
    refine jr_aload_n 0 dX4_step_8 rfl rfl ?_
    obtain ⟨fs1, e2, v4, e3, k⟩ := k
    refine jr_get jf_X4_22 dX4_step_9 e2 e3 ?_
    refine jr_iload_n 2 dX4_step_12 rfl rfl ?_
    obtain ⟨n5, f6, e7, e8, k⟩ := k
    refine jr_iald dX4_step_13 e7 e8 ?_
    refine jr_aload_n 0 dX4_step_14 rfl rfl ?_
    obtain ⟨fs9, e10, v12, e11, k⟩ := k
    refine jr_get jf_X4_22 dX4_step_15 e10 e11 ?_
    refine jr_iload_n 2 dX4_step_18 rfl rfl ?_
    refine jr_iconst (v := 1) dX4_step_19 (by decide) ?_
    refine jr_iadd dX4_step_20 ?_
    obtain ⟨n13, f14, e15, e16, k⟩ := k
    refine jr_iald dX4_step_21 e15 e16 ?_
    refine jr_icmp_le (tgt := 31) dX4_step_22 (by decide) (fun c22 => ?_) (fun c22 => ?_)
    · have k := k.2 c22
      exact jr_sub [0, 1, 2] rfl k
    · have k := k.1 c22
      refine jr_iinc (v := (x2 + (-1))) (lv' := [(2, .int (x2 + (-1))), (0, .ref x0), (1, .int x1)]) 2 dX4_step_25 rfl rfl (by decide) rfl ?_
      refine jr_goto (tgt := 4) dX4_step_28 (by decide) ?_
      exact jr_sub [1, 2, 0] rfl k
set_option maxRecDepth 20000 in
theorem bX4_step_31 {g : jG} {d : Nat} {hs : jH} {P : jO → jH → Prop} {x0 : Nat} {x1 : Int32} {x2 : Int32} {h : jH} (k : (x2 < 0 → P (.inl (some (.int 0))) h) ∧ (¬ x2 < 0 → J g mX4_step (d + 1) hs P 41 [(0, .ref x0), (1, .int x1), (2, .int x2), (3, .int (x1 - 1))] [] h)) : J g mX4_step (d + 1) hs P 31 [(0, .ref x0), (1, .int x1), (2, .int x2)] [] h := by
  refine jr_iload_n 2 dX4_step_31 rfl rfl ?_
  refine jr_if_ge (tgt := 37) dX4_step_32 (by decide) (fun c32 => ?_) (fun c32 => ?_)
  · have k := k.2 c32
    refine jr_iload_n 1 dX4_step_37 rfl rfl ?_
    refine jr_iconst (v := 1) dX4_step_38 (by decide) ?_
    refine jr_isub dX4_step_39 ?_
    refine jr_istore_n (lv' := [(3, .int (x1 - 1)), (0, .ref x0), (1, .int x1), (2, .int x2)]) dX4_step_40 rfl (by decide) rfl ?_
    exact jr_sub [1, 2, 3, 0] rfl k
  · have k := k.1 c32
    refine jr_iconst (v := 0) dX4_step_35 (by decide) ?_
    exact jr_iret (ty := .boolean) rfl rfl dX4_step_36 k
set_option maxRecDepth 20000 in
theorem bX4_step_41 {g : jG} {d : Nat} {hs : jH} {P : jO → jH → Prop} {x0 : Nat} {x1 : Int32} {x2 : Int32} {x3 : Int32} {h : jH} (k : (x2 < x3 → ∃ fs1 : List Value, h.1 x0 = some (.inr (4, fs1)) ∧ ∃ v4 : Nat, fs1[4]? = some (.ref v4) ∧ ∃ (n5 : Nat) (f6 : Nat → Int32), h.1 v4 = some (.inl (0, (n5, .inl f6))) ∧ vp_in x3 n5 ∧ ∃ fs9 : List Value, h.1 x0 = some (.inr (4, fs9)) ∧ ∃ v12 : Nat, fs9[4]? = some (.ref v12) ∧ ∃ (n13 : Nat) (f14 : Nat → Int32), h.1 v12 = some (.inl (0, (n13, .inl f14))) ∧ vp_in x2 n13 ∧ ((f6 x3.toNatClampNeg) < (f14 x2.toNatClampNeg) → J g mX4_step (d + 1) hs P 41 [(0, .ref x0), (1, .int x1), (2, .int x2), (3, .int (x3 + (-1)))] [] h) ∧ (¬ (f6 x3.toNatClampNeg) < (f14 x2.toNatClampNeg) → J g mX4_step (d + 1) hs P 67 [(0, .ref x0), (1, .int x1), (2, .int x2), (3, .int x3)] [] h)) ∧ (¬ x2 < x3 → J g mX4_step (d + 1) hs P 67 [(0, .ref x0), (1, .int x1), (2, .int x2), (3, .int x3)] [] h)) : J g mX4_step (d + 1) hs P 41 [(0, .ref x0), (1, .int x1), (2, .int x2), (3, .int x3)] [] h := by
  refine jr_iload_n 3 dX4_step_41 rfl rfl ?_
  refine jr_iload_n 2 dX4_step_42 rfl rfl ?_
  refine jr_icmp_le (tgt := 67) dX4_step_43 (by decide) (fun c43 => ?_) (fun c43 => ?_)
  · have k := k.2 c43
    exact jr_sub [0, 1, 2, 3] rfl k
  · have k := k.1 c43
    refine jr_aload_n 0 dX4_step_46 rfl rfl ?_
    obtain ⟨fs1, e2, v4, e3, k⟩ := k
    refine jr_get jf_X4_22 dX4_step_47 e2 e3 ?_
    refine jr_iload_n 3 dX4_step_50 rfl rfl ?_
    obtain ⟨n5, f6, e7, e8, k⟩ := k
    refine jr_iald dX4_step_51 e7 e8 ?_
    refine jr_aload_n 0 dX4_step_52 rfl rfl ?_
    obtain ⟨fs9, e10, v12, e11, k⟩ := k
    refine jr_get jf_X4_22 dX4_step_53 e10 e11 ?_
    refine jr_iload_n 2 dX4_step_56 rfl rfl ?_
    obtain ⟨n13, f14, e15, e16, k⟩ := k
    refine jr_iald dX4_step_57 e15 e16 ?_
    refine jr_icmp_ge (tgt := 67) dX4_step_58 (by decide) (fun c58 => ?_) (fun c58 => ?_)
    · have k := k.2 c58
      exact jr_sub [0, 1, 2, 3] rfl k
    · have k := k.1 c58
      refine jr_iinc (v := (x3 + (-1))) (lv' := [(3, .int (x3 + (-1))), (0, .ref x0), (1, .int x1), (2, .int x2)]) 3 dX4_step_61 rfl rfl (by decide) rfl ?_
      refine jr_goto (tgt := 41) dX4_step_64 (by decide) ?_
      exact jr_sub [1, 2, 3, 0] rfl k
set_option maxRecDepth 20000 in
theorem bX4_step_67 {g : jG} {d : Nat} {hs : jH} {P : jO → jH → Prop} {x0 : Nat} {x1 : Int32} {x2 : Int32} {x3 : Int32} {h : jH} (k : ∃ fs3 : List Value, h.1 x0 = some (.inr (4, fs3)) ∧ Con g mX4_exchange d [.ref x0, .int x2, .int x3] h (jPv (fun (h2 : jH) => J g mX4_step (d + 1) hs P 83 [(0, .ref x0), (4, .int (x2 + 1)), (5, .int (x1 - 1))] [] h2) (fun E h' => P (.inr E) h'))) : J g mX4_step (d + 1) hs P 67 [(0, .ref x0), (1, .int x1), (2, .int x2), (3, .int x3)] [] h := by
  refine jr_aload_n 0 dX4_step_67 rfl rfl ?_
  refine jr_iload_n 2 dX4_step_68 rfl rfl ?_
  refine jr_iload_n 3 dX4_step_69 rfl rfl ?_
  obtain ⟨fs3, e4, k⟩ := k
  refine jr_cVv (As := [.int x2, .int x3]) jl_X4_87 km_X4_exchange rfl rfl dX4_step_70 e4 (Nat.le_of_ble_eq_true rfl) k (fun h2 k => ?_)
  refine jr_iload_n 2 dX4_step_73 rfl rfl ?_
  refine jr_iconst (v := 1) dX4_step_74 (by decide) ?_
  refine jr_iadd dX4_step_75 ?_
  refine jr_istore (lv' := [(4, .int (x2 + 1)), (0, .ref x0), (1, .int x1), (2, .int x2), (3, .int x3)]) dX4_step_76 (by decide) rfl ?_
  refine jr_iload_n 2 dX4_step_78 rfl rfl ?_
  refine jr_iconst (v := 1) dX4_step_79 (by decide) ?_
  refine jr_isub dX4_step_80 ?_
  refine jr_istore (lv' := [(5, .int (x1 - 1)), (4, .int (x2 + 1)), (0, .ref x0), (1, .int x1), (2, .int x2), (3, .int x3)]) dX4_step_81 (by decide) rfl ?_
  exact jr_sub [2, 1, 0] rfl k
set_option maxRecDepth 20000 in
theorem bX4_step_83 {g : jG} {d : Nat} {hs : jH} {P : jO → jH → Prop} {x0 : Nat} {x4 : Int32} {x5 : Int32} {h : jH} (k : (x4 < x5 → ∃ fs3 : List Value, h.1 x0 = some (.inr (4, fs3)) ∧ Con g mX4_exchange d [.ref x0, .int x4, .int x5] h (jPv (fun (h2 : jH) => J g mX4_step (d + 1) hs P 83 [(0, .ref x0), (4, .int (x4 + 1)), (5, .int (x5 + (-1)))] [] h2) (fun E h' => P (.inr E) h'))) ∧ (¬ x4 < x5 → P (.inl (some (.int 1))) h)) : J g mX4_step (d + 1) hs P 83 [(0, .ref x0), (4, .int x4), (5, .int x5)] [] h := by
  refine jr_iload 1 dX4_step_83 rfl ?_
  refine jr_iload 2 dX4_step_85 rfl ?_
  refine jr_icmp_ge (tgt := 107) dX4_step_87 (by decide) (fun c87 => ?_) (fun c87 => ?_)
  · have k := k.2 c87
    refine jr_iconst (v := 1) dX4_step_107 (by decide) ?_
    exact jr_iret (ty := .boolean) rfl rfl dX4_step_108 k
  · have k := k.1 c87
    refine jr_aload_n 0 dX4_step_90 rfl rfl ?_
    refine jr_iload 1 dX4_step_91 rfl ?_
    refine jr_iload 2 dX4_step_93 rfl ?_
    obtain ⟨fs3, e4, k⟩ := k
    refine jr_cVv (As := [.int x4, .int x5]) jl_X4_87 km_X4_exchange rfl rfl dX4_step_95 e4 (Nat.le_of_ble_eq_true rfl) k (fun h2 k => ?_)
    refine jr_iinc (v := (x4 + 1)) (lv' := [(4, .int (x4 + 1)), (0, .ref x0), (5, .int x5)]) 1 dX4_step_98 rfl rfl (by decide) rfl ?_
    refine jr_iinc (v := (x5 + (-1))) (lv' := [(5, .int (x5 + (-1))), (4, .int (x4 + 1)), (0, .ref x0)]) 2 dX4_step_101 rfl rfl (by decide) rfl ?_
    refine jr_goto (tgt := 83) dX4_step_104 (by decide) ?_
    exact jr_sub [2, 1, 0] rfl k
set_option maxRecDepth 20000 in
theorem bX4_exchange_0 {g : jG} {d : Nat} {hs : jH} {P : jO → jH → Prop} {x0 : Nat} {x1 : Int32} {x2 : Int32} {h : jH} (k : ∃ fs1 : List Value, h.1 x0 = some (.inr (4, fs1)) ∧ ∃ v4 : Nat, fs1[4]? = some (.ref v4) ∧ ∃ (n5 : Nat) (f6 : Nat → Int32), h.1 v4 = some (.inl (0, (n5, .inl f6))) ∧ vp_in x1 n5 ∧ ∃ fs9 : List Value, h.1 x0 = some (.inr (4, fs9)) ∧ ∃ v12 : Nat, fs9[4]? = some (.ref v12) ∧ ∃ fs13 : List Value, h.1 x0 = some (.inr (4, fs13)) ∧ ∃ v16 : Nat, fs13[4]? = some (.ref v16) ∧ ∃ (n17 : Nat) (f18 : Nat → Int32), h.1 v16 = some (.inl (0, (n17, .inl f18))) ∧ vp_in x2 n17 ∧ ∃ (n21 : Nat) (f22 : Nat → Int32), h.1 v12 = some (.inl (0, (n21, .inl f22))) ∧ vp_in x1 n21 ∧ ∀ h25 : jH, h25 = jset h v12 (.inl (0, (n21, .inl (upd f22 x1.toNatClampNeg ((f18 x2.toNatClampNeg)))))) → ∃ fs27 : List Value, h25.1 x0 = some (.inr (4, fs27)) ∧ ∃ v30 : Nat, fs27[4]? = some (.ref v30) ∧ ∃ (n31 : Nat) (f32 : Nat → Int32), h25.1 v30 = some (.inl (0, (n31, .inl f32))) ∧ vp_in x2 n31 ∧ ∀ h35 : jH, h35 = jset h25 v30 (.inl (0, (n31, .inl (upd f32 x2.toNatClampNeg ((f6 x1.toNatClampNeg)))))) → P (.inl none) h35) : J g mX4_exchange (d + 1) hs P 0 [(0, .ref x0), (1, .int x1), (2, .int x2)] [] h := by
  refine jr_aload_n 0 dX4_exchange_0 rfl rfl ?_
  obtain ⟨fs1, e2, v4, e3, k⟩ := k
  refine jr_get jf_X4_22 dX4_exchange_1 e2 e3 ?_
  refine jr_iload_n 1 dX4_exchange_4 rfl rfl ?_
  obtain ⟨n5, f6, e7, e8, k⟩ := k
  refine jr_iald dX4_exchange_5 e7 e8 ?_
  refine jr_istore_n (lv' := [(3, .int (f6 x1.toNatClampNeg)), (0, .ref x0), (1, .int x1), (2, .int x2)]) dX4_exchange_6 rfl (by decide) rfl ?_
  refine jr_aload_n 1 dX4_exchange_7 rfl rfl ?_
  obtain ⟨fs9, e10, v12, e11, k⟩ := k
  refine jr_get jf_X4_22 dX4_exchange_8 e10 e11 ?_
  refine jr_iload_n 2 dX4_exchange_11 rfl rfl ?_
  refine jr_aload_n 1 dX4_exchange_12 rfl rfl ?_
  obtain ⟨fs13, e14, v16, e15, k⟩ := k
  refine jr_get jf_X4_22 dX4_exchange_13 e14 e15 ?_
  refine jr_iload_n 3 dX4_exchange_16 rfl rfl ?_
  obtain ⟨n17, f18, e19, e20, k⟩ := k
  refine jr_iald dX4_exchange_17 e19 e20 ?_
  obtain ⟨n21, f22, e23, e24, k⟩ := k
  refine jr_iastE dX4_exchange_18 e23 e24 (fun h25 eh26 => ?_)
  have k := k h25 eh26
  refine jr_aload_n 1 dX4_exchange_19 rfl rfl ?_
  obtain ⟨fs27, e28, v30, e29, k⟩ := k
  refine jr_get jf_X4_22 dX4_exchange_20 e28 e29 ?_
  refine jr_iload_n 3 dX4_exchange_23 rfl rfl ?_
  refine jr_iload_n 0 dX4_exchange_24 rfl rfl ?_
  obtain ⟨n31, f32, e33, e34, k⟩ := k
  refine jr_iastE dX4_exchange_25 e33 e34 (fun h35 eh36 => ?_)
  have k := k h35 eh36
  exact jr_vret rfl dX4_exchange_26 k
