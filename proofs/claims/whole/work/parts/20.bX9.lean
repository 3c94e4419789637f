set_option maxRecDepth 20000 in
theorem bX9_init_0 {g : jG} {d : Nat} {hs : jH} {P : jO → jH → Prop} {x0 : Nat} {h : jH} (k : jroom g h 1 9 ∧ ∀ (q1 : Nat) (h2 : jH), q1 = h.2.1 → h2 = jnew h (.inr (6, [.int 0, .int 0, .int 0, .null, .null, .null, .null, .null, .null])) 9 → Con g mX6_init d [.ref q1] h2 (jPv (fun (h7 : jH) => ∃ fs8 : List Value, h7.1 x0 = some (.inr (9, fs8)) ∧ 0 < fs8.length ∧ (∀ h11 : jH, h11 = jset h7 x0 (.inr (9, fs8.set 0 (.ref q1))) → ∃ fs13 : List Value, h11.1 x0 = some (.inr (9, fs13)) ∧ 3 < fs13.length ∧ (∀ h16 : jH, h16 = jset h11 x0 (.inr (9, fs13.set 3 (.int 100))) → ∃ fs18 : List Value, h16.1 x0 = some (.inr (9, fs18)) ∧ 4 < fs18.length ∧ (∀ h21 : jH, h21 = jset h16 x0 (.inr (9, fs18.set 4 (.ref g.2.2.2.2.2.2))) → ∃ fs23 : List Value, h21.1 x0 = some (.inr (9, fs23)) ∧ 5 < fs23.length ∧ (∀ h26 : jH, h26 = jset h21 x0 (.inr (9, fs23.set 5 (.ref g.2.2.2.2.2.2))) → ∃ fs28 : List Value, h26.1 x0 = some (.inr (9, fs28)) ∧ 6 < fs28.length ∧ (∀ h31 : jH, h31 = jset h26 x0 (.inr (9, fs28.set 6 (.ref g.2.2.2.2.2.2))) → P (.inl none) h31)))))) (fun E h' => P (.inr E) h'))) : J g mX9_init (d + 1) hs P 0 [(0, .ref x0)] [] h := by
  refine jr_aload_n 0 dX9_init_0 rfl rfl ?_
  refine jr_objInit jl_X9_3 dX9_init_1 (Nat.le_of_ble_eq_true rfl) ?_
  refine jr_aload_n 0 dX9_init_4 rfl rfl ?_
  obtain ⟨rm5, k⟩ := k
  refine jr_newE (fs := [.int 0, .int 0, .int 0, .null, .null, .null, .null, .null, .null]) jn_X9_9 jfs_6 rm5 dX9_init_5 (fun q1 h2 eq3 eh4 => ?_)
  have k := k q1 h2 eq3 eh4
  refine jr_dup dX9_init_8 rfl ?_
  refine jr_cNv (As := []) jl_X9_11 km_X6_init rfl rfl dX9_init_9 (Nat.le_of_ble_eq_true rfl) k (fun h7 k => ?_)
  obtain ⟨fs8, e9, e10, k⟩ := k
  refine jr_putFE jp_X9_12 (fun C T N hc => by cases hc; rfl) rfl dX9_init_12 e9 e10 rfl rfl (fun h11 eh12 => ?_)
  have k := k h11 eh12
  refine jr_aload_n 0 dX9_init_15 rfl rfl ?_
  refine jr_bipush (v := 100) dX9_init_16 (by decide) ?_
  obtain ⟨fs13, e14, e15, k⟩ := k
  refine jr_putE jp_X9_18 dX9_init_18 e14 e15 rfl rfl (fun h16 eh17 => ?_)
  have k := k h16 eh17
  refine jr_aload_n 0 dX9_init_21 rfl rfl ?_
  refine jr_nolaw jl_nolaw dX9_init_22 ?_
  obtain ⟨fs18, e19, e20, k⟩ := k
  refine jr_putE jp_X9_26 dX9_init_25 e19 e20 rfl rfl (fun h21 eh22 => ?_)
  have k := k h21 eh22
  refine jr_aload_n 0 dX9_init_28 rfl rfl ?_
  refine jr_nolaw jl_nolaw dX9_init_29 ?_
  obtain ⟨fs23, e24, e25, k⟩ := k
  refine jr_putE jp_X9_29 dX9_init_32 e24 e25 rfl rfl (fun h26 eh27 => ?_)
  have k := k h26 eh27
  refine jr_aload_n 0 dX9_init_35 rfl rfl ?_
  refine jr_nolaw jl_nolaw dX9_init_36 ?_
  obtain ⟨fs28, e29, e30, k⟩ := k
  refine jr_putE jp_X9_32 dX9_init_39 e29 e30 rfl rfl (fun h31 eh32 => ?_)
  have k := k h31 eh32
  exact jr_vret rfl dX9_init_42 k
set_option maxRecDepth 20000 in
theorem bX9_next_0 {g : jG} {d : Nat} {hs : jH} {P : jO → jH → Prop} {x0 : Nat} {x1 : Int32} {x2 : Int32} {h : jH} (k : ((x1 + 1) < x2 → P (.inl (some (.int ((x1 + 1))))) h) ∧ (¬ (x1 + 1) < x2 → ∃ fs1 : List Value, h.1 x0 = some (.inr (9, fs1)) ∧ ∃ v4 : Int32, fs1[1]? = some (.int v4) ∧ (v4 = 0 → P (.inl (some (.int ((-1))))) h) ∧ (¬ v4 = 0 → P (.inl (some (.int 0))) h))) : J g mX9_next (d + 1) hs P 0 [(0, .ref x0), (1, .int x1), (2, .int x2)] [] h := by
  refine jr_iload_n 1 dX9_next_0 rfl rfl ?_
  refine jr_iconst (v := 1) dX9_next_1 (by decide) ?_
  refine jr_iadd dX9_next_2 ?_
  refine jr_iload_n 2 dX9_next_3 rfl rfl ?_
  refine jr_icmp_ge (tgt := 13) dX9_next_4 (by decide) (fun c4 => ?_) (fun c4 => ?_)
  · have k := k.2 c4
    refine jr_aload_n 0 dX9_next_13 rfl rfl ?_
    obtain ⟨fs1, e2, v4, e3, k⟩ := k
    refine jr_get jf_X9_35 dX9_next_14 e2 e3 ?_
    refine jr_if_eq (tgt := 24) dX9_next_17 (by decide) (fun c17 => ?_) (fun c17 => ?_)
    · have k := k.1 c17
      refine jr_iconst (v := (-1)) dX9_next_24 (by decide) ?_
      exact jr_iret (ty := .int) rfl rfl dX9_next_25 k
    · have k := k.2 c17
      refine jr_iconst (v := 0) dX9_next_20 (by decide) ?_
      refine jr_goto (tgt := 25) dX9_next_21 (by decide) ?_
      exact jr_iret (ty := .int) rfl rfl dX9_next_25 k
  · have k := k.1 c4
    refine jr_iload_n 1 dX9_next_7 rfl rfl ?_
    refine jr_iconst (v := 1) dX9_next_8 (by decide) ?_
    refine jr_iadd dX9_next_9 ?_
    refine jr_goto (tgt := 25) dX9_next_10 (by decide) ?_
    exact jr_iret (ty := .int) rfl rfl dX9_next_25 k
