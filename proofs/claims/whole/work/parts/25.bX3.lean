set_option maxRecDepth 20000 in
theorem bX3_init_0 {g : jG} {d : Nat} {hs : jH} {P : jO → jH → Prop} {x0 : Nat} {h : jH} (k : jroom g h 1 9 ∧ ∀ (q1 : Nat) (h2 : jH), q1 = h.2.1 → h2 = jnew h (.inr (6, [.int 0, .int 0, .int 0, .null, .null, .null, .null, .null, .null])) 9 → Con g mX6_init d [.ref q1] h2 (jPv (fun (h7 : jH) => ∃ fs8 : List Value, h7.1 x0 = some (.inr (3, fs8)) ∧ 1 < fs8.length ∧ (∀ h11 : jH, h11 = jset h7 x0 (.inr (3, fs8.set 1 (.ref q1))) → jroom g h11 1 2 ∧ ∀ (q13 : Nat) (h14 : jH), q13 = h11.2.1 → h14 = jnew h11 (.inr (2, [.int 0, .null])) 2 → Con g mX2_init d [.ref q13] h14 (jPv (fun (h19 : jH) => ∃ fs20 : List Value, h19.1 x0 = some (.inr (3, fs20)) ∧ 2 < fs20.length ∧ (∀ h23 : jH, h23 = jset h19 x0 (.inr (3, fs20.set 2 (.ref q13))) → P (.inl none) h23)) (fun E h' => P (.inr E) h')))) (fun E h' => P (.inr E) h'))) : J g mX3_init (d + 1) hs P 0 [(0, .ref x0)] [] h := by
  refine jr_aload_n 0 dX3_init_0 rfl rfl ?_
  refine jr_objInit jl_X3_1 dX3_init_1 (Nat.le_of_ble_eq_true rfl) ?_
  refine jr_aload_n 0 dX3_init_4 rfl rfl ?_
  obtain ⟨rm5, k⟩ := k
  refine jr_newE (fs := [.int 0, .int 0, .int 0, .null, .null, .null, .null, .null, .null]) jn_X3_7 jfs_6 rm5 dX3_init_5 (fun q1 h2 eq3 eh4 => ?_)
  have k := k q1 h2 eq3 eh4
  refine jr_dup dX3_init_8 rfl ?_
  refine jr_cNv (As := []) jl_X3_9 km_X6_init rfl rfl dX3_init_9 (Nat.le_of_ble_eq_true rfl) k (fun h7 k => ?_)
  obtain ⟨fs8, e9, e10, k⟩ := k
  refine jr_putFE jp_X3_10 (fun C T N hc => by cases hc; rfl) rfl dX3_init_12 e9 e10 rfl rfl (fun h11 eh12 => ?_)
  have k := k h11 eh12
  refine jr_aload_n 0 dX3_init_15 rfl rfl ?_
  obtain ⟨rm17, k⟩ := k
  refine jr_newE (fs := [.int 0, .null]) jn_X3_16 jfs_2 rm17 dX3_init_16 (fun q13 h14 eq15 eh16 => ?_)
  have k := k q13 h14 eq15 eh16
  refine jr_dup dX3_init_19 rfl ?_
  refine jr_cIv (As := []) jl_X3_18 km_X2_init rfl rfl dX3_init_20 (Nat.le_of_ble_eq_true rfl) k (fun h19 k => ?_)
  obtain ⟨fs20, e21, e22, k⟩ := k
  refine jr_putFE jp_X3_19 (fun C T N hc => by cases hc; rfl) rfl dX3_init_23 e21 e22 rfl rfl (fun h23 eh24 => ?_)
  have k := k h23 eh24
  exact jr_vret rfl dX3_init_26 k
