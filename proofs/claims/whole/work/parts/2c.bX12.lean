set_option maxRecDepth 20000 in
theorem bX12_init_0 {g : jG} {d : Nat} {hs : jH} {P : jO → jH → Prop} {x0 : Nat} {h : jH} (k : ∃ N1 : Nat, (3240 : Int32) = nI N1 ∧ N1 < 60000000 ∧ jroom g h 1 N1 ∧ ∀ (q4 : Nat) (h5 : jH), q4 = h.2.1 → h5 = jnew h (.inl (0, (N1, .inl (fun _ => 0)))) N1 → ∃ fs9 : List Value, h5.1 x0 = some (.inr (12, fs9)) ∧ 0 < fs9.length ∧ (∀ h12 : jH, h12 = jset h5 x0 (.inr (12, fs9.set 0 (.ref q4))) → ∃ N14 : Nat, (3240 : Int32) = nI N14 ∧ N14 < 60000000 ∧ jroom g h12 1 N14 ∧ ∀ (q17 : Nat) (h18 : jH), q17 = h12.2.1 → h18 = jnew h12 (.inl (0, (N14, .inl (fun _ => 0)))) N14 → ∃ fs22 : List Value, h18.1 x0 = some (.inr (12, fs22)) ∧ 1 < fs22.length ∧ (∀ h25 : jH, h25 = jset h18 x0 (.inr (12, fs22.set 1 (.ref q17))) → ∃ N27 : Nat, (9720 : Int32) = nI N27 ∧ N27 < 60000000 ∧ jroom g h25 1 N27 ∧ ∀ (q30 : Nat) (h31 : jH), q30 = h25.2.1 → h31 = jnew h25 (.inl (0, (N27, .inl (fun _ => 0)))) N27 → ∃ fs35 : List Value, h31.1 x0 = some (.inr (12, fs35)) ∧ 2 < fs35.length ∧ (∀ h38 : jH, h38 = jset h31 x0 (.inr (12, fs35.set 2 (.ref q30))) → ∃ N40 : Nat, (3 : Int32) = nI N40 ∧ N40 < 60000000 ∧ jroom g h38 1 N40 ∧ ∀ (q43 : Nat) (h44 : jH), q43 = h38.2.1 → h44 = jnew h38 (.inl (2, (N40, .inl (fun _ => 0)))) N40 → ∃ fs48 : List Value, h44.1 x0 = some (.inr (12, fs48)) ∧ 3 < fs48.length ∧ (∀ h51 : jH, h51 = jset h44 x0 (.inr (12, fs48.set 3 (.ref q43))) → ∃ N53 : Nat, (900 : Int32) = nI N53 ∧ N53 < 60000000 ∧ jroom g h51 1 N53 ∧ ∀ (q56 : Nat) (h57 : jH), q56 = h51.2.1 → h57 = jnew h51 (.inl (0, (N53, .inl (fun _ => 0)))) N53 → ∃ fs61 : List Value, h57.1 x0 = some (.inr (12, fs61)) ∧ 5 < fs61.length ∧ (∀ h64 : jH, h64 = jset h57 x0 (.inr (12, fs61.set 5 (.ref q56))) → ∃ fs66 : List Value, h64.1 x0 = some (.inr (12, fs66)) ∧ 15 < fs66.length ∧ (∀ h69 : jH, h69 = jset h64 x0 (.inr (12, fs66.set 15 (.int (-1)))) → ∃ N71 : Nat, (64 : Int32) = nI N71 ∧ N71 < 60000000 ∧ jroom g h69 1 N71 ∧ ∀ (q74 : Nat) (h75 : jH), q74 = h69.2.1 → h75 = jnew h69 (.inl (0, (N71, .inl (fun _ => 0)))) N71 → ∃ fs79 : List Value, h75.1 x0 = some (.inr (12, fs79)) ∧ 19 < fs79.length ∧ (∀ h82 : jH, h82 = jset h75 x0 (.inr (12, fs79.set 19 (.ref q74))) → ∃ N84 : Nat, (6 : Int32) = nI N84 ∧ N84 < 60000000 ∧ jroom g h82 1 N84 ∧ ∀ (q87 : Nat) (h88 : jH), q87 = h82.2.1 → h88 = jnew h82 (.inl (0, (N84, .inl (fun _ => 0)))) N84 → ∃ fs92 : List Value, h88.1 x0 = some (.inr (12, fs92)) ∧ 20 < fs92.length ∧ (∀ h95 : jH, h95 = jset h88 x0 (.inr (12, fs92.set 20 (.ref q87))) → ∃ N97 : Nat, (7 : Int32) = nI N97 ∧ N97 < 60000000 ∧ jroom g h95 1 N97 ∧ ∀ (q100 : Nat) (h101 : jH), q100 = h95.2.1 → h101 = jnew h95 (.inl (0, (N97, .inl (fun _ => 0)))) N97 → ∃ fs105 : List Value, h101.1 x0 = some (.inr (12, fs105)) ∧ 21 < fs105.length ∧ (∀ h108 : jH, h108 = jset h101 x0 (.inr (12, fs105.set 21 (.ref q100))) → ∃ N110 : Nat, (7 : Int32) = nI N110 ∧ N110 < 60000000 ∧ jroom g h108 1 N110 ∧ ∀ (q113 : Nat) (h114 : jH), q113 = h108.2.1 → h114 = jnew h108 (.inl (0, (N110, .inl (fun _ => 0)))) N110 → ∃ fs118 : List Value, h114.1 x0 = some (.inr (12, fs118)) ∧ 22 < fs118.length ∧ (∀ h121 : jH, h121 = jset h114 x0 (.inr (12, fs118.set 22 (.ref q113))) → ∃ N123 : Nat, (44 : Int32) = nI N123 ∧ N123 < 60000000 ∧ jroom g h121 1 N123 ∧ ∀ (q126 : Nat) (h127 : jH), q126 = h121.2.1 → h127 = jnew h121 (.inl (0, (N123, .inl (fun _ => 0)))) N123 → ∃ fs131 : List Value, h127.1 x0 = some (.inr (12, fs131)) ∧ 25 < fs131.length ∧ (∀ h134 : jH, h134 = jset h127 x0 (.inr (12, fs131.set 25 (.ref q126))) → ∃ N136 : Nat, (7 : Int32) = nI N136 ∧ N136 < 60000000 ∧ jroom g h134 1 N136 ∧ ∀ (q139 : Nat) (h140 : jH), q139 = h134.2.1 → h140 = jnew h134 (.inl (0, (N136, .inl (fun _ => 0)))) N136 → ∃ fs144 : List Value, h140.1 x0 = some (.inr (12, fs144)) ∧ 28 < fs144.length ∧ (∀ h147 : jH, h147 = jset h140 x0 (.inr (12, fs144.set 28 (.ref q139))) → ∃ N149 : Nat, (7 : Int32) = nI N149 ∧ N149 < 60000000 ∧ jroom g h147 1 N149 ∧ ∀ (q152 : Nat) (h153 : jH), q152 = h147.2.1 → h153 = jnew h147 (.inl (0, (N149, .inl (fun _ => 0)))) N149 → ∃ fs157 : List Value, h153.1 x0 = some (.inr (12, fs157)) ∧ 29 < fs157.length ∧ (∀ h160 : jH, h160 = jset h153 x0 (.inr (12, fs157.set 29 (.ref q152))) → ∃ N162 : Nat, (693 : Int32) = nI N162 ∧ N162 < 60000000 ∧ jroom g h160 1 N162 ∧ ∀ (q165 : Nat) (h166 : jH), q165 = h160.2.1 → h166 = jnew h160 (.inl (0, (N162, .inl (fun _ => 0)))) N162 → ∃ fs170 : List Value, h166.1 x0 = some (.inr (12, fs170)) ∧ 33 < fs170.length ∧ (∀ h173 : jH, h173 = jset h166 x0 (.inr (12, fs170.set 33 (.ref q165))) → ∃ N175 : Nat, (4851 : Int32) = nI N175 ∧ N175 < 60000000 ∧ jroom g h173 1 N175 ∧ ∀ (q178 : Nat) (h179 : jH), q178 = h173.2.1 → h179 = jnew h173 (.inl (0, (N175, .inl (fun _ => 0)))) N175 → ∃ fs183 : List Value, h179.1 x0 = some (.inr (12, fs183)) ∧ 34 < fs183.length ∧ (∀ h186 : jH, h186 = jset h179 x0 (.inr (12, fs183.set 34 (.ref q178))) → ∃ N188 : Nat, (4 : Int32) = nI N188 ∧ N188 < 60000000 ∧ jroom g h186 1 N188 ∧ ∀ (q191 : Nat) (h192 : jH), q191 = h186.2.1 → h192 = jnew h186 (.inl (0, (N188, .inl (fun _ => 0)))) N188 → ∃ (n196 : Nat) (f197 : Nat → Int32), h192.1 q191 = some (.inl (0, (n196, .inl f197))) ∧ vp_in 0 n196 ∧ ∀ h200 : jH, h200 = jset h192 q191 (.inl (0, (n196, .inl (upd f197 ((0 : Int32)).toNatClampNeg ((-1)))))) → ∃ (n202 : Nat) (f203 : Nat → Int32), h200.1 q191 = some (.inl (0, (n202, .inl f203))) ∧ vp_in 1 n202 ∧ ∀ h206 : jH, h206 = jset h200 q191 (.inl (0, (n202, .inl (upd f203 ((1 : Int32)).toNatClampNeg ((-1)))))) → ∃ (n208 : Nat) (f209 : Nat → Int32), h206.1 q191 = some (.inl (0, (n208, .inl f209))) ∧ vp_in 2 n208 ∧ ∀ h212 : jH, h212 = jset h206 q191 (.inl (0, (n208, .inl (upd f209 ((2 : Int32)).toNatClampNeg ((-1)))))) → ∃ (n214 : Nat) (f215 : Nat → Int32), h212.1 q191 = some (.inl (0, (n214, .inl f215))) ∧ vp_in 3 n214 ∧ ∀ h218 : jH, h218 = jset h212 q191 (.inl (0, (n214, .inl (upd f215 ((3 : Int32)).toNatClampNeg ((-1)))))) → ∃ fs220 : List Value, h218.1 x0 = some (.inr (12, fs220)) ∧ 35 < fs220.length ∧ (∀ h223 : jH, h223 = jset h218 x0 (.inr (12, fs220.set 35 (.ref q191))) → ∃ N225 : Nat, (4 : Int32) = nI N225 ∧ N225 < 60000000 ∧ jroom g h223 1 N225 ∧ ∀ (q228 : Nat) (h229 : jH), q228 = h223.2.1 → h229 = jnew h223 (.inl (0, (N225, .inl (fun _ => 0)))) N225 → ∃ fs233 : List Value, h229.1 x0 = some (.inr (12, fs233)) ∧ 36 < fs233.length ∧ (∀ h236 : jH, h236 = jset h229 x0 (.inr (12, fs233.set 36 (.ref q228))) → ∃ N238 : Nat, (120 : Int32) = nI N238 ∧ N238 < 60000000 ∧ jroom g h236 1 N238 ∧ ∀ (q241 : Nat) (h242 : jH), q241 = h236.2.1 → h242 = jnew h236 (.inl (3, (N238, .inr (.inl (fun _ => 0))))) N238 → ∃ fs246 : List Value, h242.1 x0 = some (.inr (12, fs246)) ∧ 37 < fs246.length ∧ (∀ h249 : jH, h249 = jset h242 x0 (.inr (12, fs246.set 37 (.ref q241))) → ∃ fs251 : List Value, h249.1 x0 = some (.inr (12, fs251)) ∧ ∃ v254 : Nat, fs251[0]? = some (.ref v254) ∧ ∃ (n255 : Nat) (f256 : Nat → Int32), h249.1 v254 = some (.inl (0, (n255, .inl f256))) ∧ vp_in 3 n255 ∧ ∀ h259 : jH, h259 = jset h249 v254 (.inl (0, (n255, .inl (upd f256 ((3 : Int32)).toNatClampNeg 100)))) → P (.inl none) h259))))))))))))))))))) : J g mX12_init (d + 1) hs P 0 [(0, .ref x0)] [] h := by
  refine jr_aload_n 0 dX12_init_0 rfl rfl ?_
  refine jr_objInit jl_X12_1 dX12_init_1 (Nat.le_of_ble_eq_true rfl) ?_
  refine jr_aload_n 0 dX12_init_4 rfl rfl ?_
  refine jr_sipush (v := 3240) dX12_init_5 (by decide) ?_
  obtain ⟨N1, e2, e3, rm8, k⟩ := k
  refine jr_new_int e2 e3 rm8 dX12_init_8 (fun q4 h5 eq6 eh7 => ?_)
  have k := k q4 h5 eq6 eh7
  obtain ⟨fs9, e10, e11, k⟩ := k
  refine jr_putFE jp_X12_9 (fun C T N hc => by cases hc; rfl) rfl dX12_init_10 e10 e11 rfl rfl (fun h12 eh13 => ?_)
  have k := k h12 eh13
  refine jr_aload_n 0 dX12_init_13 rfl rfl ?_
  refine jr_sipush (v := 3240) dX12_init_14 (by decide) ?_
  obtain ⟨N14, e15, e16, rm21, k⟩ := k
  refine jr_new_int e15 e16 rm21 dX12_init_17 (fun q17 h18 eq19 eh20 => ?_)
  have k := k q17 h18 eq19 eh20
  obtain ⟨fs22, e23, e24, k⟩ := k
  refine jr_putFE jp_X12_13 (fun C T N hc => by cases hc; rfl) rfl dX12_init_19 e23 e24 rfl rfl (fun h25 eh26 => ?_)
  have k := k h25 eh26
  refine jr_aload_n 0 dX12_init_22 rfl rfl ?_
  refine jr_sipush (v := 9720) dX12_init_23 (by decide) ?_
  obtain ⟨N27, e28, e29, rm34, k⟩ := k
  refine jr_new_int e28 e29 rm34 dX12_init_26 (fun q30 h31 eq32 eh33 => ?_)
  have k := k q30 h31 eq32 eh33
  obtain ⟨fs35, e36, e37, k⟩ := k
  refine jr_putFE jp_X12_16 (fun C T N hc => by cases hc; rfl) rfl dX12_init_28 e36 e37 rfl rfl (fun h38 eh39 => ?_)
  have k := k h38 eh39
  refine jr_aload_n 0 dX12_init_31 rfl rfl ?_
  refine jr_iconst (v := 3) dX12_init_32 (by decide) ?_
  obtain ⟨N40, e41, e42, rm47, k⟩ := k
  refine jr_new_bool e41 e42 rm47 dX12_init_33 (fun q43 h44 eq45 eh46 => ?_)
  have k := k q43 h44 eq45 eh46
  obtain ⟨fs48, e49, e50, k⟩ := k
  refine jr_putFE jp_X12_19 (fun C T N hc => by cases hc; rfl) rfl dX12_init_35 e49 e50 rfl rfl (fun h51 eh52 => ?_)
  have k := k h51 eh52
  refine jr_aload_n 0 dX12_init_38 rfl rfl ?_
  refine jr_sipush (v := 900) dX12_init_39 (by decide) ?_
  obtain ⟨N53, e54, e55, rm60, k⟩ := k
  refine jr_new_int e54 e55 rm60 dX12_init_42 (fun q56 h57 eq58 eh59 => ?_)
  have k := k q56 h57 eq58 eh59
  obtain ⟨fs61, e62, e63, k⟩ := k
  refine jr_putFE jp_X12_23 (fun C T N hc => by cases hc; rfl) rfl dX12_init_44 e62 e63 rfl rfl (fun h64 eh65 => ?_)
  have k := k h64 eh65
  refine jr_aload_n 0 dX12_init_47 rfl rfl ?_
  refine jr_iconst (v := (-1)) dX12_init_48 (by decide) ?_
  obtain ⟨fs66, e67, e68, k⟩ := k
  refine jr_putE jp_X12_26 dX12_init_49 e67 e68 rfl rfl (fun h69 eh70 => ?_)
  have k := k h69 eh70
  refine jr_aload_n 0 dX12_init_52 rfl rfl ?_
  refine jr_bipush (v := 64) dX12_init_53 (by decide) ?_
  obtain ⟨N71, e72, e73, rm78, k⟩ := k
  refine jr_new_int e72 e73 rm78 dX12_init_55 (fun q74 h75 eq76 eh77 => ?_)
  have k := k q74 h75 eq76 eh77
  obtain ⟨fs79, e80, e81, k⟩ := k
  refine jr_putFE jp_X12_30 (fun C T N hc => by cases hc; rfl) rfl dX12_init_57 e80 e81 rfl rfl (fun h82 eh83 => ?_)
  have k := k h82 eh83
  refine jr_aload_n 0 dX12_init_60 rfl rfl ?_
  refine jr_bipush (v := 6) dX12_init_61 (by decide) ?_
  obtain ⟨N84, e85, e86, rm91, k⟩ := k
  refine jr_new_int e85 e86 rm91 dX12_init_63 (fun q87 h88 eq89 eh90 => ?_)
  have k := k q87 h88 eq89 eh90
  obtain ⟨fs92, e93, e94, k⟩ := k
  refine jr_putFE jp_X12_33 (fun C T N hc => by cases hc; rfl) rfl dX12_init_65 e93 e94 rfl rfl (fun h95 eh96 => ?_)
  have k := k h95 eh96
  refine jr_aload_n 0 dX12_init_68 rfl rfl ?_
  refine jr_bipush (v := 7) dX12_init_69 (by decide) ?_
  obtain ⟨N97, e98, e99, rm104, k⟩ := k
  refine jr_new_int e98 e99 rm104 dX12_init_71 (fun q100 h101 eq102 eh103 => ?_)
  have k := k q100 h101 eq102 eh103
  obtain ⟨fs105, e106, e107, k⟩ := k
  refine jr_putFE jp_X12_36 (fun C T N hc => by cases hc; rfl) rfl dX12_init_73 e106 e107 rfl rfl (fun h108 eh109 => ?_)
  have k := k h108 eh109
  refine jr_aload_n 0 dX12_init_76 rfl rfl ?_
  refine jr_bipush (v := 7) dX12_init_77 (by decide) ?_
  obtain ⟨N110, e111, e112, rm117, k⟩ := k
  refine jr_new_int e111 e112 rm117 dX12_init_79 (fun q113 h114 eq115 eh116 => ?_)
  have k := k q113 h114 eq115 eh116
  obtain ⟨fs118, e119, e120, k⟩ := k
  refine jr_putFE jp_X12_39 (fun C T N hc => by cases hc; rfl) rfl dX12_init_81 e119 e120 rfl rfl (fun h121 eh122 => ?_)
  have k := k h121 eh122
  refine jr_aload_n 0 dX12_init_84 rfl rfl ?_
  refine jr_bipush (v := 44) dX12_init_85 (by decide) ?_
  obtain ⟨N123, e124, e125, rm130, k⟩ := k
  refine jr_new_int e124 e125 rm130 dX12_init_87 (fun q126 h127 eq128 eh129 => ?_)
  have k := k q126 h127 eq128 eh129
  obtain ⟨fs131, e132, e133, k⟩ := k
  refine jr_putFE jp_X12_42 (fun C T N hc => by cases hc; rfl) rfl dX12_init_89 e132 e133 rfl rfl (fun h134 eh135 => ?_)
  have k := k h134 eh135
  refine jr_aload_n 0 dX12_init_92 rfl rfl ?_
  refine jr_bipush (v := 7) dX12_init_93 (by decide) ?_
  obtain ⟨N136, e137, e138, rm143, k⟩ := k
  refine jr_new_int e137 e138 rm143 dX12_init_95 (fun q139 h140 eq141 eh142 => ?_)
  have k := k q139 h140 eq141 eh142
  obtain ⟨fs144, e145, e146, k⟩ := k
  refine jr_putFE jp_X12_45 (fun C T N hc => by cases hc; rfl) rfl dX12_init_97 e145 e146 rfl rfl (fun h147 eh148 => ?_)
  have k := k h147 eh148
  refine jr_aload_n 0 dX12_init_100 rfl rfl ?_
  refine jr_bipush (v := 7) dX12_init_101 (by decide) ?_
  obtain ⟨N149, e150, e151, rm156, k⟩ := k
  refine jr_new_int e150 e151 rm156 dX12_init_103 (fun q152 h153 eq154 eh155 => ?_)
  have k := k q152 h153 eq154 eh155
  obtain ⟨fs157, e158, e159, k⟩ := k
  refine jr_putFE jp_X12_48 (fun C T N hc => by cases hc; rfl) rfl dX12_init_105 e158 e159 rfl rfl (fun h160 eh161 => ?_)
  have k := k h160 eh161
  refine jr_aload_n 0 dX12_init_108 rfl rfl ?_
  refine jr_sipush (v := 693) dX12_init_109 (by decide) ?_
  obtain ⟨N162, e163, e164, rm169, k⟩ := k
  refine jr_new_int e163 e164 rm169 dX12_init_112 (fun q165 h166 eq167 eh168 => ?_)
  have k := k q165 h166 eq167 eh168
  obtain ⟨fs170, e171, e172, k⟩ := k
  refine jr_putFE jp_X12_51 (fun C T N hc => by cases hc; rfl) rfl dX12_init_114 e171 e172 rfl rfl (fun h173 eh174 => ?_)
  have k := k h173 eh174
  refine jr_aload_n 0 dX12_init_117 rfl rfl ?_
  refine jr_sipush (v := 4851) dX12_init_118 (by decide) ?_
  obtain ⟨N175, e176, e177, rm182, k⟩ := k
  refine jr_new_int e176 e177 rm182 dX12_init_121 (fun q178 h179 eq180 eh181 => ?_)
  have k := k q178 h179 eq180 eh181
  obtain ⟨fs183, e184, e185, k⟩ := k
  refine jr_putFE jp_X12_54 (fun C T N hc => by cases hc; rfl) rfl dX12_init_123 e184 e185 rfl rfl (fun h186 eh187 => ?_)
  have k := k h186 eh187
  refine jr_aload_n 0 dX12_init_126 rfl rfl ?_
  refine jr_iconst (v := 4) dX12_init_127 (by decide) ?_
  obtain ⟨N188, e189, e190, rm195, k⟩ := k
  refine jr_new_int e189 e190 rm195 dX12_init_128 (fun q191 h192 eq193 eh194 => ?_)
  have k := k q191 h192 eq193 eh194
  refine jr_dup dX12_init_130 rfl ?_
  refine jr_iconst (v := 0) dX12_init_131 (by decide) ?_
  refine jr_iconst (v := (-1)) dX12_init_132 (by decide) ?_
  obtain ⟨n196, f197, e198, e199, k⟩ := k
  refine jr_iastE dX12_init_133 e198 e199 (fun h200 eh201 => ?_)
  have k := k h200 eh201
  refine jr_dup dX12_init_134 rfl ?_
  refine jr_iconst (v := 1) dX12_init_135 (by decide) ?_
  refine jr_iconst (v := (-1)) dX12_init_136 (by decide) ?_
  obtain ⟨n202, f203, e204, e205, k⟩ := k
  refine jr_iastE dX12_init_137 e204 e205 (fun h206 eh207 => ?_)
  have k := k h206 eh207
  refine jr_dup dX12_init_138 rfl ?_
  refine jr_iconst (v := 2) dX12_init_139 (by decide) ?_
  refine jr_iconst (v := (-1)) dX12_init_140 (by decide) ?_
  obtain ⟨n208, f209, e210, e211, k⟩ := k
  refine jr_iastE dX12_init_141 e210 e211 (fun h212 eh213 => ?_)
  have k := k h212 eh213
  refine jr_dup dX12_init_142 rfl ?_
  refine jr_iconst (v := 3) dX12_init_143 (by decide) ?_
  refine jr_iconst (v := (-1)) dX12_init_144 (by decide) ?_
  obtain ⟨n214, f215, e216, e217, k⟩ := k
  refine jr_iastE dX12_init_145 e216 e217 (fun h218 eh219 => ?_)
  have k := k h218 eh219
  obtain ⟨fs220, e221, e222, k⟩ := k
  refine jr_putFE jp_X12_57 (fun C T N hc => by cases hc; rfl) rfl dX12_init_146 e221 e222 rfl rfl (fun h223 eh224 => ?_)
  have k := k h223 eh224
  refine jr_aload_n 0 dX12_init_149 rfl rfl ?_
  refine jr_iconst (v := 4) dX12_init_150 (by decide) ?_
  obtain ⟨N225, e226, e227, rm232, k⟩ := k
  refine jr_new_int e226 e227 rm232 dX12_init_151 (fun q228 h229 eq230 eh231 => ?_)
  have k := k q228 h229 eq230 eh231
  obtain ⟨fs233, e234, e235, k⟩ := k
  refine jr_putFE jp_X12_60 (fun C T N hc => by cases hc; rfl) rfl dX12_init_153 e234 e235 rfl rfl (fun h236 eh237 => ?_)
  have k := k h236 eh237
  refine jr_aload_n 0 dX12_init_156 rfl rfl ?_
  refine jr_bipush (v := 120) dX12_init_157 (by decide) ?_
  obtain ⟨N238, e239, e240, rm245, k⟩ := k
  refine jr_new_long e239 e240 rm245 dX12_init_159 (fun q241 h242 eq243 eh244 => ?_)
  have k := k q241 h242 eq243 eh244
  obtain ⟨fs246, e247, e248, k⟩ := k
  refine jr_putFE jp_X12_63 (fun C T N hc => by cases hc; rfl) rfl dX12_init_161 e247 e248 rfl rfl (fun h249 eh250 => ?_)
  have k := k h249 eh250
  refine jr_aload_n 0 dX12_init_164 rfl rfl ?_
  obtain ⟨fs251, e252, v254, e253, k⟩ := k
  refine jr_get jf_X12_9 dX12_init_165 e252 e253 ?_
  refine jr_iconst (v := 3) dX12_init_168 (by decide) ?_
  refine jr_bipush (v := 100) dX12_init_169 (by decide) ?_
  obtain ⟨n255, f256, e257, e258, k⟩ := k
  refine jr_iastE dX12_init_171 e257 e258 (fun h259 eh260 => ?_)
  have k := k h259 eh260
  exact jr_vret rfl dX12_init_172 k
set_option maxRecDepth 20000 in
theorem bX12_thrown_0 {g : jG} {d : Nat} {hs : jH} {P : jO → jH → Prop} {x0 : Nat} {h : jH} (k : ∃ fs1 : List Value, h.1 x0 = some (.inr (12, fs1)) ∧ ∃ v4 : Int32, fs1[4]? = some (.int v4) ∧ P (.inl (some (.int v4))) h) : J g mX12_thrown (d + 1) hs P 0 [(0, .ref x0)] [] h := by
  refine jr_aload_n 0 dX12_thrown_0 rfl rfl ?_
  obtain ⟨fs1, e2, v4, e3, k⟩ := k
  refine jr_get jf_X12_67 dX12_thrown_1 e2 e3 ?_
  exact jr_iret (ty := .int) rfl rfl dX12_thrown_4 k
set_option maxRecDepth 20000 in
theorem bX12_fails_0 {g : jG} {d : Nat} {hs : jH} {P : jO → jH → Prop} {x0 : Nat} {x1 : Int32} {h : jH} (k : ∃ fs1 : List Value, h.1 x0 = some (.inr (12, fs1)) ∧ 4 < fs1.length ∧ (∀ h4 : jH, h4 = jset h x0 (.inr (12, fs1.set 4 (.int x1))) → P (.inl (some (.int 0))) h4)) : J g mX12_fails (d + 1) hs P 0 [(0, .ref x0), (1, .int x1)] [] h := by
  refine jr_aload_n 0 dX12_fails_0 rfl rfl ?_
  refine jr_iload_n 1 dX12_fails_1 rfl rfl ?_
  obtain ⟨fs1, e2, e3, k⟩ := k
  refine jr_putE jp_X12_67 dX12_fails_2 e2 e3 rfl rfl (fun h4 eh5 => ?_)
  have k := k h4 eh5
  refine jr_iconst (v := 0) dX12_fails_5 (by decide) ?_
  exact jr_iret (ty := .int) rfl rfl dX12_fails_6 k
set_option maxRecDepth 20000 in
theorem bX12_within_0 {g : jG} {d : Nat} {hs : jH} {P : jO → jH → Prop} {x0 : Int64} {x2 : Int64} {x4 : Int64} {h : jH} (k : (x0 < x2 → P (.inl (some (.int 0))) h) ∧ (¬ x0 < x2 → (x4 < x0 → P (.inl (some (.int 0))) h) ∧ (¬ x4 < x0 → P (.inl (some (.int 1))) h))) : J g mX12_within (d + 1) hs P 0 [(0, .long x0), (2, .long x2), (4, .long x4)] [] h := by
  refine jr_lload_n 0 dX12_within_0 rfl rfl ?_
  refine jr_lload_n 1 dX12_within_1 rfl rfl ?_
  refine jr_lcmp_lt (tgt := 17) dX12_within_2 dX12_within_3 (by decide) (fun c2 => ?_) (fun c2 => ?_)
  · have k := k.1 c2
    refine jr_iconst (v := 0) dX12_within_17 (by decide) ?_
    exact jr_iret (ty := .boolean) rfl rfl dX12_within_18 k
  · have k := k.2 c2
    refine jr_lload_n 0 dX12_within_6 rfl rfl ?_
    refine jr_lload 2 dX12_within_7 rfl ?_
    refine jr_lcmp_gt (tgt := 17) dX12_within_9 dX12_within_10 (by decide) (fun c9 => ?_) (fun c9 => ?_)
    · have k := k.1 c9
      refine jr_iconst (v := 0) dX12_within_17 (by decide) ?_
      exact jr_iret (ty := .boolean) rfl rfl dX12_within_18 k
    · have k := k.2 c9
      refine jr_iconst (v := 1) dX12_within_13 (by decide) ?_
      refine jr_goto (tgt := 18) dX12_within_14 (by decide) ?_
      exact jr_iret (ty := .boolean) rfl rfl dX12_within_18 k
set_option maxRecDepth 20000 in
theorem bX12_has_0 {g : jG} {d : Nat} {hs : jH} {P : jO → jH → Prop} {x0 : Int32} {x1 : Int32} {h : jH} (k : (((x0 >>> (x1 &&& 31)) &&& 1) = 1 → P (.inl (some (.int 1))) h) ∧ (¬ ((x0 >>> (x1 &&& 31)) &&& 1) = 1 → P (.inl (some (.int 0))) h)) : J g mX12_has (d + 1) hs P 0 [(0, .int x0), (1, .int x1)] [] h := by
  refine jr_iload_n 0 dX12_has_0 rfl rfl ?_
  refine jr_iload_n 1 dX12_has_1 rfl rfl ?_
  refine jr_ishr dX12_has_2 ?_
  refine jr_iconst (v := 1) dX12_has_3 (by decide) ?_
  refine jr_iand dX12_has_4 ?_
  refine jr_iconst (v := 1) dX12_has_5 (by decide) ?_
  refine jr_icmp_ne (tgt := 13) dX12_has_6 (by decide) (fun c6 => ?_) (fun c6 => ?_)
  · have k := k.2 c6
    refine jr_iconst (v := 0) dX12_has_13 (by decide) ?_
    exact jr_iret (ty := .boolean) rfl rfl dX12_has_14 k
  · have k := k.1 c6
    refine jr_iconst (v := 1) dX12_has_9 (by decide) ?_
    refine jr_goto (tgt := 14) dX12_has_10 (by decide) ?_
    exact jr_iret (ty := .boolean) rfl rfl dX12_has_14 k
set_option maxRecDepth 20000 in
theorem bX12_size_0 {g : jG} {d : Nat} {hs : jH} {P : jO → jH → Prop} {x0 : Int32} {h : jH} (k : J g mX12_size (d + 1) hs P 4 [(1, .int 0), (2, .int x0)] [] h) : J g mX12_size (d + 1) hs P 0 [(0, .int x0)] [] h := by
  refine jr_iconst (v := 0) dX12_size_0 (by decide) ?_
  refine jr_istore_n (lv' := [(1, .int 0), (0, .int x0)]) dX12_size_1 rfl (by decide) rfl ?_
  refine jr_iload_n 1 dX12_size_2 rfl rfl ?_
  refine jr_istore_n (lv' := [(2, .int x0), (1, .int 0), (0, .int x0)]) dX12_size_3 rfl (by decide) rfl ?_
  exact jr_sub [1, 0] rfl k
set_option maxRecDepth 20000 in
theorem bX12_size_4 {g : jG} {d : Nat} {hs : jH} {P : jO → jH → Prop} {x1 : Int32} {x2 : Int32} {h : jH} (k : (x2 = 0 → P (.inl (some (.int x1))) h) ∧ (¬ x2 = 0 → J g mX12_size (d + 1) hs P 4 [(1, .int (x1 + 1)), (2, .int (x2 &&& (x2 - 1)))] [] h)) : J g mX12_size (d + 1) hs P 4 [(1, .int x1), (2, .int x2)] [] h := by
  refine jr_iload_n 1 dX12_size_4 rfl rfl ?_
  refine jr_if_eq (tgt := 20) dX12_size_5 (by decide) (fun c5 => ?_) (fun c5 => ?_)
  · have k := k.1 c5
    refine jr_iload_n 0 dX12_size_20 rfl rfl ?_
    exact jr_iret (ty := .int) rfl rfl dX12_size_21 k
  · have k := k.2 c5
    refine jr_iinc (v := (x1 + 1)) (lv' := [(1, .int (x1 + 1)), (2, .int x2)]) 0 dX12_size_8 rfl rfl (by decide) rfl ?_
    refine jr_iload_n 1 dX12_size_11 rfl rfl ?_
    refine jr_iload_n 1 dX12_size_12 rfl rfl ?_
    refine jr_iconst (v := 1) dX12_size_13 (by decide) ?_
    refine jr_isub dX12_size_14 ?_
    refine jr_iand dX12_size_15 ?_
    refine jr_istore_n (lv' := [(2, .int (x2 &&& (x2 - 1))), (1, .int (x1 + 1))]) dX12_size_16 rfl (by decide) rfl ?_
    refine jr_goto (tgt := 4) dX12_size_17 (by decide) ?_
    exact jr_sub [1, 0] rfl k
set_option maxRecDepth 20000 in
theorem bX12_feed_0 {g : jG} {d : Nat} {hs : jH} {P : jO → jH → Prop} {x0 : Nat} {x1 : Int32} {x2 : Int32} {x3 : Int32} {x4 : Int32} {x5 : Int32} {h : jH} (k : ∃ fs1 : List Value, h.1 x0 = some (.inr (12, fs1)) ∧ 4 < fs1.length ∧ (∀ h4 : jH, h4 = jset h x0 (.inr (12, fs1.set 4 (.int 0))) → ∃ fs6 : List Value, h4.1 x0 = some (.inr (12, fs6)) ∧ ∃ v9 : Int32, fs6[6]? = some (.int v9) ∧ (900 < (v9 + 20) → P (.inl (some (.int ((-1))))) h4) ∧ (¬ 900 < (v9 + 20) → J g mX12_feed (d + 1) hs P 23 [(0, .ref x0), (1, .int x1), (2, .int x2), (3, .int x3), (4, .int x4), (5, .int x5), (6, .int 0)] [] h4))) : J g mX12_feed (d + 1) hs P 0 [(0, .ref x0), (1, .int x1), (2, .int x2), (3, .int x3), (4, .int x4), (5, .int x5)] [] h := by
  refine jr_aload_n 0 dX12_feed_0 rfl rfl ?_
  refine jr_iconst (v := 0) dX12_feed_1 (by decide) ?_
  obtain ⟨fs1, e2, e3, k⟩ := k
  refine jr_putE jp_X12_67 dX12_feed_2 e2 e3 rfl rfl (fun h4 eh5 => ?_)
  have k := k h4 eh5
  refine jr_aload_n 0 dX12_feed_5 rfl rfl ?_
  obtain ⟨fs6, e7, v9, e8, k⟩ := k
  refine jr_get jf_X12_70 dX12_feed_6 e7 e8 ?_
  refine jr_bipush (v := 20) dX12_feed_9 (by decide) ?_
  refine jr_iadd dX12_feed_11 ?_
  refine jr_sipush (v := 900) dX12_feed_12 (by decide) ?_
  refine jr_icmp_le (tgt := 20) dX12_feed_15 (by decide) (fun c15 => ?_) (fun c15 => ?_)
  · have k := k.2 c15
    refine jr_iconst (v := 0) dX12_feed_20 (by decide) ?_
    refine jr_istore (lv' := [(6, .int 0), (0, .ref x0), (1, .int x1), (2, .int x2), (3, .int x3), (4, .int x4), (5, .int x5)]) dX12_feed_21 (by decide) rfl ?_
    exact jr_sub [1, 2, 3, 4, 5, 6, 0] rfl k
  · have k := k.1 c15
    refine jr_iconst (v := (-1)) dX12_feed_18 (by decide) ?_
    exact jr_iret (ty := .int) rfl rfl dX12_feed_19 k
set_option maxRecDepth 20000 in
theorem bX12_feed_23 {g : jG} {d : Nat} {hs : jH} {P : jO → jH → Prop} {x0 : Nat} {x1 : Int32} {x2 : Int32} {x3 : Int32} {x4 : Int32} {x5 : Int32} {x6 : Int32} {h : jH} (k : (x6 < 20 → (x6 < 4 → J g mX12_feed (d + 1) hs P 76 [(0, .ref x0), (1, .int x1), (2, .int x2), (3, .int x3), (4, .int x4), (5, .int x5), (6, .int x6)] [.int x1] h) ∧ (¬ x6 < 4 → (x6 < 8 → J g mX12_feed (d + 1) hs P 76 [(0, .ref x0), (1, .int x1), (2, .int x2), (3, .int x3), (4, .int x4), (5, .int x5), (6, .int x6)] [.int x2] h) ∧ (¬ x6 < 8 → (x6 < 12 → J g mX12_feed (d + 1) hs P 76 [(0, .ref x0), (1, .int x1), (2, .int x2), (3, .int x3), (4, .int x4), (5, .int x5), (6, .int x6)] [.int x3] h) ∧ (¬ x6 < 12 → (x6 < 16 → J g mX12_feed (d + 1) hs P 76 [(0, .ref x0), (1, .int x1), (2, .int x2), (3, .int x3), (4, .int x4), (5, .int x5), (6, .int x6)] [.int x4] h) ∧ (¬ x6 < 16 → J g mX12_feed (d + 1) hs P 76 [(0, .ref x0), (1, .int x1), (2, .int x2), (3, .int x3), (4, .int x4), (5, .int x5), (6, .int x6)] [.int x5] h))))) ∧ (¬ x6 < 20 → ∃ fs1 : List Value, h.1 x0 = some (.inr (12, fs1)) ∧ ∃ v4 : Int32, fs1[6]? = some (.int v4) ∧ P (.inl (some (.int v4))) h)) : J g mX12_feed (d + 1) hs P 23 [(0, .ref x0), (1, .int x1), (2, .int x2), (3, .int x3), (4, .int x4), (5, .int x5), (6, .int x6)] [] h := by
  refine jr_iload 6 dX12_feed_23 rfl ?_
  refine jr_bipush (v := 20) dX12_feed_25 (by decide) ?_
  refine jr_icmp_ge (tgt := 120) dX12_feed_27 (by decide) (fun c27 => ?_) (fun c27 => ?_)
  · have k := k.2 c27
    refine jr_aload_n 0 dX12_feed_120 rfl rfl ?_
    obtain ⟨fs1, e2, v4, e3, k⟩ := k
    refine jr_get jf_X12_70 dX12_feed_121 e2 e3 ?_
    exact jr_iret (ty := .int) rfl rfl dX12_feed_124 k
  · have k := k.1 c27
    refine jr_iload 6 dX12_feed_30 rfl ?_
    refine jr_iconst (v := 4) dX12_feed_32 (by decide) ?_
    refine jr_icmp_ge (tgt := 40) dX12_feed_33 (by decide) (fun c33 => ?_) (fun c33 => ?_)
    · have k := k.2 c33
      refine jr_iload 6 dX12_feed_40 rfl ?_
      refine jr_bipush (v := 8) dX12_feed_42 (by decide) ?_
      refine jr_icmp_ge (tgt := 51) dX12_feed_44 (by decide) (fun c44 => ?_) (fun c44 => ?_)
      · have k := k.2 c44
        refine jr_iload 6 dX12_feed_51 rfl ?_
        refine jr_bipush (v := 12) dX12_feed_53 (by decide) ?_
        refine jr_icmp_ge (tgt := 62) dX12_feed_55 (by decide) (fun c55 => ?_) (fun c55 => ?_)
        · have k := k.2 c55
          refine jr_iload 6 dX12_feed_62 rfl ?_
          refine jr_bipush (v := 16) dX12_feed_64 (by decide) ?_
          refine jr_icmp_ge (tgt := 74) dX12_feed_66 (by decide) (fun c66 => ?_) (fun c66 => ?_)
          · have k := k.2 c66
            refine jr_iload 5 dX12_feed_74 rfl ?_
            exact jr_sub [0, 1, 2, 3, 4, 5, 6] rfl k
          · have k := k.1 c66
            refine jr_iload 4 dX12_feed_69 rfl ?_
            refine jr_goto (tgt := 76) dX12_feed_71 (by decide) ?_
            exact jr_sub [0, 1, 2, 3, 4, 5, 6] rfl k
        · have k := k.1 c55
          refine jr_iload_n 3 dX12_feed_58 rfl rfl ?_
          refine jr_goto (tgt := 76) dX12_feed_59 (by decide) ?_
          exact jr_sub [0, 1, 2, 3, 4, 5, 6] rfl k
      · have k := k.1 c44
        refine jr_iload_n 2 dX12_feed_47 rfl rfl ?_
        refine jr_goto (tgt := 76) dX12_feed_48 (by decide) ?_
        exact jr_sub [0, 1, 2, 3, 4, 5, 6] rfl k
    · have k := k.1 c33
      refine jr_iload_n 1 dX12_feed_36 rfl rfl ?_
      refine jr_goto (tgt := 76) dX12_feed_37 (by decide) ?_
      exact jr_sub [0, 1, 2, 3, 4, 5, 6] rfl k
set_option maxRecDepth 20000 in
theorem bX12_feed_76 {g : jG} {d : Nat} {hs : jH} {P : jO → jH → Prop} {x0 : Nat} {x1 : Int32} {x2 : Int32} {x3 : Int32} {x4 : Int32} {x5 : Int32} {x6 : Int32} {s0 : Int32} {h : jH} (k : ∃ fs1 : List Value, h.1 x0 = some (.inr (12, fs1)) ∧ ∃ v4 : Nat, fs1[5]? = some (.ref v4) ∧ ∃ fs5 : List Value, h.1 x0 = some (.inr (12, fs5)) ∧ ∃ v8 : Int32, fs5[6]? = some (.int v8) ∧ ∃ (n9 : Nat) (f10 : Nat → Int32), h.1 v4 = some (.inl (0, (n9, .inl f10))) ∧ vp_in v8 n9 ∧ ∀ h13 : jH, h13 = jset h v4 (.inl (0, (n9, .inl (upd f10 v8.toNatClampNeg ((((s0).toUInt32 >>> (((24 - (8 * (x6 &&& 3))) : Int32).toUInt32 &&& Int32.toUInt32 31)).toInt32 &&& 255)))))) → ∃ fs15 : List Value, h13.1 x0 = some (.inr (12, fs15)) ∧ ∃ v18 : Int32, fs15[6]? = some (.int v18) ∧ ∃ fs19 : List Value, h13.1 x0 = some (.inr (12, fs19)) ∧ 6 < fs19.length ∧ (∀ h22 : jH, h22 = jset h13 x0 (.inr (12, fs19.set 6 (.int (v18 + 1)))) → J g mX12_feed (d + 1) hs P 23 [(0, .ref x0), (1, .int x1), (2, .int x2), (3, .int x3), (4, .int x4), (5, .int x5), (6, .int (x6 + 1))] [] h22)) : J g mX12_feed (d + 1) hs P 76 [(0, .ref x0), (1, .int x1), (2, .int x2), (3, .int x3), (4, .int x4), (5, .int x5), (6, .int x6)] [.int s0] h := by
  refine jr_istore (lv' := [(7, .int s0), (0, .ref x0), (1, .int x1), (2, .int x2), (3, .int x3), (4, .int x4), (5, .int x5), (6, .int x6)]) dX12_feed_76 (by decide) rfl ?_
  refine jr_aload_n 1 dX12_feed_78 rfl rfl ?_
  obtain ⟨fs1, e2, v4, e3, k⟩ := k
  refine jr_get jf_X12_23 dX12_feed_79 e2 e3 ?_
  refine jr_aload_n 1 dX12_feed_82 rfl rfl ?_
  obtain ⟨fs5, e6, v8, e7, k⟩ := k
  refine jr_get jf_X12_70 dX12_feed_83 e6 e7 ?_
  refine jr_iload 0 dX12_feed_86 rfl ?_
  refine jr_bipush (v := 24) dX12_feed_88 (by decide) ?_
  refine jr_bipush (v := 8) dX12_feed_90 (by decide) ?_
  refine jr_iload 7 dX12_feed_92 rfl ?_
  refine jr_iconst (v := 3) dX12_feed_94 (by decide) ?_
  refine jr_iand dX12_feed_95 ?_
  refine jr_imul dX12_feed_96 ?_
  refine jr_isub dX12_feed_97 ?_
  refine jr_iushr dX12_feed_98 ?_
  refine jr_sipush (v := 255) dX12_feed_99 (by decide) ?_
  refine jr_iand dX12_feed_102 ?_
  obtain ⟨n9, f10, e11, e12, k⟩ := k
  refine jr_iastE dX12_feed_103 e11 e12 (fun h13 eh14 => ?_)
  have k := k h13 eh14
  refine jr_aload_n 1 dX12_feed_104 rfl rfl ?_
  refine jr_dup dX12_feed_105 rfl ?_
  obtain ⟨fs15, e16, v18, e17, k⟩ := k
  refine jr_get jf_X12_70 dX12_feed_106 e16 e17 ?_
  refine jr_iconst (v := 1) dX12_feed_109 (by decide) ?_
  refine jr_iadd dX12_feed_110 ?_
  obtain ⟨fs19, e20, e21, k⟩ := k
  refine jr_putE jp_X12_70 dX12_feed_111 e20 e21 rfl rfl (fun h22 eh23 => ?_)
  have k := k h22 eh23
  refine jr_iinc (v := (x6 + 1)) (lv' := [(6, .int (x6 + 1)), (7, .int s0), (0, .ref x0), (1, .int x1), (2, .int x2), (3, .int x3), (4, .int x4), (5, .int x5)]) 7 dX12_feed_114 rfl rfl (by decide) rfl ?_
  refine jr_goto (tgt := 23) dX12_feed_117 (by decide) ?_
  exact jr_sub [2, 3, 4, 5, 6, 7, 0] rfl k
set_option maxRecDepth 20000 in
theorem bX12_see_0 {g : jG} {d : Nat} {hs : jH} {P : jO → jH → Prop} {x0 : Nat} {x1 : Int32} {h : jH} (k : ∃ fs1 : List Value, h.1 x0 = some (.inr (12, fs1)) ∧ ∃ v4 : Int32, fs1[7]? = some (.int v4) ∧ (x1 < v4 → ∃ fs5 : List Value, h.1 x0 = some (.inr (12, fs5)) ∧ ∃ v8 : Nat, fs5[5]? = some (.ref v8) ∧ ∃ (n9 : Nat) (f10 : Nat → Int32), h.1 v8 = some (.inl (0, (n9, .inl f10))) ∧ vp_in x1 n9 ∧ P (.inl (some (.int ((f10 x1.toNatClampNeg))))) h) ∧ (¬ x1 < v4 → P (.inl (some (.int 0))) h)) : J g mX12_see (d + 1) hs P 0 [(0, .ref x0), (1, .int x1)] [] h := by
  refine jr_iload_n 1 dX12_see_0 rfl rfl ?_
  refine jr_aload_n 0 dX12_see_1 rfl rfl ?_
  obtain ⟨fs1, e2, v4, e3, k⟩ := k
  refine jr_get jf_X12_73 dX12_see_2 e2 e3 ?_
  refine jr_icmp_ge (tgt := 17) dX12_see_5 (by decide) (fun c5 => ?_) (fun c5 => ?_)
  · have k := k.2 c5
    refine jr_iconst (v := 0) dX12_see_17 (by decide) ?_
    exact jr_iret (ty := .int) rfl rfl dX12_see_18 k
  · have k := k.1 c5
    refine jr_aload_n 0 dX12_see_8 rfl rfl ?_
    obtain ⟨fs5, e6, v8, e7, k⟩ := k
    refine jr_get jf_X12_23 dX12_see_9 e6 e7 ?_
    refine jr_iload_n 1 dX12_see_12 rfl rfl ?_
    obtain ⟨n9, f10, e11, e12, k⟩ := k
    refine jr_iald dX12_see_13 e11 e12 ?_
    refine jr_goto (tgt := 18) dX12_see_14 (by decide) ?_
    exact jr_iret (ty := .int) rfl rfl dX12_see_18 k
set_option maxRecDepth 20000 in
theorem bX12_isLetter_0 {g : jG} {d : Nat} {hs : jH} {P : jO → jH → Prop} {x0 : Int32} {h : jH} (k : (x0 < 97 → P (.inl (some (.int 0))) h) ∧ (¬ x0 < 97 → (122 < x0 → P (.inl (some (.int 0))) h) ∧ (¬ 122 < x0 → P (.inl (some (.int 1))) h))) : J g mX12_isLetter (d + 1) hs P 0 [(0, .int x0)] [] h := by
  refine jr_iload_n 0 dX12_isLetter_0 rfl rfl ?_
  refine jr_bipush (v := 97) dX12_isLetter_1 (by decide) ?_
  refine jr_icmp_lt (tgt := 16) dX12_isLetter_3 (by decide) (fun c3 => ?_) (fun c3 => ?_)
  · have k := k.1 c3
    refine jr_iconst (v := 0) dX12_isLetter_16 (by decide) ?_
    exact jr_iret (ty := .boolean) rfl rfl dX12_isLetter_17 k
  · have k := k.2 c3
    refine jr_iload_n 0 dX12_isLetter_6 rfl rfl ?_
    refine jr_bipush (v := 122) dX12_isLetter_7 (by decide) ?_
    refine jr_icmp_gt (tgt := 16) dX12_isLetter_9 (by decide) (fun c9 => ?_) (fun c9 => ?_)
    · have k := k.1 c9
      refine jr_iconst (v := 0) dX12_isLetter_16 (by decide) ?_
      exact jr_iret (ty := .boolean) rfl rfl dX12_isLetter_17 k
    · have k := k.2 c9
      refine jr_iconst (v := 1) dX12_isLetter_12 (by decide) ?_
      refine jr_goto (tgt := 17) dX12_isLetter_13 (by decide) ?_
      exact jr_iret (ty := .boolean) rfl rfl dX12_isLetter_17 k
set_option maxRecDepth 20000 in
theorem bX12_isDigit_0 {g : jG} {d : Nat} {hs : jH} {P : jO → jH → Prop} {x0 : Int32} {h : jH} (k : (x0 < 48 → P (.inl (some (.int 0))) h) ∧ (¬ x0 < 48 → (57 < x0 → P (.inl (some (.int 0))) h) ∧ (¬ 57 < x0 → P (.inl (some (.int 1))) h))) : J g mX12_isDigit (d + 1) hs P 0 [(0, .int x0)] [] h := by
  refine jr_iload_n 0 dX12_isDigit_0 rfl rfl ?_
  refine jr_bipush (v := 48) dX12_isDigit_1 (by decide) ?_
  refine jr_icmp_lt (tgt := 16) dX12_isDigit_3 (by decide) (fun c3 => ?_) (fun c3 => ?_)
  · have k := k.1 c3
    refine jr_iconst (v := 0) dX12_isDigit_16 (by decide) ?_
    exact jr_iret (ty := .boolean) rfl rfl dX12_isDigit_17 k
  · have k := k.2 c3
    refine jr_iload_n 0 dX12_isDigit_6 rfl rfl ?_
    refine jr_bipush (v := 57) dX12_isDigit_7 (by decide) ?_
    refine jr_icmp_gt (tgt := 16) dX12_isDigit_9 (by decide) (fun c9 => ?_) (fun c9 => ?_)
    · have k := k.1 c9
      refine jr_iconst (v := 0) dX12_isDigit_16 (by decide) ?_
      exact jr_iret (ty := .boolean) rfl rfl dX12_isDigit_17 k
    · have k := k.2 c9
      refine jr_iconst (v := 1) dX12_isDigit_12 (by decide) ?_
      refine jr_goto (tgt := 17) dX12_isDigit_13 (by decide) ?_
      exact jr_iret (ty := .boolean) rfl rfl dX12_isDigit_17 k
set_option maxRecDepth 20000 in
theorem bX12_isSignByte_0 {g : jG} {d : Nat} {hs : jH} {P : jO → jH → Prop} {x0 : Int32} {h : jH} (k : (x0 = 91 → J g mX12_isSignByte (d + 1) hs P 36 [(0, .int x0)] [] h) ∧ (¬ x0 = 91 → (x0 = 93 → J g mX12_isSignByte (d + 1) hs P 36 [(0, .int x0)] [] h) ∧ (¬ x0 = 93 → (x0 = 61 → J g mX12_isSignByte (d + 1) hs P 36 [(0, .int x0)] [] h) ∧ (¬ x0 = 61 → (x0 = 60 → J g mX12_isSignByte (d + 1) hs P 36 [(0, .int x0)] [] h) ∧ (¬ x0 = 60 → (x0 = 62 → J g mX12_isSignByte (d + 1) hs P 36 [(0, .int x0)] [] h) ∧ (¬ x0 = 62 → (x0 = 58 → J g mX12_isSignByte (d + 1) hs P 36 [(0, .int x0)] [] h) ∧ (¬ x0 = 58 → J g mX12_isSignByte (d + 1) hs P 41 [(0, .int x0)] [.int 0] h))))))) : J g mX12_isSignByte (d + 1) hs P 0 [(0, .int x0)] [] h := by
  refine jr_iload_n 0 dX12_isSignByte_0 rfl rfl ?_
  refine jr_bipush (v := 91) dX12_isSignByte_1 (by decide) ?_
  refine jr_icmp_eq (tgt := 36) dX12_isSignByte_3 (by decide) (fun c3 => ?_) (fun c3 => ?_)
  · have k := k.1 c3
    exact jr_sub [0] rfl k
  · have k := k.2 c3
    refine jr_iload_n 0 dX12_isSignByte_6 rfl rfl ?_
    refine jr_bipush (v := 93) dX12_isSignByte_7 (by decide) ?_
    refine jr_icmp_eq (tgt := 36) dX12_isSignByte_9 (by decide) (fun c9 => ?_) (fun c9 => ?_)
    · have k := k.1 c9
      exact jr_sub [0] rfl k
    · have k := k.2 c9
      refine jr_iload_n 0 dX12_isSignByte_12 rfl rfl ?_
      refine jr_bipush (v := 61) dX12_isSignByte_13 (by decide) ?_
      refine jr_icmp_eq (tgt := 36) dX12_isSignByte_15 (by decide) (fun c15 => ?_) (fun c15 => ?_)
      · have k := k.1 c15
        exact jr_sub [0] rfl k
      · have k := k.2 c15
        refine jr_iload_n 0 dX12_isSignByte_18 rfl rfl ?_
        refine jr_bipush (v := 60) dX12_isSignByte_19 (by decide) ?_
        refine jr_icmp_eq (tgt := 36) dX12_isSignByte_21 (by decide) (fun c21 => ?_) (fun c21 => ?_)
        · have k := k.1 c21
          exact jr_sub [0] rfl k
        · have k := k.2 c21
          refine jr_iload_n 0 dX12_isSignByte_24 rfl rfl ?_
          refine jr_bipush (v := 62) dX12_isSignByte_25 (by decide) ?_
          refine jr_icmp_eq (tgt := 36) dX12_isSignByte_27 (by decide) (fun c27 => ?_) (fun c27 => ?_)
          · have k := k.1 c27
            exact jr_sub [0] rfl k
          · have k := k.2 c27
            refine jr_iload_n 0 dX12_isSignByte_30 rfl rfl ?_
            refine jr_bipush (v := 58) dX12_isSignByte_31 (by decide) ?_
            refine jr_icmp_ne (tgt := 40) dX12_isSignByte_33 (by decide) (fun c33 => ?_) (fun c33 => ?_)
            · have k := k.2 c33
              refine jr_iconst (v := 0) dX12_isSignByte_40 (by decide) ?_
              exact jr_sub [0] rfl k
            · have k := k.1 c33
              exact jr_sub [0] rfl k
set_option maxRecDepth 20000 in
theorem bX12_isSignByte_36 {g : jG} {d : Nat} {hs : jH} {P : jO → jH → Prop} {x0 : Int32} {h : jH} (k : J g mX12_isSignByte (d + 1) hs P 41 [(0, .int x0)] [.int 1] h) : J g mX12_isSignByte (d + 1) hs P 36 [(0, .int x0)] [] h := by
  refine jr_iconst (v := 1) dX12_isSignByte_36 (by decide) ?_
  refine jr_goto (tgt := 41) dX12_isSignByte_37 (by decide) ?_
  exact jr_sub [0] rfl k
set_option maxRecDepth 20000 in
theorem bX12_isSignByte_41 {g : jG} {d : Nat} {hs : jH} {P : jO → jH → Prop} {x0 : Int32} {s0 : Int32} {h : jH} (k : (s0 = 0 → (x0 = 59 → P (.inl (some (.int 1))) h) ∧ (¬ x0 = 59 → (x0 = 43 → P (.inl (some (.int 1))) h) ∧ (¬ x0 = 43 → (x0 = 45 → P (.inl (some (.int 1))) h) ∧ (¬ x0 = 45 → (x0 = 42 → P (.inl (some (.int 1))) h) ∧ (¬ x0 = 42 → (x0 = 40 → P (.inl (some (.int 1))) h) ∧ (¬ x0 = 40 → (x0 = 41 → P (.inl (some (.int 1))) h) ∧ (¬ x0 = 41 → P (.inl (some (.int 0))) h))))))) ∧ (¬ s0 = 0 → P (.inl (some (.int 1))) h)) : J g mX12_isSignByte (d + 1) hs P 41 [(0, .int x0)] [.int s0] h := by
  refine jr_istore_n (lv' := [(1, .int s0), (0, .int x0)]) dX12_isSignByte_41 rfl (by decide) rfl ?_
  refine jr_iload_n 0 dX12_isSignByte_42 rfl rfl ?_
  refine jr_if_ne (tgt := 82) dX12_isSignByte_43 (by decide) (fun c43 => ?_) (fun c43 => ?_)
  · have k := k.2 c43
    refine jr_iconst (v := 1) dX12_isSignByte_82 (by decide) ?_
    refine jr_goto (tgt := 87) dX12_isSignByte_83 (by decide) ?_
    exact jr_iret (ty := .boolean) rfl rfl dX12_isSignByte_87 k
  · have k := k.1 c43
    refine jr_iload_n 1 dX12_isSignByte_46 rfl rfl ?_
    refine jr_bipush (v := 59) dX12_isSignByte_47 (by decide) ?_
    refine jr_icmp_eq (tgt := 82) dX12_isSignByte_49 (by decide) (fun c49 => ?_) (fun c49 => ?_)
    · have k := k.1 c49
      refine jr_iconst (v := 1) dX12_isSignByte_82 (by decide) ?_
      refine jr_goto (tgt := 87) dX12_isSignByte_83 (by decide) ?_
      exact jr_iret (ty := .boolean) rfl rfl dX12_isSignByte_87 k
    · have k := k.2 c49
      refine jr_iload_n 1 dX12_isSignByte_52 rfl rfl ?_
      refine jr_bipush (v := 43) dX12_isSignByte_53 (by decide) ?_
      refine jr_icmp_eq (tgt := 82) dX12_isSignByte_55 (by decide) (fun c55 => ?_) (fun c55 => ?_)
      · have k := k.1 c55
        refine jr_iconst (v := 1) dX12_isSignByte_82 (by decide) ?_
        refine jr_goto (tgt := 87) dX12_isSignByte_83 (by decide) ?_
        exact jr_iret (ty := .boolean) rfl rfl dX12_isSignByte_87 k
      · have k := k.2 c55
        refine jr_iload_n 1 dX12_isSignByte_58 rfl rfl ?_
        refine jr_bipush (v := 45) dX12_isSignByte_59 (by decide) ?_
        refine jr_icmp_eq (tgt := 82) dX12_isSignByte_61 (by decide) (fun c61 => ?_) (fun c61 => ?_)
        · have k := k.1 c61
          refine jr_iconst (v := 1) dX12_isSignByte_82 (by decide) ?_
          refine jr_goto (tgt := 87) dX12_isSignByte_83 (by decide) ?_
          exact jr_iret (ty := .boolean) rfl rfl dX12_isSignByte_87 k
        · have k := k.2 c61
          refine jr_iload_n 1 dX12_isSignByte_64 rfl rfl ?_
          refine jr_bipush (v := 42) dX12_isSignByte_65 (by decide) ?_
          refine jr_icmp_eq (tgt := 82) dX12_isSignByte_67 (by decide) (fun c67 => ?_) (fun c67 => ?_)
          · have k := k.1 c67
            refine jr_iconst (v := 1) dX12_isSignByte_82 (by decide) ?_
            refine jr_goto (tgt := 87) dX12_isSignByte_83 (by decide) ?_
            exact jr_iret (ty := .boolean) rfl rfl dX12_isSignByte_87 k
          · have k := k.2 c67
            refine jr_iload_n 1 dX12_isSignByte_70 rfl rfl ?_
            refine jr_bipush (v := 40) dX12_isSignByte_71 (by decide) ?_
            refine jr_icmp_eq (tgt := 82) dX12_isSignByte_73 (by decide) (fun c73 => ?_) (fun c73 => ?_)
            · have k := k.1 c73
              refine jr_iconst (v := 1) dX12_isSignByte_82 (by decide) ?_
              refine jr_goto (tgt := 87) dX12_isSignByte_83 (by decide) ?_
              exact jr_iret (ty := .boolean) rfl rfl dX12_isSignByte_87 k
            · have k := k.2 c73
              refine jr_iload_n 1 dX12_isSignByte_76 rfl rfl ?_
              refine jr_bipush (v := 41) dX12_isSignByte_77 (by decide) ?_
              refine jr_icmp_ne (tgt := 86) dX12_isSignByte_79 (by decide) (fun c79 => ?_) (fun c79 => ?_)
              · have k := k.2 c79
                refine jr_iconst (v := 0) dX12_isSignByte_86 (by decide) ?_
                exact jr_iret (ty := .boolean) rfl rfl dX12_isSignByte_87 k
              · have k := k.1 c79
                refine jr_iconst (v := 1) dX12_isSignByte_82 (by decide) ?_
                refine jr_goto (tgt := 87) dX12_isSignByte_83 (by decide) ?_
                exact jr_iret (ty := .boolean) rfl rfl dX12_isSignByte_87 k
set_option maxRecDepth 20000 in
theorem bX12_readsOn_0 {g : jG} {d : Nat} {hs : jH} {P : jO → jH → Prop} {x0 : Nat} {h : jH} (k : ∃ fs1 : List Value, h.1 x0 = some (.inr (12, fs1)) ∧ ∃ v4 : Int32, fs1[8]? = some (.int v4) ∧ ∃ fs5 : List Value, h.1 x0 = some (.inr (12, fs5)) ∧ ∃ v8 : Int32, fs5[7]? = some (.int v8) ∧ (v4 < v8 → ∃ fs9 : List Value, h.1 x0 = some (.inr (12, fs9)) ∧ ∃ v12 : Nat, fs9[5]? = some (.ref v12) ∧ ∃ fs13 : List Value, h.1 x0 = some (.inr (12, fs13)) ∧ ∃ v16 : Int32, fs13[8]? = some (.int v16) ∧ ∃ (n17 : Nat) (f18 : Nat → Int32), h.1 v12 = some (.inl (0, (n17, .inl f18))) ∧ vp_in v16 n17 ∧ ((f18 v16.toNatClampNeg) = 32 → J g mX12_readsOn (d + 1) hs P 39 [(0, .ref x0)] [] h) ∧ (¬ (f18 v16.toNatClampNeg) = 32 → ∃ fs21 : List Value, h.1 x0 = some (.inr (12, fs21)) ∧ ∃ v24 : Nat, fs21[5]? = some (.ref v24) ∧ ∃ fs25 : List Value, h.1 x0 = some (.inr (12, fs25)) ∧ ∃ v28 : Int32, fs25[8]? = some (.int v28) ∧ ∃ (n29 : Nat) (f30 : Nat → Int32), h.1 v24 = some (.inl (0, (n29, .inl f30))) ∧ vp_in v28 n29 ∧ ((f30 v28.toNatClampNeg) = 10 → J g mX12_readsOn (d + 1) hs P 39 [(0, .ref x0)] [] h) ∧ (¬ (f30 v28.toNatClampNeg) = 10 → J g mX12_readsOn (d + 1) hs P 52 [(0, .ref x0)] [] h))) ∧ (¬ v4 < v8 → J g mX12_readsOn (d + 1) hs P 52 [(0, .ref x0)] [] h)) : J g mX12_readsOn (d + 1) hs P 0 [(0, .ref x0)] [] h := by
  refine jr_aload_n 0 dX12_readsOn_0 rfl rfl ?_
  obtain ⟨fs1, e2, v4, e3, k⟩ := k
  refine jr_get jf_X12_76 dX12_readsOn_1 e2 e3 ?_
  refine jr_aload_n 0 dX12_readsOn_4 rfl rfl ?_
  obtain ⟨fs5, e6, v8, e7, k⟩ := k
  refine jr_get jf_X12_73 dX12_readsOn_5 e6 e7 ?_
  refine jr_icmp_ge (tgt := 52) dX12_readsOn_8 (by decide) (fun c8 => ?_) (fun c8 => ?_)
  · have k := k.2 c8
    exact jr_sub [0] rfl k
  · have k := k.1 c8
    refine jr_aload_n 0 dX12_readsOn_11 rfl rfl ?_
    obtain ⟨fs9, e10, v12, e11, k⟩ := k
    refine jr_get jf_X12_23 dX12_readsOn_12 e10 e11 ?_
    refine jr_aload_n 0 dX12_readsOn_15 rfl rfl ?_
    obtain ⟨fs13, e14, v16, e15, k⟩ := k
    refine jr_get jf_X12_76 dX12_readsOn_16 e14 e15 ?_
    obtain ⟨n17, f18, e19, e20, k⟩ := k
    refine jr_iald dX12_readsOn_19 e19 e20 ?_
    refine jr_bipush (v := 32) dX12_readsOn_20 (by decide) ?_
    refine jr_icmp_eq (tgt := 39) dX12_readsOn_22 (by decide) (fun c22 => ?_) (fun c22 => ?_)
    · have k := k.1 c22
      exact jr_sub [0] rfl k
    · have k := k.2 c22
      refine jr_aload_n 0 dX12_readsOn_25 rfl rfl ?_
      obtain ⟨fs21, e22, v24, e23, k⟩ := k
      refine jr_get jf_X12_23 dX12_readsOn_26 e22 e23 ?_
      refine jr_aload_n 0 dX12_readsOn_29 rfl rfl ?_
      obtain ⟨fs25, e26, v28, e27, k⟩ := k
      refine jr_get jf_X12_76 dX12_readsOn_30 e26 e27 ?_
      obtain ⟨n29, f30, e31, e32, k⟩ := k
      refine jr_iald dX12_readsOn_33 e31 e32 ?_
      refine jr_bipush (v := 10) dX12_readsOn_34 (by decide) ?_
      refine jr_icmp_ne (tgt := 52) dX12_readsOn_36 (by decide) (fun c36 => ?_) (fun c36 => ?_)
      · have k := k.2 c36
        exact jr_sub [0] rfl k
      · have k := k.1 c36
        exact jr_sub [0] rfl k
set_option maxRecDepth 20000 in
theorem bX12_readsOn_39 {g : jG} {d : Nat} {hs : jH} {P : jO → jH → Prop} {x0 : Nat} {h : jH} (k : ∃ fs1 : List Value, h.1 x0 = some (.inr (12, fs1)) ∧ ∃ v4 : Int32, fs1[8]? = some (.int v4) ∧ ∃ fs5 : List Value, h.1 x0 = some (.inr (12, fs5)) ∧ 8 < fs5.length ∧ (∀ h8 : jH, h8 = jset h x0 (.inr (12, fs5.set 8 (.int (v4 + 1)))) → ∃ fs10 : List Value, h8.1 x0 = some (.inr (12, fs10)) ∧ ∃ v13 : Int32, fs10[8]? = some (.int v13) ∧ ∃ fs14 : List Value, h8.1 x0 = some (.inr (12, fs14)) ∧ ∃ v17 : Int32, fs14[7]? = some (.int v17) ∧ (v13 < v17 → ∃ fs18 : List Value, h8.1 x0 = some (.inr (12, fs18)) ∧ ∃ v21 : Nat, fs18[5]? = some (.ref v21) ∧ ∃ fs22 : List Value, h8.1 x0 = some (.inr (12, fs22)) ∧ ∃ v25 : Int32, fs22[8]? = some (.int v25) ∧ ∃ (n26 : Nat) (f27 : Nat → Int32), h8.1 v21 = some (.inl (0, (n26, .inl f27))) ∧ vp_in v25 n26 ∧ ((f27 v25.toNatClampNeg) = 32 → J g mX12_readsOn (d + 1) hs P 39 [(0, .ref x0)] [] h8) ∧ (¬ (f27 v25.toNatClampNeg) = 32 → ∃ fs30 : List Value, h8.1 x0 = some (.inr (12, fs30)) ∧ ∃ v33 : Nat, fs30[5]? = some (.ref v33) ∧ ∃ fs34 : List Value, h8.1 x0 = some (.inr (12, fs34)) ∧ ∃ v37 : Int32, fs34[8]? = some (.int v37) ∧ ∃ (n38 : Nat) (f39 : Nat → Int32), h8.1 v33 = some (.inl (0, (n38, .inl f39))) ∧ vp_in v37 n38 ∧ ((f39 v37.toNatClampNeg) = 10 → J g mX12_readsOn (d + 1) hs P 39 [(0, .ref x0)] [] h8) ∧ (¬ (f39 v37.toNatClampNeg) = 10 → J g mX12_readsOn (d + 1) hs P 52 [(0, .ref x0)] [] h8))) ∧ (¬ v13 < v17 → J g mX12_readsOn (d + 1) hs P 52 [(0, .ref x0)] [] h8))) : J g mX12_readsOn (d + 1) hs P 39 [(0, .ref x0)] [] h := by
  refine jr_aload_n 0 dX12_readsOn_39 rfl rfl ?_
  refine jr_dup dX12_readsOn_40 rfl ?_
  obtain ⟨fs1, e2, v4, e3, k⟩ := k
  refine jr_get jf_X12_76 dX12_readsOn_41 e2 e3 ?_
  refine jr_iconst (v := 1) dX12_readsOn_44 (by decide) ?_
  refine jr_iadd dX12_readsOn_45 ?_
  obtain ⟨fs5, e6, e7, k⟩ := k
  refine jr_putE jp_X12_76 dX12_readsOn_46 e6 e7 rfl rfl (fun h8 eh9 => ?_)
  have k := k h8 eh9
  refine jr_goto (tgt := 0) dX12_readsOn_49 (by decide) ?_
  refine jr_aload_n 0 dX12_readsOn_0 rfl rfl ?_
  obtain ⟨fs10, e11, v13, e12, k⟩ := k
  refine jr_get jf_X12_76 dX12_readsOn_1 e11 e12 ?_
  refine jr_aload_n 0 dX12_readsOn_4 rfl rfl ?_
  obtain ⟨fs14, e15, v17, e16, k⟩ := k
  refine jr_get jf_X12_73 dX12_readsOn_5 e15 e16 ?_
  refine jr_icmp_ge (tgt := 52) dX12_readsOn_8 (by decide) (fun c8 => ?_) (fun c8 => ?_)
  · have k := k.2 c8
    exact jr_sub [0] rfl k
  · have k := k.1 c8
    refine jr_aload_n 0 dX12_readsOn_11 rfl rfl ?_
    obtain ⟨fs18, e19, v21, e20, k⟩ := k
    refine jr_get jf_X12_23 dX12_readsOn_12 e19 e20 ?_
    refine jr_aload_n 0 dX12_readsOn_15 rfl rfl ?_
    obtain ⟨fs22, e23, v25, e24, k⟩ := k
    refine jr_get jf_X12_76 dX12_readsOn_16 e23 e24 ?_
    obtain ⟨n26, f27, e28, e29, k⟩ := k
    refine jr_iald dX12_readsOn_19 e28 e29 ?_
    refine jr_bipush (v := 32) dX12_readsOn_20 (by decide) ?_
    refine jr_icmp_eq (tgt := 39) dX12_readsOn_22 (by decide) (fun c22 => ?_) (fun c22 => ?_)
    · have k := k.1 c22
      exact jr_sub [0] rfl k
    · have k := k.2 c22
      refine jr_aload_n 0 dX12_readsOn_25 rfl rfl ?_
      obtain ⟨fs30, e31, v33, e32, k⟩ := k
      refine jr_get jf_X12_23 dX12_readsOn_26 e31 e32 ?_
      refine jr_aload_n 0 dX12_readsOn_29 rfl rfl ?_
      obtain ⟨fs34, e35, v37, e36, k⟩ := k
      refine jr_get jf_X12_76 dX12_readsOn_30 e35 e36 ?_
      obtain ⟨n38, f39, e40, e41, k⟩ := k
      refine jr_iald dX12_readsOn_33 e40 e41 ?_
      refine jr_bipush (v := 10) dX12_readsOn_34 (by decide) ?_
      refine jr_icmp_ne (tgt := 52) dX12_readsOn_36 (by decide) (fun c36 => ?_) (fun c36 => ?_)
      · have k := k.2 c36
        exact jr_sub [0] rfl k
      · have k := k.1 c36
        exact jr_sub [0] rfl k
set_option maxRecDepth 20000 in
theorem bX12_readsOn_52 {g : jG} {d : Nat} {hs : jH} {P : jO → jH → Prop} {x0 : Nat} {h : jH} (k : ∃ fs1 : List Value, h.1 x0 = some (.inr (12, fs1)) ∧ ∃ v4 : Int32, fs1[8]? = some (.int v4) ∧ ∃ fs5 : List Value, h.1 x0 = some (.inr (12, fs5)) ∧ 9 < fs5.length ∧ (∀ h8 : jH, h8 = jset h x0 (.inr (12, fs5.set 9 (.int v4))) → ∃ fs10 : List Value, h8.1 x0 = some (.inr (12, fs10)) ∧ ∃ v13 : Int32, fs10[8]? = some (.int v13) ∧ ∃ fs14 : List Value, h8.1 x0 = some (.inr (12, fs14)) ∧ ∃ v17 : Int32, fs14[7]? = some (.int v17) ∧ (v13 < v17 → ∃ fs18 : List Value, h8.1 x0 = some (.inr (12, fs18)) ∧ ∃ v21 : Nat, fs18[5]? = some (.ref v21) ∧ ∃ fs22 : List Value, h8.1 x0 = some (.inr (12, fs22)) ∧ ∃ v25 : Int32, fs22[8]? = some (.int v25) ∧ ∃ (n26 : Nat) (f27 : Nat → Int32), h8.1 v21 = some (.inl (0, (n26, .inl f27))) ∧ vp_in v25 n26 ∧ Con g mX12_isLetter d [.int (f27 v25.toNatClampNeg)] h8 (jPi (fun (r30 : Int32) (h31 : jH) => (r30 = 0 → Con g mX12_isDigit d [.int (f27 v25.toNatClampNeg)] h31 (jPi (fun (r32 : Int32) (h33 : jH) => (r32 = 0 → Con g mX12_isSignByte d [.int (f27 v25.toNatClampNeg)] h33 (jPi (fun (r34 : Int32) (h35 : jH) => (r34 = 0 → J g mX12_readsOn (d + 1) hs P 250 [(0, .ref x0)] [.int 3, .ref x0] h35) ∧ (¬ r34 = 0 → J g mX12_readsOn (d + 1) hs P 250 [(0, .ref x0)] [.int (f27 v25.toNatClampNeg), .ref x0] h35)) (fun E h' => P (.inr E) h'))) ∧ (¬ r32 = 0 → ∃ fs36 : List Value, h33.1 x0 = some (.inr (12, fs36)) ∧ 11 < fs36.length ∧ (∀ h39 : jH, h39 = jset h33 x0 (.inr (12, fs36.set 11 (.int 0))) → J g mX12_readsOn (d + 1) hs P 141 [(0, .ref x0)] [] h39))) (fun E h' => P (.inr E) h'))) ∧ (¬ r30 = 0 → J g mX12_readsOn (d + 1) hs P 94 [(0, .ref x0)] [] h31)) (fun E h' => P (.inr E) h'))) ∧ (¬ v13 < v17 → ∃ fs41 : List Value, h8.1 x0 = some (.inr (12, fs41)) ∧ 10 < fs41.length ∧ (∀ h44 : jH, h44 = jset h8 x0 (.inr (12, fs41.set 10 (.int 0))) → P (.inl none) h44)))) : J g mX12_readsOn (d + 1) hs P 52 [(0, .ref x0)] [] h := by
  refine jr_aload_n 0 dX12_readsOn_52 rfl rfl ?_
  refine jr_aload_n 0 dX12_readsOn_53 rfl rfl ?_
  obtain ⟨fs1, e2, v4, e3, k⟩ := k
  refine jr_get jf_X12_76 dX12_readsOn_54 e2 e3 ?_
  obtain ⟨fs5, e6, e7, k⟩ := k
  refine jr_putE jp_X12_79 dX12_readsOn_57 e6 e7 rfl rfl (fun h8 eh9 => ?_)
  have k := k h8 eh9
  refine jr_aload_n 0 dX12_readsOn_60 rfl rfl ?_
  obtain ⟨fs10, e11, v13, e12, k⟩ := k
  refine jr_get jf_X12_76 dX12_readsOn_61 e11 e12 ?_
  refine jr_aload_n 0 dX12_readsOn_64 rfl rfl ?_
  obtain ⟨fs14, e15, v17, e16, k⟩ := k
  refine jr_get jf_X12_73 dX12_readsOn_65 e15 e16 ?_
  refine jr_icmp_lt (tgt := 77) dX12_readsOn_68 (by decide) (fun c68 => ?_) (fun c68 => ?_)
  · have k := k.1 c68
    refine jr_aload_n 0 dX12_readsOn_77 rfl rfl ?_
    obtain ⟨fs18, e19, v21, e20, k⟩ := k
    refine jr_get jf_X12_23 dX12_readsOn_78 e19 e20 ?_
    refine jr_aload_n 0 dX12_readsOn_81 rfl rfl ?_
    obtain ⟨fs22, e23, v25, e24, k⟩ := k
    refine jr_get jf_X12_76 dX12_readsOn_82 e23 e24 ?_
    obtain ⟨n26, f27, e28, e29, k⟩ := k
    refine jr_iald dX12_readsOn_85 e28 e29 ?_
    refine jr_istore_n (lv' := [(1, .int (f27 v25.toNatClampNeg)), (0, .ref x0)]) dX12_readsOn_86 rfl (by decide) rfl ?_
    refine jr_iload_n 0 dX12_readsOn_87 rfl rfl ?_
    refine jr_cSi (As := [.int (f27 v25.toNatClampNeg)]) jl_X12_85 km_X12_isLetter rfl rfl dX12_readsOn_88 (Nat.le_of_ble_eq_true rfl) k (fun r30 h31 k => ?_)
    refine jr_if_eq (tgt := 129) dX12_readsOn_91 (by decide) (fun c91 => ?_) (fun c91 => ?_)
    · have k := k.1 c91
      refine jr_iload_n 0 dX12_readsOn_129 rfl rfl ?_
      refine jr_cSi (As := [.int (f27 v25.toNatClampNeg)]) jl_X12_93 km_X12_isDigit rfl rfl dX12_readsOn_130 (Nat.le_of_ble_eq_true rfl) k (fun r32 h33 k => ?_)
      refine jr_if_eq (tgt := 237) dX12_readsOn_133 (by decide) (fun c133 => ?_) (fun c133 => ?_)
      · have k := k.1 c133
        refine jr_aload_n 1 dX12_readsOn_237 rfl rfl ?_
        refine jr_iload_n 0 dX12_readsOn_238 rfl rfl ?_
        refine jr_cSi (As := [.int (f27 v25.toNatClampNeg)]) jl_X12_99 km_X12_isSignByte rfl rfl dX12_readsOn_239 (Nat.le_of_ble_eq_true rfl) k (fun r34 h35 k => ?_)
        refine jr_if_eq (tgt := 249) dX12_readsOn_242 (by decide) (fun c242 => ?_) (fun c242 => ?_)
        · have k := k.1 c242
          refine jr_iconst (v := 3) dX12_readsOn_249 (by decide) ?_
          exact jr_sub [1] rfl k
        · have k := k.2 c242
          refine jr_iload_n 0 dX12_readsOn_245 rfl rfl ?_
          refine jr_goto (tgt := 250) dX12_readsOn_246 (by decide) ?_
          exact jr_sub [1] rfl k
      · have k := k.2 c133
        refine jr_aload_n 1 dX12_readsOn_136 rfl rfl ?_
        refine jr_iconst (v := 0) dX12_readsOn_137 (by decide) ?_
        obtain ⟨fs36, e37, e38, k⟩ := k
        refine jr_putE jp_X12_96 dX12_readsOn_138 e37 e38 rfl rfl (fun h39 eh40 => ?_)
        have k := k h39 eh40
        exact jr_sub [1] rfl k
    · have k := k.2 c91
      exact jr_sub [1] rfl k
  · have k := k.2 c68
    refine jr_aload_n 0 dX12_readsOn_71 rfl rfl ?_
    refine jr_iconst (v := 0) dX12_readsOn_72 (by decide) ?_
    obtain ⟨fs41, e42, e43, k⟩ := k
    refine jr_putE jp_X12_82 dX12_readsOn_73 e42 e43 rfl rfl (fun h44 eh45 => ?_)
    have k := k h44 eh45
    exact jr_vret rfl dX12_readsOn_76 k
set_option maxRecDepth 20000 in
theorem bX12_readsOn_94 {g : jG} {d : Nat} {hs : jH} {P : jO → jH → Prop} {x0 : Nat} {h : jH} (k : ∃ fs1 : List Value, h.1 x0 = some (.inr (12, fs1)) ∧ ∃ v4 : Int32, fs1[8]? = some (.int v4) ∧ ∃ fs7 : List Value, h.1 x0 = some (.inr (12, fs7)) ∧ Con g mX12_see d [.ref x0, .int v4] h (jPi (fun (r5 : Int32) (h6 : jH) => Con g mX12_isLetter d [.int r5] h6 (jPi (fun (r9 : Int32) (h10 : jH) => (r9 = 0 → ∃ fs11 : List Value, h10.1 x0 = some (.inr (12, fs11)) ∧ 10 < fs11.length ∧ (∀ h14 : jH, h14 = jset h10 x0 (.inr (12, fs11.set 10 (.int 1))) → P (.inl none) h14)) ∧ (¬ r9 = 0 → ∃ fs16 : List Value, h10.1 x0 = some (.inr (12, fs16)) ∧ ∃ v19 : Int32, fs16[8]? = some (.int v19) ∧ ∃ fs20 : List Value, h10.1 x0 = some (.inr (12, fs20)) ∧ 8 < fs20.length ∧ (∀ h23 : jH, h23 = jset h10 x0 (.inr (12, fs20.set 8 (.int (v19 + 1)))) → J g mX12_readsOn (d + 1) hs P 94 [(0, .ref x0)] [] h23))) (fun E h' => P (.inr E) h'))) (fun E h' => P (.inr E) h'))) : J g mX12_readsOn (d + 1) hs P 94 [(0, .ref x0)] [] h := by
  refine jr_aload_n 0 dX12_readsOn_94 rfl rfl ?_
  refine jr_aload_n 0 dX12_readsOn_95 rfl rfl ?_
  obtain ⟨fs1, e2, v4, e3, k⟩ := k
  refine jr_get jf_X12_76 dX12_readsOn_96 e2 e3 ?_
  obtain ⟨fs7, e8, k⟩ := k
  refine jr_cVi (As := [.int v4]) jl_X12_89 km_X12_see rfl rfl dX12_readsOn_99 e8 (Nat.le_of_ble_eq_true rfl) k (fun r5 h6 k => ?_)
  refine jr_cSi (As := [.int r5]) jl_X12_85 km_X12_isLetter rfl rfl dX12_readsOn_102 (Nat.le_of_ble_eq_true rfl) k (fun r9 h10 k => ?_)
  refine jr_if_eq (tgt := 121) dX12_readsOn_105 (by decide) (fun c105 => ?_) (fun c105 => ?_)
  · have k := k.1 c105
    refine jr_aload_n 0 dX12_readsOn_121 rfl rfl ?_
    refine jr_iconst (v := 1) dX12_readsOn_122 (by decide) ?_
    obtain ⟨fs11, e12, e13, k⟩ := k
    refine jr_putE jp_X12_82 dX12_readsOn_123 e12 e13 rfl rfl (fun h14 eh15 => ?_)
    have k := k h14 eh15
    refine jr_goto (tgt := 263) dX12_readsOn_126 (by decide) ?_
    exact jr_vret rfl dX12_readsOn_263 k
  · have k := k.2 c105
    refine jr_aload_n 0 dX12_readsOn_108 rfl rfl ?_
    refine jr_dup dX12_readsOn_109 rfl ?_
    obtain ⟨fs16, e17, v19, e18, k⟩ := k
    refine jr_get jf_X12_76 dX12_readsOn_110 e17 e18 ?_
    refine jr_iconst (v := 1) dX12_readsOn_113 (by decide) ?_
    refine jr_iadd dX12_readsOn_114 ?_
    obtain ⟨fs20, e21, e22, k⟩ := k
    refine jr_putE jp_X12_76 dX12_readsOn_115 e21 e22 rfl rfl (fun h23 eh24 => ?_)
    have k := k h23 eh24
    refine jr_goto (tgt := 94) dX12_readsOn_118 (by decide) ?_
    exact jr_sub [0] rfl k
set_option maxRecDepth 20000 in
theorem bX12_readsOn_141 {g : jG} {d : Nat} {hs : jH} {P : jO → jH → Prop} {x0 : Nat} {h : jH} (k : ∃ fs1 : List Value, h.1 x0 = some (.inr (12, fs1)) ∧ ∃ v4 : Int32, fs1[8]? = some (.int v4) ∧ ∃ fs7 : List Value, h.1 x0 = some (.inr (12, fs7)) ∧ Con g mX12_see d [.ref x0, .int v4] h (jPi (fun (r5 : Int32) (h6 : jH) => Con g mX12_isDigit d [.int r5] h6 (jPi (fun (r9 : Int32) (h10 : jH) => (r9 = 0 → ∃ fs11 : List Value, h10.1 x0 = some (.inr (12, fs11)) ∧ ∃ v14 : Int32, fs11[8]? = some (.int v14) ∧ ∃ fs15 : List Value, h10.1 x0 = some (.inr (12, fs15)) ∧ ∃ v18 : Int32, fs15[9]? = some (.int v18) ∧ (3 < (v14 - v18) → J g mX12_readsOn (d + 1) hs P 231 [] [.int 3, .ref x0] h10) ∧ (¬ 3 < (v14 - v18) → J g mX12_readsOn (d + 1) hs P 231 [] [.int 2, .ref x0] h10)) ∧ (¬ r9 = 0 → ∃ fs19 : List Value, h10.1 x0 = some (.inr (12, fs19)) ∧ ∃ v22 : Int32, fs19[8]? = some (.int v22) ∧ ∃ fs23 : List Value, h10.1 x0 = some (.inr (12, fs23)) ∧ ∃ v26 : Int32, fs23[9]? = some (.int v26) ∧ ((v22 - v26) < 3 → ∃ fs31 : List Value, h10.1 x0 = some (.inr (12, fs31)) ∧ ∃ v34 : Int32, fs31[11]? = some (.int v34) ∧ ∃ fs35 : List Value, h10.1 x0 = some (.inr (12, fs35)) ∧ ∃ v38 : Nat, fs35[5]? = some (.ref v38) ∧ ∃ fs39 : List Value, h10.1 x0 = some (.inr (12, fs39)) ∧ ∃ v42 : Int32, fs39[8]? = some (.int v42) ∧ ∃ (n43 : Nat) (f44 : Nat → Int32), h10.1 v38 = some (.inl (0, (n43, .inl f44))) ∧ vp_in v42 n43 ∧ J g mX12_readsOn (d + 1) hs P 196 [(0, .ref x0)] [.int (((10 * v34) + (f44 v42.toNatClampNeg)) - 48), .ref x0] h10) ∧ (¬ (v22 - v26) < 3 → ∃ fs27 : List Value, h10.1 x0 = some (.inr (12, fs27)) ∧ ∃ v30 : Int32, fs27[11]? = some (.int v30) ∧ J g mX12_readsOn (d + 1) hs P 196 [(0, .ref x0)] [.int v30, .ref x0] h10))) (fun E h' => P (.inr E) h'))) (fun E h' => P (.inr E) h'))) : J g mX12_readsOn (d + 1) hs P 141 [(0, .ref x0)] [] h := by
  refine jr_aload_n 0 dX12_readsOn_141 rfl rfl ?_
  refine jr_aload_n 0 dX12_readsOn_142 rfl rfl ?_
  obtain ⟨fs1, e2, v4, e3, k⟩ := k
  refine jr_get jf_X12_76 dX12_readsOn_143 e2 e3 ?_
  obtain ⟨fs7, e8, k⟩ := k
  refine jr_cVi (As := [.int v4]) jl_X12_89 km_X12_see rfl rfl dX12_readsOn_146 e8 (Nat.le_of_ble_eq_true rfl) k (fun r5 h6 k => ?_)
  refine jr_cSi (As := [.int r5]) jl_X12_93 km_X12_isDigit rfl rfl dX12_readsOn_149 (Nat.le_of_ble_eq_true rfl) k (fun r9 h10 k => ?_)
  refine jr_if_eq (tgt := 212) dX12_readsOn_152 (by decide) (fun c152 => ?_) (fun c152 => ?_)
  · have k := k.1 c152
    refine jr_aload_n 0 dX12_readsOn_212 rfl rfl ?_
    refine jr_aload_n 0 dX12_readsOn_213 rfl rfl ?_
    obtain ⟨fs11, e12, v14, e13, k⟩ := k
    refine jr_get jf_X12_76 dX12_readsOn_214 e12 e13 ?_
    refine jr_aload_n 0 dX12_readsOn_217 rfl rfl ?_
    obtain ⟨fs15, e16, v18, e17, k⟩ := k
    refine jr_get jf_X12_79 dX12_readsOn_218 e16 e17 ?_
    refine jr_isub dX12_readsOn_221 ?_
    refine jr_iconst (v := 3) dX12_readsOn_222 (by decide) ?_
    refine jr_icmp_le (tgt := 230) dX12_readsOn_223 (by decide) (fun c223 => ?_) (fun c223 => ?_)
    · have k := k.2 c223
      refine jr_iconst (v := 2) dX12_readsOn_230 (by decide) ?_
      exact jr_sub [] rfl k
    · have k := k.1 c223
      refine jr_iconst (v := 3) dX12_readsOn_226 (by decide) ?_
      refine jr_goto (tgt := 231) dX12_readsOn_227 (by decide) ?_
      exact jr_sub [] rfl k
  · have k := k.2 c152
    refine jr_aload_n 0 dX12_readsOn_155 rfl rfl ?_
    refine jr_aload_n 0 dX12_readsOn_156 rfl rfl ?_
    obtain ⟨fs19, e20, v22, e21, k⟩ := k
    refine jr_get jf_X12_76 dX12_readsOn_157 e20 e21 ?_
    refine jr_aload_n 0 dX12_readsOn_160 rfl rfl ?_
    obtain ⟨fs23, e24, v26, e25, k⟩ := k
    refine jr_get jf_X12_79 dX12_readsOn_161 e24 e25 ?_
    refine jr_isub dX12_readsOn_164 ?_
    refine jr_iconst (v := 3) dX12_readsOn_165 (by decide) ?_
    refine jr_icmp_ge (tgt := 192) dX12_readsOn_166 (by decide) (fun c166 => ?_) (fun c166 => ?_)
    · have k := k.2 c166
      refine jr_aload_n 0 dX12_readsOn_192 rfl rfl ?_
      obtain ⟨fs27, e28, v30, e29, k⟩ := k
      refine jr_get jf_X12_96 dX12_readsOn_193 e28 e29 ?_
      exact jr_sub [0] rfl k
    · have k := k.1 c166
      refine jr_bipush (v := 10) dX12_readsOn_169 (by decide) ?_
      refine jr_aload_n 0 dX12_readsOn_171 rfl rfl ?_
      obtain ⟨fs31, e32, v34, e33, k⟩ := k
      refine jr_get jf_X12_96 dX12_readsOn_172 e32 e33 ?_
      refine jr_imul dX12_readsOn_175 ?_
      refine jr_aload_n 0 dX12_readsOn_176 rfl rfl ?_
      obtain ⟨fs35, e36, v38, e37, k⟩ := k
      refine jr_get jf_X12_23 dX12_readsOn_177 e36 e37 ?_
      refine jr_aload_n 0 dX12_readsOn_180 rfl rfl ?_
      obtain ⟨fs39, e40, v42, e41, k⟩ := k
      refine jr_get jf_X12_76 dX12_readsOn_181 e40 e41 ?_
      obtain ⟨n43, f44, e45, e46, k⟩ := k
      refine jr_iald dX12_readsOn_184 e45 e46 ?_
      refine jr_iadd dX12_readsOn_185 ?_
      refine jr_bipush (v := 48) dX12_readsOn_186 (by decide) ?_
      refine jr_isub dX12_readsOn_188 ?_
      refine jr_goto (tgt := 196) dX12_readsOn_189 (by decide) ?_
      exact jr_sub [0] rfl k
set_option maxRecDepth 20000 in
theorem bX12_readsOn_196 {g : jG} {d : Nat} {hs : jH} {P : jO → jH → Prop} {x0 : Nat} {s0 : Nat} {s1 : Int32} {h : jH} (k : ∃ fs1 : List Value, h.1 s0 = some (.inr (12, fs1)) ∧ 11 < fs1.length ∧ (∀ h4 : jH, h4 = jset h s0 (.inr (12, fs1.set 11 (.int s1))) → ∃ fs6 : List Value, h4.1 x0 = some (.inr (12, fs6)) ∧ ∃ v9 : Int32, fs6[8]? = some (.int v9) ∧ ∃ fs10 : List Value, h4.1 x0 = some (.inr (12, fs10)) ∧ 8 < fs10.length ∧ (∀ h13 : jH, h13 = jset h4 x0 (.inr (12, fs10.set 8 (.int (v9 + 1)))) → J g mX12_readsOn (d + 1) hs P 141 [(0, .ref x0)] [] h13))) : J g mX12_readsOn (d + 1) hs P 196 [(0, .ref x0)] [.int s1, .ref s0] h := by
  obtain ⟨fs1, e2, e3, k⟩ := k
  refine jr_putE jp_X12_96 dX12_readsOn_196 e2 e3 rfl rfl (fun h4 eh5 => ?_)
  have k := k h4 eh5
  refine jr_aload_n 0 dX12_readsOn_199 rfl rfl ?_
  refine jr_dup dX12_readsOn_200 rfl ?_
  obtain ⟨fs6, e7, v9, e8, k⟩ := k
  refine jr_get jf_X12_76 dX12_readsOn_201 e7 e8 ?_
  refine jr_iconst (v := 1) dX12_readsOn_204 (by decide) ?_
  refine jr_iadd dX12_readsOn_205 ?_
  obtain ⟨fs10, e11, e12, k⟩ := k
  refine jr_putE jp_X12_76 dX12_readsOn_206 e11 e12 rfl rfl (fun h13 eh14 => ?_)
  have k := k h13 eh14
  refine jr_goto (tgt := 141) dX12_readsOn_209 (by decide) ?_
  exact jr_sub [0] rfl k
set_option maxRecDepth 20000 in
theorem bX12_readsOn_231 {g : jG} {d : Nat} {hs : jH} {P : jO → jH → Prop} {s0 : Nat} {s1 : Int32} {h : jH} (k : ∃ fs1 : List Value, h.1 s0 = some (.inr (12, fs1)) ∧ 10 < fs1.length ∧ (∀ h4 : jH, h4 = jset h s0 (.inr (12, fs1.set 10 (.int s1))) → P (.inl none) h4)) : J g mX12_readsOn (d + 1) hs P 231 [] [.int s1, .ref s0] h := by
  obtain ⟨fs1, e2, e3, k⟩ := k
  refine jr_putE jp_X12_82 dX12_readsOn_231 e2 e3 rfl rfl (fun h4 eh5 => ?_)
  have k := k h4 eh5
  refine jr_goto (tgt := 263) dX12_readsOn_234 (by decide) ?_
  exact jr_vret rfl dX12_readsOn_263 k
set_option maxRecDepth 20000 in
theorem bX12_readsOn_250 {g : jG} {d : Nat} {hs : jH} {P : jO → jH → Prop} {x0 : Nat} {s0 : Nat} {s1 : Int32} {h : jH} (k : ∃ fs1 : List Value, h.1 s0 = some (.inr (12, fs1)) ∧ 10 < fs1.length ∧ (∀ h4 : jH, h4 = jset h s0 (.inr (12, fs1.set 10 (.int s1))) → ∃ fs6 : List Value, h4.1 x0 = some (.inr (12, fs6)) ∧ ∃ v9 : Int32, fs6[8]? = some (.int v9) ∧ ∃ fs10 : List Value, h4.1 x0 = some (.inr (12, fs10)) ∧ 8 < fs10.length ∧ (∀ h13 : jH, h13 = jset h4 x0 (.inr (12, fs10.set 8 (.int (v9 + 1)))) → P (.inl none) h13))) : J g mX12_readsOn (d + 1) hs P 250 [(0, .ref x0)] [.int s1, .ref s0] h := by
  obtain ⟨fs1, e2, e3, k⟩ := k
  refine jr_putE jp_X12_82 dX12_readsOn_250 e2 e3 rfl rfl (fun h4 eh5 => ?_)
  have k := k h4 eh5
  refine jr_aload_n 0 dX12_readsOn_253 rfl rfl ?_
  refine jr_dup dX12_readsOn_254 rfl ?_
  obtain ⟨fs6, e7, v9, e8, k⟩ := k
  refine jr_get jf_X12_76 dX12_readsOn_255 e7 e8 ?_
  refine jr_iconst (v := 1) dX12_readsOn_258 (by decide) ?_
  refine jr_iadd dX12_readsOn_259 ?_
  obtain ⟨fs10, e11, e12, k⟩ := k
  refine jr_putE jp_X12_76 dX12_readsOn_260 e11 e12 rfl rfl (fun h13 eh14 => ?_)
  have k := k h13 eh14
  exact jr_vret rfl dX12_readsOn_263 k
set_option maxRecDepth 20000 in
theorem bX12_blames_0 {g : jG} {d : Nat} {hs : jH} {P : jO → jH → Prop} {x0 : Nat} {x1 : Int32} {h : jH} (k : ∃ fs1 : List Value, h.1 x0 = some (.inr (12, fs1)) ∧ ∃ v4 : Int32, fs1[12]? = some (.int v4) ∧ (v4 = 0 → ∃ fs5 : List Value, h.1 x0 = some (.inr (12, fs5)) ∧ ∃ v8 : Int32, fs5[10]? = some (.int v8) ∧ (v8 = 3 → J g mX12_blames (d + 1) hs P 22 [(0, .ref x0)] [.int 1, .ref x0] h) ∧ (¬ v8 = 3 → J g mX12_blames (d + 1) hs P 22 [(0, .ref x0)] [.int x1, .ref x0] h)) ∧ (¬ v4 = 0 → P (.inl none) h)) : J g mX12_blames (d + 1) hs P 0 [(0, .ref x0), (1, .int x1)] [] h := by
  refine jr_aload_n 0 dX12_blames_0 rfl rfl ?_
  obtain ⟨fs1, e2, v4, e3, k⟩ := k
  refine jr_get jf_X12_102 dX12_blames_1 e2 e3 ?_
  refine jr_if_eq (tgt := 8) dX12_blames_4 (by decide) (fun c4 => ?_) (fun c4 => ?_)
  · have k := k.1 c4
    refine jr_aload_n 0 dX12_blames_8 rfl rfl ?_
    refine jr_aload_n 0 dX12_blames_9 rfl rfl ?_
    obtain ⟨fs5, e6, v8, e7, k⟩ := k
    refine jr_get jf_X12_82 dX12_blames_10 e6 e7 ?_
    refine jr_iconst (v := 3) dX12_blames_13 (by decide) ?_
    refine jr_icmp_ne (tgt := 21) dX12_blames_14 (by decide) (fun c14 => ?_) (fun c14 => ?_)
    · have k := k.2 c14
      refine jr_iload_n 1 dX12_blames_21 rfl rfl ?_
      exact jr_sub [0] rfl k
    · have k := k.1 c14
      refine jr_iconst (v := 1) dX12_blames_17 (by decide) ?_
      refine jr_goto (tgt := 22) dX12_blames_18 (by decide) ?_
      exact jr_sub [0] rfl k
  · have k := k.2 c4
    exact jr_vret rfl dX12_blames_7 k
set_option maxRecDepth 20000 in
theorem bX12_blames_22 {g : jG} {d : Nat} {hs : jH} {P : jO → jH → Prop} {x0 : Nat} {s0 : Nat} {s1 : Int32} {h : jH} (k : ∃ fs1 : List Value, h.1 s0 = some (.inr (12, fs1)) ∧ 12 < fs1.length ∧ (∀ h4 : jH, h4 = jset h s0 (.inr (12, fs1.set 12 (.int s1))) → ∃ fs6 : List Value, h4.1 x0 = some (.inr (12, fs6)) ∧ ∃ v9 : Int32, fs6[9]? = some (.int v9) ∧ ∃ fs10 : List Value, h4.1 x0 = some (.inr (12, fs10)) ∧ 13 < fs10.length ∧ (∀ h13 : jH, h13 = jset h4 x0 (.inr (12, fs10.set 13 (.int v9))) → P (.inl none) h13))) : J g mX12_blames (d + 1) hs P 22 [(0, .ref x0)] [.int s1, .ref s0] h := by
  obtain ⟨fs1, e2, e3, k⟩ := k
  refine jr_putE jp_X12_102 dX12_blames_22 e2 e3 rfl rfl (fun h4 eh5 => ?_)
  have k := k h4 eh5
  refine jr_aload_n 0 dX12_blames_25 rfl rfl ?_
  refine jr_aload_n 0 dX12_blames_26 rfl rfl ?_
  obtain ⟨fs6, e7, v9, e8, k⟩ := k
  refine jr_get jf_X12_79 dX12_blames_27 e7 e8 ?_
  obtain ⟨fs10, e11, e12, k⟩ := k
  refine jr_putE jp_X12_105 dX12_blames_30 e11 e12 rfl rfl (fun h13 eh14 => ?_)
  have k := k h13 eh14
  exact jr_vret rfl dX12_blames_33 k
set_option maxRecDepth 20000 in
theorem bX12_isWord_0 {g : jG} {d : Nat} {hs : jH} {P : jO → jH → Prop} {x0 : Nat} {x1 : Nat} {h : jH} (k : ∃ fs1 : List Value, h.1 x0 = some (.inr (12, fs1)) ∧ ∃ v4 : Int32, fs1[12]? = some (.int v4) ∧ (v4 = 0 → ∃ fs5 : List Value, h.1 x0 = some (.inr (12, fs5)) ∧ ∃ v8 : Int32, fs5[10]? = some (.int v8) ∧ (v8 = 1 → ∃ fs9 : List Value, h.1 x0 = some (.inr (12, fs9)) ∧ ∃ v12 : Int32, fs9[8]? = some (.int v12) ∧ ∃ fs13 : List Value, h.1 x0 = some (.inr (12, fs13)) ∧ ∃ v16 : Int32, fs13[9]? = some (.int v16) ∧ (∃ k9 : Nat, k9 < 37 ∧ x1 = gS g k9) ∧ Con g mJ0_length_8abf5 d [.ref x1] h (jPi (fun (r17 : Int32) (h18 : jH) => ((v12 - v16) = r17 → J g mX12_isWord (d + 1) hs P 39 [(0, .ref x0), (1, .ref x1), (2, .int 1), (3, .int 0)] [] h18) ∧ (¬ (v12 - v16) = r17 → J g mX12_isWord (d + 1) hs P 39 [(0, .ref x0), (1, .ref x1), (2, .int 0), (3, .int 0)] [] h18)) (fun E h' => P (.inr E) h'))) ∧ (¬ v8 = 1 → J g mX12_isWord (d + 1) hs P 39 [(0, .ref x0), (1, .ref x1), (2, .int 0), (3, .int 0)] [] h)) ∧ (¬ v4 = 0 → J g mX12_isWord (d + 1) hs P 39 [(0, .ref x0), (1, .ref x1), (2, .int 0), (3, .int 0)] [] h)) : J g mX12_isWord (d + 1) hs P 0 [(0, .ref x0), (1, .ref x1)] [] h := by
  refine jr_aload_n 0 dX12_isWord_0 rfl rfl ?_
  obtain ⟨fs1, e2, v4, e3, k⟩ := k
  refine jr_get jf_X12_102 dX12_isWord_1 e2 e3 ?_
  refine jr_if_ne (tgt := 35) dX12_isWord_4 (by decide) (fun c4 => ?_) (fun c4 => ?_)
  · have k := k.2 c4
    refine jr_iconst (v := 0) dX12_isWord_35 (by decide) ?_
    refine jr_istore_n (lv' := [(2, .int 0), (0, .ref x0), (1, .ref x1)]) dX12_isWord_36 rfl (by decide) rfl ?_
    refine jr_iconst (v := 0) dX12_isWord_37 (by decide) ?_
    refine jr_istore_n (lv' := [(3, .int 0), (2, .int 0), (0, .ref x0), (1, .ref x1)]) dX12_isWord_38 rfl (by decide) rfl ?_
    exact jr_sub [2, 3, 1, 0] rfl k
  · have k := k.1 c4
    refine jr_aload_n 0 dX12_isWord_7 rfl rfl ?_
    obtain ⟨fs5, e6, v8, e7, k⟩ := k
    refine jr_get jf_X12_82 dX12_isWord_8 e6 e7 ?_
    refine jr_iconst (v := 1) dX12_isWord_11 (by decide) ?_
    refine jr_icmp_ne (tgt := 35) dX12_isWord_12 (by decide) (fun c12 => ?_) (fun c12 => ?_)
    · have k := k.2 c12
      refine jr_iconst (v := 0) dX12_isWord_35 (by decide) ?_
      refine jr_istore_n (lv' := [(2, .int 0), (0, .ref x0), (1, .ref x1)]) dX12_isWord_36 rfl (by decide) rfl ?_
      refine jr_iconst (v := 0) dX12_isWord_37 (by decide) ?_
      refine jr_istore_n (lv' := [(3, .int 0), (2, .int 0), (0, .ref x0), (1, .ref x1)]) dX12_isWord_38 rfl (by decide) rfl ?_
      exact jr_sub [2, 3, 1, 0] rfl k
    · have k := k.1 c12
      refine jr_aload_n 0 dX12_isWord_15 rfl rfl ?_
      obtain ⟨fs9, e10, v12, e11, k⟩ := k
      refine jr_get jf_X12_76 dX12_isWord_16 e10 e11 ?_
      refine jr_aload_n 0 dX12_isWord_19 rfl rfl ?_
      obtain ⟨fs13, e14, v16, e15, k⟩ := k
      refine jr_get jf_X12_79 dX12_isWord_20 e14 e15 ?_
      refine jr_isub dX12_isWord_23 ?_
      refine jr_aload_n 1 dX12_isWord_24 rfl rfl ?_
      obtain ⟨b19, k⟩ := k
      refine jr_cQi (As := []) jl_X12_108 km_J0_length_8abf5 rfl rfl dX12_isWord_25 b19 (Nat.le_of_ble_eq_true rfl) k (fun r17 h18 k => ?_)
      refine jr_icmp_ne (tgt := 35) dX12_isWord_28 (by decide) (fun c28 => ?_) (fun c28 => ?_)
      · have k := k.2 c28
        refine jr_iconst (v := 0) dX12_isWord_35 (by decide) ?_
        refine jr_istore_n (lv' := [(2, .int 0), (0, .ref x0), (1, .ref x1)]) dX12_isWord_36 rfl (by decide) rfl ?_
        refine jr_iconst (v := 0) dX12_isWord_37 (by decide) ?_
        refine jr_istore_n (lv' := [(3, .int 0), (2, .int 0), (0, .ref x0), (1, .ref x1)]) dX12_isWord_38 rfl (by decide) rfl ?_
        exact jr_sub [2, 3, 1, 0] rfl k
      · have k := k.1 c28
        refine jr_iconst (v := 1) dX12_isWord_31 (by decide) ?_
        refine jr_goto (tgt := 36) dX12_isWord_32 (by decide) ?_
        refine jr_istore_n (lv' := [(2, .int 1), (0, .ref x0), (1, .ref x1)]) dX12_isWord_36 rfl (by decide) rfl ?_
        refine jr_iconst (v := 0) dX12_isWord_37 (by decide) ?_
        refine jr_istore_n (lv' := [(3, .int 0), (2, .int 1), (0, .ref x0), (1, .ref x1)]) dX12_isWord_38 rfl (by decide) rfl ?_
        exact jr_sub [2, 3, 1, 0] rfl k
set_option maxRecDepth 20000 in
theorem bX12_isWord_39 {g : jG} {d : Nat} {hs : jH} {P : jO → jH → Prop} {x0 : Nat} {x1 : Nat} {x2 : Int32} {x3 : Int32} {h : jH} (k : (x2 = 0 → (x2 = 0 ∨ x2 = 1) ∧ P (.inl (some (.int x2))) h) ∧ (¬ x2 = 0 → (∃ k9 : Nat, k9 < 37 ∧ x1 = gS g k9) ∧ Con g mJ0_length_8abf5 d [.ref x1] h (jPi (fun (r1 : Int32) (h2 : jH) => (x3 < r1 → ∃ fs4 : List Value, h2.1 x0 = some (.inr (12, fs4)) ∧ ∃ v7 : Nat, fs4[5]? = some (.ref v7) ∧ ∃ fs8 : List Value, h2.1 x0 = some (.inr (12, fs8)) ∧ ∃ v11 : Int32, fs8[9]? = some (.int v11) ∧ ∃ (n12 : Nat) (f13 : Nat → Int32), h2.1 v7 = some (.inl (0, (n12, .inl f13))) ∧ vp_in (v11 + x3) n12 ∧ (∃ k9 : Nat, k9 < 37 ∧ x1 = gS g k9) ∧ Con g mJ0_charAt_5068e d [.ref x1, .int x3] h2 (jPi (fun (r16 : Int32) (h17 : jH) => ((f13 ((v11 + x3)).toNatClampNeg) = r16 → J g mX12_isWord (d + 1) hs P 39 [(0, .ref x0), (1, .ref x1), (2, .int 1), (3, .int (x3 + 1))] [] h17) ∧ (¬ (f13 ((v11 + x3)).toNatClampNeg) = r16 → J g mX12_isWord (d + 1) hs P 39 [(0, .ref x0), (1, .ref x1), (2, .int 0), (3, .int (x3 + 1))] [] h17)) (fun E h' => P (.inr E) h'))) ∧ (¬ x3 < r1 → (x2 = 0 ∨ x2 = 1) ∧ P (.inl (some (.int x2))) h2)) (fun E h' => P (.inr E) h')))) : J g mX12_isWord (d + 1) hs P 39 [(0, .ref x0), (1, .ref x1), (2, .int x2), (3, .int x3)] [] h := by
  refine jr_iload_n 2 dX12_isWord_39 rfl rfl ?_
  refine jr_if_eq (tgt := 82) dX12_isWord_40 (by decide) (fun c40 => ?_) (fun c40 => ?_)
  · have k := k.1 c40
    refine jr_iload_n 2 dX12_isWord_82 rfl rfl ?_
    exact jr_iret (ty := .boolean) rfl (jz_n k.1) dX12_isWord_83 k.2
  · have k := k.2 c40
    refine jr_iload_n 3 dX12_isWord_43 rfl rfl ?_
    refine jr_aload_n 1 dX12_isWord_44 rfl rfl ?_
    obtain ⟨b3, k⟩ := k
    refine jr_cQi (As := []) jl_X12_108 km_J0_length_8abf5 rfl rfl dX12_isWord_45 b3 (Nat.le_of_ble_eq_true rfl) k (fun r1 h2 k => ?_)
    refine jr_icmp_ge (tgt := 82) dX12_isWord_48 (by decide) (fun c48 => ?_) (fun c48 => ?_)
    · have k := k.2 c48
      refine jr_iload_n 2 dX12_isWord_82 rfl rfl ?_
      exact jr_iret (ty := .boolean) rfl (jz_n k.1) dX12_isWord_83 k.2
    · have k := k.1 c48
      refine jr_aload_n 0 dX12_isWord_51 rfl rfl ?_
      obtain ⟨fs4, e5, v7, e6, k⟩ := k
      refine jr_get jf_X12_23 dX12_isWord_52 e5 e6 ?_
      refine jr_aload_n 0 dX12_isWord_55 rfl rfl ?_
      obtain ⟨fs8, e9, v11, e10, k⟩ := k
      refine jr_get jf_X12_79 dX12_isWord_56 e9 e10 ?_
      refine jr_iload_n 3 dX12_isWord_59 rfl rfl ?_
      refine jr_iadd dX12_isWord_60 ?_
      obtain ⟨n12, f13, e14, e15, k⟩ := k
      refine jr_iald dX12_isWord_61 e14 e15 ?_
      refine jr_aload_n 1 dX12_isWord_62 rfl rfl ?_
      refine jr_iload_n 3 dX12_isWord_63 rfl rfl ?_
      obtain ⟨b18, k⟩ := k
      refine jr_cQi (As := [.int x3]) jl_X12_113 km_J0_charAt_5068e rfl rfl dX12_isWord_64 b18 (Nat.le_of_ble_eq_true rfl) k (fun r16 h17 k => ?_)
      refine jr_icmp_ne (tgt := 74) dX12_isWord_67 (by decide) (fun c67 => ?_) (fun c67 => ?_)
      · have k := k.2 c67
        refine jr_iconst (v := 0) dX12_isWord_74 (by decide) ?_
        refine jr_istore_n (lv' := [(2, .int 0), (0, .ref x0), (1, .ref x1), (3, .int x3)]) dX12_isWord_75 rfl (by decide) rfl ?_
        refine jr_iinc (v := (x3 + 1)) (lv' := [(3, .int (x3 + 1)), (2, .int 0), (0, .ref x0), (1, .ref x1)]) 3 dX12_isWord_76 rfl rfl (by decide) rfl ?_
        refine jr_goto (tgt := 39) dX12_isWord_79 (by decide) ?_
        exact jr_sub [2, 3, 1, 0] rfl k
      · have k := k.1 c67
        refine jr_iconst (v := 1) dX12_isWord_70 (by decide) ?_
        refine jr_goto (tgt := 75) dX12_isWord_71 (by decide) ?_
        refine jr_istore_n (lv' := [(2, .int 1), (0, .ref x0), (1, .ref x1), (3, .int x3)]) dX12_isWord_75 rfl (by decide) rfl ?_
        refine jr_iinc (v := (x3 + 1)) (lv' := [(3, .int (x3 + 1)), (2, .int 1), (0, .ref x0), (1, .ref x1)]) 3 dX12_isWord_76 rfl rfl (by decide) rfl ?_
        refine jr_goto (tgt := 39) dX12_isWord_79 (by decide) ?_
        exact jr_sub [2, 3, 1, 0] rfl k
set_option maxRecDepth 20000 in
theorem bX12_took_0 {g : jG} {d : Nat} {hs : jH} {P : jO → jH → Prop} {x0 : Nat} {x1 : Nat} {h : jH} (k : ∃ fs3 : List Value, h.1 x0 = some (.inr (12, fs3)) ∧ Con g mX12_isWord d [.ref x0, .ref x1] h (jPi (fun (r1 : Int32) (h2 : jH) => (r1 = 0 → (r1 = 0 ∨ r1 = 1) ∧ P (.inl (some (.int r1))) h2) ∧ (¬ r1 = 0 → ∃ fs7 : List Value, h2.1 x0 = some (.inr (12, fs7)) ∧ Con g mX12_readsOn d [.ref x0] h2 (jPv (fun (h6 : jH) => (r1 = 0 ∨ r1 = 1) ∧ P (.inl (some (.int r1))) h6) (fun E h' => P (.inr E) h')))) (fun E h' => P (.inr E) h'))) : J g mX12_took (d + 1) hs P 0 [(0, .ref x0), (1, .ref x1)] [] h := by
  refine jr_aload_n 0 dX12_took_0 rfl rfl ?_
  refine jr_aload_n 1 dX12_took_1 rfl rfl ?_
  obtain ⟨fs3, e4, k⟩ := k
  refine jr_cVi (As := [.ref x1]) jl_X12_117 km_X12_isWord rfl rfl dX12_took_2 e4 (Nat.le_of_ble_eq_true rfl) k (fun r1 h2 k => ?_)
  refine jr_istore_n (lv' := [(2, .int r1), (0, .ref x0), (1, .ref x1)]) dX12_took_5 rfl (by decide) rfl ?_
  refine jr_iload_n 0 dX12_took_6 rfl rfl ?_
  refine jr_if_eq (tgt := 14) dX12_took_7 (by decide) (fun c7 => ?_) (fun c7 => ?_)
  · have k := k.1 c7
    refine jr_iload_n 0 dX12_took_14 rfl rfl ?_
    exact jr_iret (ty := .boolean) rfl (jz_n k.1) dX12_took_15 k.2
  · have k := k.2 c7
    refine jr_aload_n 1 dX12_took_10 rfl rfl ?_
    obtain ⟨fs7, e8, k⟩ := k
    refine jr_cVv (As := []) jl_X12_121 km_X12_readsOn rfl rfl dX12_took_11 e8 (Nat.le_of_ble_eq_true rfl) k (fun h6 k => ?_)
    refine jr_iload_n 0 dX12_took_14 rfl rfl ?_
    exact jr_iret (ty := .boolean) rfl (jz_n k.1) dX12_took_15 k.2
set_option maxRecDepth 20000 in
theorem bX12_isSign_0 {g : jG} {d : Nat} {hs : jH} {P : jO → jH → Prop} {x0 : Nat} {x1 : Int32} {h : jH} (k : ∃ fs1 : List Value, h.1 x0 = some (.inr (12, fs1)) ∧ ∃ v4 : Int32, fs1[12]? = some (.int v4) ∧ (v4 = 0 → ∃ fs5 : List Value, h.1 x0 = some (.inr (12, fs5)) ∧ ∃ v8 : Int32, fs5[10]? = some (.int v8) ∧ (v8 = x1 → P (.inl (some (.int 1))) h) ∧ (¬ v8 = x1 → P (.inl (some (.int 0))) h)) ∧ (¬ v4 = 0 → P (.inl (some (.int 0))) h)) : J g mX12_isSign (d + 1) hs P 0 [(0, .ref x0), (1, .int x1)] [] h := by
  refine jr_aload_n 0 dX12_isSign_0 rfl rfl ?_
  obtain ⟨fs1, e2, v4, e3, k⟩ := k
  refine jr_get jf_X12_102 dX12_isSign_1 e2 e3 ?_
  refine jr_if_ne (tgt := 19) dX12_isSign_4 (by decide) (fun c4 => ?_) (fun c4 => ?_)
  · have k := k.2 c4
    refine jr_iconst (v := 0) dX12_isSign_19 (by decide) ?_
    exact jr_iret (ty := .boolean) rfl rfl dX12_isSign_20 k
  · have k := k.1 c4
    refine jr_aload_n 0 dX12_isSign_7 rfl rfl ?_
    obtain ⟨fs5, e6, v8, e7, k⟩ := k
    refine jr_get jf_X12_82 dX12_isSign_8 e6 e7 ?_
    refine jr_iload_n 1 dX12_isSign_11 rfl rfl ?_
    refine jr_icmp_ne (tgt := 19) dX12_isSign_12 (by decide) (fun c12 => ?_) (fun c12 => ?_)
    · have k := k.2 c12
      refine jr_iconst (v := 0) dX12_isSign_19 (by decide) ?_
      exact jr_iret (ty := .boolean) rfl rfl dX12_isSign_20 k
    · have k := k.1 c12
      refine jr_iconst (v := 1) dX12_isSign_15 (by decide) ?_
      refine jr_goto (tgt := 20) dX12_isSign_16 (by decide) ?_
      exact jr_iret (ty := .boolean) rfl rfl dX12_isSign_20 k
set_option maxRecDepth 20000 in
theorem bX12_mustSign_0 {g : jG} {d : Nat} {hs : jH} {P : jO → jH → Prop} {x0 : Nat} {x1 : Int32} {h : jH} (k : ∃ fs1 : List Value, h.1 x0 = some (.inr (12, fs1)) ∧ ∃ v4 : Int32, fs1[10]? = some (.int v4) ∧ (v4 = x1 → J g mX12_mustSign (d + 1) hs P 13 [(0, .ref x0)] [] h) ∧ (¬ v4 = x1 → ∃ fs7 : List Value, h.1 x0 = some (.inr (12, fs7)) ∧ Con g mX12_blames d [.ref x0, .int 2] h (jPv (fun (h6 : jH) => J g mX12_mustSign (d + 1) hs P 13 [(0, .ref x0)] [] h6) (fun E h' => P (.inr E) h')))) : J g mX12_mustSign (d + 1) hs P 0 [(0, .ref x0), (1, .int x1)] [] h := by
  refine jr_aload_n 0 dX12_mustSign_0 rfl rfl ?_
  obtain ⟨fs1, e2, v4, e3, k⟩ := k
  refine jr_get jf_X12_82 dX12_mustSign_1 e2 e3 ?_
  refine jr_iload_n 1 dX12_mustSign_4 rfl rfl ?_
  refine jr_icmp_eq (tgt := 13) dX12_mustSign_5 (by decide) (fun c5 => ?_) (fun c5 => ?_)
  · have k := k.1 c5
    exact jr_sub [0] rfl k
  · have k := k.2 c5
    refine jr_aload_n 0 dX12_mustSign_8 rfl rfl ?_
    refine jr_iconst (v := 2) dX12_mustSign_9 (by decide) ?_
    obtain ⟨fs7, e8, k⟩ := k
    refine jr_cVv (As := [.int 2]) jl_X12_124 km_X12_blames rfl rfl dX12_mustSign_10 e8 (Nat.le_of_ble_eq_true rfl) k (fun h6 k => ?_)
    exact jr_sub [0] rfl k
set_option maxRecDepth 20000 in
theorem bX12_mustSign_13 {g : jG} {d : Nat} {hs : jH} {P : jO → jH → Prop} {x0 : Nat} {h : jH} (k : ∃ fs1 : List Value, h.1 x0 = some (.inr (12, fs1)) ∧ ∃ v4 : Int32, fs1[12]? = some (.int v4) ∧ (v4 = 0 → ∃ fs7 : List Value, h.1 x0 = some (.inr (12, fs7)) ∧ Con g mX12_readsOn d [.ref x0] h (jPv (fun (h6 : jH) => P (.inl none) h6) (fun E h' => P (.inr E) h'))) ∧ (¬ v4 = 0 → P (.inl none) h)) : J g mX12_mustSign (d + 1) hs P 13 [(0, .ref x0)] [] h := by
  refine jr_aload_n 0 dX12_mustSign_13 rfl rfl ?_
  obtain ⟨fs1, e2, v4, e3, k⟩ := k
  refine jr_get jf_X12_102 dX12_mustSign_14 e2 e3 ?_
  refine jr_if_ne (tgt := 24) dX12_mustSign_17 (by decide) (fun c17 => ?_) (fun c17 => ?_)
  · have k := k.2 c17
    exact jr_vret rfl dX12_mustSign_24 k
  · have k := k.1 c17
    refine jr_aload_n 0 dX12_mustSign_20 rfl rfl ?_
    obtain ⟨fs7, e8, k⟩ := k
    refine jr_cVv (As := []) jl_X12_121 km_X12_readsOn rfl rfl dX12_mustSign_21 e8 (Nat.le_of_ble_eq_true rfl) k (fun h6 k => ?_)
    exact jr_vret rfl dX12_mustSign_24 k
set_option maxRecDepth 20000 in
theorem bX12_number_0 {g : jG} {d : Nat} {hs : jH} {P : jO → jH → Prop} {x0 : Nat} {x1 : Int32} {x2 : Int32} {h : jH} (k : ∃ fs1 : List Value, h.1 x0 = some (.inr (12, fs1)) ∧ ∃ v4 : Int32, fs1[10]? = some (.int v4) ∧ (v4 = 2 → ∃ fs5 : List Value, h.1 x0 = some (.inr (12, fs5)) ∧ ∃ v8 : Int32, fs5[11]? = some (.int v8) ∧ Con g mX12_within d [.long v8.toInt64, .long x1.toInt64, .long x2.toInt64] h (jPi (fun (r9 : Int32) (h10 : jH) => (r9 = 0 → ∃ fs13 : List Value, h10.1 x0 = some (.inr (12, fs13)) ∧ Con g mX12_blames d [.ref x0, .int 3] h10 (jPv (fun (h12 : jH) => J g mX12_number (d + 1) hs P 36 [(0, .ref x0), (1, .int x1)] [] h12) (fun E h' => P (.inr E) h'))) ∧ (¬ r9 = 0 → J g mX12_number (d + 1) hs P 36 [(0, .ref x0), (1, .int x1)] [] h10)) (fun E h' => P (.inr E) h'))) ∧ (¬ v4 = 2 → ∃ fs17 : List Value, h.1 x0 = some (.inr (12, fs17)) ∧ Con g mX12_blames d [.ref x0, .int 2] h (jPv (fun (h16 : jH) => J g mX12_number (d + 1) hs P 36 [(0, .ref x0), (1, .int x1)] [] h16) (fun E h' => P (.inr E) h')))) : J g mX12_number (d + 1) hs P 0 [(0, .ref x0), (1, .int x1), (2, .int x2)] [] h := by
  refine jr_aload_n 0 dX12_number_0 rfl rfl ?_
  obtain ⟨fs1, e2, v4, e3, k⟩ := k
  refine jr_get jf_X12_82 dX12_number_1 e2 e3 ?_
  refine jr_iconst (v := 2) dX12_number_4 (by decide) ?_
  refine jr_icmp_eq (tgt := 16) dX12_number_5 (by decide) (fun c5 => ?_) (fun c5 => ?_)
  · have k := k.1 c5
    refine jr_aload_n 0 dX12_number_16 rfl rfl ?_
    obtain ⟨fs5, e6, v8, e7, k⟩ := k
    refine jr_get jf_X12_96 dX12_number_17 e6 e7 ?_
    refine jr_i2l dX12_number_20 ?_
    refine jr_iload_n 1 dX12_number_21 rfl rfl ?_
    refine jr_i2l dX12_number_22 ?_
    refine jr_iload_n 2 dX12_number_23 rfl rfl ?_
    refine jr_i2l dX12_number_24 ?_
    refine jr_cSi (As := [.long v8.toInt64, .long x1.toInt64, .long x2.toInt64]) jl_X12_128 km_X12_within rfl rfl dX12_number_25 (Nat.le_of_ble_eq_true rfl) k (fun r9 h10 k => ?_)
    refine jr_if_ne (tgt := 36) dX12_number_28 (by decide) (fun c28 => ?_) (fun c28 => ?_)
    · have k := k.2 c28
      exact jr_sub [0, 1] rfl k
    · have k := k.1 c28
      refine jr_aload_n 0 dX12_number_31 rfl rfl ?_
      refine jr_iconst (v := 3) dX12_number_32 (by decide) ?_
      obtain ⟨fs13, e14, k⟩ := k
      refine jr_cVv (As := [.int 3]) jl_X12_124 km_X12_blames rfl rfl dX12_number_33 e14 (Nat.le_of_ble_eq_true rfl) k (fun h12 k => ?_)
      exact jr_sub [0, 1] rfl k
  · have k := k.2 c5
    refine jr_aload_n 0 dX12_number_8 rfl rfl ?_
    refine jr_iconst (v := 2) dX12_number_9 (by decide) ?_
    obtain ⟨fs17, e18, k⟩ := k
    refine jr_cVv (As := [.int 2]) jl_X12_124 km_X12_blames rfl rfl dX12_number_10 e18 (Nat.le_of_ble_eq_true rfl) k (fun h16 k => ?_)
    refine jr_goto (tgt := 36) dX12_number_13 (by decide) ?_
    exact jr_sub [0, 1] rfl k
set_option maxRecDepth 20000 in
theorem bX12_number_36 {g : jG} {d : Nat} {hs : jH} {P : jO → jH → Prop} {x0 : Nat} {x1 : Int32} {h : jH} (k : ∃ fs1 : List Value, h.1 x0 = some (.inr (12, fs1)) ∧ ∃ v4 : Int32, fs1[11]? = some (.int v4) ∧ ∃ fs5 : List Value, h.1 x0 = some (.inr (12, fs5)) ∧ ∃ v8 : Int32, fs5[12]? = some (.int v8) ∧ (v8 = 0 → ∃ fs11 : List Value, h.1 x0 = some (.inr (12, fs11)) ∧ Con g mX12_readsOn d [.ref x0] h (jPv (fun (h10 : jH) => J g mX12_number (d + 1) hs P 52 [(0, .ref x0), (1, .int x1), (3, .int v4)] [] h10) (fun E h' => P (.inr E) h'))) ∧ (¬ v8 = 0 → J g mX12_number (d + 1) hs P 52 [(0, .ref x0), (1, .int x1), (3, .int v4)] [] h)) : J g mX12_number (d + 1) hs P 36 [(0, .ref x0), (1, .int x1)] [] h := by
  refine jr_aload_n 0 dX12_number_36 rfl rfl ?_
  obtain ⟨fs1, e2, v4, e3, k⟩ := k
  refine jr_get jf_X12_96 dX12_number_37 e2 e3 ?_
  refine jr_istore_n (lv' := [(3, .int v4), (0, .ref x0), (1, .int x1)]) dX12_number_40 rfl (by decide) rfl ?_
  refine jr_aload_n 1 dX12_number_41 rfl rfl ?_
  obtain ⟨fs5, e6, v8, e7, k⟩ := k
  refine jr_get jf_X12_102 dX12_number_42 e6 e7 ?_
  refine jr_if_ne (tgt := 52) dX12_number_45 (by decide) (fun c45 => ?_) (fun c45 => ?_)
  · have k := k.2 c45
    exact jr_sub [1, 2, 0] rfl k
  · have k := k.1 c45
    refine jr_aload_n 1 dX12_number_48 rfl rfl ?_
    obtain ⟨fs11, e12, k⟩ := k
    refine jr_cVv (As := []) jl_X12_121 km_X12_readsOn rfl rfl dX12_number_49 e12 (Nat.le_of_ble_eq_true rfl) k (fun h10 k => ?_)
    exact jr_sub [1, 2, 0] rfl k
set_option maxRecDepth 20000 in
theorem bX12_number_52 {g : jG} {d : Nat} {hs : jH} {P : jO → jH → Prop} {x0 : Nat} {x1 : Int32} {x3 : Int32} {h : jH} (k : ∃ fs1 : List Value, h.1 x0 = some (.inr (12, fs1)) ∧ ∃ v4 : Int32, fs1[12]? = some (.int v4) ∧ (v4 = 0 → P (.inl (some (.int x3))) h) ∧ (¬ v4 = 0 → P (.inl (some (.int x1))) h)) : J g mX12_number (d + 1) hs P 52 [(0, .ref x0), (1, .int x1), (3, .int x3)] [] h := by
  refine jr_aload_n 0 dX12_number_52 rfl rfl ?_
  obtain ⟨fs1, e2, v4, e3, k⟩ := k
  refine jr_get jf_X12_102 dX12_number_53 e2 e3 ?_
  refine jr_if_ne (tgt := 63) dX12_number_56 (by decide) (fun c56 => ?_) (fun c56 => ?_)
  · have k := k.2 c56
    refine jr_iload_n 1 dX12_number_63 rfl rfl ?_
    exact jr_iret (ty := .int) rfl rfl dX12_number_64 k
  · have k := k.1 c56
    refine jr_iload_n 2 dX12_number_59 rfl rfl ?_
    refine jr_goto (tgt := 64) dX12_number_60 (by decide) ?_
    exact jr_iret (ty := .int) rfl rfl dX12_number_64 k
set_option maxRecDepth 20000 in
theorem bX12_mustWord_0 {g : jG} {d : Nat} {hs : jH} {P : jO → jH → Prop} {x0 : Nat} {x1 : Nat} {h : jH} (k : ∃ fs3 : List Value, h.1 x0 = some (.inr (12, fs3)) ∧ Con g mX12_took d [.ref x0, .ref x1] h (jPi (fun (r1 : Int32) (h2 : jH) => (r1 = 0 → ∃ fs7 : List Value, h2.1 x0 = some (.inr (12, fs7)) ∧ Con g mX12_blames d [.ref x0, .int 2] h2 (jPv (fun (h6 : jH) => P (.inl none) h6) (fun E h' => P (.inr E) h'))) ∧ (¬ r1 = 0 → P (.inl none) h2)) (fun E h' => P (.inr E) h'))) : J g mX12_mustWord (d + 1) hs P 0 [(0, .ref x0), (1, .ref x1)] [] h := by
  refine jr_aload_n 0 dX12_mustWord_0 rfl rfl ?_
  refine jr_aload_n 1 dX12_mustWord_1 rfl rfl ?_
  obtain ⟨fs3, e4, k⟩ := k
  refine jr_cVi (As := [.ref x1]) jl_X12_132 km_X12_took rfl rfl dX12_mustWord_2 e4 (Nat.le_of_ble_eq_true rfl) k (fun r1 h2 k => ?_)
  refine jr_if_ne (tgt := 13) dX12_mustWord_5 (by decide) (fun c5 => ?_) (fun c5 => ?_)
  · have k := k.2 c5
    exact jr_vret rfl dX12_mustWord_13 k
  · have k := k.1 c5
    refine jr_aload_n 0 dX12_mustWord_8 rfl rfl ?_
    refine jr_iconst (v := 2) dX12_mustWord_9 (by decide) ?_
    obtain ⟨fs7, e8, k⟩ := k
    refine jr_cVv (As := [.int 2]) jl_X12_124 km_X12_blames rfl rfl dX12_mustWord_10 e8 (Nat.le_of_ble_eq_true rfl) k (fun h6 k => ?_)
    exact jr_vret rfl dX12_mustWord_13 k
set_option maxRecDepth 20000 in
theorem bX12_laysStep_0 {g : jG} {d : Nat} {hs : jH} {P : jO → jH → Prop} {x0 : Nat} {x1 : Int32} {h : jH} (k : ∃ fs1 : List Value, h.1 x0 = some (.inr (12, fs1)) ∧ ∃ v4 : Int32, fs1[12]? = some (.int v4) ∧ (v4 = 0 → ∃ fs5 : List Value, h.1 x0 = some (.inr (12, fs5)) ∧ ∃ v8 : Nat, fs5[1]? = some (.ref v8) ∧ ∃ fs9 : List Value, h.1 x0 = some (.inr (12, fs9)) ∧ ∃ v12 : Int32, fs9[18]? = some (.int v12) ∧ ∃ fs13 : List Value, h.1 x0 = some (.inr (12, fs13)) ∧ ∃ v16 : Nat, fs13[1]? = some (.ref v16) ∧ ∃ fs17 : List Value, h.1 x0 = some (.inr (12, fs17)) ∧ ∃ v20 : Int32, fs17[17]? = some (.int v20) ∧ ∃ (n21 : Nat) (f22 : Nat → Int32), h.1 v16 = some (.inl (0, (n21, .inl f22))) ∧ vp_in v20 n21 ∧ ∃ (n25 : Nat) (f26 : Nat → Int32), h.1 v8 = some (.inl (0, (n25, .inl f26))) ∧ vp_in (v12 + (f22 v20.toNatClampNeg)) n25 ∧ ∀ h29 : jH, h29 = jset h v8 (.inl (0, (n25, .inl (upd f26 ((v12 + (f22 v20.toNatClampNeg))).toNatClampNeg x1)))) → ∃ fs31 : List Value, h29.1 x0 = some (.inr (12, fs31)) ∧ ∃ v34 : Nat, fs31[1]? = some (.ref v34) ∧ ∃ fs35 : List Value, h29.1 x0 = some (.inr (12, fs35)) ∧ ∃ v38 : Int32, fs35[17]? = some (.int v38) ∧ ∃ (n39 : Nat) (f40 : Nat → Int32), h29.1 v34 = some (.inl (0, (n39, .inl f40))) ∧ vp_in v38 n39 ∧ ∃ (n43 : Nat) (f44 : Nat → Int32), h29.1 v34 = some (.inl (0, (n43, .inl f44))) ∧ vp_in v38 n43 ∧ ∀ h47 : jH, h47 = jset h29 v34 (.inl (0, (n43, .inl (upd f44 v38.toNatClampNeg (((f40 v38.toNatClampNeg) + 1)))))) → P (.inl none) h47) ∧ (¬ v4 = 0 → P (.inl none) h)) : J g mX12_laysStep (d + 1) hs P 0 [(0, .ref x0), (1, .int x1)] [] h := by
  refine jr_aload_n 0 dX12_laysStep_0 rfl rfl ?_
  obtain ⟨fs1, e2, v4, e3, k⟩ := k
  refine jr_get jf_X12_102 dX12_laysStep_1 e2 e3 ?_
  refine jr_if_eq (tgt := 8) dX12_laysStep_4 (by decide) (fun c4 => ?_) (fun c4 => ?_)
  · have k := k.1 c4
    refine jr_aload_n 0 dX12_laysStep_8 rfl rfl ?_
    obtain ⟨fs5, e6, v8, e7, k⟩ := k
    refine jr_get jf_X12_13 dX12_laysStep_9 e6 e7 ?_
    refine jr_aload_n 0 dX12_laysStep_12 rfl rfl ?_
    obtain ⟨fs9, e10, v12, e11, k⟩ := k
    refine jr_get jf_X12_135 dX12_laysStep_13 e10 e11 ?_
    refine jr_aload_n 0 dX12_laysStep_16 rfl rfl ?_
    obtain ⟨fs13, e14, v16, e15, k⟩ := k
    refine jr_get jf_X12_13 dX12_laysStep_17 e14 e15 ?_
    refine jr_aload_n 0 dX12_laysStep_20 rfl rfl ?_
    obtain ⟨fs17, e18, v20, e19, k⟩ := k
    refine jr_get jf_X12_138 dX12_laysStep_21 e18 e19 ?_
    obtain ⟨n21, f22, e23, e24, k⟩ := k
    refine jr_iald dX12_laysStep_24 e23 e24 ?_
    refine jr_iadd dX12_laysStep_25 ?_
    refine jr_iload_n 1 dX12_laysStep_26 rfl rfl ?_
    obtain ⟨n25, f26, e27, e28, k⟩ := k
    refine jr_iastE dX12_laysStep_27 e27 e28 (fun h29 eh30 => ?_)
    have k := k h29 eh30
    refine jr_aload_n 0 dX12_laysStep_28 rfl rfl ?_
    obtain ⟨fs31, e32, v34, e33, k⟩ := k
    refine jr_get jf_X12_13 dX12_laysStep_29 e32 e33 ?_
    refine jr_aload_n 0 dX12_laysStep_32 rfl rfl ?_
    obtain ⟨fs35, e36, v38, e37, k⟩ := k
    refine jr_get jf_X12_138 dX12_laysStep_33 e36 e37 ?_
    refine jr_dup2 dX12_laysStep_36 rfl rfl ?_
    obtain ⟨n39, f40, e41, e42, k⟩ := k
    refine jr_iald dX12_laysStep_37 e41 e42 ?_
    refine jr_iconst (v := 1) dX12_laysStep_38 (by decide) ?_
    refine jr_iadd dX12_laysStep_39 ?_
    obtain ⟨n43, f44, e45, e46, k⟩ := k
    refine jr_iastE dX12_laysStep_40 e45 e46 (fun h47 eh48 => ?_)
    have k := k h47 eh48
    exact jr_vret rfl dX12_laysStep_41 k
  · have k := k.2 c4
    exact jr_vret rfl dX12_laysStep_7 k
set_option maxRecDepth 20000 in
theorem bX12_beginsLaw_0 {g : jG} {d : Nat} {hs : jH} {P : jO → jH → Prop} {x0 : Nat} {x1 : Int32} {x2 : Int32} {h : jH} (k : ∃ fs1 : List Value, h.1 x0 = some (.inr (12, fs1)) ∧ 17 < fs1.length ∧ (∀ h4 : jH, h4 = jset h x0 (.inr (12, fs1.set 17 (.int x1))) → ∃ fs6 : List Value, h4.1 x0 = some (.inr (12, fs6)) ∧ 18 < fs6.length ∧ (∀ h9 : jH, h9 = jset h4 x0 (.inr (12, fs6.set 18 (.int x2))) → ∃ fs11 : List Value, h9.1 x0 = some (.inr (12, fs11)) ∧ ∃ v14 : Nat, fs11[1]? = some (.ref v14) ∧ ∃ (n15 : Nat) (f16 : Nat → Int32), h9.1 v14 = some (.inl (0, (n15, .inl f16))) ∧ vp_in x1 n15 ∧ ∀ h19 : jH, h19 = jset h9 v14 (.inl (0, (n15, .inl (upd f16 x1.toNatClampNeg 0)))) → ∃ fs23 : List Value, h19.1 x0 = some (.inr (12, fs23)) ∧ Con g mX12_mustSign d [.ref x0, .int 58] h19 (jPv (fun (h22 : jH) => P (.inl none) h22) (fun E h' => P (.inr E) h'))))) : J g mX12_beginsLaw (d + 1) hs P 0 [(0, .ref x0), (1, .int x1), (2, .int x2)] [] h := by
  refine jr_aload_n 0 dX12_beginsLaw_0 rfl rfl ?_
  refine jr_iload_n 1 dX12_beginsLaw_1 rfl rfl ?_
  obtain ⟨fs1, e2, e3, k⟩ := k
  refine jr_putE jp_X12_138 dX12_beginsLaw_2 e2 e3 rfl rfl (fun h4 eh5 => ?_)
  have k := k h4 eh5
  refine jr_aload_n 0 dX12_beginsLaw_5 rfl rfl ?_
  refine jr_iload_n 2 dX12_beginsLaw_6 rfl rfl ?_
  obtain ⟨fs6, e7, e8, k⟩ := k
  refine jr_putE jp_X12_135 dX12_beginsLaw_7 e7 e8 rfl rfl (fun h9 eh10 => ?_)
  have k := k h9 eh10
  refine jr_aload_n 0 dX12_beginsLaw_10 rfl rfl ?_
  obtain ⟨fs11, e12, v14, e13, k⟩ := k
  refine jr_get jf_X12_13 dX12_beginsLaw_11 e12 e13 ?_
  refine jr_iload_n 1 dX12_beginsLaw_14 rfl rfl ?_
  refine jr_iconst (v := 0) dX12_beginsLaw_15 (by decide) ?_
  obtain ⟨n15, f16, e17, e18, k⟩ := k
  refine jr_iastE dX12_beginsLaw_16 e17 e18 (fun h19 eh20 => ?_)
  have k := k h19 eh20
  refine jr_aload_n 0 dX12_beginsLaw_17 rfl rfl ?_
  refine jr_bipush (v := 58) dX12_beginsLaw_18 (by decide) ?_
  obtain ⟨fs23, e24, k⟩ := k
  refine jr_cVv (As := [.int 58]) jl_X12_141 km_X12_mustSign rfl rfl dX12_beginsLaw_20 e24 (Nat.le_of_ble_eq_true rfl) k (fun h22 k => ?_)
  exact jr_vret rfl dX12_beginsLaw_23 k
set_option maxRecDepth 20000 in
theorem bX12_goesIn_0 {g : jG} {d : Nat} {hs : jH} {P : jO → jH → Prop} {x0 : Nat} {h : jH} (k : ∃ fs1 : List Value, h.1 x0 = some (.inr (12, fs1)) ∧ ∃ v4 : Int32, fs1[16]? = some (.int v4) ∧ (v4 = 6 → ∃ fs7 : List Value, h.1 x0 = some (.inr (12, fs7)) ∧ Con g mX12_blames d [.ref x0, .int 4] h (jPv (fun (h6 : jH) => J g mX12_goesIn (d + 1) hs P 14 [(0, .ref x0)] [] h6) (fun E h' => P (.inr E) h'))) ∧ (¬ v4 = 6 → J g mX12_goesIn (d + 1) hs P 14 [(0, .ref x0)] [] h)) : J g mX12_goesIn (d + 1) hs P 0 [(0, .ref x0)] [] h := by
  refine jr_aload_n 0 dX12_goesIn_0 rfl rfl ?_
  obtain ⟨fs1, e2, v4, e3, k⟩ := k
  refine jr_get jf_X12_144 dX12_goesIn_1 e2 e3 ?_
  refine jr_bipush (v := 6) dX12_goesIn_4 (by decide) ?_
  refine jr_icmp_ne (tgt := 14) dX12_goesIn_6 (by decide) (fun c6 => ?_) (fun c6 => ?_)
  · have k := k.2 c6
    exact jr_sub [0] rfl k
  · have k := k.1 c6
    refine jr_aload_n 0 dX12_goesIn_9 rfl rfl ?_
    refine jr_iconst (v := 4) dX12_goesIn_10 (by decide) ?_
    obtain ⟨fs7, e8, k⟩ := k
    refine jr_cVv (As := [.int 4]) jl_X12_124 km_X12_blames rfl rfl dX12_goesIn_11 e8 (Nat.le_of_ble_eq_true rfl) k (fun h6 k => ?_)
    exact jr_sub [0] rfl k
set_option maxRecDepth 20000 in
theorem bX12_goesIn_14 {g : jG} {d : Nat} {hs : jH} {P : jO → jH → Prop} {x0 : Nat} {h : jH} (k : ∃ fs1 : List Value, h.1 x0 = some (.inr (12, fs1)) ∧ ∃ v4 : Int32, fs1[16]? = some (.int v4) ∧ ∃ fs5 : List Value, h.1 x0 = some (.inr (12, fs5)) ∧ 16 < fs5.length ∧ (∀ h8 : jH, h8 = jset h x0 (.inr (12, fs5.set 16 (.int (v4 + 1)))) → ∃ fs10 : List Value, h8.1 x0 = some (.inr (12, fs10)) ∧ ∃ v13 : Int32, fs10[12]? = some (.int v13) ∧ (v13 = 0 → ∃ fs16 : List Value, h8.1 x0 = some (.inr (12, fs16)) ∧ Con g mX12_readsOn d [.ref x0] h8 (jPv (fun (h15 : jH) => P (.inl none) h15) (fun E h' => P (.inr E) h'))) ∧ (¬ v13 = 0 → P (.inl none) h8))) : J g mX12_goesIn (d + 1) hs P 14 [(0, .ref x0)] [] h := by
  refine jr_aload_n 0 dX12_goesIn_14 rfl rfl ?_
  refine jr_dup dX12_goesIn_15 rfl ?_
  obtain ⟨fs1, e2, v4, e3, k⟩ := k
  refine jr_get jf_X12_144 dX12_goesIn_16 e2 e3 ?_
  refine jr_iconst (v := 1) dX12_goesIn_19 (by decide) ?_
  refine jr_iadd dX12_goesIn_20 ?_
  obtain ⟨fs5, e6, e7, k⟩ := k
  refine jr_putE jp_X12_144 dX12_goesIn_21 e6 e7 rfl rfl (fun h8 eh9 => ?_)
  have k := k h8 eh9
  refine jr_aload_n 0 dX12_goesIn_24 rfl rfl ?_
  obtain ⟨fs10, e11, v13, e12, k⟩ := k
  refine jr_get jf_X12_102 dX12_goesIn_25 e11 e12 ?_
  refine jr_if_ne (tgt := 35) dX12_goesIn_28 (by decide) (fun c28 => ?_) (fun c28 => ?_)
  · have k := k.2 c28
    exact jr_vret rfl dX12_goesIn_35 k
  · have k := k.1 c28
    refine jr_aload_n 0 dX12_goesIn_31 rfl rfl ?_
    obtain ⟨fs16, e17, k⟩ := k
    refine jr_cVv (As := []) jl_X12_121 km_X12_readsOn rfl rfl dX12_goesIn_32 e17 (Nat.le_of_ble_eq_true rfl) k (fun h15 k => ?_)
    exact jr_vret rfl dX12_goesIn_35 k
set_option maxRecDepth 20000 in
theorem bX12_readTruth_0 {g : jG} {d : Nat} {hs : jH} {P : jO → jH → Prop} {x0 : Nat} {h : jH} (k : ∃ fs3 : List Value, h.1 x0 = some (.inr (12, fs3)) ∧ Con g mX12_readBoth d [.ref x0] h (jPv (fun (h2 : jH) => J g mX12_readTruth (d + 1) hs P 4 [(0, .ref x0)] [] h2) (fun E h' => P (.inr E) h'))) : J g mX12_readTruth (d + 1) hs P 0 [(0, .ref x0)] [] h := by
  refine jr_aload_n 0 dX12_readTruth_0 rfl rfl ?_
  obtain ⟨fs3, e4, k⟩ := k
  refine jr_cVv (As := []) jl_X12_147 km_X12_readBoth rfl rfl dX12_readTruth_1 e4 (Nat.le_of_ble_eq_true rfl) k (fun h2 k => ?_)
  exact jr_sub [0] rfl k
set_option maxRecDepth 20000 in
theorem bX12_readTruth_4 {g : jG} {d : Nat} {hs : jH} {P : jO → jH → Prop} {x0 : Nat} {h : jH} (k : ∃ fs3 : List Value, h.1 x0 = some (.inr (12, fs3)) ∧ Con g mX12_took d [.ref x0, .ref (gS g 36)] h (jPi (fun (r1 : Int32) (h2 : jH) => (r1 = 0 → P (.inl none) h2) ∧ (¬ r1 = 0 → ∃ fs7 : List Value, h2.1 x0 = some (.inr (12, fs7)) ∧ Con g mX12_readBoth d [.ref x0] h2 (jPv (fun (h6 : jH) => ∃ fs11 : List Value, h6.1 x0 = some (.inr (12, fs11)) ∧ Con g mX12_laysStep d [.ref x0, .int 17] h6 (jPv (fun (h10 : jH) => J g mX12_readTruth (d + 1) hs P 4 [(0, .ref x0)] [] h10) (fun E h' => P (.inr E) h'))) (fun E h' => P (.inr E) h')))) (fun E h' => P (.inr E) h'))) : J g mX12_readTruth (d + 1) hs P 4 [(0, .ref x0)] [] h := by
  refine jr_aload_n 0 dX12_readTruth_4 rfl rfl ?_
  refine jr_ldcS (k9 := 36) rfl rfl rfl dX12_readTruth_5 ?_
  obtain ⟨fs3, e4, k⟩ := k
  refine jr_cVi (As := [.ref (gS g 36)]) jl_X12_132 km_X12_took rfl rfl dX12_readTruth_7 e4 (Nat.le_of_ble_eq_true rfl) k (fun r1 h2 k => ?_)
  refine jr_if_eq (tgt := 26) dX12_readTruth_10 (by decide) (fun c10 => ?_) (fun c10 => ?_)
  · have k := k.1 c10
    exact jr_vret rfl dX12_readTruth_26 k
  · have k := k.2 c10
    refine jr_aload_n 0 dX12_readTruth_13 rfl rfl ?_
    obtain ⟨fs7, e8, k⟩ := k
    refine jr_cVv (As := []) jl_X12_147 km_X12_readBoth rfl rfl dX12_readTruth_14 e8 (Nat.le_of_ble_eq_true rfl) k (fun h6 k => ?_)
    refine jr_aload_n 0 dX12_readTruth_17 rfl rfl ?_
    refine jr_bipush (v := 17) dX12_readTruth_18 (by decide) ?_
    obtain ⟨fs11, e12, k⟩ := k
    refine jr_cVv (As := [.int 17]) jl_X12_152 km_X12_laysStep rfl rfl dX12_readTruth_20 e12 (Nat.le_of_ble_eq_true rfl) k (fun h10 k => ?_)
    refine jr_goto (tgt := 4) dX12_readTruth_23 (by decide) ?_
    exact jr_sub [0] rfl k
set_option maxRecDepth 20000 in
theorem bX12_readBoth_0 {g : jG} {d : Nat} {hs : jH} {P : jO → jH → Prop} {x0 : Nat} {h : jH} (k : ∃ fs3 : List Value, h.1 x0 = some (.inr (12, fs3)) ∧ Con g mX12_readUnit d [.ref x0] h (jPv (fun (h2 : jH) => J g mX12_readBoth (d + 1) hs P 4 [(0, .ref x0)] [] h2) (fun E h' => P (.inr E) h'))) : J g mX12_readBoth (d + 1) hs P 0 [(0, .ref x0)] [] h := by
  refine jr_aload_n 0 dX12_readBoth_0 rfl rfl ?_
  obtain ⟨fs3, e4, k⟩ := k
  refine jr_cVv (As := []) jl_X12_155 km_X12_readUnit rfl rfl dX12_readBoth_1 e4 (Nat.le_of_ble_eq_true rfl) k (fun h2 k => ?_)
  exact jr_sub [0] rfl k
set_option maxRecDepth 20000 in
theorem bX12_readBoth_4 {g : jG} {d : Nat} {hs : jH} {P : jO → jH → Prop} {x0 : Nat} {h : jH} (k : ∃ fs3 : List Value, h.1 x0 = some (.inr (12, fs3)) ∧ Con g mX12_took d [.ref x0, .ref (gS g 35)] h (jPi (fun (r1 : Int32) (h2 : jH) => (r1 = 0 → P (.inl none) h2) ∧ (¬ r1 = 0 → ∃ fs7 : List Value, h2.1 x0 = some (.inr (12, fs7)) ∧ Con g mX12_readUnit d [.ref x0] h2 (jPv (fun (h6 : jH) => ∃ fs11 : List Value, h6.1 x0 = some (.inr (12, fs11)) ∧ Con g mX12_laysStep d [.ref x0, .int 16] h6 (jPv (fun (h10 : jH) => J g mX12_readBoth (d + 1) hs P 4 [(0, .ref x0)] [] h10) (fun E h' => P (.inr E) h'))) (fun E h' => P (.inr E) h')))) (fun E h' => P (.inr E) h'))) : J g mX12_readBoth (d + 1) hs P 4 [(0, .ref x0)] [] h := by
  refine jr_aload_n 0 dX12_readBoth_4 rfl rfl ?_
  refine jr_ldcS (k9 := 35) rfl rfl rfl dX12_readBoth_5 ?_
  obtain ⟨fs3, e4, k⟩ := k
  refine jr_cVi (As := [.ref (gS g 35)]) jl_X12_132 km_X12_took rfl rfl dX12_readBoth_7 e4 (Nat.le_of_ble_eq_true rfl) k (fun r1 h2 k => ?_)
  refine jr_if_eq (tgt := 26) dX12_readBoth_10 (by decide) (fun c10 => ?_) (fun c10 => ?_)
  · have k := k.1 c10
    exact jr_vret rfl dX12_readBoth_26 k
  · have k := k.2 c10
    refine jr_aload_n 0 dX12_readBoth_13 rfl rfl ?_
    obtain ⟨fs7, e8, k⟩ := k
    refine jr_cVv (As := []) jl_X12_155 km_X12_readUnit rfl rfl dX12_readBoth_14 e8 (Nat.le_of_ble_eq_true rfl) k (fun h6 k => ?_)
    refine jr_aload_n 0 dX12_readBoth_17 rfl rfl ?_
    refine jr_bipush (v := 16) dX12_readBoth_18 (by decide) ?_
    obtain ⟨fs11, e12, k⟩ := k
    refine jr_cVv (As := [.int 16]) jl_X12_152 km_X12_laysStep rfl rfl dX12_readBoth_20 e12 (Nat.le_of_ble_eq_true rfl) k (fun h10 k => ?_)
    refine jr_goto (tgt := 4) dX12_readBoth_23 (by decide) ?_
    exact jr_sub [0] rfl k
set_option maxRecDepth 20000 in
theorem bX12_readUnit_0 {g : jG} {d : Nat} {hs : jH} {P : jO → jH → Prop} {x0 : Nat} {h : jH} (k : ∃ fs1 : List Value, h.1 x0 = some (.inr (12, fs1)) ∧ ∃ v4 : Int32, fs1[12]? = some (.int v4) ∧ (v4 = 0 → ∃ fs7 : List Value, h.1 x0 = some (.inr (12, fs7)) ∧ Con g mX12_isWord d [.ref x0, .ref (gS g 34)] h (jPi (fun (r5 : Int32) (h6 : jH) => (r5 = 0 → ∃ fs11 : List Value, h6.1 x0 = some (.inr (12, fs11)) ∧ Con g mX12_isSign d [.ref x0, .int 91] h6 (jPi (fun (r9 : Int32) (h10 : jH) => (r9 = 0 → ∃ fs15 : List Value, h10.1 x0 = some (.inr (12, fs15)) ∧ Con g mX12_readSum d [.ref x0] h10 (jPv (fun (h14 : jH) => ∃ fs17 : List Value, h14.1 x0 = some (.inr (12, fs17)) ∧ ∃ v20 : Int32, fs17[10]? = some (.int v20) ∧ (v20 = 61 → J g mX12_readUnit (d + 1) hs P 112 [(0, .ref x0), (1, .int v20)] [] h14) ∧ (¬ v20 = 61 → (v20 = 60 → J g mX12_readUnit (d + 1) hs P 112 [(0, .ref x0), (1, .int v20)] [] h14) ∧ (¬ v20 = 60 → (v20 = 62 → J g mX12_readUnit (d + 1) hs P 112 [(0, .ref x0), (1, .int v20)] [] h14) ∧ (¬ v20 = 62 → ∃ fs23 : List Value, h14.1 x0 = some (.inr (12, fs23)) ∧ Con g mX12_blames d [.ref x0, .int 2] h14 (jPv (fun (h22 : jH) => J g mX12_readUnit (d + 1) hs P 112 [(0, .ref x0), (1, .int v20)] [] h22) (fun E h' => P (.inr E) h')))))) (fun E h' => P (.inr E) h'))) ∧ (¬ r9 = 0 → ∃ fs27 : List Value, h10.1 x0 = some (.inr (12, fs27)) ∧ Con g mX12_goesIn d [.ref x0] h10 (jPv (fun (h26 : jH) => ∃ fs31 : List Value, h26.1 x0 = some (.inr (12, fs31)) ∧ Con g mX12_readTruth d [.ref x0] h26 (jPv (fun (h30 : jH) => ∃ fs35 : List Value, h30.1 x0 = some (.inr (12, fs35)) ∧ Con g mX12_mustSign d [.ref x0, .int 93] h30 (jPv (fun (h34 : jH) => ∃ fs37 : List Value, h34.1 x0 = some (.inr (12, fs37)) ∧ ∃ v40 : Int32, fs37[16]? = some (.int v40) ∧ ∃ fs41 : List Value, h34.1 x0 = some (.inr (12, fs41)) ∧ 16 < fs41.length ∧ (∀ h44 : jH, h44 = jset h34 x0 (.inr (12, fs41.set 16 (.int (v40 - 1)))) → P (.inl none) h44)) (fun E h' => P (.inr E) h'))) (fun E h' => P (.inr E) h'))) (fun E h' => P (.inr E) h')))) (fun E h' => P (.inr E) h'))) ∧ (¬ r5 = 0 → ∃ fs48 : List Value, h6.1 x0 = some (.inr (12, fs48)) ∧ Con g mX12_goesIn d [.ref x0] h6 (jPv (fun (h47 : jH) => ∃ fs52 : List Value, h47.1 x0 = some (.inr (12, fs52)) ∧ Con g mX12_readUnit d [.ref x0] h47 (jPv (fun (h51 : jH) => ∃ fs56 : List Value, h51.1 x0 = some (.inr (12, fs56)) ∧ Con g mX12_laysStep d [.ref x0, .int 18] h51 (jPv (fun (h55 : jH) => ∃ fs58 : List Value, h55.1 x0 = some (.inr (12, fs58)) ∧ ∃ v61 : Int32, fs58[16]? = some (.int v61) ∧ ∃ fs62 : List Value, h55.1 x0 = some (.inr (12, fs62)) ∧ 16 < fs62.length ∧ (∀ h65 : jH, h65 = jset h55 x0 (.inr (12, fs62.set 16 (.int (v61 - 1)))) → P (.inl none) h65)) (fun E h' => P (.inr E) h'))) (fun E h' => P (.inr E) h'))) (fun E h' => P (.inr E) h')))) (fun E h' => P (.inr E) h'))) ∧ (¬ v4 = 0 → P (.inl none) h)) : J g mX12_readUnit (d + 1) hs P 0 [(0, .ref x0)] [] h := by
  refine jr_aload_n 0 dX12_readUnit_0 rfl rfl ?_
  obtain ⟨fs1, e2, v4, e3, k⟩ := k
  refine jr_get jf_X12_102 dX12_readUnit_1 e2 e3 ?_
  refine jr_if_eq (tgt := 8) dX12_readUnit_4 (by decide) (fun c4 => ?_) (fun c4 => ?_)
  · have k := k.1 c4
    refine jr_aload_n 0 dX12_readUnit_8 rfl rfl ?_
    refine jr_ldcS (k9 := 34) rfl rfl rfl dX12_readUnit_9 ?_
    obtain ⟨fs7, e8, k⟩ := k
    refine jr_cVi (As := [.ref (gS g 34)]) jl_X12_117 km_X12_isWord rfl rfl dX12_readUnit_11 e8 (Nat.le_of_ble_eq_true rfl) k (fun r5 h6 k => ?_)
    refine jr_if_eq (tgt := 44) dX12_readUnit_14 (by decide) (fun c14 => ?_) (fun c14 => ?_)
    · have k := k.1 c14
      refine jr_aload_n 0 dX12_readUnit_44 rfl rfl ?_
      refine jr_bipush (v := 91) dX12_readUnit_45 (by decide) ?_
      obtain ⟨fs11, e12, k⟩ := k
      refine jr_cVi (As := [.int 91]) jl_X12_165 km_X12_isSign rfl rfl dX12_readUnit_47 e12 (Nat.le_of_ble_eq_true rfl) k (fun r9 h10 k => ?_)
      refine jr_if_eq (tgt := 80) dX12_readUnit_50 (by decide) (fun c50 => ?_) (fun c50 => ?_)
      · have k := k.1 c50
        refine jr_aload_n 0 dX12_readUnit_80 rfl rfl ?_
        obtain ⟨fs15, e16, k⟩ := k
        refine jr_cVv (As := []) jl_X12_171 km_X12_readSum rfl rfl dX12_readUnit_81 e16 (Nat.le_of_ble_eq_true rfl) k (fun h14 k => ?_)
        refine jr_aload_n 0 dX12_readUnit_84 rfl rfl ?_
        obtain ⟨fs17, e18, v20, e19, k⟩ := k
        refine jr_get jf_X12_82 dX12_readUnit_85 e18 e19 ?_
        refine jr_istore_n (lv' := [(1, .int v20), (0, .ref x0)]) dX12_readUnit_88 rfl (by decide) rfl ?_
        refine jr_iload_n 0 dX12_readUnit_89 rfl rfl ?_
        refine jr_bipush (v := 61) dX12_readUnit_90 (by decide) ?_
        refine jr_icmp_eq (tgt := 112) dX12_readUnit_92 (by decide) (fun c92 => ?_) (fun c92 => ?_)
        · have k := k.1 c92
          exact jr_sub [1, 0] rfl k
        · have k := k.2 c92
          refine jr_iload_n 0 dX12_readUnit_95 rfl rfl ?_
          refine jr_bipush (v := 60) dX12_readUnit_96 (by decide) ?_
          refine jr_icmp_eq (tgt := 112) dX12_readUnit_98 (by decide) (fun c98 => ?_) (fun c98 => ?_)
          · have k := k.1 c98
            exact jr_sub [1, 0] rfl k
          · have k := k.2 c98
            refine jr_iload_n 0 dX12_readUnit_101 rfl rfl ?_
            refine jr_bipush (v := 62) dX12_readUnit_102 (by decide) ?_
            refine jr_icmp_eq (tgt := 112) dX12_readUnit_104 (by decide) (fun c104 => ?_) (fun c104 => ?_)
            · have k := k.1 c104
              exact jr_sub [1, 0] rfl k
            · have k := k.2 c104
              refine jr_aload_n 1 dX12_readUnit_107 rfl rfl ?_
              refine jr_iconst (v := 2) dX12_readUnit_108 (by decide) ?_
              obtain ⟨fs23, e24, k⟩ := k
              refine jr_cVv (As := [.int 2]) jl_X12_124 km_X12_blames rfl rfl dX12_readUnit_109 e24 (Nat.le_of_ble_eq_true rfl) k (fun h22 k => ?_)
              exact jr_sub [1, 0] rfl k
      · have k := k.2 c50
        refine jr_aload_n 0 dX12_readUnit_53 rfl rfl ?_
        obtain ⟨fs27, e28, k⟩ := k
        refine jr_cVv (As := []) jl_X12_162 km_X12_goesIn rfl rfl dX12_readUnit_54 e28 (Nat.le_of_ble_eq_true rfl) k (fun h26 k => ?_)
        refine jr_aload_n 0 dX12_readUnit_57 rfl rfl ?_
        obtain ⟨fs31, e32, k⟩ := k
        refine jr_cVv (As := []) jl_X12_168 km_X12_readTruth rfl rfl dX12_readUnit_58 e32 (Nat.le_of_ble_eq_true rfl) k (fun h30 k => ?_)
        refine jr_aload_n 0 dX12_readUnit_61 rfl rfl ?_
        refine jr_bipush (v := 93) dX12_readUnit_62 (by decide) ?_
        obtain ⟨fs35, e36, k⟩ := k
        refine jr_cVv (As := [.int 93]) jl_X12_141 km_X12_mustSign rfl rfl dX12_readUnit_64 e36 (Nat.le_of_ble_eq_true rfl) k (fun h34 k => ?_)
        refine jr_aload_n 0 dX12_readUnit_67 rfl rfl ?_
        refine jr_dup dX12_readUnit_68 rfl ?_
        obtain ⟨fs37, e38, v40, e39, k⟩ := k
        refine jr_get jf_X12_144 dX12_readUnit_69 e38 e39 ?_
        refine jr_iconst (v := 1) dX12_readUnit_72 (by decide) ?_
        refine jr_isub dX12_readUnit_73 ?_
        obtain ⟨fs41, e42, e43, k⟩ := k
        refine jr_putE jp_X12_144 dX12_readUnit_74 e42 e43 rfl rfl (fun h44 eh45 => ?_)
        have k := k h44 eh45
        refine jr_goto (tgt := 155) dX12_readUnit_77 (by decide) ?_
        exact jr_vret rfl dX12_readUnit_155 k
    · have k := k.2 c14
      refine jr_aload_n 0 dX12_readUnit_17 rfl rfl ?_
      obtain ⟨fs48, e49, k⟩ := k
      refine jr_cVv (As := []) jl_X12_162 km_X12_goesIn rfl rfl dX12_readUnit_18 e49 (Nat.le_of_ble_eq_true rfl) k (fun h47 k => ?_)
      refine jr_aload_n 0 dX12_readUnit_21 rfl rfl ?_
      obtain ⟨fs52, e53, k⟩ := k
      refine jr_cVv (As := []) jl_X12_155 km_X12_readUnit rfl rfl dX12_readUnit_22 e53 (Nat.le_of_ble_eq_true rfl) k (fun h51 k => ?_)
      refine jr_aload_n 0 dX12_readUnit_25 rfl rfl ?_
      refine jr_bipush (v := 18) dX12_readUnit_26 (by decide) ?_
      obtain ⟨fs56, e57, k⟩ := k
      refine jr_cVv (As := [.int 18]) jl_X12_152 km_X12_laysStep rfl rfl dX12_readUnit_28 e57 (Nat.le_of_ble_eq_true rfl) k (fun h55 k => ?_)
      refine jr_aload_n 0 dX12_readUnit_31 rfl rfl ?_
      refine jr_dup dX12_readUnit_32 rfl ?_
      obtain ⟨fs58, e59, v61, e60, k⟩ := k
      refine jr_get jf_X12_144 dX12_readUnit_33 e59 e60 ?_
      refine jr_iconst (v := 1) dX12_readUnit_36 (by decide) ?_
      refine jr_isub dX12_readUnit_37 ?_
      obtain ⟨fs62, e63, e64, k⟩ := k
      refine jr_putE jp_X12_144 dX12_readUnit_38 e63 e64 rfl rfl (fun h65 eh66 => ?_)
      have k := k h65 eh66
      refine jr_goto (tgt := 155) dX12_readUnit_41 (by decide) ?_
      exact jr_vret rfl dX12_readUnit_155 k
  · have k := k.2 c4
    exact jr_vret rfl dX12_readUnit_7 k
set_option maxRecDepth 20000 in
theorem bX12_readUnit_112 {g : jG} {d : Nat} {hs : jH} {P : jO → jH → Prop} {x0 : Nat} {x1 : Int32} {h : jH} (k : ∃ fs1 : List Value, h.1 x0 = some (.inr (12, fs1)) ∧ ∃ v4 : Int32, fs1[12]? = some (.int v4) ∧ (v4 = 0 → ∃ fs7 : List Value, h.1 x0 = some (.inr (12, fs7)) ∧ Con g mX12_readsOn d [.ref x0] h (jPv (fun (h6 : jH) => J g mX12_readUnit (d + 1) hs P 123 [(0, .ref x0), (1, .int x1)] [] h6) (fun E h' => P (.inr E) h'))) ∧ (¬ v4 = 0 → J g mX12_readUnit (d + 1) hs P 123 [(0, .ref x0), (1, .int x1)] [] h)) : J g mX12_readUnit (d + 1) hs P 112 [(0, .ref x0), (1, .int x1)] [] h := by
  refine jr_aload_n 0 dX12_readUnit_112 rfl rfl ?_
  obtain ⟨fs1, e2, v4, e3, k⟩ := k
  refine jr_get jf_X12_102 dX12_readUnit_113 e2 e3 ?_
  refine jr_if_ne (tgt := 123) dX12_readUnit_116 (by decide) (fun c116 => ?_) (fun c116 => ?_)
  · have k := k.2 c116
    exact jr_sub [0, 1] rfl k
  · have k := k.1 c116
    refine jr_aload_n 0 dX12_readUnit_119 rfl rfl ?_
    obtain ⟨fs7, e8, k⟩ := k
    refine jr_cVv (As := []) jl_X12_121 km_X12_readsOn rfl rfl dX12_readUnit_120 e8 (Nat.le_of_ble_eq_true rfl) k (fun h6 k => ?_)
    exact jr_sub [0, 1] rfl k
set_option maxRecDepth 20000 in
theorem bX12_readUnit_123 {g : jG} {d : Nat} {hs : jH} {P : jO → jH → Prop} {x0 : Nat} {x1 : Int32} {h : jH} (k : ∃ fs3 : List Value, h.1 x0 = some (.inr (12, fs3)) ∧ Con g mX12_readSum d [.ref x0] h (jPv (fun (h2 : jH) => (x1 = 61 → J g mX12_readUnit (d + 1) hs P 152 [] [.int 13, .ref x0] h2) ∧ (¬ x1 = 61 → (x1 = 60 → J g mX12_readUnit (d + 1) hs P 152 [] [.int 14, .ref x0] h2) ∧ (¬ x1 = 60 → J g mX12_readUnit (d + 1) hs P 152 [] [.int 15, .ref x0] h2))) (fun E h' => P (.inr E) h'))) : J g mX12_readUnit (d + 1) hs P 123 [(0, .ref x0), (1, .int x1)] [] h := by
  refine jr_aload_n 0 dX12_readUnit_123 rfl rfl ?_
  obtain ⟨fs3, e4, k⟩ := k
  refine jr_cVv (As := []) jl_X12_171 km_X12_readSum rfl rfl dX12_readUnit_124 e4 (Nat.le_of_ble_eq_true rfl) k (fun h2 k => ?_)
  refine jr_aload_n 0 dX12_readUnit_127 rfl rfl ?_
  refine jr_iload_n 1 dX12_readUnit_128 rfl rfl ?_
  refine jr_bipush (v := 61) dX12_readUnit_129 (by decide) ?_
  refine jr_icmp_ne (tgt := 139) dX12_readUnit_131 (by decide) (fun c131 => ?_) (fun c131 => ?_)
  · have k := k.2 c131
    refine jr_iload_n 1 dX12_readUnit_139 rfl rfl ?_
    refine jr_bipush (v := 60) dX12_readUnit_140 (by decide) ?_
    refine jr_icmp_ne (tgt := 150) dX12_readUnit_142 (by decide) (fun c142 => ?_) (fun c142 => ?_)
    · have k := k.2 c142
      refine jr_bipush (v := 15) dX12_readUnit_150 (by decide) ?_
      exact jr_sub [] rfl k
    · have k := k.1 c142
      refine jr_bipush (v := 14) dX12_readUnit_145 (by decide) ?_
      refine jr_goto (tgt := 152) dX12_readUnit_147 (by decide) ?_
      exact jr_sub [] rfl k
  · have k := k.1 c131
    refine jr_bipush (v := 13) dX12_readUnit_134 (by decide) ?_
    refine jr_goto (tgt := 152) dX12_readUnit_136 (by decide) ?_
    exact jr_sub [] rfl k
set_option maxRecDepth 20000 in
theorem bX12_readUnit_152 {g : jG} {d : Nat} {hs : jH} {P : jO → jH → Prop} {s0 : Nat} {s1 : Int32} {h : jH} (k : ∃ fs3 : List Value, h.1 s0 = some (.inr (12, fs3)) ∧ Con g mX12_laysStep d [.ref s0, .int s1] h (jPv (fun (h2 : jH) => P (.inl none) h2) (fun E h' => P (.inr E) h'))) : J g mX12_readUnit (d + 1) hs P 152 [] [.int s1, .ref s0] h := by
  obtain ⟨fs3, e4, k⟩ := k
  refine jr_cVv (As := [.int s1]) jl_X12_152 km_X12_laysStep rfl rfl dX12_readUnit_152 e4 (Nat.le_of_ble_eq_true rfl) k (fun h2 k => ?_)
  exact jr_vret rfl dX12_readUnit_155 k
set_option maxRecDepth 20000 in
theorem bX12_readSum_0 {g : jG} {d : Nat} {hs : jH} {P : jO → jH → Prop} {x0 : Nat} {h : jH} (k : ∃ fs3 : List Value, h.1 x0 = some (.inr (12, fs3)) ∧ Con g mX12_readTerm d [.ref x0] h (jPv (fun (h2 : jH) => J g mX12_readSum (d + 1) hs P 4 [(0, .ref x0)] [] h2) (fun E h' => P (.inr E) h'))) : J g mX12_readSum (d + 1) hs P 0 [(0, .ref x0)] [] h := by
  refine jr_aload_n 0 dX12_readSum_0 rfl rfl ?_
  obtain ⟨fs3, e4, k⟩ := k
  refine jr_cVv (As := []) jl_X12_174 km_X12_readTerm rfl rfl dX12_readSum_1 e4 (Nat.le_of_ble_eq_true rfl) k (fun h2 k => ?_)
  exact jr_sub [0] rfl k
set_option maxRecDepth 20000 in
theorem bX12_readSum_4 {g : jG} {d : Nat} {hs : jH} {P : jO → jH → Prop} {x0 : Nat} {h : jH} (k : ∃ fs3 : List Value, h.1 x0 = some (.inr (12, fs3)) ∧ Con g mX12_isSign d [.ref x0, .int 43] h (jPi (fun (r1 : Int32) (h2 : jH) => (r1 = 0 → ∃ fs7 : List Value, h2.1 x0 = some (.inr (12, fs7)) ∧ Con g mX12_isSign d [.ref x0, .int 45] h2 (jPi (fun (r5 : Int32) (h6 : jH) => (r5 = 0 → P (.inl none) h6) ∧ (¬ r5 = 0 → J g mX12_readSum (d + 1) hs P 22 [(0, .ref x0)] [] h6)) (fun E h' => P (.inr E) h'))) ∧ (¬ r1 = 0 → J g mX12_readSum (d + 1) hs P 22 [(0, .ref x0)] [] h2)) (fun E h' => P (.inr E) h'))) : J g mX12_readSum (d + 1) hs P 4 [(0, .ref x0)] [] h := by
  refine jr_aload_n 0 dX12_readSum_4 rfl rfl ?_
  refine jr_bipush (v := 43) dX12_readSum_5 (by decide) ?_
  obtain ⟨fs3, e4, k⟩ := k
  refine jr_cVi (As := [.int 43]) jl_X12_165 km_X12_isSign rfl rfl dX12_readSum_7 e4 (Nat.le_of_ble_eq_true rfl) k (fun r1 h2 k => ?_)
  refine jr_if_ne (tgt := 22) dX12_readSum_10 (by decide) (fun c10 => ?_) (fun c10 => ?_)
  · have k := k.2 c10
    exact jr_sub [0] rfl k
  · have k := k.1 c10
    refine jr_aload_n 0 dX12_readSum_13 rfl rfl ?_
    refine jr_bipush (v := 45) dX12_readSum_14 (by decide) ?_
    obtain ⟨fs7, e8, k⟩ := k
    refine jr_cVi (As := [.int 45]) jl_X12_165 km_X12_isSign rfl rfl dX12_readSum_16 e8 (Nat.le_of_ble_eq_true rfl) k (fun r5 h6 k => ?_)
    refine jr_if_eq (tgt := 55) dX12_readSum_19 (by decide) (fun c19 => ?_) (fun c19 => ?_)
    · have k := k.1 c19
      exact jr_vret rfl dX12_readSum_55 k
    · have k := k.2 c19
      exact jr_sub [0] rfl k
set_option maxRecDepth 20000 in
theorem bX12_readSum_22 {g : jG} {d : Nat} {hs : jH} {P : jO → jH → Prop} {x0 : Nat} {h : jH} (k : ∃ fs1 : List Value, h.1 x0 = some (.inr (12, fs1)) ∧ ∃ v4 : Int32, fs1[10]? = some (.int v4) ∧ ∃ fs7 : List Value, h.1 x0 = some (.inr (12, fs7)) ∧ Con g mX12_readsOn d [.ref x0] h (jPv (fun (h6 : jH) => ∃ fs11 : List Value, h6.1 x0 = some (.inr (12, fs11)) ∧ Con g mX12_readTerm d [.ref x0] h6 (jPv (fun (h10 : jH) => (v4 = 43 → J g mX12_readSum (d + 1) hs P 49 [(0, .ref x0)] [.int 10, .ref x0] h10) ∧ (¬ v4 = 43 → J g mX12_readSum (d + 1) hs P 49 [(0, .ref x0)] [.int 11, .ref x0] h10)) (fun E h' => P (.inr E) h'))) (fun E h' => P (.inr E) h'))) : J g mX12_readSum (d + 1) hs P 22 [(0, .ref x0)] [] h := by
  refine jr_aload_n 0 dX12_readSum_22 rfl rfl ?_
  obtain ⟨fs1, e2, v4, e3, k⟩ := k
  refine jr_get jf_X12_82 dX12_readSum_23 e2 e3 ?_
  refine jr_istore_n (lv' := [(1, .int v4), (0, .ref x0)]) dX12_readSum_26 rfl (by decide) rfl ?_
  refine jr_aload_n 1 dX12_readSum_27 rfl rfl ?_
  obtain ⟨fs7, e8, k⟩ := k
  refine jr_cVv (As := []) jl_X12_121 km_X12_readsOn rfl rfl dX12_readSum_28 e8 (Nat.le_of_ble_eq_true rfl) k (fun h6 k => ?_)
  refine jr_aload_n 1 dX12_readSum_31 rfl rfl ?_
  obtain ⟨fs11, e12, k⟩ := k
  refine jr_cVv (As := []) jl_X12_174 km_X12_readTerm rfl rfl dX12_readSum_32 e12 (Nat.le_of_ble_eq_true rfl) k (fun h10 k => ?_)
  refine jr_aload_n 1 dX12_readSum_35 rfl rfl ?_
  refine jr_iload_n 0 dX12_readSum_36 rfl rfl ?_
  refine jr_bipush (v := 43) dX12_readSum_37 (by decide) ?_
  refine jr_icmp_ne (tgt := 47) dX12_readSum_39 (by decide) (fun c39 => ?_) (fun c39 => ?_)
  · have k := k.2 c39
    refine jr_bipush (v := 11) dX12_readSum_47 (by decide) ?_
    exact jr_sub [1] rfl k
  · have k := k.1 c39
    refine jr_bipush (v := 10) dX12_readSum_42 (by decide) ?_
    refine jr_goto (tgt := 49) dX12_readSum_44 (by decide) ?_
    exact jr_sub [1] rfl k
set_option maxRecDepth 20000 in
theorem bX12_readSum_49 {g : jG} {d : Nat} {hs : jH} {P : jO → jH → Prop} {x0 : Nat} {s0 : Nat} {s1 : Int32} {h : jH} (k : ∃ fs3 : List Value, h.1 s0 = some (.inr (12, fs3)) ∧ Con g mX12_laysStep d [.ref s0, .int s1] h (jPv (fun (h2 : jH) => J g mX12_readSum (d + 1) hs P 4 [(0, .ref x0)] [] h2) (fun E h' => P (.inr E) h'))) : J g mX12_readSum (d + 1) hs P 49 [(0, .ref x0)] [.int s1, .ref s0] h := by
  obtain ⟨fs3, e4, k⟩ := k
  refine jr_cVv (As := [.int s1]) jl_X12_152 km_X12_laysStep rfl rfl dX12_readSum_49 e4 (Nat.le_of_ble_eq_true rfl) k (fun h2 k => ?_)
  refine jr_goto (tgt := 4) dX12_readSum_52 (by decide) ?_
  exact jr_sub [0] rfl k
set_option maxRecDepth 20000 in
theorem bX12_readTerm_0 {g : jG} {d : Nat} {hs : jH} {P : jO → jH → Prop} {x0 : Nat} {h : jH} (k : ∃ fs3 : List Value, h.1 x0 = some (.inr (12, fs3)) ∧ Con g mX12_readAtom d [.ref x0] h (jPv (fun (h2 : jH) => J g mX12_readTerm (d + 1) hs P 4 [(0, .ref x0)] [] h2) (fun E h' => P (.inr E) h'))) : J g mX12_readTerm (d + 1) hs P 0 [(0, .ref x0)] [] h := by
  refine jr_aload_n 0 dX12_readTerm_0 rfl rfl ?_
  obtain ⟨fs3, e4, k⟩ := k
  refine jr_cVv (As := []) jl_X12_177 km_X12_readAtom rfl rfl dX12_readTerm_1 e4 (Nat.le_of_ble_eq_true rfl) k (fun h2 k => ?_)
  exact jr_sub [0] rfl k
set_option maxRecDepth 20000 in
theorem bX12_readTerm_4 {g : jG} {d : Nat} {hs : jH} {P : jO → jH → Prop} {x0 : Nat} {h : jH} (k : ∃ fs3 : List Value, h.1 x0 = some (.inr (12, fs3)) ∧ Con g mX12_isSign d [.ref x0, .int 42] h (jPi (fun (r1 : Int32) (h2 : jH) => (r1 = 0 → P (.inl none) h2) ∧ (¬ r1 = 0 → ∃ fs7 : List Value, h2.1 x0 = some (.inr (12, fs7)) ∧ Con g mX12_readsOn d [.ref x0] h2 (jPv (fun (h6 : jH) => ∃ fs11 : List Value, h6.1 x0 = some (.inr (12, fs11)) ∧ Con g mX12_readAtom d [.ref x0] h6 (jPv (fun (h10 : jH) => ∃ fs15 : List Value, h10.1 x0 = some (.inr (12, fs15)) ∧ Con g mX12_laysStep d [.ref x0, .int 12] h10 (jPv (fun (h14 : jH) => J g mX12_readTerm (d + 1) hs P 4 [(0, .ref x0)] [] h14) (fun E h' => P (.inr E) h'))) (fun E h' => P (.inr E) h'))) (fun E h' => P (.inr E) h')))) (fun E h' => P (.inr E) h'))) : J g mX12_readTerm (d + 1) hs P 4 [(0, .ref x0)] [] h := by
  refine jr_aload_n 0 dX12_readTerm_4 rfl rfl ?_
  refine jr_bipush (v := 42) dX12_readTerm_5 (by decide) ?_
  obtain ⟨fs3, e4, k⟩ := k
  refine jr_cVi (As := [.int 42]) jl_X12_165 km_X12_isSign rfl rfl dX12_readTerm_7 e4 (Nat.le_of_ble_eq_true rfl) k (fun r1 h2 k => ?_)
  refine jr_if_eq (tgt := 30) dX12_readTerm_10 (by decide) (fun c10 => ?_) (fun c10 => ?_)
  · have k := k.1 c10
    exact jr_vret rfl dX12_readTerm_30 k
  · have k := k.2 c10
    refine jr_aload_n 0 dX12_readTerm_13 rfl rfl ?_
    obtain ⟨fs7, e8, k⟩ := k
    refine jr_cVv (As := []) jl_X12_121 km_X12_readsOn rfl rfl dX12_readTerm_14 e8 (Nat.le_of_ble_eq_true rfl) k (fun h6 k => ?_)
    refine jr_aload_n 0 dX12_readTerm_17 rfl rfl ?_
    obtain ⟨fs11, e12, k⟩ := k
    refine jr_cVv (As := []) jl_X12_177 km_X12_readAtom rfl rfl dX12_readTerm_18 e12 (Nat.le_of_ble_eq_true rfl) k (fun h10 k => ?_)
    refine jr_aload_n 0 dX12_readTerm_21 rfl rfl ?_
    refine jr_bipush (v := 12) dX12_readTerm_22 (by decide) ?_
    obtain ⟨fs15, e16, k⟩ := k
    refine jr_cVv (As := [.int 12]) jl_X12_152 km_X12_laysStep rfl rfl dX12_readTerm_24 e16 (Nat.le_of_ble_eq_true rfl) k (fun h14 k => ?_)
    refine jr_goto (tgt := 4) dX12_readTerm_27 (by decide) ?_
    exact jr_sub [0] rfl k
set_option maxRecDepth 20000 in
theorem bX12_lawWord_0 {g : jG} {d : Nat} {hs : jH} {P : jO → jH → Prop} {x0 : Nat} {h : jH} (k : ∃ fs3 : List Value, h.1 x0 = some (.inr (12, fs3)) ∧ Con g mX12_took d [.ref x0, .ref (gS g 29)] h (jPi (fun (r1 : Int32) (h2 : jH) => (r1 = 0 → ∃ fs7 : List Value, h2.1 x0 = some (.inr (12, fs7)) ∧ Con g mX12_took d [.ref x0, .ref (gS g 20)] h2 (jPi (fun (r5 : Int32) (h6 : jH) => (r5 = 0 → ∃ fs11 : List Value, h6.1 x0 = some (.inr (12, fs11)) ∧ Con g mX12_took d [.ref x0, .ref (gS g 27)] h6 (jPi (fun (r9 : Int32) (h10 : jH) => (r9 = 0 → ∃ fs13 : List Value, h10.1 x0 = some (.inr (12, fs13)) ∧ ∃ v16 : Int32, fs13[17]? = some (.int v16) ∧ (v16 = 5 → J g mX12_lawWord (d + 1) hs P 52 [(0, .ref x0)] [] h10) ∧ (¬ v16 = 5 → ∃ fs19 : List Value, h10.1 x0 = some (.inr (12, fs19)) ∧ Con g mX12_took d [.ref x0, .ref (gS g 22)] h10 (jPi (fun (r17 : Int32) (h18 : jH) => (r17 = 0 → J g mX12_lawWord (d + 1) hs P 52 [(0, .ref x0)] [] h18) ∧ (¬ r17 = 0 → P (.inl (some (.int 3))) h18)) (fun E h' => P (.inr E) h')))) ∧ (¬ r9 = 0 → P (.inl (some (.int 2))) h10)) (fun E h' => P (.inr E) h'))) ∧ (¬ r5 = 0 → P (.inl (some (.int 1))) h6)) (fun E h' => P (.inr E) h'))) ∧ (¬ r1 = 0 → P (.inl (some (.int 0))) h2)) (fun E h' => P (.inr E) h'))) : J g mX12_lawWord (d + 1) hs P 0 [(0, .ref x0)] [] h := by
  refine jr_aload_n 0 dX12_lawWord_0 rfl rfl ?_
  refine jr_ldcS (k9 := 29) rfl rfl rfl dX12_lawWord_1 ?_
  obtain ⟨fs3, e4, k⟩ := k
  refine jr_cVi (As := [.ref (gS g 29)]) jl_X12_132 km_X12_took rfl rfl dX12_lawWord_3 e4 (Nat.le_of_ble_eq_true rfl) k (fun r1 h2 k => ?_)
  refine jr_if_eq (tgt := 11) dX12_lawWord_6 (by decide) (fun c6 => ?_) (fun c6 => ?_)
  · have k := k.1 c6
    refine jr_aload_n 0 dX12_lawWord_11 rfl rfl ?_
    refine jr_ldcS (k9 := 20) rfl rfl rfl dX12_lawWord_12 ?_
    obtain ⟨fs7, e8, k⟩ := k
    refine jr_cVi (As := [.ref (gS g 20)]) jl_X12_132 km_X12_took rfl rfl dX12_lawWord_14 e8 (Nat.le_of_ble_eq_true rfl) k (fun r5 h6 k => ?_)
    refine jr_if_eq (tgt := 22) dX12_lawWord_17 (by decide) (fun c17 => ?_) (fun c17 => ?_)
    · have k := k.1 c17
      refine jr_aload_n 0 dX12_lawWord_22 rfl rfl ?_
      refine jr_ldcS (k9 := 27) rfl rfl rfl dX12_lawWord_23 ?_
      obtain ⟨fs11, e12, k⟩ := k
      refine jr_cVi (As := [.ref (gS g 27)]) jl_X12_132 km_X12_took rfl rfl dX12_lawWord_25 e12 (Nat.le_of_ble_eq_true rfl) k (fun r9 h10 k => ?_)
      refine jr_if_eq (tgt := 33) dX12_lawWord_28 (by decide) (fun c28 => ?_) (fun c28 => ?_)
      · have k := k.1 c28
        refine jr_aload_n 0 dX12_lawWord_33 rfl rfl ?_
        obtain ⟨fs13, e14, v16, e15, k⟩ := k
        refine jr_get jf_X12_138 dX12_lawWord_34 e14 e15 ?_
        refine jr_iconst (v := 5) dX12_lawWord_37 (by decide) ?_
        refine jr_icmp_eq (tgt := 52) dX12_lawWord_38 (by decide) (fun c38 => ?_) (fun c38 => ?_)
        · have k := k.1 c38
          exact jr_sub [0] rfl k
        · have k := k.2 c38
          refine jr_aload_n 0 dX12_lawWord_41 rfl rfl ?_
          refine jr_ldcS (k9 := 22) rfl rfl rfl dX12_lawWord_42 ?_
          obtain ⟨fs19, e20, k⟩ := k
          refine jr_cVi (As := [.ref (gS g 22)]) jl_X12_132 km_X12_took rfl rfl dX12_lawWord_44 e20 (Nat.le_of_ble_eq_true rfl) k (fun r17 h18 k => ?_)
          refine jr_if_eq (tgt := 52) dX12_lawWord_47 (by decide) (fun c47 => ?_) (fun c47 => ?_)
          · have k := k.1 c47
            exact jr_sub [0] rfl k
          · have k := k.2 c47
            refine jr_iconst (v := 3) dX12_lawWord_50 (by decide) ?_
            exact jr_iret (ty := .int) rfl rfl dX12_lawWord_51 k
      · have k := k.2 c28
        refine jr_iconst (v := 2) dX12_lawWord_31 (by decide) ?_
        exact jr_iret (ty := .int) rfl rfl dX12_lawWord_32 k
    · have k := k.2 c17
      refine jr_iconst (v := 1) dX12_lawWord_20 (by decide) ?_
      exact jr_iret (ty := .int) rfl rfl dX12_lawWord_21 k
  · have k := k.2 c6
    refine jr_iconst (v := 0) dX12_lawWord_9 (by decide) ?_
    exact jr_iret (ty := .int) rfl rfl dX12_lawWord_10 k
set_option maxRecDepth 20000 in
theorem bX12_lawWord_52 {g : jG} {d : Nat} {hs : jH} {P : jO → jH → Prop} {x0 : Nat} {h : jH} (k : ∃ fs1 : List Value, h.1 x0 = some (.inr (12, fs1)) ∧ ∃ v4 : Int32, fs1[17]? = some (.int v4) ∧ (v4 = 6 → ∃ fs15 : List Value, h.1 x0 = some (.inr (12, fs15)) ∧ Con g mX12_took d [.ref x0, .ref (gS g 30)] h (jPi (fun (r13 : Int32) (h14 : jH) => (r13 = 0 → P (.inl (some (.int ((-1))))) h14) ∧ (¬ r13 = 0 → P (.inl (some (.int 4))) h14)) (fun E h' => P (.inr E) h'))) ∧ (¬ v4 = 6 → ∃ fs5 : List Value, h.1 x0 = some (.inr (12, fs5)) ∧ ∃ v8 : Int32, fs5[17]? = some (.int v8) ∧ (v8 = 4 → ∃ fs11 : List Value, h.1 x0 = some (.inr (12, fs11)) ∧ Con g mX12_took d [.ref x0, .ref (gS g 31)] h (jPi (fun (r9 : Int32) (h10 : jH) => (r9 = 0 → J g mX12_lawWord (d + 1) hs P 95 [(0, .ref x0)] [] h10) ∧ (¬ r9 = 0 → P (.inl (some (.int 4))) h10)) (fun E h' => P (.inr E) h'))) ∧ (¬ v8 = 4 → J g mX12_lawWord (d + 1) hs P 95 [(0, .ref x0)] [] h))) : J g mX12_lawWord (d + 1) hs P 52 [(0, .ref x0)] [] h := by
  refine jr_aload_n 0 dX12_lawWord_52 rfl rfl ?_
  obtain ⟨fs1, e2, v4, e3, k⟩ := k
  refine jr_get jf_X12_138 dX12_lawWord_53 e2 e3 ?_
  refine jr_bipush (v := 6) dX12_lawWord_56 (by decide) ?_
  refine jr_icmp_ne (tgt := 76) dX12_lawWord_58 (by decide) (fun c58 => ?_) (fun c58 => ?_)
  · have k := k.2 c58
    refine jr_aload_n 0 dX12_lawWord_76 rfl rfl ?_
    obtain ⟨fs5, e6, v8, e7, k⟩ := k
    refine jr_get jf_X12_138 dX12_lawWord_77 e6 e7 ?_
    refine jr_iconst (v := 4) dX12_lawWord_80 (by decide) ?_
    refine jr_icmp_ne (tgt := 95) dX12_lawWord_81 (by decide) (fun c81 => ?_) (fun c81 => ?_)
    · have k := k.2 c81
      exact jr_sub [0] rfl k
    · have k := k.1 c81
      refine jr_aload_n 0 dX12_lawWord_84 rfl rfl ?_
      refine jr_ldcS (k9 := 31) rfl rfl rfl dX12_lawWord_85 ?_
      obtain ⟨fs11, e12, k⟩ := k
      refine jr_cVi (As := [.ref (gS g 31)]) jl_X12_132 km_X12_took rfl rfl dX12_lawWord_87 e12 (Nat.le_of_ble_eq_true rfl) k (fun r9 h10 k => ?_)
      refine jr_if_eq (tgt := 95) dX12_lawWord_90 (by decide) (fun c90 => ?_) (fun c90 => ?_)
      · have k := k.1 c90
        exact jr_sub [0] rfl k
      · have k := k.2 c90
        refine jr_iconst (v := 4) dX12_lawWord_93 (by decide) ?_
        exact jr_iret (ty := .int) rfl rfl dX12_lawWord_94 k
  · have k := k.1 c58
    refine jr_aload_n 0 dX12_lawWord_61 rfl rfl ?_
    refine jr_ldcS (k9 := 30) rfl rfl rfl dX12_lawWord_62 ?_
    obtain ⟨fs15, e16, k⟩ := k
    refine jr_cVi (As := [.ref (gS g 30)]) jl_X12_132 km_X12_took rfl rfl dX12_lawWord_64 e16 (Nat.le_of_ble_eq_true rfl) k (fun r13 h14 k => ?_)
    refine jr_if_eq (tgt := 74) dX12_lawWord_67 (by decide) (fun c67 => ?_) (fun c67 => ?_)
    · have k := k.1 c67
      refine jr_iconst (v := (-1)) dX12_lawWord_74 (by decide) ?_
      exact jr_iret (ty := .int) rfl rfl dX12_lawWord_75 k
    · have k := k.2 c67
      refine jr_iconst (v := 4) dX12_lawWord_70 (by decide) ?_
      refine jr_goto (tgt := 75) dX12_lawWord_71 (by decide) ?_
      exact jr_iret (ty := .int) rfl rfl dX12_lawWord_75 k
set_option maxRecDepth 20000 in
theorem bX12_lawWord_95 {g : jG} {d : Nat} {hs : jH} {P : jO → jH → Prop} {x0 : Nat} {h : jH} (k : ∃ fs1 : List Value, h.1 x0 = some (.inr (12, fs1)) ∧ ∃ v4 : Int32, fs1[17]? = some (.int v4) ∧ (v4 = 4 → ∃ fs7 : List Value, h.1 x0 = some (.inr (12, fs7)) ∧ Con g mX12_took d [.ref x0, .ref (gS g 21)] h (jPi (fun (r5 : Int32) (h6 : jH) => (r5 = 0 → P (.inl (some (.int ((-1))))) h6) ∧ (¬ r5 = 0 → P (.inl (some (.int 5))) h6)) (fun E h' => P (.inr E) h'))) ∧ (¬ v4 = 4 → P (.inl (some (.int ((-1))))) h)) : J g mX12_lawWord (d + 1) hs P 95 [(0, .ref x0)] [] h := by
  refine jr_aload_n 0 dX12_lawWord_95 rfl rfl ?_
  obtain ⟨fs1, e2, v4, e3, k⟩ := k
  refine jr_get jf_X12_138 dX12_lawWord_96 e2 e3 ?_
  refine jr_iconst (v := 4) dX12_lawWord_99 (by decide) ?_
  refine jr_icmp_ne (tgt := 116) dX12_lawWord_100 (by decide) (fun c100 => ?_) (fun c100 => ?_)
  · have k := k.2 c100
    refine jr_iconst (v := (-1)) dX12_lawWord_116 (by decide) ?_
    exact jr_iret (ty := .int) rfl rfl dX12_lawWord_117 k
  · have k := k.1 c100
    refine jr_aload_n 0 dX12_lawWord_103 rfl rfl ?_
    refine jr_ldcS (k9 := 21) rfl rfl rfl dX12_lawWord_104 ?_
    obtain ⟨fs7, e8, k⟩ := k
    refine jr_cVi (As := [.ref (gS g 21)]) jl_X12_132 km_X12_took rfl rfl dX12_lawWord_106 e8 (Nat.le_of_ble_eq_true rfl) k (fun r5 h6 k => ?_)
    refine jr_if_eq (tgt := 116) dX12_lawWord_109 (by decide) (fun c109 => ?_) (fun c109 => ?_)
    · have k := k.1 c109
      refine jr_iconst (v := (-1)) dX12_lawWord_116 (by decide) ?_
      exact jr_iret (ty := .int) rfl rfl dX12_lawWord_117 k
    · have k := k.2 c109
      refine jr_iconst (v := 5) dX12_lawWord_112 (by decide) ?_
      refine jr_goto (tgt := 117) dX12_lawWord_113 (by decide) ?_
      exact jr_iret (ty := .int) rfl rfl dX12_lawWord_117 k
set_option maxRecDepth 20000 in
theorem bX12_readAtom_0 {g : jG} {d : Nat} {hs : jH} {P : jO → jH → Prop} {x0 : Nat} {h : jH} (k : ∃ fs1 : List Value, h.1 x0 = some (.inr (12, fs1)) ∧ ∃ v4 : Int32, fs1[12]? = some (.int v4) ∧ (v4 = 0 → ∃ fs7 : List Value, h.1 x0 = some (.inr (12, fs7)) ∧ Con g mX12_lawWord d [.ref x0] h (jPi (fun (r5 : Int32) (h6 : jH) => (r5 = (-1) → ∃ fs11 : List Value, h6.1 x0 = some (.inr (12, fs11)) ∧ Con g mX12_isSign d [.ref x0, .int 40] h6 (jPi (fun (r9 : Int32) (h10 : jH) => (r9 = 0 → ∃ fs15 : List Value, h10.1 x0 = some (.inr (12, fs15)) ∧ Con g mX12_number d [.ref x0, .int 0, .int 999] h10 (jPi (fun (r13 : Int32) (h14 : jH) => ∃ fs19 : List Value, h14.1 x0 = some (.inr (12, fs19)) ∧ Con g mX12_laysStep d [.ref x0, .int (1000 + r13)] h14 (jPv (fun (h18 : jH) => P (.inl none) h18) (fun E h' => P (.inr E) h'))) (fun E h' => P (.inr E) h'))) ∧ (¬ r9 = 0 → ∃ fs23 : List Value, h10.1 x0 = some (.inr (12, fs23)) ∧ Con g mX12_goesIn d [.ref x0] h10 (jPv (fun (h22 : jH) => ∃ fs27 : List Value, h22.1 x0 = some (.inr (12, fs27)) ∧ Con g mX12_readSum d [.ref x0] h22 (jPv (fun (h26 : jH) => ∃ fs31 : List Value, h26.1 x0 = some (.inr (12, fs31)) ∧ Con g mX12_mustSign d [.ref x0, .int 41] h26 (jPv (fun (h30 : jH) => ∃ fs33 : List Value, h30.1 x0 = some (.inr (12, fs33)) ∧ ∃ v36 : Int32, fs33[16]? = some (.int v36) ∧ ∃ fs37 : List Value, h30.1 x0 = some (.inr (12, fs37)) ∧ 16 < fs37.length ∧ (∀ h40 : jH, h40 = jset h30 x0 (.inr (12, fs37.set 16 (.int (v36 - 1)))) → P (.inl none) h40)) (fun E h' => P (.inr E) h'))) (fun E h' => P (.inr E) h'))) (fun E h' => P (.inr E) h')))) (fun E h' => P (.inr E) h'))) ∧ (¬ r5 = (-1) → ∃ fs44 : List Value, h6.1 x0 = some (.inr (12, fs44)) ∧ Con g mX12_laysStep d [.ref x0, .int (100 + r5)] h6 (jPv (fun (h43 : jH) => P (.inl none) h43) (fun E h' => P (.inr E) h')))) (fun E h' => P (.inr E) h'))) ∧ (¬ v4 = 0 → P (.inl none) h)) : J g mX12_readAtom (d + 1) hs P 0 [(0, .ref x0)] [] h := by
  refine jr_aload_n 0 dX12_readAtom_0 rfl rfl ?_
  obtain ⟨fs1, e2, v4, e3, k⟩ := k
  refine jr_get jf_X12_102 dX12_readAtom_1 e2 e3 ?_
  refine jr_if_eq (tgt := 8) dX12_readAtom_4 (by decide) (fun c4 => ?_) (fun c4 => ?_)
  · have k := k.1 c4
    refine jr_aload_n 0 dX12_readAtom_8 rfl rfl ?_
    obtain ⟨fs7, e8, k⟩ := k
    refine jr_cVi (As := []) jl_X12_194 km_X12_lawWord rfl rfl dX12_readAtom_9 e8 (Nat.le_of_ble_eq_true rfl) k (fun r5 h6 k => ?_)
    refine jr_istore_n (lv' := [(1, .int r5), (0, .ref x0)]) dX12_readAtom_12 rfl (by decide) rfl ?_
    refine jr_iload_n 0 dX12_readAtom_13 rfl rfl ?_
    refine jr_iconst (v := (-1)) dX12_readAtom_14 (by decide) ?_
    refine jr_icmp_eq (tgt := 29) dX12_readAtom_15 (by decide) (fun c15 => ?_) (fun c15 => ?_)
    · have k := k.1 c15
      refine jr_aload_n 1 dX12_readAtom_29 rfl rfl ?_
      refine jr_bipush (v := 40) dX12_readAtom_30 (by decide) ?_
      obtain ⟨fs11, e12, k⟩ := k
      refine jr_cVi (As := [.int 40]) jl_X12_165 km_X12_isSign rfl rfl dX12_readAtom_32 e12 (Nat.le_of_ble_eq_true rfl) k (fun r9 h10 k => ?_)
      refine jr_if_eq (tgt := 65) dX12_readAtom_35 (by decide) (fun c35 => ?_) (fun c35 => ?_)
      · have k := k.1 c35
        refine jr_aload_n 1 dX12_readAtom_65 rfl rfl ?_
        refine jr_iconst (v := 0) dX12_readAtom_66 (by decide) ?_
        refine jr_sipush (v := 999) dX12_readAtom_67 (by decide) ?_
        obtain ⟨fs15, e16, k⟩ := k
        refine jr_cVi (As := [.int 0, .int 999]) jl_X12_197 km_X12_number rfl rfl dX12_readAtom_70 e16 (Nat.le_of_ble_eq_true rfl) k (fun r13 h14 k => ?_)
        refine jr_istore_n (lv' := [(2, .int r13), (1, .int r5), (0, .ref x0)]) dX12_readAtom_73 rfl (by decide) rfl ?_
        refine jr_aload_n 2 dX12_readAtom_74 rfl rfl ?_
        refine jr_sipush (v := 1000) dX12_readAtom_75 (by decide) ?_
        refine jr_iload_n 0 dX12_readAtom_78 rfl rfl ?_
        refine jr_iadd dX12_readAtom_79 ?_
        obtain ⟨fs19, e20, k⟩ := k
        refine jr_cVv (As := [.int (1000 + r13)]) jl_X12_152 km_X12_laysStep rfl rfl dX12_readAtom_80 e20 (Nat.le_of_ble_eq_true rfl) k (fun h18 k => ?_)
        exact jr_vret rfl dX12_readAtom_83 k
      · have k := k.2 c35
        refine jr_aload_n 1 dX12_readAtom_38 rfl rfl ?_
        obtain ⟨fs23, e24, k⟩ := k
        refine jr_cVv (As := []) jl_X12_162 km_X12_goesIn rfl rfl dX12_readAtom_39 e24 (Nat.le_of_ble_eq_true rfl) k (fun h22 k => ?_)
        refine jr_aload_n 1 dX12_readAtom_42 rfl rfl ?_
        obtain ⟨fs27, e28, k⟩ := k
        refine jr_cVv (As := []) jl_X12_171 km_X12_readSum rfl rfl dX12_readAtom_43 e28 (Nat.le_of_ble_eq_true rfl) k (fun h26 k => ?_)
        refine jr_aload_n 1 dX12_readAtom_46 rfl rfl ?_
        refine jr_bipush (v := 41) dX12_readAtom_47 (by decide) ?_
        obtain ⟨fs31, e32, k⟩ := k
        refine jr_cVv (As := [.int 41]) jl_X12_141 km_X12_mustSign rfl rfl dX12_readAtom_49 e32 (Nat.le_of_ble_eq_true rfl) k (fun h30 k => ?_)
        refine jr_aload_n 1 dX12_readAtom_52 rfl rfl ?_
        refine jr_dup dX12_readAtom_53 rfl ?_
        obtain ⟨fs33, e34, v36, e35, k⟩ := k
        refine jr_get jf_X12_144 dX12_readAtom_54 e34 e35 ?_
        refine jr_iconst (v := 1) dX12_readAtom_57 (by decide) ?_
        refine jr_isub dX12_readAtom_58 ?_
        obtain ⟨fs37, e38, e39, k⟩ := k
        refine jr_putE jp_X12_144 dX12_readAtom_59 e38 e39 rfl rfl (fun h40 eh41 => ?_)
        have k := k h40 eh41
        refine jr_goto (tgt := 83) dX12_readAtom_62 (by decide) ?_
        exact jr_vret rfl dX12_readAtom_83 k
    · have k := k.2 c15
      refine jr_aload_n 1 dX12_readAtom_18 rfl rfl ?_
      refine jr_bipush (v := 100) dX12_readAtom_19 (by decide) ?_
      refine jr_iload_n 0 dX12_readAtom_21 rfl rfl ?_
      refine jr_iadd dX12_readAtom_22 ?_
      obtain ⟨fs44, e45, k⟩ := k
      refine jr_cVv (As := [.int (100 + r5)]) jl_X12_152 km_X12_laysStep rfl rfl dX12_readAtom_23 e45 (Nat.le_of_ble_eq_true rfl) k (fun h43 k => ?_)
      refine jr_goto (tgt := 83) dX12_readAtom_26 (by decide) ?_
      exact jr_vret rfl dX12_readAtom_83 k
  · have k := k.2 c4
    exact jr_vret rfl dX12_readAtom_7 k
set_option maxRecDepth 20000 in
theorem bX12_readHouse_0 {g : jG} {d : Nat} {hs : jH} {P : jO → jH → Prop} {x0 : Nat} {h : jH} (k : ∃ fs1 : List Value, h.1 x0 = some (.inr (12, fs1)) ∧ ∃ v4 : Nat, fs1[1]? = some (.ref v4) ∧ ∃ (n5 : Nat) (f6 : Nat → Int32), h.1 v4 = some (.inl (0, (n5, .inl f6))) ∧ vp_in 1 n5 ∧ ((f6 ((1 : Int32)).toNatClampNeg) = 7 → ∃ fs11 : List Value, h.1 x0 = some (.inr (12, fs11)) ∧ Con g mX12_blames d [.ref x0, .int 4] h (jPv (fun (h10 : jH) => J g mX12_readHouse (d + 1) hs P 16 [(0, .ref x0)] [] h10) (fun E h' => P (.inr E) h'))) ∧ (¬ (f6 ((1 : Int32)).toNatClampNeg) = 7 → J g mX12_readHouse (d + 1) hs P 16 [(0, .ref x0)] [] h)) : J g mX12_readHouse (d + 1) hs P 0 [(0, .ref x0)] [] h := by
  refine jr_aload_n 0 dX12_readHouse_0 rfl rfl ?_
  obtain ⟨fs1, e2, v4, e3, k⟩ := k
  refine jr_get jf_X12_13 dX12_readHouse_1 e2 e3 ?_
  refine jr_iconst (v := 1) dX12_readHouse_4 (by decide) ?_
  obtain ⟨n5, f6, e7, e8, k⟩ := k
  refine jr_iald dX12_readHouse_5 e7 e8 ?_
  refine jr_bipush (v := 7) dX12_readHouse_6 (by decide) ?_
  refine jr_icmp_ne (tgt := 16) dX12_readHouse_8 (by decide) (fun c8 => ?_) (fun c8 => ?_)
  · have k := k.2 c8
    exact jr_sub [0] rfl k
  · have k := k.1 c8
    refine jr_aload_n 0 dX12_readHouse_11 rfl rfl ?_
    refine jr_iconst (v := 4) dX12_readHouse_12 (by decide) ?_
    obtain ⟨fs11, e12, k⟩ := k
    refine jr_cVv (As := [.int 4]) jl_X12_124 km_X12_blames rfl rfl dX12_readHouse_13 e12 (Nat.le_of_ble_eq_true rfl) k (fun h10 k => ?_)
    exact jr_sub [0] rfl k
set_option maxRecDepth 20000 in
theorem bX12_readHouse_16 {g : jG} {d : Nat} {hs : jH} {P : jO → jH → Prop} {x0 : Nat} {h : jH} (k : ∃ fs1 : List Value, h.1 x0 = some (.inr (12, fs1)) ∧ ∃ v4 : Int32, fs1[12]? = some (.int v4) ∧ (v4 = 0 → ∃ fs7 : List Value, h.1 x0 = some (.inr (12, fs7)) ∧ Con g mX12_readsOn d [.ref x0] h (jPv (fun (h6 : jH) => J g mX12_readHouse (d + 1) hs P 27 [(0, .ref x0)] [] h6) (fun E h' => P (.inr E) h'))) ∧ (¬ v4 = 0 → J g mX12_readHouse (d + 1) hs P 27 [(0, .ref x0)] [] h)) : J g mX12_readHouse (d + 1) hs P 16 [(0, .ref x0)] [] h := by
  refine jr_aload_n 0 dX12_readHouse_16 rfl rfl ?_
  obtain ⟨fs1, e2, v4, e3, k⟩ := k
  refine jr_get jf_X12_102 dX12_readHouse_17 e2 e3 ?_
  refine jr_if_ne (tgt := 27) dX12_readHouse_20 (by decide) (fun c20 => ?_) (fun c20 => ?_)
  · have k := k.2 c20
    exact jr_sub [0] rfl k
  · have k := k.1 c20
    refine jr_aload_n 0 dX12_readHouse_23 rfl rfl ?_
    obtain ⟨fs7, e8, k⟩ := k
    refine jr_cVv (As := []) jl_X12_121 km_X12_readsOn rfl rfl dX12_readHouse_24 e8 (Nat.le_of_ble_eq_true rfl) k (fun h6 k => ?_)
    exact jr_sub [0] rfl k
set_option maxRecDepth 20000 in
theorem bX12_readHouse_27 {g : jG} {d : Nat} {hs : jH} {P : jO → jH → Prop} {x0 : Nat} {h : jH} (k : ∃ fs1 : List Value, h.1 x0 = some (.inr (12, fs1)) ∧ ∃ v4 : Nat, fs1[1]? = some (.ref v4) ∧ ∃ (n5 : Nat) (f6 : Nat → Int32), h.1 v4 = some (.inl (0, (n5, .inl f6))) ∧ vp_in 1 n5 ∧ ∃ fs11 : List Value, h.1 x0 = some (.inr (12, fs11)) ∧ Con g mX12_number d [.ref x0, .int 0, .int 99] h (jPi (fun (r9 : Int32) (h10 : jH) => ∃ fs15 : List Value, h10.1 x0 = some (.inr (12, fs15)) ∧ Con g mX12_mustWord d [.ref x0, .ref (gS g 21)] h10 (jPv (fun (h14 : jH) => ∃ fs19 : List Value, h14.1 x0 = some (.inr (12, fs19)) ∧ Con g mX12_number d [.ref x0, .int 0, .int 99] h14 (jPi (fun (r17 : Int32) (h18 : jH) => J g mX12_readHouse (d + 1) hs P 76 [(0, .ref x0), (1, .int (jmin 6 ((f6 ((1 : Int32)).toNatClampNeg)))), (2, .int r9), (3, .int r17), (4, .int 0), (5, .int 0), (6, .int 0), (7, .int 0), (8, .int 1)] [] h18) (fun E h' => P (.inr E) h'))) (fun E h' => P (.inr E) h'))) (fun E h' => P (.inr E) h'))) : J g mX12_readHouse (d + 1) hs P 27 [(0, .ref x0)] [] h := by
  refine jr_bipush (v := 6) dX12_readHouse_27 (by decide) ?_
  refine jr_aload_n 0 dX12_readHouse_29 rfl rfl ?_
  obtain ⟨fs1, e2, v4, e3, k⟩ := k
  refine jr_get jf_X12_13 dX12_readHouse_30 e2 e3 ?_
  refine jr_iconst (v := 1) dX12_readHouse_33 (by decide) ?_
  obtain ⟨n5, f6, e7, e8, k⟩ := k
  refine jr_iald dX12_readHouse_34 e7 e8 ?_
  refine jr_mmin jl_X12_201 dX12_readHouse_35 (Nat.le_of_ble_eq_true rfl) ?_
  refine jr_istore_n (lv' := [(1, .int (jmin 6 ((f6 ((1 : Int32)).toNatClampNeg)))), (0, .ref x0)]) dX12_readHouse_38 rfl (by decide) rfl ?_
  refine jr_aload_n 1 dX12_readHouse_39 rfl rfl ?_
  refine jr_iconst (v := 0) dX12_readHouse_40 (by decide) ?_
  refine jr_bipush (v := 99) dX12_readHouse_41 (by decide) ?_
  obtain ⟨fs11, e12, k⟩ := k
  refine jr_cVi (As := [.int 0, .int 99]) jl_X12_197 km_X12_number rfl rfl dX12_readHouse_43 e12 (Nat.le_of_ble_eq_true rfl) k (fun r9 h10 k => ?_)
  refine jr_istore_n (lv' := [(2, .int r9), (1, .int (jmin 6 ((f6 ((1 : Int32)).toNatClampNeg)))), (0, .ref x0)]) dX12_readHouse_46 rfl (by decide) rfl ?_
  refine jr_aload_n 2 dX12_readHouse_47 rfl rfl ?_
  refine jr_ldcS (k9 := 21) rfl rfl rfl dX12_readHouse_48 ?_
  obtain ⟨fs15, e16, k⟩ := k
  refine jr_cVv (As := [.ref (gS g 21)]) jl_X12_206 km_X12_mustWord rfl rfl dX12_readHouse_50 e16 (Nat.le_of_ble_eq_true rfl) k (fun h14 k => ?_)
  refine jr_aload_n 2 dX12_readHouse_53 rfl rfl ?_
  refine jr_iconst (v := 0) dX12_readHouse_54 (by decide) ?_
  refine jr_bipush (v := 99) dX12_readHouse_55 (by decide) ?_
  obtain ⟨fs19, e20, k⟩ := k
  refine jr_cVi (As := [.int 0, .int 99]) jl_X12_197 km_X12_number rfl rfl dX12_readHouse_57 e20 (Nat.le_of_ble_eq_true rfl) k (fun r17 h18 k => ?_)
  refine jr_istore_n (lv' := [(3, .int r17), (2, .int r9), (1, .int (jmin 6 ((f6 ((1 : Int32)).toNatClampNeg)))), (0, .ref x0)]) dX12_readHouse_60 rfl (by decide) rfl ?_
  refine jr_iconst (v := 0) dX12_readHouse_61 (by decide) ?_
  refine jr_istore (lv' := [(4, .int 0), (3, .int r17), (2, .int r9), (1, .int (jmin 6 ((f6 ((1 : Int32)).toNatClampNeg)))), (0, .ref x0)]) dX12_readHouse_62 (by decide) rfl ?_
  refine jr_iconst (v := 0) dX12_readHouse_64 (by decide) ?_
  refine jr_istore (lv' := [(5, .int 0), (4, .int 0), (3, .int r17), (2, .int r9), (1, .int (jmin 6 ((f6 ((1 : Int32)).toNatClampNeg)))), (0, .ref x0)]) dX12_readHouse_65 (by decide) rfl ?_
  refine jr_iconst (v := 0) dX12_readHouse_67 (by decide) ?_
  refine jr_istore (lv' := [(6, .int 0), (5, .int 0), (4, .int 0), (3, .int r17), (2, .int r9), (1, .int (jmin 6 ((f6 ((1 : Int32)).toNatClampNeg)))), (0, .ref x0)]) dX12_readHouse_68 (by decide) rfl ?_
  refine jr_iconst (v := 0) dX12_readHouse_70 (by decide) ?_
  refine jr_istore (lv' := [(7, .int 0), (6, .int 0), (5, .int 0), (4, .int 0), (3, .int r17), (2, .int r9), (1, .int (jmin 6 ((f6 ((1 : Int32)).toNatClampNeg)))), (0, .ref x0)]) dX12_readHouse_71 (by decide) rfl ?_
  refine jr_iconst (v := 1) dX12_readHouse_73 (by decide) ?_
  refine jr_istore (lv' := [(8, .int 1), (7, .int 0), (6, .int 0), (5, .int 0), (4, .int 0), (3, .int r17), (2, .int r9), (1, .int (jmin 6 ((f6 ((1 : Int32)).toNatClampNeg)))), (0, .ref x0)]) dX12_readHouse_74 (by decide) rfl ?_
  exact jr_sub [8, 7, 6, 5, 4, 3, 2, 1, 0] rfl k
set_option maxRecDepth 20000 in
theorem bX12_readHouse_76 {g : jG} {d : Nat} {hs : jH} {P : jO → jH → Prop} {x0 : Nat} {x1 : Int32} {x2 : Int32} {x3 : Int32} {x4 : Int32} {x5 : Int32} {x6 : Int32} {x7 : Int32} {x8 : Int32} {h : jH} (k : ∃ fs1 : List Value, h.1 x0 = some (.inr (12, fs1)) ∧ ∃ v4 : Int32, fs1[12]? = some (.int v4) ∧ (v4 = 0 → (x8 = 0 → J g mX12_readHouse (d + 1) hs P 174 [(0, .ref x0), (1, .int x1), (2, .int x2), (3, .int x3), (4, .int x4), (5, .int x5), (6, .int x6), (7, .int x7)] [] h) ∧ (¬ x8 = 0 → ∃ fs7 : List Value, h.1 x0 = some (.inr (12, fs7)) ∧ Con g mX12_took d [.ref x0, .ref (gS g 22)] h (jPi (fun (r5 : Int32) (h6 : jH) => (r5 = 0 → ∃ fs11 : List Value, h6.1 x0 = some (.inr (12, fs11)) ∧ Con g mX12_took d [.ref x0, .ref (gS g 23)] h6 (jPi (fun (r9 : Int32) (h10 : jH) => (r9 = 0 → ∃ fs15 : List Value, h10.1 x0 = some (.inr (12, fs15)) ∧ Con g mX12_took d [.ref x0, .ref (gS g 24)] h10 (jPi (fun (r13 : Int32) (h14 : jH) => (r13 = 0 → ∃ fs19 : List Value, h14.1 x0 = some (.inr (12, fs19)) ∧ Con g mX12_took d [.ref x0, .ref (gS g 25)] h14 (jPi (fun (r17 : Int32) (h18 : jH) => (r17 = 0 → J g mX12_readHouse (d + 1) hs P 76 [(0, .ref x0), (1, .int x1), (2, .int x2), (3, .int x3), (4, .int x4), (5, .int x5), (6, .int x6), (7, .int x7), (8, .int 0)] [] h18) ∧ (¬ r17 = 0 → J g mX12_readHouse (d + 1) hs P 76 [(0, .ref x0), (1, .int x1), (2, .int x2), (3, .int x3), (4, .int x4), (5, .int x5), (6, .int x6), (7, .int 1), (8, .int x8)] [] h18)) (fun E h' => P (.inr E) h'))) ∧ (¬ r13 = 0 → ∃ fs23 : List Value, h14.1 x0 = some (.inr (12, fs23)) ∧ Con g mX12_number d [.ref x0, .int 0, .int 20] h14 (jPi (fun (r21 : Int32) (h22 : jH) => J g mX12_readHouse (d + 1) hs P 76 [(0, .ref x0), (1, .int x1), (2, .int x2), (3, .int x3), (4, .int x4), (5, .int x5), (6, .int r21), (7, .int x7), (8, .int x8)] [] h22) (fun E h' => P (.inr E) h')))) (fun E h' => P (.inr E) h'))) ∧ (¬ r9 = 0 → ∃ fs27 : List Value, h10.1 x0 = some (.inr (12, fs27)) ∧ Con g mX12_number d [.ref x0, .int 0, .int 999] h10 (jPi (fun (r25 : Int32) (h26 : jH) => J g mX12_readHouse (d + 1) hs P 76 [(0, .ref x0), (1, .int x1), (2, .int x2), (3, .int x3), (4, .int x4), (5, .int r25), (6, .int x6), (7, .int x7), (8, .int x8)] [] h26) (fun E h' => P (.inr E) h')))) (fun E h' => P (.inr E) h'))) ∧ (¬ r5 = 0 → ∃ fs31 : List Value, h6.1 x0 = some (.inr (12, fs31)) ∧ Con g mX12_number d [.ref x0, .int 0, .int 999] h6 (jPi (fun (r29 : Int32) (h30 : jH) => J g mX12_readHouse (d + 1) hs P 76 [(0, .ref x0), (1, .int x1), (2, .int x2), (3, .int x3), (4, .int r29), (5, .int x5), (6, .int x6), (7, .int x7), (8, .int x8)] [] h30) (fun E h' => P (.inr E) h')))) (fun E h' => P (.inr E) h')))) ∧ (¬ v4 = 0 → J g mX12_readHouse (d + 1) hs P 174 [(0, .ref x0), (1, .int x1), (2, .int x2), (3, .int x3), (4, .int x4), (5, .int x5), (6, .int x6), (7, .int x7)] [] h)) : J g mX12_readHouse (d + 1) hs P 76 [(0, .ref x0), (1, .int x1), (2, .int x2), (3, .int x3), (4, .int x4), (5, .int x5), (6, .int x6), (7, .int x7), (8, .int x8)] [] h := by
  refine jr_aload_n 0 dX12_readHouse_76 rfl rfl ?_
  obtain ⟨fs1, e2, v4, e3, k⟩ := k
  refine jr_get jf_X12_102 dX12_readHouse_77 e2 e3 ?_
  refine jr_if_ne (tgt := 174) dX12_readHouse_80 (by decide) (fun c80 => ?_) (fun c80 => ?_)
  · have k := k.2 c80
    exact jr_sub [0, 1, 2, 3, 4, 5, 6, 7] rfl k
  · have k := k.1 c80
    refine jr_iload 8 dX12_readHouse_83 rfl ?_
    refine jr_if_eq (tgt := 174) dX12_readHouse_85 (by decide) (fun c85 => ?_) (fun c85 => ?_)
    · have k := k.1 c85
      exact jr_sub [0, 1, 2, 3, 4, 5, 6, 7] rfl k
    · have k := k.2 c85
      refine jr_aload_n 0 dX12_readHouse_88 rfl rfl ?_
      refine jr_ldcS (k9 := 22) rfl rfl rfl dX12_readHouse_89 ?_
      obtain ⟨fs7, e8, k⟩ := k
      refine jr_cVi (As := [.ref (gS g 22)]) jl_X12_132 km_X12_took rfl rfl dX12_readHouse_91 e8 (Nat.le_of_ble_eq_true rfl) k (fun r5 h6 k => ?_)
      refine jr_if_eq (tgt := 110) dX12_readHouse_94 (by decide) (fun c94 => ?_) (fun c94 => ?_)
      · have k := k.1 c94
        refine jr_aload_n 0 dX12_readHouse_110 rfl rfl ?_
        refine jr_ldcS (k9 := 23) rfl rfl rfl dX12_readHouse_111 ?_
        obtain ⟨fs11, e12, k⟩ := k
        refine jr_cVi (As := [.ref (gS g 23)]) jl_X12_132 km_X12_took rfl rfl dX12_readHouse_113 e12 (Nat.le_of_ble_eq_true rfl) k (fun r9 h10 k => ?_)
        refine jr_if_eq (tgt := 132) dX12_readHouse_116 (by decide) (fun c116 => ?_) (fun c116 => ?_)
        · have k := k.1 c116
          refine jr_aload_n 0 dX12_readHouse_132 rfl rfl ?_
          refine jr_ldcS (k9 := 24) rfl rfl rfl dX12_readHouse_133 ?_
          obtain ⟨fs15, e16, k⟩ := k
          refine jr_cVi (As := [.ref (gS g 24)]) jl_X12_132 km_X12_took rfl rfl dX12_readHouse_135 e16 (Nat.le_of_ble_eq_true rfl) k (fun r13 h14 k => ?_)
          refine jr_if_eq (tgt := 153) dX12_readHouse_138 (by decide) (fun c138 => ?_) (fun c138 => ?_)
          · have k := k.1 c138
            refine jr_aload_n 0 dX12_readHouse_153 rfl rfl ?_
            refine jr_ldcS (k9 := 25) rfl rfl rfl dX12_readHouse_154 ?_
            obtain ⟨fs19, e20, k⟩ := k
            refine jr_cVi (As := [.ref (gS g 25)]) jl_X12_132 km_X12_took rfl rfl dX12_readHouse_156 e20 (Nat.le_of_ble_eq_true rfl) k (fun r17 h18 k => ?_)
            refine jr_if_eq (tgt := 168) dX12_readHouse_159 (by decide) (fun c159 => ?_) (fun c159 => ?_)
            · have k := k.1 c159
              refine jr_iconst (v := 0) dX12_readHouse_168 (by decide) ?_
              refine jr_istore (lv' := [(8, .int 0), (0, .ref x0), (1, .int x1), (2, .int x2), (3, .int x3), (4, .int x4), (5, .int x5), (6, .int x6), (7, .int x7)]) dX12_readHouse_169 (by decide) rfl ?_
              refine jr_goto (tgt := 76) dX12_readHouse_171 (by decide) ?_
              exact jr_sub [1, 2, 3, 4, 5, 6, 7, 8, 0] rfl k
            · have k := k.2 c159
              refine jr_iconst (v := 1) dX12_readHouse_162 (by decide) ?_
              refine jr_istore (lv' := [(7, .int 1), (0, .ref x0), (1, .int x1), (2, .int x2), (3, .int x3), (4, .int x4), (5, .int x5), (6, .int x6), (8, .int x8)]) dX12_readHouse_163 (by decide) rfl ?_
              refine jr_goto (tgt := 76) dX12_readHouse_165 (by decide) ?_
              exact jr_sub [1, 2, 3, 4, 5, 6, 7, 0, 8] rfl k
          · have k := k.2 c138
            refine jr_aload_n 0 dX12_readHouse_141 rfl rfl ?_
            refine jr_iconst (v := 0) dX12_readHouse_142 (by decide) ?_
            refine jr_bipush (v := 20) dX12_readHouse_143 (by decide) ?_
            obtain ⟨fs23, e24, k⟩ := k
            refine jr_cVi (As := [.int 0, .int 20]) jl_X12_197 km_X12_number rfl rfl dX12_readHouse_145 e24 (Nat.le_of_ble_eq_true rfl) k (fun r21 h22 k => ?_)
            refine jr_istore (lv' := [(6, .int r21), (0, .ref x0), (1, .int x1), (2, .int x2), (3, .int x3), (4, .int x4), (5, .int x5), (7, .int x7), (8, .int x8)]) dX12_readHouse_148 (by decide) rfl ?_
            refine jr_goto (tgt := 76) dX12_readHouse_150 (by decide) ?_
            exact jr_sub [1, 2, 3, 4, 5, 6, 0, 7, 8] rfl k
        · have k := k.2 c116
          refine jr_aload_n 0 dX12_readHouse_119 rfl rfl ?_
          refine jr_iconst (v := 0) dX12_readHouse_120 (by decide) ?_
          refine jr_sipush (v := 999) dX12_readHouse_121 (by decide) ?_
          obtain ⟨fs27, e28, k⟩ := k
          refine jr_cVi (As := [.int 0, .int 999]) jl_X12_197 km_X12_number rfl rfl dX12_readHouse_124 e28 (Nat.le_of_ble_eq_true rfl) k (fun r25 h26 k => ?_)
          refine jr_istore (lv' := [(5, .int r25), (0, .ref x0), (1, .int x1), (2, .int x2), (3, .int x3), (4, .int x4), (6, .int x6), (7, .int x7), (8, .int x8)]) dX12_readHouse_127 (by decide) rfl ?_
          refine jr_goto (tgt := 76) dX12_readHouse_129 (by decide) ?_
          exact jr_sub [1, 2, 3, 4, 5, 0, 6, 7, 8] rfl k
      · have k := k.2 c94
        refine jr_aload_n 0 dX12_readHouse_97 rfl rfl ?_
        refine jr_iconst (v := 0) dX12_readHouse_98 (by decide) ?_
        refine jr_sipush (v := 999) dX12_readHouse_99 (by decide) ?_
        obtain ⟨fs31, e32, k⟩ := k
        refine jr_cVi (As := [.int 0, .int 999]) jl_X12_197 km_X12_number rfl rfl dX12_readHouse_102 e32 (Nat.le_of_ble_eq_true rfl) k (fun r29 h30 k => ?_)
        refine jr_istore (lv' := [(4, .int r29), (0, .ref x0), (1, .int x1), (2, .int x2), (3, .int x3), (5, .int x5), (6, .int x6), (7, .int x7), (8, .int x8)]) dX12_readHouse_105 (by decide) rfl ?_
        refine jr_goto (tgt := 76) dX12_readHouse_107 (by decide) ?_
        exact jr_sub [1, 2, 3, 4, 0, 5, 6, 7, 8] rfl k
set_option maxRecDepth 20000 in
theorem bX12_readHouse_174 {g : jG} {d : Nat} {hs : jH} {P : jO → jH → Prop} {x0 : Nat} {x1 : Int32} {x2 : Int32} {x3 : Int32} {x4 : Int32} {x5 : Int32} {x6 : Int32} {x7 : Int32} {h : jH} (k : ∃ fs1 : List Value, h.1 x0 = some (.inr (12, fs1)) ∧ ∃ v4 : Int32, fs1[12]? = some (.int v4) ∧ (v4 = 0 → ∃ fs5 : List Value, h.1 x0 = some (.inr (12, fs5)) ∧ ∃ v8 : Nat, fs5[1]? = some (.ref v8) ∧ ∃ (n9 : Nat) (f10 : Nat → Int32), h.1 v8 = some (.inl (0, (n9, .inl f10))) ∧ vp_in (8 + x1) n9 ∧ ∀ h13 : jH, h13 = jset h v8 (.inl (0, (n9, .inl (upd f10 ((8 + x1)).toNatClampNeg x2)))) → ∃ fs15 : List Value, h13.1 x0 = some (.inr (12, fs15)) ∧ ∃ v18 : Nat, fs15[1]? = some (.ref v18) ∧ ∃ (n19 : Nat) (f20 : Nat → Int32), h13.1 v18 = some (.inl (0, (n19, .inl f20))) ∧ vp_in (15 + x1) n19 ∧ ∀ h23 : jH, h23 = jset h13 v18 (.inl (0, (n19, .inl (upd f20 ((15 + x1)).toNatClampNeg x3)))) → ∃ fs25 : List Value, h23.1 x0 = some (.inr (12, fs25)) ∧ ∃ v28 : Nat, fs25[1]? = some (.ref v28) ∧ (x7 = 1 → J g mX12_readHouse (d + 1) hs P 222 [(0, .ref x0), (1, .int x1), (5, .int x5), (6, .int x6), (7, .int x7)] [.int 0, .int (22 + x1), .ref v28] h23) ∧ (¬ x7 = 1 → J g mX12_readHouse (d + 1) hs P 222 [(0, .ref x0), (1, .int x1), (5, .int x5), (6, .int x6), (7, .int x7)] [.int x4, .int (22 + x1), .ref v28] h23)) ∧ (¬ v4 = 0 → P (.inl none) h)) : J g mX12_readHouse (d + 1) hs P 174 [(0, .ref x0), (1, .int x1), (2, .int x2), (3, .int x3), (4, .int x4), (5, .int x5), (6, .int x6), (7, .int x7)] [] h := by
  refine jr_aload_n 0 dX12_readHouse_174 rfl rfl ?_
  obtain ⟨fs1, e2, v4, e3, k⟩ := k
  refine jr_get jf_X12_102 dX12_readHouse_175 e2 e3 ?_
  refine jr_if_eq (tgt := 182) dX12_readHouse_178 (by decide) (fun c178 => ?_) (fun c178 => ?_)
  · have k := k.1 c178
    refine jr_aload_n 0 dX12_readHouse_182 rfl rfl ?_
    obtain ⟨fs5, e6, v8, e7, k⟩ := k
    refine jr_get jf_X12_13 dX12_readHouse_183 e6 e7 ?_
    refine jr_bipush (v := 8) dX12_readHouse_186 (by decide) ?_
    refine jr_iload_n 1 dX12_readHouse_188 rfl rfl ?_
    refine jr_iadd dX12_readHouse_189 ?_
    refine jr_iload_n 2 dX12_readHouse_190 rfl rfl ?_
    obtain ⟨n9, f10, e11, e12, k⟩ := k
    refine jr_iastE dX12_readHouse_191 e11 e12 (fun h13 eh14 => ?_)
    have k := k h13 eh14
    refine jr_aload_n 0 dX12_readHouse_192 rfl rfl ?_
    obtain ⟨fs15, e16, v18, e17, k⟩ := k
    refine jr_get jf_X12_13 dX12_readHouse_193 e16 e17 ?_
    refine jr_bipush (v := 15) dX12_readHouse_196 (by decide) ?_
    refine jr_iload_n 1 dX12_readHouse_198 rfl rfl ?_
    refine jr_iadd dX12_readHouse_199 ?_
    refine jr_iload_n 3 dX12_readHouse_200 rfl rfl ?_
    obtain ⟨n19, f20, e21, e22, k⟩ := k
    refine jr_iastE dX12_readHouse_201 e21 e22 (fun h23 eh24 => ?_)
    have k := k h23 eh24
    refine jr_aload_n 0 dX12_readHouse_202 rfl rfl ?_
    obtain ⟨fs25, e26, v28, e27, k⟩ := k
    refine jr_get jf_X12_13 dX12_readHouse_203 e26 e27 ?_
    refine jr_bipush (v := 22) dX12_readHouse_206 (by decide) ?_
    refine jr_iload_n 1 dX12_readHouse_208 rfl rfl ?_
    refine jr_iadd dX12_readHouse_209 ?_
    refine jr_iload 7 dX12_readHouse_210 rfl ?_
    refine jr_iconst (v := 1) dX12_readHouse_212 (by decide) ?_
    refine jr_icmp_ne (tgt := 220) dX12_readHouse_213 (by decide) (fun c213 => ?_) (fun c213 => ?_)
    · have k := k.2 c213
      refine jr_iload 4 dX12_readHouse_220 rfl ?_
      exact jr_sub [0, 1, 5, 6, 7] rfl k
    · have k := k.1 c213
      refine jr_iconst (v := 0) dX12_readHouse_216 (by decide) ?_
      refine jr_goto (tgt := 222) dX12_readHouse_217 (by decide) ?_
      exact jr_sub [0, 1, 5, 6, 7] rfl k
  · have k := k.2 c178
    exact jr_vret rfl dX12_readHouse_181 k
set_option maxRecDepth 20000 in
theorem bX12_readHouse_222 {g : jG} {d : Nat} {hs : jH} {P : jO → jH → Prop} {x0 : Nat} {x1 : Int32} {x5 : Int32} {x6 : Int32} {x7 : Int32} {s0 : Nat} {s1 : Int32} {s2 : Int32} {h : jH} (k : ∃ (n1 : Nat) (f2 : Nat → Int32), h.1 s0 = some (.inl (0, (n1, .inl f2))) ∧ vp_in s1 n1 ∧ ∀ h5 : jH, h5 = jset h s0 (.inl (0, (n1, .inl (upd f2 s1.toNatClampNeg s2)))) → ∃ fs7 : List Value, h5.1 x0 = some (.inr (12, fs7)) ∧ ∃ v10 : Nat, fs7[1]? = some (.ref v10) ∧ ∃ (n11 : Nat) (f12 : Nat → Int32), h5.1 v10 = some (.inl (0, (n11, .inl f12))) ∧ vp_in (29 + x1) n11 ∧ ∀ h15 : jH, h15 = jset h5 v10 (.inl (0, (n11, .inl (upd f12 ((29 + x1)).toNatClampNeg x7)))) → ∃ fs17 : List Value, h15.1 x0 = some (.inr (12, fs17)) ∧ ∃ v20 : Nat, fs17[1]? = some (.ref v20) ∧ ∃ (n21 : Nat) (f22 : Nat → Int32), h15.1 v20 = some (.inl (0, (n21, .inl f22))) ∧ vp_in (36 + x1) n21 ∧ ∀ h25 : jH, h25 = jset h15 v20 (.inl (0, (n21, .inl (upd f22 ((36 + x1)).toNatClampNeg x5)))) → ∃ fs27 : List Value, h25.1 x0 = some (.inr (12, fs27)) ∧ ∃ v30 : Nat, fs27[1]? = some (.ref v30) ∧ ∃ (n31 : Nat) (f32 : Nat → Int32), h25.1 v30 = some (.inl (0, (n31, .inl f32))) ∧ vp_in (43 + x1) n31 ∧ ∀ h35 : jH, h35 = jset h25 v30 (.inl (0, (n31, .inl (upd f32 ((43 + x1)).toNatClampNeg x6)))) → ∃ fs37 : List Value, h35.1 x0 = some (.inr (12, fs37)) ∧ ∃ v40 : Nat, fs37[1]? = some (.ref v40) ∧ ∃ (n41 : Nat) (f42 : Nat → Int32), h35.1 v40 = some (.inl (0, (n41, .inl f42))) ∧ vp_in 1 n41 ∧ ∃ (n45 : Nat) (f46 : Nat → Int32), h35.1 v40 = some (.inl (0, (n45, .inl f46))) ∧ vp_in 1 n45 ∧ ∀ h49 : jH, h49 = jset h35 v40 (.inl (0, (n45, .inl (upd f46 ((1 : Int32)).toNatClampNeg (((f42 ((1 : Int32)).toNatClampNeg) + 1)))))) → P (.inl none) h49) : J g mX12_readHouse (d + 1) hs P 222 [(0, .ref x0), (1, .int x1), (5, .int x5), (6, .int x6), (7, .int x7)] [.int s2, .int s1, .ref s0] h := by
  obtain ⟨n1, f2, e3, e4, k⟩ := k
  refine jr_iastE dX12_readHouse_222 e3 e4 (fun h5 eh6 => ?_)
  have k := k h5 eh6
  refine jr_aload_n 0 dX12_readHouse_223 rfl rfl ?_
  obtain ⟨fs7, e8, v10, e9, k⟩ := k
  refine jr_get jf_X12_13 dX12_readHouse_224 e8 e9 ?_
  refine jr_bipush (v := 29) dX12_readHouse_227 (by decide) ?_
  refine jr_iload_n 1 dX12_readHouse_229 rfl rfl ?_
  refine jr_iadd dX12_readHouse_230 ?_
  refine jr_iload 4 dX12_readHouse_231 rfl ?_
  obtain ⟨n11, f12, e13, e14, k⟩ := k
  refine jr_iastE dX12_readHouse_233 e13 e14 (fun h15 eh16 => ?_)
  have k := k h15 eh16
  refine jr_aload_n 0 dX12_readHouse_234 rfl rfl ?_
  obtain ⟨fs17, e18, v20, e19, k⟩ := k
  refine jr_get jf_X12_13 dX12_readHouse_235 e18 e19 ?_
  refine jr_bipush (v := 36) dX12_readHouse_238 (by decide) ?_
  refine jr_iload_n 1 dX12_readHouse_240 rfl rfl ?_
  refine jr_iadd dX12_readHouse_241 ?_
  refine jr_iload 2 dX12_readHouse_242 rfl ?_
  obtain ⟨n21, f22, e23, e24, k⟩ := k
  refine jr_iastE dX12_readHouse_244 e23 e24 (fun h25 eh26 => ?_)
  have k := k h25 eh26
  refine jr_aload_n 0 dX12_readHouse_245 rfl rfl ?_
  obtain ⟨fs27, e28, v30, e29, k⟩ := k
  refine jr_get jf_X12_13 dX12_readHouse_246 e28 e29 ?_
  refine jr_bipush (v := 43) dX12_readHouse_249 (by decide) ?_
  refine jr_iload_n 1 dX12_readHouse_251 rfl rfl ?_
  refine jr_iadd dX12_readHouse_252 ?_
  refine jr_iload 3 dX12_readHouse_253 rfl ?_
  obtain ⟨n31, f32, e33, e34, k⟩ := k
  refine jr_iastE dX12_readHouse_255 e33 e34 (fun h35 eh36 => ?_)
  have k := k h35 eh36
  refine jr_aload_n 0 dX12_readHouse_256 rfl rfl ?_
  obtain ⟨fs37, e38, v40, e39, k⟩ := k
  refine jr_get jf_X12_13 dX12_readHouse_257 e38 e39 ?_
  refine jr_iconst (v := 1) dX12_readHouse_260 (by decide) ?_
  refine jr_dup2 dX12_readHouse_261 rfl rfl ?_
  obtain ⟨n41, f42, e43, e44, k⟩ := k
  refine jr_iald dX12_readHouse_262 e43 e44 ?_
  refine jr_iconst (v := 1) dX12_readHouse_263 (by decide) ?_
  refine jr_iadd dX12_readHouse_264 ?_
  obtain ⟨n45, f46, e47, e48, k⟩ := k
  refine jr_iastE dX12_readHouse_265 e47 e48 (fun h49 eh50 => ?_)
  have k := k h49 eh50
  exact jr_vret rfl dX12_readHouse_266 k
set_option maxRecDepth 20000 in
theorem bX12_readStop_0 {g : jG} {d : Nat} {hs : jH} {P : jO → jH → Prop} {x0 : Nat} {h : jH} (k : ∃ fs3 : List Value, h.1 x0 = some (.inr (12, fs3)) ∧ Con g mX12_mustSign d [.ref x0, .int 59] h (jPv (fun (h2 : jH) => ∃ fs5 : List Value, h2.1 x0 = some (.inr (12, fs5)) ∧ ∃ v8 : Int32, fs5[12]? = some (.int v8) ∧ (v8 = 0 → ∃ fs9 : List Value, h2.1 x0 = some (.inr (12, fs9)) ∧ ∃ v12 : Nat, fs9[1]? = some (.ref v12) ∧ ∃ (n13 : Nat) (f14 : Nat → Int32), h2.1 v12 = some (.inl (0, (n13, .inl f14))) ∧ vp_in 0 n13 ∧ ∃ (n17 : Nat) (f18 : Nat → Int32), h2.1 v12 = some (.inl (0, (n17, .inl f18))) ∧ vp_in 0 n17 ∧ ∀ h21 : jH, h21 = jset h2 v12 (.inl (0, (n17, .inl (upd f18 ((0 : Int32)).toNatClampNeg (((f14 ((0 : Int32)).toNatClampNeg) + 1)))))) → P (.inl none) h21) ∧ (¬ v8 = 0 → P (.inl none) h2)) (fun E h' => P (.inr E) h'))) : J g mX12_readStop (d + 1) hs P 0 [(0, .ref x0)] [] h := by
  refine jr_aload_n 0 dX12_readStop_0 rfl rfl ?_
  refine jr_bipush (v := 59) dX12_readStop_1 (by decide) ?_
  obtain ⟨fs3, e4, k⟩ := k
  refine jr_cVv (As := [.int 59]) jl_X12_141 km_X12_mustSign rfl rfl dX12_readStop_3 e4 (Nat.le_of_ble_eq_true rfl) k (fun h2 k => ?_)
  refine jr_aload_n 0 dX12_readStop_6 rfl rfl ?_
  obtain ⟨fs5, e6, v8, e7, k⟩ := k
  refine jr_get jf_X12_102 dX12_readStop_7 e6 e7 ?_
  refine jr_if_ne (tgt := 23) dX12_readStop_10 (by decide) (fun c10 => ?_) (fun c10 => ?_)
  · have k := k.2 c10
    exact jr_vret rfl dX12_readStop_23 k
  · have k := k.1 c10
    refine jr_aload_n 0 dX12_readStop_13 rfl rfl ?_
    obtain ⟨fs9, e10, v12, e11, k⟩ := k
    refine jr_get jf_X12_13 dX12_readStop_14 e10 e11 ?_
    refine jr_iconst (v := 0) dX12_readStop_17 (by decide) ?_
    refine jr_dup2 dX12_readStop_18 rfl rfl ?_
    obtain ⟨n13, f14, e15, e16, k⟩ := k
    refine jr_iald dX12_readStop_19 e15 e16 ?_
    refine jr_iconst (v := 1) dX12_readStop_20 (by decide) ?_
    refine jr_iadd dX12_readStop_21 ?_
    obtain ⟨n17, f18, e19, e20, k⟩ := k
    refine jr_iastE dX12_readStop_22 e19 e20 (fun h21 eh22 => ?_)
    have k := k h21 eh22
    exact jr_vret rfl dX12_readStop_23 k
set_option maxRecDepth 20000 in
theorem bX12_readLine_0 {g : jG} {d : Nat} {hs : jH} {P : jO → jH → Prop} {x0 : Nat} {h : jH} (k : ∃ fs3 : List Value, h.1 x0 = some (.inr (12, fs3)) ∧ Con g mX12_isWord d [.ref x0, .ref (gS g 20)] h (jPi (fun (r1 : Int32) (h2 : jH) => (r1 = 0 → ∃ fs7 : List Value, h2.1 x0 = some (.inr (12, fs7)) ∧ Con g mX12_took d [.ref x0, .ref (gS g 26)] h2 (jPi (fun (r5 : Int32) (h6 : jH) => (r5 = 0 → ∃ fs11 : List Value, h6.1 x0 = some (.inr (12, fs11)) ∧ Con g mX12_took d [.ref x0, .ref (gS g 27)] h6 (jPi (fun (r9 : Int32) (h10 : jH) => (r9 = 0 → ∃ fs15 : List Value, h10.1 x0 = some (.inr (12, fs15)) ∧ Con g mX12_took d [.ref x0, .ref (gS g 28)] h10 (jPi (fun (r13 : Int32) (h14 : jH) => (r13 = 0 → ∃ fs19 : List Value, h14.1 x0 = some (.inr (12, fs19)) ∧ Con g mX12_took d [.ref x0, .ref (gS g 32)] h14 (jPi (fun (r17 : Int32) (h18 : jH) => (r17 = 0 → ∃ fs23 : List Value, h18.1 x0 = some (.inr (12, fs23)) ∧ Con g mX12_took d [.ref x0, .ref (gS g 33)] h18 (jPi (fun (r21 : Int32) (h22 : jH) => (r21 = 0 → ∃ fs27 : List Value, h22.1 x0 = some (.inr (12, fs27)) ∧ Con g mX12_blames d [.ref x0, .int 2] h22 (jPv (fun (h26 : jH) => J g mX12_readLine (d + 1) hs P 147 [(0, .ref x0)] [] h26) (fun E h' => P (.inr E) h'))) ∧ (¬ r21 = 0 → ∃ fs31 : List Value, h22.1 x0 = some (.inr (12, fs31)) ∧ Con g mX12_beginsLaw d [.ref x0, .int 6, .int 2336] h22 (jPv (fun (h30 : jH) => ∃ fs35 : List Value, h30.1 x0 = some (.inr (12, fs35)) ∧ Con g mX12_readTruth d [.ref x0] h30 (jPv (fun (h34 : jH) => J g mX12_readLine (d + 1) hs P 147 [(0, .ref x0)] [] h34) (fun E h' => P (.inr E) h'))) (fun E h' => P (.inr E) h')))) (fun E h' => P (.inr E) h'))) ∧ (¬ r17 = 0 → ∃ fs39 : List Value, h18.1 x0 = some (.inr (12, fs39)) ∧ Con g mX12_beginsLaw d [.ref x0, .int 5, .int 1436] h18 (jPv (fun (h38 : jH) => ∃ fs43 : List Value, h38.1 x0 = some (.inr (12, fs43)) ∧ Con g mX12_readSum d [.ref x0] h38 (jPv (fun (h42 : jH) => J g mX12_readLine (d + 1) hs P 147 [(0, .ref x0)] [] h42) (fun E h' => P (.inr E) h'))) (fun E h' => P (.inr E) h')))) (fun E h' => P (.inr E) h'))) ∧ (¬ r13 = 0 → ∃ fs47 : List Value, h14.1 x0 = some (.inr (12, fs47)) ∧ Con g mX12_beginsLaw d [.ref x0, .int 4, .int 536] h14 (jPv (fun (h46 : jH) => ∃ fs51 : List Value, h46.1 x0 = some (.inr (12, fs51)) ∧ Con g mX12_readSum d [.ref x0] h46 (jPv (fun (h50 : jH) => J g mX12_readLine (d + 1) hs P 147 [(0, .ref x0)] [] h50) (fun E h' => P (.inr E) h'))) (fun E h' => P (.inr E) h')))) (fun E h' => P (.inr E) h'))) ∧ (¬ r9 = 0 → ∃ fs53 : List Value, h10.1 x0 = some (.inr (12, fs53)) ∧ ∃ v56 : Nat, fs53[1]? = some (.ref v56) ∧ ∃ fs59 : List Value, h10.1 x0 = some (.inr (12, fs59)) ∧ Con g mX12_number d [.ref x0, .int 0, .int 999] h10 (jPi (fun (r57 : Int32) (h58 : jH) => ∃ (n61 : Nat) (f62 : Nat → Int32), h58.1 v56 = some (.inl (0, (n61, .inl f62))) ∧ vp_in 51 n61 ∧ ∀ h65 : jH, h65 = jset h58 v56 (.inl (0, (n61, .inl (upd f62 ((51 : Int32)).toNatClampNeg r57)))) → J g mX12_readLine (d + 1) hs P 147 [(0, .ref x0)] [] h65) (fun E h' => P (.inr E) h')))) (fun E h' => P (.inr E) h'))) ∧ (¬ r5 = 0 → ∃ fs67 : List Value, h6.1 x0 = some (.inr (12, fs67)) ∧ ∃ v70 : Nat, fs67[1]? = some (.ref v70) ∧ ∃ fs73 : List Value, h6.1 x0 = some (.inr (12, fs73)) ∧ Con g mX12_number d [.ref x0, .int 0, .int 999] h6 (jPi (fun (r71 : Int32) (h72 : jH) => ∃ (n75 : Nat) (f76 : Nat → Int32), h72.1 v70 = some (.inl (0, (n75, .inl f76))) ∧ vp_in 3 n75 ∧ ∀ h79 : jH, h79 = jset h72 v70 (.inl (0, (n75, .inl (upd f76 ((3 : Int32)).toNatClampNeg r71)))) → J g mX12_readLine (d + 1) hs P 147 [(0, .ref x0)] [] h79) (fun E h' => P (.inr E) h')))) (fun E h' => P (.inr E) h'))) ∧ (¬ r1 = 0 → ∃ fs83 : List Value, h2.1 x0 = some (.inr (12, fs83)) ∧ Con g mX12_readHouse d [.ref x0] h2 (jPv (fun (h82 : jH) => J g mX12_readLine (d + 1) hs P 147 [(0, .ref x0)] [] h82) (fun E h' => P (.inr E) h')))) (fun E h' => P (.inr E) h'))) : J g mX12_readLine (d + 1) hs P 0 [(0, .ref x0)] [] h := by
  refine jr_aload_n 0 dX12_readLine_0 rfl rfl ?_
  refine jr_ldcS (k9 := 20) rfl rfl rfl dX12_readLine_1 ?_
  obtain ⟨fs3, e4, k⟩ := k
  refine jr_cVi (As := [.ref (gS g 20)]) jl_X12_117 km_X12_isWord rfl rfl dX12_readLine_3 e4 (Nat.le_of_ble_eq_true rfl) k (fun r1 h2 k => ?_)
  refine jr_if_eq (tgt := 16) dX12_readLine_6 (by decide) (fun c6 => ?_) (fun c6 => ?_)
  · have k := k.1 c6
    refine jr_aload_n 0 dX12_readLine_16 rfl rfl ?_
    refine jr_ldcS (k9 := 26) rfl rfl rfl dX12_readLine_17 ?_
    obtain ⟨fs7, e8, k⟩ := k
    refine jr_cVi (As := [.ref (gS g 26)]) jl_X12_132 km_X12_took rfl rfl dX12_readLine_19 e8 (Nat.le_of_ble_eq_true rfl) k (fun r5 h6 k => ?_)
    refine jr_if_eq (tgt := 42) dX12_readLine_22 (by decide) (fun c22 => ?_) (fun c22 => ?_)
    · have k := k.1 c22
      refine jr_aload_n 0 dX12_readLine_42 rfl rfl ?_
      refine jr_ldcS (k9 := 27) rfl rfl rfl dX12_readLine_43 ?_
      obtain ⟨fs11, e12, k⟩ := k
      refine jr_cVi (As := [.ref (gS g 27)]) jl_X12_132 km_X12_took rfl rfl dX12_readLine_45 e12 (Nat.le_of_ble_eq_true rfl) k (fun r9 h10 k => ?_)
      refine jr_if_eq (tgt := 69) dX12_readLine_48 (by decide) (fun c48 => ?_) (fun c48 => ?_)
      · have k := k.1 c48
        refine jr_aload_n 0 dX12_readLine_69 rfl rfl ?_
        refine jr_ldcS (k9 := 28) rfl rfl rfl dX12_readLine_70 ?_
        obtain ⟨fs15, e16, k⟩ := k
        refine jr_cVi (As := [.ref (gS g 28)]) jl_X12_132 km_X12_took rfl rfl dX12_readLine_72 e16 (Nat.le_of_ble_eq_true rfl) k (fun r13 h14 k => ?_)
        refine jr_if_eq (tgt := 93) dX12_readLine_75 (by decide) (fun c75 => ?_) (fun c75 => ?_)
        · have k := k.1 c75
          refine jr_aload_n 0 dX12_readLine_93 rfl rfl ?_
          refine jr_ldcS (k9 := 32) rfl rfl rfl dX12_readLine_94 ?_
          obtain ⟨fs19, e20, k⟩ := k
          refine jr_cVi (As := [.ref (gS g 32)]) jl_X12_132 km_X12_took rfl rfl dX12_readLine_96 e20 (Nat.le_of_ble_eq_true rfl) k (fun r17 h18 k => ?_)
          refine jr_if_eq (tgt := 117) dX12_readLine_99 (by decide) (fun c99 => ?_) (fun c99 => ?_)
          · have k := k.1 c99
            refine jr_aload_n 0 dX12_readLine_117 rfl rfl ?_
            refine jr_ldcS (k9 := 33) rfl rfl rfl dX12_readLine_118 ?_
            obtain ⟨fs23, e24, k⟩ := k
            refine jr_cVi (As := [.ref (gS g 33)]) jl_X12_132 km_X12_took rfl rfl dX12_readLine_120 e24 (Nat.le_of_ble_eq_true rfl) k (fun r21 h22 k => ?_)
            refine jr_if_eq (tgt := 142) dX12_readLine_123 (by decide) (fun c123 => ?_) (fun c123 => ?_)
            · have k := k.1 c123
              refine jr_aload_n 0 dX12_readLine_142 rfl rfl ?_
              refine jr_iconst (v := 2) dX12_readLine_143 (by decide) ?_
              obtain ⟨fs27, e28, k⟩ := k
              refine jr_cVv (As := [.int 2]) jl_X12_124 km_X12_blames rfl rfl dX12_readLine_144 e28 (Nat.le_of_ble_eq_true rfl) k (fun h26 k => ?_)
              exact jr_sub [0] rfl k
            · have k := k.2 c123
              refine jr_aload_n 0 dX12_readLine_126 rfl rfl ?_
              refine jr_bipush (v := 6) dX12_readLine_127 (by decide) ?_
              refine jr_sipush (v := 2336) dX12_readLine_129 (by decide) ?_
              obtain ⟨fs31, e32, k⟩ := k
              refine jr_cVv (As := [.int 6, .int 2336]) jl_X12_223 km_X12_beginsLaw rfl rfl dX12_readLine_132 e32 (Nat.le_of_ble_eq_true rfl) k (fun h30 k => ?_)
              refine jr_aload_n 0 dX12_readLine_135 rfl rfl ?_
              obtain ⟨fs35, e36, k⟩ := k
              refine jr_cVv (As := []) jl_X12_168 km_X12_readTruth rfl rfl dX12_readLine_136 e36 (Nat.le_of_ble_eq_true rfl) k (fun h34 k => ?_)
              refine jr_goto (tgt := 147) dX12_readLine_139 (by decide) ?_
              exact jr_sub [0] rfl k
          · have k := k.2 c99
            refine jr_aload_n 0 dX12_readLine_102 rfl rfl ?_
            refine jr_iconst (v := 5) dX12_readLine_103 (by decide) ?_
            refine jr_sipush (v := 1436) dX12_readLine_104 (by decide) ?_
            obtain ⟨fs39, e40, k⟩ := k
            refine jr_cVv (As := [.int 5, .int 1436]) jl_X12_223 km_X12_beginsLaw rfl rfl dX12_readLine_107 e40 (Nat.le_of_ble_eq_true rfl) k (fun h38 k => ?_)
            refine jr_aload_n 0 dX12_readLine_110 rfl rfl ?_
            obtain ⟨fs43, e44, k⟩ := k
            refine jr_cVv (As := []) jl_X12_171 km_X12_readSum rfl rfl dX12_readLine_111 e44 (Nat.le_of_ble_eq_true rfl) k (fun h42 k => ?_)
            refine jr_goto (tgt := 147) dX12_readLine_114 (by decide) ?_
            exact jr_sub [0] rfl k
        · have k := k.2 c75
          refine jr_aload_n 0 dX12_readLine_78 rfl rfl ?_
          refine jr_iconst (v := 4) dX12_readLine_79 (by decide) ?_
          refine jr_sipush (v := 536) dX12_readLine_80 (by decide) ?_
          obtain ⟨fs47, e48, k⟩ := k
          refine jr_cVv (As := [.int 4, .int 536]) jl_X12_223 km_X12_beginsLaw rfl rfl dX12_readLine_83 e48 (Nat.le_of_ble_eq_true rfl) k (fun h46 k => ?_)
          refine jr_aload_n 0 dX12_readLine_86 rfl rfl ?_
          obtain ⟨fs51, e52, k⟩ := k
          refine jr_cVv (As := []) jl_X12_171 km_X12_readSum rfl rfl dX12_readLine_87 e52 (Nat.le_of_ble_eq_true rfl) k (fun h50 k => ?_)
          refine jr_goto (tgt := 147) dX12_readLine_90 (by decide) ?_
          exact jr_sub [0] rfl k
      · have k := k.2 c48
        refine jr_aload_n 0 dX12_readLine_51 rfl rfl ?_
        obtain ⟨fs53, e54, v56, e55, k⟩ := k
        refine jr_get jf_X12_13 dX12_readLine_52 e54 e55 ?_
        refine jr_bipush (v := 51) dX12_readLine_55 (by decide) ?_
        refine jr_aload_n 0 dX12_readLine_57 rfl rfl ?_
        refine jr_iconst (v := 0) dX12_readLine_58 (by decide) ?_
        refine jr_sipush (v := 999) dX12_readLine_59 (by decide) ?_
        obtain ⟨fs59, e60, k⟩ := k
        refine jr_cVi (As := [.int 0, .int 999]) jl_X12_197 km_X12_number rfl rfl dX12_readLine_62 e60 (Nat.le_of_ble_eq_true rfl) k (fun r57 h58 k => ?_)
        obtain ⟨n61, f62, e63, e64, k⟩ := k
        refine jr_iastE dX12_readLine_65 e63 e64 (fun h65 eh66 => ?_)
        have k := k h65 eh66
        refine jr_goto (tgt := 147) dX12_readLine_66 (by decide) ?_
        exact jr_sub [0] rfl k
    · have k := k.2 c22
      refine jr_aload_n 0 dX12_readLine_25 rfl rfl ?_
      obtain ⟨fs67, e68, v70, e69, k⟩ := k
      refine jr_get jf_X12_13 dX12_readLine_26 e68 e69 ?_
      refine jr_iconst (v := 3) dX12_readLine_29 (by decide) ?_
      refine jr_aload_n 0 dX12_readLine_30 rfl rfl ?_
      refine jr_iconst (v := 0) dX12_readLine_31 (by decide) ?_
      refine jr_sipush (v := 999) dX12_readLine_32 (by decide) ?_
      obtain ⟨fs73, e74, k⟩ := k
      refine jr_cVi (As := [.int 0, .int 999]) jl_X12_197 km_X12_number rfl rfl dX12_readLine_35 e74 (Nat.le_of_ble_eq_true rfl) k (fun r71 h72 k => ?_)
      obtain ⟨n75, f76, e77, e78, k⟩ := k
      refine jr_iastE dX12_readLine_38 e77 e78 (fun h79 eh80 => ?_)
      have k := k h79 eh80
      refine jr_goto (tgt := 147) dX12_readLine_39 (by decide) ?_
      exact jr_sub [0] rfl k
  · have k := k.2 c6
    refine jr_aload_n 0 dX12_readLine_9 rfl rfl ?_
    obtain ⟨fs83, e84, k⟩ := k
    refine jr_cVv (As := []) jl_X12_216 km_X12_readHouse rfl rfl dX12_readLine_10 e84 (Nat.le_of_ble_eq_true rfl) k (fun h82 k => ?_)
    refine jr_goto (tgt := 147) dX12_readLine_13 (by decide) ?_
    exact jr_sub [0] rfl k
set_option maxRecDepth 20000 in
theorem bX12_readLine_147 {g : jG} {d : Nat} {hs : jH} {P : jO → jH → Prop} {x0 : Nat} {h : jH} (k : ∃ fs3 : List Value, h.1 x0 = some (.inr (12, fs3)) ∧ Con g mX12_readStop d [.ref x0] h (jPv (fun (h2 : jH) => P (.inl none) h2) (fun E h' => P (.inr E) h'))) : J g mX12_readLine (d + 1) hs P 147 [(0, .ref x0)] [] h := by
  refine jr_aload_n 0 dX12_readLine_147 rfl rfl ?_
  obtain ⟨fs3, e4, k⟩ := k
  refine jr_cVv (As := []) jl_X12_231 km_X12_readStop rfl rfl dX12_readLine_148 e4 (Nat.le_of_ble_eq_true rfl) k (fun h2 k => ?_)
  exact jr_vret rfl dX12_readLine_151 k
set_option maxRecDepth 20000 in
theorem bX12_street_0 {g : jG} {d : Nat} {hs : jH} {P : jO → jH → Prop} {x0 : Nat} {x1 : Int32} {h : jH} (k : ∃ fs1 : List Value, h.1 x0 = some (.inr (12, fs1)) ∧ 4 < fs1.length ∧ (∀ h4 : jH, h4 = jset h x0 (.inr (12, fs1.set 4 (.int 0))) → ∃ fs6 : List Value, h4.1 x0 = some (.inr (12, fs6)) ∧ ∃ v9 : Int32, fs6[6]? = some (.int v9) ∧ Con g mX12_within d [.long x1.toInt64, .long 0, .long v9.toInt64] h4 (jPi (fun (r10 : Int32) (h11 : jH) => (r10 = 0 → ∃ fs39 : List Value, h11.1 x0 = some (.inr (12, fs39)) ∧ Con g mX12_fails d [.ref x0, .int 1] h11 (jPi (fun (r37 : Int32) (h38 : jH) => P (.inl (some (.int r37))) h38) (fun E h' => P (.inr E) h'))) ∧ (¬ r10 = 0 → ∃ fs12 : List Value, h11.1 x0 = some (.inr (12, fs12)) ∧ 7 < fs12.length ∧ (∀ h15 : jH, h15 = jset h11 x0 (.inr (12, fs12.set 7 (.int x1))) → ∃ fs17 : List Value, h15.1 x0 = some (.inr (12, fs17)) ∧ 6 < fs17.length ∧ (∀ h20 : jH, h20 = jset h15 x0 (.inr (12, fs17.set 6 (.int 0))) → ∃ fs22 : List Value, h20.1 x0 = some (.inr (12, fs22)) ∧ 8 < fs22.length ∧ (∀ h25 : jH, h25 = jset h20 x0 (.inr (12, fs22.set 8 (.int 0))) → ∃ fs27 : List Value, h25.1 x0 = some (.inr (12, fs27)) ∧ 12 < fs27.length ∧ (∀ h30 : jH, h30 = jset h25 x0 (.inr (12, fs27.set 12 (.int 0))) → ∃ fs32 : List Value, h30.1 x0 = some (.inr (12, fs32)) ∧ 16 < fs32.length ∧ (∀ h35 : jH, h35 = jset h30 x0 (.inr (12, fs32.set 16 (.int 0))) → J g mX12_street (d + 1) hs P 52 [(0, .ref x0), (2, .int 0)] [] h35))))))) (fun E h' => P (.inr E) h')))) : J g mX12_street (d + 1) hs P 0 [(0, .ref x0), (1, .int x1)] [] h := by
  refine jr_aload_n 0 dX12_street_0 rfl rfl ?_
  refine jr_iconst (v := 0) dX12_street_1 (by decide) ?_
  obtain ⟨fs1, e2, e3, k⟩ := k
  refine jr_putE jp_X12_67 dX12_street_2 e2 e3 rfl rfl (fun h4 eh5 => ?_)
  have k := k h4 eh5
  refine jr_iload_n 1 dX12_street_5 rfl rfl ?_
  refine jr_i2l dX12_street_6 ?_
  refine jr_lconst (v := 0) dX12_street_7 (by decide) ?_
  refine jr_aload_n 0 dX12_street_8 rfl rfl ?_
  obtain ⟨fs6, e7, v9, e8, k⟩ := k
  refine jr_get jf_X12_70 dX12_street_9 e7 e8 ?_
  refine jr_i2l dX12_street_12 ?_
  refine jr_cSi (As := [.long x1.toInt64, .long 0, .long v9.toInt64]) jl_X12_128 km_X12_within rfl rfl dX12_street_13 (Nat.le_of_ble_eq_true rfl) k (fun r10 h11 k => ?_)
  refine jr_if_ne (tgt := 25) dX12_street_16 (by decide) (fun c16 => ?_) (fun c16 => ?_)
  · have k := k.2 c16
    refine jr_aload_n 0 dX12_street_25 rfl rfl ?_
    refine jr_iload_n 1 dX12_street_26 rfl rfl ?_
    obtain ⟨fs12, e13, e14, k⟩ := k
    refine jr_putE jp_X12_73 dX12_street_27 e13 e14 rfl rfl (fun h15 eh16 => ?_)
    have k := k h15 eh16
    refine jr_aload_n 0 dX12_street_30 rfl rfl ?_
    refine jr_iconst (v := 0) dX12_street_31 (by decide) ?_
    obtain ⟨fs17, e18, e19, k⟩ := k
    refine jr_putE jp_X12_70 dX12_street_32 e18 e19 rfl rfl (fun h20 eh21 => ?_)
    have k := k h20 eh21
    refine jr_aload_n 0 dX12_street_35 rfl rfl ?_
    refine jr_iconst (v := 0) dX12_street_36 (by decide) ?_
    obtain ⟨fs22, e23, e24, k⟩ := k
    refine jr_putE jp_X12_76 dX12_street_37 e23 e24 rfl rfl (fun h25 eh26 => ?_)
    have k := k h25 eh26
    refine jr_aload_n 0 dX12_street_40 rfl rfl ?_
    refine jr_iconst (v := 0) dX12_street_41 (by decide) ?_
    obtain ⟨fs27, e28, e29, k⟩ := k
    refine jr_putE jp_X12_102 dX12_street_42 e28 e29 rfl rfl (fun h30 eh31 => ?_)
    have k := k h30 eh31
    refine jr_aload_n 0 dX12_street_45 rfl rfl ?_
    refine jr_iconst (v := 0) dX12_street_46 (by decide) ?_
    obtain ⟨fs32, e33, e34, k⟩ := k
    refine jr_putE jp_X12_144 dX12_street_47 e33 e34 rfl rfl (fun h35 eh36 => ?_)
    have k := k h35 eh36
    refine jr_iconst (v := 0) dX12_street_50 (by decide) ?_
    refine jr_istore_n (lv' := [(2, .int 0), (0, .ref x0), (1, .int x1)]) dX12_street_51 rfl (by decide) rfl ?_
    exact jr_sub [1, 0] rfl k
  · have k := k.1 c16
    refine jr_aload_n 0 dX12_street_19 rfl rfl ?_
    refine jr_iconst (v := 1) dX12_street_20 (by decide) ?_
    obtain ⟨fs39, e40, k⟩ := k
    refine jr_cVi (As := [.int 1]) jl_X12_234 km_X12_fails rfl rfl dX12_street_21 e40 (Nat.le_of_ble_eq_true rfl) k (fun r37 h38 k => ?_)
    exact jr_iret (ty := .int) rfl rfl dX12_street_24 k
set_option maxRecDepth 20000 in
theorem bX12_street_52 {g : jG} {d : Nat} {hs : jH} {P : jO → jH → Prop} {x0 : Nat} {x2 : Int32} {h : jH} (k : (x2 < 3240 → ∃ fs37 : List Value, h.1 x0 = some (.inr (12, fs37)) ∧ ∃ v40 : Nat, fs37[1]? = some (.ref v40) ∧ ∃ (n41 : Nat) (f42 : Nat → Int32), h.1 v40 = some (.inl (0, (n41, .inl f42))) ∧ vp_in x2 n41 ∧ ∀ h45 : jH, h45 = jset h v40 (.inl (0, (n41, .inl (upd f42 x2.toNatClampNeg 0)))) → J g mX12_street (d + 1) hs P 52 [(0, .ref x0), (2, .int (x2 + 1))] [] h45) ∧ (¬ x2 < 3240 → ∃ fs1 : List Value, h.1 x0 = some (.inr (12, fs1)) ∧ ∃ v4 : Nat, fs1[1]? = some (.ref v4) ∧ ∃ (n5 : Nat) (f6 : Nat → Int32), h.1 v4 = some (.inl (0, (n5, .inl f6))) ∧ vp_in 3 n5 ∧ ∀ h9 : jH, h9 = jset h v4 (.inl (0, (n5, .inl (upd f6 ((3 : Int32)).toNatClampNeg 100)))) → ∃ fs13 : List Value, h9.1 x0 = some (.inr (12, fs13)) ∧ Con g mX12_readsOn d [.ref x0] h9 (jPv (fun (h12 : jH) => ∃ fs17 : List Value, h12.1 x0 = some (.inr (12, fs17)) ∧ Con g mX12_mustWord d [.ref x0, .ref (gS g 17)] h12 (jPv (fun (h16 : jH) => ∃ fs21 : List Value, h16.1 x0 = some (.inr (12, fs21)) ∧ Con g mX12_took d [.ref x0, .ref (gS g 18)] h16 (jPi (fun (r19 : Int32) (h20 : jH) => (r19 = 0 → ∃ fs25 : List Value, h20.1 x0 = some (.inr (12, fs25)) ∧ Con g mX12_mustWord d [.ref x0, .ref (gS g 19)] h20 (jPv (fun (h24 : jH) => J g mX12_street (d + 1) hs P 115 [(0, .ref x0)] [] h24) (fun E h' => P (.inr E) h'))) ∧ (¬ r19 = 0 → ∃ fs27 : List Value, h20.1 x0 = some (.inr (12, fs27)) ∧ ∃ v30 : Nat, fs27[1]? = some (.ref v30) ∧ ∃ (n31 : Nat) (f32 : Nat → Int32), h20.1 v30 = some (.inl (0, (n31, .inl f32))) ∧ vp_in 2 n31 ∧ ∀ h35 : jH, h35 = jset h20 v30 (.inl (0, (n31, .inl (upd f32 ((2 : Int32)).toNatClampNeg 1)))) → J g mX12_street (d + 1) hs P 115 [(0, .ref x0)] [] h35)) (fun E h' => P (.inr E) h'))) (fun E h' => P (.inr E) h'))) (fun E h' => P (.inr E) h')))) : J g mX12_street (d + 1) hs P 52 [(0, .ref x0), (2, .int x2)] [] h := by
  refine jr_iload_n 1 dX12_street_52 rfl rfl ?_
  refine jr_sipush (v := 3240) dX12_street_53 (by decide) ?_
  refine jr_icmp_ge (tgt := 72) dX12_street_56 (by decide) (fun c56 => ?_) (fun c56 => ?_)
  · have k := k.2 c56
    refine jr_aload_n 0 dX12_street_72 rfl rfl ?_
    obtain ⟨fs1, e2, v4, e3, k⟩ := k
    refine jr_get jf_X12_13 dX12_street_73 e2 e3 ?_
    refine jr_iconst (v := 3) dX12_street_76 (by decide) ?_
    refine jr_bipush (v := 100) dX12_street_77 (by decide) ?_
    obtain ⟨n5, f6, e7, e8, k⟩ := k
    refine jr_iastE dX12_street_79 e7 e8 (fun h9 eh10 => ?_)
    have k := k h9 eh10
    refine jr_aload_n 0 dX12_street_80 rfl rfl ?_
    obtain ⟨fs13, e14, k⟩ := k
    refine jr_cVv (As := []) jl_X12_121 km_X12_readsOn rfl rfl dX12_street_81 e14 (Nat.le_of_ble_eq_true rfl) k (fun h12 k => ?_)
    refine jr_aload_n 0 dX12_street_84 rfl rfl ?_
    refine jr_ldcS (k9 := 17) rfl rfl rfl dX12_street_85 ?_
    obtain ⟨fs17, e18, k⟩ := k
    refine jr_cVv (As := [.ref (gS g 17)]) jl_X12_206 km_X12_mustWord rfl rfl dX12_street_87 e18 (Nat.le_of_ble_eq_true rfl) k (fun h16 k => ?_)
    refine jr_aload_n 0 dX12_street_90 rfl rfl ?_
    refine jr_ldcS (k9 := 18) rfl rfl rfl dX12_street_91 ?_
    obtain ⟨fs21, e22, k⟩ := k
    refine jr_cVi (As := [.ref (gS g 18)]) jl_X12_132 km_X12_took rfl rfl dX12_street_93 e22 (Nat.le_of_ble_eq_true rfl) k (fun r19 h20 k => ?_)
    refine jr_if_eq (tgt := 109) dX12_street_96 (by decide) (fun c96 => ?_) (fun c96 => ?_)
    · have k := k.1 c96
      refine jr_aload_n 0 dX12_street_109 rfl rfl ?_
      refine jr_ldcS (k9 := 19) rfl rfl rfl dX12_street_110 ?_
      obtain ⟨fs25, e26, k⟩ := k
      refine jr_cVv (As := [.ref (gS g 19)]) jl_X12_206 km_X12_mustWord rfl rfl dX12_street_112 e26 (Nat.le_of_ble_eq_true rfl) k (fun h24 k => ?_)
      exact jr_sub [0] rfl k
    · have k := k.2 c96
      refine jr_aload_n 0 dX12_street_99 rfl rfl ?_
      obtain ⟨fs27, e28, v30, e29, k⟩ := k
      refine jr_get jf_X12_13 dX12_street_100 e28 e29 ?_
      refine jr_iconst (v := 2) dX12_street_103 (by decide) ?_
      refine jr_iconst (v := 1) dX12_street_104 (by decide) ?_
      obtain ⟨n31, f32, e33, e34, k⟩ := k
      refine jr_iastE dX12_street_105 e33 e34 (fun h35 eh36 => ?_)
      have k := k h35 eh36
      refine jr_goto (tgt := 115) dX12_street_106 (by decide) ?_
      exact jr_sub [0] rfl k
  · have k := k.1 c56
    refine jr_aload_n 0 dX12_street_59 rfl rfl ?_
    obtain ⟨fs37, e38, v40, e39, k⟩ := k
    refine jr_get jf_X12_13 dX12_street_60 e38 e39 ?_
    refine jr_iload_n 1 dX12_street_63 rfl rfl ?_
    refine jr_iconst (v := 0) dX12_street_64 (by decide) ?_
    obtain ⟨n41, f42, e43, e44, k⟩ := k
    refine jr_iastE dX12_street_65 e43 e44 (fun h45 eh46 => ?_)
    have k := k h45 eh46
    refine jr_iinc (v := (x2 + 1)) (lv' := [(2, .int (x2 + 1)), (0, .ref x0)]) 1 dX12_street_66 rfl rfl (by decide) rfl ?_
    refine jr_goto (tgt := 52) dX12_street_69 (by decide) ?_
    exact jr_sub [1, 0] rfl k
set_option maxRecDepth 20000 in
theorem bX12_street_115 {g : jG} {d : Nat} {hs : jH} {P : jO → jH → Prop} {x0 : Nat} {h : jH} (k : ∃ fs3 : List Value, h.1 x0 = some (.inr (12, fs3)) ∧ Con g mX12_readStop d [.ref x0] h (jPv (fun (h2 : jH) => J g mX12_street (d + 1) hs P 119 [(0, .ref x0)] [] h2) (fun E h' => P (.inr E) h'))) : J g mX12_street (d + 1) hs P 115 [(0, .ref x0)] [] h := by
  refine jr_aload_n 0 dX12_street_115 rfl rfl ?_
  obtain ⟨fs3, e4, k⟩ := k
  refine jr_cVv (As := []) jl_X12_231 km_X12_readStop rfl rfl dX12_street_116 e4 (Nat.le_of_ble_eq_true rfl) k (fun h2 k => ?_)
  exact jr_sub [0] rfl k
set_option maxRecDepth 20000 in
theorem bX12_street_119 {g : jG} {d : Nat} {hs : jH} {P : jO → jH → Prop} {x0 : Nat} {h : jH} (k : ∃ fs1 : List Value, h.1 x0 = some (.inr (12, fs1)) ∧ ∃ v4 : Int32, fs1[12]? = some (.int v4) ∧ (v4 = 0 → ∃ fs5 : List Value, h.1 x0 = some (.inr (12, fs5)) ∧ ∃ v8 : Int32, fs5[10]? = some (.int v8) ∧ (v8 = 0 → J g mX12_street (d + 1) hs P 140 [(0, .ref x0)] [] h) ∧ (¬ v8 = 0 → ∃ fs11 : List Value, h.1 x0 = some (.inr (12, fs11)) ∧ Con g mX12_readLine d [.ref x0] h (jPv (fun (h10 : jH) => J g mX12_street (d + 1) hs P 119 [(0, .ref x0)] [] h10) (fun E h' => P (.inr E) h')))) ∧ (¬ v4 = 0 → J g mX12_street (d + 1) hs P 140 [(0, .ref x0)] [] h)) : J g mX12_street (d + 1) hs P 119 [(0, .ref x0)] [] h := by
  refine jr_aload_n 0 dX12_street_119 rfl rfl ?_
  obtain ⟨fs1, e2, v4, e3, k⟩ := k
  refine jr_get jf_X12_102 dX12_street_120 e2 e3 ?_
  refine jr_if_ne (tgt := 140) dX12_street_123 (by decide) (fun c123 => ?_) (fun c123 => ?_)
  · have k := k.2 c123
    exact jr_sub [0] rfl k
  · have k := k.1 c123
    refine jr_aload_n 0 dX12_street_126 rfl rfl ?_
    obtain ⟨fs5, e6, v8, e7, k⟩ := k
    refine jr_get jf_X12_82 dX12_street_127 e6 e7 ?_
    refine jr_if_eq (tgt := 140) dX12_street_130 (by decide) (fun c130 => ?_) (fun c130 => ?_)
    · have k := k.1 c130
      exact jr_sub [0] rfl k
    · have k := k.2 c130
      refine jr_aload_n 0 dX12_street_133 rfl rfl ?_
      obtain ⟨fs11, e12, k⟩ := k
      refine jr_cVv (As := []) jl_X12_243 km_X12_readLine rfl rfl dX12_street_134 e12 (Nat.le_of_ble_eq_true rfl) k (fun h10 k => ?_)
      refine jr_goto (tgt := 119) dX12_street_137 (by decide) ?_
      exact jr_sub [0] rfl k
set_option maxRecDepth 20000 in
theorem bX12_street_140 {g : jG} {d : Nat} {hs : jH} {P : jO → jH → Prop} {x0 : Nat} {h : jH} (k : ∃ fs1 : List Value, h.1 x0 = some (.inr (12, fs1)) ∧ ∃ v4 : Int32, fs1[12]? = some (.int v4) ∧ ∃ fs5 : List Value, h.1 x0 = some (.inr (12, fs5)) ∧ 14 < fs5.length ∧ (∀ h8 : jH, h8 = jset h x0 (.inr (12, fs5.set 14 (.int v4))) → ∃ fs10 : List Value, h8.1 x0 = some (.inr (12, fs10)) ∧ ∃ v13 : Int32, fs10[12]? = some (.int v13) ∧ (v13 = 0 → J g mX12_street (d + 1) hs P 164 [(0, .ref x0)] [.int (-1), .ref x0] h8) ∧ (¬ v13 = 0 → ∃ fs14 : List Value, h8.1 x0 = some (.inr (12, fs14)) ∧ ∃ v17 : Int32, fs14[13]? = some (.int v17) ∧ J g mX12_street (d + 1) hs P 164 [(0, .ref x0)] [.int v17, .ref x0] h8))) : J g mX12_street (d + 1) hs P 140 [(0, .ref x0)] [] h := by
  refine jr_aload_n 0 dX12_street_140 rfl rfl ?_
  refine jr_aload_n 0 dX12_street_141 rfl rfl ?_
  obtain ⟨fs1, e2, v4, e3, k⟩ := k
  refine jr_get jf_X12_102 dX12_street_142 e2 e3 ?_
  obtain ⟨fs5, e6, e7, k⟩ := k
  refine jr_putE jp_X12_246 dX12_street_145 e6 e7 rfl rfl (fun h8 eh9 => ?_)
  have k := k h8 eh9
  refine jr_aload_n 0 dX12_street_148 rfl rfl ?_
  refine jr_aload_n 0 dX12_street_149 rfl rfl ?_
  obtain ⟨fs10, e11, v13, e12, k⟩ := k
  refine jr_get jf_X12_102 dX12_street_150 e11 e12 ?_
  refine jr_if_ne (tgt := 160) dX12_street_153 (by decide) (fun c153 => ?_) (fun c153 => ?_)
  · have k := k.2 c153
    refine jr_aload_n 0 dX12_street_160 rfl rfl ?_
    obtain ⟨fs14, e15, v17, e16, k⟩ := k
    refine jr_get jf_X12_105 dX12_street_161 e15 e16 ?_
    exact jr_sub [0] rfl k
  · have k := k.1 c153
    refine jr_iconst (v := (-1)) dX12_street_156 (by decide) ?_
    refine jr_goto (tgt := 164) dX12_street_157 (by decide) ?_
    exact jr_sub [0] rfl k
set_option maxRecDepth 20000 in
theorem bX12_street_164 {g : jG} {d : Nat} {hs : jH} {P : jO → jH → Prop} {x0 : Nat} {s0 : Nat} {s1 : Int32} {h : jH} (k : ∃ fs1 : List Value, h.1 s0 = some (.inr (12, fs1)) ∧ 15 < fs1.length ∧ (∀ h4 : jH, h4 = jset h s0 (.inr (12, fs1.set 15 (.int s1))) → ∃ fs6 : List Value, h4.1 x0 = some (.inr (12, fs6)) ∧ ∃ v9 : Int32, fs6[12]? = some (.int v9) ∧ (v9 = 0 → J g mX12_street (d + 1) hs P 184 [(0, .ref x0), (2, .int 0)] [] h4) ∧ (¬ v9 = 0 → ∃ fs10 : List Value, h4.1 x0 = some (.inr (12, fs10)) ∧ ∃ v13 : Int32, fs10[12]? = some (.int v13) ∧ P (.inl (some (.int (((-10) - v13))))) h4))) : J g mX12_street (d + 1) hs P 164 [(0, .ref x0)] [.int s1, .ref s0] h := by
  obtain ⟨fs1, e2, e3, k⟩ := k
  refine jr_putE jp_X12_26 dX12_street_164 e2 e3 rfl rfl (fun h4 eh5 => ?_)
  have k := k h4 eh5
  refine jr_aload_n 0 dX12_street_167 rfl rfl ?_
  obtain ⟨fs6, e7, v9, e8, k⟩ := k
  refine jr_get jf_X12_102 dX12_street_168 e7 e8 ?_
  refine jr_if_eq (tgt := 182) dX12_street_171 (by decide) (fun c171 => ?_) (fun c171 => ?_)
  · have k := k.1 c171
    refine jr_iconst (v := 0) dX12_street_182 (by decide) ?_
    refine jr_istore_n (lv' := [(2, .int 0), (0, .ref x0)]) dX12_street_183 rfl (by decide) rfl ?_
    exact jr_sub [1, 0] rfl k
  · have k := k.2 c171
    refine jr_bipush (v := (-10)) dX12_street_174 (by decide) ?_
    refine jr_aload_n 0 dX12_street_176 rfl rfl ?_
    obtain ⟨fs10, e11, v13, e12, k⟩ := k
    refine jr_get jf_X12_102 dX12_street_177 e11 e12 ?_
    refine jr_isub dX12_street_180 ?_
    exact jr_iret (ty := .int) rfl rfl dX12_street_181 k
set_option maxRecDepth 20000 in
theorem bX12_street_184 {g : jG} {d : Nat} {hs : jH} {P : jO → jH → Prop} {x0 : Nat} {x2 : Int32} {h : jH} (k : (x2 < 3240 → ∃ fs1 : List Value, h.1 x0 = some (.inr (12, fs1)) ∧ ∃ v4 : Nat, fs1[0]? = some (.ref v4) ∧ ∃ fs5 : List Value, h.1 x0 = some (.inr (12, fs5)) ∧ ∃ v8 : Nat, fs5[1]? = some (.ref v8) ∧ ∃ (n9 : Nat) (f10 : Nat → Int32), h.1 v8 = some (.inl (0, (n9, .inl f10))) ∧ vp_in x2 n9 ∧ ∃ (n13 : Nat) (f14 : Nat → Int32), h.1 v4 = some (.inl (0, (n13, .inl f14))) ∧ vp_in x2 n13 ∧ ∀ h17 : jH, h17 = jset h v4 (.inl (0, (n13, .inl (upd f14 x2.toNatClampNeg ((f10 x2.toNatClampNeg)))))) → J g mX12_street (d + 1) hs P 184 [(0, .ref x0), (2, .int (x2 + 1))] [] h17) ∧ (¬ x2 < 3240 → J g mX12_street (d + 1) hs P 211 [(0, .ref x0), (2, .int 0)] [] h)) : J g mX12_street (d + 1) hs P 184 [(0, .ref x0), (2, .int x2)] [] h := by
  refine jr_iload_n 1 dX12_street_184 rfl rfl ?_
  refine jr_sipush (v := 3240) dX12_street_185 (by decide) ?_
  refine jr_icmp_ge (tgt := 209) dX12_street_188 (by decide) (fun c188 => ?_) (fun c188 => ?_)
  · have k := k.2 c188
    refine jr_iconst (v := 0) dX12_street_209 (by decide) ?_
    refine jr_istore_n (lv' := [(2, .int 0), (0, .ref x0)]) dX12_street_210 rfl (by decide) rfl ?_
    exact jr_sub [1, 0] rfl k
  · have k := k.1 c188
    refine jr_aload_n 0 dX12_street_191 rfl rfl ?_
    obtain ⟨fs1, e2, v4, e3, k⟩ := k
    refine jr_get jf_X12_9 dX12_street_192 e2 e3 ?_
    refine jr_iload_n 1 dX12_street_195 rfl rfl ?_
    refine jr_aload_n 0 dX12_street_196 rfl rfl ?_
    obtain ⟨fs5, e6, v8, e7, k⟩ := k
    refine jr_get jf_X12_13 dX12_street_197 e6 e7 ?_
    refine jr_iload_n 1 dX12_street_200 rfl rfl ?_
    obtain ⟨n9, f10, e11, e12, k⟩ := k
    refine jr_iald dX12_street_201 e11 e12 ?_
    obtain ⟨n13, f14, e15, e16, k⟩ := k
    refine jr_iastE dX12_street_202 e15 e16 (fun h17 eh18 => ?_)
    have k := k h17 eh18
    refine jr_iinc (v := (x2 + 1)) (lv' := [(2, .int (x2 + 1)), (0, .ref x0)]) 1 dX12_street_203 rfl rfl (by decide) rfl ?_
    refine jr_goto (tgt := 184) dX12_street_206 (by decide) ?_
    exact jr_sub [1, 0] rfl k
set_option maxRecDepth 20000 in
theorem bX12_street_211 {g : jG} {d : Nat} {hs : jH} {P : jO → jH → Prop} {x0 : Nat} {x2 : Int32} {h : jH} (k : (x2 < 44 → ∃ fs9 : List Value, h.1 x0 = some (.inr (12, fs9)) ∧ ∃ v12 : Nat, fs9[0]? = some (.ref v12) ∧ ∃ fs13 : List Value, h.1 x0 = some (.inr (12, fs13)) ∧ ∃ v16 : Nat, fs13[0]? = some (.ref v16) ∧ ∃ (n17 : Nat) (f18 : Nat → Int32), h.1 v16 = some (.inl (0, (n17, .inl f18))) ∧ vp_in (8 + x2) n17 ∧ ∃ (n21 : Nat) (f22 : Nat → Int32), h.1 v12 = some (.inl (0, (n21, .inl f22))) ∧ vp_in (52 + x2) n21 ∧ ∀ h25 : jH, h25 = jset h v12 (.inl (0, (n21, .inl (upd f22 ((52 + x2)).toNatClampNeg ((f18 ((8 + x2)).toNatClampNeg)))))) → J g mX12_street (d + 1) hs P 211 [(0, .ref x0), (2, .int (x2 + 1))] [] h25) ∧ (¬ x2 < 44 → ∃ fs1 : List Value, h.1 x0 = some (.inr (12, fs1)) ∧ ∃ v4 : Nat, fs1[0]? = some (.ref v4) ∧ ∃ (n5 : Nat) (f6 : Nat → Int32), h.1 v4 = some (.inl (0, (n5, .inl f6))) ∧ vp_in 0 n5 ∧ P (.inl (some (.int ((f6 ((0 : Int32)).toNatClampNeg))))) h)) : J g mX12_street (d + 1) hs P 211 [(0, .ref x0), (2, .int x2)] [] h := by
  refine jr_iload_n 1 dX12_street_211 rfl rfl ?_
  refine jr_bipush (v := 44) dX12_street_212 (by decide) ?_
  refine jr_icmp_ge (tgt := 241) dX12_street_214 (by decide) (fun c214 => ?_) (fun c214 => ?_)
  · have k := k.2 c214
    refine jr_aload_n 0 dX12_street_241 rfl rfl ?_
    obtain ⟨fs1, e2, v4, e3, k⟩ := k
    refine jr_get jf_X12_9 dX12_street_242 e2 e3 ?_
    refine jr_iconst (v := 0) dX12_street_245 (by decide) ?_
    obtain ⟨n5, f6, e7, e8, k⟩ := k
    refine jr_iald dX12_street_246 e7 e8 ?_
    exact jr_iret (ty := .int) rfl rfl dX12_street_247 k
  · have k := k.1 c214
    refine jr_aload_n 0 dX12_street_217 rfl rfl ?_
    obtain ⟨fs9, e10, v12, e11, k⟩ := k
    refine jr_get jf_X12_9 dX12_street_218 e10 e11 ?_
    refine jr_bipush (v := 52) dX12_street_221 (by decide) ?_
    refine jr_iload_n 1 dX12_street_223 rfl rfl ?_
    refine jr_iadd dX12_street_224 ?_
    refine jr_aload_n 0 dX12_street_225 rfl rfl ?_
    obtain ⟨fs13, e14, v16, e15, k⟩ := k
    refine jr_get jf_X12_9 dX12_street_226 e14 e15 ?_
    refine jr_bipush (v := 8) dX12_street_229 (by decide) ?_
    refine jr_iload_n 1 dX12_street_231 rfl rfl ?_
    refine jr_iadd dX12_street_232 ?_
    obtain ⟨n17, f18, e19, e20, k⟩ := k
    refine jr_iald dX12_street_233 e19 e20 ?_
    obtain ⟨n21, f22, e23, e24, k⟩ := k
    refine jr_iastE dX12_street_234 e23 e24 (fun h25 eh26 => ?_)
    have k := k h25 eh26
    refine jr_iinc (v := (x2 + 1)) (lv' := [(2, .int (x2 + 1)), (0, .ref x0)]) 1 dX12_street_235 rfl rfl (by decide) rfl ?_
    refine jr_goto (tgt := 211) dX12_street_238 (by decide) ?_
    exact jr_sub [1, 0] rfl k
set_option maxRecDepth 20000 in
theorem bX12_fault_0 {g : jG} {d : Nat} {hs : jH} {P : jO → jH → Prop} {x0 : Nat} {x1 : Int32} {h : jH} (k : ∃ fs1 : List Value, h.1 x0 = some (.inr (12, fs1)) ∧ 4 < fs1.length ∧ (∀ h4 : jH, h4 = jset h x0 (.inr (12, fs1.set 4 (.int 0))) → (x1 = 0 → ∃ fs10 : List Value, h4.1 x0 = some (.inr (12, fs10)) ∧ ∃ v13 : Int32, fs10[14]? = some (.int v13) ∧ P (.inl (some (.int v13))) h4) ∧ (¬ x1 = 0 → (x1 = 1 → ∃ fs6 : List Value, h4.1 x0 = some (.inr (12, fs6)) ∧ ∃ v9 : Int32, fs6[15]? = some (.int v9) ∧ P (.inl (some (.int v9))) h4) ∧ (¬ x1 = 1 → P (.inl (some (.int ((-1))))) h4)))) : J g mX12_fault (d + 1) hs P 0 [(0, .ref x0), (1, .int x1)] [] h := by
  refine jr_aload_n 0 dX12_fault_0 rfl rfl ?_
  refine jr_iconst (v := 0) dX12_fault_1 (by decide) ?_
  obtain ⟨fs1, e2, e3, k⟩ := k
  refine jr_putE jp_X12_67 dX12_fault_2 e2 e3 rfl rfl (fun h4 eh5 => ?_)
  have k := k h4 eh5
  refine jr_iload_n 1 dX12_fault_5 rfl rfl ?_
  refine jr_if_ne (tgt := 16) dX12_fault_6 (by decide) (fun c6 => ?_) (fun c6 => ?_)
  · have k := k.2 c6
    refine jr_iload_n 1 dX12_fault_16 rfl rfl ?_
    refine jr_iconst (v := 1) dX12_fault_17 (by decide) ?_
    refine jr_icmp_ne (tgt := 28) dX12_fault_18 (by decide) (fun c18 => ?_) (fun c18 => ?_)
    · have k := k.2 c18
      refine jr_iconst (v := (-1)) dX12_fault_28 (by decide) ?_
      exact jr_iret (ty := .int) rfl rfl dX12_fault_29 k
    · have k := k.1 c18
      refine jr_aload_n 0 dX12_fault_21 rfl rfl ?_
      obtain ⟨fs6, e7, v9, e8, k⟩ := k
      refine jr_get jf_X12_26 dX12_fault_22 e7 e8 ?_
      refine jr_goto (tgt := 29) dX12_fault_25 (by decide) ?_
      exact jr_iret (ty := .int) rfl rfl dX12_fault_29 k
  · have k := k.1 c6
    refine jr_aload_n 0 dX12_fault_9 rfl rfl ?_
    obtain ⟨fs10, e11, v13, e12, k⟩ := k
    refine jr_get jf_X12_246 dX12_fault_10 e11 e12 ?_
    refine jr_goto (tgt := 29) dX12_fault_13 (by decide) ?_
    exact jr_iret (ty := .int) rfl rfl dX12_fault_29 k
set_option maxRecDepth 20000 in
theorem bX12_houses_0 {g : jG} {d : Nat} {hs : jH} {P : jO → jH → Prop} {x0 : Nat} {h : jH} (k : ∃ fs1 : List Value, h.1 x0 = some (.inr (12, fs1)) ∧ ∃ v4 : Nat, fs1[0]? = some (.ref v4) ∧ ∃ (n5 : Nat) (f6 : Nat → Int32), h.1 v4 = some (.inl (0, (n5, .inl f6))) ∧ vp_in 1 n5 ∧ P (.inl (some (.int ((f6 ((1 : Int32)).toNatClampNeg))))) h) : J g mX12_houses (d + 1) hs P 0 [(0, .ref x0)] [] h := by
  refine jr_aload_n 0 dX12_houses_0 rfl rfl ?_
  obtain ⟨fs1, e2, v4, e3, k⟩ := k
  refine jr_get jf_X12_9 dX12_houses_1 e2 e3 ?_
  refine jr_iconst (v := 1) dX12_houses_4 (by decide) ?_
  obtain ⟨n5, f6, e7, e8, k⟩ := k
  refine jr_iald dX12_houses_5 e7 e8 ?_
  exact jr_iret (ty := .int) rfl rfl dX12_houses_6 k
set_option maxRecDepth 20000 in
theorem bX12_isHouse_0 {g : jG} {d : Nat} {hs : jH} {P : jO → jH → Prop} {x0 : Nat} {x1 : Int64} {h : jH} (k : ∃ fs3 : List Value, h.1 x0 = some (.inr (12, fs3)) ∧ Con g mX12_houses d [.ref x0] h (jPi (fun (r1 : Int32) (h2 : jH) => Con g mX12_within d [.long x1, .long 0, .long ((r1 - 1)).toInt64] h2 (jPi (fun (r5 : Int32) (h6 : jH) => (r5 = 0 ∨ r5 = 1) ∧ P (.inl (some (.int r5))) h6) (fun E h' => P (.inr E) h'))) (fun E h' => P (.inr E) h'))) : J g mX12_isHouse (d + 1) hs P 0 [(0, .ref x0), (1, .long x1)] [] h := by
  refine jr_lload_n 1 dX12_isHouse_0 rfl rfl ?_
  refine jr_lconst (v := 0) dX12_isHouse_1 (by decide) ?_
  refine jr_aload_n 0 dX12_isHouse_2 rfl rfl ?_
  obtain ⟨fs3, e4, k⟩ := k
  refine jr_cVi (As := []) jl_X12_249 km_X12_houses rfl rfl dX12_isHouse_3 e4 (Nat.le_of_ble_eq_true rfl) k (fun r1 h2 k => ?_)
  refine jr_iconst (v := 1) dX12_isHouse_6 (by decide) ?_
  refine jr_isub dX12_isHouse_7 ?_
  refine jr_i2l dX12_isHouse_8 ?_
  refine jr_cSi (As := [.long x1, .long 0, .long ((r1 - 1)).toInt64]) jl_X12_128 km_X12_within rfl rfl dX12_isHouse_9 (Nat.le_of_ble_eq_true rfl) k (fun r5 h6 k => ?_)
  exact jr_iret (ty := .boolean) rfl (jz_n k.1) dX12_isHouse_12 k.2
set_option maxRecDepth 20000 in
theorem bX12_isGone_0 {g : jG} {d : Nat} {hs : jH} {P : jO → jH → Prop} {x0 : Nat} {x1 : Int32} {h : jH} (k : ∃ fs1 : List Value, h.1 x0 = some (.inr (12, fs1)) ∧ ∃ v4 : Nat, fs1[0]? = some (.ref v4) ∧ ∃ (n5 : Nat) (f6 : Nat → Int32), h.1 v4 = some (.inl (0, (n5, .inl f6))) ∧ vp_in (29 + x1) n5 ∧ ((f6 ((29 + x1)).toNatClampNeg) = 1 → P (.inl (some (.int 1))) h) ∧ (¬ (f6 ((29 + x1)).toNatClampNeg) = 1 → P (.inl (some (.int 0))) h)) : J g mX12_isGone (d + 1) hs P 0 [(0, .ref x0), (1, .int x1)] [] h := by
  refine jr_aload_n 0 dX12_isGone_0 rfl rfl ?_
  obtain ⟨fs1, e2, v4, e3, k⟩ := k
  refine jr_get jf_X12_9 dX12_isGone_1 e2 e3 ?_
  refine jr_bipush (v := 29) dX12_isGone_4 (by decide) ?_
  refine jr_iload_n 1 dX12_isGone_6 rfl rfl ?_
  refine jr_iadd dX12_isGone_7 ?_
  obtain ⟨n5, f6, e7, e8, k⟩ := k
  refine jr_iald dX12_isGone_8 e7 e8 ?_
  refine jr_iconst (v := 1) dX12_isGone_9 (by decide) ?_
  refine jr_icmp_ne (tgt := 17) dX12_isGone_10 (by decide) (fun c10 => ?_) (fun c10 => ?_)
  · have k := k.2 c10
    refine jr_iconst (v := 0) dX12_isGone_17 (by decide) ?_
    exact jr_iret (ty := .boolean) rfl rfl dX12_isGone_18 k
  · have k := k.1 c10
    refine jr_iconst (v := 1) dX12_isGone_13 (by decide) ?_
    refine jr_goto (tgt := 18) dX12_isGone_14 (by decide) ?_
    exact jr_iret (ty := .boolean) rfl rfl dX12_isGone_18 k
set_option maxRecDepth 20000 in
theorem bX12_next_0 {g : jG} {d : Nat} {hs : jH} {P : jO → jH → Prop} {x0 : Nat} {x1 : Int32} {h : jH} (k : ∃ fs3 : List Value, h.1 x0 = some (.inr (12, fs3)) ∧ Con g mX12_houses d [.ref x0] h (jPi (fun (r1 : Int32) (h2 : jH) => (x1 < (r1 - 1) → P (.inl (some (.int ((x1 + 1))))) h2) ∧ (¬ x1 < (r1 - 1) → ∃ fs5 : List Value, h2.1 x0 = some (.inr (12, fs5)) ∧ ∃ v8 : Nat, fs5[0]? = some (.ref v8) ∧ ∃ (n9 : Nat) (f10 : Nat → Int32), h2.1 v8 = some (.inl (0, (n9, .inl f10))) ∧ vp_in 2 n9 ∧ ((f10 ((2 : Int32)).toNatClampNeg) = 1 → P (.inl (some (.int 0))) h2) ∧ (¬ (f10 ((2 : Int32)).toNatClampNeg) = 1 → P (.inl (some (.int ((-1))))) h2))) (fun E h' => P (.inr E) h'))) : J g mX12_next (d + 1) hs P 0 [(0, .ref x0), (1, .int x1)] [] h := by
  refine jr_iload_n 1 dX12_next_0 rfl rfl ?_
  refine jr_aload_n 0 dX12_next_1 rfl rfl ?_
  obtain ⟨fs3, e4, k⟩ := k
  refine jr_cVi (As := []) jl_X12_249 km_X12_houses rfl rfl dX12_next_2 e4 (Nat.le_of_ble_eq_true rfl) k (fun r1 h2 k => ?_)
  refine jr_iconst (v := 1) dX12_next_5 (by decide) ?_
  refine jr_isub dX12_next_6 ?_
  refine jr_icmp_ge (tgt := 16) dX12_next_7 (by decide) (fun c7 => ?_) (fun c7 => ?_)
  · have k := k.2 c7
    refine jr_aload_n 0 dX12_next_16 rfl rfl ?_
    obtain ⟨fs5, e6, v8, e7, k⟩ := k
    refine jr_get jf_X12_9 dX12_next_17 e6 e7 ?_
    refine jr_iconst (v := 2) dX12_next_20 (by decide) ?_
    obtain ⟨n9, f10, e11, e12, k⟩ := k
    refine jr_iald dX12_next_21 e11 e12 ?_
    refine jr_iconst (v := 1) dX12_next_22 (by decide) ?_
    refine jr_icmp_ne (tgt := 30) dX12_next_23 (by decide) (fun c23 => ?_) (fun c23 => ?_)
    · have k := k.2 c23
      refine jr_iconst (v := (-1)) dX12_next_30 (by decide) ?_
      exact jr_iret (ty := .int) rfl rfl dX12_next_31 k
    · have k := k.1 c23
      refine jr_iconst (v := 0) dX12_next_26 (by decide) ?_
      refine jr_goto (tgt := 31) dX12_next_27 (by decide) ?_
      exact jr_iret (ty := .int) rfl rfl dX12_next_31 k
  · have k := k.1 c7
    refine jr_iload_n 1 dX12_next_10 rfl rfl ?_
    refine jr_iconst (v := 1) dX12_next_11 (by decide) ?_
    refine jr_iadd dX12_next_12 ?_
    refine jr_goto (tgt := 31) dX12_next_13 (by decide) ?_
    exact jr_iret (ty := .int) rfl rfl dX12_next_31 k
set_option maxRecDepth 20000 in
theorem bX12_bound_0 {g : jG} {d : Nat} {hs : jH} {P : jO → jH → Prop} {x0 : Int64} {h : jH} (k : P (.inl (some (.int (((jmaxL ((-1000000)) ((jminL 1000000 x0)))).toInt32)))) h) : J g mX12_bound (d + 1) hs P 0 [(0, .long x0)] [] h := by
  refine jr_ldc2 (v := (-1000000)) jk_X12_252 dX12_bound_0 ?_
  refine jr_ldc2 (v := 1000000) jk_X12_254 dX12_bound_3 ?_
  refine jr_lload_n 0 dX12_bound_6 rfl rfl ?_
  refine jr_mminL jl_X12_256 dX12_bound_7 (Nat.le_of_ble_eq_true rfl) ?_
  refine jr_mmaxL jl_X12_259 dX12_bound_10 (Nat.le_of_ble_eq_true rfl) ?_
  refine jr_l2i dX12_bound_13 ?_
  exact jr_iret (ty := .int) rfl rfl dX12_bound_14 k
set_option maxRecDepth 20000 in
theorem bX12_done_0 {g : jG} {d : Nat} {hs : jH} {P : jO → jH → Prop} {x0 : Int32} {x1 : Int64} {x3 : Int64} {h : jH} (k : (x0 = 10 → Con g mX12_bound d [.long (x1 + x3)] h (jPi (fun (r1 : Int32) (h2 : jH) => P (.inl (some (.int r1))) h2) (fun E h' => P (.inr E) h'))) ∧ (¬ x0 = 10 → (x0 = 11 → Con g mX12_bound d [.long (x1 - x3)] h (jPi (fun (r3 : Int32) (h4 : jH) => P (.inl (some (.int r3))) h4) (fun E h' => P (.inr E) h'))) ∧ (¬ x0 = 11 → (x0 = 12 → Con g mX12_bound d [.long (x1 * x3)] h (jPi (fun (r5 : Int32) (h6 : jH) => P (.inl (some (.int r5))) h6) (fun E h' => P (.inr E) h'))) ∧ (¬ x0 = 12 → (x0 = 13 → (x1 = x3 → P (.inl (some (.int 1))) h) ∧ (¬ x1 = x3 → P (.inl (some (.int 0))) h)) ∧ (¬ x0 = 13 → (x0 = 14 → (x1 < x3 → P (.inl (some (.int 1))) h) ∧ (¬ x1 < x3 → P (.inl (some (.int 0))) h)) ∧ (¬ x0 = 14 → (x0 = 15 → (x3 < x1 → P (.inl (some (.int 1))) h) ∧ (¬ x3 < x1 → P (.inl (some (.int 0))) h)) ∧ (¬ x0 = 15 → (x0 = 16 → (1 < (x1 + x3) → P (.inl (some (.int 1))) h) ∧ (¬ 1 < (x1 + x3) → P (.inl (some (.int 0))) h)) ∧ (¬ x0 = 16 → (0 < (x1 + x3) → P (.inl (some (.int 1))) h) ∧ (¬ 0 < (x1 + x3) → P (.inl (some (.int 0))) h))))))))) : J g mX12_done (d + 1) hs P 0 [(0, .int x0), (1, .long x1), (3, .long x3)] [] h := by
  refine jr_iload_n 0 dX12_done_0 rfl rfl ?_
  by_cases c1_0 : x0 = 10
  · have k := k.1 c1_0
    refine jr_tableIn (tgt := 44) dX12_done_1 (by rw [c1_0]; decide) (by rw [c1_0]; decide) (by rw [c1_0]; rfl) (by decide) ?_
    refine jr_lload_n 1 dX12_done_44 rfl rfl ?_
    refine jr_lload_n 2 dX12_done_45 rfl rfl ?_
    refine jr_ladd dX12_done_46 ?_
    refine jr_cSi (As := [.long (x1 + x3)]) jl_X12_262 km_X12_bound rfl rfl dX12_done_47 (Nat.le_of_ble_eq_true rfl) k (fun r1 h2 k => ?_)
    exact jr_iret (ty := .int) rfl rfl dX12_done_50 k
  · have k := k.2 c1_0
    by_cases c1_1 : x0 = 11
    · have k := k.1 c1_1
      refine jr_tableIn (tgt := 51) dX12_done_1 (by rw [c1_1]; decide) (by rw [c1_1]; decide) (by rw [c1_1]; rfl) (by decide) ?_
      refine jr_lload_n 1 dX12_done_51 rfl rfl ?_
      refine jr_lload_n 2 dX12_done_52 rfl rfl ?_
      refine jr_lsub dX12_done_53 ?_
      refine jr_cSi (As := [.long (x1 - x3)]) jl_X12_262 km_X12_bound rfl rfl dX12_done_54 (Nat.le_of_ble_eq_true rfl) k (fun r3 h4 k => ?_)
      exact jr_iret (ty := .int) rfl rfl dX12_done_57 k
    · have k := k.2 c1_1
      by_cases c1_2 : x0 = 12
      · have k := k.1 c1_2
        refine jr_tableIn (tgt := 58) dX12_done_1 (by rw [c1_2]; decide) (by rw [c1_2]; decide) (by rw [c1_2]; rfl) (by decide) ?_
        refine jr_lload_n 1 dX12_done_58 rfl rfl ?_
        refine jr_lload_n 2 dX12_done_59 rfl rfl ?_
        refine jr_lmul dX12_done_60 ?_
        refine jr_cSi (As := [.long (x1 * x3)]) jl_X12_262 km_X12_bound rfl rfl dX12_done_61 (Nat.le_of_ble_eq_true rfl) k (fun r5 h6 k => ?_)
        exact jr_iret (ty := .int) rfl rfl dX12_done_64 k
      · have k := k.2 c1_2
        by_cases c1_3 : x0 = 13
        · have k := k.1 c1_3
          refine jr_tableIn (tgt := 65) dX12_done_1 (by rw [c1_3]; decide) (by rw [c1_3]; decide) (by rw [c1_3]; rfl) (by decide) ?_
          refine jr_lload_n 1 dX12_done_65 rfl rfl ?_
          refine jr_lload_n 2 dX12_done_66 rfl rfl ?_
          refine jr_lcmp_ne (tgt := 75) dX12_done_67 dX12_done_68 (by decide) (fun c67 => ?_) (fun c67 => ?_)
          · have k := k.2 c67
            refine jr_iconst (v := 0) dX12_done_75 (by decide) ?_
            exact jr_iret (ty := .int) rfl rfl dX12_done_76 k
          · have k := k.1 c67
            refine jr_iconst (v := 1) dX12_done_71 (by decide) ?_
            refine jr_goto (tgt := 76) dX12_done_72 (by decide) ?_
            exact jr_iret (ty := .int) rfl rfl dX12_done_76 k
        · have k := k.2 c1_3
          by_cases c1_4 : x0 = 14
          · have k := k.1 c1_4
            refine jr_tableIn (tgt := 77) dX12_done_1 (by rw [c1_4]; decide) (by rw [c1_4]; decide) (by rw [c1_4]; rfl) (by decide) ?_
            refine jr_lload_n 1 dX12_done_77 rfl rfl ?_
            refine jr_lload_n 2 dX12_done_78 rfl rfl ?_
            refine jr_lcmp_ge (tgt := 87) dX12_done_79 dX12_done_80 (by decide) (fun c79 => ?_) (fun c79 => ?_)
            · have k := k.2 c79
              refine jr_iconst (v := 0) dX12_done_87 (by decide) ?_
              exact jr_iret (ty := .int) rfl rfl dX12_done_88 k
            · have k := k.1 c79
              refine jr_iconst (v := 1) dX12_done_83 (by decide) ?_
              refine jr_goto (tgt := 88) dX12_done_84 (by decide) ?_
              exact jr_iret (ty := .int) rfl rfl dX12_done_88 k
          · have k := k.2 c1_4
            by_cases c1_5 : x0 = 15
            · have k := k.1 c1_5
              refine jr_tableIn (tgt := 89) dX12_done_1 (by rw [c1_5]; decide) (by rw [c1_5]; decide) (by rw [c1_5]; rfl) (by decide) ?_
              refine jr_lload_n 1 dX12_done_89 rfl rfl ?_
              refine jr_lload_n 2 dX12_done_90 rfl rfl ?_
              refine jr_lcmp_le (tgt := 99) dX12_done_91 dX12_done_92 (by decide) (fun c91 => ?_) (fun c91 => ?_)
              · have k := k.2 c91
                refine jr_iconst (v := 0) dX12_done_99 (by decide) ?_
                exact jr_iret (ty := .int) rfl rfl dX12_done_100 k
              · have k := k.1 c91
                refine jr_iconst (v := 1) dX12_done_95 (by decide) ?_
                refine jr_goto (tgt := 100) dX12_done_96 (by decide) ?_
                exact jr_iret (ty := .int) rfl rfl dX12_done_100 k
            · have k := k.2 c1_5
              by_cases c1_6 : x0 = 16
              · have k := k.1 c1_6
                refine jr_tableIn (tgt := 101) dX12_done_1 (by rw [c1_6]; decide) (by rw [c1_6]; decide) (by rw [c1_6]; rfl) (by decide) ?_
                refine jr_lload_n 1 dX12_done_101 rfl rfl ?_
                refine jr_lload_n 2 dX12_done_102 rfl rfl ?_
                refine jr_ladd dX12_done_103 ?_
                refine jr_lconst (v := 1) dX12_done_104 (by decide) ?_
                refine jr_lcmp_le (tgt := 113) dX12_done_105 dX12_done_106 (by decide) (fun c105 => ?_) (fun c105 => ?_)
                · have k := k.2 c105
                  refine jr_iconst (v := 0) dX12_done_113 (by decide) ?_
                  exact jr_iret (ty := .int) rfl rfl dX12_done_114 k
                · have k := k.1 c105
                  refine jr_iconst (v := 1) dX12_done_109 (by decide) ?_
                  refine jr_goto (tgt := 114) dX12_done_110 (by decide) ?_
                  exact jr_iret (ty := .int) rfl rfl dX12_done_114 k
              · have k := k.2 c1_6
                refine jr_tableOut (tgt := 115) dX12_done_1 ?_ (by decide) ?_
                · have d1_0 := j_ne c1_0 (z := 10) (by decide)
                  have d1_1 := j_ne c1_1 (z := 11) (by decide)
                  have d1_2 := j_ne c1_2 (z := 12) (by decide)
                  have d1_3 := j_ne c1_3 (z := 13) (by decide)
                  have d1_4 := j_ne c1_4 (z := 14) (by decide)
                  have d1_5 := j_ne c1_5 (z := 15) (by decide)
                  have d1_6 := j_ne c1_6 (z := 16) (by decide)
                  omega
                · refine jr_lload_n 1 dX12_done_115 rfl rfl ?_
                  refine jr_lload_n 2 dX12_done_116 rfl rfl ?_
                  refine jr_ladd dX12_done_117 ?_
                  refine jr_lconst (v := 0) dX12_done_118 (by decide) ?_
                  refine jr_lcmp_le (tgt := 127) dX12_done_119 dX12_done_120 (by decide) (fun c119 => ?_) (fun c119 => ?_)
                  · have k := k.2 c119
                    refine jr_iconst (v := 0) dX12_done_127 (by decide) ?_
                    exact jr_iret (ty := .int) rfl rfl dX12_done_128 k
                  · have k := k.1 c119
                    refine jr_iconst (v := 1) dX12_done_123 (by decide) ?_
                    refine jr_goto (tgt := 128) dX12_done_124 (by decide) ?_
                    exact jr_iret (ty := .int) rfl rfl dX12_done_128 k
set_option maxRecDepth 20000 in
theorem bX12_lawOf_0 {g : jG} {d : Nat} {hs : jH} {P : jO → jH → Prop} {x0 : Nat} {x1 : Int32} {x2 : Int32} {h : jH} (k : J g mX12_lawOf (d + 1) hs P 5 [(0, .ref x0), (1, .int x1), (2, .int x2), (3, .int 0), (4, .int 0)] [] h) : J g mX12_lawOf (d + 1) hs P 0 [(0, .ref x0), (1, .int x1), (2, .int x2)] [] h := by
  refine jr_iconst (v := 0) dX12_lawOf_0 (by decide) ?_
  refine jr_istore_n (lv' := [(3, .int 0), (0, .ref x0), (1, .int x1), (2, .int x2)]) dX12_lawOf_1 rfl (by decide) rfl ?_
  refine jr_iconst (v := 0) dX12_lawOf_2 (by decide) ?_
  refine jr_istore (lv' := [(4, .int 0), (3, .int 0), (0, .ref x0), (1, .int x1), (2, .int x2)]) dX12_lawOf_3 (by decide) rfl ?_
  exact jr_sub [2, 3, 4, 1, 0] rfl k
set_option maxRecDepth 20000 in
theorem bX12_lawOf_5 {g : jG} {d : Nat} {hs : jH} {P : jO → jH → Prop} {x0 : Nat} {x1 : Int32} {x2 : Int32} {x3 : Int32} {x4 : Int32} {h : jH} (k : ∃ fs1 : List Value, h.1 x0 = some (.inr (12, fs1)) ∧ ∃ v4 : Nat, fs1[0]? = some (.ref v4) ∧ ∃ (n5 : Nat) (f6 : Nat → Int32), h.1 v4 = some (.inl (0, (n5, .inl f6))) ∧ vp_in x1 n5 ∧ (x4 < (f6 x1.toNatClampNeg) → ∃ fs17 : List Value, h.1 x0 = some (.inr (12, fs17)) ∧ ∃ v20 : Nat, fs17[0]? = some (.ref v20) ∧ ∃ (n21 : Nat) (f22 : Nat → Int32), h.1 v20 = some (.inl (0, (n21, .inl f22))) ∧ vp_in (x2 + x4) n21 ∧ ((f22 ((x2 + x4)).toNatClampNeg) < 100 → ((f22 ((x2 + x4)).toNatClampNeg) = 18 → ∃ fs53 : List Value, h.1 x0 = some (.inr (12, fs53)) ∧ ∃ v56 : Nat, fs53[19]? = some (.ref v56) ∧ ∃ fs57 : List Value, h.1 x0 = some (.inr (12, fs57)) ∧ ∃ v60 : Nat, fs57[19]? = some (.ref v60) ∧ ∃ (n61 : Nat) (f62 : Nat → Int32), h.1 v60 = some (.inl (0, (n61, .inl f62))) ∧ vp_in (x3 - 1) n61 ∧ ∃ (n65 : Nat) (f66 : Nat → Int32), h.1 v56 = some (.inl (0, (n65, .inl f66))) ∧ vp_in (x3 - 1) n65 ∧ ∀ h69 : jH, h69 = jset h v56 (.inl (0, (n65, .inl (upd f66 ((x3 - 1)).toNatClampNeg ((1 - (f62 ((x3 - 1)).toNatClampNeg))))))) → J g mX12_lawOf (d + 1) hs P 5 [(0, .ref x0), (1, .int x1), (2, .int x2), (3, .int x3), (4, .int (x4 + 1))] [] h69) ∧ (¬ (f22 ((x2 + x4)).toNatClampNeg) = 18 → ∃ fs25 : List Value, h.1 x0 = some (.inr (12, fs25)) ∧ ∃ v28 : Nat, fs25[19]? = some (.ref v28) ∧ ∃ fs29 : List Value, h.1 x0 = some (.inr (12, fs29)) ∧ ∃ v32 : Nat, fs29[19]? = some (.ref v32) ∧ ∃ (n33 : Nat) (f34 : Nat → Int32), h.1 v32 = some (.inl (0, (n33, .inl f34))) ∧ vp_in ((x3 + (-1)) - 1) n33 ∧ ∃ fs37 : List Value, h.1 x0 = some (.inr (12, fs37)) ∧ ∃ v40 : Nat, fs37[19]? = some (.ref v40) ∧ ∃ (n41 : Nat) (f42 : Nat → Int32), h.1 v40 = some (.inl (0, (n41, .inl f42))) ∧ vp_in (x3 + (-1)) n41 ∧ Con g mX12_done d [.int (f22 ((x2 + x4)).toNatClampNeg), .long ((f34 (((x3 + (-1)) - 1)).toNatClampNeg)).toInt64, .long ((f42 ((x3 + (-1))).toNatClampNeg)).toInt64] h (jPi (fun (r45 : Int32) (h46 : jH) => ∃ (n47 : Nat) (f48 : Nat → Int32), h46.1 v28 = some (.inl (0, (n47, .inl f48))) ∧ vp_in ((x3 + (-1)) - 1) n47 ∧ ∀ h51 : jH, h51 = jset h46 v28 (.inl (0, (n47, .inl (upd f48 (((x3 + (-1)) - 1)).toNatClampNeg r45)))) → J g mX12_lawOf (d + 1) hs P 5 [(0, .ref x0), (1, .int x1), (2, .int x2), (3, .int (x3 + (-1))), (4, .int (x4 + 1))] [] h51) (fun E h' => P (.inr E) h')))) ∧ (¬ (f22 ((x2 + x4)).toNatClampNeg) < 100 → ∃ fs71 : List Value, h.1 x0 = some (.inr (12, fs71)) ∧ ∃ v74 : Nat, fs71[19]? = some (.ref v74) ∧ ((f22 ((x2 + x4)).toNatClampNeg) < 1000 → ∃ fs75 : List Value, h.1 x0 = some (.inr (12, fs75)) ∧ ∃ v78 : Nat, fs75[20]? = some (.ref v78) ∧ ∃ (n79 : Nat) (f80 : Nat → Int32), h.1 v78 = some (.inl (0, (n79, .inl f80))) ∧ vp_in ((f22 ((x2 + x4)).toNatClampNeg) - 100) n79 ∧ J g mX12_lawOf (d + 1) hs P 66 [(0, .ref x0), (1, .int x1), (2, .int x2), (3, .int x3), (4, .int x4)] [.int (f80 (((f22 ((x2 + x4)).toNatClampNeg) - 100)).toNatClampNeg), .int x3, .ref v74] h) ∧ (¬ (f22 ((x2 + x4)).toNatClampNeg) < 1000 → J g mX12_lawOf (d + 1) hs P 66 [(0, .ref x0), (1, .int x1), (2, .int x2), (3, .int x3), (4, .int x4)] [.int ((f22 ((x2 + x4)).toNatClampNeg) - 1000), .int x3, .ref v74] h))) ∧ (¬ x4 < (f6 x1.toNatClampNeg) → ∃ fs9 : List Value, h.1 x0 = some (.inr (12, fs9)) ∧ ∃ v12 : Nat, fs9[19]? = some (.ref v12) ∧ ∃ (n13 : Nat) (f14 : Nat → Int32), h.1 v12 = some (.inl (0, (n13, .inl f14))) ∧ vp_in 0 n13 ∧ P (.inl (some (.int ((f14 ((0 : Int32)).toNatClampNeg))))) h)) : J g mX12_lawOf (d + 1) hs P 5 [(0, .ref x0), (1, .int x1), (2, .int x2), (3, .int x3), (4, .int x4)] [] h := by
  refine jr_iload 4 dX12_lawOf_5 rfl ?_
  refine jr_aload_n 0 dX12_lawOf_7 rfl rfl ?_
  obtain ⟨fs1, e2, v4, e3, k⟩ := k
  refine jr_get jf_X12_9 dX12_lawOf_8 e2 e3 ?_
  refine jr_iload_n 1 dX12_lawOf_11 rfl rfl ?_
  obtain ⟨n5, f6, e7, e8, k⟩ := k
  refine jr_iald dX12_lawOf_12 e7 e8 ?_
  refine jr_icmp_ge (tgt := 139) dX12_lawOf_13 (by decide) (fun c13 => ?_) (fun c13 => ?_)
  · have k := k.2 c13
    refine jr_aload_n 0 dX12_lawOf_139 rfl rfl ?_
    obtain ⟨fs9, e10, v12, e11, k⟩ := k
    refine jr_get jf_X12_30 dX12_lawOf_140 e10 e11 ?_
    refine jr_iconst (v := 0) dX12_lawOf_143 (by decide) ?_
    obtain ⟨n13, f14, e15, e16, k⟩ := k
    refine jr_iald dX12_lawOf_144 e15 e16 ?_
    exact jr_iret (ty := .int) rfl rfl dX12_lawOf_145 k
  · have k := k.1 c13
    refine jr_aload_n 0 dX12_lawOf_16 rfl rfl ?_
    obtain ⟨fs17, e18, v20, e19, k⟩ := k
    refine jr_get jf_X12_9 dX12_lawOf_17 e18 e19 ?_
    refine jr_iload_n 2 dX12_lawOf_20 rfl rfl ?_
    refine jr_iload 4 dX12_lawOf_21 rfl ?_
    refine jr_iadd dX12_lawOf_23 ?_
    obtain ⟨n21, f22, e23, e24, k⟩ := k
    refine jr_iald dX12_lawOf_24 e23 e24 ?_
    refine jr_istore (lv' := [(5, .int (f22 ((x2 + x4)).toNatClampNeg)), (0, .ref x0), (1, .int x1), (2, .int x2), (3, .int x3), (4, .int x4)]) dX12_lawOf_25 (by decide) rfl ?_
    refine jr_iload 0 dX12_lawOf_27 rfl ?_
    refine jr_bipush (v := 100) dX12_lawOf_29 (by decide) ?_
    refine jr_icmp_lt (tgt := 73) dX12_lawOf_31 (by decide) (fun c31 => ?_) (fun c31 => ?_)
    · have k := k.1 c31
      refine jr_iload 0 dX12_lawOf_73 rfl ?_
      refine jr_bipush (v := 18) dX12_lawOf_75 (by decide) ?_
      refine jr_icmp_ne (tgt := 101) dX12_lawOf_77 (by decide) (fun c77 => ?_) (fun c77 => ?_)
      · have k := k.2 c77
        refine jr_iinc (v := (x3 + (-1))) (lv' := [(3, .int (x3 + (-1))), (5, .int (f22 ((x2 + x4)).toNatClampNeg)), (0, .ref x0), (1, .int x1), (2, .int x2), (4, .int x4)]) 4 dX12_lawOf_101 rfl rfl (by decide) rfl ?_
        refine jr_aload_n 2 dX12_lawOf_104 rfl rfl ?_
        obtain ⟨fs25, e26, v28, e27, k⟩ := k
        refine jr_get jf_X12_30 dX12_lawOf_105 e26 e27 ?_
        refine jr_iload_n 0 dX12_lawOf_108 rfl rfl ?_
        refine jr_iconst (v := 1) dX12_lawOf_109 (by decide) ?_
        refine jr_isub dX12_lawOf_110 ?_
        refine jr_iload 1 dX12_lawOf_111 rfl ?_
        refine jr_aload_n 2 dX12_lawOf_113 rfl rfl ?_
        obtain ⟨fs29, e30, v32, e31, k⟩ := k
        refine jr_get jf_X12_30 dX12_lawOf_114 e30 e31 ?_
        refine jr_iload_n 0 dX12_lawOf_117 rfl rfl ?_
        refine jr_iconst (v := 1) dX12_lawOf_118 (by decide) ?_
        refine jr_isub dX12_lawOf_119 ?_
        obtain ⟨n33, f34, e35, e36, k⟩ := k
        refine jr_iald dX12_lawOf_120 e35 e36 ?_
        refine jr_i2l dX12_lawOf_121 ?_
        refine jr_aload_n 2 dX12_lawOf_122 rfl rfl ?_
        obtain ⟨fs37, e38, v40, e39, k⟩ := k
        refine jr_get jf_X12_30 dX12_lawOf_123 e38 e39 ?_
        refine jr_iload_n 0 dX12_lawOf_126 rfl rfl ?_
        obtain ⟨n41, f42, e43, e44, k⟩ := k
        refine jr_iald dX12_lawOf_127 e43 e44 ?_
        refine jr_i2l dX12_lawOf_128 ?_
        refine jr_cSi (As := [.int (f22 ((x2 + x4)).toNatClampNeg), .long ((f34 (((x3 + (-1)) - 1)).toNatClampNeg)).toInt64, .long ((f42 ((x3 + (-1))).toNatClampNeg)).toInt64]) jl_X12_266 km_X12_done rfl rfl dX12_lawOf_129 (Nat.le_of_ble_eq_true rfl) k (fun r45 h46 k => ?_)
        obtain ⟨n47, f48, e49, e50, k⟩ := k
        refine jr_iastE dX12_lawOf_132 e49 e50 (fun h51 eh52 => ?_)
        have k := k h51 eh52
        refine jr_iinc (v := (x4 + 1)) (lv' := [(4, .int (x4 + 1)), (3, .int (x3 + (-1))), (5, .int (f22 ((x2 + x4)).toNatClampNeg)), (0, .ref x0), (1, .int x1), (2, .int x2)]) 5 dX12_lawOf_133 rfl rfl (by decide) rfl ?_
        refine jr_goto (tgt := 5) dX12_lawOf_136 (by decide) ?_
        exact jr_sub [3, 4, 5, 1, 0] rfl k
      · have k := k.1 c77
        refine jr_aload_n 1 dX12_lawOf_80 rfl rfl ?_
        obtain ⟨fs53, e54, v56, e55, k⟩ := k
        refine jr_get jf_X12_30 dX12_lawOf_81 e54 e55 ?_
        refine jr_iload_n 4 dX12_lawOf_84 rfl rfl ?_
        refine jr_iconst (v := 1) dX12_lawOf_85 (by decide) ?_
        refine jr_isub dX12_lawOf_86 ?_
        refine jr_iconst (v := 1) dX12_lawOf_87 (by decide) ?_
        refine jr_aload_n 1 dX12_lawOf_88 rfl rfl ?_
        obtain ⟨fs57, e58, v60, e59, k⟩ := k
        refine jr_get jf_X12_30 dX12_lawOf_89 e58 e59 ?_
        refine jr_iload_n 4 dX12_lawOf_92 rfl rfl ?_
        refine jr_iconst (v := 1) dX12_lawOf_93 (by decide) ?_
        refine jr_isub dX12_lawOf_94 ?_
        obtain ⟨n61, f62, e63, e64, k⟩ := k
        refine jr_iald dX12_lawOf_95 e63 e64 ?_
        refine jr_isub dX12_lawOf_96 ?_
        obtain ⟨n65, f66, e67, e68, k⟩ := k
        refine jr_iastE dX12_lawOf_97 e67 e68 (fun h69 eh70 => ?_)
        have k := k h69 eh70
        refine jr_goto (tgt := 133) dX12_lawOf_98 (by decide) ?_
        refine jr_iinc (v := (x4 + 1)) (lv' := [(4, .int (x4 + 1)), (5, .int (f22 ((x2 + x4)).toNatClampNeg)), (0, .ref x0), (1, .int x1), (2, .int x2), (3, .int x3)]) 5 dX12_lawOf_133 rfl rfl (by decide) rfl ?_
        refine jr_goto (tgt := 5) dX12_lawOf_136 (by decide) ?_
        exact jr_sub [2, 3, 4, 5, 0] rfl k
    · have k := k.2 c31
      refine jr_aload_n 1 dX12_lawOf_34 rfl rfl ?_
      obtain ⟨fs71, e72, v74, e73, k⟩ := k
      refine jr_get jf_X12_30 dX12_lawOf_35 e72 e73 ?_
      refine jr_iload_n 4 dX12_lawOf_38 rfl rfl ?_
      refine jr_iload 0 dX12_lawOf_39 rfl ?_
      refine jr_sipush (v := 1000) dX12_lawOf_41 (by decide) ?_
      refine jr_icmp_lt (tgt := 56) dX12_lawOf_44 (by decide) (fun c44 => ?_) (fun c44 => ?_)
      · have k := k.1 c44
        refine jr_aload_n 1 dX12_lawOf_56 rfl rfl ?_
        obtain ⟨fs75, e76, v78, e77, k⟩ := k
        refine jr_get jf_X12_33 dX12_lawOf_57 e76 e77 ?_
        refine jr_iload 0 dX12_lawOf_60 rfl ?_
        refine jr_bipush (v := 100) dX12_lawOf_62 (by decide) ?_
        refine jr_isub dX12_lawOf_64 ?_
        obtain ⟨n79, f80, e81, e82, k⟩ := k
        refine jr_iald dX12_lawOf_65 e81 e82 ?_
        exact jr_sub [1, 2, 3, 4, 5] rfl k
      · have k := k.2 c44
        refine jr_iload 0 dX12_lawOf_47 rfl ?_
        refine jr_sipush (v := 1000) dX12_lawOf_49 (by decide) ?_
        refine jr_isub dX12_lawOf_52 ?_
        refine jr_goto (tgt := 66) dX12_lawOf_53 (by decide) ?_
        exact jr_sub [1, 2, 3, 4, 5] rfl k
set_option maxRecDepth 20000 in
theorem bX12_lawOf_66 {g : jG} {d : Nat} {hs : jH} {P : jO → jH → Prop} {x0 : Nat} {x1 : Int32} {x2 : Int32} {x3 : Int32} {x4 : Int32} {s0 : Nat} {s1 : Int32} {s2 : Int32} {h : jH} (k : ∃ (n1 : Nat) (f2 : Nat → Int32), h.1 s0 = some (.inl (0, (n1, .inl f2))) ∧ vp_in s1 n1 ∧ ∀ h5 : jH, h5 = jset h s0 (.inl (0, (n1, .inl (upd f2 s1.toNatClampNeg s2)))) → J g mX12_lawOf (d + 1) hs P 5 [(0, .ref x0), (1, .int x1), (2, .int x2), (3, .int (x3 + 1)), (4, .int (x4 + 1))] [] h5) : J g mX12_lawOf (d + 1) hs P 66 [(0, .ref x0), (1, .int x1), (2, .int x2), (3, .int x3), (4, .int x4)] [.int s2, .int s1, .ref s0] h := by
  obtain ⟨n1, f2, e3, e4, k⟩ := k
  refine jr_iastE dX12_lawOf_66 e3 e4 (fun h5 eh6 => ?_)
  have k := k h5 eh6
  refine jr_iinc (v := (x3 + 1)) (lv' := [(3, .int (x3 + 1)), (0, .ref x0), (1, .int x1), (2, .int x2), (4, .int x4)]) 3 dX12_lawOf_67 rfl rfl (by decide) rfl ?_
  refine jr_goto (tgt := 133) dX12_lawOf_70 (by decide) ?_
  refine jr_iinc (v := (x4 + 1)) (lv' := [(4, .int (x4 + 1)), (3, .int (x3 + 1)), (0, .ref x0), (1, .int x1), (2, .int x2)]) 4 dX12_lawOf_133 rfl rfl (by decide) rfl ?_
  refine jr_goto (tgt := 5) dX12_lawOf_136 (by decide) ?_
  exact jr_sub [2, 3, 4, 1, 0] rfl k
set_option maxRecDepth 20000 in
theorem bX12_asks_0 {g : jG} {d : Nat} {hs : jH} {P : jO → jH → Prop} {x0 : Nat} {x1 : Int32} {x2 : Int32} {h : jH} (k : ∃ fs1 : List Value, h.1 x0 = some (.inr (12, fs1)) ∧ ∃ v4 : Nat, fs1[20]? = some (.ref v4) ∧ ∃ (n5 : Nat) (f6 : Nat → Int32), h.1 v4 = some (.inl (0, (n5, .inl f6))) ∧ vp_in 0 n5 ∧ ∀ h9 : jH, h9 = jset h v4 (.inl (0, (n5, .inl (upd f6 ((0 : Int32)).toNatClampNeg x1)))) → ∃ fs11 : List Value, h9.1 x0 = some (.inr (12, fs11)) ∧ ∃ v14 : Nat, fs11[20]? = some (.ref v14) ∧ ∃ (n15 : Nat) (f16 : Nat → Int32), h9.1 v14 = some (.inl (0, (n15, .inl f16))) ∧ vp_in 1 n15 ∧ ∀ h19 : jH, h19 = jset h9 v14 (.inl (0, (n15, .inl (upd f16 ((1 : Int32)).toNatClampNeg x2)))) → ∃ fs21 : List Value, h19.1 x0 = some (.inr (12, fs21)) ∧ ∃ v24 : Nat, fs21[20]? = some (.ref v24) ∧ ∃ fs25 : List Value, h19.1 x0 = some (.inr (12, fs25)) ∧ ∃ v28 : Nat, fs25[0]? = some (.ref v28) ∧ ∃ (n29 : Nat) (f30 : Nat → Int32), h19.1 v28 = some (.inl (0, (n29, .inl f30))) ∧ vp_in 51 n29 ∧ ∃ (n33 : Nat) (f34 : Nat → Int32), h19.1 v24 = some (.inl (0, (n33, .inl f34))) ∧ vp_in 2 n33 ∧ ∀ h37 : jH, h37 = jset h19 v24 (.inl (0, (n33, .inl (upd f34 ((2 : Int32)).toNatClampNeg (((f30 ((51 : Int32)).toNatClampNeg) - (f30 ((51 : Int32)).toNatClampNeg) / 1000 * 1000)))))) → P (.inl none) h37) : J g mX12_asks (d + 1) hs P 0 [(0, .ref x0), (1, .int x1), (2, .int x2)] [] h := by
  refine jr_aload_n 0 dX12_asks_0 rfl rfl ?_
  obtain ⟨fs1, e2, v4, e3, k⟩ := k
  refine jr_get jf_X12_33 dX12_asks_1 e2 e3 ?_
  refine jr_iconst (v := 0) dX12_asks_4 (by decide) ?_
  refine jr_iload_n 1 dX12_asks_5 rfl rfl ?_
  obtain ⟨n5, f6, e7, e8, k⟩ := k
  refine jr_iastE dX12_asks_6 e7 e8 (fun h9 eh10 => ?_)
  have k := k h9 eh10
  refine jr_aload_n 0 dX12_asks_7 rfl rfl ?_
  obtain ⟨fs11, e12, v14, e13, k⟩ := k
  refine jr_get jf_X12_33 dX12_asks_8 e12 e13 ?_
  refine jr_iconst (v := 1) dX12_asks_11 (by decide) ?_
  refine jr_iload_n 2 dX12_asks_12 rfl rfl ?_
  obtain ⟨n15, f16, e17, e18, k⟩ := k
  refine jr_iastE dX12_asks_13 e17 e18 (fun h19 eh20 => ?_)
  have k := k h19 eh20
  refine jr_aload_n 0 dX12_asks_14 rfl rfl ?_
  obtain ⟨fs21, e22, v24, e23, k⟩ := k
  refine jr_get jf_X12_33 dX12_asks_15 e22 e23 ?_
  refine jr_iconst (v := 2) dX12_asks_18 (by decide) ?_
  refine jr_aload_n 0 dX12_asks_19 rfl rfl ?_
  obtain ⟨fs25, e26, v28, e27, k⟩ := k
  refine jr_get jf_X12_9 dX12_asks_20 e26 e27 ?_
  refine jr_bipush (v := 51) dX12_asks_23 (by decide) ?_
  obtain ⟨n29, f30, e31, e32, k⟩ := k
  refine jr_iald dX12_asks_25 e31 e32 ?_
  refine jr_sipush (v := 1000) dX12_asks_26 (by decide) ?_
  refine jr_irem dX12_asks_29 (by decide) ?_
  obtain ⟨n33, f34, e35, e36, k⟩ := k
  refine jr_iastE dX12_asks_30 e35 e36 (fun h37 eh38 => ?_)
  have k := k h37 eh38
  exact jr_vret rfl dX12_asks_31 k
set_option maxRecDepth 20000 in
theorem bX12_paysNow_0 {g : jG} {d : Nat} {hs : jH} {P : jO → jH → Prop} {x0 : Nat} {x1 : Int32} {h : jH} (k : ∃ fs1 : List Value, h.1 x0 = some (.inr (12, fs1)) ∧ ∃ v4 : Nat, fs1[0]? = some (.ref v4) ∧ ∃ (n5 : Nat) (f6 : Nat → Int32), h.1 v4 = some (.inl (0, (n5, .inl f6))) ∧ vp_in (22 + x1) n5 ∧ ∃ fs9 : List Value, h.1 x0 = some (.inr (12, fs9)) ∧ ∃ v12 : Nat, fs9[0]? = some (.ref v12) ∧ ∃ (n13 : Nat) (f14 : Nat → Int32), h.1 v12 = some (.inl (0, (n13, .inl f14))) ∧ vp_in (36 + x1) n13 ∧ ∃ fs17 : List Value, h.1 x0 = some (.inr (12, fs17)) ∧ ∃ v20 : Nat, fs17[0]? = some (.ref v20) ∧ ∃ (n21 : Nat) (f22 : Nat → Int32), h.1 v20 = some (.inl (0, (n21, .inl f22))) ∧ vp_in 4 n21 ∧ ((f22 ((4 : Int32)).toNatClampNeg) = 0 → P (.inl (some (.int ((jmin ((f6 ((22 + x1)).toNatClampNeg)) ((f14 ((36 + x1)).toNatClampNeg))))))) h) ∧ (¬ (f22 ((4 : Int32)).toNatClampNeg) = 0 → ∃ fs25 : List Value, h.1 x0 = some (.inr (12, fs25)) ∧ ∃ v28 : Nat, fs25[0]? = some (.ref v28) ∧ ∃ (n29 : Nat) (f30 : Nat → Int32), h.1 v28 = some (.inl (0, (n29, .inl f30))) ∧ vp_in (36 + x1) n29 ∧ ∃ fs35 : List Value, h.1 x0 = some (.inr (12, fs35)) ∧ Con g mX12_asks d [.ref x0, .int (f30 ((36 + x1)).toNatClampNeg), .int x1] h (jPv (fun (h34 : jH) => ∃ fs37 : List Value, h34.1 x0 = some (.inr (12, fs37)) ∧ ∃ v40 : Nat, fs37[20]? = some (.ref v40) ∧ ∃ fs41 : List Value, h34.1 x0 = some (.inr (12, fs41)) ∧ ∃ v44 : Nat, fs41[0]? = some (.ref v44) ∧ ∃ (n45 : Nat) (f46 : Nat → Int32), h34.1 v44 = some (.inl (0, (n45, .inl f46))) ∧ vp_in (22 + x1) n45 ∧ ∃ (n49 : Nat) (f50 : Nat → Int32), h34.1 v40 = some (.inl (0, (n49, .inl f50))) ∧ vp_in 3 n49 ∧ ∀ h53 : jH, h53 = jset h34 v40 (.inl (0, (n49, .inl (upd f50 ((3 : Int32)).toNatClampNeg ((f46 ((22 + x1)).toNatClampNeg)))))) → ∃ fs55 : List Value, h53.1 x0 = some (.inr (12, fs55)) ∧ ∃ v58 : Nat, fs55[20]? = some (.ref v58) ∧ ∃ fs59 : List Value, h53.1 x0 = some (.inr (12, fs59)) ∧ ∃ v62 : Nat, fs59[0]? = some (.ref v62) ∧ ∃ (n63 : Nat) (f64 : Nat → Int32), h53.1 v62 = some (.inl (0, (n63, .inl f64))) ∧ vp_in (8 + x1) n63 ∧ ∃ (n67 : Nat) (f68 : Nat → Int32), h53.1 v58 = some (.inl (0, (n67, .inl f68))) ∧ vp_in 4 n67 ∧ ∀ h71 : jH, h71 = jset h53 v58 (.inl (0, (n67, .inl (upd f68 ((4 : Int32)).toNatClampNeg ((f64 ((8 + x1)).toNatClampNeg)))))) → ∃ fs73 : List Value, h71.1 x0 = some (.inr (12, fs73)) ∧ ∃ v76 : Nat, fs73[20]? = some (.ref v76) ∧ ∃ fs77 : List Value, h71.1 x0 = some (.inr (12, fs77)) ∧ ∃ v80 : Nat, fs77[0]? = some (.ref v80) ∧ ∃ (n81 : Nat) (f82 : Nat → Int32), h71.1 v80 = some (.inl (0, (n81, .inl f82))) ∧ vp_in (15 + x1) n81 ∧ ∃ (n85 : Nat) (f86 : Nat → Int32), h71.1 v76 = some (.inl (0, (n85, .inl f86))) ∧ vp_in 5 n85 ∧ ∀ h89 : jH, h89 = jset h71 v76 (.inl (0, (n85, .inl (upd f86 ((5 : Int32)).toNatClampNeg ((f82 ((15 + x1)).toNatClampNeg)))))) → ∃ fs93 : List Value, h89.1 x0 = some (.inr (12, fs93)) ∧ Con g mX12_lawOf d [.ref x0, .int 4, .int 536] h89 (jPi (fun (r91 : Int32) (h92 : jH) => P (.inl (some (.int ((jmax 0 ((jmin ((jmin ((f6 ((22 + x1)).toNatClampNeg)) ((f14 ((36 + x1)).toNatClampNeg)))) r91))))))) h92) (fun E h' => P (.inr E) h'))) (fun E h' => P (.inr E) h')))) : J g mX12_paysNow (d + 1) hs P 0 [(0, .ref x0), (1, .int x1)] [] h := by
  refine jr_aload_n 0 dX12_paysNow_0 rfl rfl ?_
  obtain ⟨fs1, e2, v4, e3, k⟩ := k
  refine jr_get jf_X12_9 dX12_paysNow_1 e2 e3 ?_
  refine jr_bipush (v := 22) dX12_paysNow_4 (by decide) ?_
  refine jr_iload_n 1 dX12_paysNow_6 rfl rfl ?_
  refine jr_iadd dX12_paysNow_7 ?_
  obtain ⟨n5, f6, e7, e8, k⟩ := k
  refine jr_iald dX12_paysNow_8 e7 e8 ?_
  refine jr_aload_n 0 dX12_paysNow_9 rfl rfl ?_
  obtain ⟨fs9, e10, v12, e11, k⟩ := k
  refine jr_get jf_X12_9 dX12_paysNow_10 e10 e11 ?_
  refine jr_bipush (v := 36) dX12_paysNow_13 (by decide) ?_
  refine jr_iload_n 1 dX12_paysNow_15 rfl rfl ?_
  refine jr_iadd dX12_paysNow_16 ?_
  obtain ⟨n13, f14, e15, e16, k⟩ := k
  refine jr_iald dX12_paysNow_17 e15 e16 ?_
  refine jr_mmin jl_X12_201 dX12_paysNow_18 (Nat.le_of_ble_eq_true rfl) ?_
  refine jr_istore_n (lv' := [(2, .int (jmin ((f6 ((22 + x1)).toNatClampNeg)) ((f14 ((36 + x1)).toNatClampNeg)))), (0, .ref x0), (1, .int x1)]) dX12_paysNow_21 rfl (by decide) rfl ?_
  refine jr_aload_n 1 dX12_paysNow_22 rfl rfl ?_
  obtain ⟨fs17, e18, v20, e19, k⟩ := k
  refine jr_get jf_X12_9 dX12_paysNow_23 e18 e19 ?_
  refine jr_iconst (v := 4) dX12_paysNow_26 (by decide) ?_
  obtain ⟨n21, f22, e23, e24, k⟩ := k
  refine jr_iald dX12_paysNow_27 e23 e24 ?_
  refine jr_if_ne (tgt := 33) dX12_paysNow_28 (by decide) (fun c28 => ?_) (fun c28 => ?_)
  · have k := k.2 c28
    refine jr_aload_n 1 dX12_paysNow_33 rfl rfl ?_
    refine jr_aload_n 1 dX12_paysNow_34 rfl rfl ?_
    obtain ⟨fs25, e26, v28, e27, k⟩ := k
    refine jr_get jf_X12_9 dX12_paysNow_35 e26 e27 ?_
    refine jr_bipush (v := 36) dX12_paysNow_38 (by decide) ?_
    refine jr_iload_n 2 dX12_paysNow_40 rfl rfl ?_
    refine jr_iadd dX12_paysNow_41 ?_
    obtain ⟨n29, f30, e31, e32, k⟩ := k
    refine jr_iald dX12_paysNow_42 e31 e32 ?_
    refine jr_iload_n 2 dX12_paysNow_43 rfl rfl ?_
    obtain ⟨fs35, e36, k⟩ := k
    refine jr_cVv (As := [.int (f30 ((36 + x1)).toNatClampNeg), .int x1]) jl_X12_270 km_X12_asks rfl rfl dX12_paysNow_44 e36 (Nat.le_of_ble_eq_true rfl) k (fun h34 k => ?_)
    refine jr_aload_n 1 dX12_paysNow_47 rfl rfl ?_
    obtain ⟨fs37, e38, v40, e39, k⟩ := k
    refine jr_get jf_X12_33 dX12_paysNow_48 e38 e39 ?_
    refine jr_iconst (v := 3) dX12_paysNow_51 (by decide) ?_
    refine jr_aload_n 1 dX12_paysNow_52 rfl rfl ?_
    obtain ⟨fs41, e42, v44, e43, k⟩ := k
    refine jr_get jf_X12_9 dX12_paysNow_53 e42 e43 ?_
    refine jr_bipush (v := 22) dX12_paysNow_56 (by decide) ?_
    refine jr_iload_n 2 dX12_paysNow_58 rfl rfl ?_
    refine jr_iadd dX12_paysNow_59 ?_
    obtain ⟨n45, f46, e47, e48, k⟩ := k
    refine jr_iald dX12_paysNow_60 e47 e48 ?_
    obtain ⟨n49, f50, e51, e52, k⟩ := k
    refine jr_iastE dX12_paysNow_61 e51 e52 (fun h53 eh54 => ?_)
    have k := k h53 eh54
    refine jr_aload_n 1 dX12_paysNow_62 rfl rfl ?_
    obtain ⟨fs55, e56, v58, e57, k⟩ := k
    refine jr_get jf_X12_33 dX12_paysNow_63 e56 e57 ?_
    refine jr_iconst (v := 4) dX12_paysNow_66 (by decide) ?_
    refine jr_aload_n 1 dX12_paysNow_67 rfl rfl ?_
    obtain ⟨fs59, e60, v62, e61, k⟩ := k
    refine jr_get jf_X12_9 dX12_paysNow_68 e60 e61 ?_
    refine jr_bipush (v := 8) dX12_paysNow_71 (by decide) ?_
    refine jr_iload_n 2 dX12_paysNow_73 rfl rfl ?_
    refine jr_iadd dX12_paysNow_74 ?_
    obtain ⟨n63, f64, e65, e66, k⟩ := k
    refine jr_iald dX12_paysNow_75 e65 e66 ?_
    obtain ⟨n67, f68, e69, e70, k⟩ := k
    refine jr_iastE dX12_paysNow_76 e69 e70 (fun h71 eh72 => ?_)
    have k := k h71 eh72
    refine jr_aload_n 1 dX12_paysNow_77 rfl rfl ?_
    obtain ⟨fs73, e74, v76, e75, k⟩ := k
    refine jr_get jf_X12_33 dX12_paysNow_78 e74 e75 ?_
    refine jr_iconst (v := 5) dX12_paysNow_81 (by decide) ?_
    refine jr_aload_n 1 dX12_paysNow_82 rfl rfl ?_
    obtain ⟨fs77, e78, v80, e79, k⟩ := k
    refine jr_get jf_X12_9 dX12_paysNow_83 e78 e79 ?_
    refine jr_bipush (v := 15) dX12_paysNow_86 (by decide) ?_
    refine jr_iload_n 2 dX12_paysNow_88 rfl rfl ?_
    refine jr_iadd dX12_paysNow_89 ?_
    obtain ⟨n81, f82, e83, e84, k⟩ := k
    refine jr_iald dX12_paysNow_90 e83 e84 ?_
    obtain ⟨n85, f86, e87, e88, k⟩ := k
    refine jr_iastE dX12_paysNow_91 e87 e88 (fun h89 eh90 => ?_)
    have k := k h89 eh90
    refine jr_iconst (v := 0) dX12_paysNow_92 (by decide) ?_
    refine jr_iload_n 0 dX12_paysNow_93 rfl rfl ?_
    refine jr_aload_n 1 dX12_paysNow_94 rfl rfl ?_
    refine jr_iconst (v := 4) dX12_paysNow_95 (by decide) ?_
    refine jr_sipush (v := 536) dX12_paysNow_96 (by decide) ?_
    obtain ⟨fs93, e94, k⟩ := k
    refine jr_cVi (As := [.int 4, .int 536]) jl_X12_273 km_X12_lawOf rfl rfl dX12_paysNow_99 e94 (Nat.le_of_ble_eq_true rfl) k (fun r91 h92 k => ?_)
    refine jr_mmin jl_X12_201 dX12_paysNow_102 (Nat.le_of_ble_eq_true rfl) ?_
    refine jr_mmax jl_X12_276 dX12_paysNow_105 (Nat.le_of_ble_eq_true rfl) ?_
    exact jr_iret (ty := .int) rfl rfl dX12_paysNow_108 k
  · have k := k.1 c28
    refine jr_iload_n 0 dX12_paysNow_31 rfl rfl ?_
    exact jr_iret (ty := .int) rfl rfl dX12_paysNow_32 k
set_option maxRecDepth 20000 in
theorem bX12_growsBy_0 {g : jG} {d : Nat} {hs : jH} {P : jO → jH → Prop} {x0 : Nat} {x1 : Int32} {x2 : Int32} {h : jH} (k : (x2 = 0 → P (.inl (some (.int 0))) h) ∧ (¬ x2 = 0 → ∃ fs1 : List Value, h.1 x0 = some (.inr (12, fs1)) ∧ ∃ v4 : Nat, fs1[0]? = some (.ref v4) ∧ ∃ (n5 : Nat) (f6 : Nat → Int32), h.1 v4 = some (.inl (0, (n5, .inl f6))) ∧ vp_in 5 n5 ∧ ((f6 ((5 : Int32)).toNatClampNeg) = 0 → P (.inl (some (.int 0))) h) ∧ (¬ (f6 ((5 : Int32)).toNatClampNeg) = 0 → ∃ fs11 : List Value, h.1 x0 = some (.inr (12, fs11)) ∧ Con g mX12_asks d [.ref x0, .int x2, .int x1] h (jPv (fun (h10 : jH) => ∃ fs15 : List Value, h10.1 x0 = some (.inr (12, fs15)) ∧ Con g mX12_lawOf d [.ref x0, .int 5, .int 1436] h10 (jPi (fun (r13 : Int32) (h14 : jH) => P (.inl (some (.int ((jmax 0 ((jmin 999 r13))))))) h14) (fun E h' => P (.inr E) h'))) (fun E h' => P (.inr E) h'))))) : J g mX12_growsBy (d + 1) hs P 0 [(0, .ref x0), (1, .int x1), (2, .int x2)] [] h := by
  refine jr_iload_n 2 dX12_growsBy_0 rfl rfl ?_
  refine jr_if_eq (tgt := 13) dX12_growsBy_1 (by decide) (fun c1 => ?_) (fun c1 => ?_)
  · have k := k.1 c1
    refine jr_iconst (v := 0) dX12_growsBy_13 (by decide) ?_
    exact jr_iret (ty := .int) rfl rfl dX12_growsBy_14 k
  · have k := k.2 c1
    refine jr_aload_n 0 dX12_growsBy_4 rfl rfl ?_
    obtain ⟨fs1, e2, v4, e3, k⟩ := k
    refine jr_get jf_X12_9 dX12_growsBy_5 e2 e3 ?_
    refine jr_iconst (v := 5) dX12_growsBy_8 (by decide) ?_
    obtain ⟨n5, f6, e7, e8, k⟩ := k
    refine jr_iald dX12_growsBy_9 e7 e8 ?_
    refine jr_if_ne (tgt := 15) dX12_growsBy_10 (by decide) (fun c10 => ?_) (fun c10 => ?_)
    · have k := k.2 c10
      refine jr_aload_n 0 dX12_growsBy_15 rfl rfl ?_
      refine jr_iload_n 2 dX12_growsBy_16 rfl rfl ?_
      refine jr_iload_n 1 dX12_growsBy_17 rfl rfl ?_
      obtain ⟨fs11, e12, k⟩ := k
      refine jr_cVv (As := [.int x2, .int x1]) jl_X12_270 km_X12_asks rfl rfl dX12_growsBy_18 e12 (Nat.le_of_ble_eq_true rfl) k (fun h10 k => ?_)
      refine jr_iconst (v := 0) dX12_growsBy_21 (by decide) ?_
      refine jr_sipush (v := 999) dX12_growsBy_22 (by decide) ?_
      refine jr_aload_n 0 dX12_growsBy_25 rfl rfl ?_
      refine jr_iconst (v := 5) dX12_growsBy_26 (by decide) ?_
      refine jr_sipush (v := 1436) dX12_growsBy_27 (by decide) ?_
      obtain ⟨fs15, e16, k⟩ := k
      refine jr_cVi (As := [.int 5, .int 1436]) jl_X12_273 km_X12_lawOf rfl rfl dX12_growsBy_30 e16 (Nat.le_of_ble_eq_true rfl) k (fun r13 h14 k => ?_)
      refine jr_mmin jl_X12_201 dX12_growsBy_33 (Nat.le_of_ble_eq_true rfl) ?_
      refine jr_mmax jl_X12_276 dX12_growsBy_36 (Nat.le_of_ble_eq_true rfl) ?_
      exact jr_iret (ty := .int) rfl rfl dX12_growsBy_39 k
    · have k := k.1 c10
      refine jr_iconst (v := 0) dX12_growsBy_13 (by decide) ?_
      exact jr_iret (ty := .int) rfl rfl dX12_growsBy_14 k
set_option maxRecDepth 20000 in
theorem bX12_takesIt_0 {g : jG} {d : Nat} {hs : jH} {P : jO → jH → Prop} {x0 : Nat} {x1 : Int32} {x2 : Int32} {x3 : Int32} {h : jH} (k : ∃ fs1 : List Value, h.1 x0 = some (.inr (12, fs1)) ∧ ∃ v4 : Nat, fs1[0]? = some (.ref v4) ∧ ∃ (n5 : Nat) (f6 : Nat → Int32), h.1 v4 = some (.inl (0, (n5, .inl f6))) ∧ vp_in 6 n5 ∧ ((f6 ((6 : Int32)).toNatClampNeg) = 0 → P (.inl (some (.int 1))) h) ∧ (¬ (f6 ((6 : Int32)).toNatClampNeg) = 0 → ∃ fs11 : List Value, h.1 x0 = some (.inr (12, fs11)) ∧ Con g mX12_asks d [.ref x0, .int x2, .int x1] h (jPv (fun (h10 : jH) => ∃ fs13 : List Value, h10.1 x0 = some (.inr (12, fs13)) ∧ ∃ v16 : Nat, fs13[20]? = some (.ref v16) ∧ ∃ fs17 : List Value, h10.1 x0 = some (.inr (12, fs17)) ∧ ∃ v20 : Nat, fs17[0]? = some (.ref v20) ∧ ∃ (n21 : Nat) (f22 : Nat → Int32), h10.1 v20 = some (.inl (0, (n21, .inl f22))) ∧ vp_in (22 + x1) n21 ∧ ∃ (n25 : Nat) (f26 : Nat → Int32), h10.1 v16 = some (.inl (0, (n25, .inl f26))) ∧ vp_in 3 n25 ∧ ∀ h29 : jH, h29 = jset h10 v16 (.inl (0, (n25, .inl (upd f26 ((3 : Int32)).toNatClampNeg ((f22 ((22 + x1)).toNatClampNeg)))))) → ∃ fs31 : List Value, h29.1 x0 = some (.inr (12, fs31)) ∧ ∃ v34 : Nat, fs31[20]? = some (.ref v34) ∧ ∃ (n35 : Nat) (f36 : Nat → Int32), h29.1 v34 = some (.inl (0, (n35, .inl f36))) ∧ vp_in 4 n35 ∧ ∀ h39 : jH, h39 = jset h29 v34 (.inl (0, (n35, .inl (upd f36 ((4 : Int32)).toNatClampNeg x3)))) → ∃ fs43 : List Value, h39.1 x0 = some (.inr (12, fs43)) ∧ Con g mX12_lawOf d [.ref x0, .int 6, .int 2336] h39 (jPi (fun (r41 : Int32) (h42 : jH) => (r41 = 1 → P (.inl (some (.int 1))) h42) ∧ (¬ r41 = 1 → P (.inl (some (.int 0))) h42)) (fun E h' => P (.inr E) h'))) (fun E h' => P (.inr E) h')))) : J g mX12_takesIt (d + 1) hs P 0 [(0, .ref x0), (1, .int x1), (2, .int x2), (3, .int x3)] [] h := by
  refine jr_aload_n 0 dX12_takesIt_0 rfl rfl ?_
  obtain ⟨fs1, e2, v4, e3, k⟩ := k
  refine jr_get jf_X12_9 dX12_takesIt_1 e2 e3 ?_
  refine jr_bipush (v := 6) dX12_takesIt_4 (by decide) ?_
  obtain ⟨n5, f6, e7, e8, k⟩ := k
  refine jr_iald dX12_takesIt_6 e7 e8 ?_
  refine jr_if_ne (tgt := 12) dX12_takesIt_7 (by decide) (fun c7 => ?_) (fun c7 => ?_)
  · have k := k.2 c7
    refine jr_aload_n 0 dX12_takesIt_12 rfl rfl ?_
    refine jr_iload_n 2 dX12_takesIt_13 rfl rfl ?_
    refine jr_iload_n 1 dX12_takesIt_14 rfl rfl ?_
    obtain ⟨fs11, e12, k⟩ := k
    refine jr_cVv (As := [.int x2, .int x1]) jl_X12_270 km_X12_asks rfl rfl dX12_takesIt_15 e12 (Nat.le_of_ble_eq_true rfl) k (fun h10 k => ?_)
    refine jr_aload_n 0 dX12_takesIt_18 rfl rfl ?_
    obtain ⟨fs13, e14, v16, e15, k⟩ := k
    refine jr_get jf_X12_33 dX12_takesIt_19 e14 e15 ?_
    refine jr_iconst (v := 3) dX12_takesIt_22 (by decide) ?_
    refine jr_aload_n 0 dX12_takesIt_23 rfl rfl ?_
    obtain ⟨fs17, e18, v20, e19, k⟩ := k
    refine jr_get jf_X12_9 dX12_takesIt_24 e18 e19 ?_
    refine jr_bipush (v := 22) dX12_takesIt_27 (by decide) ?_
    refine jr_iload_n 1 dX12_takesIt_29 rfl rfl ?_
    refine jr_iadd dX12_takesIt_30 ?_
    obtain ⟨n21, f22, e23, e24, k⟩ := k
    refine jr_iald dX12_takesIt_31 e23 e24 ?_
    obtain ⟨n25, f26, e27, e28, k⟩ := k
    refine jr_iastE dX12_takesIt_32 e27 e28 (fun h29 eh30 => ?_)
    have k := k h29 eh30
    refine jr_aload_n 0 dX12_takesIt_33 rfl rfl ?_
    obtain ⟨fs31, e32, v34, e33, k⟩ := k
    refine jr_get jf_X12_33 dX12_takesIt_34 e32 e33 ?_
    refine jr_iconst (v := 4) dX12_takesIt_37 (by decide) ?_
    refine jr_iload_n 3 dX12_takesIt_38 rfl rfl ?_
    obtain ⟨n35, f36, e37, e38, k⟩ := k
    refine jr_iastE dX12_takesIt_39 e37 e38 (fun h39 eh40 => ?_)
    have k := k h39 eh40
    refine jr_aload_n 0 dX12_takesIt_40 rfl rfl ?_
    refine jr_bipush (v := 6) dX12_takesIt_41 (by decide) ?_
    refine jr_sipush (v := 2336) dX12_takesIt_43 (by decide) ?_
    obtain ⟨fs43, e44, k⟩ := k
    refine jr_cVi (As := [.int 6, .int 2336]) jl_X12_273 km_X12_lawOf rfl rfl dX12_takesIt_46 e44 (Nat.le_of_ble_eq_true rfl) k (fun r41 h42 k => ?_)
    refine jr_iconst (v := 1) dX12_takesIt_49 (by decide) ?_
    refine jr_icmp_ne (tgt := 57) dX12_takesIt_50 (by decide) (fun c50 => ?_) (fun c50 => ?_)
    · have k := k.2 c50
      refine jr_iconst (v := 0) dX12_takesIt_57 (by decide) ?_
      exact jr_iret (ty := .boolean) rfl rfl dX12_takesIt_58 k
    · have k := k.1 c50
      refine jr_iconst (v := 1) dX12_takesIt_53 (by decide) ?_
      refine jr_goto (tgt := 58) dX12_takesIt_54 (by decide) ?_
      exact jr_iret (ty := .boolean) rfl rfl dX12_takesIt_58 k
  · have k := k.1 c7
    refine jr_iconst (v := 1) dX12_takesIt_10 (by decide) ?_
    exact jr_iret (ty := .boolean) rfl rfl dX12_takesIt_11 k
set_option maxRecDepth 20000 in
theorem bX12_capped_0 {g : jG} {d : Nat} {hs : jH} {P : jO → jH → Prop} {x0 : Int32} {h : jH} (k : P (.inl (some (.int ((jmin 999999 x0))))) h) : J g mX12_capped (d + 1) hs P 0 [(0, .int x0)] [] h := by
  refine jr_ldcw (v := 999999) jk_X12_278 dX12_capped_0 ?_
  refine jr_iload_n 0 dX12_capped_3 rfl rfl ?_
  refine jr_mmin jl_X12_201 dX12_capped_4 (Nat.le_of_ble_eq_true rfl) ?_
  exact jr_iret (ty := .int) rfl rfl dX12_capped_7 k
set_option maxRecDepth 20000 in
theorem bX12_earn_0 {g : jG} {d : Nat} {hs : jH} {P : jO → jH → Prop} {x0 : Nat} {x1 : Int32} {h : jH} (k : ∃ fs1 : List Value, h.1 x0 = some (.inr (12, fs1)) ∧ ∃ v4 : Nat, fs1[0]? = some (.ref v4) ∧ ∃ (n5 : Nat) (f6 : Nat → Int32), h.1 v4 = some (.inl (0, (n5, .inl f6))) ∧ vp_in (22 + x1) n5 ∧ ∃ fs9 : List Value, h.1 x0 = some (.inr (12, fs9)) ∧ ∃ v12 : Nat, fs9[0]? = some (.ref v12) ∧ ∃ (n13 : Nat) (f14 : Nat → Int32), h.1 v12 = some (.inl (0, (n13, .inl f14))) ∧ vp_in (8 + x1) n13 ∧ ∃ fs17 : List Value, h.1 x0 = some (.inr (12, fs17)) ∧ ∃ v20 : Nat, fs17[0]? = some (.ref v20) ∧ ∃ (n21 : Nat) (f22 : Nat → Int32), h.1 v20 = some (.inl (0, (n21, .inl f22))) ∧ vp_in (15 + x1) n21 ∧ Con g mX12_capped d [.int (((f6 ((22 + x1)).toNatClampNeg) + (f14 ((8 + x1)).toNatClampNeg)) - (f22 ((15 + x1)).toNatClampNeg))] h (jPi (fun (r25 : Int32) (h26 : jH) => ∃ fs27 : List Value, h26.1 x0 = some (.inr (12, fs27)) ∧ ∃ v30 : Nat, fs27[0]? = some (.ref v30) ∧ ∃ fs31 : List Value, h26.1 x0 = some (.inr (12, fs31)) ∧ ∃ v34 : Nat, fs31[0]? = some (.ref v34) ∧ ∃ (n35 : Nat) (f36 : Nat → Int32), h26.1 v34 = some (.inl (0, (n35, .inl f36))) ∧ vp_in (36 + x1) n35 ∧ Con g mX12_capped d [.int ((f36 ((36 + x1)).toNatClampNeg) + (jmax 0 ((-r25))))] h26 (jPi (fun (r39 : Int32) (h40 : jH) => ∃ (n41 : Nat) (f42 : Nat → Int32), h40.1 v30 = some (.inl (0, (n41, .inl f42))) ∧ vp_in (36 + x1) n41 ∧ ∀ h45 : jH, h45 = jset h40 v30 (.inl (0, (n41, .inl (upd f42 ((36 + x1)).toNatClampNeg r39)))) → ∃ fs47 : List Value, h45.1 x0 = some (.inr (12, fs47)) ∧ ∃ v50 : Nat, fs47[0]? = some (.ref v50) ∧ ∃ (n51 : Nat) (f52 : Nat → Int32), h45.1 v50 = some (.inl (0, (n51, .inl f52))) ∧ vp_in (22 + x1) n51 ∧ ∀ h55 : jH, h55 = jset h45 v50 (.inl (0, (n51, .inl (upd f52 ((22 + x1)).toNatClampNeg ((jmax 0 r25)))))) → ∃ fs59 : List Value, h55.1 x0 = some (.inr (12, fs59)) ∧ Con g mX12_paysNow d [.ref x0, .int x1] h55 (jPi (fun (r57 : Int32) (h58 : jH) => ∃ fs61 : List Value, h58.1 x0 = some (.inr (12, fs61)) ∧ ∃ v64 : Nat, fs61[0]? = some (.ref v64) ∧ ∃ (n65 : Nat) (f66 : Nat → Int32), h58.1 v64 = some (.inl (0, (n65, .inl f66))) ∧ vp_in (22 + x1) n65 ∧ ∃ (n69 : Nat) (f70 : Nat → Int32), h58.1 v64 = some (.inl (0, (n69, .inl f70))) ∧ vp_in (22 + x1) n69 ∧ ∀ h73 : jH, h73 = jset h58 v64 (.inl (0, (n69, .inl (upd f70 ((22 + x1)).toNatClampNeg (((f66 ((22 + x1)).toNatClampNeg) - r57)))))) → ∃ fs75 : List Value, h73.1 x0 = some (.inr (12, fs75)) ∧ ∃ v78 : Nat, fs75[0]? = some (.ref v78) ∧ ∃ (n79 : Nat) (f80 : Nat → Int32), h73.1 v78 = some (.inl (0, (n79, .inl f80))) ∧ vp_in (36 + x1) n79 ∧ ∃ (n83 : Nat) (f84 : Nat → Int32), h73.1 v78 = some (.inl (0, (n83, .inl f84))) ∧ vp_in (36 + x1) n83 ∧ ∀ h87 : jH, h87 = jset h73 v78 (.inl (0, (n83, .inl (upd f84 ((36 + x1)).toNatClampNeg (((f80 ((36 + x1)).toNatClampNeg) - r57)))))) → ∃ fs89 : List Value, h87.1 x0 = some (.inr (12, fs89)) ∧ ∃ v92 : Int32, fs89[23]? = some (.int v92) ∧ ∃ fs93 : List Value, h87.1 x0 = some (.inr (12, fs93)) ∧ 23 < fs93.length ∧ (∀ h96 : jH, h96 = jset h87 x0 (.inr (12, fs93.set 23 (.int (v92 + r57)))) → P (.inl none) h96)) (fun E h' => P (.inr E) h'))) (fun E h' => P (.inr E) h'))) (fun E h' => P (.inr E) h'))) : J g mX12_earn (d + 1) hs P 0 [(0, .ref x0), (1, .int x1)] [] h := by
  refine jr_aload_n 0 dX12_earn_0 rfl rfl ?_
  obtain ⟨fs1, e2, v4, e3, k⟩ := k
  refine jr_get jf_X12_9 dX12_earn_1 e2 e3 ?_
  refine jr_bipush (v := 22) dX12_earn_4 (by decide) ?_
  refine jr_iload_n 1 dX12_earn_6 rfl rfl ?_
  refine jr_iadd dX12_earn_7 ?_
  obtain ⟨n5, f6, e7, e8, k⟩ := k
  refine jr_iald dX12_earn_8 e7 e8 ?_
  refine jr_aload_n 0 dX12_earn_9 rfl rfl ?_
  obtain ⟨fs9, e10, v12, e11, k⟩ := k
  refine jr_get jf_X12_9 dX12_earn_10 e10 e11 ?_
  refine jr_bipush (v := 8) dX12_earn_13 (by decide) ?_
  refine jr_iload_n 1 dX12_earn_15 rfl rfl ?_
  refine jr_iadd dX12_earn_16 ?_
  obtain ⟨n13, f14, e15, e16, k⟩ := k
  refine jr_iald dX12_earn_17 e15 e16 ?_
  refine jr_iadd dX12_earn_18 ?_
  refine jr_aload_n 0 dX12_earn_19 rfl rfl ?_
  obtain ⟨fs17, e18, v20, e19, k⟩ := k
  refine jr_get jf_X12_9 dX12_earn_20 e18 e19 ?_
  refine jr_bipush (v := 15) dX12_earn_23 (by decide) ?_
  refine jr_iload_n 1 dX12_earn_25 rfl rfl ?_
  refine jr_iadd dX12_earn_26 ?_
  obtain ⟨n21, f22, e23, e24, k⟩ := k
  refine jr_iald dX12_earn_27 e23 e24 ?_
  refine jr_isub dX12_earn_28 ?_
  refine jr_cSi (As := [.int (((f6 ((22 + x1)).toNatClampNeg) + (f14 ((8 + x1)).toNatClampNeg)) - (f22 ((15 + x1)).toNatClampNeg))]) jl_X12_279 km_X12_capped rfl rfl dX12_earn_29 (Nat.le_of_ble_eq_true rfl) k (fun r25 h26 k => ?_)
  refine jr_istore_n (lv' := [(2, .int r25), (0, .ref x0), (1, .int x1)]) dX12_earn_32 rfl (by decide) rfl ?_
  refine jr_aload_n 1 dX12_earn_33 rfl rfl ?_
  obtain ⟨fs27, e28, v30, e29, k⟩ := k
  refine jr_get jf_X12_9 dX12_earn_34 e28 e29 ?_
  refine jr_bipush (v := 36) dX12_earn_37 (by decide) ?_
  refine jr_iload_n 2 dX12_earn_39 rfl rfl ?_
  refine jr_iadd dX12_earn_40 ?_
  refine jr_aload_n 1 dX12_earn_41 rfl rfl ?_
  obtain ⟨fs31, e32, v34, e33, k⟩ := k
  refine jr_get jf_X12_9 dX12_earn_42 e32 e33 ?_
  refine jr_bipush (v := 36) dX12_earn_45 (by decide) ?_
  refine jr_iload_n 2 dX12_earn_47 rfl rfl ?_
  refine jr_iadd dX12_earn_48 ?_
  obtain ⟨n35, f36, e37, e38, k⟩ := k
  refine jr_iald dX12_earn_49 e37 e38 ?_
  refine jr_iconst (v := 0) dX12_earn_50 (by decide) ?_
  refine jr_iload_n 0 dX12_earn_51 rfl rfl ?_
  refine jr_ineg dX12_earn_52 ?_
  refine jr_mmax jl_X12_276 dX12_earn_53 (Nat.le_of_ble_eq_true rfl) ?_
  refine jr_iadd dX12_earn_56 ?_
  refine jr_cSi (As := [.int ((f36 ((36 + x1)).toNatClampNeg) + (jmax 0 ((-r25))))]) jl_X12_279 km_X12_capped rfl rfl dX12_earn_57 (Nat.le_of_ble_eq_true rfl) k (fun r39 h40 k => ?_)
  obtain ⟨n41, f42, e43, e44, k⟩ := k
  refine jr_iastE dX12_earn_60 e43 e44 (fun h45 eh46 => ?_)
  have k := k h45 eh46
  refine jr_aload_n 1 dX12_earn_61 rfl rfl ?_
  obtain ⟨fs47, e48, v50, e49, k⟩ := k
  refine jr_get jf_X12_9 dX12_earn_62 e48 e49 ?_
  refine jr_bipush (v := 22) dX12_earn_65 (by decide) ?_
  refine jr_iload_n 2 dX12_earn_67 rfl rfl ?_
  refine jr_iadd dX12_earn_68 ?_
  refine jr_iconst (v := 0) dX12_earn_69 (by decide) ?_
  refine jr_iload_n 0 dX12_earn_70 rfl rfl ?_
  refine jr_mmax jl_X12_276 dX12_earn_71 (Nat.le_of_ble_eq_true rfl) ?_
  obtain ⟨n51, f52, e53, e54, k⟩ := k
  refine jr_iastE dX12_earn_74 e53 e54 (fun h55 eh56 => ?_)
  have k := k h55 eh56
  refine jr_aload_n 1 dX12_earn_75 rfl rfl ?_
  refine jr_iload_n 2 dX12_earn_76 rfl rfl ?_
  obtain ⟨fs59, e60, k⟩ := k
  refine jr_cVi (As := [.int x1]) jl_X12_282 km_X12_paysNow rfl rfl dX12_earn_77 e60 (Nat.le_of_ble_eq_true rfl) k (fun r57 h58 k => ?_)
  refine jr_istore_n (lv' := [(3, .int r57), (2, .int r25), (0, .ref x0), (1, .int x1)]) dX12_earn_80 rfl (by decide) rfl ?_
  refine jr_aload_n 2 dX12_earn_81 rfl rfl ?_
  obtain ⟨fs61, e62, v64, e63, k⟩ := k
  refine jr_get jf_X12_9 dX12_earn_82 e62 e63 ?_
  refine jr_bipush (v := 22) dX12_earn_85 (by decide) ?_
  refine jr_iload_n 3 dX12_earn_87 rfl rfl ?_
  refine jr_iadd dX12_earn_88 ?_
  refine jr_dup2 dX12_earn_89 rfl rfl ?_
  obtain ⟨n65, f66, e67, e68, k⟩ := k
  refine jr_iald dX12_earn_90 e67 e68 ?_
  refine jr_iload_n 0 dX12_earn_91 rfl rfl ?_
  refine jr_isub dX12_earn_92 ?_
  obtain ⟨n69, f70, e71, e72, k⟩ := k
  refine jr_iastE dX12_earn_93 e71 e72 (fun h73 eh74 => ?_)
  have k := k h73 eh74
  refine jr_aload_n 2 dX12_earn_94 rfl rfl ?_
  obtain ⟨fs75, e76, v78, e77, k⟩ := k
  refine jr_get jf_X12_9 dX12_earn_95 e76 e77 ?_
  refine jr_bipush (v := 36) dX12_earn_98 (by decide) ?_
  refine jr_iload_n 3 dX12_earn_100 rfl rfl ?_
  refine jr_iadd dX12_earn_101 ?_
  refine jr_dup2 dX12_earn_102 rfl rfl ?_
  obtain ⟨n79, f80, e81, e82, k⟩ := k
  refine jr_iald dX12_earn_103 e81 e82 ?_
  refine jr_iload_n 0 dX12_earn_104 rfl rfl ?_
  refine jr_isub dX12_earn_105 ?_
  obtain ⟨n83, f84, e85, e86, k⟩ := k
  refine jr_iastE dX12_earn_106 e85 e86 (fun h87 eh88 => ?_)
  have k := k h87 eh88
  refine jr_aload_n 2 dX12_earn_107 rfl rfl ?_
  refine jr_dup dX12_earn_108 rfl ?_
  obtain ⟨fs89, e90, v92, e91, k⟩ := k
  refine jr_get jf_X12_285 dX12_earn_109 e90 e91 ?_
  refine jr_iload_n 0 dX12_earn_112 rfl rfl ?_
  refine jr_iadd dX12_earn_113 ?_
  obtain ⟨fs93, e94, e95, k⟩ := k
  refine jr_putE jp_X12_285 dX12_earn_114 e94 e95 rfl rfl (fun h96 eh97 => ?_)
  have k := k h96 eh97
  exact jr_vret rfl dX12_earn_117 k
set_option maxRecDepth 20000 in
theorem bX12_quarter_0 {g : jG} {d : Nat} {hs : jH} {P : jO → jH → Prop} {x0 : Nat} {h : jH} (k : ∃ fs1 : List Value, h.1 x0 = some (.inr (12, fs1)) ∧ 23 < fs1.length ∧ (∀ h4 : jH, h4 = jset h x0 (.inr (12, fs1.set 23 (.int 0))) → ∃ fs6 : List Value, h4.1 x0 = some (.inr (12, fs6)) ∧ 24 < fs6.length ∧ (∀ h9 : jH, h9 = jset h4 x0 (.inr (12, fs6.set 24 (.int 0))) → J g mX12_quarter (d + 1) hs P 12 [(0, .ref x0), (1, .int 0)] [] h9))) : J g mX12_quarter (d + 1) hs P 0 [(0, .ref x0)] [] h := by
  refine jr_aload_n 0 dX12_quarter_0 rfl rfl ?_
  refine jr_iconst (v := 0) dX12_quarter_1 (by decide) ?_
  obtain ⟨fs1, e2, e3, k⟩ := k
  refine jr_putE jp_X12_285 dX12_quarter_2 e2 e3 rfl rfl (fun h4 eh5 => ?_)
  have k := k h4 eh5
  refine jr_aload_n 0 dX12_quarter_5 rfl rfl ?_
  refine jr_iconst (v := 0) dX12_quarter_6 (by decide) ?_
  obtain ⟨fs6, e7, e8, k⟩ := k
  refine jr_putE jp_X12_288 dX12_quarter_7 e7 e8 rfl rfl (fun h9 eh10 => ?_)
  have k := k h9 eh10
  refine jr_iconst (v := 0) dX12_quarter_10 (by decide) ?_
  refine jr_istore_n (lv' := [(1, .int 0), (0, .ref x0)]) dX12_quarter_11 rfl (by decide) rfl ?_
  exact jr_sub [1, 0] rfl k
set_option maxRecDepth 20000 in
theorem bX12_quarter_12 {g : jG} {d : Nat} {hs : jH} {P : jO → jH → Prop} {x0 : Nat} {x1 : Int32} {h : jH} (k : ∃ fs3 : List Value, h.1 x0 = some (.inr (12, fs3)) ∧ Con g mX12_houses d [.ref x0] h (jPi (fun (r1 : Int32) (h2 : jH) => (x1 < r1 → ∃ fs7 : List Value, h2.1 x0 = some (.inr (12, fs7)) ∧ Con g mX12_isGone d [.ref x0, .int x1] h2 (jPi (fun (r5 : Int32) (h6 : jH) => (r5 = 0 → ∃ fs11 : List Value, h6.1 x0 = some (.inr (12, fs11)) ∧ Con g mX12_earn d [.ref x0, .int x1] h6 (jPv (fun (h10 : jH) => J g mX12_quarter (d + 1) hs P 33 [(0, .ref x0), (1, .int x1)] [] h10) (fun E h' => P (.inr E) h'))) ∧ (¬ r5 = 0 → J g mX12_quarter (d + 1) hs P 33 [(0, .ref x0), (1, .int x1)] [] h6)) (fun E h' => P (.inr E) h'))) ∧ (¬ x1 < r1 → J g mX12_quarter (d + 1) hs P 99 [(0, .ref x0), (1, .int 0)] [] h2)) (fun E h' => P (.inr E) h'))) : J g mX12_quarter (d + 1) hs P 12 [(0, .ref x0), (1, .int x1)] [] h := by
  refine jr_iload_n 1 dX12_quarter_12 rfl rfl ?_
  refine jr_aload_n 0 dX12_quarter_13 rfl rfl ?_
  obtain ⟨fs3, e4, k⟩ := k
  refine jr_cVi (As := []) jl_X12_249 km_X12_houses rfl rfl dX12_quarter_14 e4 (Nat.le_of_ble_eq_true rfl) k (fun r1 h2 k => ?_)
  refine jr_icmp_ge (tgt := 97) dX12_quarter_17 (by decide) (fun c17 => ?_) (fun c17 => ?_)
  · have k := k.2 c17
    refine jr_iconst (v := 0) dX12_quarter_97 (by decide) ?_
    refine jr_istore_n (lv' := [(1, .int 0), (0, .ref x0)]) dX12_quarter_98 rfl (by decide) rfl ?_
    exact jr_sub [1, 0] rfl k
  · have k := k.1 c17
    refine jr_aload_n 0 dX12_quarter_20 rfl rfl ?_
    refine jr_iload_n 1 dX12_quarter_21 rfl rfl ?_
    obtain ⟨fs7, e8, k⟩ := k
    refine jr_cVi (As := [.int x1]) jl_X12_291 km_X12_isGone rfl rfl dX12_quarter_22 e8 (Nat.le_of_ble_eq_true rfl) k (fun r5 h6 k => ?_)
    refine jr_if_ne (tgt := 33) dX12_quarter_25 (by decide) (fun c25 => ?_) (fun c25 => ?_)
    · have k := k.2 c25
      exact jr_sub [0, 1] rfl k
    · have k := k.1 c25
      refine jr_aload_n 0 dX12_quarter_28 rfl rfl ?_
      refine jr_iload_n 1 dX12_quarter_29 rfl rfl ?_
      obtain ⟨fs11, e12, k⟩ := k
      refine jr_cVv (As := [.int x1]) jl_X12_294 km_X12_earn rfl rfl dX12_quarter_30 e12 (Nat.le_of_ble_eq_true rfl) k (fun h10 k => ?_)
      exact jr_sub [0, 1] rfl k
set_option maxRecDepth 20000 in
theorem bX12_quarter_33 {g : jG} {d : Nat} {hs : jH} {P : jO → jH → Prop} {x0 : Nat} {x1 : Int32} {h : jH} (k : ∃ fs1 : List Value, h.1 x0 = some (.inr (12, fs1)) ∧ ∃ v4 : Nat, fs1[0]? = some (.ref v4) ∧ ∃ fs5 : List Value, h.1 x0 = some (.inr (12, fs5)) ∧ ∃ v8 : Nat, fs5[0]? = some (.ref v8) ∧ ∃ (n9 : Nat) (f10 : Nat → Int32), h.1 v8 = some (.inl (0, (n9, .inl f10))) ∧ vp_in (36 + x1) n9 ∧ ∃ fs13 : List Value, h.1 x0 = some (.inr (12, fs13)) ∧ ∃ v16 : Nat, fs13[0]? = some (.ref v16) ∧ ∃ (n17 : Nat) (f18 : Nat → Int32), h.1 v16 = some (.inl (0, (n17, .inl f18))) ∧ vp_in (36 + x1) n17 ∧ ∃ fs23 : List Value, h.1 x0 = some (.inr (12, fs23)) ∧ Con g mX12_growsBy d [.ref x0, .int x1, .int (f18 ((36 + x1)).toNatClampNeg)] h (jPi (fun (r21 : Int32) (h22 : jH) => Con g mX12_capped d [.int ((f10 ((36 + x1)).toNatClampNeg) + r21)] h22 (jPi (fun (r25 : Int32) (h26 : jH) => ∃ (n27 : Nat) (f28 : Nat → Int32), h26.1 v4 = some (.inl (0, (n27, .inl f28))) ∧ vp_in (36 + x1) n27 ∧ ∀ h31 : jH, h31 = jset h26 v4 (.inl (0, (n27, .inl (upd f28 ((36 + x1)).toNatClampNeg r25)))) → ∃ fs33 : List Value, h31.1 x0 = some (.inr (12, fs33)) ∧ ∃ v36 : Nat, fs33[22]? = some (.ref v36) ∧ ∃ fs37 : List Value, h31.1 x0 = some (.inr (12, fs37)) ∧ ∃ v40 : Nat, fs37[0]? = some (.ref v40) ∧ ∃ (n41 : Nat) (f42 : Nat → Int32), h31.1 v40 = some (.inl (0, (n41, .inl f42))) ∧ vp_in (36 + x1) n41 ∧ ∃ (n45 : Nat) (f46 : Nat → Int32), h31.1 v36 = some (.inl (0, (n45, .inl f46))) ∧ vp_in x1 n45 ∧ ∀ h49 : jH, h49 = jset h31 v36 (.inl (0, (n45, .inl (upd f46 x1.toNatClampNeg ((f42 ((36 + x1)).toNatClampNeg)))))) → ∃ fs51 : List Value, h49.1 x0 = some (.inr (12, fs51)) ∧ ∃ v54 : Nat, fs51[21]? = some (.ref v54) ∧ ∃ (n55 : Nat) (f56 : Nat → Int32), h49.1 v54 = some (.inl (0, (n55, .inl f56))) ∧ vp_in x1 n55 ∧ ∀ h59 : jH, h59 = jset h49 v54 (.inl (0, (n55, .inl (upd f56 x1.toNatClampNeg 0)))) → J g mX12_quarter (d + 1) hs P 12 [(0, .ref x0), (1, .int (x1 + 1))] [] h59) (fun E h' => P (.inr E) h'))) (fun E h' => P (.inr E) h'))) : J g mX12_quarter (d + 1) hs P 33 [(0, .ref x0), (1, .int x1)] [] h := by
  refine jr_aload_n 0 dX12_quarter_33 rfl rfl ?_
  obtain ⟨fs1, e2, v4, e3, k⟩ := k
  refine jr_get jf_X12_9 dX12_quarter_34 e2 e3 ?_
  refine jr_bipush (v := 36) dX12_quarter_37 (by decide) ?_
  refine jr_iload_n 1 dX12_quarter_39 rfl rfl ?_
  refine jr_iadd dX12_quarter_40 ?_
  refine jr_aload_n 0 dX12_quarter_41 rfl rfl ?_
  obtain ⟨fs5, e6, v8, e7, k⟩ := k
  refine jr_get jf_X12_9 dX12_quarter_42 e6 e7 ?_
  refine jr_bipush (v := 36) dX12_quarter_45 (by decide) ?_
  refine jr_iload_n 1 dX12_quarter_47 rfl rfl ?_
  refine jr_iadd dX12_quarter_48 ?_
  obtain ⟨n9, f10, e11, e12, k⟩ := k
  refine jr_iald dX12_quarter_49 e11 e12 ?_
  refine jr_aload_n 0 dX12_quarter_50 rfl rfl ?_
  refine jr_iload_n 1 dX12_quarter_51 rfl rfl ?_
  refine jr_aload_n 0 dX12_quarter_52 rfl rfl ?_
  obtain ⟨fs13, e14, v16, e15, k⟩ := k
  refine jr_get jf_X12_9 dX12_quarter_53 e14 e15 ?_
  refine jr_bipush (v := 36) dX12_quarter_56 (by decide) ?_
  refine jr_iload_n 1 dX12_quarter_58 rfl rfl ?_
  refine jr_iadd dX12_quarter_59 ?_
  obtain ⟨n17, f18, e19, e20, k⟩ := k
  refine jr_iald dX12_quarter_60 e19 e20 ?_
  obtain ⟨fs23, e24, k⟩ := k
  refine jr_cVi (As := [.int x1, .int (f18 ((36 + x1)).toNatClampNeg)]) jl_X12_297 km_X12_growsBy rfl rfl dX12_quarter_61 e24 (Nat.le_of_ble_eq_true rfl) k (fun r21 h22 k => ?_)
  refine jr_iadd dX12_quarter_64 ?_
  refine jr_cSi (As := [.int ((f10 ((36 + x1)).toNatClampNeg) + r21)]) jl_X12_279 km_X12_capped rfl rfl dX12_quarter_65 (Nat.le_of_ble_eq_true rfl) k (fun r25 h26 k => ?_)
  obtain ⟨n27, f28, e29, e30, k⟩ := k
  refine jr_iastE dX12_quarter_68 e29 e30 (fun h31 eh32 => ?_)
  have k := k h31 eh32
  refine jr_aload_n 0 dX12_quarter_69 rfl rfl ?_
  obtain ⟨fs33, e34, v36, e35, k⟩ := k
  refine jr_get jf_X12_39 dX12_quarter_70 e34 e35 ?_
  refine jr_iload_n 1 dX12_quarter_73 rfl rfl ?_
  refine jr_aload_n 0 dX12_quarter_74 rfl rfl ?_
  obtain ⟨fs37, e38, v40, e39, k⟩ := k
  refine jr_get jf_X12_9 dX12_quarter_75 e38 e39 ?_
  refine jr_bipush (v := 36) dX12_quarter_78 (by decide) ?_
  refine jr_iload_n 1 dX12_quarter_80 rfl rfl ?_
  refine jr_iadd dX12_quarter_81 ?_
  obtain ⟨n41, f42, e43, e44, k⟩ := k
  refine jr_iald dX12_quarter_82 e43 e44 ?_
  obtain ⟨n45, f46, e47, e48, k⟩ := k
  refine jr_iastE dX12_quarter_83 e47 e48 (fun h49 eh50 => ?_)
  have k := k h49 eh50
  refine jr_aload_n 0 dX12_quarter_84 rfl rfl ?_
  obtain ⟨fs51, e52, v54, e53, k⟩ := k
  refine jr_get jf_X12_36 dX12_quarter_85 e52 e53 ?_
  refine jr_iload_n 1 dX12_quarter_88 rfl rfl ?_
  refine jr_iconst (v := 0) dX12_quarter_89 (by decide) ?_
  obtain ⟨n55, f56, e57, e58, k⟩ := k
  refine jr_iastE dX12_quarter_90 e57 e58 (fun h59 eh60 => ?_)
  have k := k h59 eh60
  refine jr_iinc (v := (x1 + 1)) (lv' := [(1, .int (x1 + 1)), (0, .ref x0)]) 1 dX12_quarter_91 rfl rfl (by decide) rfl ?_
  refine jr_goto (tgt := 12) dX12_quarter_94 (by decide) ?_
  exact jr_sub [1, 0] rfl k
set_option maxRecDepth 20000 in
theorem bX12_quarter_99 {g : jG} {d : Nat} {hs : jH} {P : jO → jH → Prop} {x0 : Nat} {x1 : Int32} {h : jH} (k : ∃ fs3 : List Value, h.1 x0 = some (.inr (12, fs3)) ∧ Con g mX12_houses d [.ref x0] h (jPi (fun (r1 : Int32) (h2 : jH) => (x1 < r1 → ∃ fs5 : List Value, h2.1 x0 = some (.inr (12, fs5)) ∧ ∃ v8 : Nat, fs5[22]? = some (.ref v8) ∧ ∃ (n9 : Nat) (f10 : Nat → Int32), h2.1 v8 = some (.inl (0, (n9, .inl f10))) ∧ vp_in x1 n9 ∧ (0 < (f10 x1.toNatClampNeg) → ∃ fs15 : List Value, h2.1 x0 = some (.inr (12, fs15)) ∧ Con g mX12_sends d [.ref x0, .int x1] h2 (jPv (fun (h14 : jH) => J g mX12_quarter (d + 1) hs P 99 [(0, .ref x0), (1, .int (x1 + 1))] [] h14) (fun E h' => P (.inr E) h'))) ∧ (¬ 0 < (f10 x1.toNatClampNeg) → J g mX12_quarter (d + 1) hs P 99 [(0, .ref x0), (1, .int (x1 + 1))] [] h2)) ∧ (¬ x1 < r1 → J g mX12_quarter (d + 1) hs P 129 [(0, .ref x0), (1, .int 0)] [] h2)) (fun E h' => P (.inr E) h'))) : J g mX12_quarter (d + 1) hs P 99 [(0, .ref x0), (1, .int x1)] [] h := by
  refine jr_iload_n 1 dX12_quarter_99 rfl rfl ?_
  refine jr_aload_n 0 dX12_quarter_100 rfl rfl ?_
  obtain ⟨fs3, e4, k⟩ := k
  refine jr_cVi (As := []) jl_X12_249 km_X12_houses rfl rfl dX12_quarter_101 e4 (Nat.le_of_ble_eq_true rfl) k (fun r1 h2 k => ?_)
  refine jr_icmp_ge (tgt := 127) dX12_quarter_104 (by decide) (fun c104 => ?_) (fun c104 => ?_)
  · have k := k.2 c104
    refine jr_iconst (v := 0) dX12_quarter_127 (by decide) ?_
    refine jr_istore_n (lv' := [(1, .int 0), (0, .ref x0)]) dX12_quarter_128 rfl (by decide) rfl ?_
    exact jr_sub [1, 0] rfl k
  · have k := k.1 c104
    refine jr_aload_n 0 dX12_quarter_107 rfl rfl ?_
    obtain ⟨fs5, e6, v8, e7, k⟩ := k
    refine jr_get jf_X12_39 dX12_quarter_108 e6 e7 ?_
    refine jr_iload_n 1 dX12_quarter_111 rfl rfl ?_
    obtain ⟨n9, f10, e11, e12, k⟩ := k
    refine jr_iald dX12_quarter_112 e11 e12 ?_
    refine jr_if_le (tgt := 121) dX12_quarter_113 (by decide) (fun c113 => ?_) (fun c113 => ?_)
    · have k := k.2 c113
      refine jr_iinc (v := (x1 + 1)) (lv' := [(1, .int (x1 + 1)), (0, .ref x0)]) 1 dX12_quarter_121 rfl rfl (by decide) rfl ?_
      refine jr_goto (tgt := 99) dX12_quarter_124 (by decide) ?_
      exact jr_sub [1, 0] rfl k
    · have k := k.1 c113
      refine jr_aload_n 0 dX12_quarter_116 rfl rfl ?_
      refine jr_iload_n 1 dX12_quarter_117 rfl rfl ?_
      obtain ⟨fs15, e16, k⟩ := k
      refine jr_cVv (As := [.int x1]) jl_X12_300 km_X12_sends rfl rfl dX12_quarter_118 e16 (Nat.le_of_ble_eq_true rfl) k (fun h14 k => ?_)
      refine jr_iinc (v := (x1 + 1)) (lv' := [(1, .int (x1 + 1)), (0, .ref x0)]) 1 dX12_quarter_121 rfl rfl (by decide) rfl ?_
      refine jr_goto (tgt := 99) dX12_quarter_124 (by decide) ?_
      exact jr_sub [1, 0] rfl k
set_option maxRecDepth 20000 in
theorem bX12_quarter_129 {g : jG} {d : Nat} {hs : jH} {P : jO → jH → Prop} {x0 : Nat} {x1 : Int32} {h : jH} (k : ∃ fs3 : List Value, h.1 x0 = some (.inr (12, fs3)) ∧ Con g mX12_houses d [.ref x0] h (jPi (fun (r1 : Int32) (h2 : jH) => (x1 < r1 → ∃ fs19 : List Value, h2.1 x0 = some (.inr (12, fs19)) ∧ ∃ v22 : Nat, fs19[0]? = some (.ref v22) ∧ ∃ fs23 : List Value, h2.1 x0 = some (.inr (12, fs23)) ∧ ∃ v26 : Nat, fs23[0]? = some (.ref v26) ∧ ∃ (n27 : Nat) (f28 : Nat → Int32), h2.1 v26 = some (.inl (0, (n27, .inl f28))) ∧ vp_in (36 + x1) n27 ∧ ∃ fs31 : List Value, h2.1 x0 = some (.inr (12, fs31)) ∧ ∃ v34 : Nat, fs31[21]? = some (.ref v34) ∧ ∃ (n35 : Nat) (f36 : Nat → Int32), h2.1 v34 = some (.inl (0, (n35, .inl f36))) ∧ vp_in x1 n35 ∧ Con g mX12_capped d [.int ((f28 ((36 + x1)).toNatClampNeg) + (f36 x1.toNatClampNeg))] h2 (jPi (fun (r39 : Int32) (h40 : jH) => ∃ (n41 : Nat) (f42 : Nat → Int32), h40.1 v22 = some (.inl (0, (n41, .inl f42))) ∧ vp_in (36 + x1) n41 ∧ ∀ h45 : jH, h45 = jset h40 v22 (.inl (0, (n41, .inl (upd f42 ((36 + x1)).toNatClampNeg r39)))) → ∃ fs49 : List Value, h45.1 x0 = some (.inr (12, fs49)) ∧ Con g mX12_isGone d [.ref x0, .int x1] h45 (jPi (fun (r47 : Int32) (h48 : jH) => (r47 = 0 → ∃ fs51 : List Value, h48.1 x0 = some (.inr (12, fs51)) ∧ ∃ v54 : Nat, fs51[0]? = some (.ref v54) ∧ ∃ (n55 : Nat) (f56 : Nat → Int32), h48.1 v54 = some (.inl (0, (n55, .inl f56))) ∧ vp_in (36 + x1) n55 ∧ ∃ fs59 : List Value, h48.1 x0 = some (.inr (12, fs59)) ∧ ∃ v62 : Nat, fs59[0]? = some (.ref v62) ∧ ∃ (n63 : Nat) (f64 : Nat → Int32), h48.1 v62 = some (.inl (0, (n63, .inl f64))) ∧ vp_in 3 n63 ∧ ((f64 ((3 : Int32)).toNatClampNeg) < (f56 ((36 + x1)).toNatClampNeg) → ∃ fs69 : List Value, h48.1 x0 = some (.inr (12, fs69)) ∧ Con g mX12_ruins d [.ref x0, .int x1] h48 (jPv (fun (h68 : jH) => J g mX12_quarter (d + 1) hs P 196 [(0, .ref x0), (1, .int x1)] [] h68) (fun E h' => P (.inr E) h'))) ∧ (¬ (f64 ((3 : Int32)).toNatClampNeg) < (f56 ((36 + x1)).toNatClampNeg) → J g mX12_quarter (d + 1) hs P 196 [(0, .ref x0), (1, .int x1)] [] h48)) ∧ (¬ r47 = 0 → J g mX12_quarter (d + 1) hs P 196 [(0, .ref x0), (1, .int x1)] [] h48)) (fun E h' => P (.inr E) h'))) (fun E h' => P (.inr E) h'))) ∧ (¬ x1 < r1 → ∃ fs5 : List Value, h2.1 x0 = some (.inr (12, fs5)) ∧ ∃ v8 : Nat, fs5[0]? = some (.ref v8) ∧ ∃ (n9 : Nat) (f10 : Nat → Int32), h2.1 v8 = some (.inl (0, (n9, .inl f10))) ∧ vp_in 51 n9 ∧ ∃ (n13 : Nat) (f14 : Nat → Int32), h2.1 v8 = some (.inl (0, (n13, .inl f14))) ∧ vp_in 51 n13 ∧ ∀ h17 : jH, h17 = jset h2 v8 (.inl (0, (n13, .inl (upd f14 ((51 : Int32)).toNatClampNeg (((f10 ((51 : Int32)).toNatClampNeg) + 1)))))) → P (.inl none) h17)) (fun E h' => P (.inr E) h'))) : J g mX12_quarter (d + 1) hs P 129 [(0, .ref x0), (1, .int x1)] [] h := by
  refine jr_iload_n 1 dX12_quarter_129 rfl rfl ?_
  refine jr_aload_n 0 dX12_quarter_130 rfl rfl ?_
  obtain ⟨fs3, e4, k⟩ := k
  refine jr_cVi (As := []) jl_X12_249 km_X12_houses rfl rfl dX12_quarter_131 e4 (Nat.le_of_ble_eq_true rfl) k (fun r1 h2 k => ?_)
  refine jr_icmp_ge (tgt := 226) dX12_quarter_134 (by decide) (fun c134 => ?_) (fun c134 => ?_)
  · have k := k.2 c134
    refine jr_aload_n 0 dX12_quarter_226 rfl rfl ?_
    obtain ⟨fs5, e6, v8, e7, k⟩ := k
    refine jr_get jf_X12_9 dX12_quarter_227 e6 e7 ?_
    refine jr_bipush (v := 51) dX12_quarter_230 (by decide) ?_
    refine jr_dup2 dX12_quarter_232 rfl rfl ?_
    obtain ⟨n9, f10, e11, e12, k⟩ := k
    refine jr_iald dX12_quarter_233 e11 e12 ?_
    refine jr_iconst (v := 1) dX12_quarter_234 (by decide) ?_
    refine jr_iadd dX12_quarter_235 ?_
    obtain ⟨n13, f14, e15, e16, k⟩ := k
    refine jr_iastE dX12_quarter_236 e15 e16 (fun h17 eh18 => ?_)
    have k := k h17 eh18
    exact jr_vret rfl dX12_quarter_237 k
  · have k := k.1 c134
    refine jr_aload_n 0 dX12_quarter_137 rfl rfl ?_
    obtain ⟨fs19, e20, v22, e21, k⟩ := k
    refine jr_get jf_X12_9 dX12_quarter_138 e20 e21 ?_
    refine jr_bipush (v := 36) dX12_quarter_141 (by decide) ?_
    refine jr_iload_n 1 dX12_quarter_143 rfl rfl ?_
    refine jr_iadd dX12_quarter_144 ?_
    refine jr_aload_n 0 dX12_quarter_145 rfl rfl ?_
    obtain ⟨fs23, e24, v26, e25, k⟩ := k
    refine jr_get jf_X12_9 dX12_quarter_146 e24 e25 ?_
    refine jr_bipush (v := 36) dX12_quarter_149 (by decide) ?_
    refine jr_iload_n 1 dX12_quarter_151 rfl rfl ?_
    refine jr_iadd dX12_quarter_152 ?_
    obtain ⟨n27, f28, e29, e30, k⟩ := k
    refine jr_iald dX12_quarter_153 e29 e30 ?_
    refine jr_aload_n 0 dX12_quarter_154 rfl rfl ?_
    obtain ⟨fs31, e32, v34, e33, k⟩ := k
    refine jr_get jf_X12_36 dX12_quarter_155 e32 e33 ?_
    refine jr_iload_n 1 dX12_quarter_158 rfl rfl ?_
    obtain ⟨n35, f36, e37, e38, k⟩ := k
    refine jr_iald dX12_quarter_159 e37 e38 ?_
    refine jr_iadd dX12_quarter_160 ?_
    refine jr_cSi (As := [.int ((f28 ((36 + x1)).toNatClampNeg) + (f36 x1.toNatClampNeg))]) jl_X12_279 km_X12_capped rfl rfl dX12_quarter_161 (Nat.le_of_ble_eq_true rfl) k (fun r39 h40 k => ?_)
    obtain ⟨n41, f42, e43, e44, k⟩ := k
    refine jr_iastE dX12_quarter_164 e43 e44 (fun h45 eh46 => ?_)
    have k := k h45 eh46
    refine jr_aload_n 0 dX12_quarter_165 rfl rfl ?_
    refine jr_iload_n 1 dX12_quarter_166 rfl rfl ?_
    obtain ⟨fs49, e50, k⟩ := k
    refine jr_cVi (As := [.int x1]) jl_X12_291 km_X12_isGone rfl rfl dX12_quarter_167 e50 (Nat.le_of_ble_eq_true rfl) k (fun r47 h48 k => ?_)
    refine jr_if_ne (tgt := 196) dX12_quarter_170 (by decide) (fun c170 => ?_) (fun c170 => ?_)
    · have k := k.2 c170
      exact jr_sub [0, 1] rfl k
    · have k := k.1 c170
      refine jr_aload_n 0 dX12_quarter_173 rfl rfl ?_
      obtain ⟨fs51, e52, v54, e53, k⟩ := k
      refine jr_get jf_X12_9 dX12_quarter_174 e52 e53 ?_
      refine jr_bipush (v := 36) dX12_quarter_177 (by decide) ?_
      refine jr_iload_n 1 dX12_quarter_179 rfl rfl ?_
      refine jr_iadd dX12_quarter_180 ?_
      obtain ⟨n55, f56, e57, e58, k⟩ := k
      refine jr_iald dX12_quarter_181 e57 e58 ?_
      refine jr_aload_n 0 dX12_quarter_182 rfl rfl ?_
      obtain ⟨fs59, e60, v62, e61, k⟩ := k
      refine jr_get jf_X12_9 dX12_quarter_183 e60 e61 ?_
      refine jr_iconst (v := 3) dX12_quarter_186 (by decide) ?_
      obtain ⟨n63, f64, e65, e66, k⟩ := k
      refine jr_iald dX12_quarter_187 e65 e66 ?_
      refine jr_icmp_le (tgt := 196) dX12_quarter_188 (by decide) (fun c188 => ?_) (fun c188 => ?_)
      · have k := k.2 c188
        exact jr_sub [0, 1] rfl k
      · have k := k.1 c188
        refine jr_aload_n 0 dX12_quarter_191 rfl rfl ?_
        refine jr_iload_n 1 dX12_quarter_192 rfl rfl ?_
        obtain ⟨fs69, e70, k⟩ := k
        refine jr_cVv (As := [.int x1]) jl_X12_303 km_X12_ruins rfl rfl dX12_quarter_193 e70 (Nat.le_of_ble_eq_true rfl) k (fun h68 k => ?_)
        exact jr_sub [0, 1] rfl k
set_option maxRecDepth 20000 in
theorem bX12_quarter_196 {g : jG} {d : Nat} {hs : jH} {P : jO → jH → Prop} {x0 : Nat} {x1 : Int32} {h : jH} (k : ∃ fs1 : List Value, h.1 x0 = some (.inr (12, fs1)) ∧ ∃ v4 : Nat, fs1[0]? = some (.ref v4) ∧ ∃ fs5 : List Value, h.1 x0 = some (.inr (12, fs5)) ∧ ∃ v8 : Nat, fs5[0]? = some (.ref v8) ∧ ∃ (n9 : Nat) (f10 : Nat → Int32), h.1 v8 = some (.inl (0, (n9, .inl f10))) ∧ vp_in (43 + x1) n9 ∧ ∃ (n13 : Nat) (f14 : Nat → Int32), h.1 v4 = some (.inl (0, (n13, .inl f14))) ∧ vp_in (43 + x1) n13 ∧ ∀ h17 : jH, h17 = jset h v4 (.inl (0, (n13, .inl (upd f14 ((43 + x1)).toNatClampNeg ((jmax 0 (((f10 ((43 + x1)).toNatClampNeg) - 1)))))))) → J g mX12_quarter (d + 1) hs P 129 [(0, .ref x0), (1, .int (x1 + 1))] [] h17) : J g mX12_quarter (d + 1) hs P 196 [(0, .ref x0), (1, .int x1)] [] h := by
  refine jr_aload_n 0 dX12_quarter_196 rfl rfl ?_
  obtain ⟨fs1, e2, v4, e3, k⟩ := k
  refine jr_get jf_X12_9 dX12_quarter_197 e2 e3 ?_
  refine jr_bipush (v := 43) dX12_quarter_200 (by decide) ?_
  refine jr_iload_n 1 dX12_quarter_202 rfl rfl ?_
  refine jr_iadd dX12_quarter_203 ?_
  refine jr_iconst (v := 0) dX12_quarter_204 (by decide) ?_
  refine jr_aload_n 0 dX12_quarter_205 rfl rfl ?_
  obtain ⟨fs5, e6, v8, e7, k⟩ := k
  refine jr_get jf_X12_9 dX12_quarter_206 e6 e7 ?_
  refine jr_bipush (v := 43) dX12_quarter_209 (by decide) ?_
  refine jr_iload_n 1 dX12_quarter_211 rfl rfl ?_
  refine jr_iadd dX12_quarter_212 ?_
  obtain ⟨n9, f10, e11, e12, k⟩ := k
  refine jr_iald dX12_quarter_213 e11 e12 ?_
  refine jr_iconst (v := 1) dX12_quarter_214 (by decide) ?_
  refine jr_isub dX12_quarter_215 ?_
  refine jr_mmax jl_X12_276 dX12_quarter_216 (Nat.le_of_ble_eq_true rfl) ?_
  obtain ⟨n13, f14, e15, e16, k⟩ := k
  refine jr_iastE dX12_quarter_219 e15 e16 (fun h17 eh18 => ?_)
  have k := k h17 eh18
  refine jr_iinc (v := (x1 + 1)) (lv' := [(1, .int (x1 + 1)), (0, .ref x0)]) 1 dX12_quarter_220 rfl rfl (by decide) rfl ?_
  refine jr_goto (tgt := 129) dX12_quarter_223 (by decide) ?_
  exact jr_sub [1, 0] rfl k
set_option maxRecDepth 20000 in
theorem bX12_ruins_0 {g : jG} {d : Nat} {hs : jH} {P : jO → jH → Prop} {x0 : Nat} {x1 : Int32} {h : jH} (k : ∃ fs1 : List Value, h.1 x0 = some (.inr (12, fs1)) ∧ ∃ v4 : Nat, fs1[0]? = some (.ref v4) ∧ ∃ (n5 : Nat) (f6 : Nat → Int32), h.1 v4 = some (.inl (0, (n5, .inl f6))) ∧ vp_in (29 + x1) n5 ∧ ∀ h9 : jH, h9 = jset h v4 (.inl (0, (n5, .inl (upd f6 ((29 + x1)).toNatClampNeg 1)))) → ∃ fs11 : List Value, h9.1 x0 = some (.inr (12, fs11)) ∧ ∃ v14 : Nat, fs11[0]? = some (.ref v14) ∧ ∃ (n15 : Nat) (f16 : Nat → Int32), h9.1 v14 = some (.inl (0, (n15, .inl f16))) ∧ vp_in (22 + x1) n15 ∧ ∀ h19 : jH, h19 = jset h9 v14 (.inl (0, (n15, .inl (upd f16 ((22 + x1)).toNatClampNeg 0)))) → ∃ fs21 : List Value, h19.1 x0 = some (.inr (12, fs21)) ∧ ∃ v24 : Int32, fs21[24]? = some (.int v24) ∧ ∃ fs25 : List Value, h19.1 x0 = some (.inr (12, fs25)) ∧ 24 < fs25.length ∧ (∀ h28 : jH, h28 = jset h19 x0 (.inr (12, fs25.set 24 (.int (v24 + 1)))) → P (.inl none) h28)) : J g mX12_ruins (d + 1) hs P 0 [(0, .ref x0), (1, .int x1)] [] h := by
  refine jr_aload_n 0 dX12_ruins_0 rfl rfl ?_
  obtain ⟨fs1, e2, v4, e3, k⟩ := k
  refine jr_get jf_X12_9 dX12_ruins_1 e2 e3 ?_
  refine jr_bipush (v := 29) dX12_ruins_4 (by decide) ?_
  refine jr_iload_n 1 dX12_ruins_6 rfl rfl ?_
  refine jr_iadd dX12_ruins_7 ?_
  refine jr_iconst (v := 1) dX12_ruins_8 (by decide) ?_
  obtain ⟨n5, f6, e7, e8, k⟩ := k
  refine jr_iastE dX12_ruins_9 e7 e8 (fun h9 eh10 => ?_)
  have k := k h9 eh10
  refine jr_aload_n 0 dX12_ruins_10 rfl rfl ?_
  obtain ⟨fs11, e12, v14, e13, k⟩ := k
  refine jr_get jf_X12_9 dX12_ruins_11 e12 e13 ?_
  refine jr_bipush (v := 22) dX12_ruins_14 (by decide) ?_
  refine jr_iload_n 1 dX12_ruins_16 rfl rfl ?_
  refine jr_iadd dX12_ruins_17 ?_
  refine jr_iconst (v := 0) dX12_ruins_18 (by decide) ?_
  obtain ⟨n15, f16, e17, e18, k⟩ := k
  refine jr_iastE dX12_ruins_19 e17 e18 (fun h19 eh20 => ?_)
  have k := k h19 eh20
  refine jr_aload_n 0 dX12_ruins_20 rfl rfl ?_
  refine jr_dup dX12_ruins_21 rfl ?_
  obtain ⟨fs21, e22, v24, e23, k⟩ := k
  refine jr_get jf_X12_288 dX12_ruins_22 e22 e23 ?_
  refine jr_iconst (v := 1) dX12_ruins_25 (by decide) ?_
  refine jr_iadd dX12_ruins_26 ?_
  obtain ⟨fs25, e26, e27, k⟩ := k
  refine jr_putE jp_X12_288 dX12_ruins_27 e26 e27 rfl rfl (fun h28 eh29 => ?_)
  have k := k h28 eh29
  exact jr_vret rfl dX12_ruins_30 k
set_option maxRecDepth 20000 in
theorem bX12_sends_0 {g : jG} {d : Nat} {hs : jH} {P : jO → jH → Prop} {x0 : Nat} {x1 : Int32} {h : jH} (k : ∃ fs3 : List Value, h.1 x0 = some (.inr (12, fs3)) ∧ Con g mX12_next d [.ref x0, .int x1] h (jPi (fun (r1 : Int32) (h2 : jH) => (r1 = (-1) → J g mX12_sends (d + 1) hs P 44 [(0, .ref x0), (1, .int x1), (2, .int r1)] [] h2) ∧ (¬ r1 = (-1) → ∃ fs5 : List Value, h2.1 x0 = some (.inr (12, fs5)) ∧ ∃ v8 : Nat, fs5[0]? = some (.ref v8) ∧ ∃ (n9 : Nat) (f10 : Nat → Int32), h2.1 v8 = some (.inl (0, (n9, .inl f10))) ∧ vp_in (43 + r1) n9 ∧ (0 < (f10 ((43 + r1)).toNatClampNeg) → P (.inl none) h2) ∧ (¬ 0 < (f10 ((43 + r1)).toNatClampNeg) → ∃ fs13 : List Value, h2.1 x0 = some (.inr (12, fs13)) ∧ ∃ v16 : Nat, fs13[22]? = some (.ref v16) ∧ ∃ (n17 : Nat) (f18 : Nat → Int32), h2.1 v16 = some (.inl (0, (n17, .inl f18))) ∧ vp_in x1 n17 ∧ ∃ fs21 : List Value, h2.1 x0 = some (.inr (12, fs21)) ∧ ∃ v24 : Nat, fs21[22]? = some (.ref v24) ∧ ∃ (n25 : Nat) (f26 : Nat → Int32), h2.1 v24 = some (.inl (0, (n25, .inl f26))) ∧ vp_in r1 n25 ∧ ∃ fs31 : List Value, h2.1 x0 = some (.inr (12, fs31)) ∧ Con g mX12_takesIt d [.ref x0, .int r1, .int (f18 x1.toNatClampNeg), .int (f26 r1.toNatClampNeg)] h2 (jPi (fun (r29 : Int32) (h30 : jH) => (r29 = 0 → P (.inl none) h30) ∧ (¬ r29 = 0 → J g mX12_sends (d + 1) hs P 44 [(0, .ref x0), (1, .int x1), (2, .int r1)] [] h30)) (fun E h' => P (.inr E) h'))))) (fun E h' => P (.inr E) h'))) : J g mX12_sends (d + 1) hs P 0 [(0, .ref x0), (1, .int x1)] [] h := by
  refine jr_aload_n 0 dX12_sends_0 rfl rfl ?_
  refine jr_iload_n 1 dX12_sends_1 rfl rfl ?_
  obtain ⟨fs3, e4, k⟩ := k
  refine jr_cVi (As := [.int x1]) jl_X12_306 km_X12_next rfl rfl dX12_sends_2 e4 (Nat.le_of_ble_eq_true rfl) k (fun r1 h2 k => ?_)
  refine jr_istore_n (lv' := [(2, .int r1), (0, .ref x0), (1, .int x1)]) dX12_sends_5 rfl (by decide) rfl ?_
  refine jr_iload_n 0 dX12_sends_6 rfl rfl ?_
  refine jr_iconst (v := (-1)) dX12_sends_7 (by decide) ?_
  refine jr_icmp_eq (tgt := 44) dX12_sends_8 (by decide) (fun c8 => ?_) (fun c8 => ?_)
  · have k := k.1 c8
    exact jr_sub [1, 2, 0] rfl k
  · have k := k.2 c8
    refine jr_aload_n 1 dX12_sends_11 rfl rfl ?_
    obtain ⟨fs5, e6, v8, e7, k⟩ := k
    refine jr_get jf_X12_9 dX12_sends_12 e6 e7 ?_
    refine jr_bipush (v := 43) dX12_sends_15 (by decide) ?_
    refine jr_iload_n 0 dX12_sends_17 rfl rfl ?_
    refine jr_iadd dX12_sends_18 ?_
    obtain ⟨n9, f10, e11, e12, k⟩ := k
    refine jr_iald dX12_sends_19 e11 e12 ?_
    refine jr_if_gt (tgt := 43) dX12_sends_20 (by decide) (fun c20 => ?_) (fun c20 => ?_)
    · have k := k.1 c20
      exact jr_vret rfl dX12_sends_43 k
    · have k := k.2 c20
      refine jr_aload_n 1 dX12_sends_23 rfl rfl ?_
      refine jr_iload_n 0 dX12_sends_24 rfl rfl ?_
      refine jr_aload_n 1 dX12_sends_25 rfl rfl ?_
      obtain ⟨fs13, e14, v16, e15, k⟩ := k
      refine jr_get jf_X12_39 dX12_sends_26 e14 e15 ?_
      refine jr_iload_n 2 dX12_sends_29 rfl rfl ?_
      obtain ⟨n17, f18, e19, e20, k⟩ := k
      refine jr_iald dX12_sends_30 e19 e20 ?_
      refine jr_aload_n 1 dX12_sends_31 rfl rfl ?_
      obtain ⟨fs21, e22, v24, e23, k⟩ := k
      refine jr_get jf_X12_39 dX12_sends_32 e22 e23 ?_
      refine jr_iload_n 0 dX12_sends_35 rfl rfl ?_
      obtain ⟨n25, f26, e27, e28, k⟩ := k
      refine jr_iald dX12_sends_36 e27 e28 ?_
      obtain ⟨fs31, e32, k⟩ := k
      refine jr_cVi (As := [.int r1, .int (f18 x1.toNatClampNeg), .int (f26 r1.toNatClampNeg)]) jl_X12_309 km_X12_takesIt rfl rfl dX12_sends_37 e32 (Nat.le_of_ble_eq_true rfl) k (fun r29 h30 k => ?_)
      refine jr_if_ne (tgt := 44) dX12_sends_40 (by decide) (fun c40 => ?_) (fun c40 => ?_)
      · have k := k.2 c40
        exact jr_sub [1, 2, 0] rfl k
      · have k := k.1 c40
        exact jr_vret rfl dX12_sends_43 k
set_option maxRecDepth 20000 in
theorem bX12_sends_44 {g : jG} {d : Nat} {hs : jH} {P : jO → jH → Prop} {x0 : Nat} {x1 : Int32} {x2 : Int32} {h : jH} (k : ∃ fs1 : List Value, h.1 x0 = some (.inr (12, fs1)) ∧ ∃ v4 : Nat, fs1[0]? = some (.ref v4) ∧ ∃ (n5 : Nat) (f6 : Nat → Int32), h.1 v4 = some (.inl (0, (n5, .inl f6))) ∧ vp_in (36 + x1) n5 ∧ ∀ h9 : jH, h9 = jset h v4 (.inl (0, (n5, .inl (upd f6 ((36 + x1)).toNatClampNeg 0)))) → (x2 = (-1) → ∃ fs29 : List Value, h9.1 x0 = some (.inr (12, fs29)) ∧ ∃ v32 : Nat, fs29[0]? = some (.ref v32) ∧ ∃ fs33 : List Value, h9.1 x0 = some (.inr (12, fs33)) ∧ ∃ v36 : Nat, fs33[0]? = some (.ref v36) ∧ ∃ (n37 : Nat) (f38 : Nat → Int32), h9.1 v36 = some (.inl (0, (n37, .inl f38))) ∧ vp_in 50 n37 ∧ ∃ fs41 : List Value, h9.1 x0 = some (.inr (12, fs41)) ∧ ∃ v44 : Nat, fs41[22]? = some (.ref v44) ∧ ∃ (n45 : Nat) (f46 : Nat → Int32), h9.1 v44 = some (.inl (0, (n45, .inl f46))) ∧ vp_in x1 n45 ∧ Con g mX12_capped d [.int ((f38 ((50 : Int32)).toNatClampNeg) + (f46 x1.toNatClampNeg))] h9 (jPi (fun (r49 : Int32) (h50 : jH) => ∃ (n51 : Nat) (f52 : Nat → Int32), h50.1 v32 = some (.inl (0, (n51, .inl f52))) ∧ vp_in 50 n51 ∧ ∀ h55 : jH, h55 = jset h50 v32 (.inl (0, (n51, .inl (upd f52 ((50 : Int32)).toNatClampNeg r49)))) → P (.inl none) h55) (fun E h' => P (.inr E) h'))) ∧ (¬ x2 = (-1) → ∃ fs11 : List Value, h9.1 x0 = some (.inr (12, fs11)) ∧ ∃ v14 : Nat, fs11[21]? = some (.ref v14) ∧ ∃ fs15 : List Value, h9.1 x0 = some (.inr (12, fs15)) ∧ ∃ v18 : Nat, fs15[22]? = some (.ref v18) ∧ ∃ (n19 : Nat) (f20 : Nat → Int32), h9.1 v18 = some (.inl (0, (n19, .inl f20))) ∧ vp_in x1 n19 ∧ ∃ (n23 : Nat) (f24 : Nat → Int32), h9.1 v14 = some (.inl (0, (n23, .inl f24))) ∧ vp_in x2 n23 ∧ ∀ h27 : jH, h27 = jset h9 v14 (.inl (0, (n23, .inl (upd f24 x2.toNatClampNeg ((f20 x1.toNatClampNeg)))))) → P (.inl none) h27)) : J g mX12_sends (d + 1) hs P 44 [(0, .ref x0), (1, .int x1), (2, .int x2)] [] h := by
  refine jr_aload_n 0 dX12_sends_44 rfl rfl ?_
  obtain ⟨fs1, e2, v4, e3, k⟩ := k
  refine jr_get jf_X12_9 dX12_sends_45 e2 e3 ?_
  refine jr_bipush (v := 36) dX12_sends_48 (by decide) ?_
  refine jr_iload_n 1 dX12_sends_50 rfl rfl ?_
  refine jr_iadd dX12_sends_51 ?_
  refine jr_iconst (v := 0) dX12_sends_52 (by decide) ?_
  obtain ⟨n5, f6, e7, e8, k⟩ := k
  refine jr_iastE dX12_sends_53 e7 e8 (fun h9 eh10 => ?_)
  have k := k h9 eh10
  refine jr_iload_n 2 dX12_sends_54 rfl rfl ?_
  refine jr_iconst (v := (-1)) dX12_sends_55 (by decide) ?_
  refine jr_icmp_ne (tgt := 86) dX12_sends_56 (by decide) (fun c56 => ?_) (fun c56 => ?_)
  · have k := k.2 c56
    refine jr_aload_n 0 dX12_sends_86 rfl rfl ?_
    obtain ⟨fs11, e12, v14, e13, k⟩ := k
    refine jr_get jf_X12_36 dX12_sends_87 e12 e13 ?_
    refine jr_iload_n 2 dX12_sends_90 rfl rfl ?_
    refine jr_aload_n 0 dX12_sends_91 rfl rfl ?_
    obtain ⟨fs15, e16, v18, e17, k⟩ := k
    refine jr_get jf_X12_39 dX12_sends_92 e16 e17 ?_
    refine jr_iload_n 1 dX12_sends_95 rfl rfl ?_
    obtain ⟨n19, f20, e21, e22, k⟩ := k
    refine jr_iald dX12_sends_96 e21 e22 ?_
    obtain ⟨n23, f24, e25, e26, k⟩ := k
    refine jr_iastE dX12_sends_97 e25 e26 (fun h27 eh28 => ?_)
    have k := k h27 eh28
    exact jr_vret rfl dX12_sends_98 k
  · have k := k.1 c56
    refine jr_aload_n 0 dX12_sends_59 rfl rfl ?_
    obtain ⟨fs29, e30, v32, e31, k⟩ := k
    refine jr_get jf_X12_9 dX12_sends_60 e30 e31 ?_
    refine jr_bipush (v := 50) dX12_sends_63 (by decide) ?_
    refine jr_aload_n 0 dX12_sends_65 rfl rfl ?_
    obtain ⟨fs33, e34, v36, e35, k⟩ := k
    refine jr_get jf_X12_9 dX12_sends_66 e34 e35 ?_
    refine jr_bipush (v := 50) dX12_sends_69 (by decide) ?_
    obtain ⟨n37, f38, e39, e40, k⟩ := k
    refine jr_iald dX12_sends_71 e39 e40 ?_
    refine jr_aload_n 0 dX12_sends_72 rfl rfl ?_
    obtain ⟨fs41, e42, v44, e43, k⟩ := k
    refine jr_get jf_X12_39 dX12_sends_73 e42 e43 ?_
    refine jr_iload_n 1 dX12_sends_76 rfl rfl ?_
    obtain ⟨n45, f46, e47, e48, k⟩ := k
    refine jr_iald dX12_sends_77 e47 e48 ?_
    refine jr_iadd dX12_sends_78 ?_
    refine jr_cSi (As := [.int ((f38 ((50 : Int32)).toNatClampNeg) + (f46 x1.toNatClampNeg))]) jl_X12_279 km_X12_capped rfl rfl dX12_sends_79 (Nat.le_of_ble_eq_true rfl) k (fun r49 h50 k => ?_)
    obtain ⟨n51, f52, e53, e54, k⟩ := k
    refine jr_iastE dX12_sends_82 e53 e54 (fun h55 eh56 => ?_)
    have k := k h55 eh56
    refine jr_goto (tgt := 98) dX12_sends_83 (by decide) ?_
    exact jr_vret rfl dX12_sends_98 k
set_option maxRecDepth 20000 in
theorem bX12_house_0 {g : jG} {d : Nat} {hs : jH} {P : jO → jH → Prop} {x0 : Nat} {x1 : Int32} {x2 : Int32} {h : jH} (k : ∃ fs3 : List Value, h.1 x0 = some (.inr (12, fs3)) ∧ Con g mX12_isHouse d [.ref x0, .long x1.toInt64] h (jPi (fun (r1 : Int32) (h2 : jH) => (r1 = 0 → J g mX12_house (d + 1) hs P 31 [(0, .ref x0), (1, .int x1), (2, .int x2)] [.int 1, .ref x0] h2) ∧ (¬ r1 = 0 → Con g mX12_within d [.long x2.toInt64, .long 0, .long 2] h2 (jPi (fun (r5 : Int32) (h6 : jH) => (r5 = 0 → J g mX12_house (d + 1) hs P 31 [(0, .ref x0), (1, .int x1), (2, .int x2)] [.int 2, .ref x0] h6) ∧ (¬ r5 = 0 → J g mX12_house (d + 1) hs P 31 [(0, .ref x0), (1, .int x1), (2, .int x2)] [.int 0, .ref x0] h6)) (fun E h' => P (.inr E) h')))) (fun E h' => P (.inr E) h'))) : J g mX12_house (d + 1) hs P 0 [(0, .ref x0), (1, .int x1), (2, .int x2)] [] h := by
  refine jr_aload_n 0 dX12_house_0 rfl rfl ?_
  refine jr_aload_n 0 dX12_house_1 rfl rfl ?_
  refine jr_iload_n 1 dX12_house_2 rfl rfl ?_
  refine jr_i2l dX12_house_3 ?_
  obtain ⟨fs3, e4, k⟩ := k
  refine jr_cVi (As := [.long x1.toInt64]) jl_X12_313 km_X12_isHouse rfl rfl dX12_house_4 e4 (Nat.le_of_ble_eq_true rfl) k (fun r1 h2 k => ?_)
  refine jr_if_ne (tgt := 14) dX12_house_7 (by decide) (fun c7 => ?_) (fun c7 => ?_)
  · have k := k.2 c7
    refine jr_iload_n 2 dX12_house_14 rfl rfl ?_
    refine jr_i2l dX12_house_15 ?_
    refine jr_lconst (v := 0) dX12_house_16 (by decide) ?_
    refine jr_ldc2 (v := 2) jk_X12_317 dX12_house_17 ?_
    refine jr_cSi (As := [.long x2.toInt64, .long 0, .long 2]) jl_X12_128 km_X12_within rfl rfl dX12_house_20 (Nat.le_of_ble_eq_true rfl) k (fun r5 h6 k => ?_)
    refine jr_if_eq (tgt := 30) dX12_house_23 (by decide) (fun c23 => ?_) (fun c23 => ?_)
    · have k := k.1 c23
      refine jr_iconst (v := 2) dX12_house_30 (by decide) ?_
      exact jr_sub [0, 1, 2] rfl k
    · have k := k.2 c23
      refine jr_iconst (v := 0) dX12_house_26 (by decide) ?_
      refine jr_goto (tgt := 31) dX12_house_27 (by decide) ?_
      exact jr_sub [0, 1, 2] rfl k
  · have k := k.1 c7
    refine jr_iconst (v := 1) dX12_house_10 (by decide) ?_
    refine jr_goto (tgt := 31) dX12_house_11 (by decide) ?_
    exact jr_sub [0, 1, 2] rfl k
set_option maxRecDepth 20000 in
theorem bX12_house_31 {g : jG} {d : Nat} {hs : jH} {P : jO → jH → Prop} {x0 : Nat} {x1 : Int32} {x2 : Int32} {s0 : Nat} {s1 : Int32} {h : jH} (k : ∃ fs1 : List Value, h.1 s0 = some (.inr (12, fs1)) ∧ 4 < fs1.length ∧ (∀ h4 : jH, h4 = jset h s0 (.inr (12, fs1.set 4 (.int s1))) → ∃ fs6 : List Value, h4.1 x0 = some (.inr (12, fs6)) ∧ ∃ v9 : Int32, fs6[4]? = some (.int v9) ∧ (0 < v9 → P (.inl (some (.int 0))) h4) ∧ (¬ 0 < v9 → (x2 = 0 → ∃ fs22 : List Value, h4.1 x0 = some (.inr (12, fs22)) ∧ ∃ v25 : Nat, fs22[0]? = some (.ref v25) ∧ ∃ (n26 : Nat) (f27 : Nat → Int32), h4.1 v25 = some (.inl (0, (n26, .inl f27))) ∧ vp_in (36 + x1) n26 ∧ P (.inl (some (.int ((f27 ((36 + x1)).toNatClampNeg))))) h4) ∧ (¬ x2 = 0 → (x2 = 1 → ∃ fs14 : List Value, h4.1 x0 = some (.inr (12, fs14)) ∧ ∃ v17 : Nat, fs14[0]? = some (.ref v17) ∧ ∃ (n18 : Nat) (f19 : Nat → Int32), h4.1 v17 = some (.inl (0, (n18, .inl f19))) ∧ vp_in (43 + x1) n18 ∧ P (.inl (some (.int ((f19 ((43 + x1)).toNatClampNeg))))) h4) ∧ (¬ x2 = 1 → ∃ fs12 : List Value, h4.1 x0 = some (.inr (12, fs12)) ∧ Con g mX12_next d [.ref x0, .int x1] h4 (jPi (fun (r10 : Int32) (h11 : jH) => P (.inl (some (.int r10))) h11) (fun E h' => P (.inr E) h'))))))) : J g mX12_house (d + 1) hs P 31 [(0, .ref x0), (1, .int x1), (2, .int x2)] [.int s1, .ref s0] h := by
  obtain ⟨fs1, e2, e3, k⟩ := k
  refine jr_putE jp_X12_67 dX12_house_31 e2 e3 rfl rfl (fun h4 eh5 => ?_)
  have k := k h4 eh5
  refine jr_aload_n 0 dX12_house_34 rfl rfl ?_
  obtain ⟨fs6, e7, v9, e8, k⟩ := k
  refine jr_get jf_X12_67 dX12_house_35 e7 e8 ?_
  refine jr_if_le (tgt := 43) dX12_house_38 (by decide) (fun c38 => ?_) (fun c38 => ?_)
  · have k := k.2 c38
    refine jr_iload_n 2 dX12_house_43 rfl rfl ?_
    refine jr_if_ne (tgt := 59) dX12_house_44 (by decide) (fun c44 => ?_) (fun c44 => ?_)
    · have k := k.2 c44
      refine jr_iload_n 2 dX12_house_59 rfl rfl ?_
      refine jr_iconst (v := 1) dX12_house_60 (by decide) ?_
      refine jr_icmp_ne (tgt := 76) dX12_house_61 (by decide) (fun c61 => ?_) (fun c61 => ?_)
      · have k := k.2 c61
        refine jr_aload_n 0 dX12_house_76 rfl rfl ?_
        refine jr_iload_n 1 dX12_house_77 rfl rfl ?_
        obtain ⟨fs12, e13, k⟩ := k
        refine jr_cVi (As := [.int x1]) jl_X12_306 km_X12_next rfl rfl dX12_house_78 e13 (Nat.le_of_ble_eq_true rfl) k (fun r10 h11 k => ?_)
        exact jr_iret (ty := .int) rfl rfl dX12_house_81 k
      · have k := k.1 c61
        refine jr_aload_n 0 dX12_house_64 rfl rfl ?_
        obtain ⟨fs14, e15, v17, e16, k⟩ := k
        refine jr_get jf_X12_9 dX12_house_65 e15 e16 ?_
        refine jr_bipush (v := 43) dX12_house_68 (by decide) ?_
        refine jr_iload_n 1 dX12_house_70 rfl rfl ?_
        refine jr_iadd dX12_house_71 ?_
        obtain ⟨n18, f19, e20, e21, k⟩ := k
        refine jr_iald dX12_house_72 e20 e21 ?_
        refine jr_goto (tgt := 81) dX12_house_73 (by decide) ?_
        exact jr_iret (ty := .int) rfl rfl dX12_house_81 k
    · have k := k.1 c44
      refine jr_aload_n 0 dX12_house_47 rfl rfl ?_
      obtain ⟨fs22, e23, v25, e24, k⟩ := k
      refine jr_get jf_X12_9 dX12_house_48 e23 e24 ?_
      refine jr_bipush (v := 36) dX12_house_51 (by decide) ?_
      refine jr_iload_n 1 dX12_house_53 rfl rfl ?_
      refine jr_iadd dX12_house_54 ?_
      obtain ⟨n26, f27, e28, e29, k⟩ := k
      refine jr_iald dX12_house_55 e28 e29 ?_
      refine jr_goto (tgt := 81) dX12_house_56 (by decide) ?_
      exact jr_iret (ty := .int) rfl rfl dX12_house_81 k
  · have k := k.1 c38
    refine jr_iconst (v := 0) dX12_house_41 (by decide) ?_
    exact jr_iret (ty := .int) rfl rfl dX12_house_42 k
set_option maxRecDepth 20000 in
theorem bX12_household_0 {g : jG} {d : Nat} {hs : jH} {P : jO → jH → Prop} {x0 : Nat} {x1 : Int32} {x2 : Int32} {h : jH} (k : ∃ fs3 : List Value, h.1 x0 = some (.inr (12, fs3)) ∧ Con g mX12_isHouse d [.ref x0, .long x1.toInt64] h (jPi (fun (r1 : Int32) (h2 : jH) => (r1 = 0 → J g mX12_household (d + 1) hs P 31 [(0, .ref x0), (1, .int x1), (2, .int x2)] [.int 1, .ref x0] h2) ∧ (¬ r1 = 0 → Con g mX12_within d [.long x2.toInt64, .long 0, .long 3] h2 (jPi (fun (r5 : Int32) (h6 : jH) => (r5 = 0 → J g mX12_household (d + 1) hs P 31 [(0, .ref x0), (1, .int x1), (2, .int x2)] [.int 2, .ref x0] h6) ∧ (¬ r5 = 0 → J g mX12_household (d + 1) hs P 31 [(0, .ref x0), (1, .int x1), (2, .int x2)] [.int 0, .ref x0] h6)) (fun E h' => P (.inr E) h')))) (fun E h' => P (.inr E) h'))) : J g mX12_household (d + 1) hs P 0 [(0, .ref x0), (1, .int x1), (2, .int x2)] [] h := by
  refine jr_aload_n 0 dX12_household_0 rfl rfl ?_
  refine jr_aload_n 0 dX12_household_1 rfl rfl ?_
  refine jr_iload_n 1 dX12_household_2 rfl rfl ?_
  refine jr_i2l dX12_household_3 ?_
  obtain ⟨fs3, e4, k⟩ := k
  refine jr_cVi (As := [.long x1.toInt64]) jl_X12_313 km_X12_isHouse rfl rfl dX12_household_4 e4 (Nat.le_of_ble_eq_true rfl) k (fun r1 h2 k => ?_)
  refine jr_if_ne (tgt := 14) dX12_household_7 (by decide) (fun c7 => ?_) (fun c7 => ?_)
  · have k := k.2 c7
    refine jr_iload_n 2 dX12_household_14 rfl rfl ?_
    refine jr_i2l dX12_household_15 ?_
    refine jr_lconst (v := 0) dX12_household_16 (by decide) ?_
    refine jr_ldc2 (v := 3) jk_X12_319 dX12_household_17 ?_
    refine jr_cSi (As := [.long x2.toInt64, .long 0, .long 3]) jl_X12_128 km_X12_within rfl rfl dX12_household_20 (Nat.le_of_ble_eq_true rfl) k (fun r5 h6 k => ?_)
    refine jr_if_eq (tgt := 30) dX12_household_23 (by decide) (fun c23 => ?_) (fun c23 => ?_)
    · have k := k.1 c23
      refine jr_iconst (v := 2) dX12_household_30 (by decide) ?_
      exact jr_sub [0, 1, 2] rfl k
    · have k := k.2 c23
      refine jr_iconst (v := 0) dX12_household_26 (by decide) ?_
      refine jr_goto (tgt := 31) dX12_household_27 (by decide) ?_
      exact jr_sub [0, 1, 2] rfl k
  · have k := k.1 c7
    refine jr_iconst (v := 1) dX12_household_10 (by decide) ?_
    refine jr_goto (tgt := 31) dX12_household_11 (by decide) ?_
    exact jr_sub [0, 1, 2] rfl k
set_option maxRecDepth 20000 in
theorem bX12_household_31 {g : jG} {d : Nat} {hs : jH} {P : jO → jH → Prop} {x0 : Nat} {x1 : Int32} {x2 : Int32} {s0 : Nat} {s1 : Int32} {h : jH} (k : ∃ fs1 : List Value, h.1 s0 = some (.inr (12, fs1)) ∧ 4 < fs1.length ∧ (∀ h4 : jH, h4 = jset h s0 (.inr (12, fs1.set 4 (.int s1))) → ∃ fs6 : List Value, h4.1 x0 = some (.inr (12, fs6)) ∧ ∃ v9 : Int32, fs6[4]? = some (.int v9) ∧ (0 < v9 → P (.inl (some (.int 0))) h4) ∧ (¬ 0 < v9 → ∃ fs10 : List Value, h4.1 x0 = some (.inr (12, fs10)) ∧ ∃ v13 : Nat, fs10[0]? = some (.ref v13) ∧ ∃ (n14 : Nat) (f15 : Nat → Int32), h4.1 v13 = some (.inl (0, (n14, .inl f15))) ∧ vp_in ((8 + (7 * x2)) + x1) n14 ∧ P (.inl (some (.int ((f15 (((8 + (7 * x2)) + x1)).toNatClampNeg))))) h4))) : J g mX12_household (d + 1) hs P 31 [(0, .ref x0), (1, .int x1), (2, .int x2)] [.int s1, .ref s0] h := by
  obtain ⟨fs1, e2, e3, k⟩ := k
  refine jr_putE jp_X12_67 dX12_household_31 e2 e3 rfl rfl (fun h4 eh5 => ?_)
  have k := k h4 eh5
  refine jr_aload_n 0 dX12_household_34 rfl rfl ?_
  obtain ⟨fs6, e7, v9, e8, k⟩ := k
  refine jr_get jf_X12_67 dX12_household_35 e7 e8 ?_
  refine jr_if_le (tgt := 45) dX12_household_38 (by decide) (fun c38 => ?_) (fun c38 => ?_)
  · have k := k.2 c38
    refine jr_aload_n 0 dX12_household_45 rfl rfl ?_
    obtain ⟨fs10, e11, v13, e12, k⟩ := k
    refine jr_get jf_X12_9 dX12_household_46 e11 e12 ?_
    refine jr_bipush (v := 8) dX12_household_49 (by decide) ?_
    refine jr_bipush (v := 7) dX12_household_51 (by decide) ?_
    refine jr_iload_n 2 dX12_household_53 rfl rfl ?_
    refine jr_imul dX12_household_54 ?_
    refine jr_iadd dX12_household_55 ?_
    refine jr_iload_n 1 dX12_household_56 rfl rfl ?_
    refine jr_iadd dX12_household_57 ?_
    obtain ⟨n14, f15, e16, e17, k⟩ := k
    refine jr_iald dX12_household_58 e16 e17 ?_
    exact jr_iret (ty := .int) rfl rfl dX12_household_59 k
  · have k := k.1 c38
    refine jr_iconst (v := 0) dX12_household_41 (by decide) ?_
    refine jr_goto (tgt := 59) dX12_household_42 (by decide) ?_
    exact jr_iret (ty := .int) rfl rfl dX12_household_59 k
set_option maxRecDepth 20000 in
theorem bX12_pays_0 {g : jG} {d : Nat} {hs : jH} {P : jO → jH → Prop} {x0 : Nat} {x1 : Int32} {h : jH} (k : ∃ fs3 : List Value, h.1 x0 = some (.inr (12, fs3)) ∧ Con g mX12_isHouse d [.ref x0, .long x1.toInt64] h (jPi (fun (r1 : Int32) (h2 : jH) => (r1 = 0 → J g mX12_pays (d + 1) hs P 27 [(0, .ref x0), (1, .int x1)] [.int 1, .ref x0] h2) ∧ (¬ r1 = 0 → ∃ fs7 : List Value, h2.1 x0 = some (.inr (12, fs7)) ∧ Con g mX12_isGone d [.ref x0, .int x1] h2 (jPi (fun (r5 : Int32) (h6 : jH) => (r5 = 0 → J g mX12_pays (d + 1) hs P 27 [(0, .ref x0), (1, .int x1)] [.int 0, .ref x0] h6) ∧ (¬ r5 = 0 → J g mX12_pays (d + 1) hs P 27 [(0, .ref x0), (1, .int x1)] [.int 2, .ref x0] h6)) (fun E h' => P (.inr E) h')))) (fun E h' => P (.inr E) h'))) : J g mX12_pays (d + 1) hs P 0 [(0, .ref x0), (1, .int x1)] [] h := by
  refine jr_aload_n 0 dX12_pays_0 rfl rfl ?_
  refine jr_aload_n 0 dX12_pays_1 rfl rfl ?_
  refine jr_iload_n 1 dX12_pays_2 rfl rfl ?_
  refine jr_i2l dX12_pays_3 ?_
  obtain ⟨fs3, e4, k⟩ := k
  refine jr_cVi (As := [.long x1.toInt64]) jl_X12_313 km_X12_isHouse rfl rfl dX12_pays_4 e4 (Nat.le_of_ble_eq_true rfl) k (fun r1 h2 k => ?_)
  refine jr_if_ne (tgt := 14) dX12_pays_7 (by decide) (fun c7 => ?_) (fun c7 => ?_)
  · have k := k.2 c7
    refine jr_aload_n 0 dX12_pays_14 rfl rfl ?_
    refine jr_iload_n 1 dX12_pays_15 rfl rfl ?_
    obtain ⟨fs7, e8, k⟩ := k
    refine jr_cVi (As := [.int x1]) jl_X12_291 km_X12_isGone rfl rfl dX12_pays_16 e8 (Nat.le_of_ble_eq_true rfl) k (fun r5 h6 k => ?_)
    refine jr_if_eq (tgt := 26) dX12_pays_19 (by decide) (fun c19 => ?_) (fun c19 => ?_)
    · have k := k.1 c19
      refine jr_iconst (v := 0) dX12_pays_26 (by decide) ?_
      exact jr_sub [0, 1] rfl k
    · have k := k.2 c19
      refine jr_iconst (v := 2) dX12_pays_22 (by decide) ?_
      refine jr_goto (tgt := 27) dX12_pays_23 (by decide) ?_
      exact jr_sub [0, 1] rfl k
  · have k := k.1 c7
    refine jr_iconst (v := 1) dX12_pays_10 (by decide) ?_
    refine jr_goto (tgt := 27) dX12_pays_11 (by decide) ?_
    exact jr_sub [0, 1] rfl k
set_option maxRecDepth 20000 in
theorem bX12_pays_27 {g : jG} {d : Nat} {hs : jH} {P : jO → jH → Prop} {x0 : Nat} {x1 : Int32} {s0 : Nat} {s1 : Int32} {h : jH} (k : ∃ fs1 : List Value, h.1 s0 = some (.inr (12, fs1)) ∧ 4 < fs1.length ∧ (∀ h4 : jH, h4 = jset h s0 (.inr (12, fs1.set 4 (.int s1))) → ∃ fs6 : List Value, h4.1 x0 = some (.inr (12, fs6)) ∧ ∃ v9 : Int32, fs6[4]? = some (.int v9) ∧ (0 < v9 → P (.inl (some (.int 0))) h4) ∧ (¬ 0 < v9 → ∃ fs12 : List Value, h4.1 x0 = some (.inr (12, fs12)) ∧ Con g mX12_paysNow d [.ref x0, .int x1] h4 (jPi (fun (r10 : Int32) (h11 : jH) => P (.inl (some (.int r10))) h11) (fun E h' => P (.inr E) h'))))) : J g mX12_pays (d + 1) hs P 27 [(0, .ref x0), (1, .int x1)] [.int s1, .ref s0] h := by
  obtain ⟨fs1, e2, e3, k⟩ := k
  refine jr_putE jp_X12_67 dX12_pays_27 e2 e3 rfl rfl (fun h4 eh5 => ?_)
  have k := k h4 eh5
  refine jr_aload_n 0 dX12_pays_30 rfl rfl ?_
  obtain ⟨fs6, e7, v9, e8, k⟩ := k
  refine jr_get jf_X12_67 dX12_pays_31 e7 e8 ?_
  refine jr_if_le (tgt := 41) dX12_pays_34 (by decide) (fun c34 => ?_) (fun c34 => ?_)
  · have k := k.2 c34
    refine jr_aload_n 0 dX12_pays_41 rfl rfl ?_
    refine jr_iload_n 1 dX12_pays_42 rfl rfl ?_
    obtain ⟨fs12, e13, k⟩ := k
    refine jr_cVi (As := [.int x1]) jl_X12_282 km_X12_paysNow rfl rfl dX12_pays_43 e13 (Nat.le_of_ble_eq_true rfl) k (fun r10 h11 k => ?_)
    exact jr_iret (ty := .int) rfl rfl dX12_pays_46 k
  · have k := k.1 c34
    refine jr_iconst (v := 0) dX12_pays_37 (by decide) ?_
    refine jr_goto (tgt := 46) dX12_pays_38 (by decide) ?_
    exact jr_iret (ty := .int) rfl rfl dX12_pays_46 k
set_option maxRecDepth 20000 in
theorem bX12_grows_0 {g : jG} {d : Nat} {hs : jH} {P : jO → jH → Prop} {x0 : Nat} {x1 : Int32} {x2 : Int32} {h : jH} (k : ∃ fs3 : List Value, h.1 x0 = some (.inr (12, fs3)) ∧ Con g mX12_isHouse d [.ref x0, .long x1.toInt64] h (jPi (fun (r1 : Int32) (h2 : jH) => (r1 = 0 → J g mX12_grows (d + 1) hs P 31 [(0, .ref x0), (1, .int x1), (2, .int x2)] [.int 1, .ref x0] h2) ∧ (¬ r1 = 0 → Con g mX12_within d [.long x2.toInt64, .long 0, .long 999999] h2 (jPi (fun (r5 : Int32) (h6 : jH) => (r5 = 0 → J g mX12_grows (d + 1) hs P 31 [(0, .ref x0), (1, .int x1), (2, .int x2)] [.int 2, .ref x0] h6) ∧ (¬ r5 = 0 → J g mX12_grows (d + 1) hs P 31 [(0, .ref x0), (1, .int x1), (2, .int x2)] [.int 0, .ref x0] h6)) (fun E h' => P (.inr E) h')))) (fun E h' => P (.inr E) h'))) : J g mX12_grows (d + 1) hs P 0 [(0, .ref x0), (1, .int x1), (2, .int x2)] [] h := by
  refine jr_aload_n 0 dX12_grows_0 rfl rfl ?_
  refine jr_aload_n 0 dX12_grows_1 rfl rfl ?_
  refine jr_iload_n 1 dX12_grows_2 rfl rfl ?_
  refine jr_i2l dX12_grows_3 ?_
  obtain ⟨fs3, e4, k⟩ := k
  refine jr_cVi (As := [.long x1.toInt64]) jl_X12_313 km_X12_isHouse rfl rfl dX12_grows_4 e4 (Nat.le_of_ble_eq_true rfl) k (fun r1 h2 k => ?_)
  refine jr_if_ne (tgt := 14) dX12_grows_7 (by decide) (fun c7 => ?_) (fun c7 => ?_)
  · have k := k.2 c7
    refine jr_iload_n 2 dX12_grows_14 rfl rfl ?_
    refine jr_i2l dX12_grows_15 ?_
    refine jr_lconst (v := 0) dX12_grows_16 (by decide) ?_
    refine jr_ldc2 (v := 999999) jk_X12_321 dX12_grows_17 ?_
    refine jr_cSi (As := [.long x2.toInt64, .long 0, .long 999999]) jl_X12_128 km_X12_within rfl rfl dX12_grows_20 (Nat.le_of_ble_eq_true rfl) k (fun r5 h6 k => ?_)
    refine jr_if_eq (tgt := 30) dX12_grows_23 (by decide) (fun c23 => ?_) (fun c23 => ?_)
    · have k := k.1 c23
      refine jr_iconst (v := 2) dX12_grows_30 (by decide) ?_
      exact jr_sub [0, 1, 2] rfl k
    · have k := k.2 c23
      refine jr_iconst (v := 0) dX12_grows_26 (by decide) ?_
      refine jr_goto (tgt := 31) dX12_grows_27 (by decide) ?_
      exact jr_sub [0, 1, 2] rfl k
  · have k := k.1 c7
    refine jr_iconst (v := 1) dX12_grows_10 (by decide) ?_
    refine jr_goto (tgt := 31) dX12_grows_11 (by decide) ?_
    exact jr_sub [0, 1, 2] rfl k
set_option maxRecDepth 20000 in
theorem bX12_grows_31 {g : jG} {d : Nat} {hs : jH} {P : jO → jH → Prop} {x0 : Nat} {x1 : Int32} {x2 : Int32} {s0 : Nat} {s1 : Int32} {h : jH} (k : ∃ fs1 : List Value, h.1 s0 = some (.inr (12, fs1)) ∧ 4 < fs1.length ∧ (∀ h4 : jH, h4 = jset h s0 (.inr (12, fs1.set 4 (.int s1))) → ∃ fs6 : List Value, h4.1 x0 = some (.inr (12, fs6)) ∧ ∃ v9 : Int32, fs6[4]? = some (.int v9) ∧ (0 < v9 → P (.inl (some (.int 0))) h4) ∧ (¬ 0 < v9 → ∃ fs12 : List Value, h4.1 x0 = some (.inr (12, fs12)) ∧ Con g mX12_growsBy d [.ref x0, .int x1, .int x2] h4 (jPi (fun (r10 : Int32) (h11 : jH) => P (.inl (some (.int r10))) h11) (fun E h' => P (.inr E) h'))))) : J g mX12_grows (d + 1) hs P 31 [(0, .ref x0), (1, .int x1), (2, .int x2)] [.int s1, .ref s0] h := by
  obtain ⟨fs1, e2, e3, k⟩ := k
  refine jr_putE jp_X12_67 dX12_grows_31 e2 e3 rfl rfl (fun h4 eh5 => ?_)
  have k := k h4 eh5
  refine jr_aload_n 0 dX12_grows_34 rfl rfl ?_
  obtain ⟨fs6, e7, v9, e8, k⟩ := k
  refine jr_get jf_X12_67 dX12_grows_35 e7 e8 ?_
  refine jr_if_le (tgt := 45) dX12_grows_38 (by decide) (fun c38 => ?_) (fun c38 => ?_)
  · have k := k.2 c38
    refine jr_aload_n 0 dX12_grows_45 rfl rfl ?_
    refine jr_iload_n 1 dX12_grows_46 rfl rfl ?_
    refine jr_iload_n 2 dX12_grows_47 rfl rfl ?_
    obtain ⟨fs12, e13, k⟩ := k
    refine jr_cVi (As := [.int x1, .int x2]) jl_X12_297 km_X12_growsBy rfl rfl dX12_grows_48 e13 (Nat.le_of_ble_eq_true rfl) k (fun r10 h11 k => ?_)
    exact jr_iret (ty := .int) rfl rfl dX12_grows_51 k
  · have k := k.1 c38
    refine jr_iconst (v := 0) dX12_grows_41 (by decide) ?_
    refine jr_goto (tgt := 51) dX12_grows_42 (by decide) ?_
    exact jr_iret (ty := .int) rfl rfl dX12_grows_51 k
set_option maxRecDepth 20000 in
theorem bX12_takes_0 {g : jG} {d : Nat} {hs : jH} {P : jO → jH → Prop} {x0 : Nat} {x1 : Int32} {x2 : Int32} {h : jH} (k : ∃ fs3 : List Value, h.1 x0 = some (.inr (12, fs3)) ∧ Con g mX12_isHouse d [.ref x0, .long x1.toInt64] h (jPi (fun (r1 : Int32) (h2 : jH) => (r1 = 0 → J g mX12_takes (d + 1) hs P 31 [(0, .ref x0), (1, .int x1), (2, .int x2)] [.int 1, .ref x0] h2) ∧ (¬ r1 = 0 → Con g mX12_within d [.long x2.toInt64, .long 0, .long 999999] h2 (jPi (fun (r5 : Int32) (h6 : jH) => (r5 = 0 → J g mX12_takes (d + 1) hs P 31 [(0, .ref x0), (1, .int x1), (2, .int x2)] [.int 2, .ref x0] h6) ∧ (¬ r5 = 0 → J g mX12_takes (d + 1) hs P 31 [(0, .ref x0), (1, .int x1), (2, .int x2)] [.int 0, .ref x0] h6)) (fun E h' => P (.inr E) h')))) (fun E h' => P (.inr E) h'))) : J g mX12_takes (d + 1) hs P 0 [(0, .ref x0), (1, .int x1), (2, .int x2)] [] h := by
  refine jr_aload_n 0 dX12_takes_0 rfl rfl ?_
  refine jr_aload_n 0 dX12_takes_1 rfl rfl ?_
  refine jr_iload_n 1 dX12_takes_2 rfl rfl ?_
  refine jr_i2l dX12_takes_3 ?_
  obtain ⟨fs3, e4, k⟩ := k
  refine jr_cVi (As := [.long x1.toInt64]) jl_X12_313 km_X12_isHouse rfl rfl dX12_takes_4 e4 (Nat.le_of_ble_eq_true rfl) k (fun r1 h2 k => ?_)
  refine jr_if_ne (tgt := 14) dX12_takes_7 (by decide) (fun c7 => ?_) (fun c7 => ?_)
  · have k := k.2 c7
    refine jr_iload_n 2 dX12_takes_14 rfl rfl ?_
    refine jr_i2l dX12_takes_15 ?_
    refine jr_lconst (v := 0) dX12_takes_16 (by decide) ?_
    refine jr_ldc2 (v := 999999) jk_X12_321 dX12_takes_17 ?_
    refine jr_cSi (As := [.long x2.toInt64, .long 0, .long 999999]) jl_X12_128 km_X12_within rfl rfl dX12_takes_20 (Nat.le_of_ble_eq_true rfl) k (fun r5 h6 k => ?_)
    refine jr_if_eq (tgt := 30) dX12_takes_23 (by decide) (fun c23 => ?_) (fun c23 => ?_)
    · have k := k.1 c23
      refine jr_iconst (v := 2) dX12_takes_30 (by decide) ?_
      exact jr_sub [0, 1, 2] rfl k
    · have k := k.2 c23
      refine jr_iconst (v := 0) dX12_takes_26 (by decide) ?_
      refine jr_goto (tgt := 31) dX12_takes_27 (by decide) ?_
      exact jr_sub [0, 1, 2] rfl k
  · have k := k.1 c7
    refine jr_iconst (v := 1) dX12_takes_10 (by decide) ?_
    refine jr_goto (tgt := 31) dX12_takes_11 (by decide) ?_
    exact jr_sub [0, 1, 2] rfl k
set_option maxRecDepth 20000 in
theorem bX12_takes_31 {g : jG} {d : Nat} {hs : jH} {P : jO → jH → Prop} {x0 : Nat} {x1 : Int32} {x2 : Int32} {s0 : Nat} {s1 : Int32} {h : jH} (k : ∃ fs1 : List Value, h.1 s0 = some (.inr (12, fs1)) ∧ 4 < fs1.length ∧ (∀ h4 : jH, h4 = jset h s0 (.inr (12, fs1.set 4 (.int s1))) → ∃ fs6 : List Value, h4.1 x0 = some (.inr (12, fs6)) ∧ ∃ v9 : Int32, fs6[4]? = some (.int v9) ∧ (0 < v9 → P (.inl (some (.int 0))) h4) ∧ (¬ 0 < v9 → ∃ fs12 : List Value, h4.1 x0 = some (.inr (12, fs12)) ∧ Con g mX12_next d [.ref x0, .int x1] h4 (jPi (fun (r10 : Int32) (h11 : jH) => (r10 = (-1) → P (.inl (some (.int 1))) h11) ∧ (¬ r10 = (-1) → ∃ fs14 : List Value, h11.1 x0 = some (.inr (12, fs14)) ∧ ∃ v17 : Nat, fs14[0]? = some (.ref v17) ∧ ∃ (n18 : Nat) (f19 : Nat → Int32), h11.1 v17 = some (.inl (0, (n18, .inl f19))) ∧ vp_in (36 + r10) n18 ∧ ∃ fs24 : List Value, h11.1 x0 = some (.inr (12, fs24)) ∧ Con g mX12_takesIt d [.ref x0, .int r10, .int x2, .int (f19 ((36 + r10)).toNatClampNeg)] h11 (jPi (fun (r22 : Int32) (h23 : jH) => (r22 = 0 → P (.inl (some (.int 0))) h23) ∧ (¬ r22 = 0 → P (.inl (some (.int 1))) h23)) (fun E h' => P (.inr E) h')))) (fun E h' => P (.inr E) h'))))) : J g mX12_takes (d + 1) hs P 31 [(0, .ref x0), (1, .int x1), (2, .int x2)] [.int s1, .ref s0] h := by
  obtain ⟨fs1, e2, e3, k⟩ := k
  refine jr_putE jp_X12_67 dX12_takes_31 e2 e3 rfl rfl (fun h4 eh5 => ?_)
  have k := k h4 eh5
  refine jr_aload_n 0 dX12_takes_34 rfl rfl ?_
  obtain ⟨fs6, e7, v9, e8, k⟩ := k
  refine jr_get jf_X12_67 dX12_takes_35 e7 e8 ?_
  refine jr_if_le (tgt := 43) dX12_takes_38 (by decide) (fun c38 => ?_) (fun c38 => ?_)
  · have k := k.2 c38
    refine jr_aload_n 0 dX12_takes_43 rfl rfl ?_
    refine jr_iload_n 1 dX12_takes_44 rfl rfl ?_
    obtain ⟨fs12, e13, k⟩ := k
    refine jr_cVi (As := [.int x1]) jl_X12_306 km_X12_next rfl rfl dX12_takes_45 e13 (Nat.le_of_ble_eq_true rfl) k (fun r10 h11 k => ?_)
    refine jr_istore_n (lv' := [(3, .int r10), (0, .ref x0), (1, .int x1), (2, .int x2)]) dX12_takes_48 rfl (by decide) rfl ?_
    refine jr_iload_n 0 dX12_takes_49 rfl rfl ?_
    refine jr_iconst (v := (-1)) dX12_takes_50 (by decide) ?_
    refine jr_icmp_eq (tgt := 72) dX12_takes_51 (by decide) (fun c51 => ?_) (fun c51 => ?_)
    · have k := k.1 c51
      refine jr_iconst (v := 1) dX12_takes_72 (by decide) ?_
      refine jr_goto (tgt := 77) dX12_takes_73 (by decide) ?_
      exact jr_iret (ty := .boolean) rfl rfl dX12_takes_77 k
    · have k := k.2 c51
      refine jr_aload_n 1 dX12_takes_54 rfl rfl ?_
      refine jr_iload_n 0 dX12_takes_55 rfl rfl ?_
      refine jr_iload_n 3 dX12_takes_56 rfl rfl ?_
      refine jr_aload_n 1 dX12_takes_57 rfl rfl ?_
      obtain ⟨fs14, e15, v17, e16, k⟩ := k
      refine jr_get jf_X12_9 dX12_takes_58 e15 e16 ?_
      refine jr_bipush (v := 36) dX12_takes_61 (by decide) ?_
      refine jr_iload_n 0 dX12_takes_63 rfl rfl ?_
      refine jr_iadd dX12_takes_64 ?_
      obtain ⟨n18, f19, e20, e21, k⟩ := k
      refine jr_iald dX12_takes_65 e20 e21 ?_
      obtain ⟨fs24, e25, k⟩ := k
      refine jr_cVi (As := [.int r10, .int x2, .int (f19 ((36 + r10)).toNatClampNeg)]) jl_X12_309 km_X12_takesIt rfl rfl dX12_takes_66 e25 (Nat.le_of_ble_eq_true rfl) k (fun r22 h23 k => ?_)
      refine jr_if_eq (tgt := 76) dX12_takes_69 (by decide) (fun c69 => ?_) (fun c69 => ?_)
      · have k := k.1 c69
        refine jr_iconst (v := 0) dX12_takes_76 (by decide) ?_
        exact jr_iret (ty := .boolean) rfl rfl dX12_takes_77 k
      · have k := k.2 c69
        refine jr_iconst (v := 1) dX12_takes_72 (by decide) ?_
        refine jr_goto (tgt := 77) dX12_takes_73 (by decide) ?_
        exact jr_iret (ty := .boolean) rfl rfl dX12_takes_77 k
  · have k := k.1 c38
    refine jr_iconst (v := 0) dX12_takes_41 (by decide) ?_
    exact jr_iret (ty := .boolean) rfl rfl dX12_takes_42 k
set_option maxRecDepth 20000 in
theorem bX12_keeps_0 {g : jG} {d : Nat} {hs : jH} {P : jO → jH → Prop} {x0 : Nat} {h : jH} (k : ∃ fs1 : List Value, h.1 x0 = some (.inr (12, fs1)) ∧ ∃ v4 : Nat, fs1[0]? = some (.ref v4) ∧ ∃ (n5 : Nat) (f6 : Nat → Int32), h.1 v4 = some (.inl (0, (n5, .inl f6))) ∧ vp_in 7 n5 ∧ ((f6 ((7 : Int32)).toNatClampNeg) = 10 → J g mX12_keeps (d + 1) hs P 15 [(0, .ref x0), (1, .int 96)] [] h) ∧ (¬ (f6 ((7 : Int32)).toNatClampNeg) = 10 → J g mX12_keeps (d + 1) hs P 56 [(0, .ref x0), (1, .int 0)] [] h)) : J g mX12_keeps (d + 1) hs P 0 [(0, .ref x0)] [] h := by
  refine jr_aload_n 0 dX12_keeps_0 rfl rfl ?_
  obtain ⟨fs1, e2, v4, e3, k⟩ := k
  refine jr_get jf_X12_9 dX12_keeps_1 e2 e3 ?_
  refine jr_bipush (v := 7) dX12_keeps_4 (by decide) ?_
  obtain ⟨n5, f6, e7, e8, k⟩ := k
  refine jr_iald dX12_keeps_6 e7 e8 ?_
  refine jr_bipush (v := 10) dX12_keeps_7 (by decide) ?_
  refine jr_icmp_ne (tgt := 54) dX12_keeps_9 (by decide) (fun c9 => ?_) (fun c9 => ?_)
  · have k := k.2 c9
    refine jr_iconst (v := 0) dX12_keeps_54 (by decide) ?_
    refine jr_istore_n (lv' := [(1, .int 0), (0, .ref x0)]) dX12_keeps_55 rfl (by decide) rfl ?_
    exact jr_sub [1, 0] rfl k
  · have k := k.1 c9
    refine jr_bipush (v := 96) dX12_keeps_12 (by decide) ?_
    refine jr_istore_n (lv' := [(1, .int 96), (0, .ref x0)]) dX12_keeps_14 rfl (by decide) rfl ?_
    exact jr_sub [1, 0] rfl k
set_option maxRecDepth 20000 in
theorem bX12_keeps_15 {g : jG} {d : Nat} {hs : jH} {P : jO → jH → Prop} {x0 : Nat} {x1 : Int32} {h : jH} (k : (x1 < 492 → ∃ fs15 : List Value, h.1 x0 = some (.inr (12, fs15)) ∧ ∃ v18 : Nat, fs15[0]? = some (.ref v18) ∧ ∃ fs19 : List Value, h.1 x0 = some (.inr (12, fs19)) ∧ ∃ v22 : Nat, fs19[0]? = some (.ref v22) ∧ ∃ (n23 : Nat) (f24 : Nat → Int32), h.1 v22 = some (.inl (0, (n23, .inl f24))) ∧ vp_in (x1 + 44) n23 ∧ ∃ (n27 : Nat) (f28 : Nat → Int32), h.1 v18 = some (.inl (0, (n27, .inl f28))) ∧ vp_in x1 n27 ∧ ∀ h31 : jH, h31 = jset h v18 (.inl (0, (n27, .inl (upd f28 x1.toNatClampNeg ((f24 ((x1 + 44)).toNatClampNeg)))))) → J g mX12_keeps (d + 1) hs P 15 [(0, .ref x0), (1, .int (x1 + 1))] [] h31) ∧ (¬ x1 < 492 → ∃ fs1 : List Value, h.1 x0 = some (.inr (12, fs1)) ∧ ∃ v4 : Nat, fs1[0]? = some (.ref v4) ∧ ∃ (n5 : Nat) (f6 : Nat → Int32), h.1 v4 = some (.inl (0, (n5, .inl f6))) ∧ vp_in 7 n5 ∧ ∃ (n9 : Nat) (f10 : Nat → Int32), h.1 v4 = some (.inl (0, (n9, .inl f10))) ∧ vp_in 7 n9 ∧ ∀ h13 : jH, h13 = jset h v4 (.inl (0, (n9, .inl (upd f10 ((7 : Int32)).toNatClampNeg (((f6 ((7 : Int32)).toNatClampNeg) - 1)))))) → J g mX12_keeps (d + 1) hs P 56 [(0, .ref x0), (1, .int 0)] [] h13)) : J g mX12_keeps (d + 1) hs P 15 [(0, .ref x0), (1, .int x1)] [] h := by
  refine jr_iload_n 1 dX12_keeps_15 rfl rfl ?_
  refine jr_sipush (v := 492) dX12_keeps_16 (by decide) ?_
  refine jr_icmp_ge (tgt := 43) dX12_keeps_19 (by decide) (fun c19 => ?_) (fun c19 => ?_)
  · have k := k.2 c19
    refine jr_aload_n 0 dX12_keeps_43 rfl rfl ?_
    obtain ⟨fs1, e2, v4, e3, k⟩ := k
    refine jr_get jf_X12_9 dX12_keeps_44 e2 e3 ?_
    refine jr_bipush (v := 7) dX12_keeps_47 (by decide) ?_
    refine jr_dup2 dX12_keeps_49 rfl rfl ?_
    obtain ⟨n5, f6, e7, e8, k⟩ := k
    refine jr_iald dX12_keeps_50 e7 e8 ?_
    refine jr_iconst (v := 1) dX12_keeps_51 (by decide) ?_
    refine jr_isub dX12_keeps_52 ?_
    obtain ⟨n9, f10, e11, e12, k⟩ := k
    refine jr_iastE dX12_keeps_53 e11 e12 (fun h13 eh14 => ?_)
    have k := k h13 eh14
    refine jr_iconst (v := 0) dX12_keeps_54 (by decide) ?_
    refine jr_istore_n (lv' := [(1, .int 0), (0, .ref x0)]) dX12_keeps_55 rfl (by decide) rfl ?_
    exact jr_sub [1, 0] rfl k
  · have k := k.1 c19
    refine jr_aload_n 0 dX12_keeps_22 rfl rfl ?_
    obtain ⟨fs15, e16, v18, e17, k⟩ := k
    refine jr_get jf_X12_9 dX12_keeps_23 e16 e17 ?_
    refine jr_iload_n 1 dX12_keeps_26 rfl rfl ?_
    refine jr_aload_n 0 dX12_keeps_27 rfl rfl ?_
    obtain ⟨fs19, e20, v22, e21, k⟩ := k
    refine jr_get jf_X12_9 dX12_keeps_28 e20 e21 ?_
    refine jr_iload_n 1 dX12_keeps_31 rfl rfl ?_
    refine jr_bipush (v := 44) dX12_keeps_32 (by decide) ?_
    refine jr_iadd dX12_keeps_34 ?_
    obtain ⟨n23, f24, e25, e26, k⟩ := k
    refine jr_iald dX12_keeps_35 e25 e26 ?_
    obtain ⟨n27, f28, e29, e30, k⟩ := k
    refine jr_iastE dX12_keeps_36 e29 e30 (fun h31 eh32 => ?_)
    have k := k h31 eh32
    refine jr_iinc (v := (x1 + 1)) (lv' := [(1, .int (x1 + 1)), (0, .ref x0)]) 1 dX12_keeps_37 rfl rfl (by decide) rfl ?_
    refine jr_goto (tgt := 15) dX12_keeps_40 (by decide) ?_
    exact jr_sub [1, 0] rfl k
set_option maxRecDepth 20000 in
theorem bX12_keeps_56 {g : jG} {d : Nat} {hs : jH} {P : jO → jH → Prop} {x0 : Nat} {x1 : Int32} {h : jH} (k : (x1 < 44 → ∃ fs15 : List Value, h.1 x0 = some (.inr (12, fs15)) ∧ ∃ v18 : Nat, fs15[0]? = some (.ref v18) ∧ ∃ fs19 : List Value, h.1 x0 = some (.inr (12, fs19)) ∧ ∃ v22 : Nat, fs19[0]? = some (.ref v22) ∧ ∃ (n23 : Nat) (f24 : Nat → Int32), h.1 v22 = some (.inl (0, (n23, .inl f24))) ∧ vp_in 7 n23 ∧ ∃ fs27 : List Value, h.1 x0 = some (.inr (12, fs27)) ∧ ∃ v30 : Nat, fs27[0]? = some (.ref v30) ∧ ∃ (n31 : Nat) (f32 : Nat → Int32), h.1 v30 = some (.inl (0, (n31, .inl f32))) ∧ vp_in (8 + x1) n31 ∧ ∃ (n35 : Nat) (f36 : Nat → Int32), h.1 v18 = some (.inl (0, (n35, .inl f36))) ∧ vp_in ((96 + (44 * (f24 ((7 : Int32)).toNatClampNeg))) + x1) n35 ∧ ∀ h39 : jH, h39 = jset h v18 (.inl (0, (n35, .inl (upd f36 (((96 + (44 * (f24 ((7 : Int32)).toNatClampNeg))) + x1)).toNatClampNeg ((f32 ((8 + x1)).toNatClampNeg)))))) → J g mX12_keeps (d + 1) hs P 56 [(0, .ref x0), (1, .int (x1 + 1))] [] h39) ∧ (¬ x1 < 44 → ∃ fs1 : List Value, h.1 x0 = some (.inr (12, fs1)) ∧ ∃ v4 : Nat, fs1[0]? = some (.ref v4) ∧ ∃ (n5 : Nat) (f6 : Nat → Int32), h.1 v4 = some (.inl (0, (n5, .inl f6))) ∧ vp_in 7 n5 ∧ ∃ (n9 : Nat) (f10 : Nat → Int32), h.1 v4 = some (.inl (0, (n9, .inl f10))) ∧ vp_in 7 n9 ∧ ∀ h13 : jH, h13 = jset h v4 (.inl (0, (n9, .inl (upd f10 ((7 : Int32)).toNatClampNeg (((f6 ((7 : Int32)).toNatClampNeg) + 1)))))) → P (.inl none) h13)) : J g mX12_keeps (d + 1) hs P 56 [(0, .ref x0), (1, .int x1)] [] h := by
  refine jr_iload_n 1 dX12_keeps_56 rfl rfl ?_
  refine jr_bipush (v := 44) dX12_keeps_57 (by decide) ?_
  refine jr_icmp_ge (tgt := 97) dX12_keeps_59 (by decide) (fun c59 => ?_) (fun c59 => ?_)
  · have k := k.2 c59
    refine jr_aload_n 0 dX12_keeps_97 rfl rfl ?_
    obtain ⟨fs1, e2, v4, e3, k⟩ := k
    refine jr_get jf_X12_9 dX12_keeps_98 e2 e3 ?_
    refine jr_bipush (v := 7) dX12_keeps_101 (by decide) ?_
    refine jr_dup2 dX12_keeps_103 rfl rfl ?_
    obtain ⟨n5, f6, e7, e8, k⟩ := k
    refine jr_iald dX12_keeps_104 e7 e8 ?_
    refine jr_iconst (v := 1) dX12_keeps_105 (by decide) ?_
    refine jr_iadd dX12_keeps_106 ?_
    obtain ⟨n9, f10, e11, e12, k⟩ := k
    refine jr_iastE dX12_keeps_107 e11 e12 (fun h13 eh14 => ?_)
    have k := k h13 eh14
    exact jr_vret rfl dX12_keeps_108 k
  · have k := k.1 c59
    refine jr_aload_n 0 dX12_keeps_62 rfl rfl ?_
    obtain ⟨fs15, e16, v18, e17, k⟩ := k
    refine jr_get jf_X12_9 dX12_keeps_63 e16 e17 ?_
    refine jr_bipush (v := 96) dX12_keeps_66 (by decide) ?_
    refine jr_bipush (v := 44) dX12_keeps_68 (by decide) ?_
    refine jr_aload_n 0 dX12_keeps_70 rfl rfl ?_
    obtain ⟨fs19, e20, v22, e21, k⟩ := k
    refine jr_get jf_X12_9 dX12_keeps_71 e20 e21 ?_
    refine jr_bipush (v := 7) dX12_keeps_74 (by decide) ?_
    obtain ⟨n23, f24, e25, e26, k⟩ := k
    refine jr_iald dX12_keeps_76 e25 e26 ?_
    refine jr_imul dX12_keeps_77 ?_
    refine jr_iadd dX12_keeps_78 ?_
    refine jr_iload_n 1 dX12_keeps_79 rfl rfl ?_
    refine jr_iadd dX12_keeps_80 ?_
    refine jr_aload_n 0 dX12_keeps_81 rfl rfl ?_
    obtain ⟨fs27, e28, v30, e29, k⟩ := k
    refine jr_get jf_X12_9 dX12_keeps_82 e28 e29 ?_
    refine jr_bipush (v := 8) dX12_keeps_85 (by decide) ?_
    refine jr_iload_n 1 dX12_keeps_87 rfl rfl ?_
    refine jr_iadd dX12_keeps_88 ?_
    obtain ⟨n31, f32, e33, e34, k⟩ := k
    refine jr_iald dX12_keeps_89 e33 e34 ?_
    obtain ⟨n35, f36, e37, e38, k⟩ := k
    refine jr_iastE dX12_keeps_90 e37 e38 (fun h39 eh40 => ?_)
    have k := k h39 eh40
    refine jr_iinc (v := (x1 + 1)) (lv' := [(1, .int (x1 + 1)), (0, .ref x0)]) 1 dX12_keeps_91 rfl rfl (by decide) rfl ?_
    refine jr_goto (tgt := 56) dX12_keeps_94 (by decide) ?_
    exact jr_sub [1, 0] rfl k
set_option maxRecDepth 20000 in
theorem bX12_putsAside_0 {g : jG} {d : Nat} {hs : jH} {P : jO → jH → Prop} {x0 : Nat} {h : jH} (k : J g mX12_putsAside (d + 1) hs P 2 [(0, .ref x0), (1, .int 0)] [] h) : J g mX12_putsAside (d + 1) hs P 0 [(0, .ref x0)] [] h := by
  refine jr_iconst (v := 0) dX12_putsAside_0 (by decide) ?_
  refine jr_istore_n (lv' := [(1, .int 0), (0, .ref x0)]) dX12_putsAside_1 rfl (by decide) rfl ?_
  exact jr_sub [1, 0] rfl k
set_option maxRecDepth 20000 in
theorem bX12_putsAside_2 {g : jG} {d : Nat} {hs : jH} {P : jO → jH → Prop} {x0 : Nat} {x1 : Int32} {h : jH} (k : (x1 < 44 → ∃ fs1 : List Value, h.1 x0 = some (.inr (12, fs1)) ∧ ∃ v4 : Nat, fs1[25]? = some (.ref v4) ∧ ∃ fs5 : List Value, h.1 x0 = some (.inr (12, fs5)) ∧ ∃ v8 : Nat, fs5[0]? = some (.ref v8) ∧ ∃ (n9 : Nat) (f10 : Nat → Int32), h.1 v8 = some (.inl (0, (n9, .inl f10))) ∧ vp_in (8 + x1) n9 ∧ ∃ (n13 : Nat) (f14 : Nat → Int32), h.1 v4 = some (.inl (0, (n13, .inl f14))) ∧ vp_in x1 n13 ∧ ∀ h17 : jH, h17 = jset h v4 (.inl (0, (n13, .inl (upd f14 x1.toNatClampNeg ((f10 ((8 + x1)).toNatClampNeg)))))) → J g mX12_putsAside (d + 1) hs P 2 [(0, .ref x0), (1, .int (x1 + 1))] [] h17) ∧ (¬ x1 < 44 → P (.inl none) h)) : J g mX12_putsAside (d + 1) hs P 2 [(0, .ref x0), (1, .int x1)] [] h := by
  refine jr_iload_n 1 dX12_putsAside_2 rfl rfl ?_
  refine jr_bipush (v := 44) dX12_putsAside_3 (by decide) ?_
  refine jr_icmp_ge (tgt := 29) dX12_putsAside_5 (by decide) (fun c5 => ?_) (fun c5 => ?_)
  · have k := k.2 c5
    exact jr_vret rfl dX12_putsAside_29 k
  · have k := k.1 c5
    refine jr_aload_n 0 dX12_putsAside_8 rfl rfl ?_
    obtain ⟨fs1, e2, v4, e3, k⟩ := k
    refine jr_get jf_X12_42 dX12_putsAside_9 e2 e3 ?_
    refine jr_iload_n 1 dX12_putsAside_12 rfl rfl ?_
    refine jr_aload_n 0 dX12_putsAside_13 rfl rfl ?_
    obtain ⟨fs5, e6, v8, e7, k⟩ := k
    refine jr_get jf_X12_9 dX12_putsAside_14 e6 e7 ?_
    refine jr_bipush (v := 8) dX12_putsAside_17 (by decide) ?_
    refine jr_iload_n 1 dX12_putsAside_19 rfl rfl ?_
    refine jr_iadd dX12_putsAside_20 ?_
    obtain ⟨n9, f10, e11, e12, k⟩ := k
    refine jr_iald dX12_putsAside_21 e11 e12 ?_
    obtain ⟨n13, f14, e15, e16, k⟩ := k
    refine jr_iastE dX12_putsAside_22 e15 e16 (fun h17 eh18 => ?_)
    have k := k h17 eh18
    refine jr_iinc (v := (x1 + 1)) (lv' := [(1, .int (x1 + 1)), (0, .ref x0)]) 1 dX12_putsAside_23 rfl rfl (by decide) rfl ?_
    refine jr_goto (tgt := 2) dX12_putsAside_26 (by decide) ?_
    exact jr_sub [1, 0] rfl k
set_option maxRecDepth 20000 in
theorem bX12_putsBack_0 {g : jG} {d : Nat} {hs : jH} {P : jO → jH → Prop} {x0 : Nat} {h : jH} (k : J g mX12_putsBack (d + 1) hs P 2 [(0, .ref x0), (1, .int 0)] [] h) : J g mX12_putsBack (d + 1) hs P 0 [(0, .ref x0)] [] h := by
  refine jr_iconst (v := 0) dX12_putsBack_0 (by decide) ?_
  refine jr_istore_n (lv' := [(1, .int 0), (0, .ref x0)]) dX12_putsBack_1 rfl (by decide) rfl ?_
  exact jr_sub [1, 0] rfl k
set_option maxRecDepth 20000 in
theorem bX12_putsBack_2 {g : jG} {d : Nat} {hs : jH} {P : jO → jH → Prop} {x0 : Nat} {x1 : Int32} {h : jH} (k : (x1 < 44 → ∃ fs1 : List Value, h.1 x0 = some (.inr (12, fs1)) ∧ ∃ v4 : Nat, fs1[0]? = some (.ref v4) ∧ ∃ fs5 : List Value, h.1 x0 = some (.inr (12, fs5)) ∧ ∃ v8 : Nat, fs5[25]? = some (.ref v8) ∧ ∃ (n9 : Nat) (f10 : Nat → Int32), h.1 v8 = some (.inl (0, (n9, .inl f10))) ∧ vp_in x1 n9 ∧ ∃ (n13 : Nat) (f14 : Nat → Int32), h.1 v4 = some (.inl (0, (n13, .inl f14))) ∧ vp_in (8 + x1) n13 ∧ ∀ h17 : jH, h17 = jset h v4 (.inl (0, (n13, .inl (upd f14 ((8 + x1)).toNatClampNeg ((f10 x1.toNatClampNeg)))))) → J g mX12_putsBack (d + 1) hs P 2 [(0, .ref x0), (1, .int (x1 + 1))] [] h17) ∧ (¬ x1 < 44 → P (.inl none) h)) : J g mX12_putsBack (d + 1) hs P 2 [(0, .ref x0), (1, .int x1)] [] h := by
  refine jr_iload_n 1 dX12_putsBack_2 rfl rfl ?_
  refine jr_bipush (v := 44) dX12_putsBack_3 (by decide) ?_
  refine jr_icmp_ge (tgt := 29) dX12_putsBack_5 (by decide) (fun c5 => ?_) (fun c5 => ?_)
  · have k := k.2 c5
    exact jr_vret rfl dX12_putsBack_29 k
  · have k := k.1 c5
    refine jr_aload_n 0 dX12_putsBack_8 rfl rfl ?_
    obtain ⟨fs1, e2, v4, e3, k⟩ := k
    refine jr_get jf_X12_9 dX12_putsBack_9 e2 e3 ?_
    refine jr_bipush (v := 8) dX12_putsBack_12 (by decide) ?_
    refine jr_iload_n 1 dX12_putsBack_14 rfl rfl ?_
    refine jr_iadd dX12_putsBack_15 ?_
    refine jr_aload_n 0 dX12_putsBack_16 rfl rfl ?_
    obtain ⟨fs5, e6, v8, e7, k⟩ := k
    refine jr_get jf_X12_42 dX12_putsBack_17 e6 e7 ?_
    refine jr_iload_n 1 dX12_putsBack_20 rfl rfl ?_
    obtain ⟨n9, f10, e11, e12, k⟩ := k
    refine jr_iald dX12_putsBack_21 e11 e12 ?_
    obtain ⟨n13, f14, e15, e16, k⟩ := k
    refine jr_iastE dX12_putsBack_22 e15 e16 (fun h17 eh18 => ?_)
    have k := k h17 eh18
    refine jr_iinc (v := (x1 + 1)) (lv' := [(1, .int (x1 + 1)), (0, .ref x0)]) 1 dX12_putsBack_23 rfl rfl (by decide) rfl ?_
    refine jr_goto (tgt := 2) dX12_putsBack_26 (by decide) ?_
    exact jr_sub [1, 0] rfl k
set_option maxRecDepth 20000 in
theorem bX12_whyTwo_0 {g : jG} {d : Nat} {hs : jH} {P : jO → jH → Prop} {x0 : Nat} {x1 : Int64} {x3 : Int64} {h : jH} (k : ∃ fs3 : List Value, h.1 x0 = some (.inr (12, fs3)) ∧ Con g mX12_isHouse d [.ref x0, .long x1] h (jPi (fun (r1 : Int32) (h2 : jH) => (r1 = 0 → P (.inl (some (.int 1))) h2) ∧ (¬ r1 = 0 → ∃ fs7 : List Value, h2.1 x0 = some (.inr (12, fs7)) ∧ Con g mX12_isHouse d [.ref x0, .long x3] h2 (jPi (fun (r5 : Int32) (h6 : jH) => (r5 = 0 → P (.inl (some (.int 1))) h6) ∧ (¬ r5 = 0 → (x1 = x3 → P (.inl (some (.int 1))) h6) ∧ (¬ x1 = x3 → P (.inl (some (.int 0))) h6))) (fun E h' => P (.inr E) h')))) (fun E h' => P (.inr E) h'))) : J g mX12_whyTwo (d + 1) hs P 0 [(0, .ref x0), (1, .long x1), (3, .long x3)] [] h := by
  refine jr_aload_n 0 dX12_whyTwo_0 rfl rfl ?_
  refine jr_lload_n 1 dX12_whyTwo_1 rfl rfl ?_
  obtain ⟨fs3, e4, k⟩ := k
  refine jr_cVi (As := [.long x1]) jl_X12_313 km_X12_isHouse rfl rfl dX12_whyTwo_2 e4 (Nat.le_of_ble_eq_true rfl) k (fun r1 h2 k => ?_)
  refine jr_if_eq (tgt := 26) dX12_whyTwo_5 (by decide) (fun c5 => ?_) (fun c5 => ?_)
  · have k := k.1 c5
    refine jr_iconst (v := 1) dX12_whyTwo_26 (by decide) ?_
    exact jr_iret (ty := .int) rfl rfl dX12_whyTwo_27 k
  · have k := k.2 c5
    refine jr_aload_n 0 dX12_whyTwo_8 rfl rfl ?_
    refine jr_lload_n 2 dX12_whyTwo_9 rfl rfl ?_
    obtain ⟨fs7, e8, k⟩ := k
    refine jr_cVi (As := [.long x3]) jl_X12_313 km_X12_isHouse rfl rfl dX12_whyTwo_10 e8 (Nat.le_of_ble_eq_true rfl) k (fun r5 h6 k => ?_)
    refine jr_if_eq (tgt := 26) dX12_whyTwo_13 (by decide) (fun c13 => ?_) (fun c13 => ?_)
    · have k := k.1 c13
      refine jr_iconst (v := 1) dX12_whyTwo_26 (by decide) ?_
      exact jr_iret (ty := .int) rfl rfl dX12_whyTwo_27 k
    · have k := k.2 c13
      refine jr_lload_n 1 dX12_whyTwo_16 rfl rfl ?_
      refine jr_lload_n 2 dX12_whyTwo_17 rfl rfl ?_
      refine jr_lcmp_eq (tgt := 26) dX12_whyTwo_18 dX12_whyTwo_19 (by decide) (fun c18 => ?_) (fun c18 => ?_)
      · have k := k.1 c18
        refine jr_iconst (v := 1) dX12_whyTwo_26 (by decide) ?_
        exact jr_iret (ty := .int) rfl rfl dX12_whyTwo_27 k
      · have k := k.2 c18
        refine jr_iconst (v := 0) dX12_whyTwo_22 (by decide) ?_
        refine jr_goto (tgt := 27) dX12_whyTwo_23 (by decide) ?_
        exact jr_iret (ty := .int) rfl rfl dX12_whyTwo_27 k
set_option maxRecDepth 20000 in
theorem bX12_whyGift_0 {g : jG} {d : Nat} {hs : jH} {P : jO → jH → Prop} {x0 : Nat} {x1 : Int64} {x3 : Int64} {x5 : Int64} {h : jH} (k : ∃ fs3 : List Value, h.1 x0 = some (.inr (12, fs3)) ∧ Con g mX12_whyTwo d [.ref x0, .long x1, .long x3] h (jPi (fun (r1 : Int32) (h2 : jH) => (r1 = 0 → Con g mX12_within d [.long x5, .long 1, .long 999] h2 (jPi (fun (r5 : Int32) (h6 : jH) => (r5 = 0 → P (.inl (some (.int 1))) h6) ∧ (¬ r5 = 0 → ∃ fs9 : List Value, h6.1 x0 = some (.inr (12, fs9)) ∧ Con g mX12_isGone d [.ref x0, .int x1.toInt32] h6 (jPi (fun (r7 : Int32) (h8 : jH) => (r7 = 0 → ∃ fs13 : List Value, h8.1 x0 = some (.inr (12, fs13)) ∧ Con g mX12_isGone d [.ref x0, .int x3.toInt32] h8 (jPi (fun (r11 : Int32) (h12 : jH) => (r11 = 0 → ∃ fs15 : List Value, h12.1 x0 = some (.inr (12, fs15)) ∧ ∃ v18 : Nat, fs15[0]? = some (.ref v18) ∧ ∃ (n19 : Nat) (f20 : Nat → Int32), h12.1 v18 = some (.inl (0, (n19, .inl f20))) ∧ vp_in (22 + x1.toInt32) n19 ∧ (((f20 ((22 + x1.toInt32)).toNatClampNeg)).toInt64 < x5 → P (.inl (some (.int 3))) h12) ∧ (¬ ((f20 ((22 + x1.toInt32)).toNatClampNeg)).toInt64 < x5 → P (.inl (some (.int 0))) h12)) ∧ (¬ r11 = 0 → P (.inl (some (.int 2))) h12)) (fun E h' => P (.inr E) h'))) ∧ (¬ r7 = 0 → P (.inl (some (.int 2))) h8)) (fun E h' => P (.inr E) h')))) (fun E h' => P (.inr E) h'))) ∧ (¬ r1 = 0 → P (.inl (some (.int 1))) h2)) (fun E h' => P (.inr E) h'))) : J g mX12_whyGift (d + 1) hs P 0 [(0, .ref x0), (1, .long x1), (3, .long x3), (5, .long x5)] [] h := by
  refine jr_aload_n 0 dX12_whyGift_0 rfl rfl ?_
  refine jr_lload_n 1 dX12_whyGift_1 rfl rfl ?_
  refine jr_lload_n 2 dX12_whyGift_2 rfl rfl ?_
  obtain ⟨fs3, e4, k⟩ := k
  refine jr_cVi (As := [.long x1, .long x3]) jl_X12_323 km_X12_whyTwo rfl rfl dX12_whyGift_3 e4 (Nat.le_of_ble_eq_true rfl) k (fun r1 h2 k => ?_)
  refine jr_if_ne (tgt := 21) dX12_whyGift_6 (by decide) (fun c6 => ?_) (fun c6 => ?_)
  · have k := k.2 c6
    refine jr_iconst (v := 1) dX12_whyGift_21 (by decide) ?_
    exact jr_iret (ty := .int) rfl rfl dX12_whyGift_22 k
  · have k := k.1 c6
    refine jr_lload 3 dX12_whyGift_9 rfl ?_
    refine jr_lconst (v := 1) dX12_whyGift_11 (by decide) ?_
    refine jr_ldc2 (v := 999) jk_X12_327 dX12_whyGift_12 ?_
    refine jr_cSi (As := [.long x5, .long 1, .long 999]) jl_X12_128 km_X12_within rfl rfl dX12_whyGift_15 (Nat.le_of_ble_eq_true rfl) k (fun r5 h6 k => ?_)
    refine jr_if_ne (tgt := 23) dX12_whyGift_18 (by decide) (fun c18 => ?_) (fun c18 => ?_)
    · have k := k.2 c18
      refine jr_aload_n 0 dX12_whyGift_23 rfl rfl ?_
      refine jr_lload_n 1 dX12_whyGift_24 rfl rfl ?_
      refine jr_l2i dX12_whyGift_25 ?_
      obtain ⟨fs9, e10, k⟩ := k
      refine jr_cVi (As := [.int x1.toInt32]) jl_X12_291 km_X12_isGone rfl rfl dX12_whyGift_26 e10 (Nat.le_of_ble_eq_true rfl) k (fun r7 h8 k => ?_)
      refine jr_if_ne (tgt := 41) dX12_whyGift_29 (by decide) (fun c29 => ?_) (fun c29 => ?_)
      · have k := k.2 c29
        refine jr_iconst (v := 2) dX12_whyGift_41 (by decide) ?_
        refine jr_goto (tgt := 67) dX12_whyGift_42 (by decide) ?_
        exact jr_iret (ty := .int) rfl rfl dX12_whyGift_67 k
      · have k := k.1 c29
        refine jr_aload_n 0 dX12_whyGift_32 rfl rfl ?_
        refine jr_lload_n 2 dX12_whyGift_33 rfl rfl ?_
        refine jr_l2i dX12_whyGift_34 ?_
        obtain ⟨fs13, e14, k⟩ := k
        refine jr_cVi (As := [.int x3.toInt32]) jl_X12_291 km_X12_isGone rfl rfl dX12_whyGift_35 e14 (Nat.le_of_ble_eq_true rfl) k (fun r11 h12 k => ?_)
        refine jr_if_eq (tgt := 45) dX12_whyGift_38 (by decide) (fun c38 => ?_) (fun c38 => ?_)
        · have k := k.1 c38
          refine jr_aload_n 0 dX12_whyGift_45 rfl rfl ?_
          obtain ⟨fs15, e16, v18, e17, k⟩ := k
          refine jr_get jf_X12_9 dX12_whyGift_46 e16 e17 ?_
          refine jr_bipush (v := 22) dX12_whyGift_49 (by decide) ?_
          refine jr_lload_n 1 dX12_whyGift_51 rfl rfl ?_
          refine jr_l2i dX12_whyGift_52 ?_
          refine jr_iadd dX12_whyGift_53 ?_
          obtain ⟨n19, f20, e21, e22, k⟩ := k
          refine jr_iald dX12_whyGift_54 e21 e22 ?_
          refine jr_i2l dX12_whyGift_55 ?_
          refine jr_lload 3 dX12_whyGift_56 rfl ?_
          refine jr_lcmp_ge (tgt := 66) dX12_whyGift_58 dX12_whyGift_59 (by decide) (fun c58 => ?_) (fun c58 => ?_)
          · have k := k.2 c58
            refine jr_iconst (v := 0) dX12_whyGift_66 (by decide) ?_
            exact jr_iret (ty := .int) rfl rfl dX12_whyGift_67 k
          · have k := k.1 c58
            refine jr_iconst (v := 3) dX12_whyGift_62 (by decide) ?_
            refine jr_goto (tgt := 67) dX12_whyGift_63 (by decide) ?_
            exact jr_iret (ty := .int) rfl rfl dX12_whyGift_67 k
        · have k := k.2 c38
          refine jr_iconst (v := 2) dX12_whyGift_41 (by decide) ?_
          refine jr_goto (tgt := 67) dX12_whyGift_42 (by decide) ?_
          exact jr_iret (ty := .int) rfl rfl dX12_whyGift_67 k
    · have k := k.1 c18
      refine jr_iconst (v := 1) dX12_whyGift_21 (by decide) ?_
      exact jr_iret (ty := .int) rfl rfl dX12_whyGift_22 k
set_option maxRecDepth 20000 in
theorem bX12_canPay_0 {g : jG} {d : Nat} {hs : jH} {P : jO → jH → Prop} {x0 : Nat} {x1 : Int32} {h : jH} (k : ∃ fs1 : List Value, h.1 x0 = some (.inr (12, fs1)) ∧ ∃ v4 : Nat, fs1[0]? = some (.ref v4) ∧ ∃ (n5 : Nat) (f6 : Nat → Int32), h.1 v4 = some (.inl (0, (n5, .inl f6))) ∧ vp_in (22 + x1) n5 ∧ ∃ fs9 : List Value, h.1 x0 = some (.inr (12, fs9)) ∧ ∃ v12 : Nat, fs9[0]? = some (.ref v12) ∧ ∃ (n13 : Nat) (f14 : Nat → Int32), h.1 v12 = some (.inl (0, (n13, .inl f14))) ∧ vp_in (36 + x1) n13 ∧ P (.inl (some (.int ((jmin ((f6 ((22 + x1)).toNatClampNeg)) ((f14 ((36 + x1)).toNatClampNeg))))))) h) : J g mX12_canPay (d + 1) hs P 0 [(0, .ref x0), (1, .int x1)] [] h := by
  refine jr_aload_n 0 dX12_canPay_0 rfl rfl ?_
  obtain ⟨fs1, e2, v4, e3, k⟩ := k
  refine jr_get jf_X12_9 dX12_canPay_1 e2 e3 ?_
  refine jr_bipush (v := 22) dX12_canPay_4 (by decide) ?_
  refine jr_iload_n 1 dX12_canPay_6 rfl rfl ?_
  refine jr_iadd dX12_canPay_7 ?_
  obtain ⟨n5, f6, e7, e8, k⟩ := k
  refine jr_iald dX12_canPay_8 e7 e8 ?_
  refine jr_aload_n 0 dX12_canPay_9 rfl rfl ?_
  obtain ⟨fs9, e10, v12, e11, k⟩ := k
  refine jr_get jf_X12_9 dX12_canPay_10 e10 e11 ?_
  refine jr_bipush (v := 36) dX12_canPay_13 (by decide) ?_
  refine jr_iload_n 1 dX12_canPay_15 rfl rfl ?_
  refine jr_iadd dX12_canPay_16 ?_
  obtain ⟨n13, f14, e15, e16, k⟩ := k
  refine jr_iald dX12_canPay_17 e15 e16 ?_
  refine jr_mmin jl_X12_201 dX12_canPay_18 (Nat.le_of_ble_eq_true rfl) ?_
  exact jr_iret (ty := .int) rfl rfl dX12_canPay_21 k
set_option maxRecDepth 20000 in
theorem bX12_whyPay_0 {g : jG} {d : Nat} {hs : jH} {P : jO → jH → Prop} {x0 : Nat} {x1 : Int64} {x3 : Int64} {h : jH} (k : ∃ fs3 : List Value, h.1 x0 = some (.inr (12, fs3)) ∧ Con g mX12_isHouse d [.ref x0, .long x1] h (jPi (fun (r1 : Int32) (h2 : jH) => (r1 = 0 → P (.inl (some (.int 1))) h2) ∧ (¬ r1 = 0 → Con g mX12_within d [.long x3, .long 1, .long 999] h2 (jPi (fun (r5 : Int32) (h6 : jH) => (r5 = 0 → P (.inl (some (.int 1))) h6) ∧ (¬ r5 = 0 → ∃ fs9 : List Value, h6.1 x0 = some (.inr (12, fs9)) ∧ Con g mX12_isGone d [.ref x0, .int x1.toInt32] h6 (jPi (fun (r7 : Int32) (h8 : jH) => (r7 = 0 → ∃ fs13 : List Value, h8.1 x0 = some (.inr (12, fs13)) ∧ Con g mX12_canPay d [.ref x0, .int x1.toInt32] h8 (jPi (fun (r11 : Int32) (h12 : jH) => (r11 = 0 → P (.inl (some (.int 3))) h12) ∧ (¬ r11 = 0 → P (.inl (some (.int 0))) h12)) (fun E h' => P (.inr E) h'))) ∧ (¬ r7 = 0 → P (.inl (some (.int 2))) h8)) (fun E h' => P (.inr E) h')))) (fun E h' => P (.inr E) h')))) (fun E h' => P (.inr E) h'))) : J g mX12_whyPay (d + 1) hs P 0 [(0, .ref x0), (1, .long x1), (3, .long x3)] [] h := by
  refine jr_aload_n 0 dX12_whyPay_0 rfl rfl ?_
  refine jr_lload_n 1 dX12_whyPay_1 rfl rfl ?_
  obtain ⟨fs3, e4, k⟩ := k
  refine jr_cVi (As := [.long x1]) jl_X12_313 km_X12_isHouse rfl rfl dX12_whyPay_2 e4 (Nat.le_of_ble_eq_true rfl) k (fun r1 h2 k => ?_)
  refine jr_if_eq (tgt := 19) dX12_whyPay_5 (by decide) (fun c5 => ?_) (fun c5 => ?_)
  · have k := k.1 c5
    refine jr_iconst (v := 1) dX12_whyPay_19 (by decide) ?_
    exact jr_iret (ty := .int) rfl rfl dX12_whyPay_20 k
  · have k := k.2 c5
    refine jr_lload_n 2 dX12_whyPay_8 rfl rfl ?_
    refine jr_lconst (v := 1) dX12_whyPay_9 (by decide) ?_
    refine jr_ldc2 (v := 999) jk_X12_327 dX12_whyPay_10 ?_
    refine jr_cSi (As := [.long x3, .long 1, .long 999]) jl_X12_128 km_X12_within rfl rfl dX12_whyPay_13 (Nat.le_of_ble_eq_true rfl) k (fun r5 h6 k => ?_)
    refine jr_if_ne (tgt := 21) dX12_whyPay_16 (by decide) (fun c16 => ?_) (fun c16 => ?_)
    · have k := k.2 c16
      refine jr_aload_n 0 dX12_whyPay_21 rfl rfl ?_
      refine jr_lload_n 1 dX12_whyPay_22 rfl rfl ?_
      refine jr_l2i dX12_whyPay_23 ?_
      obtain ⟨fs9, e10, k⟩ := k
      refine jr_cVi (As := [.int x1.toInt32]) jl_X12_291 km_X12_isGone rfl rfl dX12_whyPay_24 e10 (Nat.le_of_ble_eq_true rfl) k (fun r7 h8 k => ?_)
      refine jr_if_eq (tgt := 34) dX12_whyPay_27 (by decide) (fun c27 => ?_) (fun c27 => ?_)
      · have k := k.1 c27
        refine jr_aload_n 0 dX12_whyPay_34 rfl rfl ?_
        refine jr_lload_n 1 dX12_whyPay_35 rfl rfl ?_
        refine jr_l2i dX12_whyPay_36 ?_
        obtain ⟨fs13, e14, k⟩ := k
        refine jr_cVi (As := [.int x1.toInt32]) jl_X12_329 km_X12_canPay rfl rfl dX12_whyPay_37 e14 (Nat.le_of_ble_eq_true rfl) k (fun r11 h12 k => ?_)
        refine jr_if_ne (tgt := 47) dX12_whyPay_40 (by decide) (fun c40 => ?_) (fun c40 => ?_)
        · have k := k.2 c40
          refine jr_iconst (v := 0) dX12_whyPay_47 (by decide) ?_
          exact jr_iret (ty := .int) rfl rfl dX12_whyPay_48 k
        · have k := k.1 c40
          refine jr_iconst (v := 3) dX12_whyPay_43 (by decide) ?_
          refine jr_goto (tgt := 48) dX12_whyPay_44 (by decide) ?_
          exact jr_iret (ty := .int) rfl rfl dX12_whyPay_48 k
      · have k := k.2 c27
        refine jr_iconst (v := 2) dX12_whyPay_30 (by decide) ?_
        refine jr_goto (tgt := 48) dX12_whyPay_31 (by decide) ?_
        exact jr_iret (ty := .int) rfl rfl dX12_whyPay_48 k
    · have k := k.1 c16
      refine jr_iconst (v := 1) dX12_whyPay_19 (by decide) ?_
      exact jr_iret (ty := .int) rfl rfl dX12_whyPay_20 k
set_option maxRecDepth 20000 in
theorem bX12_swaps_0 {g : jG} {d : Nat} {hs : jH} {P : jO → jH → Prop} {x0 : Nat} {x1 : Int32} {x2 : Int32} {h : jH} (k : J g mX12_swaps (d + 1) hs P 2 [(0, .ref x0), (1, .int x1), (2, .int x2), (3, .int 0)] [] h) : J g mX12_swaps (d + 1) hs P 0 [(0, .ref x0), (1, .int x1), (2, .int x2)] [] h := by
  refine jr_iconst (v := 0) dX12_swaps_0 (by decide) ?_
  refine jr_istore_n (lv' := [(3, .int 0), (0, .ref x0), (1, .int x1), (2, .int x2)]) dX12_swaps_1 rfl (by decide) rfl ?_
  exact jr_sub [1, 2, 3, 0] rfl k
set_option maxRecDepth 20000 in
theorem bX12_swaps_2 {g : jG} {d : Nat} {hs : jH} {P : jO → jH → Prop} {x0 : Nat} {x1 : Int32} {x2 : Int32} {x3 : Int32} {h : jH} (k : (x3 < 4 → ∃ fs1 : List Value, h.1 x0 = some (.inr (12, fs1)) ∧ ∃ v4 : Nat, fs1[0]? = some (.ref v4) ∧ ∃ (n5 : Nat) (f6 : Nat → Int32), h.1 v4 = some (.inl (0, (n5, .inl f6))) ∧ vp_in ((8 + (7 * x3)) + x1) n5 ∧ ∃ fs9 : List Value, h.1 x0 = some (.inr (12, fs9)) ∧ ∃ v12 : Nat, fs9[0]? = some (.ref v12) ∧ ∃ fs13 : List Value, h.1 x0 = some (.inr (12, fs13)) ∧ ∃ v16 : Nat, fs13[0]? = some (.ref v16) ∧ ∃ (n17 : Nat) (f18 : Nat → Int32), h.1 v16 = some (.inl (0, (n17, .inl f18))) ∧ vp_in ((8 + (7 * x3)) + x2) n17 ∧ ∃ (n21 : Nat) (f22 : Nat → Int32), h.1 v12 = some (.inl (0, (n21, .inl f22))) ∧ vp_in ((8 + (7 * x3)) + x1) n21 ∧ ∀ h25 : jH, h25 = jset h v12 (.inl (0, (n21, .inl (upd f22 (((8 + (7 * x3)) + x1)).toNatClampNeg ((f18 (((8 + (7 * x3)) + x2)).toNatClampNeg)))))) → ∃ fs27 : List Value, h25.1 x0 = some (.inr (12, fs27)) ∧ ∃ v30 : Nat, fs27[0]? = some (.ref v30) ∧ ∃ (n31 : Nat) (f32 : Nat → Int32), h25.1 v30 = some (.inl (0, (n31, .inl f32))) ∧ vp_in ((8 + (7 * x3)) + x2) n31 ∧ ∀ h35 : jH, h35 = jset h25 v30 (.inl (0, (n31, .inl (upd f32 (((8 + (7 * x3)) + x2)).toNatClampNeg ((f6 (((8 + (7 * x3)) + x1)).toNatClampNeg)))))) → J g mX12_swaps (d + 1) hs P 2 [(0, .ref x0), (1, .int x1), (2, .int x2), (3, .int (x3 + 1))] [] h35) ∧ (¬ x3 < 4 → P (.inl none) h)) : J g mX12_swaps (d + 1) hs P 2 [(0, .ref x0), (1, .int x1), (2, .int x2), (3, .int x3)] [] h := by
  refine jr_iload_n 3 dX12_swaps_2 rfl rfl ?_
  refine jr_iconst (v := 4) dX12_swaps_3 (by decide) ?_
  refine jr_icmp_ge (tgt := 73) dX12_swaps_4 (by decide) (fun c4 => ?_) (fun c4 => ?_)
  · have k := k.2 c4
    exact jr_vret rfl dX12_swaps_73 k
  · have k := k.1 c4
    refine jr_aload_n 0 dX12_swaps_7 rfl rfl ?_
    obtain ⟨fs1, e2, v4, e3, k⟩ := k
    refine jr_get jf_X12_9 dX12_swaps_8 e2 e3 ?_
    refine jr_bipush (v := 8) dX12_swaps_11 (by decide) ?_
    refine jr_bipush (v := 7) dX12_swaps_13 (by decide) ?_
    refine jr_iload_n 3 dX12_swaps_15 rfl rfl ?_
    refine jr_imul dX12_swaps_16 ?_
    refine jr_iadd dX12_swaps_17 ?_
    refine jr_iload_n 1 dX12_swaps_18 rfl rfl ?_
    refine jr_iadd dX12_swaps_19 ?_
    obtain ⟨n5, f6, e7, e8, k⟩ := k
    refine jr_iald dX12_swaps_20 e7 e8 ?_
    refine jr_istore (lv' := [(4, .int (f6 (((8 + (7 * x3)) + x1)).toNatClampNeg)), (0, .ref x0), (1, .int x1), (2, .int x2), (3, .int x3)]) dX12_swaps_21 (by decide) rfl ?_
    refine jr_aload_n 1 dX12_swaps_23 rfl rfl ?_
    obtain ⟨fs9, e10, v12, e11, k⟩ := k
    refine jr_get jf_X12_9 dX12_swaps_24 e10 e11 ?_
    refine jr_bipush (v := 8) dX12_swaps_27 (by decide) ?_
    refine jr_bipush (v := 7) dX12_swaps_29 (by decide) ?_
    refine jr_iload_n 4 dX12_swaps_31 rfl rfl ?_
    refine jr_imul dX12_swaps_32 ?_
    refine jr_iadd dX12_swaps_33 ?_
    refine jr_iload_n 2 dX12_swaps_34 rfl rfl ?_
    refine jr_iadd dX12_swaps_35 ?_
    refine jr_aload_n 1 dX12_swaps_36 rfl rfl ?_
    obtain ⟨fs13, e14, v16, e15, k⟩ := k
    refine jr_get jf_X12_9 dX12_swaps_37 e14 e15 ?_
    refine jr_bipush (v := 8) dX12_swaps_40 (by decide) ?_
    refine jr_bipush (v := 7) dX12_swaps_42 (by decide) ?_
    refine jr_iload_n 4 dX12_swaps_44 rfl rfl ?_
    refine jr_imul dX12_swaps_45 ?_
    refine jr_iadd dX12_swaps_46 ?_
    refine jr_iload_n 3 dX12_swaps_47 rfl rfl ?_
    refine jr_iadd dX12_swaps_48 ?_
    obtain ⟨n17, f18, e19, e20, k⟩ := k
    refine jr_iald dX12_swaps_49 e19 e20 ?_
    obtain ⟨n21, f22, e23, e24, k⟩ := k
    refine jr_iastE dX12_swaps_50 e23 e24 (fun h25 eh26 => ?_)
    have k := k h25 eh26
    refine jr_aload_n 1 dX12_swaps_51 rfl rfl ?_
    obtain ⟨fs27, e28, v30, e29, k⟩ := k
    refine jr_get jf_X12_9 dX12_swaps_52 e28 e29 ?_
    refine jr_bipush (v := 8) dX12_swaps_55 (by decide) ?_
    refine jr_bipush (v := 7) dX12_swaps_57 (by decide) ?_
    refine jr_iload_n 4 dX12_swaps_59 rfl rfl ?_
    refine jr_imul dX12_swaps_60 ?_
    refine jr_iadd dX12_swaps_61 ?_
    refine jr_iload_n 3 dX12_swaps_62 rfl rfl ?_
    refine jr_iadd dX12_swaps_63 ?_
    refine jr_iload 0 dX12_swaps_64 rfl ?_
    obtain ⟨n31, f32, e33, e34, k⟩ := k
    refine jr_iastE dX12_swaps_66 e33 e34 (fun h35 eh36 => ?_)
    have k := k h35 eh36
    refine jr_iinc (v := (x3 + 1)) (lv' := [(3, .int (x3 + 1)), (4, .int (f6 (((8 + (7 * x3)) + x1)).toNatClampNeg)), (0, .ref x0), (1, .int x1), (2, .int x2)]) 4 dX12_swaps_67 rfl rfl (by decide) rfl ?_
    refine jr_goto (tgt := 2) dX12_swaps_70 (by decide) ?_
    exact jr_sub [2, 3, 4, 0] rfl k
set_option maxRecDepth 20000 in
theorem bX12_gives_0 {g : jG} {d : Nat} {hs : jH} {P : jO → jH → Prop} {x0 : Nat} {x1 : Int32} {x2 : Int32} {x3 : Int32} {h : jH} (k : ∃ fs1 : List Value, h.1 x0 = some (.inr (12, fs1)) ∧ ∃ v4 : Nat, fs1[0]? = some (.ref v4) ∧ ∃ (n5 : Nat) (f6 : Nat → Int32), h.1 v4 = some (.inl (0, (n5, .inl f6))) ∧ vp_in (22 + x1) n5 ∧ ∃ (n9 : Nat) (f10 : Nat → Int32), h.1 v4 = some (.inl (0, (n9, .inl f10))) ∧ vp_in (22 + x1) n9 ∧ ∀ h13 : jH, h13 = jset h v4 (.inl (0, (n9, .inl (upd f10 ((22 + x1)).toNatClampNeg (((f6 ((22 + x1)).toNatClampNeg) - x3)))))) → ∃ fs15 : List Value, h13.1 x0 = some (.inr (12, fs15)) ∧ ∃ v18 : Nat, fs15[0]? = some (.ref v18) ∧ ∃ fs19 : List Value, h13.1 x0 = some (.inr (12, fs19)) ∧ ∃ v22 : Nat, fs19[0]? = some (.ref v22) ∧ ∃ (n23 : Nat) (f24 : Nat → Int32), h13.1 v22 = some (.inl (0, (n23, .inl f24))) ∧ vp_in (22 + x2) n23 ∧ Con g mX12_capped d [.int ((f24 ((22 + x2)).toNatClampNeg) + x3)] h13 (jPi (fun (r27 : Int32) (h28 : jH) => ∃ (n29 : Nat) (f30 : Nat → Int32), h28.1 v18 = some (.inl (0, (n29, .inl f30))) ∧ vp_in (22 + x2) n29 ∧ ∀ h33 : jH, h33 = jset h28 v18 (.inl (0, (n29, .inl (upd f30 ((22 + x2)).toNatClampNeg r27)))) → P (.inl none) h33) (fun E h' => P (.inr E) h'))) : J g mX12_gives (d + 1) hs P 0 [(0, .ref x0), (1, .int x1), (2, .int x2), (3, .int x3)] [] h := by
  refine jr_aload_n 0 dX12_gives_0 rfl rfl ?_
  obtain ⟨fs1, e2, v4, e3, k⟩ := k
  refine jr_get jf_X12_9 dX12_gives_1 e2 e3 ?_
  refine jr_bipush (v := 22) dX12_gives_4 (by decide) ?_
  refine jr_iload_n 1 dX12_gives_6 rfl rfl ?_
  refine jr_iadd dX12_gives_7 ?_
  refine jr_dup2 dX12_gives_8 rfl rfl ?_
  obtain ⟨n5, f6, e7, e8, k⟩ := k
  refine jr_iald dX12_gives_9 e7 e8 ?_
  refine jr_iload_n 3 dX12_gives_10 rfl rfl ?_
  refine jr_isub dX12_gives_11 ?_
  obtain ⟨n9, f10, e11, e12, k⟩ := k
  refine jr_iastE dX12_gives_12 e11 e12 (fun h13 eh14 => ?_)
  have k := k h13 eh14
  refine jr_aload_n 0 dX12_gives_13 rfl rfl ?_
  obtain ⟨fs15, e16, v18, e17, k⟩ := k
  refine jr_get jf_X12_9 dX12_gives_14 e16 e17 ?_
  refine jr_bipush (v := 22) dX12_gives_17 (by decide) ?_
  refine jr_iload_n 2 dX12_gives_19 rfl rfl ?_
  refine jr_iadd dX12_gives_20 ?_
  refine jr_aload_n 0 dX12_gives_21 rfl rfl ?_
  obtain ⟨fs19, e20, v22, e21, k⟩ := k
  refine jr_get jf_X12_9 dX12_gives_22 e20 e21 ?_
  refine jr_bipush (v := 22) dX12_gives_25 (by decide) ?_
  refine jr_iload_n 2 dX12_gives_27 rfl rfl ?_
  refine jr_iadd dX12_gives_28 ?_
  obtain ⟨n23, f24, e25, e26, k⟩ := k
  refine jr_iald dX12_gives_29 e25 e26 ?_
  refine jr_iload_n 3 dX12_gives_30 rfl rfl ?_
  refine jr_iadd dX12_gives_31 ?_
  refine jr_cSi (As := [.int ((f24 ((22 + x2)).toNatClampNeg) + x3)]) jl_X12_279 km_X12_capped rfl rfl dX12_gives_32 (Nat.le_of_ble_eq_true rfl) k (fun r27 h28 k => ?_)
  obtain ⟨n29, f30, e31, e32, k⟩ := k
  refine jr_iastE dX12_gives_35 e31 e32 (fun h33 eh34 => ?_)
  have k := k h33 eh34
  exact jr_vret rfl dX12_gives_36 k
set_option maxRecDepth 20000 in
theorem bX12_paysOff_0 {g : jG} {d : Nat} {hs : jH} {P : jO → jH → Prop} {x0 : Nat} {x1 : Int32} {x2 : Int32} {h : jH} (k : ∃ fs3 : List Value, h.1 x0 = some (.inr (12, fs3)) ∧ Con g mX12_canPay d [.ref x0, .int x1] h (jPi (fun (r1 : Int32) (h2 : jH) => ∃ fs5 : List Value, h2.1 x0 = some (.inr (12, fs5)) ∧ ∃ v8 : Nat, fs5[0]? = some (.ref v8) ∧ ∃ (n9 : Nat) (f10 : Nat → Int32), h2.1 v8 = some (.inl (0, (n9, .inl f10))) ∧ vp_in (22 + x1) n9 ∧ ∃ (n13 : Nat) (f14 : Nat → Int32), h2.1 v8 = some (.inl (0, (n13, .inl f14))) ∧ vp_in (22 + x1) n13 ∧ ∀ h17 : jH, h17 = jset h2 v8 (.inl (0, (n13, .inl (upd f14 ((22 + x1)).toNatClampNeg (((f10 ((22 + x1)).toNatClampNeg) - (jmin x2 r1))))))) → ∃ fs19 : List Value, h17.1 x0 = some (.inr (12, fs19)) ∧ ∃ v22 : Nat, fs19[0]? = some (.ref v22) ∧ ∃ (n23 : Nat) (f24 : Nat → Int32), h17.1 v22 = some (.inl (0, (n23, .inl f24))) ∧ vp_in (36 + x1) n23 ∧ ∃ (n27 : Nat) (f28 : Nat → Int32), h17.1 v22 = some (.inl (0, (n27, .inl f28))) ∧ vp_in (36 + x1) n27 ∧ ∀ h31 : jH, h31 = jset h17 v22 (.inl (0, (n27, .inl (upd f28 ((36 + x1)).toNatClampNeg (((f24 ((36 + x1)).toNatClampNeg) - (jmin x2 r1))))))) → P (.inl (some (.int ((jmin x2 r1))))) h31) (fun E h' => P (.inr E) h'))) : J g mX12_paysOff (d + 1) hs P 0 [(0, .ref x0), (1, .int x1), (2, .int x2)] [] h := by
  refine jr_iload_n 2 dX12_paysOff_0 rfl rfl ?_
  refine jr_aload_n 0 dX12_paysOff_1 rfl rfl ?_
  refine jr_iload_n 1 dX12_paysOff_2 rfl rfl ?_
  obtain ⟨fs3, e4, k⟩ := k
  refine jr_cVi (As := [.int x1]) jl_X12_329 km_X12_canPay rfl rfl dX12_paysOff_3 e4 (Nat.le_of_ble_eq_true rfl) k (fun r1 h2 k => ?_)
  refine jr_mmin jl_X12_201 dX12_paysOff_6 (Nat.le_of_ble_eq_true rfl) ?_
  refine jr_istore_n (lv' := [(3, .int (jmin x2 r1)), (0, .ref x0), (1, .int x1), (2, .int x2)]) dX12_paysOff_9 rfl (by decide) rfl ?_
  refine jr_aload_n 1 dX12_paysOff_10 rfl rfl ?_
  obtain ⟨fs5, e6, v8, e7, k⟩ := k
  refine jr_get jf_X12_9 dX12_paysOff_11 e6 e7 ?_
  refine jr_bipush (v := 22) dX12_paysOff_14 (by decide) ?_
  refine jr_iload_n 2 dX12_paysOff_16 rfl rfl ?_
  refine jr_iadd dX12_paysOff_17 ?_
  refine jr_dup2 dX12_paysOff_18 rfl rfl ?_
  obtain ⟨n9, f10, e11, e12, k⟩ := k
  refine jr_iald dX12_paysOff_19 e11 e12 ?_
  refine jr_iload_n 0 dX12_paysOff_20 rfl rfl ?_
  refine jr_isub dX12_paysOff_21 ?_
  obtain ⟨n13, f14, e15, e16, k⟩ := k
  refine jr_iastE dX12_paysOff_22 e15 e16 (fun h17 eh18 => ?_)
  have k := k h17 eh18
  refine jr_aload_n 1 dX12_paysOff_23 rfl rfl ?_
  obtain ⟨fs19, e20, v22, e21, k⟩ := k
  refine jr_get jf_X12_9 dX12_paysOff_24 e20 e21 ?_
  refine jr_bipush (v := 36) dX12_paysOff_27 (by decide) ?_
  refine jr_iload_n 2 dX12_paysOff_29 rfl rfl ?_
  refine jr_iadd dX12_paysOff_30 ?_
  refine jr_dup2 dX12_paysOff_31 rfl rfl ?_
  obtain ⟨n23, f24, e25, e26, k⟩ := k
  refine jr_iald dX12_paysOff_32 e25 e26 ?_
  refine jr_iload_n 0 dX12_paysOff_33 rfl rfl ?_
  refine jr_isub dX12_paysOff_34 ?_
  obtain ⟨n27, f28, e29, e30, k⟩ := k
  refine jr_iastE dX12_paysOff_35 e29 e30 (fun h31 eh32 => ?_)
  have k := k h31 eh32
  refine jr_iload_n 0 dX12_paysOff_36 rfl rfl ?_
  exact jr_iret (ty := .int) rfl rfl dX12_paysOff_37 k
set_option maxRecDepth 20000 in
theorem bX12_swap_0 {g : jG} {d : Nat} {hs : jH} {P : jO → jH → Prop} {x0 : Nat} {x1 : Int32} {x2 : Int32} {h : jH} (k : ∃ fs1 : List Value, h.1 x0 = some (.inr (12, fs1)) ∧ 4 < fs1.length ∧ (∀ h4 : jH, h4 = jset h x0 (.inr (12, fs1.set 4 (.int 0))) → ∃ fs8 : List Value, h4.1 x0 = some (.inr (12, fs8)) ∧ Con g mX12_whyTwo d [.ref x0, .long x1.toInt64, .long x2.toInt64] h4 (jPi (fun (r6 : Int32) (h7 : jH) => (r6 = 0 → ∃ fs12 : List Value, h7.1 x0 = some (.inr (12, fs12)) ∧ Con g mX12_keeps d [.ref x0] h7 (jPv (fun (h11 : jH) => ∃ fs16 : List Value, h11.1 x0 = some (.inr (12, fs16)) ∧ Con g mX12_swaps d [.ref x0, .int x1, .int x2] h11 (jPv (fun (h15 : jH) => ∃ fs18 : List Value, h15.1 x0 = some (.inr (12, fs18)) ∧ ∃ v21 : Nat, fs18[0]? = some (.ref v21) ∧ ∃ (n22 : Nat) (f23 : Nat → Int32), h15.1 v21 = some (.inl (0, (n22, .inl f23))) ∧ vp_in (36 + x1) n22 ∧ ∃ fs26 : List Value, h15.1 x0 = some (.inr (12, fs26)) ∧ ∃ v29 : Nat, fs26[0]? = some (.ref v29) ∧ ∃ (n30 : Nat) (f31 : Nat → Int32), h15.1 v29 = some (.inl (0, (n30, .inl f31))) ∧ vp_in (36 + x2) n30 ∧ P (.inl (some (.int (((f23 ((36 + x1)).toNatClampNeg) + (f31 ((36 + x2)).toNatClampNeg)))))) h15) (fun E h' => P (.inr E) h'))) (fun E h' => P (.inr E) h'))) ∧ (¬ r6 = 0 → P (.inl (some (.int ((-1))))) h7)) (fun E h' => P (.inr E) h')))) : J g mX12_swap (d + 1) hs P 0 [(0, .ref x0), (1, .int x1), (2, .int x2)] [] h := by
  refine jr_aload_n 0 dX12_swap_0 rfl rfl ?_
  refine jr_iconst (v := 0) dX12_swap_1 (by decide) ?_
  obtain ⟨fs1, e2, e3, k⟩ := k
  refine jr_putE jp_X12_67 dX12_swap_2 e2 e3 rfl rfl (fun h4 eh5 => ?_)
  have k := k h4 eh5
  refine jr_aload_n 0 dX12_swap_5 rfl rfl ?_
  refine jr_iload_n 1 dX12_swap_6 rfl rfl ?_
  refine jr_i2l dX12_swap_7 ?_
  refine jr_iload_n 2 dX12_swap_8 rfl rfl ?_
  refine jr_i2l dX12_swap_9 ?_
  obtain ⟨fs8, e9, k⟩ := k
  refine jr_cVi (As := [.long x1.toInt64, .long x2.toInt64]) jl_X12_323 km_X12_whyTwo rfl rfl dX12_swap_10 e9 (Nat.le_of_ble_eq_true rfl) k (fun r6 h7 k => ?_)
  refine jr_if_eq (tgt := 18) dX12_swap_13 (by decide) (fun c13 => ?_) (fun c13 => ?_)
  · have k := k.1 c13
    refine jr_aload_n 0 dX12_swap_18 rfl rfl ?_
    obtain ⟨fs12, e13, k⟩ := k
    refine jr_cVv (As := []) jl_X12_332 km_X12_keeps rfl rfl dX12_swap_19 e13 (Nat.le_of_ble_eq_true rfl) k (fun h11 k => ?_)
    refine jr_aload_n 0 dX12_swap_22 rfl rfl ?_
    refine jr_iload_n 1 dX12_swap_23 rfl rfl ?_
    refine jr_iload_n 2 dX12_swap_24 rfl rfl ?_
    obtain ⟨fs16, e17, k⟩ := k
    refine jr_cVv (As := [.int x1, .int x2]) jl_X12_335 km_X12_swaps rfl rfl dX12_swap_25 e17 (Nat.le_of_ble_eq_true rfl) k (fun h15 k => ?_)
    refine jr_aload_n 0 dX12_swap_28 rfl rfl ?_
    obtain ⟨fs18, e19, v21, e20, k⟩ := k
    refine jr_get jf_X12_9 dX12_swap_29 e19 e20 ?_
    refine jr_bipush (v := 36) dX12_swap_32 (by decide) ?_
    refine jr_iload_n 1 dX12_swap_34 rfl rfl ?_
    refine jr_iadd dX12_swap_35 ?_
    obtain ⟨n22, f23, e24, e25, k⟩ := k
    refine jr_iald dX12_swap_36 e24 e25 ?_
    refine jr_aload_n 0 dX12_swap_37 rfl rfl ?_
    obtain ⟨fs26, e27, v29, e28, k⟩ := k
    refine jr_get jf_X12_9 dX12_swap_38 e27 e28 ?_
    refine jr_bipush (v := 36) dX12_swap_41 (by decide) ?_
    refine jr_iload_n 2 dX12_swap_43 rfl rfl ?_
    refine jr_iadd dX12_swap_44 ?_
    obtain ⟨n30, f31, e32, e33, k⟩ := k
    refine jr_iald dX12_swap_45 e32 e33 ?_
    refine jr_iadd dX12_swap_46 ?_
    exact jr_iret (ty := .int) rfl rfl dX12_swap_47 k
  · have k := k.2 c13
    refine jr_iconst (v := (-1)) dX12_swap_16 (by decide) ?_
    exact jr_iret (ty := .int) rfl rfl dX12_swap_17 k
set_option maxRecDepth 20000 in
theorem bX12_gift_0 {g : jG} {d : Nat} {hs : jH} {P : jO → jH → Prop} {x0 : Nat} {x1 : Int32} {x2 : Int32} {x3 : Int32} {h : jH} (k : ∃ fs1 : List Value, h.1 x0 = some (.inr (12, fs1)) ∧ 4 < fs1.length ∧ (∀ h4 : jH, h4 = jset h x0 (.inr (12, fs1.set 4 (.int 0))) → ∃ fs8 : List Value, h4.1 x0 = some (.inr (12, fs8)) ∧ Con g mX12_whyGift d [.ref x0, .long x1.toInt64, .long x2.toInt64, .long x3.toInt64] h4 (jPi (fun (r6 : Int32) (h7 : jH) => (r6 = 0 → ∃ fs12 : List Value, h7.1 x0 = some (.inr (12, fs12)) ∧ Con g mX12_keeps d [.ref x0] h7 (jPv (fun (h11 : jH) => ∃ fs16 : List Value, h11.1 x0 = some (.inr (12, fs16)) ∧ Con g mX12_gives d [.ref x0, .int x1, .int x2, .int x3] h11 (jPv (fun (h15 : jH) => ∃ fs18 : List Value, h15.1 x0 = some (.inr (12, fs18)) ∧ ∃ v21 : Nat, fs18[0]? = some (.ref v21) ∧ ∃ (n22 : Nat) (f23 : Nat → Int32), h15.1 v21 = some (.inl (0, (n22, .inl f23))) ∧ vp_in (22 + x1) n22 ∧ P (.inl (some (.int ((f23 ((22 + x1)).toNatClampNeg))))) h15) (fun E h' => P (.inr E) h'))) (fun E h' => P (.inr E) h'))) ∧ (¬ r6 = 0 → P (.inl (some (.int ((-r6))))) h7)) (fun E h' => P (.inr E) h')))) : J g mX12_gift (d + 1) hs P 0 [(0, .ref x0), (1, .int x1), (2, .int x2), (3, .int x3)] [] h := by
  refine jr_aload_n 0 dX12_gift_0 rfl rfl ?_
  refine jr_iconst (v := 0) dX12_gift_1 (by decide) ?_
  obtain ⟨fs1, e2, e3, k⟩ := k
  refine jr_putE jp_X12_67 dX12_gift_2 e2 e3 rfl rfl (fun h4 eh5 => ?_)
  have k := k h4 eh5
  refine jr_aload_n 0 dX12_gift_5 rfl rfl ?_
  refine jr_iload_n 1 dX12_gift_6 rfl rfl ?_
  refine jr_i2l dX12_gift_7 ?_
  refine jr_iload_n 2 dX12_gift_8 rfl rfl ?_
  refine jr_i2l dX12_gift_9 ?_
  refine jr_iload_n 3 dX12_gift_10 rfl rfl ?_
  refine jr_i2l dX12_gift_11 ?_
  obtain ⟨fs8, e9, k⟩ := k
  refine jr_cVi (As := [.long x1.toInt64, .long x2.toInt64, .long x3.toInt64]) jl_X12_338 km_X12_whyGift rfl rfl dX12_gift_12 e9 (Nat.le_of_ble_eq_true rfl) k (fun r6 h7 k => ?_)
  refine jr_istore (lv' := [(4, .int r6), (0, .ref x0), (1, .int x1), (2, .int x2), (3, .int x3)]) dX12_gift_15 (by decide) rfl ?_
  refine jr_iload 0 dX12_gift_17 rfl ?_
  refine jr_if_eq (tgt := 26) dX12_gift_19 (by decide) (fun c19 => ?_) (fun c19 => ?_)
  · have k := k.1 c19
    refine jr_aload_n 1 dX12_gift_26 rfl rfl ?_
    obtain ⟨fs12, e13, k⟩ := k
    refine jr_cVv (As := []) jl_X12_332 km_X12_keeps rfl rfl dX12_gift_27 e13 (Nat.le_of_ble_eq_true rfl) k (fun h11 k => ?_)
    refine jr_aload_n 1 dX12_gift_30 rfl rfl ?_
    refine jr_iload_n 2 dX12_gift_31 rfl rfl ?_
    refine jr_iload_n 3 dX12_gift_32 rfl rfl ?_
    refine jr_iload_n 4 dX12_gift_33 rfl rfl ?_
    obtain ⟨fs16, e17, k⟩ := k
    refine jr_cVv (As := [.int x1, .int x2, .int x3]) jl_X12_342 km_X12_gives rfl rfl dX12_gift_34 e17 (Nat.le_of_ble_eq_true rfl) k (fun h15 k => ?_)
    refine jr_aload_n 1 dX12_gift_37 rfl rfl ?_
    obtain ⟨fs18, e19, v21, e20, k⟩ := k
    refine jr_get jf_X12_9 dX12_gift_38 e19 e20 ?_
    refine jr_bipush (v := 22) dX12_gift_41 (by decide) ?_
    refine jr_iload_n 2 dX12_gift_43 rfl rfl ?_
    refine jr_iadd dX12_gift_44 ?_
    obtain ⟨n22, f23, e24, e25, k⟩ := k
    refine jr_iald dX12_gift_45 e24 e25 ?_
    exact jr_iret (ty := .int) rfl rfl dX12_gift_46 k
  · have k := k.2 c19
    refine jr_iload 0 dX12_gift_22 rfl ?_
    refine jr_ineg dX12_gift_24 ?_
    exact jr_iret (ty := .int) rfl rfl dX12_gift_25 k
set_option maxRecDepth 20000 in
theorem bX12_plant_0 {g : jG} {d : Nat} {hs : jH} {P : jO → jH → Prop} {x0 : Nat} {x1 : Int32} {x2 : Int32} {h : jH} (k : ∃ fs3 : List Value, h.1 x0 = some (.inr (12, fs3)) ∧ Con g mX12_isHouse d [.ref x0, .long x1.toInt64] h (jPi (fun (r1 : Int32) (h2 : jH) => (r1 = 0 → J g mX12_plant (d + 1) hs P 31 [(0, .ref x0), (1, .int x1), (2, .int x2)] [.int 1, .ref x0] h2) ∧ (¬ r1 = 0 → Con g mX12_within d [.long x2.toInt64, .long 0, .long 20] h2 (jPi (fun (r5 : Int32) (h6 : jH) => (r5 = 0 → J g mX12_plant (d + 1) hs P 31 [(0, .ref x0), (1, .int x1), (2, .int x2)] [.int 2, .ref x0] h6) ∧ (¬ r5 = 0 → J g mX12_plant (d + 1) hs P 31 [(0, .ref x0), (1, .int x1), (2, .int x2)] [.int 0, .ref x0] h6)) (fun E h' => P (.inr E) h')))) (fun E h' => P (.inr E) h'))) : J g mX12_plant (d + 1) hs P 0 [(0, .ref x0), (1, .int x1), (2, .int x2)] [] h := by
  refine jr_aload_n 0 dX12_plant_0 rfl rfl ?_
  refine jr_aload_n 0 dX12_plant_1 rfl rfl ?_
  refine jr_iload_n 1 dX12_plant_2 rfl rfl ?_
  refine jr_i2l dX12_plant_3 ?_
  obtain ⟨fs3, e4, k⟩ := k
  refine jr_cVi (As := [.long x1.toInt64]) jl_X12_313 km_X12_isHouse rfl rfl dX12_plant_4 e4 (Nat.le_of_ble_eq_true rfl) k (fun r1 h2 k => ?_)
  refine jr_if_ne (tgt := 14) dX12_plant_7 (by decide) (fun c7 => ?_) (fun c7 => ?_)
  · have k := k.2 c7
    refine jr_iload_n 2 dX12_plant_14 rfl rfl ?_
    refine jr_i2l dX12_plant_15 ?_
    refine jr_lconst (v := 0) dX12_plant_16 (by decide) ?_
    refine jr_ldc2 (v := 20) jk_X12_346 dX12_plant_17 ?_
    refine jr_cSi (As := [.long x2.toInt64, .long 0, .long 20]) jl_X12_128 km_X12_within rfl rfl dX12_plant_20 (Nat.le_of_ble_eq_true rfl) k (fun r5 h6 k => ?_)
    refine jr_if_eq (tgt := 30) dX12_plant_23 (by decide) (fun c23 => ?_) (fun c23 => ?_)
    · have k := k.1 c23
      refine jr_iconst (v := 2) dX12_plant_30 (by decide) ?_
      exact jr_sub [0, 1, 2] rfl k
    · have k := k.2 c23
      refine jr_iconst (v := 0) dX12_plant_26 (by decide) ?_
      refine jr_goto (tgt := 31) dX12_plant_27 (by decide) ?_
      exact jr_sub [0, 1, 2] rfl k
  · have k := k.1 c7
    refine jr_iconst (v := 1) dX12_plant_10 (by decide) ?_
    refine jr_goto (tgt := 31) dX12_plant_11 (by decide) ?_
    exact jr_sub [0, 1, 2] rfl k
set_option maxRecDepth 20000 in
theorem bX12_plant_31 {g : jG} {d : Nat} {hs : jH} {P : jO → jH → Prop} {x0 : Nat} {x1 : Int32} {x2 : Int32} {s0 : Nat} {s1 : Int32} {h : jH} (k : ∃ fs1 : List Value, h.1 s0 = some (.inr (12, fs1)) ∧ 4 < fs1.length ∧ (∀ h4 : jH, h4 = jset h s0 (.inr (12, fs1.set 4 (.int s1))) → ∃ fs6 : List Value, h4.1 x0 = some (.inr (12, fs6)) ∧ ∃ v9 : Int32, fs6[4]? = some (.int v9) ∧ (0 < v9 → P (.inl (some (.int 0))) h4) ∧ (¬ 0 < v9 → ∃ fs12 : List Value, h4.1 x0 = some (.inr (12, fs12)) ∧ Con g mX12_keeps d [.ref x0] h4 (jPv (fun (h11 : jH) => ∃ fs14 : List Value, h11.1 x0 = some (.inr (12, fs14)) ∧ ∃ v17 : Nat, fs14[0]? = some (.ref v17) ∧ ∃ (n18 : Nat) (f19 : Nat → Int32), h11.1 v17 = some (.inl (0, (n18, .inl f19))) ∧ vp_in (43 + x1) n18 ∧ ∃ fs22 : List Value, h11.1 x0 = some (.inr (12, fs22)) ∧ ∃ v25 : Nat, fs22[0]? = some (.ref v25) ∧ ∃ (n26 : Nat) (f27 : Nat → Int32), h11.1 v25 = some (.inl (0, (n26, .inl f27))) ∧ vp_in (43 + x1) n26 ∧ ∀ h30 : jH, h30 = jset h11 v25 (.inl (0, (n26, .inl (upd f27 ((43 + x1)).toNatClampNeg x2)))) → P (.inl (some (.int ((f19 ((43 + x1)).toNatClampNeg))))) h30) (fun E h' => P (.inr E) h'))))) : J g mX12_plant (d + 1) hs P 31 [(0, .ref x0), (1, .int x1), (2, .int x2)] [.int s1, .ref s0] h := by
  obtain ⟨fs1, e2, e3, k⟩ := k
  refine jr_putE jp_X12_67 dX12_plant_31 e2 e3 rfl rfl (fun h4 eh5 => ?_)
  have k := k h4 eh5
  refine jr_aload_n 0 dX12_plant_34 rfl rfl ?_
  obtain ⟨fs6, e7, v9, e8, k⟩ := k
  refine jr_get jf_X12_67 dX12_plant_35 e7 e8 ?_
  refine jr_if_le (tgt := 43) dX12_plant_38 (by decide) (fun c38 => ?_) (fun c38 => ?_)
  · have k := k.2 c38
    refine jr_aload_n 0 dX12_plant_43 rfl rfl ?_
    obtain ⟨fs12, e13, k⟩ := k
    refine jr_cVv (As := []) jl_X12_332 km_X12_keeps rfl rfl dX12_plant_44 e13 (Nat.le_of_ble_eq_true rfl) k (fun h11 k => ?_)
    refine jr_aload_n 0 dX12_plant_47 rfl rfl ?_
    obtain ⟨fs14, e15, v17, e16, k⟩ := k
    refine jr_get jf_X12_9 dX12_plant_48 e15 e16 ?_
    refine jr_bipush (v := 43) dX12_plant_51 (by decide) ?_
    refine jr_iload_n 1 dX12_plant_53 rfl rfl ?_
    refine jr_iadd dX12_plant_54 ?_
    obtain ⟨n18, f19, e20, e21, k⟩ := k
    refine jr_iald dX12_plant_55 e20 e21 ?_
    refine jr_istore_n (lv' := [(3, .int (f19 ((43 + x1)).toNatClampNeg)), (0, .ref x0), (1, .int x1), (2, .int x2)]) dX12_plant_56 rfl (by decide) rfl ?_
    refine jr_aload_n 1 dX12_plant_57 rfl rfl ?_
    obtain ⟨fs22, e23, v25, e24, k⟩ := k
    refine jr_get jf_X12_9 dX12_plant_58 e23 e24 ?_
    refine jr_bipush (v := 43) dX12_plant_61 (by decide) ?_
    refine jr_iload_n 2 dX12_plant_63 rfl rfl ?_
    refine jr_iadd dX12_plant_64 ?_
    refine jr_iload_n 3 dX12_plant_65 rfl rfl ?_
    obtain ⟨n26, f27, e28, e29, k⟩ := k
    refine jr_iastE dX12_plant_66 e28 e29 (fun h30 eh31 => ?_)
    have k := k h30 eh31
    refine jr_iload_n 0 dX12_plant_67 rfl rfl ?_
    exact jr_iret (ty := .int) rfl rfl dX12_plant_68 k
  · have k := k.1 c38
    refine jr_iconst (v := 0) dX12_plant_41 (by decide) ?_
    exact jr_iret (ty := .int) rfl rfl dX12_plant_42 k
set_option maxRecDepth 20000 in
theorem bX12_payOff_0 {g : jG} {d : Nat} {hs : jH} {P : jO → jH → Prop} {x0 : Nat} {x1 : Int32} {x2 : Int32} {h : jH} (k : ∃ fs1 : List Value, h.1 x0 = some (.inr (12, fs1)) ∧ 4 < fs1.length ∧ (∀ h4 : jH, h4 = jset h x0 (.inr (12, fs1.set 4 (.int 0))) → ∃ fs8 : List Value, h4.1 x0 = some (.inr (12, fs8)) ∧ Con g mX12_whyPay d [.ref x0, .long x1.toInt64, .long x2.toInt64] h4 (jPi (fun (r6 : Int32) (h7 : jH) => (r6 = 0 → ∃ fs12 : List Value, h7.1 x0 = some (.inr (12, fs12)) ∧ Con g mX12_keeps d [.ref x0] h7 (jPv (fun (h11 : jH) => ∃ fs16 : List Value, h11.1 x0 = some (.inr (12, fs16)) ∧ Con g mX12_paysOff d [.ref x0, .int x1, .int x2] h11 (jPi (fun (r14 : Int32) (h15 : jH) => P (.inl (some (.int r14))) h15) (fun E h' => P (.inr E) h'))) (fun E h' => P (.inr E) h'))) ∧ (¬ r6 = 0 → P (.inl (some (.int ((-r6))))) h7)) (fun E h' => P (.inr E) h')))) : J g mX12_payOff (d + 1) hs P 0 [(0, .ref x0), (1, .int x1), (2, .int x2)] [] h := by
  refine jr_aload_n 0 dX12_payOff_0 rfl rfl ?_
  refine jr_iconst (v := 0) dX12_payOff_1 (by decide) ?_
  obtain ⟨fs1, e2, e3, k⟩ := k
  refine jr_putE jp_X12_67 dX12_payOff_2 e2 e3 rfl rfl (fun h4 eh5 => ?_)
  have k := k h4 eh5
  refine jr_aload_n 0 dX12_payOff_5 rfl rfl ?_
  refine jr_iload_n 1 dX12_payOff_6 rfl rfl ?_
  refine jr_i2l dX12_payOff_7 ?_
  refine jr_iload_n 2 dX12_payOff_8 rfl rfl ?_
  refine jr_i2l dX12_payOff_9 ?_
  obtain ⟨fs8, e9, k⟩ := k
  refine jr_cVi (As := [.long x1.toInt64, .long x2.toInt64]) jl_X12_348 km_X12_whyPay rfl rfl dX12_payOff_10 e9 (Nat.le_of_ble_eq_true rfl) k (fun r6 h7 k => ?_)
  refine jr_istore_n (lv' := [(3, .int r6), (0, .ref x0), (1, .int x1), (2, .int x2)]) dX12_payOff_13 rfl (by decide) rfl ?_
  refine jr_iload_n 0 dX12_payOff_14 rfl rfl ?_
  refine jr_if_eq (tgt := 21) dX12_payOff_15 (by decide) (fun c15 => ?_) (fun c15 => ?_)
  · have k := k.1 c15
    refine jr_aload_n 1 dX12_payOff_21 rfl rfl ?_
    obtain ⟨fs12, e13, k⟩ := k
    refine jr_cVv (As := []) jl_X12_332 km_X12_keeps rfl rfl dX12_payOff_22 e13 (Nat.le_of_ble_eq_true rfl) k (fun h11 k => ?_)
    refine jr_aload_n 1 dX12_payOff_25 rfl rfl ?_
    refine jr_iload_n 2 dX12_payOff_26 rfl rfl ?_
    refine jr_iload_n 3 dX12_payOff_27 rfl rfl ?_
    obtain ⟨fs16, e17, k⟩ := k
    refine jr_cVi (As := [.int x1, .int x2]) jl_X12_351 km_X12_paysOff rfl rfl dX12_payOff_28 e17 (Nat.le_of_ble_eq_true rfl) k (fun r14 h15 k => ?_)
    exact jr_iret (ty := .int) rfl rfl dX12_payOff_31 k
  · have k := k.2 c15
    refine jr_iload_n 0 dX12_payOff_18 rfl rfl ?_
    refine jr_ineg dX12_payOff_19 ?_
    exact jr_iret (ty := .int) rfl rfl dX12_payOff_20 k
set_option maxRecDepth 20000 in
theorem bX12_quarters_0 {g : jG} {d : Nat} {hs : jH} {P : jO → jH → Prop} {x0 : Nat} {x1 : Int32} {h : jH} (k : ∃ fs1 : List Value, h.1 x0 = some (.inr (12, fs1)) ∧ 4 < fs1.length ∧ (∀ h4 : jH, h4 = jset h x0 (.inr (12, fs1.set 4 (.int 0))) → Con g mX12_within d [.long x1.toInt64, .long 1, .long 99] h4 (jPi (fun (r6 : Int32) (h7 : jH) => (r6 = 0 → ∃ fs14 : List Value, h7.1 x0 = some (.inr (12, fs14)) ∧ Con g mX12_fails d [.ref x0, .int 1] h7 (jPi (fun (r12 : Int32) (h13 : jH) => P (.inl (some (.int r12))) h13) (fun E h' => P (.inr E) h'))) ∧ (¬ r6 = 0 → ∃ fs10 : List Value, h7.1 x0 = some (.inr (12, fs10)) ∧ Con g mX12_keeps d [.ref x0] h7 (jPv (fun (h9 : jH) => J g mX12_quarters (d + 1) hs P 31 [(0, .ref x0), (1, .int x1), (2, .int 0), (3, .int 0)] [] h9) (fun E h' => P (.inr E) h')))) (fun E h' => P (.inr E) h')))) : J g mX12_quarters (d + 1) hs P 0 [(0, .ref x0), (1, .int x1)] [] h := by
  refine jr_aload_n 0 dX12_quarters_0 rfl rfl ?_
  refine jr_iconst (v := 0) dX12_quarters_1 (by decide) ?_
  obtain ⟨fs1, e2, e3, k⟩ := k
  refine jr_putE jp_X12_67 dX12_quarters_2 e2 e3 rfl rfl (fun h4 eh5 => ?_)
  have k := k h4 eh5
  refine jr_iload_n 1 dX12_quarters_5 rfl rfl ?_
  refine jr_i2l dX12_quarters_6 ?_
  refine jr_lconst (v := 1) dX12_quarters_7 (by decide) ?_
  refine jr_ldc2 (v := 99) jk_X12_354 dX12_quarters_8 ?_
  refine jr_cSi (As := [.long x1.toInt64, .long 1, .long 99]) jl_X12_128 km_X12_within rfl rfl dX12_quarters_11 (Nat.le_of_ble_eq_true rfl) k (fun r6 h7 k => ?_)
  refine jr_if_ne (tgt := 23) dX12_quarters_14 (by decide) (fun c14 => ?_) (fun c14 => ?_)
  · have k := k.2 c14
    refine jr_aload_n 0 dX12_quarters_23 rfl rfl ?_
    obtain ⟨fs10, e11, k⟩ := k
    refine jr_cVv (As := []) jl_X12_332 km_X12_keeps rfl rfl dX12_quarters_24 e11 (Nat.le_of_ble_eq_true rfl) k (fun h9 k => ?_)
    refine jr_iconst (v := 0) dX12_quarters_27 (by decide) ?_
    refine jr_istore_n (lv' := [(2, .int 0), (0, .ref x0), (1, .int x1)]) dX12_quarters_28 rfl (by decide) rfl ?_
    refine jr_iconst (v := 0) dX12_quarters_29 (by decide) ?_
    refine jr_istore_n (lv' := [(3, .int 0), (2, .int 0), (0, .ref x0), (1, .int x1)]) dX12_quarters_30 rfl (by decide) rfl ?_
    exact jr_sub [2, 3, 1, 0] rfl k
  · have k := k.1 c14
    refine jr_aload_n 0 dX12_quarters_17 rfl rfl ?_
    refine jr_iconst (v := 1) dX12_quarters_18 (by decide) ?_
    obtain ⟨fs14, e15, k⟩ := k
    refine jr_cVi (As := [.int 1]) jl_X12_234 km_X12_fails rfl rfl dX12_quarters_19 e15 (Nat.le_of_ble_eq_true rfl) k (fun r12 h13 k => ?_)
    exact jr_iret (ty := .int) rfl rfl dX12_quarters_22 k
set_option maxRecDepth 20000 in
theorem bX12_quarters_31 {g : jG} {d : Nat} {hs : jH} {P : jO → jH → Prop} {x0 : Nat} {x1 : Int32} {x2 : Int32} {x3 : Int32} {h : jH} (k : (x3 < x1 → ∃ fs3 : List Value, h.1 x0 = some (.inr (12, fs3)) ∧ Con g mX12_quarter d [.ref x0] h (jPv (fun (h2 : jH) => ∃ fs5 : List Value, h2.1 x0 = some (.inr (12, fs5)) ∧ ∃ v8 : Int32, fs5[24]? = some (.int v8) ∧ J g mX12_quarters (d + 1) hs P 31 [(0, .ref x0), (1, .int x1), (2, .int (x2 + v8)), (3, .int (x3 + 1))] [] h2) (fun E h' => P (.inr E) h'))) ∧ (¬ x3 < x1 → P (.inl (some (.int x2))) h)) : J g mX12_quarters (d + 1) hs P 31 [(0, .ref x0), (1, .int x1), (2, .int x2), (3, .int x3)] [] h := by
  refine jr_iload_n 3 dX12_quarters_31 rfl rfl ?_
  refine jr_iload_n 1 dX12_quarters_32 rfl rfl ?_
  refine jr_icmp_ge (tgt := 53) dX12_quarters_33 (by decide) (fun c33 => ?_) (fun c33 => ?_)
  · have k := k.2 c33
    refine jr_iload_n 2 dX12_quarters_53 rfl rfl ?_
    exact jr_iret (ty := .int) rfl rfl dX12_quarters_54 k
  · have k := k.1 c33
    refine jr_aload_n 0 dX12_quarters_36 rfl rfl ?_
    obtain ⟨fs3, e4, k⟩ := k
    refine jr_cVv (As := []) jl_X12_356 km_X12_quarter rfl rfl dX12_quarters_37 e4 (Nat.le_of_ble_eq_true rfl) k (fun h2 k => ?_)
    refine jr_iload_n 2 dX12_quarters_40 rfl rfl ?_
    refine jr_aload_n 0 dX12_quarters_41 rfl rfl ?_
    obtain ⟨fs5, e6, v8, e7, k⟩ := k
    refine jr_get jf_X12_288 dX12_quarters_42 e6 e7 ?_
    refine jr_iadd dX12_quarters_45 ?_
    refine jr_istore_n (lv' := [(2, .int (x2 + v8)), (0, .ref x0), (1, .int x1), (3, .int x3)]) dX12_quarters_46 rfl (by decide) rfl ?_
    refine jr_iinc (v := (x3 + 1)) (lv' := [(3, .int (x3 + 1)), (2, .int (x2 + v8)), (0, .ref x0), (1, .int x1)]) 3 dX12_quarters_47 rfl rfl (by decide) rfl ?_
    refine jr_goto (tgt := 31) dX12_quarters_50 (by decide) ?_
    exact jr_sub [2, 3, 1, 0] rfl k
set_option maxRecDepth 20000 in
theorem bX12_undo_0 {g : jG} {d : Nat} {hs : jH} {P : jO → jH → Prop} {x0 : Nat} {x1 : Int32} {h : jH} (k : ∃ fs1 : List Value, h.1 x0 = some (.inr (12, fs1)) ∧ 4 < fs1.length ∧ (∀ h4 : jH, h4 = jset h x0 (.inr (12, fs1.set 4 (.int 0))) → Con g mX12_within d [.long x1.toInt64, .long 1, .long 10] h4 (jPi (fun (r6 : Int32) (h7 : jH) => (r6 = 0 → J g mX12_undo (d + 1) hs P 28 [(0, .ref x0)] [] h7) ∧ (¬ r6 = 0 → ∃ fs8 : List Value, h7.1 x0 = some (.inr (12, fs8)) ∧ ∃ v11 : Nat, fs8[0]? = some (.ref v11) ∧ ∃ (n12 : Nat) (f13 : Nat → Int32), h7.1 v11 = some (.inl (0, (n12, .inl f13))) ∧ vp_in 7 n12 ∧ ((f13 ((7 : Int32)).toNatClampNeg) < x1 → J g mX12_undo (d + 1) hs P 28 [(0, .ref x0)] [] h7) ∧ (¬ (f13 ((7 : Int32)).toNatClampNeg) < x1 → ∃ fs16 : List Value, h7.1 x0 = some (.inr (12, fs16)) ∧ ∃ v19 : Nat, fs16[0]? = some (.ref v19) ∧ ∃ (n20 : Nat) (f21 : Nat → Int32), h7.1 v19 = some (.inl (0, (n20, .inl f21))) ∧ vp_in 7 n20 ∧ ∃ (n24 : Nat) (f25 : Nat → Int32), h7.1 v19 = some (.inl (0, (n24, .inl f25))) ∧ vp_in 7 n24 ∧ ∀ h28 : jH, h28 = jset h7 v19 (.inl (0, (n24, .inl (upd f25 ((7 : Int32)).toNatClampNeg (((f21 ((7 : Int32)).toNatClampNeg) - x1)))))) → J g mX12_undo (d + 1) hs P 47 [(0, .ref x0), (2, .int 0)] [] h28))) (fun E h' => P (.inr E) h')))) : J g mX12_undo (d + 1) hs P 0 [(0, .ref x0), (1, .int x1)] [] h := by
  refine jr_aload_n 0 dX12_undo_0 rfl rfl ?_
  refine jr_iconst (v := 0) dX12_undo_1 (by decide) ?_
  obtain ⟨fs1, e2, e3, k⟩ := k
  refine jr_putE jp_X12_67 dX12_undo_2 e2 e3 rfl rfl (fun h4 eh5 => ?_)
  have k := k h4 eh5
  refine jr_iload_n 1 dX12_undo_5 rfl rfl ?_
  refine jr_i2l dX12_undo_6 ?_
  refine jr_lconst (v := 1) dX12_undo_7 (by decide) ?_
  refine jr_ldc2 (v := 10) jk_X12_358 dX12_undo_8 ?_
  refine jr_cSi (As := [.long x1.toInt64, .long 1, .long 10]) jl_X12_128 km_X12_within rfl rfl dX12_undo_11 (Nat.le_of_ble_eq_true rfl) k (fun r6 h7 k => ?_)
  refine jr_if_eq (tgt := 28) dX12_undo_14 (by decide) (fun c14 => ?_) (fun c14 => ?_)
  · have k := k.1 c14
    exact jr_sub [0] rfl k
  · have k := k.2 c14
    refine jr_iload_n 1 dX12_undo_17 rfl rfl ?_
    refine jr_aload_n 0 dX12_undo_18 rfl rfl ?_
    obtain ⟨fs8, e9, v11, e10, k⟩ := k
    refine jr_get jf_X12_9 dX12_undo_19 e9 e10 ?_
    refine jr_bipush (v := 7) dX12_undo_22 (by decide) ?_
    obtain ⟨n12, f13, e14, e15, k⟩ := k
    refine jr_iald dX12_undo_24 e14 e15 ?_
    refine jr_icmp_le (tgt := 34) dX12_undo_25 (by decide) (fun c25 => ?_) (fun c25 => ?_)
    · have k := k.2 c25
      refine jr_aload_n 0 dX12_undo_34 rfl rfl ?_
      obtain ⟨fs16, e17, v19, e18, k⟩ := k
      refine jr_get jf_X12_9 dX12_undo_35 e17 e18 ?_
      refine jr_bipush (v := 7) dX12_undo_38 (by decide) ?_
      refine jr_dup2 dX12_undo_40 rfl rfl ?_
      obtain ⟨n20, f21, e22, e23, k⟩ := k
      refine jr_iald dX12_undo_41 e22 e23 ?_
      refine jr_iload_n 1 dX12_undo_42 rfl rfl ?_
      refine jr_isub dX12_undo_43 ?_
      obtain ⟨n24, f25, e26, e27, k⟩ := k
      refine jr_iastE dX12_undo_44 e26 e27 (fun h28 eh29 => ?_)
      have k := k h28 eh29
      refine jr_iconst (v := 0) dX12_undo_45 (by decide) ?_
      refine jr_istore_n (lv' := [(2, .int 0), (0, .ref x0), (1, .int x1)]) dX12_undo_46 rfl (by decide) rfl ?_
      exact jr_sub [1, 0] rfl k
    · have k := k.1 c25
      exact jr_sub [0] rfl k
set_option maxRecDepth 20000 in
theorem bX12_undo_28 {g : jG} {d : Nat} {hs : jH} {P : jO → jH → Prop} {x0 : Nat} {h : jH} (k : ∃ fs3 : List Value, h.1 x0 = some (.inr (12, fs3)) ∧ Con g mX12_fails d [.ref x0, .int 1] h (jPi (fun (r1 : Int32) (h2 : jH) => P (.inl (some (.int r1))) h2) (fun E h' => P (.inr E) h'))) : J g mX12_undo (d + 1) hs P 28 [(0, .ref x0)] [] h := by
  refine jr_aload_n 0 dX12_undo_28 rfl rfl ?_
  refine jr_iconst (v := 1) dX12_undo_29 (by decide) ?_
  obtain ⟨fs3, e4, k⟩ := k
  refine jr_cVi (As := [.int 1]) jl_X12_234 km_X12_fails rfl rfl dX12_undo_30 e4 (Nat.le_of_ble_eq_true rfl) k (fun r1 h2 k => ?_)
  exact jr_iret (ty := .int) rfl rfl dX12_undo_33 k
set_option maxRecDepth 20000 in
theorem bX12_undo_47 {g : jG} {d : Nat} {hs : jH} {P : jO → jH → Prop} {x0 : Nat} {x2 : Int32} {h : jH} (k : (x2 < 44 → ∃ fs9 : List Value, h.1 x0 = some (.inr (12, fs9)) ∧ ∃ v12 : Nat, fs9[0]? = some (.ref v12) ∧ ∃ fs13 : List Value, h.1 x0 = some (.inr (12, fs13)) ∧ ∃ v16 : Nat, fs13[0]? = some (.ref v16) ∧ ∃ fs17 : List Value, h.1 x0 = some (.inr (12, fs17)) ∧ ∃ v20 : Nat, fs17[0]? = some (.ref v20) ∧ ∃ (n21 : Nat) (f22 : Nat → Int32), h.1 v20 = some (.inl (0, (n21, .inl f22))) ∧ vp_in 7 n21 ∧ ∃ (n25 : Nat) (f26 : Nat → Int32), h.1 v16 = some (.inl (0, (n25, .inl f26))) ∧ vp_in ((96 + (44 * (f22 ((7 : Int32)).toNatClampNeg))) + x2) n25 ∧ ∃ (n29 : Nat) (f30 : Nat → Int32), h.1 v12 = some (.inl (0, (n29, .inl f30))) ∧ vp_in (8 + x2) n29 ∧ ∀ h33 : jH, h33 = jset h v12 (.inl (0, (n29, .inl (upd f30 ((8 + x2)).toNatClampNeg ((f26 (((96 + (44 * (f22 ((7 : Int32)).toNatClampNeg))) + x2)).toNatClampNeg)))))) → J g mX12_undo (d + 1) hs P 47 [(0, .ref x0), (2, .int (x2 + 1))] [] h33) ∧ (¬ x2 < 44 → ∃ fs1 : List Value, h.1 x0 = some (.inr (12, fs1)) ∧ ∃ v4 : Nat, fs1[0]? = some (.ref v4) ∧ ∃ (n5 : Nat) (f6 : Nat → Int32), h.1 v4 = some (.inl (0, (n5, .inl f6))) ∧ vp_in 7 n5 ∧ P (.inl (some (.int ((f6 ((7 : Int32)).toNatClampNeg))))) h)) : J g mX12_undo (d + 1) hs P 47 [(0, .ref x0), (2, .int x2)] [] h := by
  refine jr_iload_n 1 dX12_undo_47 rfl rfl ?_
  refine jr_bipush (v := 44) dX12_undo_48 (by decide) ?_
  refine jr_icmp_ge (tgt := 88) dX12_undo_50 (by decide) (fun c50 => ?_) (fun c50 => ?_)
  · have k := k.2 c50
    refine jr_aload_n 0 dX12_undo_88 rfl rfl ?_
    obtain ⟨fs1, e2, v4, e3, k⟩ := k
    refine jr_get jf_X12_9 dX12_undo_89 e2 e3 ?_
    refine jr_bipush (v := 7) dX12_undo_92 (by decide) ?_
    obtain ⟨n5, f6, e7, e8, k⟩ := k
    refine jr_iald dX12_undo_94 e7 e8 ?_
    exact jr_iret (ty := .int) rfl rfl dX12_undo_95 k
  · have k := k.1 c50
    refine jr_aload_n 0 dX12_undo_53 rfl rfl ?_
    obtain ⟨fs9, e10, v12, e11, k⟩ := k
    refine jr_get jf_X12_9 dX12_undo_54 e10 e11 ?_
    refine jr_bipush (v := 8) dX12_undo_57 (by decide) ?_
    refine jr_iload_n 1 dX12_undo_59 rfl rfl ?_
    refine jr_iadd dX12_undo_60 ?_
    refine jr_aload_n 0 dX12_undo_61 rfl rfl ?_
    obtain ⟨fs13, e14, v16, e15, k⟩ := k
    refine jr_get jf_X12_9 dX12_undo_62 e14 e15 ?_
    refine jr_bipush (v := 96) dX12_undo_65 (by decide) ?_
    refine jr_bipush (v := 44) dX12_undo_67 (by decide) ?_
    refine jr_aload_n 0 dX12_undo_69 rfl rfl ?_
    obtain ⟨fs17, e18, v20, e19, k⟩ := k
    refine jr_get jf_X12_9 dX12_undo_70 e18 e19 ?_
    refine jr_bipush (v := 7) dX12_undo_73 (by decide) ?_
    obtain ⟨n21, f22, e23, e24, k⟩ := k
    refine jr_iald dX12_undo_75 e23 e24 ?_
    refine jr_imul dX12_undo_76 ?_
    refine jr_iadd dX12_undo_77 ?_
    refine jr_iload_n 1 dX12_undo_78 rfl rfl ?_
    refine jr_iadd dX12_undo_79 ?_
    obtain ⟨n25, f26, e27, e28, k⟩ := k
    refine jr_iald dX12_undo_80 e27 e28 ?_
    obtain ⟨n29, f30, e31, e32, k⟩ := k
    refine jr_iastE dX12_undo_81 e31 e32 (fun h33 eh34 => ?_)
    have k := k h33 eh34
    refine jr_iinc (v := (x2 + 1)) (lv' := [(2, .int (x2 + 1)), (0, .ref x0)]) 1 dX12_undo_82 rfl rfl (by decide) rfl ?_
    refine jr_goto (tgt := 47) dX12_undo_85 (by decide) ?_
    exact jr_sub [1, 0] rfl k
set_option maxRecDepth 20000 in
theorem bX12_trayFault_0 {g : jG} {d : Nat} {hs : jH} {P : jO → jH → Prop} {x0 : Nat} {x1 : Int32} {h : jH} (k : Con g mX12_isTray d [.int x1] h (jPi (fun (r1 : Int32) (h2 : jH) => (r1 = 0 → P (.inl (some (.int 1))) h2) ∧ (¬ r1 = 0 → ∃ fs3 : List Value, h2.1 x0 = some (.inr (12, fs3)) ∧ ∃ v6 : Nat, fs3[35]? = some (.ref v6) ∧ ∃ (n7 : Nat) (f8 : Nat → Int32), h2.1 v6 = some (.inl (0, (n7, .inl f8))) ∧ vp_in x1 n7 ∧ ((f8 x1.toNatClampNeg) = (-1) → P (.inl (some (.int 2))) h2) ∧ (¬ (f8 x1.toNatClampNeg) = (-1) → P (.inl (some (.int 0))) h2))) (fun E h' => P (.inr E) h'))) : J g mX12_trayFault (d + 1) hs P 0 [(0, .ref x0), (1, .int x1)] [] h := by
  refine jr_iload_n 1 dX12_trayFault_0 rfl rfl ?_
  refine jr_cSi (As := [.int x1]) jl_X12_360 km_X12_isTray rfl rfl dX12_trayFault_1 (Nat.le_of_ble_eq_true rfl) k (fun r1 h2 k => ?_)
  refine jr_if_ne (tgt := 11) dX12_trayFault_4 (by decide) (fun c4 => ?_) (fun c4 => ?_)
  · have k := k.2 c4
    refine jr_aload_n 0 dX12_trayFault_11 rfl rfl ?_
    obtain ⟨fs3, e4, v6, e5, k⟩ := k
    refine jr_get jf_X12_57 dX12_trayFault_12 e4 e5 ?_
    refine jr_iload_n 1 dX12_trayFault_15 rfl rfl ?_
    obtain ⟨n7, f8, e9, e10, k⟩ := k
    refine jr_iald dX12_trayFault_16 e9 e10 ?_
    refine jr_iconst (v := (-1)) dX12_trayFault_17 (by decide) ?_
    refine jr_icmp_ne (tgt := 25) dX12_trayFault_18 (by decide) (fun c18 => ?_) (fun c18 => ?_)
    · have k := k.2 c18
      refine jr_iconst (v := 0) dX12_trayFault_25 (by decide) ?_
      exact jr_iret (ty := .int) rfl rfl dX12_trayFault_26 k
    · have k := k.1 c18
      refine jr_iconst (v := 2) dX12_trayFault_21 (by decide) ?_
      refine jr_goto (tgt := 26) dX12_trayFault_22 (by decide) ?_
      exact jr_iret (ty := .int) rfl rfl dX12_trayFault_26 k
  · have k := k.1 c4
    refine jr_iconst (v := 1) dX12_trayFault_7 (by decide) ?_
    refine jr_goto (tgt := 26) dX12_trayFault_8 (by decide) ?_
    exact jr_iret (ty := .int) rfl rfl dX12_trayFault_26 k
set_option maxRecDepth 20000 in
theorem bX12_whyTold_0 {g : jG} {d : Nat} {hs : jH} {P : jO → jH → Prop} {x0 : Nat} {x1 : Int64} {h : jH} (k : (x1 = (-1) → P (.inl (some (.int 0))) h) ∧ (¬ x1 = (-1) → Con g mX12_within d [.long x1, .long 0, .long 99] h (jPi (fun (r1 : Int32) (h2 : jH) => (r1 = 0 → Con g mX12_within d [.long x1, .long 100, .long 109] h2 (jPi (fun (r3 : Int32) (h4 : jH) => (r3 = 0 → Con g mX12_within d [.long x1, .long 200, .long 209] h4 (jPi (fun (r5 : Int32) (h6 : jH) => (r5 = 0 → Con g mX12_within d [.long x1, .long 300, .long 399] h6 (jPi (fun (r7 : Int32) (h8 : jH) => (r7 = 0 → P (.inl (some (.int 1))) h8) ∧ (¬ r7 = 0 → ∃ fs11 : List Value, h8.1 x0 = some (.inr (12, fs11)) ∧ Con g mX12_whyGift d [.ref x0, .long ((x1 - 300) / 10), .long (x1 - x1 / 10 * 10), .long 10] h8 (jPi (fun (r9 : Int32) (h10 : jH) => P (.inl (some (.int r9))) h10) (fun E h' => P (.inr E) h')))) (fun E h' => P (.inr E) h'))) ∧ (¬ r5 = 0 → ∃ fs15 : List Value, h6.1 x0 = some (.inr (12, fs15)) ∧ Con g mX12_whyPay d [.ref x0, .long (x1 - 200), .long 1] h6 (jPi (fun (r13 : Int32) (h14 : jH) => P (.inl (some (.int r13))) h14) (fun E h' => P (.inr E) h')))) (fun E h' => P (.inr E) h'))) ∧ (¬ r3 = 0 → ∃ fs19 : List Value, h4.1 x0 = some (.inr (12, fs19)) ∧ Con g mX12_isHouse d [.ref x0, .long (x1 - 100)] h4 (jPi (fun (r17 : Int32) (h18 : jH) => (r17 = 0 → P (.inl (some (.int 1))) h18) ∧ (¬ r17 = 0 → P (.inl (some (.int 0))) h18)) (fun E h' => P (.inr E) h')))) (fun E h' => P (.inr E) h'))) ∧ (¬ r1 = 0 → ∃ fs23 : List Value, h2.1 x0 = some (.inr (12, fs23)) ∧ Con g mX12_whyTwo d [.ref x0, .long (x1 / 10), .long (x1 - x1 / 10 * 10)] h2 (jPi (fun (r21 : Int32) (h22 : jH) => P (.inl (some (.int r21))) h22) (fun E h' => P (.inr E) h')))) (fun E h' => P (.inr E) h')))) : J g mX12_whyTold (d + 1) hs P 0 [(0, .ref x0), (1, .long x1)] [] h := by
  refine jr_lload_n 1 dX12_whyTold_0 rfl rfl ?_
  refine jr_ldc2 (v := (-1)) jk_X12_363 dX12_whyTold_1 ?_
  refine jr_lcmp_ne (tgt := 10) dX12_whyTold_4 dX12_whyTold_5 (by decide) (fun c4 => ?_) (fun c4 => ?_)
  · have k := k.2 c4
    refine jr_lload_n 1 dX12_whyTold_10 rfl rfl ?_
    refine jr_lconst (v := 0) dX12_whyTold_11 (by decide) ?_
    refine jr_ldc2 (v := 99) jk_X12_354 dX12_whyTold_12 ?_
    refine jr_cSi (As := [.long x1, .long 0, .long 99]) jl_X12_128 km_X12_within rfl rfl dX12_whyTold_15 (Nat.le_of_ble_eq_true rfl) k (fun r1 h2 k => ?_)
    refine jr_if_eq (tgt := 36) dX12_whyTold_18 (by decide) (fun c18 => ?_) (fun c18 => ?_)
    · have k := k.1 c18
      refine jr_lload_n 1 dX12_whyTold_36 rfl rfl ?_
      refine jr_ldc2 (v := 100) jk_X12_365 dX12_whyTold_37 ?_
      refine jr_ldc2 (v := 109) jk_X12_367 dX12_whyTold_40 ?_
      refine jr_cSi (As := [.long x1, .long 100, .long 109]) jl_X12_128 km_X12_within rfl rfl dX12_whyTold_43 (Nat.le_of_ble_eq_true rfl) k (fun r3 h4 k => ?_)
      refine jr_if_eq (tgt := 67) dX12_whyTold_46 (by decide) (fun c46 => ?_) (fun c46 => ?_)
      · have k := k.1 c46
        refine jr_lload_n 1 dX12_whyTold_67 rfl rfl ?_
        refine jr_ldc2 (v := 200) jk_X12_369 dX12_whyTold_68 ?_
        refine jr_ldc2 (v := 209) jk_X12_371 dX12_whyTold_71 ?_
        refine jr_cSi (As := [.long x1, .long 200, .long 209]) jl_X12_128 km_X12_within rfl rfl dX12_whyTold_74 (Nat.le_of_ble_eq_true rfl) k (fun r5 h6 k => ?_)
        refine jr_if_eq (tgt := 91) dX12_whyTold_77 (by decide) (fun c77 => ?_) (fun c77 => ?_)
        · have k := k.1 c77
          refine jr_lload_n 1 dX12_whyTold_91 rfl rfl ?_
          refine jr_ldc2 (v := 300) jk_X12_373 dX12_whyTold_92 ?_
          refine jr_ldc2 (v := 399) jk_X12_375 dX12_whyTold_95 ?_
          refine jr_cSi (As := [.long x1, .long 300, .long 399]) jl_X12_128 km_X12_within rfl rfl dX12_whyTold_98 (Nat.le_of_ble_eq_true rfl) k (fun r7 h8 k => ?_)
          refine jr_if_eq (tgt := 128) dX12_whyTold_101 (by decide) (fun c101 => ?_) (fun c101 => ?_)
          · have k := k.1 c101
            refine jr_iconst (v := 1) dX12_whyTold_128 (by decide) ?_
            exact jr_iret (ty := .int) rfl rfl dX12_whyTold_129 k
          · have k := k.2 c101
            refine jr_aload_n 0 dX12_whyTold_104 rfl rfl ?_
            refine jr_lload_n 1 dX12_whyTold_105 rfl rfl ?_
            refine jr_ldc2 (v := 300) jk_X12_373 dX12_whyTold_106 ?_
            refine jr_lsub dX12_whyTold_109 ?_
            refine jr_ldc2 (v := 10) jk_X12_358 dX12_whyTold_110 ?_
            refine jr_ldiv dX12_whyTold_113 (by decide) ?_
            refine jr_lload_n 1 dX12_whyTold_114 rfl rfl ?_
            refine jr_ldc2 (v := 10) jk_X12_358 dX12_whyTold_115 ?_
            refine jr_lrem dX12_whyTold_118 (by decide) ?_
            refine jr_ldc2 (v := 10) jk_X12_358 dX12_whyTold_119 ?_
            obtain ⟨fs11, e12, k⟩ := k
            refine jr_cVi (As := [.long ((x1 - 300) / 10), .long (x1 - x1 / 10 * 10), .long 10]) jl_X12_338 km_X12_whyGift rfl rfl dX12_whyTold_122 e12 (Nat.le_of_ble_eq_true rfl) k (fun r9 h10 k => ?_)
            refine jr_goto (tgt := 129) dX12_whyTold_125 (by decide) ?_
            exact jr_iret (ty := .int) rfl rfl dX12_whyTold_129 k
        · have k := k.2 c77
          refine jr_aload_n 0 dX12_whyTold_80 rfl rfl ?_
          refine jr_lload_n 1 dX12_whyTold_81 rfl rfl ?_
          refine jr_ldc2 (v := 200) jk_X12_369 dX12_whyTold_82 ?_
          refine jr_lsub dX12_whyTold_85 ?_
          refine jr_lconst (v := 1) dX12_whyTold_86 (by decide) ?_
          obtain ⟨fs15, e16, k⟩ := k
          refine jr_cVi (As := [.long (x1 - 200), .long 1]) jl_X12_348 km_X12_whyPay rfl rfl dX12_whyTold_87 e16 (Nat.le_of_ble_eq_true rfl) k (fun r13 h14 k => ?_)
          exact jr_iret (ty := .int) rfl rfl dX12_whyTold_90 k
      · have k := k.2 c46
        refine jr_aload_n 0 dX12_whyTold_49 rfl rfl ?_
        refine jr_lload_n 1 dX12_whyTold_50 rfl rfl ?_
        refine jr_ldc2 (v := 100) jk_X12_365 dX12_whyTold_51 ?_
        refine jr_lsub dX12_whyTold_54 ?_
        obtain ⟨fs19, e20, k⟩ := k
        refine jr_cVi (As := [.long (x1 - 100)]) jl_X12_313 km_X12_isHouse rfl rfl dX12_whyTold_55 e20 (Nat.le_of_ble_eq_true rfl) k (fun r17 h18 k => ?_)
        refine jr_if_eq (tgt := 65) dX12_whyTold_58 (by decide) (fun c58 => ?_) (fun c58 => ?_)
        · have k := k.1 c58
          refine jr_iconst (v := 1) dX12_whyTold_65 (by decide) ?_
          exact jr_iret (ty := .int) rfl rfl dX12_whyTold_66 k
        · have k := k.2 c58
          refine jr_iconst (v := 0) dX12_whyTold_61 (by decide) ?_
          refine jr_goto (tgt := 66) dX12_whyTold_62 (by decide) ?_
          exact jr_iret (ty := .int) rfl rfl dX12_whyTold_66 k
    · have k := k.2 c18
      refine jr_aload_n 0 dX12_whyTold_21 rfl rfl ?_
      refine jr_lload_n 1 dX12_whyTold_22 rfl rfl ?_
      refine jr_ldc2 (v := 10) jk_X12_358 dX12_whyTold_23 ?_
      refine jr_ldiv dX12_whyTold_26 (by decide) ?_
      refine jr_lload_n 1 dX12_whyTold_27 rfl rfl ?_
      refine jr_ldc2 (v := 10) jk_X12_358 dX12_whyTold_28 ?_
      refine jr_lrem dX12_whyTold_31 (by decide) ?_
      obtain ⟨fs23, e24, k⟩ := k
      refine jr_cVi (As := [.long (x1 / 10), .long (x1 - x1 / 10 * 10)]) jl_X12_323 km_X12_whyTwo rfl rfl dX12_whyTold_32 e24 (Nat.le_of_ble_eq_true rfl) k (fun r21 h22 k => ?_)
      exact jr_iret (ty := .int) rfl rfl dX12_whyTold_35 k
  · have k := k.1 c4
    refine jr_iconst (v := 0) dX12_whyTold_8 (by decide) ?_
    exact jr_iret (ty := .int) rfl rfl dX12_whyTold_9 k
set_option maxRecDepth 20000 in
theorem bX12_does_0 {g : jG} {d : Nat} {hs : jH} {P : jO → jH → Prop} {x0 : Nat} {x1 : Int32} {h : jH} (k : (x1 = (-1) → ∃ fs25 : List Value, h.1 x0 = some (.inr (12, fs25)) ∧ Con g mX12_quarter d [.ref x0] h (jPv (fun (h24 : jH) => P (.inl none) h24) (fun E h' => P (.inr E) h'))) ∧ (¬ x1 = (-1) → (x1 < 100 → ∃ fs21 : List Value, h.1 x0 = some (.inr (12, fs21)) ∧ Con g mX12_swaps d [.ref x0, .int (x1 / 10), .int (x1 - x1 / 10 * 10)] h (jPv (fun (h20 : jH) => P (.inl none) h20) (fun E h' => P (.inr E) h'))) ∧ (¬ x1 < 100 → (x1 < 200 → ∃ fs9 : List Value, h.1 x0 = some (.inr (12, fs9)) ∧ ∃ v12 : Nat, fs9[0]? = some (.ref v12) ∧ ∃ (n13 : Nat) (f14 : Nat → Int32), h.1 v12 = some (.inl (0, (n13, .inl f14))) ∧ vp_in ((43 + x1) - 100) n13 ∧ ∀ h17 : jH, h17 = jset h v12 (.inl (0, (n13, .inl (upd f14 (((43 + x1) - 100)).toNatClampNeg 4)))) → P (.inl none) h17) ∧ (¬ x1 < 200 → (x1 < 300 → ∃ fs7 : List Value, h.1 x0 = some (.inr (12, fs7)) ∧ Con g mX12_paysOff d [.ref x0, .int (x1 - 200), .int 999999] h (jPi (fun (r5 : Int32) (h6 : jH) => P (.inl none) h6) (fun E h' => P (.inr E) h'))) ∧ (¬ x1 < 300 → ∃ fs3 : List Value, h.1 x0 = some (.inr (12, fs3)) ∧ Con g mX12_gives d [.ref x0, .int ((x1 - 300) / 10), .int (x1 - x1 / 10 * 10), .int 10] h (jPv (fun (h2 : jH) => P (.inl none) h2) (fun E h' => P (.inr E) h'))))))) : J g mX12_does (d + 1) hs P 0 [(0, .ref x0), (1, .int x1)] [] h := by
  refine jr_iload_n 1 dX12_does_0 rfl rfl ?_
  refine jr_iconst (v := (-1)) dX12_does_1 (by decide) ?_
  refine jr_icmp_ne (tgt := 12) dX12_does_2 (by decide) (fun c2 => ?_) (fun c2 => ?_)
  · have k := k.2 c2
    refine jr_iload_n 1 dX12_does_12 rfl rfl ?_
    refine jr_bipush (v := 100) dX12_does_13 (by decide) ?_
    refine jr_icmp_ge (tgt := 33) dX12_does_15 (by decide) (fun c15 => ?_) (fun c15 => ?_)
    · have k := k.2 c15
      refine jr_iload_n 1 dX12_does_33 rfl rfl ?_
      refine jr_sipush (v := 200) dX12_does_34 (by decide) ?_
      refine jr_icmp_ge (tgt := 56) dX12_does_37 (by decide) (fun c37 => ?_) (fun c37 => ?_)
      · have k := k.2 c37
        refine jr_iload_n 1 dX12_does_56 rfl rfl ?_
        refine jr_sipush (v := 300) dX12_does_57 (by decide) ?_
        refine jr_icmp_ge (tgt := 79) dX12_does_60 (by decide) (fun c60 => ?_) (fun c60 => ?_)
        · have k := k.2 c60
          refine jr_aload_n 0 dX12_does_79 rfl rfl ?_
          refine jr_iload_n 1 dX12_does_80 rfl rfl ?_
          refine jr_sipush (v := 300) dX12_does_81 (by decide) ?_
          refine jr_isub dX12_does_84 ?_
          refine jr_bipush (v := 10) dX12_does_85 (by decide) ?_
          refine jr_idiv dX12_does_87 (by decide) ?_
          refine jr_iload_n 1 dX12_does_88 rfl rfl ?_
          refine jr_bipush (v := 10) dX12_does_89 (by decide) ?_
          refine jr_irem dX12_does_91 (by decide) ?_
          refine jr_bipush (v := 10) dX12_does_92 (by decide) ?_
          obtain ⟨fs3, e4, k⟩ := k
          refine jr_cVv (As := [.int ((x1 - 300) / 10), .int (x1 - x1 / 10 * 10), .int 10]) jl_X12_342 km_X12_gives rfl rfl dX12_does_94 e4 (Nat.le_of_ble_eq_true rfl) k (fun h2 k => ?_)
          exact jr_vret rfl dX12_does_97 k
        · have k := k.1 c60
          refine jr_aload_n 0 dX12_does_63 rfl rfl ?_
          refine jr_iload_n 1 dX12_does_64 rfl rfl ?_
          refine jr_sipush (v := 200) dX12_does_65 (by decide) ?_
          refine jr_isub dX12_does_68 ?_
          refine jr_ldcw (v := 999999) jk_X12_278 dX12_does_69 ?_
          obtain ⟨fs7, e8, k⟩ := k
          refine jr_cVi (As := [.int (x1 - 200), .int 999999]) jl_X12_351 km_X12_paysOff rfl rfl dX12_does_72 e8 (Nat.le_of_ble_eq_true rfl) k (fun r5 h6 k => ?_)
          refine jr_pop dX12_does_75 rfl ?_
          refine jr_goto (tgt := 97) dX12_does_76 (by decide) ?_
          exact jr_vret rfl dX12_does_97 k
      · have k := k.1 c37
        refine jr_aload_n 0 dX12_does_40 rfl rfl ?_
        obtain ⟨fs9, e10, v12, e11, k⟩ := k
        refine jr_get jf_X12_9 dX12_does_41 e10 e11 ?_
        refine jr_bipush (v := 43) dX12_does_44 (by decide) ?_
        refine jr_iload_n 1 dX12_does_46 rfl rfl ?_
        refine jr_iadd dX12_does_47 ?_
        refine jr_bipush (v := 100) dX12_does_48 (by decide) ?_
        refine jr_isub dX12_does_50 ?_
        refine jr_iconst (v := 4) dX12_does_51 (by decide) ?_
        obtain ⟨n13, f14, e15, e16, k⟩ := k
        refine jr_iastE dX12_does_52 e15 e16 (fun h17 eh18 => ?_)
        have k := k h17 eh18
        refine jr_goto (tgt := 97) dX12_does_53 (by decide) ?_
        exact jr_vret rfl dX12_does_97 k
    · have k := k.1 c15
      refine jr_aload_n 0 dX12_does_18 rfl rfl ?_
      refine jr_iload_n 1 dX12_does_19 rfl rfl ?_
      refine jr_bipush (v := 10) dX12_does_20 (by decide) ?_
      refine jr_idiv dX12_does_22 (by decide) ?_
      refine jr_iload_n 1 dX12_does_23 rfl rfl ?_
      refine jr_bipush (v := 10) dX12_does_24 (by decide) ?_
      refine jr_irem dX12_does_26 (by decide) ?_
      obtain ⟨fs21, e22, k⟩ := k
      refine jr_cVv (As := [.int (x1 / 10), .int (x1 - x1 / 10 * 10)]) jl_X12_335 km_X12_swaps rfl rfl dX12_does_27 e22 (Nat.le_of_ble_eq_true rfl) k (fun h20 k => ?_)
      refine jr_goto (tgt := 97) dX12_does_30 (by decide) ?_
      exact jr_vret rfl dX12_does_97 k
  · have k := k.1 c2
    refine jr_aload_n 0 dX12_does_5 rfl rfl ?_
    obtain ⟨fs25, e26, k⟩ := k
    refine jr_cVv (As := []) jl_X12_356 km_X12_quarter rfl rfl dX12_does_6 e26 (Nat.le_of_ble_eq_true rfl) k (fun h24 k => ?_)
    refine jr_goto (tgt := 97) dX12_does_9 (by decide) ?_
    exact jr_vret rfl dX12_does_97 k
set_option maxRecDepth 20000 in
theorem bX12_sumOf_0 {g : jG} {d : Nat} {hs : jH} {P : jO → jH → Prop} {x0 : Nat} {x1 : Int32} {h : jH} (k : J g mX12_sumOf (d + 1) hs P 4 [(0, .ref x0), (1, .int x1), (2, .int 0), (3, .int 0)] [] h) : J g mX12_sumOf (d + 1) hs P 0 [(0, .ref x0), (1, .int x1)] [] h := by
  refine jr_iconst (v := 0) dX12_sumOf_0 (by decide) ?_
  refine jr_istore_n (lv' := [(2, .int 0), (0, .ref x0), (1, .int x1)]) dX12_sumOf_1 rfl (by decide) rfl ?_
  refine jr_iconst (v := 0) dX12_sumOf_2 (by decide) ?_
  refine jr_istore_n (lv' := [(3, .int 0), (2, .int 0), (0, .ref x0), (1, .int x1)]) dX12_sumOf_3 rfl (by decide) rfl ?_
  exact jr_sub [2, 3, 1, 0] rfl k
set_option maxRecDepth 20000 in
theorem bX12_sumOf_4 {g : jG} {d : Nat} {hs : jH} {P : jO → jH → Prop} {x0 : Nat} {x1 : Int32} {x2 : Int32} {x3 : Int32} {h : jH} (k : ∃ fs3 : List Value, h.1 x0 = some (.inr (12, fs3)) ∧ Con g mX12_houses d [.ref x0] h (jPi (fun (r1 : Int32) (h2 : jH) => (x3 < r1 → ∃ fs5 : List Value, h2.1 x0 = some (.inr (12, fs5)) ∧ ∃ v8 : Nat, fs5[0]? = some (.ref v8) ∧ ∃ (n9 : Nat) (f10 : Nat → Int32), h2.1 v8 = some (.inl (0, (n9, .inl f10))) ∧ vp_in (x1 + x3) n9 ∧ J g mX12_sumOf (d + 1) hs P 4 [(0, .ref x0), (1, .int x1), (2, .int (x2 + (f10 ((x1 + x3)).toNatClampNeg))), (3, .int (x3 + 1))] [] h2) ∧ (¬ x3 < r1 → P (.inl (some (.int x2))) h2)) (fun E h' => P (.inr E) h'))) : J g mX12_sumOf (d + 1) hs P 4 [(0, .ref x0), (1, .int x1), (2, .int x2), (3, .int x3)] [] h := by
  refine jr_iload_n 3 dX12_sumOf_4 rfl rfl ?_
  refine jr_aload_n 0 dX12_sumOf_5 rfl rfl ?_
  obtain ⟨fs3, e4, k⟩ := k
  refine jr_cVi (As := []) jl_X12_249 km_X12_houses rfl rfl dX12_sumOf_6 e4 (Nat.le_of_ble_eq_true rfl) k (fun r1 h2 k => ?_)
  refine jr_icmp_ge (tgt := 29) dX12_sumOf_9 (by decide) (fun c9 => ?_) (fun c9 => ?_)
  · have k := k.2 c9
    refine jr_iload_n 2 dX12_sumOf_29 rfl rfl ?_
    exact jr_iret (ty := .int) rfl rfl dX12_sumOf_30 k
  · have k := k.1 c9
    refine jr_iload_n 2 dX12_sumOf_12 rfl rfl ?_
    refine jr_aload_n 0 dX12_sumOf_13 rfl rfl ?_
    obtain ⟨fs5, e6, v8, e7, k⟩ := k
    refine jr_get jf_X12_9 dX12_sumOf_14 e6 e7 ?_
    refine jr_iload_n 1 dX12_sumOf_17 rfl rfl ?_
    refine jr_iload_n 3 dX12_sumOf_18 rfl rfl ?_
    refine jr_iadd dX12_sumOf_19 ?_
    obtain ⟨n9, f10, e11, e12, k⟩ := k
    refine jr_iald dX12_sumOf_20 e11 e12 ?_
    refine jr_iadd dX12_sumOf_21 ?_
    refine jr_istore_n (lv' := [(2, .int (x2 + (f10 ((x1 + x3)).toNatClampNeg))), (0, .ref x0), (1, .int x1), (3, .int x3)]) dX12_sumOf_22 rfl (by decide) rfl ?_
    refine jr_iinc (v := (x3 + 1)) (lv' := [(3, .int (x3 + 1)), (2, .int (x2 + (f10 ((x1 + x3)).toNatClampNeg))), (0, .ref x0), (1, .int x1)]) 3 dX12_sumOf_23 rfl rfl (by decide) rfl ?_
    refine jr_goto (tgt := 4) dX12_sumOf_26 (by decide) ?_
    exact jr_sub [2, 3, 1, 0] rfl k
set_option maxRecDepth 20000 in
theorem bX12_judge_0 {g : jG} {d : Nat} {hs : jH} {P : jO → jH → Prop} {x0 : Nat} {x1 : Int32} {x2 : Int32} {h : jH} (k : ∃ fs3 : List Value, h.1 x0 = some (.inr (12, fs3)) ∧ Con g mX12_trayFault d [.ref x0, .int x1] h (jPi (fun (r1 : Int32) (h2 : jH) => ∃ fs5 : List Value, h2.1 x0 = some (.inr (12, fs5)) ∧ 4 < fs5.length ∧ (∀ h8 : jH, h8 = jset h2 x0 (.inr (12, fs5.set 4 (.int r1))) → ∃ fs10 : List Value, h8.1 x0 = some (.inr (12, fs10)) ∧ ∃ v13 : Int32, fs10[4]? = some (.int v13) ∧ (v13 = 0 → Con g mX12_within d [.long x2.toInt64, .long 0, .long 3] h8 (jPi (fun (r14 : Int32) (h15 : jH) => (r14 = 0 → ∃ fs16 : List Value, h15.1 x0 = some (.inr (12, fs16)) ∧ 4 < fs16.length ∧ (∀ h19 : jH, h19 = jset h15 x0 (.inr (12, fs16.set 4 (.int 3))) → J g mX12_judge (d + 1) hs P 33 [(0, .ref x0), (1, .int x1), (2, .int x2)] [] h19)) ∧ (¬ r14 = 0 → J g mX12_judge (d + 1) hs P 33 [(0, .ref x0), (1, .int x1), (2, .int x2)] [] h15)) (fun E h' => P (.inr E) h'))) ∧ (¬ v13 = 0 → J g mX12_judge (d + 1) hs P 33 [(0, .ref x0), (1, .int x1), (2, .int x2)] [] h8))) (fun E h' => P (.inr E) h'))) : J g mX12_judge (d + 1) hs P 0 [(0, .ref x0), (1, .int x1), (2, .int x2)] [] h := by
  refine jr_aload_n 0 dX12_judge_0 rfl rfl ?_
  refine jr_aload_n 0 dX12_judge_1 rfl rfl ?_
  refine jr_iload_n 1 dX12_judge_2 rfl rfl ?_
  obtain ⟨fs3, e4, k⟩ := k
  refine jr_cVi (As := [.int x1]) jl_X12_377 km_X12_trayFault rfl rfl dX12_judge_3 e4 (Nat.le_of_ble_eq_true rfl) k (fun r1 h2 k => ?_)
  obtain ⟨fs5, e6, e7, k⟩ := k
  refine jr_putE jp_X12_67 dX12_judge_6 e6 e7 rfl rfl (fun h8 eh9 => ?_)
  have k := k h8 eh9
  refine jr_aload_n 0 dX12_judge_9 rfl rfl ?_
  obtain ⟨fs10, e11, v13, e12, k⟩ := k
  refine jr_get jf_X12_67 dX12_judge_10 e11 e12 ?_
  refine jr_if_ne (tgt := 33) dX12_judge_13 (by decide) (fun c13 => ?_) (fun c13 => ?_)
  · have k := k.2 c13
    exact jr_sub [0, 1, 2] rfl k
  · have k := k.1 c13
    refine jr_iload_n 2 dX12_judge_16 rfl rfl ?_
    refine jr_i2l dX12_judge_17 ?_
    refine jr_lconst (v := 0) dX12_judge_18 (by decide) ?_
    refine jr_ldc2 (v := 3) jk_X12_319 dX12_judge_19 ?_
    refine jr_cSi (As := [.long x2.toInt64, .long 0, .long 3]) jl_X12_128 km_X12_within rfl rfl dX12_judge_22 (Nat.le_of_ble_eq_true rfl) k (fun r14 h15 k => ?_)
    refine jr_if_ne (tgt := 33) dX12_judge_25 (by decide) (fun c25 => ?_) (fun c25 => ?_)
    · have k := k.2 c25
      exact jr_sub [0, 1, 2] rfl k
    · have k := k.1 c25
      refine jr_aload_n 0 dX12_judge_28 rfl rfl ?_
      refine jr_iconst (v := 3) dX12_judge_29 (by decide) ?_
      obtain ⟨fs16, e17, e18, k⟩ := k
      refine jr_putE jp_X12_67 dX12_judge_30 e17 e18 rfl rfl (fun h19 eh20 => ?_)
      have k := k h19 eh20
      exact jr_sub [0, 1, 2] rfl k
set_option maxRecDepth 20000 in
theorem bX12_judge_33 {g : jG} {d : Nat} {hs : jH} {P : jO → jH → Prop} {x0 : Nat} {x1 : Int32} {x2 : Int32} {h : jH} (k : ∃ fs1 : List Value, h.1 x0 = some (.inr (12, fs1)) ∧ ∃ v4 : Int32, fs1[4]? = some (.int v4) ∧ (0 < v4 → P (.inl (some (.int 0))) h) ∧ (¬ 0 < v4 → ∃ fs7 : List Value, h.1 x0 = some (.inr (12, fs7)) ∧ Con g mX12_putsAside d [.ref x0] h (jPv (fun (h6 : jH) => J g mX12_judge (d + 1) hs P 54 [(0, .ref x0), (1, .int x1), (2, .int x2), (3, .int (-1)), (4, .int 0), (5, .int 0)] [] h6) (fun E h' => P (.inr E) h')))) : J g mX12_judge (d + 1) hs P 33 [(0, .ref x0), (1, .int x1), (2, .int x2)] [] h := by
  refine jr_aload_n 0 dX12_judge_33 rfl rfl ?_
  obtain ⟨fs1, e2, v4, e3, k⟩ := k
  refine jr_get jf_X12_67 dX12_judge_34 e2 e3 ?_
  refine jr_if_le (tgt := 42) dX12_judge_37 (by decide) (fun c37 => ?_) (fun c37 => ?_)
  · have k := k.2 c37
    refine jr_aload_n 0 dX12_judge_42 rfl rfl ?_
    obtain ⟨fs7, e8, k⟩ := k
    refine jr_cVv (As := []) jl_X12_380 km_X12_putsAside rfl rfl dX12_judge_43 e8 (Nat.le_of_ble_eq_true rfl) k (fun h6 k => ?_)
    refine jr_iconst (v := (-1)) dX12_judge_46 (by decide) ?_
    refine jr_istore_n (lv' := [(3, .int (-1)), (0, .ref x0), (1, .int x1), (2, .int x2)]) dX12_judge_47 rfl (by decide) rfl ?_
    refine jr_iconst (v := 0) dX12_judge_48 (by decide) ?_
    refine jr_istore (lv' := [(4, .int 0), (3, .int (-1)), (0, .ref x0), (1, .int x1), (2, .int x2)]) dX12_judge_49 (by decide) rfl ?_
    refine jr_iconst (v := 0) dX12_judge_51 (by decide) ?_
    refine jr_istore (lv' := [(5, .int 0), (4, .int 0), (3, .int (-1)), (0, .ref x0), (1, .int x1), (2, .int x2)]) dX12_judge_52 (by decide) rfl ?_
    exact jr_sub [3, 4, 5, 2, 1, 0] rfl k
  · have k := k.1 c37
    refine jr_iconst (v := 0) dX12_judge_40 (by decide) ?_
    exact jr_iret (ty := .int) rfl rfl dX12_judge_41 k
set_option maxRecDepth 20000 in
theorem bX12_judge_54 {g : jG} {d : Nat} {hs : jH} {P : jO → jH → Prop} {x0 : Nat} {x1 : Int32} {x2 : Int32} {x3 : Int32} {x4 : Int32} {x5 : Int32} {h : jH} (k : ∃ fs1 : List Value, h.1 x0 = some (.inr (12, fs1)) ∧ ∃ v4 : Nat, fs1[36]? = some (.ref v4) ∧ ∃ (n5 : Nat) (f6 : Nat → Int32), h.1 v4 = some (.inl (0, (n5, .inl f6))) ∧ vp_in x1 n5 ∧ (x5 < (f6 x1.toNatClampNeg) → (x3 = (-1) → ∃ fs9 : List Value, h.1 x0 = some (.inr (12, fs9)) ∧ ∃ v12 : Nat, fs9[37]? = some (.ref v12) ∧ ∃ (n13 : Nat) (f14 : Nat → Int64), h.1 v12 = some (.inl (3, (n13, .inr (.inl f14)))) ∧ vp_in ((30 * x1) + x5) n13 ∧ ∃ fs19 : List Value, h.1 x0 = some (.inr (12, fs19)) ∧ Con g mX12_whyTold d [.ref x0, .long (f14 (((30 * x1) + x5)).toNatClampNeg)] h (jPi (fun (r17 : Int32) (h18 : jH) => (r17 = 0 → ∃ fs21 : List Value, h18.1 x0 = some (.inr (12, fs21)) ∧ ∃ v24 : Nat, fs21[37]? = some (.ref v24) ∧ ∃ (n25 : Nat) (f26 : Nat → Int64), h18.1 v24 = some (.inl (3, (n25, .inr (.inl f26)))) ∧ vp_in ((30 * x1) + x5) n25 ∧ ∃ fs31 : List Value, h18.1 x0 = some (.inr (12, fs31)) ∧ Con g mX12_does d [.ref x0, .int ((f26 (((30 * x1) + x5)).toNatClampNeg)).toInt32] h18 (jPv (fun (h30 : jH) => J g mX12_judge (d + 1) hs P 54 [(0, .ref x0), (1, .int x1), (2, .int x2), (3, .int x3), (4, .int r17), (5, .int (x5 + 1))] [] h30) (fun E h' => P (.inr E) h'))) ∧ (¬ r17 = 0 → J g mX12_judge (d + 1) hs P 54 [(0, .ref x0), (1, .int x1), (2, .int x2), (3, .int x5), (4, .int r17), (5, .int (x5 + 1))] [] h18)) (fun E h' => P (.inr E) h'))) ∧ (¬ x3 = (-1) → J g mX12_judge (d + 1) hs P 122 [(0, .ref x0), (2, .int x2), (3, .int x3), (4, .int x4)] [] h)) ∧ (¬ x5 < (f6 x1.toNatClampNeg) → J g mX12_judge (d + 1) hs P 122 [(0, .ref x0), (2, .int x2), (3, .int x3), (4, .int x4)] [] h)) : J g mX12_judge (d + 1) hs P 54 [(0, .ref x0), (1, .int x1), (2, .int x2), (3, .int x3), (4, .int x4), (5, .int x5)] [] h := by
  refine jr_iload 5 dX12_judge_54 rfl ?_
  refine jr_aload_n 0 dX12_judge_56 rfl rfl ?_
  obtain ⟨fs1, e2, v4, e3, k⟩ := k
  refine jr_get jf_X12_60 dX12_judge_57 e2 e3 ?_
  refine jr_iload_n 1 dX12_judge_60 rfl rfl ?_
  obtain ⟨n5, f6, e7, e8, k⟩ := k
  refine jr_iald dX12_judge_61 e7 e8 ?_
  refine jr_icmp_ge (tgt := 122) dX12_judge_62 (by decide) (fun c62 => ?_) (fun c62 => ?_)
  · have k := k.2 c62
    exact jr_sub [0, 2, 3, 4] rfl k
  · have k := k.1 c62
    refine jr_iload_n 3 dX12_judge_65 rfl rfl ?_
    refine jr_iconst (v := (-1)) dX12_judge_66 (by decide) ?_
    refine jr_icmp_ne (tgt := 122) dX12_judge_67 (by decide) (fun c67 => ?_) (fun c67 => ?_)
    · have k := k.2 c67
      exact jr_sub [0, 2, 3, 4] rfl k
    · have k := k.1 c67
      refine jr_aload_n 0 dX12_judge_70 rfl rfl ?_
      refine jr_aload_n 0 dX12_judge_71 rfl rfl ?_
      obtain ⟨fs9, e10, v12, e11, k⟩ := k
      refine jr_get jf_X12_63 dX12_judge_72 e10 e11 ?_
      refine jr_bipush (v := 30) dX12_judge_75 (by decide) ?_
      refine jr_iload_n 1 dX12_judge_77 rfl rfl ?_
      refine jr_imul dX12_judge_78 ?_
      refine jr_iload 5 dX12_judge_79 rfl ?_
      refine jr_iadd dX12_judge_81 ?_
      obtain ⟨n13, f14, e15, e16, k⟩ := k
      refine jr_lald dX12_judge_82 e15 e16 ?_
      obtain ⟨fs19, e20, k⟩ := k
      refine jr_cVi (As := [.long (f14 (((30 * x1) + x5)).toNatClampNeg)]) jl_X12_383 km_X12_whyTold rfl rfl dX12_judge_83 e20 (Nat.le_of_ble_eq_true rfl) k (fun r17 h18 k => ?_)
      refine jr_istore (lv' := [(4, .int r17), (0, .ref x0), (1, .int x1), (2, .int x2), (3, .int x3), (5, .int x5)]) dX12_judge_86 (by decide) rfl ?_
      refine jr_iload 0 dX12_judge_88 rfl ?_
      refine jr_if_ne (tgt := 113) dX12_judge_90 (by decide) (fun c90 => ?_) (fun c90 => ?_)
      · have k := k.2 c90
        refine jr_iload 5 dX12_judge_113 rfl ?_
        refine jr_istore_n (lv' := [(3, .int x5), (4, .int r17), (0, .ref x0), (1, .int x1), (2, .int x2), (5, .int x5)]) dX12_judge_115 rfl (by decide) rfl ?_
        refine jr_iinc (v := (x5 + 1)) (lv' := [(5, .int (x5 + 1)), (3, .int x5), (4, .int r17), (0, .ref x0), (1, .int x1), (2, .int x2)]) 5 dX12_judge_116 rfl rfl (by decide) rfl ?_
        refine jr_goto (tgt := 54) dX12_judge_119 (by decide) ?_
        exact jr_sub [3, 4, 5, 1, 2, 0] rfl k
      · have k := k.1 c90
        refine jr_aload_n 1 dX12_judge_93 rfl rfl ?_
        refine jr_aload_n 1 dX12_judge_94 rfl rfl ?_
        obtain ⟨fs21, e22, v24, e23, k⟩ := k
        refine jr_get jf_X12_63 dX12_judge_95 e22 e23 ?_
        refine jr_bipush (v := 30) dX12_judge_98 (by decide) ?_
        refine jr_iload_n 2 dX12_judge_100 rfl rfl ?_
        refine jr_imul dX12_judge_101 ?_
        refine jr_iload 5 dX12_judge_102 rfl ?_
        refine jr_iadd dX12_judge_104 ?_
        obtain ⟨n25, f26, e27, e28, k⟩ := k
        refine jr_lald dX12_judge_105 e27 e28 ?_
        refine jr_l2i dX12_judge_106 ?_
        obtain ⟨fs31, e32, k⟩ := k
        refine jr_cVv (As := [.int ((f26 (((30 * x1) + x5)).toNatClampNeg)).toInt32]) jl_X12_386 km_X12_does rfl rfl dX12_judge_107 e32 (Nat.le_of_ble_eq_true rfl) k (fun h30 k => ?_)
        refine jr_goto (tgt := 116) dX12_judge_110 (by decide) ?_
        refine jr_iinc (v := (x5 + 1)) (lv' := [(5, .int (x5 + 1)), (4, .int r17), (0, .ref x0), (1, .int x1), (2, .int x2), (3, .int x3)]) 5 dX12_judge_116 rfl rfl (by decide) rfl ?_
        refine jr_goto (tgt := 54) dX12_judge_119 (by decide) ?_
        exact jr_sub [2, 3, 4, 5, 1, 0] rfl k
set_option maxRecDepth 20000 in
theorem bX12_judge_122 {g : jG} {d : Nat} {hs : jH} {P : jO → jH → Prop} {x0 : Nat} {x2 : Int32} {x3 : Int32} {x4 : Int32} {h : jH} (k : ∃ fs3 : List Value, h.1 x0 = some (.inr (12, fs3)) ∧ Con g mX12_sumOf d [.ref x0, .int 36] h (jPi (fun (r1 : Int32) (h2 : jH) => ∃ fs5 : List Value, h2.1 x0 = some (.inr (12, fs5)) ∧ ∃ v8 : Nat, fs5[0]? = some (.ref v8) ∧ ∃ (n9 : Nat) (f10 : Nat → Int32), h2.1 v8 = some (.inl (0, (n9, .inl f10))) ∧ vp_in 51 n9 ∧ ∃ fs15 : List Value, h2.1 x0 = some (.inr (12, fs15)) ∧ Con g mX12_putsBack d [.ref x0] h2 (jPv (fun (h14 : jH) => (x2 = 0 → P (.inl (some (.int x3))) h14) ∧ (¬ x2 = 0 → (x2 = 1 → P (.inl (some (.int x4))) h14) ∧ (¬ x2 = 1 → (x2 = 2 → P (.inl (some (.int r1))) h14) ∧ (¬ x2 = 2 → P (.inl (some (.int ((f10 ((51 : Int32)).toNatClampNeg))))) h14)))) (fun E h' => P (.inr E) h'))) (fun E h' => P (.inr E) h'))) : J g mX12_judge (d + 1) hs P 122 [(0, .ref x0), (2, .int x2), (3, .int x3), (4, .int x4)] [] h := by
  refine jr_aload_n 0 dX12_judge_122 rfl rfl ?_
  refine jr_bipush (v := 36) dX12_judge_123 (by decide) ?_
  obtain ⟨fs3, e4, k⟩ := k
  refine jr_cVi (As := [.int 36]) jl_X12_389 km_X12_sumOf rfl rfl dX12_judge_125 e4 (Nat.le_of_ble_eq_true rfl) k (fun r1 h2 k => ?_)
  refine jr_istore (lv' := [(5, .int r1), (0, .ref x0), (2, .int x2), (3, .int x3), (4, .int x4)]) dX12_judge_128 (by decide) rfl ?_
  refine jr_aload_n 1 dX12_judge_130 rfl rfl ?_
  obtain ⟨fs5, e6, v8, e7, k⟩ := k
  refine jr_get jf_X12_9 dX12_judge_131 e6 e7 ?_
  refine jr_bipush (v := 51) dX12_judge_134 (by decide) ?_
  obtain ⟨n9, f10, e11, e12, k⟩ := k
  refine jr_iald dX12_judge_136 e11 e12 ?_
  refine jr_istore (lv' := [(6, .int (f10 ((51 : Int32)).toNatClampNeg)), (5, .int r1), (0, .ref x0), (2, .int x2), (3, .int x3), (4, .int x4)]) dX12_judge_137 (by decide) rfl ?_
  refine jr_aload_n 2 dX12_judge_139 rfl rfl ?_
  obtain ⟨fs15, e16, k⟩ := k
  refine jr_cVv (As := []) jl_X12_392 km_X12_putsBack rfl rfl dX12_judge_140 e16 (Nat.le_of_ble_eq_true rfl) k (fun h14 k => ?_)
  refine jr_iload_n 3 dX12_judge_143 rfl rfl ?_
  refine jr_if_ne (tgt := 151) dX12_judge_144 (by decide) (fun c144 => ?_) (fun c144 => ?_)
  · have k := k.2 c144
    refine jr_iload_n 3 dX12_judge_151 rfl rfl ?_
    refine jr_iconst (v := 1) dX12_judge_152 (by decide) ?_
    refine jr_icmp_ne (tgt := 161) dX12_judge_153 (by decide) (fun c153 => ?_) (fun c153 => ?_)
    · have k := k.2 c153
      refine jr_iload_n 3 dX12_judge_161 rfl rfl ?_
      refine jr_iconst (v := 2) dX12_judge_162 (by decide) ?_
      refine jr_icmp_ne (tgt := 171) dX12_judge_163 (by decide) (fun c163 => ?_) (fun c163 => ?_)
      · have k := k.2 c163
        refine jr_iload 0 dX12_judge_171 rfl ?_
        exact jr_iret (ty := .int) rfl rfl dX12_judge_173 k
      · have k := k.1 c163
        refine jr_iload 1 dX12_judge_166 rfl ?_
        refine jr_goto (tgt := 173) dX12_judge_168 (by decide) ?_
        exact jr_iret (ty := .int) rfl rfl dX12_judge_173 k
    · have k := k.1 c153
      refine jr_iload 5 dX12_judge_156 rfl ?_
      refine jr_goto (tgt := 173) dX12_judge_158 (by decide) ?_
      exact jr_iret (ty := .int) rfl rfl dX12_judge_173 k
  · have k := k.1 c144
    refine jr_iload_n 4 dX12_judge_147 rfl rfl ?_
    refine jr_goto (tgt := 173) dX12_judge_148 (by decide) ?_
    exact jr_iret (ty := .int) rfl rfl dX12_judge_173 k
set_option maxRecDepth 20000 in
theorem bX12_perform_0 {g : jG} {d : Nat} {hs : jH} {P : jO → jH → Prop} {x0 : Nat} {x1 : Int32} {h : jH} (k : ∃ fs3 : List Value, h.1 x0 = some (.inr (12, fs3)) ∧ Con g mX12_trayFault d [.ref x0, .int x1] h (jPi (fun (r1 : Int32) (h2 : jH) => ∃ fs5 : List Value, h2.1 x0 = some (.inr (12, fs5)) ∧ 4 < fs5.length ∧ (∀ h8 : jH, h8 = jset h2 x0 (.inr (12, fs5.set 4 (.int r1))) → ∃ fs10 : List Value, h8.1 x0 = some (.inr (12, fs10)) ∧ ∃ v13 : Int32, fs10[4]? = some (.int v13) ∧ (0 < v13 → P (.inl (some (.int 0))) h8) ∧ (¬ 0 < v13 → J g mX12_perform (d + 1) hs P 20 [(0, .ref x0), (1, .int x1), (2, .int 0)] [] h8))) (fun E h' => P (.inr E) h'))) : J g mX12_perform (d + 1) hs P 0 [(0, .ref x0), (1, .int x1)] [] h := by
  refine jr_aload_n 0 dX12_perform_0 rfl rfl ?_
  refine jr_aload_n 0 dX12_perform_1 rfl rfl ?_
  refine jr_iload_n 1 dX12_perform_2 rfl rfl ?_
  obtain ⟨fs3, e4, k⟩ := k
  refine jr_cVi (As := [.int x1]) jl_X12_377 km_X12_trayFault rfl rfl dX12_perform_3 e4 (Nat.le_of_ble_eq_true rfl) k (fun r1 h2 k => ?_)
  obtain ⟨fs5, e6, e7, k⟩ := k
  refine jr_putE jp_X12_67 dX12_perform_6 e6 e7 rfl rfl (fun h8 eh9 => ?_)
  have k := k h8 eh9
  refine jr_aload_n 0 dX12_perform_9 rfl rfl ?_
  obtain ⟨fs10, e11, v13, e12, k⟩ := k
  refine jr_get jf_X12_67 dX12_perform_10 e11 e12 ?_
  refine jr_if_le (tgt := 18) dX12_perform_13 (by decide) (fun c13 => ?_) (fun c13 => ?_)
  · have k := k.2 c13
    refine jr_iconst (v := 0) dX12_perform_18 (by decide) ?_
    refine jr_istore_n (lv' := [(2, .int 0), (0, .ref x0), (1, .int x1)]) dX12_perform_19 rfl (by decide) rfl ?_
    exact jr_sub [1, 2, 0] rfl k
  · have k := k.1 c13
    refine jr_iconst (v := 0) dX12_perform_16 (by decide) ?_
    exact jr_iret (ty := .int) rfl rfl dX12_perform_17 k
set_option maxRecDepth 20000 in
theorem bX12_perform_20 {g : jG} {d : Nat} {hs : jH} {P : jO → jH → Prop} {x0 : Nat} {x1 : Int32} {x2 : Int32} {h : jH} (k : ∃ fs1 : List Value, h.1 x0 = some (.inr (12, fs1)) ∧ ∃ v4 : Nat, fs1[36]? = some (.ref v4) ∧ ∃ (n5 : Nat) (f6 : Nat → Int32), h.1 v4 = some (.inl (0, (n5, .inl f6))) ∧ vp_in x1 n5 ∧ (x2 < (f6 x1.toNatClampNeg) → ∃ fs9 : List Value, h.1 x0 = some (.inr (12, fs9)) ∧ ∃ v12 : Nat, fs9[37]? = some (.ref v12) ∧ ∃ (n13 : Nat) (f14 : Nat → Int64), h.1 v12 = some (.inl (3, (n13, .inr (.inl f14)))) ∧ vp_in ((30 * x1) + x2) n13 ∧ ∃ fs19 : List Value, h.1 x0 = some (.inr (12, fs19)) ∧ Con g mX12_whyTold d [.ref x0, .long (f14 (((30 * x1) + x2)).toNatClampNeg)] h (jPi (fun (r17 : Int32) (h18 : jH) => (r17 = 0 → ∃ fs23 : List Value, h18.1 x0 = some (.inr (12, fs23)) ∧ Con g mX12_keeps d [.ref x0] h18 (jPv (fun (h22 : jH) => ∃ fs25 : List Value, h22.1 x0 = some (.inr (12, fs25)) ∧ ∃ v28 : Nat, fs25[37]? = some (.ref v28) ∧ ∃ (n29 : Nat) (f30 : Nat → Int64), h22.1 v28 = some (.inl (3, (n29, .inr (.inl f30)))) ∧ vp_in ((30 * x1) + x2) n29 ∧ ∃ fs35 : List Value, h22.1 x0 = some (.inr (12, fs35)) ∧ Con g mX12_does d [.ref x0, .int ((f30 (((30 * x1) + x2)).toNatClampNeg)).toInt32] h22 (jPv (fun (h34 : jH) => J g mX12_perform (d + 1) hs P 20 [(0, .ref x0), (1, .int x1), (2, .int (x2 + 1))] [] h34) (fun E h' => P (.inr E) h'))) (fun E h' => P (.inr E) h'))) ∧ (¬ r17 = 0 → P (.inl (some (.int x2))) h18)) (fun E h' => P (.inr E) h'))) ∧ (¬ x2 < (f6 x1.toNatClampNeg) → P (.inl (some (.int x2))) h)) : J g mX12_perform (d + 1) hs P 20 [(0, .ref x0), (1, .int x1), (2, .int x2)] [] h := by
  refine jr_iload_n 2 dX12_perform_20 rfl rfl ?_
  refine jr_aload_n 0 dX12_perform_21 rfl rfl ?_
  obtain ⟨fs1, e2, v4, e3, k⟩ := k
  refine jr_get jf_X12_60 dX12_perform_22 e2 e3 ?_
  refine jr_iload_n 1 dX12_perform_25 rfl rfl ?_
  obtain ⟨n5, f6, e7, e8, k⟩ := k
  refine jr_iald dX12_perform_26 e7 e8 ?_
  refine jr_icmp_ge (tgt := 74) dX12_perform_27 (by decide) (fun c27 => ?_) (fun c27 => ?_)
  · have k := k.2 c27
    refine jr_iload_n 2 dX12_perform_74 rfl rfl ?_
    exact jr_iret (ty := .int) rfl rfl dX12_perform_75 k
  · have k := k.1 c27
    refine jr_aload_n 0 dX12_perform_30 rfl rfl ?_
    refine jr_aload_n 0 dX12_perform_31 rfl rfl ?_
    obtain ⟨fs9, e10, v12, e11, k⟩ := k
    refine jr_get jf_X12_63 dX12_perform_32 e10 e11 ?_
    refine jr_bipush (v := 30) dX12_perform_35 (by decide) ?_
    refine jr_iload_n 1 dX12_perform_37 rfl rfl ?_
    refine jr_imul dX12_perform_38 ?_
    refine jr_iload_n 2 dX12_perform_39 rfl rfl ?_
    refine jr_iadd dX12_perform_40 ?_
    obtain ⟨n13, f14, e15, e16, k⟩ := k
    refine jr_lald dX12_perform_41 e15 e16 ?_
    obtain ⟨fs19, e20, k⟩ := k
    refine jr_cVi (As := [.long (f14 (((30 * x1) + x2)).toNatClampNeg)]) jl_X12_383 km_X12_whyTold rfl rfl dX12_perform_42 e20 (Nat.le_of_ble_eq_true rfl) k (fun r17 h18 k => ?_)
    refine jr_if_ne (tgt := 74) dX12_perform_45 (by decide) (fun c45 => ?_) (fun c45 => ?_)
    · have k := k.2 c45
      refine jr_iload_n 2 dX12_perform_74 rfl rfl ?_
      exact jr_iret (ty := .int) rfl rfl dX12_perform_75 k
    · have k := k.1 c45
      refine jr_aload_n 0 dX12_perform_48 rfl rfl ?_
      obtain ⟨fs23, e24, k⟩ := k
      refine jr_cVv (As := []) jl_X12_332 km_X12_keeps rfl rfl dX12_perform_49 e24 (Nat.le_of_ble_eq_true rfl) k (fun h22 k => ?_)
      refine jr_aload_n 0 dX12_perform_52 rfl rfl ?_
      refine jr_aload_n 0 dX12_perform_53 rfl rfl ?_
      obtain ⟨fs25, e26, v28, e27, k⟩ := k
      refine jr_get jf_X12_63 dX12_perform_54 e26 e27 ?_
      refine jr_bipush (v := 30) dX12_perform_57 (by decide) ?_
      refine jr_iload_n 1 dX12_perform_59 rfl rfl ?_
      refine jr_imul dX12_perform_60 ?_
      refine jr_iload_n 2 dX12_perform_61 rfl rfl ?_
      refine jr_iadd dX12_perform_62 ?_
      obtain ⟨n29, f30, e31, e32, k⟩ := k
      refine jr_lald dX12_perform_63 e31 e32 ?_
      refine jr_l2i dX12_perform_64 ?_
      obtain ⟨fs35, e36, k⟩ := k
      refine jr_cVv (As := [.int ((f30 (((30 * x1) + x2)).toNatClampNeg)).toInt32]) jl_X12_386 km_X12_does rfl rfl dX12_perform_65 e36 (Nat.le_of_ble_eq_true rfl) k (fun h34 k => ?_)
      refine jr_iinc (v := (x2 + 1)) (lv' := [(2, .int (x2 + 1)), (0, .ref x0), (1, .int x1)]) 2 dX12_perform_68 rfl rfl (by decide) rfl ?_
      refine jr_goto (tgt := 20) dX12_perform_71 (by decide) ?_
      exact jr_sub [1, 2, 0] rfl k
set_option maxRecDepth 20000 in
theorem bX12_draw_0 {g : jG} {d : Nat} {hs : jH} {P : jO → jH → Prop} {x0 : Nat} {x1 : Int32} {h : jH} (k : ∃ fs1 : List Value, h.1 x0 = some (.inr (12, fs1)) ∧ ∃ v4 : Int32, fs1[26]? = some (.int v4) ∧ ∃ fs5 : List Value, h.1 x0 = some (.inr (12, fs5)) ∧ 26 < fs5.length ∧ (∀ h8 : jH, h8 = jset h x0 (.inr (12, fs5.set 26 (.int ((1103515245 * v4) + 12345)))) → ∃ fs10 : List Value, h8.1 x0 = some (.inr (12, fs10)) ∧ ∃ v13 : Int32, fs10[26]? = some (.int v13) ∧ ¬ x1 = 0 ∧ (P (.inl (some (.int ((((v13).toUInt32 >>> ((16 : Int32).toUInt32 &&& Int32.toUInt32 31)).toInt32 - ((v13).toUInt32 >>> ((16 : Int32).toUInt32 &&& Int32.toUInt32 31)).toInt32 / x1 * x1))))) h8))) : J g mX12_draw (d + 1) hs P 0 [(0, .ref x0), (1, .int x1)] [] h := by
  refine jr_aload_n 0 dX12_draw_0 rfl rfl ?_
  refine jr_ldcw (v := 1103515245) jk_X12_395 dX12_draw_1 ?_
  refine jr_aload_n 0 dX12_draw_4 rfl rfl ?_
  obtain ⟨fs1, e2, v4, e3, k⟩ := k
  refine jr_get jf_X12_396 dX12_draw_5 e2 e3 ?_
  refine jr_imul dX12_draw_8 ?_
  refine jr_sipush (v := 12345) dX12_draw_9 (by decide) ?_
  refine jr_iadd dX12_draw_12 ?_
  obtain ⟨fs5, e6, e7, k⟩ := k
  refine jr_putE jp_X12_396 dX12_draw_13 e6 e7 rfl rfl (fun h8 eh9 => ?_)
  have k := k h8 eh9
  refine jr_aload_n 0 dX12_draw_16 rfl rfl ?_
  obtain ⟨fs10, e11, v13, e12, k⟩ := k
  refine jr_get jf_X12_396 dX12_draw_17 e11 e12 ?_
  refine jr_bipush (v := 16) dX12_draw_20 (by decide) ?_
  refine jr_iushr dX12_draw_22 ?_
  refine jr_iload_n 1 dX12_draw_23 rfl rfl ?_
  obtain ⟨c9, k⟩ := k
  refine jr_irem dX12_draw_24 c9 ?_
  exact jr_iret (ty := .int) rfl rfl dX12_draw_25 k
set_option maxRecDepth 20000 in
theorem bX12_year_0 {g : jG} {d : Nat} {hs : jH} {P : jO → jH → Prop} {x0 : Nat} {x1 : Int32} {x2 : Int32} {h : jH} (k : ∃ fs1 : List Value, h.1 x0 = some (.inr (12, fs1)) ∧ 4 < fs1.length ∧ (∀ h4 : jH, h4 = jset h x0 (.inr (12, fs1.set 4 (.int 0))) → Con g mX12_within d [.long x2.toInt64, .long 1, .long 30] h4 (jPi (fun (r6 : Int32) (h7 : jH) => (r6 = 0 → ∃ fs15 : List Value, h7.1 x0 = some (.inr (12, fs15)) ∧ Con g mX12_fails d [.ref x0, .int 1] h7 (jPi (fun (r13 : Int32) (h14 : jH) => P (.inl (some (.int r13))) h14) (fun E h' => P (.inr E) h'))) ∧ (¬ r6 = 0 → ∃ fs8 : List Value, h7.1 x0 = some (.inr (12, fs8)) ∧ 26 < fs8.length ∧ (∀ h11 : jH, h11 = jset h7 x0 (.inr (12, fs8.set 26 (.int x1))) → J g mX12_year (d + 1) hs P 33 [(0, .ref x0), (2, .int x2), (3, .int 0), (4, .int 0)] [] h11))) (fun E h' => P (.inr E) h')))) : J g mX12_year (d + 1) hs P 0 [(0, .ref x0), (1, .int x1), (2, .int x2)] [] h := by
  refine jr_aload_n 0 dX12_year_0 rfl rfl ?_
  refine jr_iconst (v := 0) dX12_year_1 (by decide) ?_
  obtain ⟨fs1, e2, e3, k⟩ := k
  refine jr_putE jp_X12_67 dX12_year_2 e2 e3 rfl rfl (fun h4 eh5 => ?_)
  have k := k h4 eh5
  refine jr_iload_n 2 dX12_year_5 rfl rfl ?_
  refine jr_i2l dX12_year_6 ?_
  refine jr_lconst (v := 1) dX12_year_7 (by decide) ?_
  refine jr_ldc2 (v := 30) jk_X12_399 dX12_year_8 ?_
  refine jr_cSi (As := [.long x2.toInt64, .long 1, .long 30]) jl_X12_128 km_X12_within rfl rfl dX12_year_11 (Nat.le_of_ble_eq_true rfl) k (fun r6 h7 k => ?_)
  refine jr_if_ne (tgt := 23) dX12_year_14 (by decide) (fun c14 => ?_) (fun c14 => ?_)
  · have k := k.2 c14
    refine jr_aload_n 0 dX12_year_23 rfl rfl ?_
    refine jr_iload_n 1 dX12_year_24 rfl rfl ?_
    obtain ⟨fs8, e9, e10, k⟩ := k
    refine jr_putE jp_X12_396 dX12_year_25 e9 e10 rfl rfl (fun h11 eh12 => ?_)
    have k := k h11 eh12
    refine jr_iconst (v := 0) dX12_year_28 (by decide) ?_
    refine jr_istore_n (lv' := [(3, .int 0), (0, .ref x0), (1, .int x1), (2, .int x2)]) dX12_year_29 rfl (by decide) rfl ?_
    refine jr_iconst (v := 0) dX12_year_30 (by decide) ?_
    refine jr_istore (lv' := [(4, .int 0), (3, .int 0), (0, .ref x0), (1, .int x1), (2, .int x2)]) dX12_year_31 (by decide) rfl ?_
    exact jr_sub [2, 4, 1, 0] rfl k
  · have k := k.1 c14
    refine jr_aload_n 0 dX12_year_17 rfl rfl ?_
    refine jr_iconst (v := 1) dX12_year_18 (by decide) ?_
    obtain ⟨fs15, e16, k⟩ := k
    refine jr_cVi (As := [.int 1]) jl_X12_234 km_X12_fails rfl rfl dX12_year_19 e16 (Nat.le_of_ble_eq_true rfl) k (fun r13 h14 k => ?_)
    exact jr_iret (ty := .int) rfl rfl dX12_year_22 k
set_option maxRecDepth 20000 in
theorem bX12_year_33 {g : jG} {d : Nat} {hs : jH} {P : jO → jH → Prop} {x0 : Nat} {x2 : Int32} {x3 : Int32} {x4 : Int32} {h : jH} (k : (x4 < x2 → ∃ fs3 : List Value, h.1 x0 = some (.inr (12, fs3)) ∧ Con g mX12_draw d [.ref x0, .int 6] h (jPi (fun (r1 : Int32) (h2 : jH) => (1 < r1 → ∃ fs7 : List Value, h2.1 x0 = some (.inr (12, fs7)) ∧ Con g mX12_houses d [.ref x0] h2 (jPi (fun (r5 : Int32) (h6 : jH) => (r5 = 0 → J g mX12_year (d + 1) hs P 33 [(0, .ref x0), (2, .int x2), (3, .int x3), (4, .int (x4 + 1))] [] h6) ∧ (¬ r5 = 0 → J g mX12_year (d + 1) hs P 63 [(0, .ref x0), (2, .int x2), (3, .int x3), (4, .int x4), (5, .int r1)] [] h6)) (fun E h' => P (.inr E) h'))) ∧ (¬ 1 < r1 → J g mX12_year (d + 1) hs P 63 [(0, .ref x0), (2, .int x2), (3, .int x3), (4, .int x4), (5, .int r1)] [] h2)) (fun E h' => P (.inr E) h'))) ∧ (¬ x4 < x2 → P (.inl (some (.int x3))) h)) : J g mX12_year (d + 1) hs P 33 [(0, .ref x0), (2, .int x2), (3, .int x3), (4, .int x4)] [] h := by
  refine jr_iload 3 dX12_year_33 rfl ?_
  refine jr_iload_n 1 dX12_year_35 rfl rfl ?_
  refine jr_icmp_ge (tgt := 113) dX12_year_36 (by decide) (fun c36 => ?_) (fun c36 => ?_)
  · have k := k.2 c36
    refine jr_iload_n 2 dX12_year_113 rfl rfl ?_
    exact jr_iret (ty := .int) rfl rfl dX12_year_114 k
  · have k := k.1 c36
    refine jr_aload_n 0 dX12_year_39 rfl rfl ?_
    refine jr_bipush (v := 6) dX12_year_40 (by decide) ?_
    obtain ⟨fs3, e4, k⟩ := k
    refine jr_cVi (As := [.int 6]) jl_X12_401 km_X12_draw rfl rfl dX12_year_42 e4 (Nat.le_of_ble_eq_true rfl) k (fun r1 h2 k => ?_)
    refine jr_istore (lv' := [(5, .int r1), (0, .ref x0), (2, .int x2), (3, .int x3), (4, .int x4)]) dX12_year_45 (by decide) rfl ?_
    refine jr_iload 0 dX12_year_47 rfl ?_
    refine jr_iconst (v := 1) dX12_year_49 (by decide) ?_
    refine jr_icmp_le (tgt := 63) dX12_year_50 (by decide) (fun c50 => ?_) (fun c50 => ?_)
    · have k := k.2 c50
      exact jr_sub [1, 2, 3, 4, 0] rfl k
    · have k := k.1 c50
      refine jr_aload_n 1 dX12_year_53 rfl rfl ?_
      obtain ⟨fs7, e8, k⟩ := k
      refine jr_cVi (As := []) jl_X12_249 km_X12_houses rfl rfl dX12_year_54 e8 (Nat.le_of_ble_eq_true rfl) k (fun r5 h6 k => ?_)
      refine jr_if_ne (tgt := 63) dX12_year_57 (by decide) (fun c57 => ?_) (fun c57 => ?_)
      · have k := k.2 c57
        exact jr_sub [1, 2, 3, 4, 0] rfl k
      · have k := k.1 c57
        refine jr_goto (tgt := 107) dX12_year_60 (by decide) ?_
        refine jr_iinc (v := (x4 + 1)) (lv' := [(4, .int (x4 + 1)), (5, .int r1), (0, .ref x0), (2, .int x2), (3, .int x3)]) 4 dX12_year_107 rfl rfl (by decide) rfl ?_
        refine jr_goto (tgt := 33) dX12_year_110 (by decide) ?_
        exact jr_sub [2, 3, 4, 0] rfl k
set_option maxRecDepth 20000 in
theorem bX12_year_63 {g : jG} {d : Nat} {hs : jH} {P : jO → jH → Prop} {x0 : Nat} {x2 : Int32} {x3 : Int32} {x4 : Int32} {x5 : Int32} {h : jH} (k : (x5 < 2 → J g mX12_year (d + 1) hs P 79 [(0, .ref x0), (2, .int x2), (3, .int x3), (4, .int x4)] [.int (-1)] h) ∧ (¬ x5 < 2 → ∃ fs3 : List Value, h.1 x0 = some (.inr (12, fs3)) ∧ Con g mX12_drawn d [.ref x0, .int x5] h (jPi (fun (r1 : Int32) (h2 : jH) => J g mX12_year (d + 1) hs P 79 [(0, .ref x0), (2, .int x2), (3, .int x3), (4, .int x4)] [.int r1] h2) (fun E h' => P (.inr E) h')))) : J g mX12_year (d + 1) hs P 63 [(0, .ref x0), (2, .int x2), (3, .int x3), (4, .int x4), (5, .int x5)] [] h := by
  refine jr_iload 4 dX12_year_63 rfl ?_
  refine jr_iconst (v := 2) dX12_year_65 (by decide) ?_
  refine jr_icmp_ge (tgt := 73) dX12_year_66 (by decide) (fun c66 => ?_) (fun c66 => ?_)
  · have k := k.2 c66
    refine jr_aload_n 0 dX12_year_73 rfl rfl ?_
    refine jr_iload 4 dX12_year_74 rfl ?_
    obtain ⟨fs3, e4, k⟩ := k
    refine jr_cVi (As := [.int x5]) jl_X12_404 km_X12_drawn rfl rfl dX12_year_76 e4 (Nat.le_of_ble_eq_true rfl) k (fun r1 h2 k => ?_)
    exact jr_sub [0, 1, 2, 3] rfl k
  · have k := k.1 c66
    refine jr_iconst (v := (-1)) dX12_year_69 (by decide) ?_
    refine jr_goto (tgt := 79) dX12_year_70 (by decide) ?_
    exact jr_sub [0, 1, 2, 3] rfl k
set_option maxRecDepth 20000 in
theorem bX12_year_79 {g : jG} {d : Nat} {hs : jH} {P : jO → jH → Prop} {x0 : Nat} {x2 : Int32} {x3 : Int32} {x4 : Int32} {s0 : Int32} {h : jH} (k : ∃ fs3 : List Value, h.1 x0 = some (.inr (12, fs3)) ∧ Con g mX12_whyTold d [.ref x0, .long s0.toInt64] h (jPi (fun (r1 : Int32) (h2 : jH) => (r1 = 0 → ∃ fs7 : List Value, h2.1 x0 = some (.inr (12, fs7)) ∧ Con g mX12_keeps d [.ref x0] h2 (jPv (fun (h6 : jH) => ∃ fs11 : List Value, h6.1 x0 = some (.inr (12, fs11)) ∧ Con g mX12_does d [.ref x0, .int s0] h6 (jPv (fun (h10 : jH) => J g mX12_year (d + 1) hs P 33 [(0, .ref x0), (2, .int x2), (3, .int (x3 + 1)), (4, .int (x4 + 1))] [] h10) (fun E h' => P (.inr E) h'))) (fun E h' => P (.inr E) h'))) ∧ (¬ r1 = 0 → J g mX12_year (d + 1) hs P 33 [(0, .ref x0), (2, .int x2), (3, .int x3), (4, .int (x4 + 1))] [] h2)) (fun E h' => P (.inr E) h'))) : J g mX12_year (d + 1) hs P 79 [(0, .ref x0), (2, .int x2), (3, .int x3), (4, .int x4)] [.int s0] h := by
  refine jr_istore (lv' := [(6, .int s0), (0, .ref x0), (2, .int x2), (3, .int x3), (4, .int x4)]) dX12_year_79 (by decide) rfl ?_
  refine jr_aload_n 1 dX12_year_81 rfl rfl ?_
  refine jr_iload 0 dX12_year_82 rfl ?_
  refine jr_i2l dX12_year_84 ?_
  obtain ⟨fs3, e4, k⟩ := k
  refine jr_cVi (As := [.long s0.toInt64]) jl_X12_383 km_X12_whyTold rfl rfl dX12_year_85 e4 (Nat.le_of_ble_eq_true rfl) k (fun r1 h2 k => ?_)
  refine jr_if_eq (tgt := 94) dX12_year_88 (by decide) (fun c88 => ?_) (fun c88 => ?_)
  · have k := k.1 c88
    refine jr_aload_n 1 dX12_year_94 rfl rfl ?_
    obtain ⟨fs7, e8, k⟩ := k
    refine jr_cVv (As := []) jl_X12_332 km_X12_keeps rfl rfl dX12_year_95 e8 (Nat.le_of_ble_eq_true rfl) k (fun h6 k => ?_)
    refine jr_aload_n 1 dX12_year_98 rfl rfl ?_
    refine jr_iload 0 dX12_year_99 rfl ?_
    obtain ⟨fs11, e12, k⟩ := k
    refine jr_cVv (As := [.int s0]) jl_X12_386 km_X12_does rfl rfl dX12_year_101 e12 (Nat.le_of_ble_eq_true rfl) k (fun h10 k => ?_)
    refine jr_iinc (v := (x3 + 1)) (lv' := [(3, .int (x3 + 1)), (6, .int s0), (0, .ref x0), (2, .int x2), (4, .int x4)]) 3 dX12_year_104 rfl rfl (by decide) rfl ?_
    refine jr_iinc (v := (x4 + 1)) (lv' := [(4, .int (x4 + 1)), (3, .int (x3 + 1)), (6, .int s0), (0, .ref x0), (2, .int x2)]) 4 dX12_year_107 rfl rfl (by decide) rfl ?_
    refine jr_goto (tgt := 33) dX12_year_110 (by decide) ?_
    exact jr_sub [3, 4, 1, 0] rfl k
  · have k := k.2 c88
    refine jr_goto (tgt := 107) dX12_year_91 (by decide) ?_
    refine jr_iinc (v := (x4 + 1)) (lv' := [(4, .int (x4 + 1)), (6, .int s0), (0, .ref x0), (2, .int x2), (3, .int x3)]) 4 dX12_year_107 rfl rfl (by decide) rfl ?_
    refine jr_goto (tgt := 33) dX12_year_110 (by decide) ?_
    exact jr_sub [2, 3, 4, 0] rfl k
set_option maxRecDepth 20000 in
theorem bX12_drawn_0 {g : jG} {d : Nat} {hs : jH} {P : jO → jH → Prop} {x0 : Nat} {x1 : Int32} {h : jH} (k : ∃ fs3 : List Value, h.1 x0 = some (.inr (12, fs3)) ∧ Con g mX12_houses d [.ref x0] h (jPi (fun (r1 : Int32) (h2 : jH) => ∃ fs7 : List Value, h2.1 x0 = some (.inr (12, fs7)) ∧ Con g mX12_draw d [.ref x0, .int r1] h2 (jPi (fun (r5 : Int32) (h6 : jH) => (x1 = 3 → J g mX12_drawn (d + 1) hs P 19 [(1, .int x1), (2, .int r5)] [] h6) ∧ (¬ x1 = 3 → (x1 = 4 → J g mX12_drawn (d + 1) hs P 19 [(1, .int x1), (2, .int r5)] [] h6) ∧ (¬ x1 = 4 → (x1 = 2 → J g mX12_drawn (d + 1) hs P 49 [(0, .ref x0), (2, .int r5)] [.int 0] h6) ∧ (¬ x1 = 2 → J g mX12_drawn (d + 1) hs P 49 [(0, .ref x0), (2, .int r5)] [.int 300] h6)))) (fun E h' => P (.inr E) h'))) (fun E h' => P (.inr E) h'))) : J g mX12_drawn (d + 1) hs P 0 [(0, .ref x0), (1, .int x1)] [] h := by
  refine jr_aload_n 0 dX12_drawn_0 rfl rfl ?_
  refine jr_aload_n 0 dX12_drawn_1 rfl rfl ?_
  obtain ⟨fs3, e4, k⟩ := k
  refine jr_cVi (As := []) jl_X12_249 km_X12_houses rfl rfl dX12_drawn_2 e4 (Nat.le_of_ble_eq_true rfl) k (fun r1 h2 k => ?_)
  obtain ⟨fs7, e8, k⟩ := k
  refine jr_cVi (As := [.int r1]) jl_X12_401 km_X12_draw rfl rfl dX12_drawn_5 e8 (Nat.le_of_ble_eq_true rfl) k (fun r5 h6 k => ?_)
  refine jr_istore_n (lv' := [(2, .int r5), (0, .ref x0), (1, .int x1)]) dX12_drawn_8 rfl (by decide) rfl ?_
  refine jr_iload_n 2 dX12_drawn_9 rfl rfl ?_
  refine jr_iconst (v := 3) dX12_drawn_10 (by decide) ?_
  refine jr_icmp_eq (tgt := 19) dX12_drawn_11 (by decide) (fun c11 => ?_) (fun c11 => ?_)
  · have k := k.1 c11
    exact jr_sub [2, 0] rfl k
  · have k := k.2 c11
    refine jr_iload_n 2 dX12_drawn_14 rfl rfl ?_
    refine jr_iconst (v := 4) dX12_drawn_15 (by decide) ?_
    refine jr_icmp_ne (tgt := 37) dX12_drawn_16 (by decide) (fun c16 => ?_) (fun c16 => ?_)
    · have k := k.2 c16
      refine jr_iload_n 2 dX12_drawn_37 rfl rfl ?_
      refine jr_iconst (v := 2) dX12_drawn_38 (by decide) ?_
      refine jr_icmp_ne (tgt := 46) dX12_drawn_39 (by decide) (fun c39 => ?_) (fun c39 => ?_)
      · have k := k.2 c39
        refine jr_sipush (v := 300) dX12_drawn_46 (by decide) ?_
        exact jr_sub [1, 0] rfl k
      · have k := k.1 c39
        refine jr_iconst (v := 0) dX12_drawn_42 (by decide) ?_
        refine jr_goto (tgt := 49) dX12_drawn_43 (by decide) ?_
        exact jr_sub [1, 0] rfl k
    · have k := k.1 c16
      exact jr_sub [2, 0] rfl k
set_option maxRecDepth 20000 in
theorem bX12_drawn_19 {g : jG} {d : Nat} {hs : jH} {P : jO → jH → Prop} {x1 : Int32} {x2 : Int32} {h : jH} (k : (x1 = 3 → P (.inl (some (.int ((100 + x2))))) h) ∧ (¬ x1 = 3 → P (.inl (some (.int ((200 + x2))))) h)) : J g mX12_drawn (d + 1) hs P 19 [(1, .int x1), (2, .int x2)] [] h := by
  refine jr_iload_n 0 dX12_drawn_19 rfl rfl ?_
  refine jr_iconst (v := 3) dX12_drawn_20 (by decide) ?_
  refine jr_icmp_ne (tgt := 31) dX12_drawn_21 (by decide) (fun c21 => ?_) (fun c21 => ?_)
  · have k := k.2 c21
    refine jr_sipush (v := 200) dX12_drawn_31 (by decide) ?_
    refine jr_iload_n 1 dX12_drawn_34 rfl rfl ?_
    refine jr_iadd dX12_drawn_35 ?_
    exact jr_iret (ty := .int) rfl rfl dX12_drawn_36 k
  · have k := k.1 c21
    refine jr_bipush (v := 100) dX12_drawn_24 (by decide) ?_
    refine jr_iload_n 1 dX12_drawn_26 rfl rfl ?_
    refine jr_iadd dX12_drawn_27 ?_
    refine jr_goto (tgt := 36) dX12_drawn_28 (by decide) ?_
    exact jr_iret (ty := .int) rfl rfl dX12_drawn_36 k
set_option maxRecDepth 20000 in
theorem bX12_drawn_49 {g : jG} {d : Nat} {hs : jH} {P : jO → jH → Prop} {x0 : Nat} {x2 : Int32} {s0 : Int32} {h : jH} (k : ∃ fs3 : List Value, h.1 x0 = some (.inr (12, fs3)) ∧ Con g mX12_houses d [.ref x0] h (jPi (fun (r1 : Int32) (h2 : jH) => ∃ fs7 : List Value, h2.1 x0 = some (.inr (12, fs7)) ∧ Con g mX12_draw d [.ref x0, .int r1] h2 (jPi (fun (r5 : Int32) (h6 : jH) => P (.inl (some (.int (((s0 + (10 * x2)) + r5))))) h6) (fun E h' => P (.inr E) h'))) (fun E h' => P (.inr E) h'))) : J g mX12_drawn (d + 1) hs P 49 [(0, .ref x0), (2, .int x2)] [.int s0] h := by
  refine jr_bipush (v := 10) dX12_drawn_49 (by decide) ?_
  refine jr_iload_n 1 dX12_drawn_51 rfl rfl ?_
  refine jr_imul dX12_drawn_52 ?_
  refine jr_iadd dX12_drawn_53 ?_
  refine jr_aload_n 0 dX12_drawn_54 rfl rfl ?_
  refine jr_aload_n 0 dX12_drawn_55 rfl rfl ?_
  obtain ⟨fs3, e4, k⟩ := k
  refine jr_cVi (As := []) jl_X12_249 km_X12_houses rfl rfl dX12_drawn_56 e4 (Nat.le_of_ble_eq_true rfl) k (fun r1 h2 k => ?_)
  obtain ⟨fs7, e8, k⟩ := k
  refine jr_cVi (As := [.int r1]) jl_X12_401 km_X12_draw rfl rfl dX12_drawn_59 e8 (Nat.le_of_ble_eq_true rfl) k (fun r5 h6 k => ?_)
  refine jr_iadd dX12_drawn_62 ?_
  exact jr_iret (ty := .int) rfl rfl dX12_drawn_63 k
set_option maxRecDepth 20000 in
theorem bX12_goesOn_0 {g : jG} {d : Nat} {hs : jH} {P : jO → jH → Prop} {x0 : Nat} {x1 : Int32} {h : jH} (k : J g mX12_goesOn (d + 1) hs P 2 [(0, .ref x0), (1, .int x1), (2, .int 0)] [] h) : J g mX12_goesOn (d + 1) hs P 0 [(0, .ref x0), (1, .int x1)] [] h := by
  refine jr_iconst (v := 0) dX12_goesOn_0 (by decide) ?_
  refine jr_istore_n (lv' := [(2, .int 0), (0, .ref x0), (1, .int x1)]) dX12_goesOn_1 rfl (by decide) rfl ?_
  exact jr_sub [1, 2, 0] rfl k
set_option maxRecDepth 20000 in
theorem bX12_goesOn_2 {g : jG} {d : Nat} {hs : jH} {P : jO → jH → Prop} {x0 : Nat} {x1 : Int32} {x2 : Int32} {h : jH} (k : (x2 < x1 → ∃ fs3 : List Value, h.1 x0 = some (.inr (12, fs3)) ∧ Con g mX12_quarter d [.ref x0] h (jPv (fun (h2 : jH) => J g mX12_goesOn (d + 1) hs P 2 [(0, .ref x0), (1, .int x1), (2, .int (x2 + 1))] [] h2) (fun E h' => P (.inr E) h'))) ∧ (¬ x2 < x1 → P (.inl none) h)) : J g mX12_goesOn (d + 1) hs P 2 [(0, .ref x0), (1, .int x1), (2, .int x2)] [] h := by
  refine jr_iload_n 2 dX12_goesOn_2 rfl rfl ?_
  refine jr_iload_n 1 dX12_goesOn_3 rfl rfl ?_
  refine jr_icmp_ge (tgt := 17) dX12_goesOn_4 (by decide) (fun c4 => ?_) (fun c4 => ?_)
  · have k := k.2 c4
    exact jr_vret rfl dX12_goesOn_17 k
  · have k := k.1 c4
    refine jr_aload_n 0 dX12_goesOn_7 rfl rfl ?_
    obtain ⟨fs3, e4, k⟩ := k
    refine jr_cVv (As := []) jl_X12_356 km_X12_quarter rfl rfl dX12_goesOn_8 e4 (Nat.le_of_ble_eq_true rfl) k (fun h2 k => ?_)
    refine jr_iinc (v := (x2 + 1)) (lv' := [(2, .int (x2 + 1)), (0, .ref x0), (1, .int x1)]) 2 dX12_goesOn_11 rfl rfl (by decide) rfl ?_
    refine jr_goto (tgt := 2) dX12_goesOn_14 (by decide) ?_
    exact jr_sub [1, 2, 0] rfl k
set_option maxRecDepth 20000 in
theorem bX12_later_0 {g : jG} {d : Nat} {hs : jH} {P : jO → jH → Prop} {x0 : Nat} {x1 : Int32} {x2 : Int32} {h : jH} (k : ∃ fs3 : List Value, h.1 x0 = some (.inr (12, fs3)) ∧ Con g mX12_putsAside d [.ref x0] h (jPv (fun (h2 : jH) => ∃ fs7 : List Value, h2.1 x0 = some (.inr (12, fs7)) ∧ Con g mX12_goesOn d [.ref x0, .int x2] h2 (jPv (fun (h6 : jH) => ∃ fs9 : List Value, h6.1 x0 = some (.inr (12, fs9)) ∧ ∃ v12 : Nat, fs9[0]? = some (.ref v12) ∧ ∃ (n13 : Nat) (f14 : Nat → Int32), h6.1 v12 = some (.inl (0, (n13, .inl f14))) ∧ vp_in x1 n13 ∧ ∃ fs19 : List Value, h6.1 x0 = some (.inr (12, fs19)) ∧ Con g mX12_putsBack d [.ref x0] h6 (jPv (fun (h18 : jH) => P (.inl (some (.int ((f14 x1.toNatClampNeg))))) h18) (fun E h' => P (.inr E) h'))) (fun E h' => P (.inr E) h'))) (fun E h' => P (.inr E) h'))) : J g mX12_later (d + 1) hs P 0 [(0, .ref x0), (1, .int x1), (2, .int x2)] [] h := by
  refine jr_aload_n 0 dX12_later_0 rfl rfl ?_
  obtain ⟨fs3, e4, k⟩ := k
  refine jr_cVv (As := []) jl_X12_380 km_X12_putsAside rfl rfl dX12_later_1 e4 (Nat.le_of_ble_eq_true rfl) k (fun h2 k => ?_)
  refine jr_aload_n 0 dX12_later_4 rfl rfl ?_
  refine jr_iload_n 2 dX12_later_5 rfl rfl ?_
  obtain ⟨fs7, e8, k⟩ := k
  refine jr_cVv (As := [.int x2]) jl_X12_407 km_X12_goesOn rfl rfl dX12_later_6 e8 (Nat.le_of_ble_eq_true rfl) k (fun h6 k => ?_)
  refine jr_aload_n 0 dX12_later_9 rfl rfl ?_
  obtain ⟨fs9, e10, v12, e11, k⟩ := k
  refine jr_get jf_X12_9 dX12_later_10 e10 e11 ?_
  refine jr_iload_n 1 dX12_later_13 rfl rfl ?_
  obtain ⟨n13, f14, e15, e16, k⟩ := k
  refine jr_iald dX12_later_14 e15 e16 ?_
  refine jr_istore_n (lv' := [(3, .int (f14 x1.toNatClampNeg)), (0, .ref x0), (1, .int x1), (2, .int x2)]) dX12_later_15 rfl (by decide) rfl ?_
  refine jr_aload_n 1 dX12_later_16 rfl rfl ?_
  obtain ⟨fs19, e20, k⟩ := k
  refine jr_cVv (As := []) jl_X12_392 km_X12_putsBack rfl rfl dX12_later_17 e20 (Nat.le_of_ble_eq_true rfl) k (fun h18 k => ?_)
  refine jr_iload_n 0 dX12_later_20 rfl rfl ?_
  exact jr_iret (ty := .int) rfl rfl dX12_later_21 k
set_option maxRecDepth 20000 in
theorem bX12_debtIn_0 {g : jG} {d : Nat} {hs : jH} {P : jO → jH → Prop} {x0 : Nat} {x1 : Int32} {x2 : Int32} {h : jH} (k : ∃ fs3 : List Value, h.1 x0 = some (.inr (12, fs3)) ∧ Con g mX12_isHouse d [.ref x0, .long x1.toInt64] h (jPi (fun (r1 : Int32) (h2 : jH) => (r1 = 0 → J g mX12_debtIn (d + 1) hs P 31 [(0, .ref x0), (1, .int x1), (2, .int x2)] [.int 1, .ref x0] h2) ∧ (¬ r1 = 0 → Con g mX12_within d [.long x2.toInt64, .long 0, .long 200] h2 (jPi (fun (r5 : Int32) (h6 : jH) => (r5 = 0 → J g mX12_debtIn (d + 1) hs P 31 [(0, .ref x0), (1, .int x1), (2, .int x2)] [.int 2, .ref x0] h6) ∧ (¬ r5 = 0 → J g mX12_debtIn (d + 1) hs P 31 [(0, .ref x0), (1, .int x1), (2, .int x2)] [.int 0, .ref x0] h6)) (fun E h' => P (.inr E) h')))) (fun E h' => P (.inr E) h'))) : J g mX12_debtIn (d + 1) hs P 0 [(0, .ref x0), (1, .int x1), (2, .int x2)] [] h := by
  refine jr_aload_n 0 dX12_debtIn_0 rfl rfl ?_
  refine jr_aload_n 0 dX12_debtIn_1 rfl rfl ?_
  refine jr_iload_n 1 dX12_debtIn_2 rfl rfl ?_
  refine jr_i2l dX12_debtIn_3 ?_
  obtain ⟨fs3, e4, k⟩ := k
  refine jr_cVi (As := [.long x1.toInt64]) jl_X12_313 km_X12_isHouse rfl rfl dX12_debtIn_4 e4 (Nat.le_of_ble_eq_true rfl) k (fun r1 h2 k => ?_)
  refine jr_if_ne (tgt := 14) dX12_debtIn_7 (by decide) (fun c7 => ?_) (fun c7 => ?_)
  · have k := k.2 c7
    refine jr_iload_n 2 dX12_debtIn_14 rfl rfl ?_
    refine jr_i2l dX12_debtIn_15 ?_
    refine jr_lconst (v := 0) dX12_debtIn_16 (by decide) ?_
    refine jr_ldc2 (v := 200) jk_X12_369 dX12_debtIn_17 ?_
    refine jr_cSi (As := [.long x2.toInt64, .long 0, .long 200]) jl_X12_128 km_X12_within rfl rfl dX12_debtIn_20 (Nat.le_of_ble_eq_true rfl) k (fun r5 h6 k => ?_)
    refine jr_if_eq (tgt := 30) dX12_debtIn_23 (by decide) (fun c23 => ?_) (fun c23 => ?_)
    · have k := k.1 c23
      refine jr_iconst (v := 2) dX12_debtIn_30 (by decide) ?_
      exact jr_sub [0, 1, 2] rfl k
    · have k := k.2 c23
      refine jr_iconst (v := 0) dX12_debtIn_26 (by decide) ?_
      refine jr_goto (tgt := 31) dX12_debtIn_27 (by decide) ?_
      exact jr_sub [0, 1, 2] rfl k
  · have k := k.1 c7
    refine jr_iconst (v := 1) dX12_debtIn_10 (by decide) ?_
    refine jr_goto (tgt := 31) dX12_debtIn_11 (by decide) ?_
    exact jr_sub [0, 1, 2] rfl k
set_option maxRecDepth 20000 in
theorem bX12_debtIn_31 {g : jG} {d : Nat} {hs : jH} {P : jO → jH → Prop} {x0 : Nat} {x1 : Int32} {x2 : Int32} {s0 : Nat} {s1 : Int32} {h : jH} (k : ∃ fs1 : List Value, h.1 s0 = some (.inr (12, fs1)) ∧ 4 < fs1.length ∧ (∀ h4 : jH, h4 = jset h s0 (.inr (12, fs1.set 4 (.int s1))) → ∃ fs6 : List Value, h4.1 x0 = some (.inr (12, fs6)) ∧ ∃ v9 : Int32, fs6[4]? = some (.int v9) ∧ (0 < v9 → P (.inl (some (.int 0))) h4) ∧ (¬ 0 < v9 → ∃ fs12 : List Value, h4.1 x0 = some (.inr (12, fs12)) ∧ Con g mX12_later d [.ref x0, .int (36 + x1), .int x2] h4 (jPi (fun (r10 : Int32) (h11 : jH) => P (.inl (some (.int r10))) h11) (fun E h' => P (.inr E) h'))))) : J g mX12_debtIn (d + 1) hs P 31 [(0, .ref x0), (1, .int x1), (2, .int x2)] [.int s1, .ref s0] h := by
  obtain ⟨fs1, e2, e3, k⟩ := k
  refine jr_putE jp_X12_67 dX12_debtIn_31 e2 e3 rfl rfl (fun h4 eh5 => ?_)
  have k := k h4 eh5
  refine jr_aload_n 0 dX12_debtIn_34 rfl rfl ?_
  obtain ⟨fs6, e7, v9, e8, k⟩ := k
  refine jr_get jf_X12_67 dX12_debtIn_35 e7 e8 ?_
  refine jr_if_le (tgt := 45) dX12_debtIn_38 (by decide) (fun c38 => ?_) (fun c38 => ?_)
  · have k := k.2 c38
    refine jr_aload_n 0 dX12_debtIn_45 rfl rfl ?_
    refine jr_bipush (v := 36) dX12_debtIn_46 (by decide) ?_
    refine jr_iload_n 1 dX12_debtIn_48 rfl rfl ?_
    refine jr_iadd dX12_debtIn_49 ?_
    refine jr_iload_n 2 dX12_debtIn_50 rfl rfl ?_
    obtain ⟨fs12, e13, k⟩ := k
    refine jr_cVi (As := [.int (36 + x1), .int x2]) jl_X12_410 km_X12_later rfl rfl dX12_debtIn_51 e13 (Nat.le_of_ble_eq_true rfl) k (fun r10 h11 k => ?_)
    exact jr_iret (ty := .int) rfl rfl dX12_debtIn_54 k
  · have k := k.1 c38
    refine jr_iconst (v := 0) dX12_debtIn_41 (by decide) ?_
    refine jr_goto (tgt := 54) dX12_debtIn_42 (by decide) ?_
    exact jr_iret (ty := .int) rfl rfl dX12_debtIn_54 k
set_option maxRecDepth 20000 in
theorem bX12_cashIn_0 {g : jG} {d : Nat} {hs : jH} {P : jO → jH → Prop} {x0 : Nat} {x1 : Int32} {x2 : Int32} {h : jH} (k : ∃ fs3 : List Value, h.1 x0 = some (.inr (12, fs3)) ∧ Con g mX12_isHouse d [.ref x0, .long x1.toInt64] h (jPi (fun (r1 : Int32) (h2 : jH) => (r1 = 0 → J g mX12_cashIn (d + 1) hs P 31 [(0, .ref x0), (1, .int x1), (2, .int x2)] [.int 1, .ref x0] h2) ∧ (¬ r1 = 0 → Con g mX12_within d [.long x2.toInt64, .long 0, .long 200] h2 (jPi (fun (r5 : Int32) (h6 : jH) => (r5 = 0 → J g mX12_cashIn (d + 1) hs P 31 [(0, .ref x0), (1, .int x1), (2, .int x2)] [.int 2, .ref x0] h6) ∧ (¬ r5 = 0 → J g mX12_cashIn (d + 1) hs P 31 [(0, .ref x0), (1, .int x1), (2, .int x2)] [.int 0, .ref x0] h6)) (fun E h' => P (.inr E) h')))) (fun E h' => P (.inr E) h'))) : J g mX12_cashIn (d + 1) hs P 0 [(0, .ref x0), (1, .int x1), (2, .int x2)] [] h := by
  refine jr_aload_n 0 dX12_cashIn_0 rfl rfl ?_
  refine jr_aload_n 0 dX12_cashIn_1 rfl rfl ?_
  refine jr_iload_n 1 dX12_cashIn_2 rfl rfl ?_
  refine jr_i2l dX12_cashIn_3 ?_
  obtain ⟨fs3, e4, k⟩ := k
  refine jr_cVi (As := [.long x1.toInt64]) jl_X12_313 km_X12_isHouse rfl rfl dX12_cashIn_4 e4 (Nat.le_of_ble_eq_true rfl) k (fun r1 h2 k => ?_)
  refine jr_if_ne (tgt := 14) dX12_cashIn_7 (by decide) (fun c7 => ?_) (fun c7 => ?_)
  · have k := k.2 c7
    refine jr_iload_n 2 dX12_cashIn_14 rfl rfl ?_
    refine jr_i2l dX12_cashIn_15 ?_
    refine jr_lconst (v := 0) dX12_cashIn_16 (by decide) ?_
    refine jr_ldc2 (v := 200) jk_X12_369 dX12_cashIn_17 ?_
    refine jr_cSi (As := [.long x2.toInt64, .long 0, .long 200]) jl_X12_128 km_X12_within rfl rfl dX12_cashIn_20 (Nat.le_of_ble_eq_true rfl) k (fun r5 h6 k => ?_)
    refine jr_if_eq (tgt := 30) dX12_cashIn_23 (by decide) (fun c23 => ?_) (fun c23 => ?_)
    · have k := k.1 c23
      refine jr_iconst (v := 2) dX12_cashIn_30 (by decide) ?_
      exact jr_sub [0, 1, 2] rfl k
    · have k := k.2 c23
      refine jr_iconst (v := 0) dX12_cashIn_26 (by decide) ?_
      refine jr_goto (tgt := 31) dX12_cashIn_27 (by decide) ?_
      exact jr_sub [0, 1, 2] rfl k
  · have k := k.1 c7
    refine jr_iconst (v := 1) dX12_cashIn_10 (by decide) ?_
    refine jr_goto (tgt := 31) dX12_cashIn_11 (by decide) ?_
    exact jr_sub [0, 1, 2] rfl k
set_option maxRecDepth 20000 in
theorem bX12_cashIn_31 {g : jG} {d : Nat} {hs : jH} {P : jO → jH → Prop} {x0 : Nat} {x1 : Int32} {x2 : Int32} {s0 : Nat} {s1 : Int32} {h : jH} (k : ∃ fs1 : List Value, h.1 s0 = some (.inr (12, fs1)) ∧ 4 < fs1.length ∧ (∀ h4 : jH, h4 = jset h s0 (.inr (12, fs1.set 4 (.int s1))) → ∃ fs6 : List Value, h4.1 x0 = some (.inr (12, fs6)) ∧ ∃ v9 : Int32, fs6[4]? = some (.int v9) ∧ (0 < v9 → P (.inl (some (.int 0))) h4) ∧ (¬ 0 < v9 → ∃ fs12 : List Value, h4.1 x0 = some (.inr (12, fs12)) ∧ Con g mX12_later d [.ref x0, .int (22 + x1), .int x2] h4 (jPi (fun (r10 : Int32) (h11 : jH) => P (.inl (some (.int r10))) h11) (fun E h' => P (.inr E) h'))))) : J g mX12_cashIn (d + 1) hs P 31 [(0, .ref x0), (1, .int x1), (2, .int x2)] [.int s1, .ref s0] h := by
  obtain ⟨fs1, e2, e3, k⟩ := k
  refine jr_putE jp_X12_67 dX12_cashIn_31 e2 e3 rfl rfl (fun h4 eh5 => ?_)
  have k := k h4 eh5
  refine jr_aload_n 0 dX12_cashIn_34 rfl rfl ?_
  obtain ⟨fs6, e7, v9, e8, k⟩ := k
  refine jr_get jf_X12_67 dX12_cashIn_35 e7 e8 ?_
  refine jr_if_le (tgt := 45) dX12_cashIn_38 (by decide) (fun c38 => ?_) (fun c38 => ?_)
  · have k := k.2 c38
    refine jr_aload_n 0 dX12_cashIn_45 rfl rfl ?_
    refine jr_bipush (v := 22) dX12_cashIn_46 (by decide) ?_
    refine jr_iload_n 1 dX12_cashIn_48 rfl rfl ?_
    refine jr_iadd dX12_cashIn_49 ?_
    refine jr_iload_n 2 dX12_cashIn_50 rfl rfl ?_
    obtain ⟨fs12, e13, k⟩ := k
    refine jr_cVi (As := [.int (22 + x1), .int x2]) jl_X12_410 km_X12_later rfl rfl dX12_cashIn_51 e13 (Nat.le_of_ble_eq_true rfl) k (fun r10 h11 k => ?_)
    exact jr_iret (ty := .int) rfl rfl dX12_cashIn_54 k
  · have k := k.1 c38
    refine jr_iconst (v := 0) dX12_cashIn_41 (by decide) ?_
    refine jr_goto (tgt := 54) dX12_cashIn_42 (by decide) ?_
    exact jr_iret (ty := .int) rfl rfl dX12_cashIn_54 k
set_option maxRecDepth 20000 in
theorem bX12_ruinIn_0 {g : jG} {d : Nat} {hs : jH} {P : jO → jH → Prop} {x0 : Nat} {x1 : Int32} {h : jH} (k : ∃ fs1 : List Value, h.1 x0 = some (.inr (12, fs1)) ∧ 4 < fs1.length ∧ (∀ h4 : jH, h4 = jset h x0 (.inr (12, fs1.set 4 (.int 0))) → ∃ fs8 : List Value, h4.1 x0 = some (.inr (12, fs8)) ∧ Con g mX12_isHouse d [.ref x0, .long x1.toInt64] h4 (jPi (fun (r6 : Int32) (h7 : jH) => (r6 = 0 → ∃ fs16 : List Value, h7.1 x0 = some (.inr (12, fs16)) ∧ Con g mX12_fails d [.ref x0, .int 1] h7 (jPi (fun (r14 : Int32) (h15 : jH) => P (.inl (some (.int r14))) h15) (fun E h' => P (.inr E) h'))) ∧ (¬ r6 = 0 → ∃ fs12 : List Value, h7.1 x0 = some (.inr (12, fs12)) ∧ Con g mX12_putsAside d [.ref x0] h7 (jPv (fun (h11 : jH) => J g mX12_ruinIn (d + 1) hs P 26 [(0, .ref x0), (1, .int x1), (2, .int 0)] [] h11) (fun E h' => P (.inr E) h')))) (fun E h' => P (.inr E) h')))) : J g mX12_ruinIn (d + 1) hs P 0 [(0, .ref x0), (1, .int x1)] [] h := by
  refine jr_aload_n 0 dX12_ruinIn_0 rfl rfl ?_
  refine jr_iconst (v := 0) dX12_ruinIn_1 (by decide) ?_
  obtain ⟨fs1, e2, e3, k⟩ := k
  refine jr_putE jp_X12_67 dX12_ruinIn_2 e2 e3 rfl rfl (fun h4 eh5 => ?_)
  have k := k h4 eh5
  refine jr_aload_n 0 dX12_ruinIn_5 rfl rfl ?_
  refine jr_iload_n 1 dX12_ruinIn_6 rfl rfl ?_
  refine jr_i2l dX12_ruinIn_7 ?_
  obtain ⟨fs8, e9, k⟩ := k
  refine jr_cVi (As := [.long x1.toInt64]) jl_X12_313 km_X12_isHouse rfl rfl dX12_ruinIn_8 e9 (Nat.le_of_ble_eq_true rfl) k (fun r6 h7 k => ?_)
  refine jr_if_ne (tgt := 20) dX12_ruinIn_11 (by decide) (fun c11 => ?_) (fun c11 => ?_)
  · have k := k.2 c11
    refine jr_aload_n 0 dX12_ruinIn_20 rfl rfl ?_
    obtain ⟨fs12, e13, k⟩ := k
    refine jr_cVv (As := []) jl_X12_380 km_X12_putsAside rfl rfl dX12_ruinIn_21 e13 (Nat.le_of_ble_eq_true rfl) k (fun h11 k => ?_)
    refine jr_iconst (v := 0) dX12_ruinIn_24 (by decide) ?_
    refine jr_istore_n (lv' := [(2, .int 0), (0, .ref x0), (1, .int x1)]) dX12_ruinIn_25 rfl (by decide) rfl ?_
    exact jr_sub [1, 2, 0] rfl k
  · have k := k.1 c11
    refine jr_aload_n 0 dX12_ruinIn_14 rfl rfl ?_
    refine jr_iconst (v := 1) dX12_ruinIn_15 (by decide) ?_
    obtain ⟨fs16, e17, k⟩ := k
    refine jr_cVi (As := [.int 1]) jl_X12_234 km_X12_fails rfl rfl dX12_ruinIn_16 e17 (Nat.le_of_ble_eq_true rfl) k (fun r14 h15 k => ?_)
    exact jr_iret (ty := .int) rfl rfl dX12_ruinIn_19 k
set_option maxRecDepth 20000 in
theorem bX12_ruinIn_26 {g : jG} {d : Nat} {hs : jH} {P : jO → jH → Prop} {x0 : Nat} {x1 : Int32} {x2 : Int32} {h : jH} (k : (200 < x2 → J g mX12_ruinIn (d + 1) hs P 51 [(0, .ref x0), (2, .int x2)] [] h) ∧ (¬ 200 < x2 → ∃ fs3 : List Value, h.1 x0 = some (.inr (12, fs3)) ∧ Con g mX12_isGone d [.ref x0, .int x1] h (jPi (fun (r1 : Int32) (h2 : jH) => (r1 = 0 → ∃ fs7 : List Value, h2.1 x0 = some (.inr (12, fs7)) ∧ Con g mX12_quarter d [.ref x0] h2 (jPv (fun (h6 : jH) => J g mX12_ruinIn (d + 1) hs P 26 [(0, .ref x0), (1, .int x1), (2, .int (x2 + 1))] [] h6) (fun E h' => P (.inr E) h'))) ∧ (¬ r1 = 0 → J g mX12_ruinIn (d + 1) hs P 51 [(0, .ref x0), (2, .int x2)] [] h2)) (fun E h' => P (.inr E) h')))) : J g mX12_ruinIn (d + 1) hs P 26 [(0, .ref x0), (1, .int x1), (2, .int x2)] [] h := by
  refine jr_iload_n 2 dX12_ruinIn_26 rfl rfl ?_
  refine jr_sipush (v := 200) dX12_ruinIn_27 (by decide) ?_
  refine jr_icmp_gt (tgt := 51) dX12_ruinIn_30 (by decide) (fun c30 => ?_) (fun c30 => ?_)
  · have k := k.1 c30
    exact jr_sub [0, 2] rfl k
  · have k := k.2 c30
    refine jr_aload_n 0 dX12_ruinIn_33 rfl rfl ?_
    refine jr_iload_n 1 dX12_ruinIn_34 rfl rfl ?_
    obtain ⟨fs3, e4, k⟩ := k
    refine jr_cVi (As := [.int x1]) jl_X12_291 km_X12_isGone rfl rfl dX12_ruinIn_35 e4 (Nat.le_of_ble_eq_true rfl) k (fun r1 h2 k => ?_)
    refine jr_if_ne (tgt := 51) dX12_ruinIn_38 (by decide) (fun c38 => ?_) (fun c38 => ?_)
    · have k := k.2 c38
      exact jr_sub [0, 2] rfl k
    · have k := k.1 c38
      refine jr_aload_n 0 dX12_ruinIn_41 rfl rfl ?_
      obtain ⟨fs7, e8, k⟩ := k
      refine jr_cVv (As := []) jl_X12_356 km_X12_quarter rfl rfl dX12_ruinIn_42 e8 (Nat.le_of_ble_eq_true rfl) k (fun h6 k => ?_)
      refine jr_iinc (v := (x2 + 1)) (lv' := [(2, .int (x2 + 1)), (0, .ref x0), (1, .int x1)]) 2 dX12_ruinIn_45 rfl rfl (by decide) rfl ?_
      refine jr_goto (tgt := 26) dX12_ruinIn_48 (by decide) ?_
      exact jr_sub [1, 2, 0] rfl k
set_option maxRecDepth 20000 in
theorem bX12_ruinIn_51 {g : jG} {d : Nat} {hs : jH} {P : jO → jH → Prop} {x0 : Nat} {x2 : Int32} {h : jH} (k : ∃ fs3 : List Value, h.1 x0 = some (.inr (12, fs3)) ∧ Con g mX12_putsBack d [.ref x0] h (jPv (fun (h2 : jH) => (200 < x2 → P (.inl (some (.int ((-1))))) h2) ∧ (¬ 200 < x2 → P (.inl (some (.int x2))) h2)) (fun E h' => P (.inr E) h'))) : J g mX12_ruinIn (d + 1) hs P 51 [(0, .ref x0), (2, .int x2)] [] h := by
  refine jr_aload_n 0 dX12_ruinIn_51 rfl rfl ?_
  obtain ⟨fs3, e4, k⟩ := k
  refine jr_cVv (As := []) jl_X12_392 km_X12_putsBack rfl rfl dX12_ruinIn_52 e4 (Nat.le_of_ble_eq_true rfl) k (fun h2 k => ?_)
  refine jr_iload_n 1 dX12_ruinIn_55 rfl rfl ?_
  refine jr_sipush (v := 200) dX12_ruinIn_56 (by decide) ?_
  refine jr_icmp_le (tgt := 66) dX12_ruinIn_59 (by decide) (fun c59 => ?_) (fun c59 => ?_)
  · have k := k.2 c59
    refine jr_iload_n 1 dX12_ruinIn_66 rfl rfl ?_
    exact jr_iret (ty := .int) rfl rfl dX12_ruinIn_67 k
  · have k := k.1 c59
    refine jr_iconst (v := (-1)) dX12_ruinIn_62 (by decide) ?_
    refine jr_goto (tgt := 67) dX12_ruinIn_63 (by decide) ?_
    exact jr_iret (ty := .int) rfl rfl dX12_ruinIn_67 k
set_option maxRecDepth 20000 in
theorem bX12_isSoon_0 {g : jG} {d : Nat} {hs : jH} {P : jO → jH → Prop} {x0 : Int32} {h : jH} (k : Con g mX12_within d [.long x0.toInt64, .long 1, .long 20] h (jPi (fun (r1 : Int32) (h2 : jH) => (r1 = 0 ∨ r1 = 1) ∧ P (.inl (some (.int r1))) h2) (fun E h' => P (.inr E) h'))) : J g mX12_isSoon (d + 1) hs P 0 [(0, .int x0)] [] h := by
  refine jr_iload_n 0 dX12_isSoon_0 rfl rfl ?_
  refine jr_i2l dX12_isSoon_1 ?_
  refine jr_lconst (v := 1) dX12_isSoon_2 (by decide) ?_
  refine jr_ldc2 (v := 20) jk_X12_346 dX12_isSoon_3 ?_
  refine jr_cSi (As := [.long x0.toInt64, .long 1, .long 20]) jl_X12_128 km_X12_within rfl rfl dX12_isSoon_6 (Nat.le_of_ble_eq_true rfl) k (fun r1 h2 k => ?_)
  exact jr_iret (ty := .boolean) rfl (jz_n k.1) dX12_isSoon_9 k.2
set_option maxRecDepth 20000 in
theorem bX12_lostFromHere_0 {g : jG} {d : Nat} {hs : jH} {P : jO → jH → Prop} {x0 : Nat} {x1 : Int32} {h : jH} (k : ∃ fs1 : List Value, h.1 x0 = some (.inr (12, fs1)) ∧ 27 < fs1.length ∧ (∀ h4 : jH, h4 = jset h x0 (.inr (12, fs1.set 27 (.int 0))) → J g mX12_lostFromHere (d + 1) hs P 7 [(0, .ref x0), (1, .int x1), (2, .int 0)] [] h4)) : J g mX12_lostFromHere (d + 1) hs P 0 [(0, .ref x0), (1, .int x1)] [] h := by
  refine jr_aload_n 0 dX12_lostFromHere_0 rfl rfl ?_
  refine jr_iconst (v := 0) dX12_lostFromHere_1 (by decide) ?_
  obtain ⟨fs1, e2, e3, k⟩ := k
  refine jr_putE jp_X12_413 dX12_lostFromHere_2 e2 e3 rfl rfl (fun h4 eh5 => ?_)
  have k := k h4 eh5
  refine jr_iconst (v := 0) dX12_lostFromHere_5 (by decide) ?_
  refine jr_istore_n (lv' := [(2, .int 0), (0, .ref x0), (1, .int x1)]) dX12_lostFromHere_6 rfl (by decide) rfl ?_
  exact jr_sub [1, 2, 0] rfl k
set_option maxRecDepth 20000 in
theorem bX12_lostFromHere_7 {g : jG} {d : Nat} {hs : jH} {P : jO → jH → Prop} {x0 : Nat} {x1 : Int32} {x2 : Int32} {h : jH} (k : ∃ fs3 : List Value, h.1 x0 = some (.inr (12, fs3)) ∧ Con g mX12_houses d [.ref x0] h (jPi (fun (r1 : Int32) (h2 : jH) => (x2 < r1 → ∃ fs18 : List Value, h2.1 x0 = some (.inr (12, fs18)) ∧ ∃ v21 : Int32, fs18[27]? = some (.int v21) ∧ ∃ fs24 : List Value, h2.1 x0 = some (.inr (12, fs24)) ∧ Con g mX12_isGone d [.ref x0, .int x2] h2 (jPi (fun (r22 : Int32) (h23 : jH) => (r22 = 0 → J g mX12_lostFromHere (d + 1) hs P 35 [(0, .ref x0), (1, .int x1), (2, .int x2)] [.int 0, .int v21, .ref x0] h23) ∧ (¬ r22 = 0 → J g mX12_lostFromHere (d + 1) hs P 35 [(0, .ref x0), (1, .int x1), (2, .int x2)] [.int ((1 : Int32) <<< (x2 &&& 31)), .int v21, .ref x0] h23)) (fun E h' => P (.inr E) h'))) ∧ (¬ x2 < r1 → ∃ fs5 : List Value, h2.1 x0 = some (.inr (12, fs5)) ∧ ∃ v8 : Int32, fs5[27]? = some (.int v8) ∧ ∃ fs11 : List Value, h2.1 x0 = some (.inr (12, fs11)) ∧ Con g mX12_goesOn d [.ref x0, .int x1] h2 (jPv (fun (h10 : jH) => ∃ fs13 : List Value, h10.1 x0 = some (.inr (12, fs13)) ∧ 27 < fs13.length ∧ (∀ h16 : jH, h16 = jset h10 x0 (.inr (12, fs13.set 27 (.int 0))) → J g mX12_lostFromHere (d + 1) hs P 62 [(0, .ref x0), (2, .int v8), (3, .int 0)] [] h16)) (fun E h' => P (.inr E) h')))) (fun E h' => P (.inr E) h'))) : J g mX12_lostFromHere (d + 1) hs P 7 [(0, .ref x0), (1, .int x1), (2, .int x2)] [] h := by
  refine jr_iload_n 2 dX12_lostFromHere_7 rfl rfl ?_
  refine jr_aload_n 0 dX12_lostFromHere_8 rfl rfl ?_
  obtain ⟨fs3, e4, k⟩ := k
  refine jr_cVi (As := []) jl_X12_249 km_X12_houses rfl rfl dX12_lostFromHere_9 e4 (Nat.le_of_ble_eq_true rfl) k (fun r1 h2 k => ?_)
  refine jr_icmp_ge (tgt := 45) dX12_lostFromHere_12 (by decide) (fun c12 => ?_) (fun c12 => ?_)
  · have k := k.2 c12
    refine jr_aload_n 0 dX12_lostFromHere_45 rfl rfl ?_
    obtain ⟨fs5, e6, v8, e7, k⟩ := k
    refine jr_get jf_X12_413 dX12_lostFromHere_46 e6 e7 ?_
    refine jr_istore_n (lv' := [(2, .int v8), (0, .ref x0), (1, .int x1)]) dX12_lostFromHere_49 rfl (by decide) rfl ?_
    refine jr_aload_n 1 dX12_lostFromHere_50 rfl rfl ?_
    refine jr_iload_n 2 dX12_lostFromHere_51 rfl rfl ?_
    obtain ⟨fs11, e12, k⟩ := k
    refine jr_cVv (As := [.int x1]) jl_X12_407 km_X12_goesOn rfl rfl dX12_lostFromHere_52 e12 (Nat.le_of_ble_eq_true rfl) k (fun h10 k => ?_)
    refine jr_aload_n 1 dX12_lostFromHere_55 rfl rfl ?_
    refine jr_iconst (v := 0) dX12_lostFromHere_56 (by decide) ?_
    obtain ⟨fs13, e14, e15, k⟩ := k
    refine jr_putE jp_X12_413 dX12_lostFromHere_57 e14 e15 rfl rfl (fun h16 eh17 => ?_)
    have k := k h16 eh17
    refine jr_iconst (v := 0) dX12_lostFromHere_60 (by decide) ?_
    refine jr_istore_n (lv' := [(3, .int 0), (2, .int v8), (0, .ref x0), (1, .int x1)]) dX12_lostFromHere_61 rfl (by decide) rfl ?_
    exact jr_sub [2, 1, 0] rfl k
  · have k := k.1 c12
    refine jr_aload_n 0 dX12_lostFromHere_15 rfl rfl ?_
    refine jr_dup dX12_lostFromHere_16 rfl ?_
    obtain ⟨fs18, e19, v21, e20, k⟩ := k
    refine jr_get jf_X12_413 dX12_lostFromHere_17 e19 e20 ?_
    refine jr_aload_n 0 dX12_lostFromHere_20 rfl rfl ?_
    refine jr_iload_n 2 dX12_lostFromHere_21 rfl rfl ?_
    obtain ⟨fs24, e25, k⟩ := k
    refine jr_cVi (As := [.int x2]) jl_X12_291 km_X12_isGone rfl rfl dX12_lostFromHere_22 e25 (Nat.le_of_ble_eq_true rfl) k (fun r22 h23 k => ?_)
    refine jr_if_eq (tgt := 34) dX12_lostFromHere_25 (by decide) (fun c25 => ?_) (fun c25 => ?_)
    · have k := k.1 c25
      refine jr_iconst (v := 0) dX12_lostFromHere_34 (by decide) ?_
      exact jr_sub [0, 1, 2] rfl k
    · have k := k.2 c25
      refine jr_iconst (v := 1) dX12_lostFromHere_28 (by decide) ?_
      refine jr_iload_n 2 dX12_lostFromHere_29 rfl rfl ?_
      refine jr_ishl dX12_lostFromHere_30 ?_
      refine jr_goto (tgt := 35) dX12_lostFromHere_31 (by decide) ?_
      exact jr_sub [0, 1, 2] rfl k
set_option maxRecDepth 20000 in
theorem bX12_lostFromHere_35 {g : jG} {d : Nat} {hs : jH} {P : jO → jH → Prop} {x0 : Nat} {x1 : Int32} {x2 : Int32} {s0 : Nat} {s1 : Int32} {s2 : Int32} {h : jH} (k : ∃ fs1 : List Value, h.1 s0 = some (.inr (12, fs1)) ∧ 27 < fs1.length ∧ (∀ h4 : jH, h4 = jset h s0 (.inr (12, fs1.set 27 (.int (s1 ||| s2)))) → J g mX12_lostFromHere (d + 1) hs P 7 [(0, .ref x0), (1, .int x1), (2, .int (x2 + 1))] [] h4)) : J g mX12_lostFromHere (d + 1) hs P 35 [(0, .ref x0), (1, .int x1), (2, .int x2)] [.int s2, .int s1, .ref s0] h := by
  refine jr_ior dX12_lostFromHere_35 ?_
  obtain ⟨fs1, e2, e3, k⟩ := k
  refine jr_putE jp_X12_413 dX12_lostFromHere_36 e2 e3 rfl rfl (fun h4 eh5 => ?_)
  have k := k h4 eh5
  refine jr_iinc (v := (x2 + 1)) (lv' := [(2, .int (x2 + 1)), (0, .ref x0), (1, .int x1)]) 2 dX12_lostFromHere_39 rfl rfl (by decide) rfl ?_
  refine jr_goto (tgt := 7) dX12_lostFromHere_42 (by decide) ?_
  exact jr_sub [1, 2, 0] rfl k
set_option maxRecDepth 20000 in
theorem bX12_lostFromHere_62 {g : jG} {d : Nat} {hs : jH} {P : jO → jH → Prop} {x0 : Nat} {x2 : Int32} {x3 : Int32} {h : jH} (k : ∃ fs3 : List Value, h.1 x0 = some (.inr (12, fs3)) ∧ Con g mX12_houses d [.ref x0] h (jPi (fun (r1 : Int32) (h2 : jH) => (x3 < r1 → ∃ fs24 : List Value, h2.1 x0 = some (.inr (12, fs24)) ∧ ∃ v27 : Int32, fs24[27]? = some (.int v27) ∧ ∃ fs30 : List Value, h2.1 x0 = some (.inr (12, fs30)) ∧ Con g mX12_isGone d [.ref x0, .int x3] h2 (jPi (fun (r28 : Int32) (h29 : jH) => (r28 = 0 → J g mX12_lostFromHere (d + 1) hs P 90 [(0, .ref x0), (2, .int x2), (3, .int x3)] [.int 0, .int v27, .ref x0] h29) ∧ (¬ r28 = 0 → J g mX12_lostFromHere (d + 1) hs P 90 [(0, .ref x0), (2, .int x2), (3, .int x3)] [.int ((1 : Int32) <<< (x3 &&& 31)), .int v27, .ref x0] h29)) (fun E h' => P (.inr E) h'))) ∧ (¬ x3 < r1 → ∃ fs5 : List Value, h2.1 x0 = some (.inr (12, fs5)) ∧ ∃ v8 : Int32, fs5[27]? = some (.int v8) ∧ ∃ fs9 : List Value, h2.1 x0 = some (.inr (12, fs9)) ∧ 27 < fs9.length ∧ (∀ h12 : jH, h12 = jset h2 x0 (.inr (12, fs9.set 27 (.int (v8 &&& (x2 ^^^ (-1)))))) → ∃ fs16 : List Value, h12.1 x0 = some (.inr (12, fs16)) ∧ Con g mX12_putsBack d [.ref x0] h12 (jPv (fun (h15 : jH) => ∃ fs18 : List Value, h15.1 x0 = some (.inr (12, fs18)) ∧ ∃ v21 : Int32, fs18[27]? = some (.int v21) ∧ Con g mX12_size d [.int v21] h15 (jPi (fun (r22 : Int32) (h23 : jH) => P (.inl (some (.int r22))) h23) (fun E h' => P (.inr E) h'))) (fun E h' => P (.inr E) h'))))) (fun E h' => P (.inr E) h'))) : J g mX12_lostFromHere (d + 1) hs P 62 [(0, .ref x0), (2, .int x2), (3, .int x3)] [] h := by
  refine jr_iload_n 2 dX12_lostFromHere_62 rfl rfl ?_
  refine jr_aload_n 0 dX12_lostFromHere_63 rfl rfl ?_
  obtain ⟨fs3, e4, k⟩ := k
  refine jr_cVi (As := []) jl_X12_249 km_X12_houses rfl rfl dX12_lostFromHere_64 e4 (Nat.le_of_ble_eq_true rfl) k (fun r1 h2 k => ?_)
  refine jr_icmp_ge (tgt := 100) dX12_lostFromHere_67 (by decide) (fun c67 => ?_) (fun c67 => ?_)
  · have k := k.2 c67
    refine jr_aload_n 0 dX12_lostFromHere_100 rfl rfl ?_
    refine jr_dup dX12_lostFromHere_101 rfl ?_
    obtain ⟨fs5, e6, v8, e7, k⟩ := k
    refine jr_get jf_X12_413 dX12_lostFromHere_102 e6 e7 ?_
    refine jr_iload_n 1 dX12_lostFromHere_105 rfl rfl ?_
    refine jr_iconst (v := (-1)) dX12_lostFromHere_106 (by decide) ?_
    refine jr_ixor dX12_lostFromHere_107 ?_
    refine jr_iand dX12_lostFromHere_108 ?_
    obtain ⟨fs9, e10, e11, k⟩ := k
    refine jr_putE jp_X12_413 dX12_lostFromHere_109 e10 e11 rfl rfl (fun h12 eh13 => ?_)
    have k := k h12 eh13
    refine jr_aload_n 0 dX12_lostFromHere_112 rfl rfl ?_
    obtain ⟨fs16, e17, k⟩ := k
    refine jr_cVv (As := []) jl_X12_392 km_X12_putsBack rfl rfl dX12_lostFromHere_113 e17 (Nat.le_of_ble_eq_true rfl) k (fun h15 k => ?_)
    refine jr_aload_n 0 dX12_lostFromHere_116 rfl rfl ?_
    obtain ⟨fs18, e19, v21, e20, k⟩ := k
    refine jr_get jf_X12_413 dX12_lostFromHere_117 e19 e20 ?_
    refine jr_cSi (As := [.int v21]) jl_X12_416 km_X12_size rfl rfl dX12_lostFromHere_120 (Nat.le_of_ble_eq_true rfl) k (fun r22 h23 k => ?_)
    exact jr_iret (ty := .int) rfl rfl dX12_lostFromHere_123 k
  · have k := k.1 c67
    refine jr_aload_n 0 dX12_lostFromHere_70 rfl rfl ?_
    refine jr_dup dX12_lostFromHere_71 rfl ?_
    obtain ⟨fs24, e25, v27, e26, k⟩ := k
    refine jr_get jf_X12_413 dX12_lostFromHere_72 e25 e26 ?_
    refine jr_aload_n 0 dX12_lostFromHere_75 rfl rfl ?_
    refine jr_iload_n 2 dX12_lostFromHere_76 rfl rfl ?_
    obtain ⟨fs30, e31, k⟩ := k
    refine jr_cVi (As := [.int x3]) jl_X12_291 km_X12_isGone rfl rfl dX12_lostFromHere_77 e31 (Nat.le_of_ble_eq_true rfl) k (fun r28 h29 k => ?_)
    refine jr_if_eq (tgt := 89) dX12_lostFromHere_80 (by decide) (fun c80 => ?_) (fun c80 => ?_)
    · have k := k.1 c80
      refine jr_iconst (v := 0) dX12_lostFromHere_89 (by decide) ?_
      exact jr_sub [0, 1, 2] rfl k
    · have k := k.2 c80
      refine jr_iconst (v := 1) dX12_lostFromHere_83 (by decide) ?_
      refine jr_iload_n 2 dX12_lostFromHere_84 rfl rfl ?_
      refine jr_ishl dX12_lostFromHere_85 ?_
      refine jr_goto (tgt := 90) dX12_lostFromHere_86 (by decide) ?_
      exact jr_sub [0, 1, 2] rfl k
set_option maxRecDepth 20000 in
theorem bX12_lostFromHere_90 {g : jG} {d : Nat} {hs : jH} {P : jO → jH → Prop} {x0 : Nat} {x2 : Int32} {x3 : Int32} {s0 : Nat} {s1 : Int32} {s2 : Int32} {h : jH} (k : ∃ fs1 : List Value, h.1 s0 = some (.inr (12, fs1)) ∧ 27 < fs1.length ∧ (∀ h4 : jH, h4 = jset h s0 (.inr (12, fs1.set 27 (.int (s1 ||| s2)))) → J g mX12_lostFromHere (d + 1) hs P 62 [(0, .ref x0), (2, .int x2), (3, .int (x3 + 1))] [] h4)) : J g mX12_lostFromHere (d + 1) hs P 90 [(0, .ref x0), (2, .int x2), (3, .int x3)] [.int s2, .int s1, .ref s0] h := by
  refine jr_ior dX12_lostFromHere_90 ?_
  obtain ⟨fs1, e2, e3, k⟩ := k
  refine jr_putE jp_X12_413 dX12_lostFromHere_91 e2 e3 rfl rfl (fun h4 eh5 => ?_)
  have k := k h4 eh5
  refine jr_iinc (v := (x3 + 1)) (lv' := [(3, .int (x3 + 1)), (0, .ref x0), (2, .int x2)]) 2 dX12_lostFromHere_94 rfl rfl (by decide) rfl ?_
  refine jr_goto (tgt := 62) dX12_lostFromHere_97 (by decide) ?_
  exact jr_sub [1, 2, 0] rfl k
set_option maxRecDepth 20000 in
theorem bX12_lostNow_0 {g : jG} {d : Nat} {hs : jH} {P : jO → jH → Prop} {x0 : Nat} {x1 : Int32} {h : jH} (k : ∃ fs3 : List Value, h.1 x0 = some (.inr (12, fs3)) ∧ Con g mX12_putsAside d [.ref x0] h (jPv (fun (h2 : jH) => ∃ fs7 : List Value, h2.1 x0 = some (.inr (12, fs7)) ∧ Con g mX12_lostFromHere d [.ref x0, .int x1] h2 (jPi (fun (r5 : Int32) (h6 : jH) => P (.inl (some (.int r5))) h6) (fun E h' => P (.inr E) h'))) (fun E h' => P (.inr E) h'))) : J g mX12_lostNow (d + 1) hs P 0 [(0, .ref x0), (1, .int x1)] [] h := by
  refine jr_aload_n 0 dX12_lostNow_0 rfl rfl ?_
  obtain ⟨fs3, e4, k⟩ := k
  refine jr_cVv (As := []) jl_X12_380 km_X12_putsAside rfl rfl dX12_lostNow_1 e4 (Nat.le_of_ble_eq_true rfl) k (fun h2 k => ?_)
  refine jr_aload_n 0 dX12_lostNow_4 rfl rfl ?_
  refine jr_iload_n 1 dX12_lostNow_5 rfl rfl ?_
  obtain ⟨fs7, e8, k⟩ := k
  refine jr_cVi (As := [.int x1]) jl_X12_419 km_X12_lostFromHere rfl rfl dX12_lostNow_6 e8 (Nat.le_of_ble_eq_true rfl) k (fun r5 h6 k => ?_)
  exact jr_iret (ty := .int) rfl rfl dX12_lostNow_9 k
set_option maxRecDepth 20000 in
theorem bX12_lost_0 {g : jG} {d : Nat} {hs : jH} {P : jO → jH → Prop} {x0 : Nat} {x1 : Int32} {h : jH} (k : ∃ fs1 : List Value, h.1 x0 = some (.inr (12, fs1)) ∧ 4 < fs1.length ∧ (∀ h4 : jH, h4 = jset h x0 (.inr (12, fs1.set 4 (.int 0))) → Con g mX12_isSoon d [.int x1] h4 (jPi (fun (r6 : Int32) (h7 : jH) => (r6 = 0 → ∃ fs10 : List Value, h7.1 x0 = some (.inr (12, fs10)) ∧ Con g mX12_fails d [.ref x0, .int 1] h7 (jPi (fun (r8 : Int32) (h9 : jH) => P (.inl (some (.int r8))) h9) (fun E h' => P (.inr E) h'))) ∧ (¬ r6 = 0 → ∃ fs14 : List Value, h7.1 x0 = some (.inr (12, fs14)) ∧ Con g mX12_lostNow d [.ref x0, .int x1] h7 (jPi (fun (r12 : Int32) (h13 : jH) => P (.inl (some (.int r12))) h13) (fun E h' => P (.inr E) h')))) (fun E h' => P (.inr E) h')))) : J g mX12_lost (d + 1) hs P 0 [(0, .ref x0), (1, .int x1)] [] h := by
  refine jr_aload_n 0 dX12_lost_0 rfl rfl ?_
  refine jr_iconst (v := 0) dX12_lost_1 (by decide) ?_
  obtain ⟨fs1, e2, e3, k⟩ := k
  refine jr_putE jp_X12_67 dX12_lost_2 e2 e3 rfl rfl (fun h4 eh5 => ?_)
  have k := k h4 eh5
  refine jr_iload_n 1 dX12_lost_5 rfl rfl ?_
  refine jr_cSi (As := [.int x1]) jl_X12_422 km_X12_isSoon rfl rfl dX12_lost_6 (Nat.le_of_ble_eq_true rfl) k (fun r6 h7 k => ?_)
  refine jr_if_eq (tgt := 20) dX12_lost_9 (by decide) (fun c9 => ?_) (fun c9 => ?_)
  · have k := k.1 c9
    refine jr_aload_n 0 dX12_lost_20 rfl rfl ?_
    refine jr_iconst (v := 1) dX12_lost_21 (by decide) ?_
    obtain ⟨fs10, e11, k⟩ := k
    refine jr_cVi (As := [.int 1]) jl_X12_234 km_X12_fails rfl rfl dX12_lost_22 e11 (Nat.le_of_ble_eq_true rfl) k (fun r8 h9 k => ?_)
    exact jr_iret (ty := .int) rfl rfl dX12_lost_25 k
  · have k := k.2 c9
    refine jr_aload_n 0 dX12_lost_12 rfl rfl ?_
    refine jr_iload_n 1 dX12_lost_13 rfl rfl ?_
    obtain ⟨fs14, e15, k⟩ := k
    refine jr_cVi (As := [.int x1]) jl_X12_425 km_X12_lostNow rfl rfl dX12_lost_14 e15 (Nat.le_of_ble_eq_true rfl) k (fun r12 h13 k => ?_)
    refine jr_goto (tgt := 25) dX12_lost_17 (by decide) ?_
    exact jr_iret (ty := .int) rfl rfl dX12_lost_25 k
set_option maxRecDepth 20000 in
theorem bX12_clear_0 {g : jG} {d : Nat} {hs : jH} {P : jO → jH → Prop} {x0 : Nat} {h : jH} (k : ∃ fs1 : List Value, h.1 x0 = some (.inr (12, fs1)) ∧ 4 < fs1.length ∧ (∀ h4 : jH, h4 = jset h x0 (.inr (12, fs1.set 4 (.int 0))) → ∃ fs8 : List Value, h4.1 x0 = some (.inr (12, fs8)) ∧ Con g mX12_putsAside d [.ref x0] h4 (jPv (fun (h7 : jH) => J g mX12_clear (d + 1) hs P 11 [(0, .ref x0), (1, .int 0)] [] h7) (fun E h' => P (.inr E) h')))) : J g mX12_clear (d + 1) hs P 0 [(0, .ref x0)] [] h := by
  refine jr_aload_n 0 dX12_clear_0 rfl rfl ?_
  refine jr_iconst (v := 0) dX12_clear_1 (by decide) ?_
  obtain ⟨fs1, e2, e3, k⟩ := k
  refine jr_putE jp_X12_67 dX12_clear_2 e2 e3 rfl rfl (fun h4 eh5 => ?_)
  have k := k h4 eh5
  refine jr_aload_n 0 dX12_clear_5 rfl rfl ?_
  obtain ⟨fs8, e9, k⟩ := k
  refine jr_cVv (As := []) jl_X12_380 km_X12_putsAside rfl rfl dX12_clear_6 e9 (Nat.le_of_ble_eq_true rfl) k (fun h7 k => ?_)
  refine jr_iconst (v := 0) dX12_clear_9 (by decide) ?_
  refine jr_istore_n (lv' := [(1, .int 0), (0, .ref x0)]) dX12_clear_10 rfl (by decide) rfl ?_
  exact jr_sub [1, 0] rfl k
set_option maxRecDepth 20000 in
theorem bX12_clear_11 {g : jG} {d : Nat} {hs : jH} {P : jO → jH → Prop} {x0 : Nat} {x1 : Int32} {h : jH} (k : (200 < x1 → J g mX12_clear (d + 1) hs P 37 [(0, .ref x0), (1, .int x1)] [] h) ∧ (¬ 200 < x1 → ∃ fs3 : List Value, h.1 x0 = some (.inr (12, fs3)) ∧ Con g mX12_sumOf d [.ref x0, .int 36] h (jPi (fun (r1 : Int32) (h2 : jH) => (0 < r1 → ∃ fs7 : List Value, h2.1 x0 = some (.inr (12, fs7)) ∧ Con g mX12_quarter d [.ref x0] h2 (jPv (fun (h6 : jH) => J g mX12_clear (d + 1) hs P 11 [(0, .ref x0), (1, .int (x1 + 1))] [] h6) (fun E h' => P (.inr E) h'))) ∧ (¬ 0 < r1 → J g mX12_clear (d + 1) hs P 37 [(0, .ref x0), (1, .int x1)] [] h2)) (fun E h' => P (.inr E) h')))) : J g mX12_clear (d + 1) hs P 11 [(0, .ref x0), (1, .int x1)] [] h := by
  refine jr_iload_n 1 dX12_clear_11 rfl rfl ?_
  refine jr_sipush (v := 200) dX12_clear_12 (by decide) ?_
  refine jr_icmp_gt (tgt := 37) dX12_clear_15 (by decide) (fun c15 => ?_) (fun c15 => ?_)
  · have k := k.1 c15
    exact jr_sub [0, 1] rfl k
  · have k := k.2 c15
    refine jr_aload_n 0 dX12_clear_18 rfl rfl ?_
    refine jr_bipush (v := 36) dX12_clear_19 (by decide) ?_
    obtain ⟨fs3, e4, k⟩ := k
    refine jr_cVi (As := [.int 36]) jl_X12_389 km_X12_sumOf rfl rfl dX12_clear_21 e4 (Nat.le_of_ble_eq_true rfl) k (fun r1 h2 k => ?_)
    refine jr_if_le (tgt := 37) dX12_clear_24 (by decide) (fun c24 => ?_) (fun c24 => ?_)
    · have k := k.2 c24
      exact jr_sub [0, 1] rfl k
    · have k := k.1 c24
      refine jr_aload_n 0 dX12_clear_27 rfl rfl ?_
      obtain ⟨fs7, e8, k⟩ := k
      refine jr_cVv (As := []) jl_X12_356 km_X12_quarter rfl rfl dX12_clear_28 e8 (Nat.le_of_ble_eq_true rfl) k (fun h6 k => ?_)
      refine jr_iinc (v := (x1 + 1)) (lv' := [(1, .int (x1 + 1)), (0, .ref x0)]) 1 dX12_clear_31 rfl rfl (by decide) rfl ?_
      refine jr_goto (tgt := 11) dX12_clear_34 (by decide) ?_
      exact jr_sub [1, 0] rfl k
set_option maxRecDepth 20000 in
theorem bX12_clear_37 {g : jG} {d : Nat} {hs : jH} {P : jO → jH → Prop} {x0 : Nat} {x1 : Int32} {h : jH} (k : ∃ fs3 : List Value, h.1 x0 = some (.inr (12, fs3)) ∧ Con g mX12_putsBack d [.ref x0] h (jPv (fun (h2 : jH) => (200 < x1 → P (.inl (some (.int ((-1))))) h2) ∧ (¬ 200 < x1 → P (.inl (some (.int x1))) h2)) (fun E h' => P (.inr E) h'))) : J g mX12_clear (d + 1) hs P 37 [(0, .ref x0), (1, .int x1)] [] h := by
  refine jr_aload_n 0 dX12_clear_37 rfl rfl ?_
  obtain ⟨fs3, e4, k⟩ := k
  refine jr_cVv (As := []) jl_X12_392 km_X12_putsBack rfl rfl dX12_clear_38 e4 (Nat.le_of_ble_eq_true rfl) k (fun h2 k => ?_)
  refine jr_iload_n 1 dX12_clear_41 rfl rfl ?_
  refine jr_sipush (v := 200) dX12_clear_42 (by decide) ?_
  refine jr_icmp_le (tgt := 52) dX12_clear_45 (by decide) (fun c45 => ?_) (fun c45 => ?_)
  · have k := k.2 c45
    refine jr_iload_n 1 dX12_clear_52 rfl rfl ?_
    exact jr_iret (ty := .int) rfl rfl dX12_clear_53 k
  · have k := k.1 c45
    refine jr_iconst (v := (-1)) dX12_clear_48 (by decide) ?_
    refine jr_goto (tgt := 53) dX12_clear_49 (by decide) ?_
    exact jr_iret (ty := .int) rfl rfl dX12_clear_53 k
set_option maxRecDepth 20000 in
theorem bX12_seaIn_0 {g : jG} {d : Nat} {hs : jH} {P : jO → jH → Prop} {x0 : Nat} {x1 : Int32} {h : jH} (k : ∃ fs1 : List Value, h.1 x0 = some (.inr (12, fs1)) ∧ 4 < fs1.length ∧ (∀ h4 : jH, h4 = jset h x0 (.inr (12, fs1.set 4 (.int 0))) → Con g mX12_within d [.long x1.toInt64, .long 0, .long 200] h4 (jPi (fun (r6 : Int32) (h7 : jH) => (r6 = 0 → ∃ fs10 : List Value, h7.1 x0 = some (.inr (12, fs10)) ∧ Con g mX12_fails d [.ref x0, .int 1] h7 (jPi (fun (r8 : Int32) (h9 : jH) => P (.inl (some (.int r8))) h9) (fun E h' => P (.inr E) h'))) ∧ (¬ r6 = 0 → ∃ fs14 : List Value, h7.1 x0 = some (.inr (12, fs14)) ∧ Con g mX12_later d [.ref x0, .int 50, .int x1] h7 (jPi (fun (r12 : Int32) (h13 : jH) => P (.inl (some (.int r12))) h13) (fun E h' => P (.inr E) h')))) (fun E h' => P (.inr E) h')))) : J g mX12_seaIn (d + 1) hs P 0 [(0, .ref x0), (1, .int x1)] [] h := by
  refine jr_aload_n 0 dX12_seaIn_0 rfl rfl ?_
  refine jr_iconst (v := 0) dX12_seaIn_1 (by decide) ?_
  obtain ⟨fs1, e2, e3, k⟩ := k
  refine jr_putE jp_X12_67 dX12_seaIn_2 e2 e3 rfl rfl (fun h4 eh5 => ?_)
  have k := k h4 eh5
  refine jr_iload_n 1 dX12_seaIn_5 rfl rfl ?_
  refine jr_i2l dX12_seaIn_6 ?_
  refine jr_lconst (v := 0) dX12_seaIn_7 (by decide) ?_
  refine jr_ldc2 (v := 200) jk_X12_369 dX12_seaIn_8 ?_
  refine jr_cSi (As := [.long x1.toInt64, .long 0, .long 200]) jl_X12_128 km_X12_within rfl rfl dX12_seaIn_11 (Nat.le_of_ble_eq_true rfl) k (fun r6 h7 k => ?_)
  refine jr_if_eq (tgt := 27) dX12_seaIn_14 (by decide) (fun c14 => ?_) (fun c14 => ?_)
  · have k := k.1 c14
    refine jr_aload_n 0 dX12_seaIn_27 rfl rfl ?_
    refine jr_iconst (v := 1) dX12_seaIn_28 (by decide) ?_
    obtain ⟨fs10, e11, k⟩ := k
    refine jr_cVi (As := [.int 1]) jl_X12_234 km_X12_fails rfl rfl dX12_seaIn_29 e11 (Nat.le_of_ble_eq_true rfl) k (fun r8 h9 k => ?_)
    exact jr_iret (ty := .int) rfl rfl dX12_seaIn_32 k
  · have k := k.2 c14
    refine jr_aload_n 0 dX12_seaIn_17 rfl rfl ?_
    refine jr_bipush (v := 50) dX12_seaIn_18 (by decide) ?_
    refine jr_iload_n 1 dX12_seaIn_20 rfl rfl ?_
    obtain ⟨fs14, e15, k⟩ := k
    refine jr_cVi (As := [.int 50, .int x1]) jl_X12_410 km_X12_later rfl rfl dX12_seaIn_21 e15 (Nat.le_of_ble_eq_true rfl) k (fun r12 h13 k => ?_)
    refine jr_goto (tgt := 32) dX12_seaIn_24 (by decide) ?_
    exact jr_iret (ty := .int) rfl rfl dX12_seaIn_32 k
set_option maxRecDepth 20000 in
theorem bX12_burdenFromHere_0 {g : jG} {d : Nat} {hs : jH} {P : jO → jH → Prop} {x0 : Nat} {x1 : Int32} {x2 : Int32} {h : jH} (k : J g mX12_burdenFromHere (d + 1) hs P 5 [(0, .ref x0), (1, .int x1), (2, .int x2), (3, .long 0), (5, .int 0)] [] h) : J g mX12_burdenFromHere (d + 1) hs P 0 [(0, .ref x0), (1, .int x1), (2, .int x2)] [] h := by
  refine jr_lconst (v := 0) dX12_burdenFromHere_0 (by decide) ?_
  refine jr_lstore_n (lv' := [(3, .long 0), (0, .ref x0), (1, .int x1), (2, .int x2)]) dX12_burdenFromHere_1 rfl (by decide) rfl ?_
  refine jr_iconst (v := 0) dX12_burdenFromHere_2 (by decide) ?_
  refine jr_istore (lv' := [(5, .int 0), (3, .long 0), (0, .ref x0), (1, .int x1), (2, .int x2)]) dX12_burdenFromHere_3 (by decide) rfl ?_
  exact jr_sub [2, 3, 4, 1, 0] rfl k
set_option maxRecDepth 20000 in
theorem bX12_burdenFromHere_5 {g : jG} {d : Nat} {hs : jH} {P : jO → jH → Prop} {x0 : Nat} {x1 : Int32} {x2 : Int32} {x3 : Int64} {x5 : Int32} {h : jH} (k : (x5 < x2 → ∃ fs7 : List Value, h.1 x0 = some (.inr (12, fs7)) ∧ Con g mX12_quarter d [.ref x0] h (jPv (fun (h6 : jH) => ∃ fs9 : List Value, h6.1 x0 = some (.inr (12, fs9)) ∧ ∃ v12 : Nat, fs9[21]? = some (.ref v12) ∧ ∃ (n13 : Nat) (f14 : Nat → Int32), h6.1 v12 = some (.inl (0, (n13, .inl f14))) ∧ vp_in x1 n13 ∧ J g mX12_burdenFromHere (d + 1) hs P 5 [(0, .ref x0), (1, .int x1), (2, .int x2), (3, .long (x3 + ((f14 x1.toNatClampNeg)).toInt64)), (5, .int (x5 + 1))] [] h6) (fun E h' => P (.inr E) h'))) ∧ (¬ x5 < x2 → ∃ fs3 : List Value, h.1 x0 = some (.inr (12, fs3)) ∧ Con g mX12_putsBack d [.ref x0] h (jPv (fun (h2 : jH) => P (.inl (some (.long x3))) h2) (fun E h' => P (.inr E) h')))) : J g mX12_burdenFromHere (d + 1) hs P 5 [(0, .ref x0), (1, .int x1), (2, .int x2), (3, .long x3), (5, .int x5)] [] h := by
  refine jr_iload 4 dX12_burdenFromHere_5 rfl ?_
  refine jr_iload_n 2 dX12_burdenFromHere_7 rfl rfl ?_
  refine jr_icmp_ge (tgt := 31) dX12_burdenFromHere_8 (by decide) (fun c8 => ?_) (fun c8 => ?_)
  · have k := k.2 c8
    refine jr_aload_n 0 dX12_burdenFromHere_31 rfl rfl ?_
    obtain ⟨fs3, e4, k⟩ := k
    refine jr_cVv (As := []) jl_X12_392 km_X12_putsBack rfl rfl dX12_burdenFromHere_32 e4 (Nat.le_of_ble_eq_true rfl) k (fun h2 k => ?_)
    refine jr_lload_n 3 dX12_burdenFromHere_35 rfl rfl ?_
    exact jr_lret rfl dX12_burdenFromHere_36 k
  · have k := k.1 c8
    refine jr_aload_n 0 dX12_burdenFromHere_11 rfl rfl ?_
    obtain ⟨fs7, e8, k⟩ := k
    refine jr_cVv (As := []) jl_X12_356 km_X12_quarter rfl rfl dX12_burdenFromHere_12 e8 (Nat.le_of_ble_eq_true rfl) k (fun h6 k => ?_)
    refine jr_lload_n 3 dX12_burdenFromHere_15 rfl rfl ?_
    refine jr_aload_n 0 dX12_burdenFromHere_16 rfl rfl ?_
    obtain ⟨fs9, e10, v12, e11, k⟩ := k
    refine jr_get jf_X12_36 dX12_burdenFromHere_17 e10 e11 ?_
    refine jr_iload_n 1 dX12_burdenFromHere_20 rfl rfl ?_
    obtain ⟨n13, f14, e15, e16, k⟩ := k
    refine jr_iald dX12_burdenFromHere_21 e15 e16 ?_
    refine jr_i2l dX12_burdenFromHere_22 ?_
    refine jr_ladd dX12_burdenFromHere_23 ?_
    refine jr_lstore_n (lv' := [(3, .long (x3 + ((f14 x1.toNatClampNeg)).toInt64)), (0, .ref x0), (1, .int x1), (2, .int x2), (5, .int x5)]) dX12_burdenFromHere_24 rfl (by decide) rfl ?_
    refine jr_iinc (v := (x5 + 1)) (lv' := [(5, .int (x5 + 1)), (3, .long (x3 + ((f14 x1.toNatClampNeg)).toInt64)), (0, .ref x0), (1, .int x1), (2, .int x2)]) 4 dX12_burdenFromHere_25 rfl rfl (by decide) rfl ?_
    refine jr_goto (tgt := 5) dX12_burdenFromHere_28 (by decide) ?_
    exact jr_sub [2, 3, 4, 1, 0] rfl k
set_option maxRecDepth 20000 in
theorem bX12_burdenNow_0 {g : jG} {d : Nat} {hs : jH} {P : jO → jH → Prop} {x0 : Nat} {x1 : Int32} {x2 : Int32} {h : jH} (k : ∃ fs3 : List Value, h.1 x0 = some (.inr (12, fs3)) ∧ Con g mX12_putsAside d [.ref x0] h (jPv (fun (h2 : jH) => ∃ fs7 : List Value, h2.1 x0 = some (.inr (12, fs7)) ∧ Con g mX12_burdenFromHere d [.ref x0, .int x1, .int x2] h2 (jPl (fun (r5 : Int64) (h6 : jH) => P (.inl (some (.long r5))) h6) (fun E h' => P (.inr E) h'))) (fun E h' => P (.inr E) h'))) : J g mX12_burdenNow (d + 1) hs P 0 [(0, .ref x0), (1, .int x1), (2, .int x2)] [] h := by
  refine jr_aload_n 0 dX12_burdenNow_0 rfl rfl ?_
  obtain ⟨fs3, e4, k⟩ := k
  refine jr_cVv (As := []) jl_X12_380 km_X12_putsAside rfl rfl dX12_burdenNow_1 e4 (Nat.le_of_ble_eq_true rfl) k (fun h2 k => ?_)
  refine jr_aload_n 0 dX12_burdenNow_4 rfl rfl ?_
  refine jr_iload_n 1 dX12_burdenNow_5 rfl rfl ?_
  refine jr_iload_n 2 dX12_burdenNow_6 rfl rfl ?_
  obtain ⟨fs7, e8, k⟩ := k
  refine jr_cVl (As := [.int x1, .int x2]) jl_X12_428 km_X12_burdenFromHere rfl rfl dX12_burdenNow_7 e8 (Nat.le_of_ble_eq_true rfl) k (fun r5 h6 k => ?_)
  exact jr_lret rfl dX12_burdenNow_10 k
set_option maxRecDepth 20000 in
theorem bX12_isSoonOut_0 {g : jG} {d : Nat} {hs : jH} {P : jO → jH → Prop} {x0 : Nat} {x1 : Int32} {x2 : Int32} {h : jH} (k : ∃ fs3 : List Value, h.1 x0 = some (.inr (12, fs3)) ∧ Con g mX12_isHouse d [.ref x0, .long x1.toInt64] h (jPi (fun (r1 : Int32) (h2 : jH) => (r1 = 0 → J g mX12_isSoonOut (d + 1) hs P 26 [(0, .ref x0)] [.int 1, .ref x0] h2) ∧ (¬ r1 = 0 → Con g mX12_isSoon d [.int x2] h2 (jPi (fun (r5 : Int32) (h6 : jH) => (r5 = 0 → J g mX12_isSoonOut (d + 1) hs P 26 [(0, .ref x0)] [.int 2, .ref x0] h6) ∧ (¬ r5 = 0 → J g mX12_isSoonOut (d + 1) hs P 26 [(0, .ref x0)] [.int 0, .ref x0] h6)) (fun E h' => P (.inr E) h')))) (fun E h' => P (.inr E) h'))) : J g mX12_isSoonOut (d + 1) hs P 0 [(0, .ref x0), (1, .int x1), (2, .int x2)] [] h := by
  refine jr_aload_n 0 dX12_isSoonOut_0 rfl rfl ?_
  refine jr_aload_n 0 dX12_isSoonOut_1 rfl rfl ?_
  refine jr_iload_n 1 dX12_isSoonOut_2 rfl rfl ?_
  refine jr_i2l dX12_isSoonOut_3 ?_
  obtain ⟨fs3, e4, k⟩ := k
  refine jr_cVi (As := [.long x1.toInt64]) jl_X12_313 km_X12_isHouse rfl rfl dX12_isSoonOut_4 e4 (Nat.le_of_ble_eq_true rfl) k (fun r1 h2 k => ?_)
  refine jr_if_ne (tgt := 14) dX12_isSoonOut_7 (by decide) (fun c7 => ?_) (fun c7 => ?_)
  · have k := k.2 c7
    refine jr_iload_n 2 dX12_isSoonOut_14 rfl rfl ?_
    refine jr_cSi (As := [.int x2]) jl_X12_422 km_X12_isSoon rfl rfl dX12_isSoonOut_15 (Nat.le_of_ble_eq_true rfl) k (fun r5 h6 k => ?_)
    refine jr_if_eq (tgt := 25) dX12_isSoonOut_18 (by decide) (fun c18 => ?_) (fun c18 => ?_)
    · have k := k.1 c18
      refine jr_iconst (v := 2) dX12_isSoonOut_25 (by decide) ?_
      exact jr_sub [0] rfl k
    · have k := k.2 c18
      refine jr_iconst (v := 0) dX12_isSoonOut_21 (by decide) ?_
      refine jr_goto (tgt := 26) dX12_isSoonOut_22 (by decide) ?_
      exact jr_sub [0] rfl k
  · have k := k.1 c7
    refine jr_iconst (v := 1) dX12_isSoonOut_10 (by decide) ?_
    refine jr_goto (tgt := 26) dX12_isSoonOut_11 (by decide) ?_
    exact jr_sub [0] rfl k
set_option maxRecDepth 20000 in
theorem bX12_isSoonOut_26 {g : jG} {d : Nat} {hs : jH} {P : jO → jH → Prop} {x0 : Nat} {s0 : Nat} {s1 : Int32} {h : jH} (k : ∃ fs1 : List Value, h.1 s0 = some (.inr (12, fs1)) ∧ 4 < fs1.length ∧ (∀ h4 : jH, h4 = jset h s0 (.inr (12, fs1.set 4 (.int s1))) → ∃ fs6 : List Value, h4.1 x0 = some (.inr (12, fs6)) ∧ ∃ v9 : Int32, fs6[4]? = some (.int v9) ∧ (0 < v9 → P (.inl (some (.int 1))) h4) ∧ (¬ 0 < v9 → P (.inl (some (.int 0))) h4))) : J g mX12_isSoonOut (d + 1) hs P 26 [(0, .ref x0)] [.int s1, .ref s0] h := by
  obtain ⟨fs1, e2, e3, k⟩ := k
  refine jr_putE jp_X12_67 dX12_isSoonOut_26 e2 e3 rfl rfl (fun h4 eh5 => ?_)
  have k := k h4 eh5
  refine jr_aload_n 0 dX12_isSoonOut_29 rfl rfl ?_
  obtain ⟨fs6, e7, v9, e8, k⟩ := k
  refine jr_get jf_X12_67 dX12_isSoonOut_30 e7 e8 ?_
  refine jr_if_le (tgt := 40) dX12_isSoonOut_33 (by decide) (fun c33 => ?_) (fun c33 => ?_)
  · have k := k.2 c33
    refine jr_iconst (v := 0) dX12_isSoonOut_40 (by decide) ?_
    exact jr_iret (ty := .boolean) rfl rfl dX12_isSoonOut_41 k
  · have k := k.1 c33
    refine jr_iconst (v := 1) dX12_isSoonOut_36 (by decide) ?_
    refine jr_goto (tgt := 41) dX12_isSoonOut_37 (by decide) ?_
    exact jr_iret (ty := .boolean) rfl rfl dX12_isSoonOut_41 k
set_option maxRecDepth 20000 in
theorem bX12_burden_0 {g : jG} {d : Nat} {hs : jH} {P : jO → jH → Prop} {x0 : Nat} {x1 : Int32} {x2 : Int32} {h : jH} (k : ∃ fs3 : List Value, h.1 x0 = some (.inr (12, fs3)) ∧ Con g mX12_isSoonOut d [.ref x0, .int x1, .int x2] h (jPi (fun (r1 : Int32) (h2 : jH) => (r1 = 0 → ∃ fs7 : List Value, h2.1 x0 = some (.inr (12, fs7)) ∧ Con g mX12_burdenNow d [.ref x0, .int x1, .int x2] h2 (jPl (fun (r5 : Int64) (h6 : jH) => P (.inl (some (.long r5))) h6) (fun E h' => P (.inr E) h'))) ∧ (¬ r1 = 0 → P (.inl (some (.long 0))) h2)) (fun E h' => P (.inr E) h'))) : J g mX12_burden (d + 1) hs P 0 [(0, .ref x0), (1, .int x1), (2, .int x2)] [] h := by
  refine jr_aload_n 0 dX12_burden_0 rfl rfl ?_
  refine jr_iload_n 1 dX12_burden_1 rfl rfl ?_
  refine jr_iload_n 2 dX12_burden_2 rfl rfl ?_
  obtain ⟨fs3, e4, k⟩ := k
  refine jr_cVi (As := [.int x1, .int x2]) jl_X12_432 km_X12_isSoonOut rfl rfl dX12_burden_3 e4 (Nat.le_of_ble_eq_true rfl) k (fun r1 h2 k => ?_)
  refine jr_if_eq (tgt := 13) dX12_burden_6 (by decide) (fun c6 => ?_) (fun c6 => ?_)
  · have k := k.1 c6
    refine jr_aload_n 0 dX12_burden_13 rfl rfl ?_
    refine jr_iload_n 1 dX12_burden_14 rfl rfl ?_
    refine jr_iload_n 2 dX12_burden_15 rfl rfl ?_
    obtain ⟨fs7, e8, k⟩ := k
    refine jr_cVl (As := [.int x1, .int x2]) jl_X12_436 km_X12_burdenNow rfl rfl dX12_burden_16 e8 (Nat.le_of_ble_eq_true rfl) k (fun r5 h6 k => ?_)
    exact jr_lret rfl dX12_burden_19 k
  · have k := k.2 c6
    refine jr_lconst (v := 0) dX12_burden_9 (by decide) ?_
    refine jr_goto (tgt := 19) dX12_burden_10 (by decide) ?_
    exact jr_lret rfl dX12_burden_19 k
set_option maxRecDepth 20000 in
theorem bX12_heaviest_0 {g : jG} {d : Nat} {hs : jH} {P : jO → jH → Prop} {x0 : Nat} {x1 : Int32} {h : jH} (k : ∃ fs1 : List Value, h.1 x0 = some (.inr (12, fs1)) ∧ 4 < fs1.length ∧ (∀ h4 : jH, h4 = jset h x0 (.inr (12, fs1.set 4 (.int 0))) → Con g mX12_isSoon d [.int x1] h4 (jPi (fun (r6 : Int32) (h7 : jH) => (r6 = 0 → ∃ fs10 : List Value, h7.1 x0 = some (.inr (12, fs10)) ∧ Con g mX12_fails d [.ref x0, .int 1] h7 (jPi (fun (r8 : Int32) (h9 : jH) => P (.inl (some (.int r8))) h9) (fun E h' => P (.inr E) h'))) ∧ (¬ r6 = 0 → J g mX12_heaviest (d + 1) hs P 27 [(0, .ref x0), (1, .int x1), (2, .int (-1)), (3, .long (-1)), (5, .int 0)] [] h7)) (fun E h' => P (.inr E) h')))) : J g mX12_heaviest (d + 1) hs P 0 [(0, .ref x0), (1, .int x1)] [] h := by
  refine jr_aload_n 0 dX12_heaviest_0 rfl rfl ?_
  refine jr_iconst (v := 0) dX12_heaviest_1 (by decide) ?_
  obtain ⟨fs1, e2, e3, k⟩ := k
  refine jr_putE jp_X12_67 dX12_heaviest_2 e2 e3 rfl rfl (fun h4 eh5 => ?_)
  have k := k h4 eh5
  refine jr_iload_n 1 dX12_heaviest_5 rfl rfl ?_
  refine jr_cSi (As := [.int x1]) jl_X12_422 km_X12_isSoon rfl rfl dX12_heaviest_6 (Nat.le_of_ble_eq_true rfl) k (fun r6 h7 k => ?_)
  refine jr_if_ne (tgt := 18) dX12_heaviest_9 (by decide) (fun c9 => ?_) (fun c9 => ?_)
  · have k := k.2 c9
    refine jr_iconst (v := (-1)) dX12_heaviest_18 (by decide) ?_
    refine jr_istore_n (lv' := [(2, .int (-1)), (0, .ref x0), (1, .int x1)]) dX12_heaviest_19 rfl (by decide) rfl ?_
    refine jr_ldc2 (v := (-1)) jk_X12_363 dX12_heaviest_20 ?_
    refine jr_lstore_n (lv' := [(3, .long (-1)), (2, .int (-1)), (0, .ref x0), (1, .int x1)]) dX12_heaviest_23 rfl (by decide) rfl ?_
    refine jr_iconst (v := 0) dX12_heaviest_24 (by decide) ?_
    refine jr_istore (lv' := [(5, .int 0), (3, .long (-1)), (2, .int (-1)), (0, .ref x0), (1, .int x1)]) dX12_heaviest_25 (by decide) rfl ?_
    exact jr_sub [3, 4, 2, 1, 0] rfl k
  · have k := k.1 c9
    refine jr_aload_n 0 dX12_heaviest_12 rfl rfl ?_
    refine jr_iconst (v := 1) dX12_heaviest_13 (by decide) ?_
    obtain ⟨fs10, e11, k⟩ := k
    refine jr_cVi (As := [.int 1]) jl_X12_234 km_X12_fails rfl rfl dX12_heaviest_14 e11 (Nat.le_of_ble_eq_true rfl) k (fun r8 h9 k => ?_)
    exact jr_iret (ty := .int) rfl rfl dX12_heaviest_17 k
set_option maxRecDepth 20000 in
theorem bX12_heaviest_27 {g : jG} {d : Nat} {hs : jH} {P : jO → jH → Prop} {x0 : Nat} {x1 : Int32} {x2 : Int32} {x3 : Int64} {x5 : Int32} {h : jH} (k : ∃ fs3 : List Value, h.1 x0 = some (.inr (12, fs3)) ∧ Con g mX12_houses d [.ref x0] h (jPi (fun (r1 : Int32) (h2 : jH) => (x5 < r1 → ∃ fs7 : List Value, h2.1 x0 = some (.inr (12, fs7)) ∧ Con g mX12_burdenNow d [.ref x0, .int x5, .int x1] h2 (jPl (fun (r5 : Int64) (h6 : jH) => (x3 < r5 → J g mX12_heaviest (d + 1) hs P 27 [(0, .ref x0), (1, .int x1), (2, .int x5), (3, .long r5), (5, .int (x5 + 1))] [] h6) ∧ (¬ x3 < r5 → J g mX12_heaviest (d + 1) hs P 27 [(0, .ref x0), (1, .int x1), (2, .int x2), (3, .long x3), (5, .int (x5 + 1))] [] h6)) (fun E h' => P (.inr E) h'))) ∧ (¬ x5 < r1 → P (.inl (some (.int x2))) h2)) (fun E h' => P (.inr E) h'))) : J g mX12_heaviest (d + 1) hs P 27 [(0, .ref x0), (1, .int x1), (2, .int x2), (3, .long x3), (5, .int x5)] [] h := by
  refine jr_iload 4 dX12_heaviest_27 rfl ?_
  refine jr_aload_n 0 dX12_heaviest_29 rfl rfl ?_
  obtain ⟨fs3, e4, k⟩ := k
  refine jr_cVi (As := []) jl_X12_249 km_X12_houses rfl rfl dX12_heaviest_30 e4 (Nat.le_of_ble_eq_true rfl) k (fun r1 h2 k => ?_)
  refine jr_icmp_ge (tgt := 67) dX12_heaviest_33 (by decide) (fun c33 => ?_) (fun c33 => ?_)
  · have k := k.2 c33
    refine jr_iload_n 2 dX12_heaviest_67 rfl rfl ?_
    exact jr_iret (ty := .int) rfl rfl dX12_heaviest_68 k
  · have k := k.1 c33
    refine jr_aload_n 0 dX12_heaviest_36 rfl rfl ?_
    refine jr_iload 4 dX12_heaviest_37 rfl ?_
    refine jr_iload_n 1 dX12_heaviest_39 rfl rfl ?_
    obtain ⟨fs7, e8, k⟩ := k
    refine jr_cVl (As := [.int x5, .int x1]) jl_X12_436 km_X12_burdenNow rfl rfl dX12_heaviest_40 e8 (Nat.le_of_ble_eq_true rfl) k (fun r5 h6 k => ?_)
    refine jr_lstore (lv' := [(6, .long r5), (0, .ref x0), (1, .int x1), (2, .int x2), (3, .long x3), (5, .int x5)]) dX12_heaviest_43 (by decide) rfl ?_
    refine jr_lload 0 dX12_heaviest_45 rfl ?_
    refine jr_lload_n 4 dX12_heaviest_47 rfl rfl ?_
    refine jr_lcmp_gt (tgt := 55) dX12_heaviest_48 dX12_heaviest_49 (by decide) (fun c48 => ?_) (fun c48 => ?_)
    · have k := k.1 c48
      refine jr_iload 5 dX12_heaviest_55 rfl ?_
      refine jr_istore_n (lv' := [(2, .int x5), (6, .long r5), (0, .ref x0), (1, .int x1), (3, .long x3), (5, .int x5)]) dX12_heaviest_57 rfl (by decide) rfl ?_
      refine jr_lload 1 dX12_heaviest_58 rfl ?_
      refine jr_lstore_n (lv' := [(3, .long r5), (2, .int x5), (6, .long r5), (0, .ref x0), (1, .int x1), (5, .int x5)]) dX12_heaviest_60 rfl (by decide) rfl ?_
      refine jr_iinc (v := (x5 + 1)) (lv' := [(5, .int (x5 + 1)), (3, .long r5), (2, .int x5), (6, .long r5), (0, .ref x0), (1, .int x1)]) 5 dX12_heaviest_61 rfl rfl (by decide) rfl ?_
      refine jr_goto (tgt := 27) dX12_heaviest_64 (by decide) ?_
      exact jr_sub [4, 5, 2, 1, 0] rfl k
    · have k := k.2 c48
      refine jr_goto (tgt := 61) dX12_heaviest_52 (by decide) ?_
      refine jr_iinc (v := (x5 + 1)) (lv' := [(5, .int (x5 + 1)), (6, .long r5), (0, .ref x0), (1, .int x1), (2, .int x2), (3, .long x3)]) 5 dX12_heaviest_61 rfl rfl (by decide) rfl ?_
      refine jr_goto (tgt := 27) dX12_heaviest_64 (by decide) ?_
      exact jr_sub [2, 3, 4, 5, 0] rfl k
set_option maxRecDepth 20000 in
theorem bX12_paid_0 {g : jG} {d : Nat} {hs : jH} {P : jO → jH → Prop} {x0 : Nat} {x1 : Int32} {h : jH} (k : ∃ fs1 : List Value, h.1 x0 = some (.inr (12, fs1)) ∧ 4 < fs1.length ∧ (∀ h4 : jH, h4 = jset h x0 (.inr (12, fs1.set 4 (.int 0))) → Con g mX12_isSoon d [.int x1] h4 (jPi (fun (r6 : Int32) (h7 : jH) => (r6 = 0 → ∃ fs14 : List Value, h7.1 x0 = some (.inr (12, fs14)) ∧ Con g mX12_fails d [.ref x0, .int 1] h7 (jPi (fun (r12 : Int32) (h13 : jH) => P (.inl (some (.long r12.toInt64))) h13) (fun E h' => P (.inr E) h'))) ∧ (¬ r6 = 0 → ∃ fs10 : List Value, h7.1 x0 = some (.inr (12, fs10)) ∧ Con g mX12_putsAside d [.ref x0] h7 (jPv (fun (h9 : jH) => J g mX12_paid (d + 1) hs P 28 [(0, .ref x0), (1, .int x1), (2, .long 0), (4, .int 0)] [] h9) (fun E h' => P (.inr E) h')))) (fun E h' => P (.inr E) h')))) : J g mX12_paid (d + 1) hs P 0 [(0, .ref x0), (1, .int x1)] [] h := by
  refine jr_aload_n 0 dX12_paid_0 rfl rfl ?_
  refine jr_iconst (v := 0) dX12_paid_1 (by decide) ?_
  obtain ⟨fs1, e2, e3, k⟩ := k
  refine jr_putE jp_X12_67 dX12_paid_2 e2 e3 rfl rfl (fun h4 eh5 => ?_)
  have k := k h4 eh5
  refine jr_iload_n 1 dX12_paid_5 rfl rfl ?_
  refine jr_cSi (As := [.int x1]) jl_X12_422 km_X12_isSoon rfl rfl dX12_paid_6 (Nat.le_of_ble_eq_true rfl) k (fun r6 h7 k => ?_)
  refine jr_if_ne (tgt := 19) dX12_paid_9 (by decide) (fun c9 => ?_) (fun c9 => ?_)
  · have k := k.2 c9
    refine jr_aload_n 0 dX12_paid_19 rfl rfl ?_
    obtain ⟨fs10, e11, k⟩ := k
    refine jr_cVv (As := []) jl_X12_380 km_X12_putsAside rfl rfl dX12_paid_20 e11 (Nat.le_of_ble_eq_true rfl) k (fun h9 k => ?_)
    refine jr_lconst (v := 0) dX12_paid_23 (by decide) ?_
    refine jr_lstore_n (lv' := [(2, .long 0), (0, .ref x0), (1, .int x1)]) dX12_paid_24 rfl (by decide) rfl ?_
    refine jr_iconst (v := 0) dX12_paid_25 (by decide) ?_
    refine jr_istore (lv' := [(4, .int 0), (2, .long 0), (0, .ref x0), (1, .int x1)]) dX12_paid_26 (by decide) rfl ?_
    exact jr_sub [2, 3, 1, 0] rfl k
  · have k := k.1 c9
    refine jr_aload_n 0 dX12_paid_12 rfl rfl ?_
    refine jr_iconst (v := 1) dX12_paid_13 (by decide) ?_
    obtain ⟨fs14, e15, k⟩ := k
    refine jr_cVi (As := [.int 1]) jl_X12_234 km_X12_fails rfl rfl dX12_paid_14 e15 (Nat.le_of_ble_eq_true rfl) k (fun r12 h13 k => ?_)
    refine jr_i2l dX12_paid_17 ?_
    exact jr_lret rfl dX12_paid_18 k
set_option maxRecDepth 20000 in
theorem bX12_paid_28 {g : jG} {d : Nat} {hs : jH} {P : jO → jH → Prop} {x0 : Nat} {x1 : Int32} {x2 : Int64} {x4 : Int32} {h : jH} (k : (x4 < x1 → ∃ fs7 : List Value, h.1 x0 = some (.inr (12, fs7)) ∧ Con g mX12_quarter d [.ref x0] h (jPv (fun (h6 : jH) => ∃ fs9 : List Value, h6.1 x0 = some (.inr (12, fs9)) ∧ ∃ v12 : Int32, fs9[23]? = some (.int v12) ∧ J g mX12_paid (d + 1) hs P 28 [(0, .ref x0), (1, .int x1), (2, .long (x2 + v12.toInt64)), (4, .int (x4 + 1))] [] h6) (fun E h' => P (.inr E) h'))) ∧ (¬ x4 < x1 → ∃ fs3 : List Value, h.1 x0 = some (.inr (12, fs3)) ∧ Con g mX12_putsBack d [.ref x0] h (jPv (fun (h2 : jH) => P (.inl (some (.long x2))) h2) (fun E h' => P (.inr E) h')))) : J g mX12_paid (d + 1) hs P 28 [(0, .ref x0), (1, .int x1), (2, .long x2), (4, .int x4)] [] h := by
  refine jr_iload 3 dX12_paid_28 rfl ?_
  refine jr_iload_n 1 dX12_paid_30 rfl rfl ?_
  refine jr_icmp_ge (tgt := 52) dX12_paid_31 (by decide) (fun c31 => ?_) (fun c31 => ?_)
  · have k := k.2 c31
    refine jr_aload_n 0 dX12_paid_52 rfl rfl ?_
    obtain ⟨fs3, e4, k⟩ := k
    refine jr_cVv (As := []) jl_X12_392 km_X12_putsBack rfl rfl dX12_paid_53 e4 (Nat.le_of_ble_eq_true rfl) k (fun h2 k => ?_)
    refine jr_lload_n 2 dX12_paid_56 rfl rfl ?_
    exact jr_lret rfl dX12_paid_57 k
  · have k := k.1 c31
    refine jr_aload_n 0 dX12_paid_34 rfl rfl ?_
    obtain ⟨fs7, e8, k⟩ := k
    refine jr_cVv (As := []) jl_X12_356 km_X12_quarter rfl rfl dX12_paid_35 e8 (Nat.le_of_ble_eq_true rfl) k (fun h6 k => ?_)
    refine jr_lload_n 2 dX12_paid_38 rfl rfl ?_
    refine jr_aload_n 0 dX12_paid_39 rfl rfl ?_
    obtain ⟨fs9, e10, v12, e11, k⟩ := k
    refine jr_get jf_X12_285 dX12_paid_40 e10 e11 ?_
    refine jr_i2l dX12_paid_43 ?_
    refine jr_ladd dX12_paid_44 ?_
    refine jr_lstore_n (lv' := [(2, .long (x2 + v12.toInt64)), (0, .ref x0), (1, .int x1), (4, .int x4)]) dX12_paid_45 rfl (by decide) rfl ?_
    refine jr_iinc (v := (x4 + 1)) (lv' := [(4, .int (x4 + 1)), (2, .long (x2 + v12.toInt64)), (0, .ref x0), (1, .int x1)]) 3 dX12_paid_46 rfl rfl (by decide) rfl ?_
    refine jr_goto (tgt := 28) dX12_paid_49 (by decide) ?_
    exact jr_sub [2, 3, 1, 0] rfl k
set_option maxRecDepth 20000 in
theorem bX12_moves_0 {g : jG} {d : Nat} {hs : jH} {P : jO → jH → Prop} {x0 : Nat} {h : jH} (k : J g mX12_moves (d + 1) hs P 2 [(0, .ref x0), (1, .int 0)] [] h) : J g mX12_moves (d + 1) hs P 0 [(0, .ref x0)] [] h := by
  refine jr_iconst (v := 0) dX12_moves_0 (by decide) ?_
  refine jr_istore_n (lv' := [(1, .int 0), (0, .ref x0)]) dX12_moves_1 rfl (by decide) rfl ?_
  exact jr_sub [1, 0] rfl k
set_option maxRecDepth 20000 in
theorem bX12_moves_2 {g : jG} {d : Nat} {hs : jH} {P : jO → jH → Prop} {x0 : Nat} {x1 : Int32} {h : jH} (k : ∃ fs3 : List Value, h.1 x0 = some (.inr (12, fs3)) ∧ Con g mX12_houses d [.ref x0] h (jPi (fun (r1 : Int32) (h2 : jH) => (x1 < r1 → J g mX12_moves (d + 1) hs P 12 [(0, .ref x0), (1, .int x1), (2, .int 0)] [] h2) ∧ (¬ x1 < r1 → P (.inl none) h2)) (fun E h' => P (.inr E) h'))) : J g mX12_moves (d + 1) hs P 2 [(0, .ref x0), (1, .int x1)] [] h := by
  refine jr_iload_n 1 dX12_moves_2 rfl rfl ?_
  refine jr_aload_n 0 dX12_moves_3 rfl rfl ?_
  obtain ⟨fs3, e4, k⟩ := k
  refine jr_cVi (As := []) jl_X12_249 km_X12_houses rfl rfl dX12_moves_4 e4 (Nat.le_of_ble_eq_true rfl) k (fun r1 h2 k => ?_)
  refine jr_icmp_ge (tgt := 61) dX12_moves_7 (by decide) (fun c7 => ?_) (fun c7 => ?_)
  · have k := k.2 c7
    exact jr_vret rfl dX12_moves_61 k
  · have k := k.1 c7
    refine jr_iconst (v := 0) dX12_moves_10 (by decide) ?_
    refine jr_istore_n (lv' := [(2, .int 0), (0, .ref x0), (1, .int x1)]) dX12_moves_11 rfl (by decide) rfl ?_
    exact jr_sub [1, 2, 0] rfl k
set_option maxRecDepth 20000 in
theorem bX12_moves_12 {g : jG} {d : Nat} {hs : jH} {P : jO → jH → Prop} {x0 : Nat} {x1 : Int32} {x2 : Int32} {h : jH} (k : (x2 < 4 → ∃ fs1 : List Value, h.1 x0 = some (.inr (12, fs1)) ∧ ∃ v4 : Nat, fs1[0]? = some (.ref v4) ∧ ∃ fs5 : List Value, h.1 x0 = some (.inr (12, fs5)) ∧ ∃ v8 : Nat, fs5[25]? = some (.ref v8) ∧ ∃ fs9 : List Value, h.1 x0 = some (.inr (12, fs9)) ∧ ∃ v12 : Nat, fs9[28]? = some (.ref v12) ∧ ∃ (n13 : Nat) (f14 : Nat → Int32), h.1 v12 = some (.inl (0, (n13, .inl f14))) ∧ vp_in x1 n13 ∧ ∃ (n17 : Nat) (f18 : Nat → Int32), h.1 v8 = some (.inl (0, (n17, .inl f18))) ∧ vp_in ((0 + (7 * x2)) + (f14 x1.toNatClampNeg)) n17 ∧ ∃ (n21 : Nat) (f22 : Nat → Int32), h.1 v4 = some (.inl (0, (n21, .inl f22))) ∧ vp_in ((8 + (7 * x2)) + x1) n21 ∧ ∀ h25 : jH, h25 = jset h v4 (.inl (0, (n21, .inl (upd f22 (((8 + (7 * x2)) + x1)).toNatClampNeg ((f18 (((0 + (7 * x2)) + (f14 x1.toNatClampNeg))).toNatClampNeg)))))) → J g mX12_moves (d + 1) hs P 12 [(0, .ref x0), (1, .int x1), (2, .int (x2 + 1))] [] h25) ∧ (¬ x2 < 4 → J g mX12_moves (d + 1) hs P 2 [(0, .ref x0), (1, .int (x1 + 1))] [] h)) : J g mX12_moves (d + 1) hs P 12 [(0, .ref x0), (1, .int x1), (2, .int x2)] [] h := by
  refine jr_iload_n 2 dX12_moves_12 rfl rfl ?_
  refine jr_iconst (v := 4) dX12_moves_13 (by decide) ?_
  refine jr_icmp_ge (tgt := 55) dX12_moves_14 (by decide) (fun c14 => ?_) (fun c14 => ?_)
  · have k := k.2 c14
    refine jr_iinc (v := (x1 + 1)) (lv' := [(1, .int (x1 + 1)), (0, .ref x0), (2, .int x2)]) 1 dX12_moves_55 rfl rfl (by decide) rfl ?_
    refine jr_goto (tgt := 2) dX12_moves_58 (by decide) ?_
    exact jr_sub [1, 0] rfl k
  · have k := k.1 c14
    refine jr_aload_n 0 dX12_moves_17 rfl rfl ?_
    obtain ⟨fs1, e2, v4, e3, k⟩ := k
    refine jr_get jf_X12_9 dX12_moves_18 e2 e3 ?_
    refine jr_bipush (v := 8) dX12_moves_21 (by decide) ?_
    refine jr_bipush (v := 7) dX12_moves_23 (by decide) ?_
    refine jr_iload_n 2 dX12_moves_25 rfl rfl ?_
    refine jr_imul dX12_moves_26 ?_
    refine jr_iadd dX12_moves_27 ?_
    refine jr_iload_n 1 dX12_moves_28 rfl rfl ?_
    refine jr_iadd dX12_moves_29 ?_
    refine jr_aload_n 0 dX12_moves_30 rfl rfl ?_
    obtain ⟨fs5, e6, v8, e7, k⟩ := k
    refine jr_get jf_X12_42 dX12_moves_31 e6 e7 ?_
    refine jr_iconst (v := 0) dX12_moves_34 (by decide) ?_
    refine jr_bipush (v := 7) dX12_moves_35 (by decide) ?_
    refine jr_iload_n 2 dX12_moves_37 rfl rfl ?_
    refine jr_imul dX12_moves_38 ?_
    refine jr_iadd dX12_moves_39 ?_
    refine jr_aload_n 0 dX12_moves_40 rfl rfl ?_
    obtain ⟨fs9, e10, v12, e11, k⟩ := k
    refine jr_get jf_X12_45 dX12_moves_41 e10 e11 ?_
    refine jr_iload_n 1 dX12_moves_44 rfl rfl ?_
    obtain ⟨n13, f14, e15, e16, k⟩ := k
    refine jr_iald dX12_moves_45 e15 e16 ?_
    refine jr_iadd dX12_moves_46 ?_
    obtain ⟨n17, f18, e19, e20, k⟩ := k
    refine jr_iald dX12_moves_47 e19 e20 ?_
    obtain ⟨n21, f22, e23, e24, k⟩ := k
    refine jr_iastE dX12_moves_48 e23 e24 (fun h25 eh26 => ?_)
    have k := k h25 eh26
    refine jr_iinc (v := (x2 + 1)) (lv' := [(2, .int (x2 + 1)), (0, .ref x0), (1, .int x1)]) 2 dX12_moves_49 rfl rfl (by decide) rfl ?_
    refine jr_goto (tgt := 12) dX12_moves_52 (by decide) ?_
    exact jr_sub [1, 2, 0] rfl k
set_option maxRecDepth 20000 in
theorem bX12_goesOrders_0 {g : jG} {d : Nat} {hs : jH} {P : jO → jH → Prop} {x0 : Nat} {x1 : Int32} {x2 : Int32} {x3 : Int32} {h : jH} (k : ∃ fs3 : List Value, h.1 x0 = some (.inr (12, fs3)) ∧ Con g mX12_houses d [.ref x0] h (jPi (fun (r1 : Int32) (h2 : jH) => (x1 = r1 → ∃ fs7 : List Value, h2.1 x0 = some (.inr (12, fs7)) ∧ Con g mX12_moves d [.ref x0] h2 (jPv (fun (h6 : jH) => ∃ fs11 : List Value, h6.1 x0 = some (.inr (12, fs11)) ∧ Con g mX12_lostFromHere d [.ref x0, .int x3] h6 (jPi (fun (r9 : Int32) (h10 : jH) => ∃ fs13 : List Value, h10.1 x0 = some (.inr (12, fs13)) ∧ ∃ v16 : Int32, fs13[30]? = some (.int v16) ∧ (r9 < v16 → J g mX12_goesOrders (d + 1) hs P 52 [(0, .ref x0), (1, .int x1), (4, .int r9)] [.int 1, .ref x0] h10) ∧ (¬ r9 < v16 → ∃ fs17 : List Value, h10.1 x0 = some (.inr (12, fs17)) ∧ ∃ v20 : Int32, fs17[31]? = some (.int v20) ∧ ∃ fs21 : List Value, h10.1 x0 = some (.inr (12, fs21)) ∧ ∃ v24 : Int32, fs21[30]? = some (.int v24) ∧ (r9 = v24 → J g mX12_goesOrders (d + 1) hs P 51 [(0, .ref x0), (1, .int x1), (4, .int r9)] [.int 1, .int v20, .ref x0] h10) ∧ (¬ r9 = v24 → J g mX12_goesOrders (d + 1) hs P 51 [(0, .ref x0), (1, .int x1), (4, .int r9)] [.int 0, .int v20, .ref x0] h10))) (fun E h' => P (.inr E) h'))) (fun E h' => P (.inr E) h'))) ∧ (¬ x1 = r1 → J g mX12_goesOrders (d + 1) hs P 104 [(0, .ref x0), (1, .int x1), (2, .int x2), (3, .int x3), (4, .int 0)] [] h2)) (fun E h' => P (.inr E) h'))) : J g mX12_goesOrders (d + 1) hs P 0 [(0, .ref x0), (1, .int x1), (2, .int x2), (3, .int x3)] [] h := by
  refine jr_iload_n 1 dX12_goesOrders_0 rfl rfl ?_
  refine jr_aload_n 0 dX12_goesOrders_1 rfl rfl ?_
  obtain ⟨fs3, e4, k⟩ := k
  refine jr_cVi (As := []) jl_X12_249 km_X12_houses rfl rfl dX12_goesOrders_2 e4 (Nat.le_of_ble_eq_true rfl) k (fun r1 h2 k => ?_)
  refine jr_icmp_ne (tgt := 101) dX12_goesOrders_5 (by decide) (fun c5 => ?_) (fun c5 => ?_)
  · have k := k.2 c5
    refine jr_iconst (v := 0) dX12_goesOrders_101 (by decide) ?_
    refine jr_istore (lv' := [(4, .int 0), (0, .ref x0), (1, .int x1), (2, .int x2), (3, .int x3)]) dX12_goesOrders_102 (by decide) rfl ?_
    exact jr_sub [1, 2, 3, 4, 0] rfl k
  · have k := k.1 c5
    refine jr_aload_n 0 dX12_goesOrders_8 rfl rfl ?_
    obtain ⟨fs7, e8, k⟩ := k
    refine jr_cVv (As := []) jl_X12_439 km_X12_moves rfl rfl dX12_goesOrders_9 e8 (Nat.le_of_ble_eq_true rfl) k (fun h6 k => ?_)
    refine jr_aload_n 0 dX12_goesOrders_12 rfl rfl ?_
    refine jr_iload_n 3 dX12_goesOrders_13 rfl rfl ?_
    obtain ⟨fs11, e12, k⟩ := k
    refine jr_cVi (As := [.int x3]) jl_X12_419 km_X12_lostFromHere rfl rfl dX12_goesOrders_14 e12 (Nat.le_of_ble_eq_true rfl) k (fun r9 h10 k => ?_)
    refine jr_istore (lv' := [(4, .int r9), (0, .ref x0), (1, .int x1), (2, .int x2), (3, .int x3)]) dX12_goesOrders_17 (by decide) rfl ?_
    refine jr_aload_n 1 dX12_goesOrders_19 rfl rfl ?_
    refine jr_iload 0 dX12_goesOrders_20 rfl ?_
    refine jr_aload_n 1 dX12_goesOrders_22 rfl rfl ?_
    obtain ⟨fs13, e14, v16, e15, k⟩ := k
    refine jr_get jf_X12_442 dX12_goesOrders_23 e14 e15 ?_
    refine jr_icmp_ge (tgt := 33) dX12_goesOrders_26 (by decide) (fun c26 => ?_) (fun c26 => ?_)
    · have k := k.2 c26
      refine jr_aload_n 1 dX12_goesOrders_33 rfl rfl ?_
      obtain ⟨fs17, e18, v20, e19, k⟩ := k
      refine jr_get jf_X12_445 dX12_goesOrders_34 e18 e19 ?_
      refine jr_iload 0 dX12_goesOrders_37 rfl ?_
      refine jr_aload_n 1 dX12_goesOrders_39 rfl rfl ?_
      obtain ⟨fs21, e22, v24, e23, k⟩ := k
      refine jr_get jf_X12_442 dX12_goesOrders_40 e22 e23 ?_
      refine jr_icmp_ne (tgt := 50) dX12_goesOrders_43 (by decide) (fun c43 => ?_) (fun c43 => ?_)
      · have k := k.2 c43
        refine jr_iconst (v := 0) dX12_goesOrders_50 (by decide) ?_
        exact jr_sub [1, 2, 0] rfl k
      · have k := k.1 c43
        refine jr_iconst (v := 1) dX12_goesOrders_46 (by decide) ?_
        refine jr_goto (tgt := 51) dX12_goesOrders_47 (by decide) ?_
        exact jr_sub [1, 2, 0] rfl k
    · have k := k.1 c26
      refine jr_iconst (v := 1) dX12_goesOrders_29 (by decide) ?_
      refine jr_goto (tgt := 52) dX12_goesOrders_30 (by decide) ?_
      exact jr_sub [1, 2, 0] rfl k
set_option maxRecDepth 20000 in
theorem bX12_goesOrders_51 {g : jG} {d : Nat} {hs : jH} {P : jO → jH → Prop} {x0 : Nat} {x1 : Int32} {x4 : Int32} {s0 : Nat} {s1 : Int32} {s2 : Int32} {h : jH} (k : J g mX12_goesOrders (d + 1) hs P 52 [(0, .ref x0), (1, .int x1), (4, .int x4)] [.int (s1 + s2), .ref s0] h) : J g mX12_goesOrders (d + 1) hs P 51 [(0, .ref x0), (1, .int x1), (4, .int x4)] [.int s2, .int s1, .ref s0] h := by
  refine jr_iadd dX12_goesOrders_51 ?_
  exact jr_sub [0, 1, 2] rfl k
set_option maxRecDepth 20000 in
theorem bX12_goesOrders_52 {g : jG} {d : Nat} {hs : jH} {P : jO → jH → Prop} {x0 : Nat} {x1 : Int32} {x4 : Int32} {s0 : Nat} {s1 : Int32} {h : jH} (k : ∃ fs1 : List Value, h.1 s0 = some (.inr (12, fs1)) ∧ 31 < fs1.length ∧ (∀ h4 : jH, h4 = jset h s0 (.inr (12, fs1.set 31 (.int s1))) → ∃ fs6 : List Value, h4.1 x0 = some (.inr (12, fs6)) ∧ ∃ v9 : Int32, fs6[30]? = some (.int v9) ∧ (x4 < v9 → ∃ fs10 : List Value, h4.1 x0 = some (.inr (12, fs10)) ∧ 30 < fs10.length ∧ (∀ h13 : jH, h13 = jset h4 x0 (.inr (12, fs10.set 30 (.int x4))) → J g mX12_goesOrders (d + 1) hs P 74 [(0, .ref x0), (1, .int x1), (5, .int 0)] [] h13)) ∧ (¬ x4 < v9 → P (.inl none) h4))) : J g mX12_goesOrders (d + 1) hs P 52 [(0, .ref x0), (1, .int x1), (4, .int x4)] [.int s1, .ref s0] h := by
  obtain ⟨fs1, e2, e3, k⟩ := k
  refine jr_putE jp_X12_445 dX12_goesOrders_52 e2 e3 rfl rfl (fun h4 eh5 => ?_)
  have k := k h4 eh5
  refine jr_iload 2 dX12_goesOrders_55 rfl ?_
  refine jr_aload_n 0 dX12_goesOrders_57 rfl rfl ?_
  obtain ⟨fs6, e7, v9, e8, k⟩ := k
  refine jr_get jf_X12_442 dX12_goesOrders_58 e7 e8 ?_
  refine jr_icmp_lt (tgt := 65) dX12_goesOrders_61 (by decide) (fun c61 => ?_) (fun c61 => ?_)
  · have k := k.1 c61
    refine jr_aload_n 0 dX12_goesOrders_65 rfl rfl ?_
    refine jr_iload 2 dX12_goesOrders_66 rfl ?_
    obtain ⟨fs10, e11, e12, k⟩ := k
    refine jr_putE jp_X12_442 dX12_goesOrders_68 e11 e12 rfl rfl (fun h13 eh14 => ?_)
    have k := k h13 eh14
    refine jr_iconst (v := 0) dX12_goesOrders_71 (by decide) ?_
    refine jr_istore (lv' := [(5, .int 0), (0, .ref x0), (1, .int x1), (4, .int x4)]) dX12_goesOrders_72 (by decide) rfl ?_
    exact jr_sub [1, 2, 0] rfl k
  · have k := k.2 c61
    exact jr_vret rfl dX12_goesOrders_64 k
set_option maxRecDepth 20000 in
theorem bX12_goesOrders_74 {g : jG} {d : Nat} {hs : jH} {P : jO → jH → Prop} {x0 : Nat} {x1 : Int32} {x5 : Int32} {h : jH} (k : (x5 < x1 → ∃ fs1 : List Value, h.1 x0 = some (.inr (12, fs1)) ∧ ∃ v4 : Nat, fs1[29]? = some (.ref v4) ∧ ∃ fs5 : List Value, h.1 x0 = some (.inr (12, fs5)) ∧ ∃ v8 : Nat, fs5[28]? = some (.ref v8) ∧ ∃ (n9 : Nat) (f10 : Nat → Int32), h.1 v8 = some (.inl (0, (n9, .inl f10))) ∧ vp_in x5 n9 ∧ ∃ (n13 : Nat) (f14 : Nat → Int32), h.1 v4 = some (.inl (0, (n13, .inl f14))) ∧ vp_in x5 n13 ∧ ∀ h17 : jH, h17 = jset h v4 (.inl (0, (n13, .inl (upd f14 x5.toNatClampNeg ((f10 x5.toNatClampNeg)))))) → J g mX12_goesOrders (d + 1) hs P 74 [(0, .ref x0), (1, .int x1), (5, .int (x5 + 1))] [] h17) ∧ (¬ x5 < x1 → P (.inl none) h)) : J g mX12_goesOrders (d + 1) hs P 74 [(0, .ref x0), (1, .int x1), (5, .int x5)] [] h := by
  refine jr_iload 2 dX12_goesOrders_74 rfl ?_
  refine jr_iload_n 1 dX12_goesOrders_76 rfl rfl ?_
  refine jr_icmp_ge (tgt := 100) dX12_goesOrders_77 (by decide) (fun c77 => ?_) (fun c77 => ?_)
  · have k := k.2 c77
    exact jr_vret rfl dX12_goesOrders_100 k
  · have k := k.1 c77
    refine jr_aload_n 0 dX12_goesOrders_80 rfl rfl ?_
    obtain ⟨fs1, e2, v4, e3, k⟩ := k
    refine jr_get jf_X12_48 dX12_goesOrders_81 e2 e3 ?_
    refine jr_iload 2 dX12_goesOrders_84 rfl ?_
    refine jr_aload_n 0 dX12_goesOrders_86 rfl rfl ?_
    obtain ⟨fs5, e6, v8, e7, k⟩ := k
    refine jr_get jf_X12_45 dX12_goesOrders_87 e6 e7 ?_
    refine jr_iload 2 dX12_goesOrders_90 rfl ?_
    obtain ⟨n9, f10, e11, e12, k⟩ := k
    refine jr_iald dX12_goesOrders_92 e11 e12 ?_
    obtain ⟨n13, f14, e15, e16, k⟩ := k
    refine jr_iastE dX12_goesOrders_93 e15 e16 (fun h17 eh18 => ?_)
    have k := k h17 eh18
    refine jr_iinc (v := (x5 + 1)) (lv' := [(5, .int (x5 + 1)), (0, .ref x0), (1, .int x1)]) 2 dX12_goesOrders_94 rfl rfl (by decide) rfl ?_
    refine jr_goto (tgt := 74) dX12_goesOrders_97 (by decide) ?_
    exact jr_sub [1, 2, 0] rfl k
set_option maxRecDepth 20000 in
theorem bX12_goesOrders_104 {g : jG} {d : Nat} {hs : jH} {P : jO → jH → Prop} {x0 : Nat} {x1 : Int32} {x2 : Int32} {x3 : Int32} {x4 : Int32} {h : jH} (k : ∃ fs3 : List Value, h.1 x0 = some (.inr (12, fs3)) ∧ Con g mX12_houses d [.ref x0] h (jPi (fun (r1 : Int32) (h2 : jH) => (x4 < r1 → Con g mX12_has d [.int x2, .int x4] h2 (jPi (fun (r5 : Int32) (h6 : jH) => (r5 = 0 → ∃ fs7 : List Value, h6.1 x0 = some (.inr (12, fs7)) ∧ ∃ v10 : Nat, fs7[28]? = some (.ref v10) ∧ ∃ (n11 : Nat) (f12 : Nat → Int32), h6.1 v10 = some (.inl (0, (n11, .inl f12))) ∧ vp_in x1 n11 ∧ ∀ h15 : jH, h15 = jset h6 v10 (.inl (0, (n11, .inl (upd f12 x1.toNatClampNeg x4)))) → ∃ fs19 : List Value, h15.1 x0 = some (.inr (12, fs19)) ∧ Con g mX12_goesOrders d [.ref x0, .int (x1 + 1), .int (x2 ||| ((1 : Int32) <<< (x4 &&& 31))), .int x3] h15 (jPv (fun (h18 : jH) => J g mX12_goesOrders (d + 1) hs P 104 [(0, .ref x0), (1, .int x1), (2, .int x2), (3, .int x3), (4, .int (x4 + 1))] [] h18) (fun E h' => P (.inr E) h'))) ∧ (¬ r5 = 0 → J g mX12_goesOrders (d + 1) hs P 104 [(0, .ref x0), (1, .int x1), (2, .int x2), (3, .int x3), (4, .int (x4 + 1))] [] h6)) (fun E h' => P (.inr E) h'))) ∧ (¬ x4 < r1 → P (.inl none) h2)) (fun E h' => P (.inr E) h'))) : J g mX12_goesOrders (d + 1) hs P 104 [(0, .ref x0), (1, .int x1), (2, .int x2), (3, .int x3), (4, .int x4)] [] h := by
  refine jr_iload 4 dX12_goesOrders_104 rfl ?_
  refine jr_aload_n 0 dX12_goesOrders_106 rfl rfl ?_
  obtain ⟨fs3, e4, k⟩ := k
  refine jr_cVi (As := []) jl_X12_249 km_X12_houses rfl rfl dX12_goesOrders_107 e4 (Nat.le_of_ble_eq_true rfl) k (fun r1 h2 k => ?_)
  refine jr_icmp_ge (tgt := 153) dX12_goesOrders_110 (by decide) (fun c110 => ?_) (fun c110 => ?_)
  · have k := k.2 c110
    exact jr_vret rfl dX12_goesOrders_153 k
  · have k := k.1 c110
    refine jr_iload_n 2 dX12_goesOrders_113 rfl rfl ?_
    refine jr_iload 4 dX12_goesOrders_114 rfl ?_
    refine jr_cSi (As := [.int x2, .int x4]) jl_X12_448 km_X12_has rfl rfl dX12_goesOrders_116 (Nat.le_of_ble_eq_true rfl) k (fun r5 h6 k => ?_)
    refine jr_if_eq (tgt := 125) dX12_goesOrders_119 (by decide) (fun c119 => ?_) (fun c119 => ?_)
    · have k := k.1 c119
      refine jr_aload_n 0 dX12_goesOrders_125 rfl rfl ?_
      obtain ⟨fs7, e8, v10, e9, k⟩ := k
      refine jr_get jf_X12_45 dX12_goesOrders_126 e8 e9 ?_
      refine jr_iload_n 1 dX12_goesOrders_129 rfl rfl ?_
      refine jr_iload 4 dX12_goesOrders_130 rfl ?_
      obtain ⟨n11, f12, e13, e14, k⟩ := k
      refine jr_iastE dX12_goesOrders_132 e13 e14 (fun h15 eh16 => ?_)
      have k := k h15 eh16
      refine jr_aload_n 0 dX12_goesOrders_133 rfl rfl ?_
      refine jr_iload_n 1 dX12_goesOrders_134 rfl rfl ?_
      refine jr_iconst (v := 1) dX12_goesOrders_135 (by decide) ?_
      refine jr_iadd dX12_goesOrders_136 ?_
      refine jr_iload_n 2 dX12_goesOrders_137 rfl rfl ?_
      refine jr_iconst (v := 1) dX12_goesOrders_138 (by decide) ?_
      refine jr_iload 4 dX12_goesOrders_139 rfl ?_
      refine jr_ishl dX12_goesOrders_141 ?_
      refine jr_ior dX12_goesOrders_142 ?_
      refine jr_iload_n 3 dX12_goesOrders_143 rfl rfl ?_
      obtain ⟨fs19, e20, k⟩ := k
      refine jr_cVv (As := [.int (x1 + 1), .int (x2 ||| ((1 : Int32) <<< (x4 &&& 31))), .int x3]) jl_X12_451 km_X12_goesOrders rfl rfl dX12_goesOrders_144 e20 (Nat.le_of_ble_eq_true rfl) k (fun h18 k => ?_)
      refine jr_iinc (v := (x4 + 1)) (lv' := [(4, .int (x4 + 1)), (0, .ref x0), (1, .int x1), (2, .int x2), (3, .int x3)]) 4 dX12_goesOrders_147 rfl rfl (by decide) rfl ?_
      refine jr_goto (tgt := 104) dX12_goesOrders_150 (by decide) ?_
      exact jr_sub [1, 2, 3, 4, 0] rfl k
    · have k := k.2 c119
      refine jr_goto (tgt := 147) dX12_goesOrders_122 (by decide) ?_
      refine jr_iinc (v := (x4 + 1)) (lv' := [(4, .int (x4 + 1)), (0, .ref x0), (1, .int x1), (2, .int x2), (3, .int x3)]) 4 dX12_goesOrders_147 rfl rfl (by decide) rfl ?_
      refine jr_goto (tgt := 104) dX12_goesOrders_150 (by decide) ?_
      exact jr_sub [1, 2, 3, 4, 0] rfl k
set_option maxRecDepth 20000 in
theorem bX12_laysOrder_0 {g : jG} {d : Nat} {hs : jH} {P : jO → jH → Prop} {x0 : Nat} {x1 : Int32} {h : jH} (k : ∃ fs3 : List Value, h.1 x0 = some (.inr (12, fs3)) ∧ Con g mX12_putsAside d [.ref x0] h (jPv (fun (h2 : jH) => ∃ fs5 : List Value, h2.1 x0 = some (.inr (12, fs5)) ∧ 30 < fs5.length ∧ (∀ h8 : jH, h8 = jset h2 x0 (.inr (12, fs5.set 30 (.int 536870912))) → ∃ fs10 : List Value, h8.1 x0 = some (.inr (12, fs10)) ∧ 31 < fs10.length ∧ (∀ h13 : jH, h13 = jset h8 x0 (.inr (12, fs10.set 31 (.int 0))) → ∃ fs17 : List Value, h13.1 x0 = some (.inr (12, fs17)) ∧ Con g mX12_goesOrders d [.ref x0, .int 0, .int 0, .int x1] h13 (jPv (fun (h16 : jH) => P (.inl none) h16) (fun E h' => P (.inr E) h'))))) (fun E h' => P (.inr E) h'))) : J g mX12_laysOrder (d + 1) hs P 0 [(0, .ref x0), (1, .int x1)] [] h := by
  refine jr_aload_n 0 dX12_laysOrder_0 rfl rfl ?_
  obtain ⟨fs3, e4, k⟩ := k
  refine jr_cVv (As := []) jl_X12_380 km_X12_putsAside rfl rfl dX12_laysOrder_1 e4 (Nat.le_of_ble_eq_true rfl) k (fun h2 k => ?_)
  refine jr_aload_n 0 dX12_laysOrder_4 rfl rfl ?_
  refine jr_ldcw (v := 536870912) jk_X12_454 dX12_laysOrder_5 ?_
  obtain ⟨fs5, e6, e7, k⟩ := k
  refine jr_putE jp_X12_442 dX12_laysOrder_8 e6 e7 rfl rfl (fun h8 eh9 => ?_)
  have k := k h8 eh9
  refine jr_aload_n 0 dX12_laysOrder_11 rfl rfl ?_
  refine jr_iconst (v := 0) dX12_laysOrder_12 (by decide) ?_
  obtain ⟨fs10, e11, e12, k⟩ := k
  refine jr_putE jp_X12_445 dX12_laysOrder_13 e11 e12 rfl rfl (fun h13 eh14 => ?_)
  have k := k h13 eh14
  refine jr_aload_n 0 dX12_laysOrder_16 rfl rfl ?_
  refine jr_iconst (v := 0) dX12_laysOrder_17 (by decide) ?_
  refine jr_iconst (v := 0) dX12_laysOrder_18 (by decide) ?_
  refine jr_iload_n 1 dX12_laysOrder_19 rfl rfl ?_
  obtain ⟨fs17, e18, k⟩ := k
  refine jr_cVv (As := [.int 0, .int 0, .int x1]) jl_X12_451 km_X12_goesOrders rfl rfl dX12_laysOrder_20 e18 (Nat.le_of_ble_eq_true rfl) k (fun h16 k => ?_)
  exact jr_vret rfl dX12_laysOrder_23 k
set_option maxRecDepth 20000 in
theorem bX12_order_0 {g : jG} {d : Nat} {hs : jH} {P : jO → jH → Prop} {x0 : Nat} {x1 : Int32} {x2 : Int32} {h : jH} (k : ∃ fs1 : List Value, h.1 x0 = some (.inr (12, fs1)) ∧ 4 < fs1.length ∧ (∀ h4 : jH, h4 = jset h x0 (.inr (12, fs1.set 4 (.int 0))) → Con g mX12_isSoon d [.int x1] h4 (jPi (fun (r6 : Int32) (h7 : jH) => (r6 = 0 → J g mX12_order (d + 1) hs P 30 [(0, .ref x0)] [] h7) ∧ (¬ r6 = 0 → (x2 = 0 → J g mX12_order (d + 1) hs P 36 [(0, .ref x0), (1, .int x1), (2, .int x2)] [] h7) ∧ (¬ x2 = 0 → Con g mX12_within d [.long x2.toInt64, .long 10, .long 16] h7 (jPi (fun (r8 : Int32) (h9 : jH) => (r8 = 0 → J g mX12_order (d + 1) hs P 30 [(0, .ref x0)] [] h9) ∧ (¬ r8 = 0 → J g mX12_order (d + 1) hs P 36 [(0, .ref x0), (1, .int x1), (2, .int x2)] [] h9)) (fun E h' => P (.inr E) h'))))) (fun E h' => P (.inr E) h')))) : J g mX12_order (d + 1) hs P 0 [(0, .ref x0), (1, .int x1), (2, .int x2)] [] h := by
  refine jr_aload_n 0 dX12_order_0 rfl rfl ?_
  refine jr_iconst (v := 0) dX12_order_1 (by decide) ?_
  obtain ⟨fs1, e2, e3, k⟩ := k
  refine jr_putE jp_X12_67 dX12_order_2 e2 e3 rfl rfl (fun h4 eh5 => ?_)
  have k := k h4 eh5
  refine jr_iload_n 1 dX12_order_5 rfl rfl ?_
  refine jr_cSi (As := [.int x1]) jl_X12_422 km_X12_isSoon rfl rfl dX12_order_6 (Nat.le_of_ble_eq_true rfl) k (fun r6 h7 k => ?_)
  refine jr_if_eq (tgt := 30) dX12_order_9 (by decide) (fun c9 => ?_) (fun c9 => ?_)
  · have k := k.1 c9
    exact jr_sub [0] rfl k
  · have k := k.2 c9
    refine jr_iload_n 2 dX12_order_12 rfl rfl ?_
    refine jr_if_eq (tgt := 36) dX12_order_13 (by decide) (fun c13 => ?_) (fun c13 => ?_)
    · have k := k.1 c13
      exact jr_sub [0, 1, 2] rfl k
    · have k := k.2 c13
      refine jr_iload_n 2 dX12_order_16 rfl rfl ?_
      refine jr_i2l dX12_order_17 ?_
      refine jr_ldc2 (v := 10) jk_X12_358 dX12_order_18 ?_
      refine jr_ldc2 (v := 16) jk_X12_455 dX12_order_21 ?_
      refine jr_cSi (As := [.long x2.toInt64, .long 10, .long 16]) jl_X12_128 km_X12_within rfl rfl dX12_order_24 (Nat.le_of_ble_eq_true rfl) k (fun r8 h9 k => ?_)
      refine jr_if_ne (tgt := 36) dX12_order_27 (by decide) (fun c27 => ?_) (fun c27 => ?_)
      · have k := k.2 c27
        exact jr_sub [0, 1, 2] rfl k
      · have k := k.1 c27
        exact jr_sub [0] rfl k
set_option maxRecDepth 20000 in
theorem bX12_order_30 {g : jG} {d : Nat} {hs : jH} {P : jO → jH → Prop} {x0 : Nat} {h : jH} (k : ∃ fs3 : List Value, h.1 x0 = some (.inr (12, fs3)) ∧ Con g mX12_fails d [.ref x0, .int 1] h (jPi (fun (r1 : Int32) (h2 : jH) => P (.inl (some (.int r1))) h2) (fun E h' => P (.inr E) h'))) : J g mX12_order (d + 1) hs P 30 [(0, .ref x0)] [] h := by
  refine jr_aload_n 0 dX12_order_30 rfl rfl ?_
  refine jr_iconst (v := 1) dX12_order_31 (by decide) ?_
  obtain ⟨fs3, e4, k⟩ := k
  refine jr_cVi (As := [.int 1]) jl_X12_234 km_X12_fails rfl rfl dX12_order_32 e4 (Nat.le_of_ble_eq_true rfl) k (fun r1 h2 k => ?_)
  exact jr_iret (ty := .int) rfl rfl dX12_order_35 k
set_option maxRecDepth 20000 in
theorem bX12_order_36 {g : jG} {d : Nat} {hs : jH} {P : jO → jH → Prop} {x0 : Nat} {x1 : Int32} {x2 : Int32} {h : jH} (k : ∃ fs3 : List Value, h.1 x0 = some (.inr (12, fs3)) ∧ Con g mX12_laysOrder d [.ref x0, .int x1] h (jPv (fun (h2 : jH) => (x2 = 0 → ∃ fs17 : List Value, h2.1 x0 = some (.inr (12, fs17)) ∧ ∃ v20 : Int32, fs17[30]? = some (.int v20) ∧ P (.inl (some (.int v20))) h2) ∧ (¬ x2 = 0 → ∃ fs7 : List Value, h2.1 x0 = some (.inr (12, fs7)) ∧ Con g mX12_houses d [.ref x0] h2 (jPi (fun (r5 : Int32) (h6 : jH) => ((x2 - 10) < r5 → ∃ fs9 : List Value, h6.1 x0 = some (.inr (12, fs9)) ∧ ∃ v12 : Nat, fs9[29]? = some (.ref v12) ∧ ∃ (n13 : Nat) (f14 : Nat → Int32), h6.1 v12 = some (.inl (0, (n13, .inl f14))) ∧ vp_in (x2 - 10) n13 ∧ P (.inl (some (.int ((f14 ((x2 - 10)).toNatClampNeg))))) h6) ∧ (¬ (x2 - 10) < r5 → P (.inl (some (.int ((-1))))) h6)) (fun E h' => P (.inr E) h')))) (fun E h' => P (.inr E) h'))) : J g mX12_order (d + 1) hs P 36 [(0, .ref x0), (1, .int x1), (2, .int x2)] [] h := by
  refine jr_aload_n 0 dX12_order_36 rfl rfl ?_
  refine jr_iload_n 1 dX12_order_37 rfl rfl ?_
  obtain ⟨fs3, e4, k⟩ := k
  refine jr_cVv (As := [.int x1]) jl_X12_457 km_X12_laysOrder rfl rfl dX12_order_38 e4 (Nat.le_of_ble_eq_true rfl) k (fun h2 k => ?_)
  refine jr_iload_n 2 dX12_order_41 rfl rfl ?_
  refine jr_if_ne (tgt := 52) dX12_order_42 (by decide) (fun c42 => ?_) (fun c42 => ?_)
  · have k := k.2 c42
    refine jr_iload_n 2 dX12_order_52 rfl rfl ?_
    refine jr_bipush (v := 10) dX12_order_53 (by decide) ?_
    refine jr_isub dX12_order_55 ?_
    refine jr_aload_n 0 dX12_order_56 rfl rfl ?_
    obtain ⟨fs7, e8, k⟩ := k
    refine jr_cVi (As := []) jl_X12_249 km_X12_houses rfl rfl dX12_order_57 e8 (Nat.le_of_ble_eq_true rfl) k (fun r5 h6 k => ?_)
    refine jr_icmp_ge (tgt := 75) dX12_order_60 (by decide) (fun c60 => ?_) (fun c60 => ?_)
    · have k := k.2 c60
      refine jr_iconst (v := (-1)) dX12_order_75 (by decide) ?_
      exact jr_iret (ty := .int) rfl rfl dX12_order_76 k
    · have k := k.1 c60
      refine jr_aload_n 0 dX12_order_63 rfl rfl ?_
      obtain ⟨fs9, e10, v12, e11, k⟩ := k
      refine jr_get jf_X12_48 dX12_order_64 e10 e11 ?_
      refine jr_iload_n 2 dX12_order_67 rfl rfl ?_
      refine jr_bipush (v := 10) dX12_order_68 (by decide) ?_
      refine jr_isub dX12_order_70 ?_
      obtain ⟨n13, f14, e15, e16, k⟩ := k
      refine jr_iald dX12_order_71 e15 e16 ?_
      refine jr_goto (tgt := 76) dX12_order_72 (by decide) ?_
      exact jr_iret (ty := .int) rfl rfl dX12_order_76 k
  · have k := k.1 c42
    refine jr_aload_n 0 dX12_order_45 rfl rfl ?_
    obtain ⟨fs17, e18, v20, e19, k⟩ := k
    refine jr_get jf_X12_442 dX12_order_46 e18 e19 ?_
    refine jr_goto (tgt := 76) dX12_order_49 (by decide) ?_
    exact jr_iret (ty := .int) rfl rfl dX12_order_76 k
set_option maxRecDepth 20000 in
theorem bX12_orders_0 {g : jG} {d : Nat} {hs : jH} {P : jO → jH → Prop} {x0 : Nat} {x1 : Int32} {h : jH} (k : ∃ fs1 : List Value, h.1 x0 = some (.inr (12, fs1)) ∧ 4 < fs1.length ∧ (∀ h4 : jH, h4 = jset h x0 (.inr (12, fs1.set 4 (.int 0))) → Con g mX12_isSoon d [.int x1] h4 (jPi (fun (r6 : Int32) (h7 : jH) => (r6 = 0 → ∃ fs18 : List Value, h7.1 x0 = some (.inr (12, fs18)) ∧ Con g mX12_fails d [.ref x0, .int 1] h7 (jPi (fun (r16 : Int32) (h17 : jH) => P (.inl (some (.int r16))) h17) (fun E h' => P (.inr E) h'))) ∧ (¬ r6 = 0 → ∃ fs10 : List Value, h7.1 x0 = some (.inr (12, fs10)) ∧ Con g mX12_laysOrder d [.ref x0, .int x1] h7 (jPv (fun (h9 : jH) => ∃ fs12 : List Value, h9.1 x0 = some (.inr (12, fs12)) ∧ ∃ v15 : Int32, fs12[31]? = some (.int v15) ∧ P (.inl (some (.int v15))) h9) (fun E h' => P (.inr E) h')))) (fun E h' => P (.inr E) h')))) : J g mX12_orders (d + 1) hs P 0 [(0, .ref x0), (1, .int x1)] [] h := by
  refine jr_aload_n 0 dX12_orders_0 rfl rfl ?_
  refine jr_iconst (v := 0) dX12_orders_1 (by decide) ?_
  obtain ⟨fs1, e2, e3, k⟩ := k
  refine jr_putE jp_X12_67 dX12_orders_2 e2 e3 rfl rfl (fun h4 eh5 => ?_)
  have k := k h4 eh5
  refine jr_iload_n 1 dX12_orders_5 rfl rfl ?_
  refine jr_cSi (As := [.int x1]) jl_X12_422 km_X12_isSoon rfl rfl dX12_orders_6 (Nat.le_of_ble_eq_true rfl) k (fun r6 h7 k => ?_)
  refine jr_if_ne (tgt := 18) dX12_orders_9 (by decide) (fun c9 => ?_) (fun c9 => ?_)
  · have k := k.2 c9
    refine jr_aload_n 0 dX12_orders_18 rfl rfl ?_
    refine jr_iload_n 1 dX12_orders_19 rfl rfl ?_
    obtain ⟨fs10, e11, k⟩ := k
    refine jr_cVv (As := [.int x1]) jl_X12_457 km_X12_laysOrder rfl rfl dX12_orders_20 e11 (Nat.le_of_ble_eq_true rfl) k (fun h9 k => ?_)
    refine jr_aload_n 0 dX12_orders_23 rfl rfl ?_
    obtain ⟨fs12, e13, v15, e14, k⟩ := k
    refine jr_get jf_X12_445 dX12_orders_24 e13 e14 ?_
    exact jr_iret (ty := .int) rfl rfl dX12_orders_27 k
  · have k := k.1 c9
    refine jr_aload_n 0 dX12_orders_12 rfl rfl ?_
    refine jr_iconst (v := 1) dX12_orders_13 (by decide) ?_
    obtain ⟨fs18, e19, k⟩ := k
    refine jr_cVi (As := [.int 1]) jl_X12_234 km_X12_fails rfl rfl dX12_orders_14 e19 (Nat.le_of_ble_eq_true rfl) k (fun r16 h17 k => ?_)
    exact jr_iret (ty := .int) rfl rfl dX12_orders_17 k
set_option maxRecDepth 20000 in
theorem bX12_bestSwap_0 {g : jG} {d : Nat} {hs : jH} {P : jO → jH → Prop} {x0 : Nat} {x1 : Int32} {h : jH} (k : ∃ fs1 : List Value, h.1 x0 = some (.inr (12, fs1)) ∧ 4 < fs1.length ∧ (∀ h4 : jH, h4 = jset h x0 (.inr (12, fs1.set 4 (.int 0))) → Con g mX12_isSoon d [.int x1] h4 (jPi (fun (r6 : Int32) (h7 : jH) => (r6 = 0 → ∃ fs14 : List Value, h7.1 x0 = some (.inr (12, fs14)) ∧ Con g mX12_fails d [.ref x0, .int 1] h7 (jPi (fun (r12 : Int32) (h13 : jH) => P (.inl (some (.int r12))) h13) (fun E h' => P (.inr E) h'))) ∧ (¬ r6 = 0 → ∃ fs10 : List Value, h7.1 x0 = some (.inr (12, fs10)) ∧ Con g mX12_lostNow d [.ref x0, .int x1] h7 (jPi (fun (r8 : Int32) (h9 : jH) => J g mX12_bestSwap (d + 1) hs P 29 [(0, .ref x0), (1, .int x1), (2, .int (-1)), (3, .int r8), (4, .int 0)] [] h9) (fun E h' => P (.inr E) h')))) (fun E h' => P (.inr E) h')))) : J g mX12_bestSwap (d + 1) hs P 0 [(0, .ref x0), (1, .int x1)] [] h := by
  refine jr_aload_n 0 dX12_bestSwap_0 rfl rfl ?_
  refine jr_iconst (v := 0) dX12_bestSwap_1 (by decide) ?_
  obtain ⟨fs1, e2, e3, k⟩ := k
  refine jr_putE jp_X12_67 dX12_bestSwap_2 e2 e3 rfl rfl (fun h4 eh5 => ?_)
  have k := k h4 eh5
  refine jr_iload_n 1 dX12_bestSwap_5 rfl rfl ?_
  refine jr_cSi (As := [.int x1]) jl_X12_422 km_X12_isSoon rfl rfl dX12_bestSwap_6 (Nat.le_of_ble_eq_true rfl) k (fun r6 h7 k => ?_)
  refine jr_if_ne (tgt := 18) dX12_bestSwap_9 (by decide) (fun c9 => ?_) (fun c9 => ?_)
  · have k := k.2 c9
    refine jr_iconst (v := (-1)) dX12_bestSwap_18 (by decide) ?_
    refine jr_istore_n (lv' := [(2, .int (-1)), (0, .ref x0), (1, .int x1)]) dX12_bestSwap_19 rfl (by decide) rfl ?_
    refine jr_aload_n 1 dX12_bestSwap_20 rfl rfl ?_
    refine jr_iload_n 2 dX12_bestSwap_21 rfl rfl ?_
    obtain ⟨fs10, e11, k⟩ := k
    refine jr_cVi (As := [.int x1]) jl_X12_425 km_X12_lostNow rfl rfl dX12_bestSwap_22 e11 (Nat.le_of_ble_eq_true rfl) k (fun r8 h9 k => ?_)
    refine jr_istore_n (lv' := [(3, .int r8), (2, .int (-1)), (0, .ref x0), (1, .int x1)]) dX12_bestSwap_25 rfl (by decide) rfl ?_
    refine jr_iconst (v := 0) dX12_bestSwap_26 (by decide) ?_
    refine jr_istore (lv' := [(4, .int 0), (3, .int r8), (2, .int (-1)), (0, .ref x0), (1, .int x1)]) dX12_bestSwap_27 (by decide) rfl ?_
    exact jr_sub [3, 4, 2, 1, 0] rfl k
  · have k := k.1 c9
    refine jr_aload_n 0 dX12_bestSwap_12 rfl rfl ?_
    refine jr_iconst (v := 1) dX12_bestSwap_13 (by decide) ?_
    obtain ⟨fs14, e15, k⟩ := k
    refine jr_cVi (As := [.int 1]) jl_X12_234 km_X12_fails rfl rfl dX12_bestSwap_14 e15 (Nat.le_of_ble_eq_true rfl) k (fun r12 h13 k => ?_)
    exact jr_iret (ty := .int) rfl rfl dX12_bestSwap_17 k
set_option maxRecDepth 20000 in
theorem bX12_bestSwap_29 {g : jG} {d : Nat} {hs : jH} {P : jO → jH → Prop} {x0 : Nat} {x1 : Int32} {x2 : Int32} {x3 : Int32} {x4 : Int32} {h : jH} (k : (x4 < 100 → ((x4 / 10) < (x4 - x4 / 10 * 10) → ∃ fs3 : List Value, h.1 x0 = some (.inr (12, fs3)) ∧ Con g mX12_whyTwo d [.ref x0, .long ((x4 / 10)).toInt64, .long ((x4 - x4 / 10 * 10)).toInt64] h (jPi (fun (r1 : Int32) (h2 : jH) => (r1 = 0 → ∃ fs7 : List Value, h2.1 x0 = some (.inr (12, fs7)) ∧ Con g mX12_putsAside d [.ref x0] h2 (jPv (fun (h6 : jH) => ∃ fs11 : List Value, h6.1 x0 = some (.inr (12, fs11)) ∧ Con g mX12_swaps d [.ref x0, .int (x4 / 10), .int (x4 - x4 / 10 * 10)] h6 (jPv (fun (h10 : jH) => ∃ fs15 : List Value, h10.1 x0 = some (.inr (12, fs15)) ∧ Con g mX12_lostFromHere d [.ref x0, .int x1] h10 (jPi (fun (r13 : Int32) (h14 : jH) => (r13 < x3 → J g mX12_bestSwap (d + 1) hs P 29 [(0, .ref x0), (1, .int x1), (2, .int x4), (3, .int r13), (4, .int (x4 + 1))] [] h14) ∧ (¬ r13 < x3 → J g mX12_bestSwap (d + 1) hs P 29 [(0, .ref x0), (1, .int x1), (2, .int x2), (3, .int x3), (4, .int (x4 + 1))] [] h14)) (fun E h' => P (.inr E) h'))) (fun E h' => P (.inr E) h'))) (fun E h' => P (.inr E) h'))) ∧ (¬ r1 = 0 → J g mX12_bestSwap (d + 1) hs P 29 [(0, .ref x0), (1, .int x1), (2, .int x2), (3, .int x3), (4, .int (x4 + 1))] [] h2)) (fun E h' => P (.inr E) h'))) ∧ (¬ (x4 / 10) < (x4 - x4 / 10 * 10) → J g mX12_bestSwap (d + 1) hs P 29 [(0, .ref x0), (1, .int x1), (2, .int x2), (3, .int x3), (4, .int (x4 + 1))] [] h)) ∧ (¬ x4 < 100 → P (.inl (some (.int x2))) h)) : J g mX12_bestSwap (d + 1) hs P 29 [(0, .ref x0), (1, .int x1), (2, .int x2), (3, .int x3), (4, .int x4)] [] h := by
  refine jr_iload 4 dX12_bestSwap_29 rfl ?_
  refine jr_bipush (v := 100) dX12_bestSwap_31 (by decide) ?_
  refine jr_icmp_ge (tgt := 117) dX12_bestSwap_33 (by decide) (fun c33 => ?_) (fun c33 => ?_)
  · have k := k.2 c33
    refine jr_iload_n 2 dX12_bestSwap_117 rfl rfl ?_
    exact jr_iret (ty := .int) rfl rfl dX12_bestSwap_118 k
  · have k := k.1 c33
    refine jr_iload 4 dX12_bestSwap_36 rfl ?_
    refine jr_bipush (v := 10) dX12_bestSwap_38 (by decide) ?_
    refine jr_idiv dX12_bestSwap_40 (by decide) ?_
    refine jr_iload 4 dX12_bestSwap_41 rfl ?_
    refine jr_bipush (v := 10) dX12_bestSwap_43 (by decide) ?_
    refine jr_irem dX12_bestSwap_45 (by decide) ?_
    refine jr_icmp_ge (tgt := 111) dX12_bestSwap_46 (by decide) (fun c46 => ?_) (fun c46 => ?_)
    · have k := k.2 c46
      refine jr_iinc (v := (x4 + 1)) (lv' := [(4, .int (x4 + 1)), (0, .ref x0), (1, .int x1), (2, .int x2), (3, .int x3)]) 4 dX12_bestSwap_111 rfl rfl (by decide) rfl ?_
      refine jr_goto (tgt := 29) dX12_bestSwap_114 (by decide) ?_
      exact jr_sub [1, 2, 3, 4, 0] rfl k
    · have k := k.1 c46
      refine jr_aload_n 0 dX12_bestSwap_49 rfl rfl ?_
      refine jr_iload 4 dX12_bestSwap_50 rfl ?_
      refine jr_bipush (v := 10) dX12_bestSwap_52 (by decide) ?_
      refine jr_idiv dX12_bestSwap_54 (by decide) ?_
      refine jr_i2l dX12_bestSwap_55 ?_
      refine jr_iload 4 dX12_bestSwap_56 rfl ?_
      refine jr_bipush (v := 10) dX12_bestSwap_58 (by decide) ?_
      refine jr_irem dX12_bestSwap_60 (by decide) ?_
      refine jr_i2l dX12_bestSwap_61 ?_
      obtain ⟨fs3, e4, k⟩ := k
      refine jr_cVi (As := [.long ((x4 / 10)).toInt64, .long ((x4 - x4 / 10 * 10)).toInt64]) jl_X12_323 km_X12_whyTwo rfl rfl dX12_bestSwap_62 e4 (Nat.le_of_ble_eq_true rfl) k (fun r1 h2 k => ?_)
      refine jr_if_eq (tgt := 71) dX12_bestSwap_65 (by decide) (fun c65 => ?_) (fun c65 => ?_)
      · have k := k.1 c65
        refine jr_aload_n 0 dX12_bestSwap_71 rfl rfl ?_
        obtain ⟨fs7, e8, k⟩ := k
        refine jr_cVv (As := []) jl_X12_380 km_X12_putsAside rfl rfl dX12_bestSwap_72 e8 (Nat.le_of_ble_eq_true rfl) k (fun h6 k => ?_)
        refine jr_aload_n 0 dX12_bestSwap_75 rfl rfl ?_
        refine jr_iload 4 dX12_bestSwap_76 rfl ?_
        refine jr_bipush (v := 10) dX12_bestSwap_78 (by decide) ?_
        refine jr_idiv dX12_bestSwap_80 (by decide) ?_
        refine jr_iload 4 dX12_bestSwap_81 rfl ?_
        refine jr_bipush (v := 10) dX12_bestSwap_83 (by decide) ?_
        refine jr_irem dX12_bestSwap_85 (by decide) ?_
        obtain ⟨fs11, e12, k⟩ := k
        refine jr_cVv (As := [.int (x4 / 10), .int (x4 - x4 / 10 * 10)]) jl_X12_335 km_X12_swaps rfl rfl dX12_bestSwap_86 e12 (Nat.le_of_ble_eq_true rfl) k (fun h10 k => ?_)
        refine jr_aload_n 0 dX12_bestSwap_89 rfl rfl ?_
        refine jr_iload_n 1 dX12_bestSwap_90 rfl rfl ?_
        obtain ⟨fs15, e16, k⟩ := k
        refine jr_cVi (As := [.int x1]) jl_X12_419 km_X12_lostFromHere rfl rfl dX12_bestSwap_91 e16 (Nat.le_of_ble_eq_true rfl) k (fun r13 h14 k => ?_)
        refine jr_istore (lv' := [(5, .int r13), (0, .ref x0), (1, .int x1), (2, .int x2), (3, .int x3), (4, .int x4)]) dX12_bestSwap_94 (by decide) rfl ?_
        refine jr_iload 0 dX12_bestSwap_96 rfl ?_
        refine jr_iload_n 4 dX12_bestSwap_98 rfl rfl ?_
        refine jr_icmp_lt (tgt := 105) dX12_bestSwap_99 (by decide) (fun c99 => ?_) (fun c99 => ?_)
        · have k := k.1 c99
          refine jr_iload 5 dX12_bestSwap_105 rfl ?_
          refine jr_istore_n (lv' := [(2, .int x4), (5, .int r13), (0, .ref x0), (1, .int x1), (3, .int x3), (4, .int x4)]) dX12_bestSwap_107 rfl (by decide) rfl ?_
          refine jr_iload 1 dX12_bestSwap_108 rfl ?_
          refine jr_istore_n (lv' := [(3, .int r13), (2, .int x4), (5, .int r13), (0, .ref x0), (1, .int x1), (4, .int x4)]) dX12_bestSwap_110 rfl (by decide) rfl ?_
          refine jr_iinc (v := (x4 + 1)) (lv' := [(4, .int (x4 + 1)), (3, .int r13), (2, .int x4), (5, .int r13), (0, .ref x0), (1, .int x1)]) 5 dX12_bestSwap_111 rfl rfl (by decide) rfl ?_
          refine jr_goto (tgt := 29) dX12_bestSwap_114 (by decide) ?_
          exact jr_sub [4, 5, 2, 1, 0] rfl k
        · have k := k.2 c99
          refine jr_goto (tgt := 111) dX12_bestSwap_102 (by decide) ?_
          refine jr_iinc (v := (x4 + 1)) (lv' := [(4, .int (x4 + 1)), (5, .int r13), (0, .ref x0), (1, .int x1), (2, .int x2), (3, .int x3)]) 5 dX12_bestSwap_111 rfl rfl (by decide) rfl ?_
          refine jr_goto (tgt := 29) dX12_bestSwap_114 (by decide) ?_
          exact jr_sub [2, 3, 4, 5, 0] rfl k
      · have k := k.2 c65
        refine jr_goto (tgt := 111) dX12_bestSwap_68 (by decide) ?_
        refine jr_iinc (v := (x4 + 1)) (lv' := [(4, .int (x4 + 1)), (0, .ref x0), (1, .int x1), (2, .int x2), (3, .int x3)]) 4 dX12_bestSwap_111 rfl rfl (by decide) rfl ?_
        refine jr_goto (tgt := 29) dX12_bestSwap_114 (by decide) ?_
        exact jr_sub [1, 2, 3, 4, 0] rfl k
set_option maxRecDepth 20000 in
theorem bX12_burdenAt_0 {g : jG} {d : Nat} {hs : jH} {P : jO → jH → Prop} {x0 : Nat} {x1 : Int32} {x2 : Int32} {x3 : Int32} {h : jH} (k : ∃ fs3 : List Value, h.1 x0 = some (.inr (12, fs3)) ∧ Con g mX12_putsAside d [.ref x0] h (jPv (fun (h2 : jH) => (x1 = x2 → J g mX12_burdenAt (d + 1) hs P 15 [(0, .ref x0), (2, .int x2), (3, .int x3)] [] h2) ∧ (¬ x1 = x2 → ∃ fs7 : List Value, h2.1 x0 = some (.inr (12, fs7)) ∧ Con g mX12_swaps d [.ref x0, .int x1, .int x2] h2 (jPv (fun (h6 : jH) => J g mX12_burdenAt (d + 1) hs P 15 [(0, .ref x0), (2, .int x2), (3, .int x3)] [] h6) (fun E h' => P (.inr E) h')))) (fun E h' => P (.inr E) h'))) : J g mX12_burdenAt (d + 1) hs P 0 [(0, .ref x0), (1, .int x1), (2, .int x2), (3, .int x3)] [] h := by
  refine jr_aload_n 0 dX12_burdenAt_0 rfl rfl ?_
  obtain ⟨fs3, e4, k⟩ := k
  refine jr_cVv (As := []) jl_X12_380 km_X12_putsAside rfl rfl dX12_burdenAt_1 e4 (Nat.le_of_ble_eq_true rfl) k (fun h2 k => ?_)
  refine jr_iload_n 1 dX12_burdenAt_4 rfl rfl ?_
  refine jr_iload_n 2 dX12_burdenAt_5 rfl rfl ?_
  refine jr_icmp_eq (tgt := 15) dX12_burdenAt_6 (by decide) (fun c6 => ?_) (fun c6 => ?_)
  · have k := k.1 c6
    exact jr_sub [0, 2, 3] rfl k
  · have k := k.2 c6
    refine jr_aload_n 0 dX12_burdenAt_9 rfl rfl ?_
    refine jr_iload_n 1 dX12_burdenAt_10 rfl rfl ?_
    refine jr_iload_n 2 dX12_burdenAt_11 rfl rfl ?_
    obtain ⟨fs7, e8, k⟩ := k
    refine jr_cVv (As := [.int x1, .int x2]) jl_X12_335 km_X12_swaps rfl rfl dX12_burdenAt_12 e8 (Nat.le_of_ble_eq_true rfl) k (fun h6 k => ?_)
    exact jr_sub [0, 2, 3] rfl k
set_option maxRecDepth 20000 in
theorem bX12_burdenAt_15 {g : jG} {d : Nat} {hs : jH} {P : jO → jH → Prop} {x0 : Nat} {x2 : Int32} {x3 : Int32} {h : jH} (k : ∃ fs3 : List Value, h.1 x0 = some (.inr (12, fs3)) ∧ Con g mX12_burdenFromHere d [.ref x0, .int x2, .int x3] h (jPl (fun (r1 : Int64) (h2 : jH) => P (.inl (some (.long r1))) h2) (fun E h' => P (.inr E) h'))) : J g mX12_burdenAt (d + 1) hs P 15 [(0, .ref x0), (2, .int x2), (3, .int x3)] [] h := by
  refine jr_aload_n 0 dX12_burdenAt_15 rfl rfl ?_
  refine jr_iload_n 1 dX12_burdenAt_16 rfl rfl ?_
  refine jr_iload_n 2 dX12_burdenAt_17 rfl rfl ?_
  obtain ⟨fs3, e4, k⟩ := k
  refine jr_cVl (As := [.int x2, .int x3]) jl_X12_428 km_X12_burdenFromHere rfl rfl dX12_burdenAt_18 e4 (Nat.le_of_ble_eq_true rfl) k (fun r1 h2 k => ?_)
  exact jr_lret rfl dX12_burdenAt_21 k
set_option maxRecDepth 20000 in
theorem bX12_wouldSwap_0 {g : jG} {d : Nat} {hs : jH} {P : jO → jH → Prop} {x0 : Nat} {x1 : Int32} {h : jH} (k : ∃ fs1 : List Value, h.1 x0 = some (.inr (12, fs1)) ∧ 4 < fs1.length ∧ (∀ h4 : jH, h4 = jset h x0 (.inr (12, fs1.set 4 (.int 0))) → Con g mX12_isSoon d [.int x1] h4 (jPi (fun (r6 : Int32) (h7 : jH) => (r6 = 0 → ∃ fs10 : List Value, h7.1 x0 = some (.inr (12, fs10)) ∧ Con g mX12_fails d [.ref x0, .int 1] h7 (jPi (fun (r8 : Int32) (h9 : jH) => P (.inl (some (.int r8))) h9) (fun E h' => P (.inr E) h'))) ∧ (¬ r6 = 0 → J g mX12_wouldSwap (d + 1) hs P 20 [(0, .ref x0), (1, .int x1), (2, .int 0)] [] h7)) (fun E h' => P (.inr E) h')))) : J g mX12_wouldSwap (d + 1) hs P 0 [(0, .ref x0), (1, .int x1)] [] h := by
  refine jr_aload_n 0 dX12_wouldSwap_0 rfl rfl ?_
  refine jr_iconst (v := 0) dX12_wouldSwap_1 (by decide) ?_
  obtain ⟨fs1, e2, e3, k⟩ := k
  refine jr_putE jp_X12_67 dX12_wouldSwap_2 e2 e3 rfl rfl (fun h4 eh5 => ?_)
  have k := k h4 eh5
  refine jr_iload_n 1 dX12_wouldSwap_5 rfl rfl ?_
  refine jr_cSi (As := [.int x1]) jl_X12_422 km_X12_isSoon rfl rfl dX12_wouldSwap_6 (Nat.le_of_ble_eq_true rfl) k (fun r6 h7 k => ?_)
  refine jr_if_ne (tgt := 18) dX12_wouldSwap_9 (by decide) (fun c9 => ?_) (fun c9 => ?_)
  · have k := k.2 c9
    refine jr_iconst (v := 0) dX12_wouldSwap_18 (by decide) ?_
    refine jr_istore_n (lv' := [(2, .int 0), (0, .ref x0), (1, .int x1)]) dX12_wouldSwap_19 rfl (by decide) rfl ?_
    exact jr_sub [1, 2, 0] rfl k
  · have k := k.1 c9
    refine jr_aload_n 0 dX12_wouldSwap_12 rfl rfl ?_
    refine jr_iconst (v := 1) dX12_wouldSwap_13 (by decide) ?_
    obtain ⟨fs10, e11, k⟩ := k
    refine jr_cVi (As := [.int 1]) jl_X12_234 km_X12_fails rfl rfl dX12_wouldSwap_14 e11 (Nat.le_of_ble_eq_true rfl) k (fun r8 h9 k => ?_)
    exact jr_iret (ty := .int) rfl rfl dX12_wouldSwap_17 k
set_option maxRecDepth 20000 in
theorem bX12_wouldSwap_20 {g : jG} {d : Nat} {hs : jH} {P : jO → jH → Prop} {x0 : Nat} {x1 : Int32} {x2 : Int32} {h : jH} (k : (x2 < 100 → ((x2 / 10) < (x2 - x2 / 10 * 10) → ∃ fs3 : List Value, h.1 x0 = some (.inr (12, fs3)) ∧ Con g mX12_whyTwo d [.ref x0, .long ((x2 / 10)).toInt64, .long ((x2 - x2 / 10 * 10)).toInt64] h (jPi (fun (r1 : Int32) (h2 : jH) => (r1 = 0 → ∃ fs7 : List Value, h2.1 x0 = some (.inr (12, fs7)) ∧ Con g mX12_isGone d [.ref x0, .int (x2 / 10)] h2 (jPi (fun (r5 : Int32) (h6 : jH) => (r5 = 0 → ∃ fs11 : List Value, h6.1 x0 = some (.inr (12, fs11)) ∧ Con g mX12_isGone d [.ref x0, .int (x2 - x2 / 10 * 10)] h6 (jPi (fun (r9 : Int32) (h10 : jH) => (r9 = 0 → ∃ fs15 : List Value, h10.1 x0 = some (.inr (12, fs15)) ∧ Con g mX12_burdenAt d [.ref x0, .int (x2 / 10), .int (x2 - x2 / 10 * 10), .int x1] h10 (jPl (fun (r13 : Int64) (h14 : jH) => ∃ fs19 : List Value, h14.1 x0 = some (.inr (12, fs19)) ∧ Con g mX12_burdenNow d [.ref x0, .int (x2 / 10), .int x1] h14 (jPl (fun (r17 : Int64) (h18 : jH) => (r13 < r17 → ∃ fs23 : List Value, h18.1 x0 = some (.inr (12, fs23)) ∧ Con g mX12_burdenAt d [.ref x0, .int (x2 - x2 / 10 * 10), .int (x2 / 10), .int x1] h18 (jPl (fun (r21 : Int64) (h22 : jH) => ∃ fs27 : List Value, h22.1 x0 = some (.inr (12, fs27)) ∧ Con g mX12_burdenNow d [.ref x0, .int (x2 - x2 / 10 * 10), .int x1] h22 (jPl (fun (r25 : Int64) (h26 : jH) => (r21 < r25 → P (.inl (some (.int x2))) h26) ∧ (¬ r21 < r25 → J g mX12_wouldSwap (d + 1) hs P 20 [(0, .ref x0), (1, .int x1), (2, .int (x2 + 1))] [] h26)) (fun E h' => P (.inr E) h'))) (fun E h' => P (.inr E) h'))) ∧ (¬ r13 < r17 → J g mX12_wouldSwap (d + 1) hs P 20 [(0, .ref x0), (1, .int x1), (2, .int (x2 + 1))] [] h18)) (fun E h' => P (.inr E) h'))) (fun E h' => P (.inr E) h'))) ∧ (¬ r9 = 0 → J g mX12_wouldSwap (d + 1) hs P 20 [(0, .ref x0), (1, .int x1), (2, .int (x2 + 1))] [] h10)) (fun E h' => P (.inr E) h'))) ∧ (¬ r5 = 0 → J g mX12_wouldSwap (d + 1) hs P 20 [(0, .ref x0), (1, .int x1), (2, .int (x2 + 1))] [] h6)) (fun E h' => P (.inr E) h'))) ∧ (¬ r1 = 0 → J g mX12_wouldSwap (d + 1) hs P 20 [(0, .ref x0), (1, .int x1), (2, .int (x2 + 1))] [] h2)) (fun E h' => P (.inr E) h'))) ∧ (¬ (x2 / 10) < (x2 - x2 / 10 * 10) → J g mX12_wouldSwap (d + 1) hs P 20 [(0, .ref x0), (1, .int x1), (2, .int (x2 + 1))] [] h)) ∧ (¬ x2 < 100 → P (.inl (some (.int ((-1))))) h)) : J g mX12_wouldSwap (d + 1) hs P 20 [(0, .ref x0), (1, .int x1), (2, .int x2)] [] h := by
  refine jr_iload_n 2 dX12_wouldSwap_20 rfl rfl ?_
  refine jr_bipush (v := 100) dX12_wouldSwap_21 (by decide) ?_
  refine jr_icmp_ge (tgt := 120) dX12_wouldSwap_23 (by decide) (fun c23 => ?_) (fun c23 => ?_)
  · have k := k.2 c23
    refine jr_iconst (v := (-1)) dX12_wouldSwap_120 (by decide) ?_
    exact jr_iret (ty := .int) rfl rfl dX12_wouldSwap_121 k
  · have k := k.1 c23
    refine jr_iload_n 2 dX12_wouldSwap_26 rfl rfl ?_
    refine jr_bipush (v := 10) dX12_wouldSwap_27 (by decide) ?_
    refine jr_idiv dX12_wouldSwap_29 (by decide) ?_
    refine jr_istore_n (lv' := [(3, .int (x2 / 10)), (0, .ref x0), (1, .int x1), (2, .int x2)]) dX12_wouldSwap_30 rfl (by decide) rfl ?_
    refine jr_iload_n 3 dX12_wouldSwap_31 rfl rfl ?_
    refine jr_bipush (v := 10) dX12_wouldSwap_32 (by decide) ?_
    refine jr_irem dX12_wouldSwap_34 (by decide) ?_
    refine jr_istore (lv' := [(4, .int (x2 - x2 / 10 * 10)), (3, .int (x2 / 10)), (0, .ref x0), (1, .int x1), (2, .int x2)]) dX12_wouldSwap_35 (by decide) rfl ?_
    refine jr_iload_n 1 dX12_wouldSwap_37 rfl rfl ?_
    refine jr_iload 0 dX12_wouldSwap_38 rfl ?_
    refine jr_icmp_ge (tgt := 114) dX12_wouldSwap_40 (by decide) (fun c40 => ?_) (fun c40 => ?_)
    · have k := k.2 c40
      refine jr_iinc (v := (x2 + 1)) (lv' := [(2, .int (x2 + 1)), (4, .int (x2 - x2 / 10 * 10)), (3, .int (x2 / 10)), (0, .ref x0), (1, .int x1)]) 4 dX12_wouldSwap_114 rfl rfl (by decide) rfl ?_
      refine jr_goto (tgt := 20) dX12_wouldSwap_117 (by decide) ?_
      exact jr_sub [3, 4, 0] rfl k
    · have k := k.1 c40
      refine jr_aload_n 2 dX12_wouldSwap_43 rfl rfl ?_
      refine jr_iload_n 1 dX12_wouldSwap_44 rfl rfl ?_
      refine jr_i2l dX12_wouldSwap_45 ?_
      refine jr_iload 0 dX12_wouldSwap_46 rfl ?_
      refine jr_i2l dX12_wouldSwap_48 ?_
      obtain ⟨fs3, e4, k⟩ := k
      refine jr_cVi (As := [.long ((x2 / 10)).toInt64, .long ((x2 - x2 / 10 * 10)).toInt64]) jl_X12_323 km_X12_whyTwo rfl rfl dX12_wouldSwap_49 e4 (Nat.le_of_ble_eq_true rfl) k (fun r1 h2 k => ?_)
      refine jr_if_ne (tgt := 114) dX12_wouldSwap_52 (by decide) (fun c52 => ?_) (fun c52 => ?_)
      · have k := k.2 c52
        refine jr_iinc (v := (x2 + 1)) (lv' := [(2, .int (x2 + 1)), (4, .int (x2 - x2 / 10 * 10)), (3, .int (x2 / 10)), (0, .ref x0), (1, .int x1)]) 4 dX12_wouldSwap_114 rfl rfl (by decide) rfl ?_
        refine jr_goto (tgt := 20) dX12_wouldSwap_117 (by decide) ?_
        exact jr_sub [3, 4, 0] rfl k
      · have k := k.1 c52
        refine jr_aload_n 2 dX12_wouldSwap_55 rfl rfl ?_
        refine jr_iload_n 1 dX12_wouldSwap_56 rfl rfl ?_
        obtain ⟨fs7, e8, k⟩ := k
        refine jr_cVi (As := [.int (x2 / 10)]) jl_X12_291 km_X12_isGone rfl rfl dX12_wouldSwap_57 e8 (Nat.le_of_ble_eq_true rfl) k (fun r5 h6 k => ?_)
        refine jr_if_ne (tgt := 114) dX12_wouldSwap_60 (by decide) (fun c60 => ?_) (fun c60 => ?_)
        · have k := k.2 c60
          refine jr_iinc (v := (x2 + 1)) (lv' := [(2, .int (x2 + 1)), (4, .int (x2 - x2 / 10 * 10)), (3, .int (x2 / 10)), (0, .ref x0), (1, .int x1)]) 4 dX12_wouldSwap_114 rfl rfl (by decide) rfl ?_
          refine jr_goto (tgt := 20) dX12_wouldSwap_117 (by decide) ?_
          exact jr_sub [3, 4, 0] rfl k
        · have k := k.1 c60
          refine jr_aload_n 2 dX12_wouldSwap_63 rfl rfl ?_
          refine jr_iload 0 dX12_wouldSwap_64 rfl ?_
          obtain ⟨fs11, e12, k⟩ := k
          refine jr_cVi (As := [.int (x2 - x2 / 10 * 10)]) jl_X12_291 km_X12_isGone rfl rfl dX12_wouldSwap_66 e12 (Nat.le_of_ble_eq_true rfl) k (fun r9 h10 k => ?_)
          refine jr_if_eq (tgt := 75) dX12_wouldSwap_69 (by decide) (fun c69 => ?_) (fun c69 => ?_)
          · have k := k.1 c69
            refine jr_aload_n 2 dX12_wouldSwap_75 rfl rfl ?_
            refine jr_iload_n 1 dX12_wouldSwap_76 rfl rfl ?_
            refine jr_iload 0 dX12_wouldSwap_77 rfl ?_
            refine jr_iload_n 3 dX12_wouldSwap_79 rfl rfl ?_
            obtain ⟨fs15, e16, k⟩ := k
            refine jr_cVl (As := [.int (x2 / 10), .int (x2 - x2 / 10 * 10), .int x1]) jl_X12_460 km_X12_burdenAt rfl rfl dX12_wouldSwap_80 e16 (Nat.le_of_ble_eq_true rfl) k (fun r13 h14 k => ?_)
            refine jr_aload_n 2 dX12_wouldSwap_83 rfl rfl ?_
            refine jr_iload_n 1 dX12_wouldSwap_84 rfl rfl ?_
            refine jr_iload_n 3 dX12_wouldSwap_85 rfl rfl ?_
            obtain ⟨fs19, e20, k⟩ := k
            refine jr_cVl (As := [.int (x2 / 10), .int x1]) jl_X12_436 km_X12_burdenNow rfl rfl dX12_wouldSwap_86 e20 (Nat.le_of_ble_eq_true rfl) k (fun r17 h18 k => ?_)
            refine jr_lcmp_ge (tgt := 114) dX12_wouldSwap_89 dX12_wouldSwap_90 (by decide) (fun c89 => ?_) (fun c89 => ?_)
            · have k := k.2 c89
              refine jr_iinc (v := (x2 + 1)) (lv' := [(2, .int (x2 + 1)), (4, .int (x2 - x2 / 10 * 10)), (3, .int (x2 / 10)), (0, .ref x0), (1, .int x1)]) 4 dX12_wouldSwap_114 rfl rfl (by decide) rfl ?_
              refine jr_goto (tgt := 20) dX12_wouldSwap_117 (by decide) ?_
              exact jr_sub [3, 4, 0] rfl k
            · have k := k.1 c89
              refine jr_aload_n 2 dX12_wouldSwap_93 rfl rfl ?_
              refine jr_iload 0 dX12_wouldSwap_94 rfl ?_
              refine jr_iload_n 1 dX12_wouldSwap_96 rfl rfl ?_
              refine jr_iload_n 3 dX12_wouldSwap_97 rfl rfl ?_
              obtain ⟨fs23, e24, k⟩ := k
              refine jr_cVl (As := [.int (x2 - x2 / 10 * 10), .int (x2 / 10), .int x1]) jl_X12_460 km_X12_burdenAt rfl rfl dX12_wouldSwap_98 e24 (Nat.le_of_ble_eq_true rfl) k (fun r21 h22 k => ?_)
              refine jr_aload_n 2 dX12_wouldSwap_101 rfl rfl ?_
              refine jr_iload 0 dX12_wouldSwap_102 rfl ?_
              refine jr_iload_n 3 dX12_wouldSwap_104 rfl rfl ?_
              obtain ⟨fs27, e28, k⟩ := k
              refine jr_cVl (As := [.int (x2 - x2 / 10 * 10), .int x1]) jl_X12_436 km_X12_burdenNow rfl rfl dX12_wouldSwap_105 e28 (Nat.le_of_ble_eq_true rfl) k (fun r25 h26 k => ?_)
              refine jr_lcmp_ge (tgt := 114) dX12_wouldSwap_108 dX12_wouldSwap_109 (by decide) (fun c108 => ?_) (fun c108 => ?_)
              · have k := k.2 c108
                refine jr_iinc (v := (x2 + 1)) (lv' := [(2, .int (x2 + 1)), (4, .int (x2 - x2 / 10 * 10)), (3, .int (x2 / 10)), (0, .ref x0), (1, .int x1)]) 4 dX12_wouldSwap_114 rfl rfl (by decide) rfl ?_
                refine jr_goto (tgt := 20) dX12_wouldSwap_117 (by decide) ?_
                exact jr_sub [3, 4, 0] rfl k
              · have k := k.1 c108
                refine jr_iload_n 4 dX12_wouldSwap_112 rfl rfl ?_
                exact jr_iret (ty := .int) rfl rfl dX12_wouldSwap_113 k
          · have k := k.2 c69
            refine jr_goto (tgt := 114) dX12_wouldSwap_72 (by decide) ?_
            refine jr_iinc (v := (x2 + 1)) (lv' := [(2, .int (x2 + 1)), (4, .int (x2 - x2 / 10 * 10)), (3, .int (x2 / 10)), (0, .ref x0), (1, .int x1)]) 4 dX12_wouldSwap_114 rfl rfl (by decide) rfl ?_
            refine jr_goto (tgt := 20) dX12_wouldSwap_117 (by decide) ?_
            exact jr_sub [3, 4, 0] rfl k
set_option maxRecDepth 20000 in
theorem bX12_bestHouse_0 {g : jG} {d : Nat} {hs : jH} {P : jO → jH → Prop} {x0 : Nat} {x1 : Int32} {x2 : Int32} {h : jH} (k : ∃ fs3 : List Value, h.1 x0 = some (.inr (12, fs3)) ∧ Con g mX12_isSoonOut d [.ref x0, .int x1, .int x2] h (jPi (fun (r1 : Int32) (h2 : jH) => (r1 = 0 → ∃ fs7 : List Value, h2.1 x0 = some (.inr (12, fs7)) ∧ Con g mX12_burdenAt d [.ref x0, .int x1, .int 0, .int x2] h2 (jPl (fun (r5 : Int64) (h6 : jH) => J g mX12_bestHouse (d + 1) hs P 25 [(0, .ref x0), (1, .int x1), (2, .int x2), (3, .int 0), (4, .long r5), (6, .int 1)] [] h6) (fun E h' => P (.inr E) h'))) ∧ (¬ r1 = 0 → P (.inl (some (.int 0))) h2)) (fun E h' => P (.inr E) h'))) : J g mX12_bestHouse (d + 1) hs P 0 [(0, .ref x0), (1, .int x1), (2, .int x2)] [] h := by
  refine jr_aload_n 0 dX12_bestHouse_0 rfl rfl ?_
  refine jr_iload_n 1 dX12_bestHouse_1 rfl rfl ?_
  refine jr_iload_n 2 dX12_bestHouse_2 rfl rfl ?_
  obtain ⟨fs3, e4, k⟩ := k
  refine jr_cVi (As := [.int x1, .int x2]) jl_X12_432 km_X12_isSoonOut rfl rfl dX12_bestHouse_3 e4 (Nat.le_of_ble_eq_true rfl) k (fun r1 h2 k => ?_)
  refine jr_if_eq (tgt := 11) dX12_bestHouse_6 (by decide) (fun c6 => ?_) (fun c6 => ?_)
  · have k := k.1 c6
    refine jr_iconst (v := 0) dX12_bestHouse_11 (by decide) ?_
    refine jr_istore_n (lv' := [(3, .int 0), (0, .ref x0), (1, .int x1), (2, .int x2)]) dX12_bestHouse_12 rfl (by decide) rfl ?_
    refine jr_aload_n 1 dX12_bestHouse_13 rfl rfl ?_
    refine jr_iload_n 2 dX12_bestHouse_14 rfl rfl ?_
    refine jr_iconst (v := 0) dX12_bestHouse_15 (by decide) ?_
    refine jr_iload_n 3 dX12_bestHouse_16 rfl rfl ?_
    obtain ⟨fs7, e8, k⟩ := k
    refine jr_cVl (As := [.int x1, .int 0, .int x2]) jl_X12_460 km_X12_burdenAt rfl rfl dX12_bestHouse_17 e8 (Nat.le_of_ble_eq_true rfl) k (fun r5 h6 k => ?_)
    refine jr_lstore (lv' := [(4, .long r5), (3, .int 0), (0, .ref x0), (1, .int x1), (2, .int x2)]) dX12_bestHouse_20 (by decide) rfl ?_
    refine jr_iconst (v := 1) dX12_bestHouse_22 (by decide) ?_
    refine jr_istore (lv' := [(6, .int 1), (4, .long r5), (3, .int 0), (0, .ref x0), (1, .int x1), (2, .int x2)]) dX12_bestHouse_23 (by decide) rfl ?_
    exact jr_sub [3, 4, 5, 2, 1, 0] rfl k
  · have k := k.2 c6
    refine jr_iconst (v := 0) dX12_bestHouse_9 (by decide) ?_
    exact jr_iret (ty := .int) rfl rfl dX12_bestHouse_10 k
set_option maxRecDepth 20000 in
theorem bX12_bestHouse_25 {g : jG} {d : Nat} {hs : jH} {P : jO → jH → Prop} {x0 : Nat} {x1 : Int32} {x2 : Int32} {x3 : Int32} {x4 : Int64} {x6 : Int32} {h : jH} (k : ∃ fs3 : List Value, h.1 x0 = some (.inr (12, fs3)) ∧ Con g mX12_houses d [.ref x0] h (jPi (fun (r1 : Int32) (h2 : jH) => (x6 < r1 → ∃ fs7 : List Value, h2.1 x0 = some (.inr (12, fs7)) ∧ Con g mX12_burdenAt d [.ref x0, .int x1, .int x6, .int x2] h2 (jPl (fun (r5 : Int64) (h6 : jH) => (r5 < x4 → J g mX12_bestHouse (d + 1) hs P 25 [(0, .ref x0), (1, .int x1), (2, .int x2), (3, .int x6), (4, .long r5), (6, .int (x6 + 1))] [] h6) ∧ (¬ r5 < x4 → J g mX12_bestHouse (d + 1) hs P 25 [(0, .ref x0), (1, .int x1), (2, .int x2), (3, .int x3), (4, .long x4), (6, .int (x6 + 1))] [] h6)) (fun E h' => P (.inr E) h'))) ∧ (¬ x6 < r1 → P (.inl (some (.int x3))) h2)) (fun E h' => P (.inr E) h'))) : J g mX12_bestHouse (d + 1) hs P 25 [(0, .ref x0), (1, .int x1), (2, .int x2), (3, .int x3), (4, .long x4), (6, .int x6)] [] h := by
  refine jr_iload 5 dX12_bestHouse_25 rfl ?_
  refine jr_aload_n 0 dX12_bestHouse_27 rfl rfl ?_
  obtain ⟨fs3, e4, k⟩ := k
  refine jr_cVi (As := []) jl_X12_249 km_X12_houses rfl rfl dX12_bestHouse_28 e4 (Nat.le_of_ble_eq_true rfl) k (fun r1 h2 k => ?_)
  refine jr_icmp_ge (tgt := 68) dX12_bestHouse_31 (by decide) (fun c31 => ?_) (fun c31 => ?_)
  · have k := k.2 c31
    refine jr_iload_n 3 dX12_bestHouse_68 rfl rfl ?_
    exact jr_iret (ty := .int) rfl rfl dX12_bestHouse_69 k
  · have k := k.1 c31
    refine jr_aload_n 0 dX12_bestHouse_34 rfl rfl ?_
    refine jr_iload_n 1 dX12_bestHouse_35 rfl rfl ?_
    refine jr_iload 5 dX12_bestHouse_36 rfl ?_
    refine jr_iload_n 2 dX12_bestHouse_38 rfl rfl ?_
    obtain ⟨fs7, e8, k⟩ := k
    refine jr_cVl (As := [.int x1, .int x6, .int x2]) jl_X12_460 km_X12_burdenAt rfl rfl dX12_bestHouse_39 e8 (Nat.le_of_ble_eq_true rfl) k (fun r5 h6 k => ?_)
    refine jr_lstore (lv' := [(7, .long r5), (0, .ref x0), (1, .int x1), (2, .int x2), (3, .int x3), (4, .long x4), (6, .int x6)]) dX12_bestHouse_42 (by decide) rfl ?_
    refine jr_lload 0 dX12_bestHouse_44 rfl ?_
    refine jr_lload 5 dX12_bestHouse_46 rfl ?_
    refine jr_lcmp_lt (tgt := 55) dX12_bestHouse_48 dX12_bestHouse_49 (by decide) (fun c48 => ?_) (fun c48 => ?_)
    · have k := k.1 c48
      refine jr_iload 6 dX12_bestHouse_55 rfl ?_
      refine jr_istore_n (lv' := [(3, .int x6), (7, .long r5), (0, .ref x0), (1, .int x1), (2, .int x2), (4, .long x4), (6, .int x6)]) dX12_bestHouse_57 rfl (by decide) rfl ?_
      refine jr_lload 1 dX12_bestHouse_58 rfl ?_
      refine jr_lstore (lv' := [(4, .long r5), (3, .int x6), (7, .long r5), (0, .ref x0), (1, .int x1), (2, .int x2), (6, .int x6)]) dX12_bestHouse_60 (by decide) rfl ?_
      refine jr_iinc (v := (x6 + 1)) (lv' := [(6, .int (x6 + 1)), (4, .long r5), (3, .int x6), (7, .long r5), (0, .ref x0), (1, .int x1), (2, .int x2)]) 6 dX12_bestHouse_62 rfl rfl (by decide) rfl ?_
      refine jr_goto (tgt := 25) dX12_bestHouse_65 (by decide) ?_
      exact jr_sub [4, 5, 6, 2, 1, 0] rfl k
    · have k := k.2 c48
      refine jr_goto (tgt := 62) dX12_bestHouse_52 (by decide) ?_
      refine jr_iinc (v := (x6 + 1)) (lv' := [(6, .int (x6 + 1)), (7, .long r5), (0, .ref x0), (1, .int x1), (2, .int x2), (3, .int x3), (4, .long x4)]) 6 dX12_bestHouse_62 rfl rfl (by decide) rfl ?_
      refine jr_goto (tgt := 25) dX12_bestHouse_65 (by decide) ?_
      exact jr_sub [2, 3, 4, 5, 6, 0] rfl k
set_option maxRecDepth 20000 in
theorem bX12_isLostFromHere_0 {g : jG} {d : Nat} {hs : jH} {P : jO → jH → Prop} {x0 : Nat} {x1 : Int32} {x2 : Int32} {h : jH} (k : ∃ fs3 : List Value, h.1 x0 = some (.inr (12, fs3)) ∧ Con g mX12_lostFromHere d [.ref x0, .int x2] h (jPi (fun (r1 : Int32) (h2 : jH) => ∃ fs5 : List Value, h2.1 x0 = some (.inr (12, fs5)) ∧ ∃ v8 : Int32, fs5[27]? = some (.int v8) ∧ Con g mX12_has d [.int v8, .int x1] h2 (jPi (fun (r9 : Int32) (h10 : jH) => (r9 = 0 ∨ r9 = 1) ∧ P (.inl (some (.int r9))) h10) (fun E h' => P (.inr E) h'))) (fun E h' => P (.inr E) h'))) : J g mX12_isLostFromHere (d + 1) hs P 0 [(0, .ref x0), (1, .int x1), (2, .int x2)] [] h := by
  refine jr_aload_n 0 dX12_isLostFromHere_0 rfl rfl ?_
  refine jr_iload_n 2 dX12_isLostFromHere_1 rfl rfl ?_
  obtain ⟨fs3, e4, k⟩ := k
  refine jr_cVi (As := [.int x2]) jl_X12_419 km_X12_lostFromHere rfl rfl dX12_isLostFromHere_2 e4 (Nat.le_of_ble_eq_true rfl) k (fun r1 h2 k => ?_)
  refine jr_pop dX12_isLostFromHere_5 rfl ?_
  refine jr_aload_n 0 dX12_isLostFromHere_6 rfl rfl ?_
  obtain ⟨fs5, e6, v8, e7, k⟩ := k
  refine jr_get jf_X12_413 dX12_isLostFromHere_7 e6 e7 ?_
  refine jr_iload_n 1 dX12_isLostFromHere_10 rfl rfl ?_
  refine jr_cSi (As := [.int v8, .int x1]) jl_X12_448 km_X12_has rfl rfl dX12_isLostFromHere_11 (Nat.le_of_ble_eq_true rfl) k (fun r9 h10 k => ?_)
  exact jr_iret (ty := .boolean) rfl (jz_n k.1) dX12_isLostFromHere_14 k.2
set_option maxRecDepth 20000 in
theorem bX12_hedges_0 {g : jG} {d : Nat} {hs : jH} {P : jO → jH → Prop} {x0 : Nat} {x1 : Int32} {x2 : Int32} {x3 : Int32} {h : jH} (k : ∃ fs3 : List Value, h.1 x0 = some (.inr (12, fs3)) ∧ Con g mX12_isHouse d [.ref x0, .long x1.toInt64] h (jPi (fun (r1 : Int32) (h2 : jH) => (r1 = 0 → J g mX12_hedges (d + 1) hs P 48 [(0, .ref x0), (1, .int x1), (2, .int x2), (3, .int x3)] [.int 1, .ref x0] h2) ∧ (¬ r1 = 0 → Con g mX12_isSoon d [.int x2] h2 (jPi (fun (r5 : Int32) (h6 : jH) => (r5 = 0 → J g mX12_hedges (d + 1) hs P 31 [(0, .ref x0), (1, .int x1), (2, .int x2), (3, .int x3)] [.ref x0] h6) ∧ (¬ r5 = 0 → Con g mX12_within d [.long x3.toInt64, .long 0, .long 1] h6 (jPi (fun (r7 : Int32) (h8 : jH) => (r7 = 0 → J g mX12_hedges (d + 1) hs P 31 [(0, .ref x0), (1, .int x1), (2, .int x2), (3, .int x3)] [.ref x0] h8) ∧ (¬ r7 = 0 → ∃ fs11 : List Value, h8.1 x0 = some (.inr (12, fs11)) ∧ Con g mX12_isGone d [.ref x0, .int x1] h8 (jPi (fun (r9 : Int32) (h10 : jH) => (r9 = 0 → J g mX12_hedges (d + 1) hs P 48 [(0, .ref x0), (1, .int x1), (2, .int x2), (3, .int x3)] [.int 0, .ref x0] h10) ∧ (¬ r9 = 0 → J g mX12_hedges (d + 1) hs P 48 [(0, .ref x0), (1, .int x1), (2, .int x2), (3, .int x3)] [.int 3, .ref x0] h10)) (fun E h' => P (.inr E) h')))) (fun E h' => P (.inr E) h')))) (fun E h' => P (.inr E) h')))) (fun E h' => P (.inr E) h'))) : J g mX12_hedges (d + 1) hs P 0 [(0, .ref x0), (1, .int x1), (2, .int x2), (3, .int x3)] [] h := by
  refine jr_aload_n 0 dX12_hedges_0 rfl rfl ?_
  refine jr_aload_n 0 dX12_hedges_1 rfl rfl ?_
  refine jr_iload_n 1 dX12_hedges_2 rfl rfl ?_
  refine jr_i2l dX12_hedges_3 ?_
  obtain ⟨fs3, e4, k⟩ := k
  refine jr_cVi (As := [.long x1.toInt64]) jl_X12_313 km_X12_isHouse rfl rfl dX12_hedges_4 e4 (Nat.le_of_ble_eq_true rfl) k (fun r1 h2 k => ?_)
  refine jr_if_ne (tgt := 14) dX12_hedges_7 (by decide) (fun c7 => ?_) (fun c7 => ?_)
  · have k := k.2 c7
    refine jr_iload_n 2 dX12_hedges_14 rfl rfl ?_
    refine jr_cSi (As := [.int x2]) jl_X12_422 km_X12_isSoon rfl rfl dX12_hedges_15 (Nat.le_of_ble_eq_true rfl) k (fun r5 h6 k => ?_)
    refine jr_if_eq (tgt := 31) dX12_hedges_18 (by decide) (fun c18 => ?_) (fun c18 => ?_)
    · have k := k.1 c18
      exact jr_sub [0, 1, 2, 3] rfl k
    · have k := k.2 c18
      refine jr_iload_n 3 dX12_hedges_21 rfl rfl ?_
      refine jr_i2l dX12_hedges_22 ?_
      refine jr_lconst (v := 0) dX12_hedges_23 (by decide) ?_
      refine jr_lconst (v := 1) dX12_hedges_24 (by decide) ?_
      refine jr_cSi (As := [.long x3.toInt64, .long 0, .long 1]) jl_X12_128 km_X12_within rfl rfl dX12_hedges_25 (Nat.le_of_ble_eq_true rfl) k (fun r7 h8 k => ?_)
      refine jr_if_ne (tgt := 35) dX12_hedges_28 (by decide) (fun c28 => ?_) (fun c28 => ?_)
      · have k := k.2 c28
        refine jr_aload_n 0 dX12_hedges_35 rfl rfl ?_
        refine jr_iload_n 1 dX12_hedges_36 rfl rfl ?_
        obtain ⟨fs11, e12, k⟩ := k
        refine jr_cVi (As := [.int x1]) jl_X12_291 km_X12_isGone rfl rfl dX12_hedges_37 e12 (Nat.le_of_ble_eq_true rfl) k (fun r9 h10 k => ?_)
        refine jr_if_eq (tgt := 47) dX12_hedges_40 (by decide) (fun c40 => ?_) (fun c40 => ?_)
        · have k := k.1 c40
          refine jr_iconst (v := 0) dX12_hedges_47 (by decide) ?_
          exact jr_sub [0, 1, 2, 3] rfl k
        · have k := k.2 c40
          refine jr_iconst (v := 3) dX12_hedges_43 (by decide) ?_
          refine jr_goto (tgt := 48) dX12_hedges_44 (by decide) ?_
          exact jr_sub [0, 1, 2, 3] rfl k
      · have k := k.1 c28
        exact jr_sub [0, 1, 2, 3] rfl k
  · have k := k.1 c7
    refine jr_iconst (v := 1) dX12_hedges_10 (by decide) ?_
    refine jr_goto (tgt := 48) dX12_hedges_11 (by decide) ?_
    exact jr_sub [0, 1, 2, 3] rfl k
set_option maxRecDepth 20000 in
theorem bX12_hedges_31 {g : jG} {d : Nat} {hs : jH} {P : jO → jH → Prop} {x0 : Nat} {x1 : Int32} {x2 : Int32} {x3 : Int32} {s0 : Nat} {h : jH} (k : J g mX12_hedges (d + 1) hs P 48 [(0, .ref x0), (1, .int x1), (2, .int x2), (3, .int x3)] [.int 2, .ref s0] h) : J g mX12_hedges (d + 1) hs P 31 [(0, .ref x0), (1, .int x1), (2, .int x2), (3, .int x3)] [.ref s0] h := by
  refine jr_iconst (v := 2) dX12_hedges_31 (by decide) ?_
  refine jr_goto (tgt := 48) dX12_hedges_32 (by decide) ?_
  exact jr_sub [0, 1, 2, 3] rfl k
set_option maxRecDepth 20000 in
theorem bX12_hedges_48 {g : jG} {d : Nat} {hs : jH} {P : jO → jH → Prop} {x0 : Nat} {x1 : Int32} {x2 : Int32} {x3 : Int32} {s0 : Nat} {s1 : Int32} {h : jH} (k : ∃ fs1 : List Value, h.1 s0 = some (.inr (12, fs1)) ∧ 4 < fs1.length ∧ (∀ h4 : jH, h4 = jset h s0 (.inr (12, fs1.set 4 (.int s1))) → ∃ fs6 : List Value, h4.1 x0 = some (.inr (12, fs6)) ∧ ∃ v9 : Int32, fs6[4]? = some (.int v9) ∧ (0 < v9 → P (.inl (some (.int 0))) h4) ∧ (¬ 0 < v9 → J g mX12_hedges (d + 1) hs P 66 [(0, .ref x0), (1, .int x1), (2, .int x2), (3, .int x3), (4, .int (-1)), (5, .int 0)] [] h4))) : J g mX12_hedges (d + 1) hs P 48 [(0, .ref x0), (1, .int x1), (2, .int x2), (3, .int x3)] [.int s1, .ref s0] h := by
  obtain ⟨fs1, e2, e3, k⟩ := k
  refine jr_putE jp_X12_67 dX12_hedges_48 e2 e3 rfl rfl (fun h4 eh5 => ?_)
  have k := k h4 eh5
  refine jr_aload_n 0 dX12_hedges_51 rfl rfl ?_
  obtain ⟨fs6, e7, v9, e8, k⟩ := k
  refine jr_get jf_X12_67 dX12_hedges_52 e7 e8 ?_
  refine jr_if_le (tgt := 60) dX12_hedges_55 (by decide) (fun c55 => ?_) (fun c55 => ?_)
  · have k := k.2 c55
    refine jr_iconst (v := (-1)) dX12_hedges_60 (by decide) ?_
    refine jr_istore (lv' := [(4, .int (-1)), (0, .ref x0), (1, .int x1), (2, .int x2), (3, .int x3)]) dX12_hedges_61 (by decide) rfl ?_
    refine jr_iconst (v := 0) dX12_hedges_63 (by decide) ?_
    refine jr_istore (lv' := [(5, .int 0), (4, .int (-1)), (0, .ref x0), (1, .int x1), (2, .int x2), (3, .int x3)]) dX12_hedges_64 (by decide) rfl ?_
    exact jr_sub [2, 3, 4, 5, 1, 0] rfl k
  · have k := k.1 c55
    refine jr_iconst (v := 0) dX12_hedges_58 (by decide) ?_
    exact jr_iret (ty := .int) rfl rfl dX12_hedges_59 k
set_option maxRecDepth 20000 in
theorem bX12_hedges_66 {g : jG} {d : Nat} {hs : jH} {P : jO → jH → Prop} {x0 : Nat} {x1 : Int32} {x2 : Int32} {x3 : Int32} {x4 : Int32} {x5 : Int32} {h : jH} (k : ∃ fs3 : List Value, h.1 x0 = some (.inr (12, fs3)) ∧ Con g mX12_houses d [.ref x0] h (jPi (fun (r1 : Int32) (h2 : jH) => (x5 < ((1 : Int32) <<< (r1 &&& 31)) → (x4 = (-1) → J g mX12_hedges (d + 1) hs P 99 [(0, .ref x0), (1, .int x1), (2, .int x2), (3, .int x3), (4, .int x4), (5, .int x5)] [] h2) ∧ (¬ x4 = (-1) → Con g mX12_size d [.int x5] h2 (jPi (fun (r7 : Int32) (h8 : jH) => Con g mX12_size d [.int x4] h8 (jPi (fun (r9 : Int32) (h10 : jH) => (r7 < r9 → J g mX12_hedges (d + 1) hs P 99 [(0, .ref x0), (1, .int x1), (2, .int x2), (3, .int x3), (4, .int x4), (5, .int x5)] [] h10) ∧ (¬ r7 < r9 → J g mX12_hedges (d + 1) hs P 66 [(0, .ref x0), (1, .int x1), (2, .int x2), (3, .int x3), (4, .int x4), (5, .int (x5 + 1))] [] h10)) (fun E h' => P (.inr E) h'))) (fun E h' => P (.inr E) h')))) ∧ (¬ x5 < ((1 : Int32) <<< (r1 &&& 31)) → (x4 = (-1) → P (.inl (some (.int x4))) h2) ∧ (¬ x4 = (-1) → (x3 = 1 → P (.inl (some (.int x4))) h2) ∧ (¬ x3 = 1 → Con g mX12_size d [.int x4] h2 (jPi (fun (r5 : Int32) (h6 : jH) => P (.inl (some (.int r5))) h6) (fun E h' => P (.inr E) h')))))) (fun E h' => P (.inr E) h'))) : J g mX12_hedges (d + 1) hs P 66 [(0, .ref x0), (1, .int x1), (2, .int x2), (3, .int x3), (4, .int x4), (5, .int x5)] [] h := by
  refine jr_iload 5 dX12_hedges_66 rfl ?_
  refine jr_iconst (v := 1) dX12_hedges_68 (by decide) ?_
  refine jr_aload_n 0 dX12_hedges_69 rfl rfl ?_
  obtain ⟨fs3, e4, k⟩ := k
  refine jr_cVi (As := []) jl_X12_249 km_X12_houses rfl rfl dX12_hedges_70 e4 (Nat.le_of_ble_eq_true rfl) k (fun r1 h2 k => ?_)
  refine jr_ishl dX12_hedges_73 ?_
  refine jr_icmp_ge (tgt := 161) dX12_hedges_74 (by decide) (fun c74 => ?_) (fun c74 => ?_)
  · have k := k.2 c74
    refine jr_iload 4 dX12_hedges_161 rfl ?_
    refine jr_iconst (v := (-1)) dX12_hedges_163 (by decide) ?_
    refine jr_icmp_eq (tgt := 172) dX12_hedges_164 (by decide) (fun c164 => ?_) (fun c164 => ?_)
    · have k := k.1 c164
      refine jr_iload 4 dX12_hedges_172 rfl ?_
      refine jr_goto (tgt := 182) dX12_hedges_174 (by decide) ?_
      exact jr_iret (ty := .int) rfl rfl dX12_hedges_182 k
    · have k := k.2 c164
      refine jr_iload_n 3 dX12_hedges_167 rfl rfl ?_
      refine jr_iconst (v := 1) dX12_hedges_168 (by decide) ?_
      refine jr_icmp_ne (tgt := 177) dX12_hedges_169 (by decide) (fun c169 => ?_) (fun c169 => ?_)
      · have k := k.2 c169
        refine jr_iload 4 dX12_hedges_177 rfl ?_
        refine jr_cSi (As := [.int x4]) jl_X12_416 km_X12_size rfl rfl dX12_hedges_179 (Nat.le_of_ble_eq_true rfl) k (fun r5 h6 k => ?_)
        exact jr_iret (ty := .int) rfl rfl dX12_hedges_182 k
      · have k := k.1 c169
        refine jr_iload 4 dX12_hedges_172 rfl ?_
        refine jr_goto (tgt := 182) dX12_hedges_174 (by decide) ?_
        exact jr_iret (ty := .int) rfl rfl dX12_hedges_182 k
  · have k := k.1 c74
    refine jr_iload 4 dX12_hedges_77 rfl ?_
    refine jr_iconst (v := (-1)) dX12_hedges_79 (by decide) ?_
    refine jr_icmp_eq (tgt := 99) dX12_hedges_80 (by decide) (fun c80 => ?_) (fun c80 => ?_)
    · have k := k.1 c80
      exact jr_sub [0, 1, 2, 3, 4, 5] rfl k
    · have k := k.2 c80
      refine jr_iload 5 dX12_hedges_83 rfl ?_
      refine jr_cSi (As := [.int x5]) jl_X12_416 km_X12_size rfl rfl dX12_hedges_85 (Nat.le_of_ble_eq_true rfl) k (fun r7 h8 k => ?_)
      refine jr_iload 4 dX12_hedges_88 rfl ?_
      refine jr_cSi (As := [.int x4]) jl_X12_416 km_X12_size rfl rfl dX12_hedges_90 (Nat.le_of_ble_eq_true rfl) k (fun r9 h10 k => ?_)
      refine jr_icmp_lt (tgt := 99) dX12_hedges_93 (by decide) (fun c93 => ?_) (fun c93 => ?_)
      · have k := k.1 c93
        exact jr_sub [0, 1, 2, 3, 4, 5] rfl k
      · have k := k.2 c93
        refine jr_goto (tgt := 155) dX12_hedges_96 (by decide) ?_
        refine jr_iinc (v := (x5 + 1)) (lv' := [(5, .int (x5 + 1)), (0, .ref x0), (1, .int x1), (2, .int x2), (3, .int x3), (4, .int x4)]) 5 dX12_hedges_155 rfl rfl (by decide) rfl ?_
        refine jr_goto (tgt := 66) dX12_hedges_158 (by decide) ?_
        exact jr_sub [1, 2, 3, 4, 5, 0] rfl k
set_option maxRecDepth 20000 in
theorem bX12_hedges_99 {g : jG} {d : Nat} {hs : jH} {P : jO → jH → Prop} {x0 : Nat} {x1 : Int32} {x2 : Int32} {x3 : Int32} {x4 : Int32} {x5 : Int32} {h : jH} (k : ∃ fs3 : List Value, h.1 x0 = some (.inr (12, fs3)) ∧ Con g mX12_putsAside d [.ref x0] h (jPv (fun (h2 : jH) => J g mX12_hedges (d + 1) hs P 106 [(0, .ref x0), (1, .int x1), (2, .int x2), (3, .int x3), (4, .int x4), (5, .int x5), (6, .int 0)] [] h2) (fun E h' => P (.inr E) h'))) : J g mX12_hedges (d + 1) hs P 99 [(0, .ref x0), (1, .int x1), (2, .int x2), (3, .int x3), (4, .int x4), (5, .int x5)] [] h := by
  refine jr_aload_n 0 dX12_hedges_99 rfl rfl ?_
  obtain ⟨fs3, e4, k⟩ := k
  refine jr_cVv (As := []) jl_X12_380 km_X12_putsAside rfl rfl dX12_hedges_100 e4 (Nat.le_of_ble_eq_true rfl) k (fun h2 k => ?_)
  refine jr_iconst (v := 0) dX12_hedges_103 (by decide) ?_
  refine jr_istore (lv' := [(6, .int 0), (0, .ref x0), (1, .int x1), (2, .int x2), (3, .int x3), (4, .int x4), (5, .int x5)]) dX12_hedges_104 (by decide) rfl ?_
  exact jr_sub [1, 2, 3, 4, 5, 6, 0] rfl k
set_option maxRecDepth 20000 in
theorem bX12_hedges_106 {g : jG} {d : Nat} {hs : jH} {P : jO → jH → Prop} {x0 : Nat} {x1 : Int32} {x2 : Int32} {x3 : Int32} {x4 : Int32} {x5 : Int32} {x6 : Int32} {h : jH} (k : ∃ fs3 : List Value, h.1 x0 = some (.inr (12, fs3)) ∧ Con g mX12_houses d [.ref x0] h (jPi (fun (r1 : Int32) (h2 : jH) => (x6 < r1 → Con g mX12_has d [.int x5, .int x6] h2 (jPi (fun (r9 : Int32) (h10 : jH) => (r9 = 0 → J g mX12_hedges (d + 1) hs P 106 [(0, .ref x0), (1, .int x1), (2, .int x2), (3, .int x3), (4, .int x4), (5, .int x5), (6, .int (x6 + 1))] [] h10) ∧ (¬ r9 = 0 → ∃ fs11 : List Value, h10.1 x0 = some (.inr (12, fs11)) ∧ ∃ v14 : Nat, fs11[0]? = some (.ref v14) ∧ ∃ (n15 : Nat) (f16 : Nat → Int32), h10.1 v14 = some (.inl (0, (n15, .inl f16))) ∧ vp_in (43 + x6) n15 ∧ ∀ h19 : jH, h19 = jset h10 v14 (.inl (0, (n15, .inl (upd f16 ((43 + x6)).toNatClampNeg x2)))) → J g mX12_hedges (d + 1) hs P 106 [(0, .ref x0), (1, .int x1), (2, .int x2), (3, .int x3), (4, .int x4), (5, .int x5), (6, .int (x6 + 1))] [] h19)) (fun E h' => P (.inr E) h'))) ∧ (¬ x6 < r1 → ∃ fs7 : List Value, h2.1 x0 = some (.inr (12, fs7)) ∧ Con g mX12_isLostFromHere d [.ref x0, .int x1, .int x2] h2 (jPi (fun (r5 : Int32) (h6 : jH) => (r5 = 0 → J g mX12_hedges (d + 1) hs P 66 [(0, .ref x0), (1, .int x1), (2, .int x2), (3, .int x3), (4, .int x5), (5, .int (x5 + 1))] [] h6) ∧ (¬ r5 = 0 → J g mX12_hedges (d + 1) hs P 66 [(0, .ref x0), (1, .int x1), (2, .int x2), (3, .int x3), (4, .int x4), (5, .int (x5 + 1))] [] h6)) (fun E h' => P (.inr E) h')))) (fun E h' => P (.inr E) h'))) : J g mX12_hedges (d + 1) hs P 106 [(0, .ref x0), (1, .int x1), (2, .int x2), (3, .int x3), (4, .int x4), (5, .int x5), (6, .int x6)] [] h := by
  refine jr_iload 6 dX12_hedges_106 rfl ?_
  refine jr_aload_n 0 dX12_hedges_108 rfl rfl ?_
  obtain ⟨fs3, e4, k⟩ := k
  refine jr_cVi (As := []) jl_X12_249 km_X12_houses rfl rfl dX12_hedges_109 e4 (Nat.le_of_ble_eq_true rfl) k (fun r1 h2 k => ?_)
  refine jr_icmp_ge (tgt := 142) dX12_hedges_112 (by decide) (fun c112 => ?_) (fun c112 => ?_)
  · have k := k.2 c112
    refine jr_aload_n 0 dX12_hedges_142 rfl rfl ?_
    refine jr_iload_n 1 dX12_hedges_143 rfl rfl ?_
    refine jr_iload_n 2 dX12_hedges_144 rfl rfl ?_
    obtain ⟨fs7, e8, k⟩ := k
    refine jr_cVi (As := [.int x1, .int x2]) jl_X12_464 km_X12_isLostFromHere rfl rfl dX12_hedges_145 e8 (Nat.le_of_ble_eq_true rfl) k (fun r5 h6 k => ?_)
    refine jr_if_ne (tgt := 155) dX12_hedges_148 (by decide) (fun c148 => ?_) (fun c148 => ?_)
    · have k := k.2 c148
      refine jr_iinc (v := (x5 + 1)) (lv' := [(5, .int (x5 + 1)), (0, .ref x0), (1, .int x1), (2, .int x2), (3, .int x3), (4, .int x4), (6, .int x6)]) 5 dX12_hedges_155 rfl rfl (by decide) rfl ?_
      refine jr_goto (tgt := 66) dX12_hedges_158 (by decide) ?_
      exact jr_sub [1, 2, 3, 4, 5, 0] rfl k
    · have k := k.1 c148
      refine jr_iload 5 dX12_hedges_151 rfl ?_
      refine jr_istore (lv' := [(4, .int x5), (0, .ref x0), (1, .int x1), (2, .int x2), (3, .int x3), (5, .int x5), (6, .int x6)]) dX12_hedges_153 (by decide) rfl ?_
      refine jr_iinc (v := (x5 + 1)) (lv' := [(5, .int (x5 + 1)), (4, .int x5), (0, .ref x0), (1, .int x1), (2, .int x2), (3, .int x3), (6, .int x6)]) 5 dX12_hedges_155 rfl rfl (by decide) rfl ?_
      refine jr_goto (tgt := 66) dX12_hedges_158 (by decide) ?_
      exact jr_sub [2, 3, 4, 5, 1, 0] rfl k
  · have k := k.1 c112
    refine jr_iload 5 dX12_hedges_115 rfl ?_
    refine jr_iload 6 dX12_hedges_117 rfl ?_
    refine jr_cSi (As := [.int x5, .int x6]) jl_X12_448 km_X12_has rfl rfl dX12_hedges_119 (Nat.le_of_ble_eq_true rfl) k (fun r9 h10 k => ?_)
    refine jr_if_eq (tgt := 136) dX12_hedges_122 (by decide) (fun c122 => ?_) (fun c122 => ?_)
    · have k := k.1 c122
      refine jr_iinc (v := (x6 + 1)) (lv' := [(6, .int (x6 + 1)), (0, .ref x0), (1, .int x1), (2, .int x2), (3, .int x3), (4, .int x4), (5, .int x5)]) 6 dX12_hedges_136 rfl rfl (by decide) rfl ?_
      refine jr_goto (tgt := 106) dX12_hedges_139 (by decide) ?_
      exact jr_sub [1, 2, 3, 4, 5, 6, 0] rfl k
    · have k := k.2 c122
      refine jr_aload_n 0 dX12_hedges_125 rfl rfl ?_
      obtain ⟨fs11, e12, v14, e13, k⟩ := k
      refine jr_get jf_X12_9 dX12_hedges_126 e12 e13 ?_
      refine jr_bipush (v := 43) dX12_hedges_129 (by decide) ?_
      refine jr_iload 6 dX12_hedges_131 rfl ?_
      refine jr_iadd dX12_hedges_133 ?_
      refine jr_iload_n 2 dX12_hedges_134 rfl rfl ?_
      obtain ⟨n15, f16, e17, e18, k⟩ := k
      refine jr_iastE dX12_hedges_135 e17 e18 (fun h19 eh20 => ?_)
      have k := k h19 eh20
      refine jr_iinc (v := (x6 + 1)) (lv' := [(6, .int (x6 + 1)), (0, .ref x0), (1, .int x1), (2, .int x2), (3, .int x3), (4, .int x4), (5, .int x5)]) 6 dX12_hedges_136 rfl rfl (by decide) rfl ?_
      refine jr_goto (tgt := 106) dX12_hedges_139 (by decide) ?_
      exact jr_sub [1, 2, 3, 4, 5, 6, 0] rfl k
set_option maxRecDepth 20000 in
theorem bX12_bestHedge_0 {g : jG} {d : Nat} {hs : jH} {P : jO → jH → Prop} {x0 : Nat} {x1 : Int32} {h : jH} (k : ∃ fs1 : List Value, h.1 x0 = some (.inr (12, fs1)) ∧ 4 < fs1.length ∧ (∀ h4 : jH, h4 = jset h x0 (.inr (12, fs1.set 4 (.int 0))) → Con g mX12_isSoon d [.int x1] h4 (jPi (fun (r6 : Int32) (h7 : jH) => (r6 = 0 → ∃ fs14 : List Value, h7.1 x0 = some (.inr (12, fs14)) ∧ Con g mX12_fails d [.ref x0, .int 1] h7 (jPi (fun (r12 : Int32) (h13 : jH) => P (.inl (some (.int r12))) h13) (fun E h' => P (.inr E) h'))) ∧ (¬ r6 = 0 → ∃ fs10 : List Value, h7.1 x0 = some (.inr (12, fs10)) ∧ Con g mX12_lostNow d [.ref x0, .int x1] h7 (jPi (fun (r8 : Int32) (h9 : jH) => J g mX12_bestHedge (d + 1) hs P 29 [(0, .ref x0), (1, .int x1), (2, .int (-1)), (3, .int r8), (4, .int 0)] [] h9) (fun E h' => P (.inr E) h')))) (fun E h' => P (.inr E) h')))) : J g mX12_bestHedge (d + 1) hs P 0 [(0, .ref x0), (1, .int x1)] [] h := by
  refine jr_aload_n 0 dX12_bestHedge_0 rfl rfl ?_
  refine jr_iconst (v := 0) dX12_bestHedge_1 (by decide) ?_
  obtain ⟨fs1, e2, e3, k⟩ := k
  refine jr_putE jp_X12_67 dX12_bestHedge_2 e2 e3 rfl rfl (fun h4 eh5 => ?_)
  have k := k h4 eh5
  refine jr_iload_n 1 dX12_bestHedge_5 rfl rfl ?_
  refine jr_cSi (As := [.int x1]) jl_X12_422 km_X12_isSoon rfl rfl dX12_bestHedge_6 (Nat.le_of_ble_eq_true rfl) k (fun r6 h7 k => ?_)
  refine jr_if_ne (tgt := 18) dX12_bestHedge_9 (by decide) (fun c9 => ?_) (fun c9 => ?_)
  · have k := k.2 c9
    refine jr_iconst (v := (-1)) dX12_bestHedge_18 (by decide) ?_
    refine jr_istore_n (lv' := [(2, .int (-1)), (0, .ref x0), (1, .int x1)]) dX12_bestHedge_19 rfl (by decide) rfl ?_
    refine jr_aload_n 1 dX12_bestHedge_20 rfl rfl ?_
    refine jr_iload_n 2 dX12_bestHedge_21 rfl rfl ?_
    obtain ⟨fs10, e11, k⟩ := k
    refine jr_cVi (As := [.int x1]) jl_X12_425 km_X12_lostNow rfl rfl dX12_bestHedge_22 e11 (Nat.le_of_ble_eq_true rfl) k (fun r8 h9 k => ?_)
    refine jr_istore_n (lv' := [(3, .int r8), (2, .int (-1)), (0, .ref x0), (1, .int x1)]) dX12_bestHedge_25 rfl (by decide) rfl ?_
    refine jr_iconst (v := 0) dX12_bestHedge_26 (by decide) ?_
    refine jr_istore (lv' := [(4, .int 0), (3, .int r8), (2, .int (-1)), (0, .ref x0), (1, .int x1)]) dX12_bestHedge_27 (by decide) rfl ?_
    exact jr_sub [3, 4, 2, 1, 0] rfl k
  · have k := k.1 c9
    refine jr_aload_n 0 dX12_bestHedge_12 rfl rfl ?_
    refine jr_iconst (v := 1) dX12_bestHedge_13 (by decide) ?_
    obtain ⟨fs14, e15, k⟩ := k
    refine jr_cVi (As := [.int 1]) jl_X12_234 km_X12_fails rfl rfl dX12_bestHedge_14 e15 (Nat.le_of_ble_eq_true rfl) k (fun r12 h13 k => ?_)
    exact jr_iret (ty := .int) rfl rfl dX12_bestHedge_17 k
set_option maxRecDepth 20000 in
theorem bX12_bestHedge_29 {g : jG} {d : Nat} {hs : jH} {P : jO → jH → Prop} {x0 : Nat} {x1 : Int32} {x2 : Int32} {x3 : Int32} {x4 : Int32} {h : jH} (k : ∃ fs3 : List Value, h.1 x0 = some (.inr (12, fs3)) ∧ Con g mX12_houses d [.ref x0] h (jPi (fun (r1 : Int32) (h2 : jH) => (x4 < r1 → ∃ fs7 : List Value, h2.1 x0 = some (.inr (12, fs7)) ∧ Con g mX12_putsAside d [.ref x0] h2 (jPv (fun (h6 : jH) => ∃ fs9 : List Value, h6.1 x0 = some (.inr (12, fs9)) ∧ ∃ v12 : Nat, fs9[0]? = some (.ref v12) ∧ ∃ (n13 : Nat) (f14 : Nat → Int32), h6.1 v12 = some (.inl (0, (n13, .inl f14))) ∧ vp_in (43 + x4) n13 ∧ ∀ h17 : jH, h17 = jset h6 v12 (.inl (0, (n13, .inl (upd f14 ((43 + x4)).toNatClampNeg x1)))) → ∃ fs21 : List Value, h17.1 x0 = some (.inr (12, fs21)) ∧ Con g mX12_lostFromHere d [.ref x0, .int x1] h17 (jPi (fun (r19 : Int32) (h20 : jH) => (r19 < x3 → J g mX12_bestHedge (d + 1) hs P 29 [(0, .ref x0), (1, .int x1), (2, .int x4), (3, .int r19), (4, .int (x4 + 1))] [] h20) ∧ (¬ r19 < x3 → J g mX12_bestHedge (d + 1) hs P 29 [(0, .ref x0), (1, .int x1), (2, .int x2), (3, .int x3), (4, .int (x4 + 1))] [] h20)) (fun E h' => P (.inr E) h'))) (fun E h' => P (.inr E) h'))) ∧ (¬ x4 < r1 → P (.inl (some (.int x2))) h2)) (fun E h' => P (.inr E) h'))) : J g mX12_bestHedge (d + 1) hs P 29 [(0, .ref x0), (1, .int x1), (2, .int x2), (3, .int x3), (4, .int x4)] [] h := by
  refine jr_iload 4 dX12_bestHedge_29 rfl ?_
  refine jr_aload_n 0 dX12_bestHedge_31 rfl rfl ?_
  obtain ⟨fs3, e4, k⟩ := k
  refine jr_cVi (As := []) jl_X12_249 km_X12_houses rfl rfl dX12_bestHedge_32 e4 (Nat.le_of_ble_eq_true rfl) k (fun r1 h2 k => ?_)
  refine jr_icmp_ge (tgt := 81) dX12_bestHedge_35 (by decide) (fun c35 => ?_) (fun c35 => ?_)
  · have k := k.2 c35
    refine jr_iload_n 2 dX12_bestHedge_81 rfl rfl ?_
    exact jr_iret (ty := .int) rfl rfl dX12_bestHedge_82 k
  · have k := k.1 c35
    refine jr_aload_n 0 dX12_bestHedge_38 rfl rfl ?_
    obtain ⟨fs7, e8, k⟩ := k
    refine jr_cVv (As := []) jl_X12_380 km_X12_putsAside rfl rfl dX12_bestHedge_39 e8 (Nat.le_of_ble_eq_true rfl) k (fun h6 k => ?_)
    refine jr_aload_n 0 dX12_bestHedge_42 rfl rfl ?_
    obtain ⟨fs9, e10, v12, e11, k⟩ := k
    refine jr_get jf_X12_9 dX12_bestHedge_43 e10 e11 ?_
    refine jr_bipush (v := 43) dX12_bestHedge_46 (by decide) ?_
    refine jr_iload 4 dX12_bestHedge_48 rfl ?_
    refine jr_iadd dX12_bestHedge_50 ?_
    refine jr_iload_n 1 dX12_bestHedge_51 rfl rfl ?_
    obtain ⟨n13, f14, e15, e16, k⟩ := k
    refine jr_iastE dX12_bestHedge_52 e15 e16 (fun h17 eh18 => ?_)
    have k := k h17 eh18
    refine jr_aload_n 0 dX12_bestHedge_53 rfl rfl ?_
    refine jr_iload_n 1 dX12_bestHedge_54 rfl rfl ?_
    obtain ⟨fs21, e22, k⟩ := k
    refine jr_cVi (As := [.int x1]) jl_X12_419 km_X12_lostFromHere rfl rfl dX12_bestHedge_55 e22 (Nat.le_of_ble_eq_true rfl) k (fun r19 h20 k => ?_)
    refine jr_istore (lv' := [(5, .int r19), (0, .ref x0), (1, .int x1), (2, .int x2), (3, .int x3), (4, .int x4)]) dX12_bestHedge_58 (by decide) rfl ?_
    refine jr_iload 0 dX12_bestHedge_60 rfl ?_
    refine jr_iload_n 4 dX12_bestHedge_62 rfl rfl ?_
    refine jr_icmp_lt (tgt := 69) dX12_bestHedge_63 (by decide) (fun c63 => ?_) (fun c63 => ?_)
    · have k := k.1 c63
      refine jr_iload 5 dX12_bestHedge_69 rfl ?_
      refine jr_istore_n (lv' := [(2, .int x4), (5, .int r19), (0, .ref x0), (1, .int x1), (3, .int x3), (4, .int x4)]) dX12_bestHedge_71 rfl (by decide) rfl ?_
      refine jr_iload 1 dX12_bestHedge_72 rfl ?_
      refine jr_istore_n (lv' := [(3, .int r19), (2, .int x4), (5, .int r19), (0, .ref x0), (1, .int x1), (4, .int x4)]) dX12_bestHedge_74 rfl (by decide) rfl ?_
      refine jr_iinc (v := (x4 + 1)) (lv' := [(4, .int (x4 + 1)), (3, .int r19), (2, .int x4), (5, .int r19), (0, .ref x0), (1, .int x1)]) 5 dX12_bestHedge_75 rfl rfl (by decide) rfl ?_
      refine jr_goto (tgt := 29) dX12_bestHedge_78 (by decide) ?_
      exact jr_sub [4, 5, 2, 1, 0] rfl k
    · have k := k.2 c63
      refine jr_goto (tgt := 75) dX12_bestHedge_66 (by decide) ?_
      refine jr_iinc (v := (x4 + 1)) (lv' := [(4, .int (x4 + 1)), (5, .int r19), (0, .ref x0), (1, .int x1), (2, .int x2), (3, .int x3)]) 5 dX12_bestHedge_75 rfl rfl (by decide) rfl ?_
      refine jr_goto (tgt := 29) dX12_bestHedge_78 (by decide) ?_
      exact jr_sub [2, 3, 4, 5, 0] rfl k
set_option maxRecDepth 20000 in
theorem bX12_isLivingOut_0 {g : jG} {d : Nat} {hs : jH} {P : jO → jH → Prop} {x0 : Nat} {x1 : Int32} {x2 : Int32} {h : jH} (k : ∃ fs3 : List Value, h.1 x0 = some (.inr (12, fs3)) ∧ Con g mX12_isHouse d [.ref x0, .long x1.toInt64] h (jPi (fun (r1 : Int32) (h2 : jH) => (r1 = 0 → J g mX12_isLivingOut (d + 1) hs P 38 [(0, .ref x0)] [.int 1, .ref x0] h2) ∧ (¬ r1 = 0 → Con g mX12_isSoon d [.int x2] h2 (jPi (fun (r5 : Int32) (h6 : jH) => (r5 = 0 → J g mX12_isLivingOut (d + 1) hs P 38 [(0, .ref x0)] [.int 2, .ref x0] h6) ∧ (¬ r5 = 0 → ∃ fs9 : List Value, h6.1 x0 = some (.inr (12, fs9)) ∧ Con g mX12_isGone d [.ref x0, .int x1] h6 (jPi (fun (r7 : Int32) (h8 : jH) => (r7 = 0 → J g mX12_isLivingOut (d + 1) hs P 38 [(0, .ref x0)] [.int 0, .ref x0] h8) ∧ (¬ r7 = 0 → J g mX12_isLivingOut (d + 1) hs P 38 [(0, .ref x0)] [.int 3, .ref x0] h8)) (fun E h' => P (.inr E) h')))) (fun E h' => P (.inr E) h')))) (fun E h' => P (.inr E) h'))) : J g mX12_isLivingOut (d + 1) hs P 0 [(0, .ref x0), (1, .int x1), (2, .int x2)] [] h := by
  refine jr_aload_n 0 dX12_isLivingOut_0 rfl rfl ?_
  refine jr_aload_n 0 dX12_isLivingOut_1 rfl rfl ?_
  refine jr_iload_n 1 dX12_isLivingOut_2 rfl rfl ?_
  refine jr_i2l dX12_isLivingOut_3 ?_
  obtain ⟨fs3, e4, k⟩ := k
  refine jr_cVi (As := [.long x1.toInt64]) jl_X12_313 km_X12_isHouse rfl rfl dX12_isLivingOut_4 e4 (Nat.le_of_ble_eq_true rfl) k (fun r1 h2 k => ?_)
  refine jr_if_ne (tgt := 14) dX12_isLivingOut_7 (by decide) (fun c7 => ?_) (fun c7 => ?_)
  · have k := k.2 c7
    refine jr_iload_n 2 dX12_isLivingOut_14 rfl rfl ?_
    refine jr_cSi (As := [.int x2]) jl_X12_422 km_X12_isSoon rfl rfl dX12_isLivingOut_15 (Nat.le_of_ble_eq_true rfl) k (fun r5 h6 k => ?_)
    refine jr_if_ne (tgt := 25) dX12_isLivingOut_18 (by decide) (fun c18 => ?_) (fun c18 => ?_)
    · have k := k.2 c18
      refine jr_aload_n 0 dX12_isLivingOut_25 rfl rfl ?_
      refine jr_iload_n 1 dX12_isLivingOut_26 rfl rfl ?_
      obtain ⟨fs9, e10, k⟩ := k
      refine jr_cVi (As := [.int x1]) jl_X12_291 km_X12_isGone rfl rfl dX12_isLivingOut_27 e10 (Nat.le_of_ble_eq_true rfl) k (fun r7 h8 k => ?_)
      refine jr_if_eq (tgt := 37) dX12_isLivingOut_30 (by decide) (fun c30 => ?_) (fun c30 => ?_)
      · have k := k.1 c30
        refine jr_iconst (v := 0) dX12_isLivingOut_37 (by decide) ?_
        exact jr_sub [0] rfl k
      · have k := k.2 c30
        refine jr_iconst (v := 3) dX12_isLivingOut_33 (by decide) ?_
        refine jr_goto (tgt := 38) dX12_isLivingOut_34 (by decide) ?_
        exact jr_sub [0] rfl k
    · have k := k.1 c18
      refine jr_iconst (v := 2) dX12_isLivingOut_21 (by decide) ?_
      refine jr_goto (tgt := 38) dX12_isLivingOut_22 (by decide) ?_
      exact jr_sub [0] rfl k
  · have k := k.1 c7
    refine jr_iconst (v := 1) dX12_isLivingOut_10 (by decide) ?_
    refine jr_goto (tgt := 38) dX12_isLivingOut_11 (by decide) ?_
    exact jr_sub [0] rfl k
set_option maxRecDepth 20000 in
theorem bX12_isLivingOut_38 {g : jG} {d : Nat} {hs : jH} {P : jO → jH → Prop} {x0 : Nat} {s0 : Nat} {s1 : Int32} {h : jH} (k : ∃ fs1 : List Value, h.1 s0 = some (.inr (12, fs1)) ∧ 4 < fs1.length ∧ (∀ h4 : jH, h4 = jset h s0 (.inr (12, fs1.set 4 (.int s1))) → ∃ fs6 : List Value, h4.1 x0 = some (.inr (12, fs6)) ∧ ∃ v9 : Int32, fs6[4]? = some (.int v9) ∧ (0 < v9 → P (.inl (some (.int 1))) h4) ∧ (¬ 0 < v9 → P (.inl (some (.int 0))) h4))) : J g mX12_isLivingOut (d + 1) hs P 38 [(0, .ref x0)] [.int s1, .ref s0] h := by
  obtain ⟨fs1, e2, e3, k⟩ := k
  refine jr_putE jp_X12_67 dX12_isLivingOut_38 e2 e3 rfl rfl (fun h4 eh5 => ?_)
  have k := k h4 eh5
  refine jr_aload_n 0 dX12_isLivingOut_41 rfl rfl ?_
  obtain ⟨fs6, e7, v9, e8, k⟩ := k
  refine jr_get jf_X12_67 dX12_isLivingOut_42 e7 e8 ?_
  refine jr_if_le (tgt := 52) dX12_isLivingOut_45 (by decide) (fun c45 => ?_) (fun c45 => ?_)
  · have k := k.2 c45
    refine jr_iconst (v := 0) dX12_isLivingOut_52 (by decide) ?_
    exact jr_iret (ty := .boolean) rfl rfl dX12_isLivingOut_53 k
  · have k := k.1 c45
    refine jr_iconst (v := 1) dX12_isLivingOut_48 (by decide) ?_
    refine jr_goto (tgt := 53) dX12_isLivingOut_49 (by decide) ?_
    exact jr_iret (ty := .boolean) rfl rfl dX12_isLivingOut_53 k
set_option maxRecDepth 20000 in
theorem bX12_saves_0 {g : jG} {d : Nat} {hs : jH} {P : jO → jH → Prop} {x0 : Nat} {x1 : Int32} {x2 : Int32} {h : jH} (k : ∃ fs3 : List Value, h.1 x0 = some (.inr (12, fs3)) ∧ Con g mX12_isLivingOut d [.ref x0, .int x1, .int x2] h (jPi (fun (r1 : Int32) (h2 : jH) => (r1 = 0 → J g mX12_saves (d + 1) hs P 13 [(0, .ref x0), (1, .int x1), (2, .int x2), (3, .int 0)] [] h2) ∧ (¬ r1 = 0 → P (.inl (some (.int 0))) h2)) (fun E h' => P (.inr E) h'))) : J g mX12_saves (d + 1) hs P 0 [(0, .ref x0), (1, .int x1), (2, .int x2)] [] h := by
  refine jr_aload_n 0 dX12_saves_0 rfl rfl ?_
  refine jr_iload_n 1 dX12_saves_1 rfl rfl ?_
  refine jr_iload_n 2 dX12_saves_2 rfl rfl ?_
  obtain ⟨fs3, e4, k⟩ := k
  refine jr_cVi (As := [.int x1, .int x2]) jl_X12_467 km_X12_isLivingOut rfl rfl dX12_saves_3 e4 (Nat.le_of_ble_eq_true rfl) k (fun r1 h2 k => ?_)
  refine jr_if_eq (tgt := 11) dX12_saves_6 (by decide) (fun c6 => ?_) (fun c6 => ?_)
  · have k := k.1 c6
    refine jr_iconst (v := 0) dX12_saves_11 (by decide) ?_
    refine jr_istore_n (lv' := [(3, .int 0), (0, .ref x0), (1, .int x1), (2, .int x2)]) dX12_saves_12 rfl (by decide) rfl ?_
    exact jr_sub [1, 2, 3, 0] rfl k
  · have k := k.2 c6
    refine jr_iconst (v := 0) dX12_saves_9 (by decide) ?_
    exact jr_iret (ty := .int) rfl rfl dX12_saves_10 k
set_option maxRecDepth 20000 in
theorem bX12_saves_13 {g : jG} {d : Nat} {hs : jH} {P : jO → jH → Prop} {x0 : Nat} {x1 : Int32} {x2 : Int32} {x3 : Int32} {h : jH} (k : (999 < x3 → P (.inl (some (.int ((-1))))) h) ∧ (¬ 999 < x3 → ∃ fs3 : List Value, h.1 x0 = some (.inr (12, fs3)) ∧ Con g mX12_putsAside d [.ref x0] h (jPv (fun (h2 : jH) => ∃ fs5 : List Value, h2.1 x0 = some (.inr (12, fs5)) ∧ ∃ v8 : Nat, fs5[0]? = some (.ref v8) ∧ ∃ fs9 : List Value, h2.1 x0 = some (.inr (12, fs9)) ∧ ∃ v12 : Nat, fs9[0]? = some (.ref v12) ∧ ∃ (n13 : Nat) (f14 : Nat → Int32), h2.1 v12 = some (.inl (0, (n13, .inl f14))) ∧ vp_in (22 + x1) n13 ∧ Con g mX12_capped d [.int ((f14 ((22 + x1)).toNatClampNeg) + x3)] h2 (jPi (fun (r17 : Int32) (h18 : jH) => ∃ (n19 : Nat) (f20 : Nat → Int32), h18.1 v8 = some (.inl (0, (n19, .inl f20))) ∧ vp_in (22 + x1) n19 ∧ ∀ h23 : jH, h23 = jset h18 v8 (.inl (0, (n19, .inl (upd f20 ((22 + x1)).toNatClampNeg r17)))) → ∃ fs27 : List Value, h23.1 x0 = some (.inr (12, fs27)) ∧ Con g mX12_isLostFromHere d [.ref x0, .int x1, .int x2] h23 (jPi (fun (r25 : Int32) (h26 : jH) => (r25 = 0 → P (.inl (some (.int x3))) h26) ∧ (¬ r25 = 0 → J g mX12_saves (d + 1) hs P 13 [(0, .ref x0), (1, .int x1), (2, .int x2), (3, .int (x3 + 1))] [] h26)) (fun E h' => P (.inr E) h'))) (fun E h' => P (.inr E) h'))) (fun E h' => P (.inr E) h')))) : J g mX12_saves (d + 1) hs P 13 [(0, .ref x0), (1, .int x1), (2, .int x2), (3, .int x3)] [] h := by
  refine jr_iload_n 3 dX12_saves_13 rfl rfl ?_
  refine jr_sipush (v := 999) dX12_saves_14 (by decide) ?_
  refine jr_icmp_gt (tgt := 64) dX12_saves_17 (by decide) (fun c17 => ?_) (fun c17 => ?_)
  · have k := k.1 c17
    refine jr_iconst (v := (-1)) dX12_saves_64 (by decide) ?_
    exact jr_iret (ty := .int) rfl rfl dX12_saves_65 k
  · have k := k.2 c17
    refine jr_aload_n 0 dX12_saves_20 rfl rfl ?_
    obtain ⟨fs3, e4, k⟩ := k
    refine jr_cVv (As := []) jl_X12_380 km_X12_putsAside rfl rfl dX12_saves_21 e4 (Nat.le_of_ble_eq_true rfl) k (fun h2 k => ?_)
    refine jr_aload_n 0 dX12_saves_24 rfl rfl ?_
    obtain ⟨fs5, e6, v8, e7, k⟩ := k
    refine jr_get jf_X12_9 dX12_saves_25 e6 e7 ?_
    refine jr_bipush (v := 22) dX12_saves_28 (by decide) ?_
    refine jr_iload_n 1 dX12_saves_30 rfl rfl ?_
    refine jr_iadd dX12_saves_31 ?_
    refine jr_aload_n 0 dX12_saves_32 rfl rfl ?_
    obtain ⟨fs9, e10, v12, e11, k⟩ := k
    refine jr_get jf_X12_9 dX12_saves_33 e10 e11 ?_
    refine jr_bipush (v := 22) dX12_saves_36 (by decide) ?_
    refine jr_iload_n 1 dX12_saves_38 rfl rfl ?_
    refine jr_iadd dX12_saves_39 ?_
    obtain ⟨n13, f14, e15, e16, k⟩ := k
    refine jr_iald dX12_saves_40 e15 e16 ?_
    refine jr_iload_n 3 dX12_saves_41 rfl rfl ?_
    refine jr_iadd dX12_saves_42 ?_
    refine jr_cSi (As := [.int ((f14 ((22 + x1)).toNatClampNeg) + x3)]) jl_X12_279 km_X12_capped rfl rfl dX12_saves_43 (Nat.le_of_ble_eq_true rfl) k (fun r17 h18 k => ?_)
    obtain ⟨n19, f20, e21, e22, k⟩ := k
    refine jr_iastE dX12_saves_46 e21 e22 (fun h23 eh24 => ?_)
    have k := k h23 eh24
    refine jr_aload_n 0 dX12_saves_47 rfl rfl ?_
    refine jr_iload_n 1 dX12_saves_48 rfl rfl ?_
    refine jr_iload_n 2 dX12_saves_49 rfl rfl ?_
    obtain ⟨fs27, e28, k⟩ := k
    refine jr_cVi (As := [.int x1, .int x2]) jl_X12_464 km_X12_isLostFromHere rfl rfl dX12_saves_50 e28 (Nat.le_of_ble_eq_true rfl) k (fun r25 h26 k => ?_)
    refine jr_if_ne (tgt := 58) dX12_saves_53 (by decide) (fun c53 => ?_) (fun c53 => ?_)
    · have k := k.2 c53
      refine jr_iinc (v := (x3 + 1)) (lv' := [(3, .int (x3 + 1)), (0, .ref x0), (1, .int x1), (2, .int x2)]) 3 dX12_saves_58 rfl rfl (by decide) rfl ?_
      refine jr_goto (tgt := 13) dX12_saves_61 (by decide) ?_
      exact jr_sub [1, 2, 3, 0] rfl k
    · have k := k.1 c53
      refine jr_iload_n 3 dX12_saves_56 rfl rfl ?_
      exact jr_iret (ty := .int) rfl rfl dX12_saves_57 k
set_option maxRecDepth 20000 in
theorem bX12_leastLimit_0 {g : jG} {d : Nat} {hs : jH} {P : jO → jH → Prop} {x0 : Nat} {x1 : Int32} {h : jH} (k : ∃ fs1 : List Value, h.1 x0 = some (.inr (12, fs1)) ∧ 4 < fs1.length ∧ (∀ h4 : jH, h4 = jset h x0 (.inr (12, fs1.set 4 (.int 0))) → Con g mX12_isSoon d [.int x1] h4 (jPi (fun (r6 : Int32) (h7 : jH) => (r6 = 0 → ∃ fs18 : List Value, h7.1 x0 = some (.inr (12, fs18)) ∧ Con g mX12_fails d [.ref x0, .int 1] h7 (jPi (fun (r16 : Int32) (h17 : jH) => P (.inl (some (.int r16))) h17) (fun E h' => P (.inr E) h'))) ∧ (¬ r6 = 0 → ∃ fs8 : List Value, h7.1 x0 = some (.inr (12, fs8)) ∧ ∃ v11 : Nat, fs8[0]? = some (.ref v11) ∧ ∃ (n12 : Nat) (f13 : Nat → Int32), h7.1 v11 = some (.inl (0, (n12, .inl f13))) ∧ vp_in 3 n12 ∧ J g mX12_leastLimit (d + 1) hs P 30 [(0, .ref x0), (1, .int x1), (2, .int (f13 ((3 : Int32)).toNatClampNeg)), (3, .int (-1)), (4, .int 0)] [] h7)) (fun E h' => P (.inr E) h')))) : J g mX12_leastLimit (d + 1) hs P 0 [(0, .ref x0), (1, .int x1)] [] h := by
  refine jr_aload_n 0 dX12_leastLimit_0 rfl rfl ?_
  refine jr_iconst (v := 0) dX12_leastLimit_1 (by decide) ?_
  obtain ⟨fs1, e2, e3, k⟩ := k
  refine jr_putE jp_X12_67 dX12_leastLimit_2 e2 e3 rfl rfl (fun h4 eh5 => ?_)
  have k := k h4 eh5
  refine jr_iload_n 1 dX12_leastLimit_5 rfl rfl ?_
  refine jr_cSi (As := [.int x1]) jl_X12_422 km_X12_isSoon rfl rfl dX12_leastLimit_6 (Nat.le_of_ble_eq_true rfl) k (fun r6 h7 k => ?_)
  refine jr_if_ne (tgt := 18) dX12_leastLimit_9 (by decide) (fun c9 => ?_) (fun c9 => ?_)
  · have k := k.2 c9
    refine jr_aload_n 0 dX12_leastLimit_18 rfl rfl ?_
    obtain ⟨fs8, e9, v11, e10, k⟩ := k
    refine jr_get jf_X12_9 dX12_leastLimit_19 e9 e10 ?_
    refine jr_iconst (v := 3) dX12_leastLimit_22 (by decide) ?_
    obtain ⟨n12, f13, e14, e15, k⟩ := k
    refine jr_iald dX12_leastLimit_23 e14 e15 ?_
    refine jr_istore_n (lv' := [(2, .int (f13 ((3 : Int32)).toNatClampNeg)), (0, .ref x0), (1, .int x1)]) dX12_leastLimit_24 rfl (by decide) rfl ?_
    refine jr_iconst (v := (-1)) dX12_leastLimit_25 (by decide) ?_
    refine jr_istore_n (lv' := [(3, .int (-1)), (2, .int (f13 ((3 : Int32)).toNatClampNeg)), (0, .ref x0), (1, .int x1)]) dX12_leastLimit_26 rfl (by decide) rfl ?_
    refine jr_iconst (v := 0) dX12_leastLimit_27 (by decide) ?_
    refine jr_istore (lv' := [(4, .int 0), (3, .int (-1)), (2, .int (f13 ((3 : Int32)).toNatClampNeg)), (0, .ref x0), (1, .int x1)]) dX12_leastLimit_28 (by decide) rfl ?_
    exact jr_sub [3, 4, 2, 1, 0] rfl k
  · have k := k.1 c9
    refine jr_aload_n 0 dX12_leastLimit_12 rfl rfl ?_
    refine jr_iconst (v := 1) dX12_leastLimit_13 (by decide) ?_
    obtain ⟨fs18, e19, k⟩ := k
    refine jr_cVi (As := [.int 1]) jl_X12_234 km_X12_fails rfl rfl dX12_leastLimit_14 e19 (Nat.le_of_ble_eq_true rfl) k (fun r16 h17 k => ?_)
    exact jr_iret (ty := .int) rfl rfl dX12_leastLimit_17 k
set_option maxRecDepth 20000 in
theorem bX12_leastLimit_30 {g : jG} {d : Nat} {hs : jH} {P : jO → jH → Prop} {x0 : Nat} {x1 : Int32} {x2 : Int32} {x3 : Int32} {x4 : Int32} {h : jH} (k : (999 < x4 → J g mX12_leastLimit (d + 1) hs P 68 [(0, .ref x0), (2, .int x2), (3, .int x3)] [] h) ∧ (¬ 999 < x4 → (x3 = (-1) → ∃ fs1 : List Value, h.1 x0 = some (.inr (12, fs1)) ∧ ∃ v4 : Nat, fs1[0]? = some (.ref v4) ∧ ∃ (n5 : Nat) (f6 : Nat → Int32), h.1 v4 = some (.inl (0, (n5, .inl f6))) ∧ vp_in 3 n5 ∧ ∀ h9 : jH, h9 = jset h v4 (.inl (0, (n5, .inl (upd f6 ((3 : Int32)).toNatClampNeg x4)))) → ∃ fs13 : List Value, h9.1 x0 = some (.inr (12, fs13)) ∧ Con g mX12_lostNow d [.ref x0, .int x1] h9 (jPi (fun (r11 : Int32) (h12 : jH) => (r11 = 0 → J g mX12_leastLimit (d + 1) hs P 30 [(0, .ref x0), (1, .int x1), (2, .int x2), (3, .int x4), (4, .int (x4 + 1))] [] h12) ∧ (¬ r11 = 0 → J g mX12_leastLimit (d + 1) hs P 30 [(0, .ref x0), (1, .int x1), (2, .int x2), (3, .int x3), (4, .int (x4 + 1))] [] h12)) (fun E h' => P (.inr E) h'))) ∧ (¬ x3 = (-1) → J g mX12_leastLimit (d + 1) hs P 68 [(0, .ref x0), (2, .int x2), (3, .int x3)] [] h))) : J g mX12_leastLimit (d + 1) hs P 30 [(0, .ref x0), (1, .int x1), (2, .int x2), (3, .int x3), (4, .int x4)] [] h := by
  refine jr_iload 4 dX12_leastLimit_30 rfl ?_
  refine jr_sipush (v := 999) dX12_leastLimit_32 (by decide) ?_
  refine jr_icmp_gt (tgt := 68) dX12_leastLimit_35 (by decide) (fun c35 => ?_) (fun c35 => ?_)
  · have k := k.1 c35
    exact jr_sub [0, 2, 3] rfl k
  · have k := k.2 c35
    refine jr_iload_n 3 dX12_leastLimit_38 rfl rfl ?_
    refine jr_iconst (v := (-1)) dX12_leastLimit_39 (by decide) ?_
    refine jr_icmp_ne (tgt := 68) dX12_leastLimit_40 (by decide) (fun c40 => ?_) (fun c40 => ?_)
    · have k := k.2 c40
      exact jr_sub [0, 2, 3] rfl k
    · have k := k.1 c40
      refine jr_aload_n 0 dX12_leastLimit_43 rfl rfl ?_
      obtain ⟨fs1, e2, v4, e3, k⟩ := k
      refine jr_get jf_X12_9 dX12_leastLimit_44 e2 e3 ?_
      refine jr_iconst (v := 3) dX12_leastLimit_47 (by decide) ?_
      refine jr_iload 4 dX12_leastLimit_48 rfl ?_
      obtain ⟨n5, f6, e7, e8, k⟩ := k
      refine jr_iastE dX12_leastLimit_50 e7 e8 (fun h9 eh10 => ?_)
      have k := k h9 eh10
      refine jr_aload_n 0 dX12_leastLimit_51 rfl rfl ?_
      refine jr_iload_n 1 dX12_leastLimit_52 rfl rfl ?_
      obtain ⟨fs13, e14, k⟩ := k
      refine jr_cVi (As := [.int x1]) jl_X12_425 km_X12_lostNow rfl rfl dX12_leastLimit_53 e14 (Nat.le_of_ble_eq_true rfl) k (fun r11 h12 k => ?_)
      refine jr_if_ne (tgt := 62) dX12_leastLimit_56 (by decide) (fun c56 => ?_) (fun c56 => ?_)
      · have k := k.2 c56
        refine jr_iinc (v := (x4 + 1)) (lv' := [(4, .int (x4 + 1)), (0, .ref x0), (1, .int x1), (2, .int x2), (3, .int x3)]) 4 dX12_leastLimit_62 rfl rfl (by decide) rfl ?_
        refine jr_goto (tgt := 30) dX12_leastLimit_65 (by decide) ?_
        exact jr_sub [1, 2, 3, 4, 0] rfl k
      · have k := k.1 c56
        refine jr_iload 4 dX12_leastLimit_59 rfl ?_
        refine jr_istore_n (lv' := [(3, .int x4), (0, .ref x0), (1, .int x1), (2, .int x2), (4, .int x4)]) dX12_leastLimit_61 rfl (by decide) rfl ?_
        refine jr_iinc (v := (x4 + 1)) (lv' := [(4, .int (x4 + 1)), (3, .int x4), (0, .ref x0), (1, .int x1), (2, .int x2)]) 4 dX12_leastLimit_62 rfl rfl (by decide) rfl ?_
        refine jr_goto (tgt := 30) dX12_leastLimit_65 (by decide) ?_
        exact jr_sub [2, 3, 4, 1, 0] rfl k
set_option maxRecDepth 20000 in
theorem bX12_leastLimit_68 {g : jG} {d : Nat} {hs : jH} {P : jO → jH → Prop} {x0 : Nat} {x2 : Int32} {x3 : Int32} {h : jH} (k : ∃ fs1 : List Value, h.1 x0 = some (.inr (12, fs1)) ∧ ∃ v4 : Nat, fs1[0]? = some (.ref v4) ∧ ∃ (n5 : Nat) (f6 : Nat → Int32), h.1 v4 = some (.inl (0, (n5, .inl f6))) ∧ vp_in 3 n5 ∧ ∀ h9 : jH, h9 = jset h v4 (.inl (0, (n5, .inl (upd f6 ((3 : Int32)).toNatClampNeg x2)))) → P (.inl (some (.int x3))) h9) : J g mX12_leastLimit (d + 1) hs P 68 [(0, .ref x0), (2, .int x2), (3, .int x3)] [] h := by
  refine jr_aload_n 0 dX12_leastLimit_68 rfl rfl ?_
  obtain ⟨fs1, e2, v4, e3, k⟩ := k
  refine jr_get jf_X12_9 dX12_leastLimit_69 e2 e3 ?_
  refine jr_iconst (v := 3) dX12_leastLimit_72 (by decide) ?_
  refine jr_iload_n 1 dX12_leastLimit_73 rfl rfl ?_
  obtain ⟨n5, f6, e7, e8, k⟩ := k
  refine jr_iastE dX12_leastLimit_74 e7 e8 (fun h9 eh10 => ?_)
  have k := k h9 eh10
  refine jr_iload_n 2 dX12_leastLimit_75 rfl rfl ?_
  exact jr_iret (ty := .int) rfl rfl dX12_leastLimit_76 k
set_option maxRecDepth 20000 in
theorem bX12_worthOf_0 {g : jG} {d : Nat} {hs : jH} {P : jO → jH → Prop} {x0 : Nat} {x1 : Int32} {x2 : Int32} {h : jH} (k : ∃ fs3 : List Value, h.1 x0 = some (.inr (12, fs3)) ∧ Con g mX12_lostNow d [.ref x0, .int x2] h (jPi (fun (r1 : Int32) (h2 : jH) => ∃ fs5 : List Value, h2.1 x0 = some (.inr (12, fs5)) ∧ ∃ v8 : Int32, fs5[27]? = some (.int v8) ∧ Con g mX12_size d [.int (v8 &&& (((1 : Int32) <<< (x1 &&& 31)) ^^^ (-1)))] h2 (jPi (fun (r9 : Int32) (h10 : jH) => ∃ fs13 : List Value, h10.1 x0 = some (.inr (12, fs13)) ∧ Con g mX12_putsAside d [.ref x0] h10 (jPv (fun (h12 : jH) => ∃ fs15 : List Value, h12.1 x0 = some (.inr (12, fs15)) ∧ ∃ v18 : Nat, fs15[0]? = some (.ref v18) ∧ ∃ (n19 : Nat) (f20 : Nat → Int32), h12.1 v18 = some (.inl (0, (n19, .inl f20))) ∧ vp_in (29 + x1) n19 ∧ ∀ h23 : jH, h23 = jset h12 v18 (.inl (0, (n19, .inl (upd f20 ((29 + x1)).toNatClampNeg 1)))) → ∃ fs25 : List Value, h23.1 x0 = some (.inr (12, fs25)) ∧ ∃ v28 : Nat, fs25[0]? = some (.ref v28) ∧ ∃ (n29 : Nat) (f30 : Nat → Int32), h23.1 v28 = some (.inl (0, (n29, .inl f30))) ∧ vp_in (22 + x1) n29 ∧ ∀ h33 : jH, h33 = jset h23 v28 (.inl (0, (n29, .inl (upd f30 ((22 + x1)).toNatClampNeg 0)))) → ∃ fs37 : List Value, h33.1 x0 = some (.inr (12, fs37)) ∧ Con g mX12_lostFromHere d [.ref x0, .int x2] h33 (jPi (fun (r35 : Int32) (h36 : jH) => P (.inl (some (.int ((r35 - r9))))) h36) (fun E h' => P (.inr E) h'))) (fun E h' => P (.inr E) h'))) (fun E h' => P (.inr E) h'))) (fun E h' => P (.inr E) h'))) : J g mX12_worthOf (d + 1) hs P 0 [(0, .ref x0), (1, .int x1), (2, .int x2)] [] h := by
  refine jr_aload_n 0 dX12_worthOf_0 rfl rfl ?_
  refine jr_iload_n 2 dX12_worthOf_1 rfl rfl ?_
  obtain ⟨fs3, e4, k⟩ := k
  refine jr_cVi (As := [.int x2]) jl_X12_425 km_X12_lostNow rfl rfl dX12_worthOf_2 e4 (Nat.le_of_ble_eq_true rfl) k (fun r1 h2 k => ?_)
  refine jr_pop dX12_worthOf_5 rfl ?_
  refine jr_aload_n 0 dX12_worthOf_6 rfl rfl ?_
  obtain ⟨fs5, e6, v8, e7, k⟩ := k
  refine jr_get jf_X12_413 dX12_worthOf_7 e6 e7 ?_
  refine jr_iconst (v := 1) dX12_worthOf_10 (by decide) ?_
  refine jr_iload_n 1 dX12_worthOf_11 rfl rfl ?_
  refine jr_ishl dX12_worthOf_12 ?_
  refine jr_iconst (v := (-1)) dX12_worthOf_13 (by decide) ?_
  refine jr_ixor dX12_worthOf_14 ?_
  refine jr_iand dX12_worthOf_15 ?_
  refine jr_cSi (As := [.int (v8 &&& (((1 : Int32) <<< (x1 &&& 31)) ^^^ (-1)))]) jl_X12_416 km_X12_size rfl rfl dX12_worthOf_16 (Nat.le_of_ble_eq_true rfl) k (fun r9 h10 k => ?_)
  refine jr_istore_n (lv' := [(3, .int r9), (0, .ref x0), (1, .int x1), (2, .int x2)]) dX12_worthOf_19 rfl (by decide) rfl ?_
  refine jr_aload_n 1 dX12_worthOf_20 rfl rfl ?_
  obtain ⟨fs13, e14, k⟩ := k
  refine jr_cVv (As := []) jl_X12_380 km_X12_putsAside rfl rfl dX12_worthOf_21 e14 (Nat.le_of_ble_eq_true rfl) k (fun h12 k => ?_)
  refine jr_aload_n 1 dX12_worthOf_24 rfl rfl ?_
  obtain ⟨fs15, e16, v18, e17, k⟩ := k
  refine jr_get jf_X12_9 dX12_worthOf_25 e16 e17 ?_
  refine jr_bipush (v := 29) dX12_worthOf_28 (by decide) ?_
  refine jr_iload_n 2 dX12_worthOf_30 rfl rfl ?_
  refine jr_iadd dX12_worthOf_31 ?_
  refine jr_iconst (v := 1) dX12_worthOf_32 (by decide) ?_
  obtain ⟨n19, f20, e21, e22, k⟩ := k
  refine jr_iastE dX12_worthOf_33 e21 e22 (fun h23 eh24 => ?_)
  have k := k h23 eh24
  refine jr_aload_n 1 dX12_worthOf_34 rfl rfl ?_
  obtain ⟨fs25, e26, v28, e27, k⟩ := k
  refine jr_get jf_X12_9 dX12_worthOf_35 e26 e27 ?_
  refine jr_bipush (v := 22) dX12_worthOf_38 (by decide) ?_
  refine jr_iload_n 2 dX12_worthOf_40 rfl rfl ?_
  refine jr_iadd dX12_worthOf_41 ?_
  refine jr_iconst (v := 0) dX12_worthOf_42 (by decide) ?_
  obtain ⟨n29, f30, e31, e32, k⟩ := k
  refine jr_iastE dX12_worthOf_43 e31 e32 (fun h33 eh34 => ?_)
  have k := k h33 eh34
  refine jr_aload_n 1 dX12_worthOf_44 rfl rfl ?_
  refine jr_iload_n 3 dX12_worthOf_45 rfl rfl ?_
  obtain ⟨fs37, e38, k⟩ := k
  refine jr_cVi (As := [.int x2]) jl_X12_419 km_X12_lostFromHere rfl rfl dX12_worthOf_46 e38 (Nat.le_of_ble_eq_true rfl) k (fun r35 h36 k => ?_)
  refine jr_iload_n 0 dX12_worthOf_49 rfl rfl ?_
  refine jr_isub dX12_worthOf_50 ?_
  exact jr_iret (ty := .int) rfl rfl dX12_worthOf_51 k
set_option maxRecDepth 20000 in
theorem bX12_worth_0 {g : jG} {d : Nat} {hs : jH} {P : jO → jH → Prop} {x0 : Nat} {x1 : Int32} {x2 : Int32} {h : jH} (k : ∃ fs3 : List Value, h.1 x0 = some (.inr (12, fs3)) ∧ Con g mX12_isLivingOut d [.ref x0, .int x1, .int x2] h (jPi (fun (r1 : Int32) (h2 : jH) => (r1 = 0 → ∃ fs7 : List Value, h2.1 x0 = some (.inr (12, fs7)) ∧ Con g mX12_worthOf d [.ref x0, .int x1, .int x2] h2 (jPi (fun (r5 : Int32) (h6 : jH) => P (.inl (some (.int r5))) h6) (fun E h' => P (.inr E) h'))) ∧ (¬ r1 = 0 → P (.inl (some (.int 0))) h2)) (fun E h' => P (.inr E) h'))) : J g mX12_worth (d + 1) hs P 0 [(0, .ref x0), (1, .int x1), (2, .int x2)] [] h := by
  refine jr_aload_n 0 dX12_worth_0 rfl rfl ?_
  refine jr_iload_n 1 dX12_worth_1 rfl rfl ?_
  refine jr_iload_n 2 dX12_worth_2 rfl rfl ?_
  obtain ⟨fs3, e4, k⟩ := k
  refine jr_cVi (As := [.int x1, .int x2]) jl_X12_467 km_X12_isLivingOut rfl rfl dX12_worth_3 e4 (Nat.le_of_ble_eq_true rfl) k (fun r1 h2 k => ?_)
  refine jr_if_eq (tgt := 13) dX12_worth_6 (by decide) (fun c6 => ?_) (fun c6 => ?_)
  · have k := k.1 c6
    refine jr_aload_n 0 dX12_worth_13 rfl rfl ?_
    refine jr_iload_n 1 dX12_worth_14 rfl rfl ?_
    refine jr_iload_n 2 dX12_worth_15 rfl rfl ?_
    obtain ⟨fs7, e8, k⟩ := k
    refine jr_cVi (As := [.int x1, .int x2]) jl_X12_470 km_X12_worthOf rfl rfl dX12_worth_16 e8 (Nat.le_of_ble_eq_true rfl) k (fun r5 h6 k => ?_)
    exact jr_iret (ty := .int) rfl rfl dX12_worth_19 k
  · have k := k.2 c6
    refine jr_iconst (v := 0) dX12_worth_9 (by decide) ?_
    refine jr_goto (tgt := 19) dX12_worth_10 (by decide) ?_
    exact jr_iret (ty := .int) rfl rfl dX12_worth_19 k
set_option maxRecDepth 20000 in
theorem bX12_pillar_0 {g : jG} {d : Nat} {hs : jH} {P : jO → jH → Prop} {x0 : Nat} {x1 : Int32} {h : jH} (k : ∃ fs1 : List Value, h.1 x0 = some (.inr (12, fs1)) ∧ 4 < fs1.length ∧ (∀ h4 : jH, h4 = jset h x0 (.inr (12, fs1.set 4 (.int 0))) → Con g mX12_isSoon d [.int x1] h4 (jPi (fun (r6 : Int32) (h7 : jH) => (r6 = 0 → ∃ fs10 : List Value, h7.1 x0 = some (.inr (12, fs10)) ∧ Con g mX12_fails d [.ref x0, .int 1] h7 (jPi (fun (r8 : Int32) (h9 : jH) => P (.inl (some (.int r8))) h9) (fun E h' => P (.inr E) h'))) ∧ (¬ r6 = 0 → J g mX12_pillar (d + 1) hs P 22 [(0, .ref x0), (1, .int x1), (2, .int (-1)), (3, .int 0)] [] h7)) (fun E h' => P (.inr E) h')))) : J g mX12_pillar (d + 1) hs P 0 [(0, .ref x0), (1, .int x1)] [] h := by
  refine jr_aload_n 0 dX12_pillar_0 rfl rfl ?_
  refine jr_iconst (v := 0) dX12_pillar_1 (by decide) ?_
  obtain ⟨fs1, e2, e3, k⟩ := k
  refine jr_putE jp_X12_67 dX12_pillar_2 e2 e3 rfl rfl (fun h4 eh5 => ?_)
  have k := k h4 eh5
  refine jr_iload_n 1 dX12_pillar_5 rfl rfl ?_
  refine jr_cSi (As := [.int x1]) jl_X12_422 km_X12_isSoon rfl rfl dX12_pillar_6 (Nat.le_of_ble_eq_true rfl) k (fun r6 h7 k => ?_)
  refine jr_if_ne (tgt := 18) dX12_pillar_9 (by decide) (fun c9 => ?_) (fun c9 => ?_)
  · have k := k.2 c9
    refine jr_iconst (v := (-1)) dX12_pillar_18 (by decide) ?_
    refine jr_istore_n (lv' := [(2, .int (-1)), (0, .ref x0), (1, .int x1)]) dX12_pillar_19 rfl (by decide) rfl ?_
    refine jr_iconst (v := 0) dX12_pillar_20 (by decide) ?_
    refine jr_istore_n (lv' := [(3, .int 0), (2, .int (-1)), (0, .ref x0), (1, .int x1)]) dX12_pillar_21 rfl (by decide) rfl ?_
    exact jr_sub [2, 3, 1, 0] rfl k
  · have k := k.1 c9
    refine jr_aload_n 0 dX12_pillar_12 rfl rfl ?_
    refine jr_iconst (v := 1) dX12_pillar_13 (by decide) ?_
    obtain ⟨fs10, e11, k⟩ := k
    refine jr_cVi (As := [.int 1]) jl_X12_234 km_X12_fails rfl rfl dX12_pillar_14 e11 (Nat.le_of_ble_eq_true rfl) k (fun r8 h9 k => ?_)
    exact jr_iret (ty := .int) rfl rfl dX12_pillar_17 k
set_option maxRecDepth 20000 in
theorem bX12_pillar_22 {g : jG} {d : Nat} {hs : jH} {P : jO → jH → Prop} {x0 : Nat} {x1 : Int32} {x2 : Int32} {x3 : Int32} {h : jH} (k : ∃ fs3 : List Value, h.1 x0 = some (.inr (12, fs3)) ∧ Con g mX12_houses d [.ref x0] h (jPi (fun (r1 : Int32) (h2 : jH) => (x3 < r1 → ∃ fs7 : List Value, h2.1 x0 = some (.inr (12, fs7)) ∧ Con g mX12_isGone d [.ref x0, .int x3] h2 (jPi (fun (r5 : Int32) (h6 : jH) => (r5 = 0 → ∃ fs11 : List Value, h6.1 x0 = some (.inr (12, fs11)) ∧ Con g mX12_worthOf d [.ref x0, .int x3, .int x1] h6 (jPi (fun (r9 : Int32) (h10 : jH) => (0 < r9 → J g mX12_pillar (d + 1) hs P 22 [(0, .ref x0), (1, .int x1), (2, .int x3), (3, .int (x3 + 1))] [] h10) ∧ (¬ 0 < r9 → J g mX12_pillar (d + 1) hs P 22 [(0, .ref x0), (1, .int x1), (2, .int x2), (3, .int (x3 + 1))] [] h10)) (fun E h' => P (.inr E) h'))) ∧ (¬ r5 = 0 → J g mX12_pillar (d + 1) hs P 22 [(0, .ref x0), (1, .int x1), (2, .int x2), (3, .int (x3 + 1))] [] h6)) (fun E h' => P (.inr E) h'))) ∧ (¬ x3 < r1 → P (.inl (some (.int x2))) h2)) (fun E h' => P (.inr E) h'))) : J g mX12_pillar (d + 1) hs P 22 [(0, .ref x0), (1, .int x1), (2, .int x2), (3, .int x3)] [] h := by
  refine jr_iload_n 3 dX12_pillar_22 rfl rfl ?_
  refine jr_aload_n 0 dX12_pillar_23 rfl rfl ?_
  obtain ⟨fs3, e4, k⟩ := k
  refine jr_cVi (As := []) jl_X12_249 km_X12_houses rfl rfl dX12_pillar_24 e4 (Nat.le_of_ble_eq_true rfl) k (fun r1 h2 k => ?_)
  refine jr_icmp_ge (tgt := 55) dX12_pillar_27 (by decide) (fun c27 => ?_) (fun c27 => ?_)
  · have k := k.2 c27
    refine jr_iload_n 2 dX12_pillar_55 rfl rfl ?_
    exact jr_iret (ty := .int) rfl rfl dX12_pillar_56 k
  · have k := k.1 c27
    refine jr_aload_n 0 dX12_pillar_30 rfl rfl ?_
    refine jr_iload_n 3 dX12_pillar_31 rfl rfl ?_
    obtain ⟨fs7, e8, k⟩ := k
    refine jr_cVi (As := [.int x3]) jl_X12_291 km_X12_isGone rfl rfl dX12_pillar_32 e8 (Nat.le_of_ble_eq_true rfl) k (fun r5 h6 k => ?_)
    refine jr_if_ne (tgt := 49) dX12_pillar_35 (by decide) (fun c35 => ?_) (fun c35 => ?_)
    · have k := k.2 c35
      refine jr_iinc (v := (x3 + 1)) (lv' := [(3, .int (x3 + 1)), (0, .ref x0), (1, .int x1), (2, .int x2)]) 3 dX12_pillar_49 rfl rfl (by decide) rfl ?_
      refine jr_goto (tgt := 22) dX12_pillar_52 (by decide) ?_
      exact jr_sub [1, 2, 3, 0] rfl k
    · have k := k.1 c35
      refine jr_aload_n 0 dX12_pillar_38 rfl rfl ?_
      refine jr_iload_n 3 dX12_pillar_39 rfl rfl ?_
      refine jr_iload_n 1 dX12_pillar_40 rfl rfl ?_
      obtain ⟨fs11, e12, k⟩ := k
      refine jr_cVi (As := [.int x3, .int x1]) jl_X12_470 km_X12_worthOf rfl rfl dX12_pillar_41 e12 (Nat.le_of_ble_eq_true rfl) k (fun r9 h10 k => ?_)
      refine jr_if_le (tgt := 49) dX12_pillar_44 (by decide) (fun c44 => ?_) (fun c44 => ?_)
      · have k := k.2 c44
        refine jr_iinc (v := (x3 + 1)) (lv' := [(3, .int (x3 + 1)), (0, .ref x0), (1, .int x1), (2, .int x2)]) 3 dX12_pillar_49 rfl rfl (by decide) rfl ?_
        refine jr_goto (tgt := 22) dX12_pillar_52 (by decide) ?_
        exact jr_sub [1, 2, 3, 0] rfl k
      · have k := k.1 c44
        refine jr_iload_n 3 dX12_pillar_47 rfl rfl ?_
        refine jr_istore_n (lv' := [(2, .int x3), (0, .ref x0), (1, .int x1), (3, .int x3)]) dX12_pillar_48 rfl (by decide) rfl ?_
        refine jr_iinc (v := (x3 + 1)) (lv' := [(3, .int (x3 + 1)), (2, .int x3), (0, .ref x0), (1, .int x1)]) 3 dX12_pillar_49 rfl rfl (by decide) rfl ?_
        refine jr_goto (tgt := 22) dX12_pillar_52 (by decide) ?_
        exact jr_sub [2, 3, 1, 0] rfl k
set_option maxRecDepth 20000 in
theorem bX12_seenFault_0 {g : jG} {d : Nat} {hs : jH} {P : jO → jH → Prop} {x0 : Nat} {x1 : Int32} {x2 : Int32} {h : jH} (k : Con g mX12_isTray d [.int x1] h (jPi (fun (r1 : Int32) (h2 : jH) => (r1 = 0 → P (.inl (some (.int 1))) h2) ∧ (¬ r1 = 0 → ∃ fs5 : List Value, h2.1 x0 = some (.inr (12, fs5)) ∧ Con g mX12_isHouse d [.ref x0, .long x2.toInt64] h2 (jPi (fun (r3 : Int32) (h4 : jH) => (r3 = 0 → P (.inl (some (.int 1))) h4) ∧ (¬ r3 = 0 → ∃ fs7 : List Value, h4.1 x0 = some (.inr (12, fs7)) ∧ ∃ v10 : Nat, fs7[35]? = some (.ref v10) ∧ ∃ (n11 : Nat) (f12 : Nat → Int32), h4.1 v10 = some (.inl (0, (n11, .inl f12))) ∧ vp_in x1 n11 ∧ ((f12 x1.toNatClampNeg) = (-1) → P (.inl (some (.int 2))) h4) ∧ (¬ (f12 x1.toNatClampNeg) = (-1) → ∃ fs15 : List Value, h4.1 x0 = some (.inr (12, fs15)) ∧ ∃ v18 : Nat, fs15[36]? = some (.ref v18) ∧ ∃ (n19 : Nat) (f20 : Nat → Int32), h4.1 v18 = some (.inl (0, (n19, .inl f20))) ∧ vp_in x1 n19 ∧ Con g mX12_within d [.long ((f20 x1.toNatClampNeg)).toInt64, .long 1, .long 12] h4 (jPi (fun (r23 : Int32) (h24 : jH) => J g mX12_seenFault (d + 1) hs P 48 [(0, .ref x0), (1, .int x1), (3, .int r23), (4, .int 0)] [] h24) (fun E h' => P (.inr E) h'))))) (fun E h' => P (.inr E) h')))) (fun E h' => P (.inr E) h'))) : J g mX12_seenFault (d + 1) hs P 0 [(0, .ref x0), (1, .int x1), (2, .int x2)] [] h := by
  refine jr_iload_n 1 dX12_seenFault_0 rfl rfl ?_
  refine jr_cSi (As := [.int x1]) jl_X12_360 km_X12_isTray rfl rfl dX12_seenFault_1 (Nat.le_of_ble_eq_true rfl) k (fun r1 h2 k => ?_)
  refine jr_if_eq (tgt := 16) dX12_seenFault_4 (by decide) (fun c4 => ?_) (fun c4 => ?_)
  · have k := k.1 c4
    refine jr_iconst (v := 1) dX12_seenFault_16 (by decide) ?_
    exact jr_iret (ty := .int) rfl rfl dX12_seenFault_17 k
  · have k := k.2 c4
    refine jr_aload_n 0 dX12_seenFault_7 rfl rfl ?_
    refine jr_iload_n 2 dX12_seenFault_8 rfl rfl ?_
    refine jr_i2l dX12_seenFault_9 ?_
    obtain ⟨fs5, e6, k⟩ := k
    refine jr_cVi (As := [.long x2.toInt64]) jl_X12_313 km_X12_isHouse rfl rfl dX12_seenFault_10 e6 (Nat.le_of_ble_eq_true rfl) k (fun r3 h4 k => ?_)
    refine jr_if_ne (tgt := 18) dX12_seenFault_13 (by decide) (fun c13 => ?_) (fun c13 => ?_)
    · have k := k.2 c13
      refine jr_aload_n 0 dX12_seenFault_18 rfl rfl ?_
      obtain ⟨fs7, e8, v10, e9, k⟩ := k
      refine jr_get jf_X12_57 dX12_seenFault_19 e8 e9 ?_
      refine jr_iload_n 1 dX12_seenFault_22 rfl rfl ?_
      obtain ⟨n11, f12, e13, e14, k⟩ := k
      refine jr_iald dX12_seenFault_23 e13 e14 ?_
      refine jr_iconst (v := (-1)) dX12_seenFault_24 (by decide) ?_
      refine jr_icmp_ne (tgt := 30) dX12_seenFault_25 (by decide) (fun c25 => ?_) (fun c25 => ?_)
      · have k := k.2 c25
        refine jr_aload_n 0 dX12_seenFault_30 rfl rfl ?_
        obtain ⟨fs15, e16, v18, e17, k⟩ := k
        refine jr_get jf_X12_60 dX12_seenFault_31 e16 e17 ?_
        refine jr_iload_n 1 dX12_seenFault_34 rfl rfl ?_
        obtain ⟨n19, f20, e21, e22, k⟩ := k
        refine jr_iald dX12_seenFault_35 e21 e22 ?_
        refine jr_i2l dX12_seenFault_36 ?_
        refine jr_lconst (v := 1) dX12_seenFault_37 (by decide) ?_
        refine jr_ldc2 (v := 12) jk_X12_473 dX12_seenFault_38 ?_
        refine jr_cSi (As := [.long ((f20 x1.toNatClampNeg)).toInt64, .long 1, .long 12]) jl_X12_128 km_X12_within rfl rfl dX12_seenFault_41 (Nat.le_of_ble_eq_true rfl) k (fun r23 h24 k => ?_)
        refine jr_istore_n (lv' := [(3, .int r23), (0, .ref x0), (1, .int x1), (2, .int x2)]) dX12_seenFault_44 rfl (by decide) rfl ?_
        refine jr_iconst (v := 0) dX12_seenFault_45 (by decide) ?_
        refine jr_istore (lv' := [(4, .int 0), (3, .int r23), (0, .ref x0), (1, .int x1), (2, .int x2)]) dX12_seenFault_46 (by decide) rfl ?_
        exact jr_sub [2, 3, 1, 0] rfl k
      · have k := k.1 c25
        refine jr_iconst (v := 2) dX12_seenFault_28 (by decide) ?_
        exact jr_iret (ty := .int) rfl rfl dX12_seenFault_29 k
    · have k := k.1 c13
      refine jr_iconst (v := 1) dX12_seenFault_16 (by decide) ?_
      exact jr_iret (ty := .int) rfl rfl dX12_seenFault_17 k
set_option maxRecDepth 20000 in
theorem bX12_seenFault_48 {g : jG} {d : Nat} {hs : jH} {P : jO → jH → Prop} {x0 : Nat} {x1 : Int32} {x3 : Int32} {x4 : Int32} {h : jH} (k : ∃ fs1 : List Value, h.1 x0 = some (.inr (12, fs1)) ∧ ∃ v4 : Nat, fs1[36]? = some (.ref v4) ∧ ∃ (n5 : Nat) (f6 : Nat → Int32), h.1 v4 = some (.inl (0, (n5, .inl f6))) ∧ vp_in x1 n5 ∧ (x4 < (f6 x1.toNatClampNeg) → (x3 = 0 → J g mX12_seenFault (d + 1) hs P 91 [(3, .int x3)] [] h) ∧ (¬ x3 = 0 → ∃ fs9 : List Value, h.1 x0 = some (.inr (12, fs9)) ∧ ∃ v12 : Nat, fs9[37]? = some (.ref v12) ∧ ∃ (n13 : Nat) (f14 : Nat → Int64), h.1 v12 = some (.inl (3, (n13, .inr (.inl f14)))) ∧ vp_in ((30 * x1) + x4) n13 ∧ Con g mX12_within d [.long (f14 (((30 * x1) + x4)).toNatClampNeg), .long (-1), .long 999999] h (jPi (fun (r17 : Int32) (h18 : jH) => J g mX12_seenFault (d + 1) hs P 48 [(0, .ref x0), (1, .int x1), (3, .int r17), (4, .int (x4 + 1))] [] h18) (fun E h' => P (.inr E) h')))) ∧ (¬ x4 < (f6 x1.toNatClampNeg) → J g mX12_seenFault (d + 1) hs P 91 [(3, .int x3)] [] h)) : J g mX12_seenFault (d + 1) hs P 48 [(0, .ref x0), (1, .int x1), (3, .int x3), (4, .int x4)] [] h := by
  refine jr_iload 3 dX12_seenFault_48 rfl ?_
  refine jr_aload_n 0 dX12_seenFault_50 rfl rfl ?_
  obtain ⟨fs1, e2, v4, e3, k⟩ := k
  refine jr_get jf_X12_60 dX12_seenFault_51 e2 e3 ?_
  refine jr_iload_n 1 dX12_seenFault_54 rfl rfl ?_
  obtain ⟨n5, f6, e7, e8, k⟩ := k
  refine jr_iald dX12_seenFault_55 e7 e8 ?_
  refine jr_icmp_ge (tgt := 91) dX12_seenFault_56 (by decide) (fun c56 => ?_) (fun c56 => ?_)
  · have k := k.2 c56
    exact jr_sub [2] rfl k
  · have k := k.1 c56
    refine jr_iload_n 2 dX12_seenFault_59 rfl rfl ?_
    refine jr_if_eq (tgt := 91) dX12_seenFault_60 (by decide) (fun c60 => ?_) (fun c60 => ?_)
    · have k := k.1 c60
      exact jr_sub [2] rfl k
    · have k := k.2 c60
      refine jr_aload_n 0 dX12_seenFault_63 rfl rfl ?_
      obtain ⟨fs9, e10, v12, e11, k⟩ := k
      refine jr_get jf_X12_63 dX12_seenFault_64 e10 e11 ?_
      refine jr_bipush (v := 30) dX12_seenFault_67 (by decide) ?_
      refine jr_iload_n 1 dX12_seenFault_69 rfl rfl ?_
      refine jr_imul dX12_seenFault_70 ?_
      refine jr_iload 3 dX12_seenFault_71 rfl ?_
      refine jr_iadd dX12_seenFault_73 ?_
      obtain ⟨n13, f14, e15, e16, k⟩ := k
      refine jr_lald dX12_seenFault_74 e15 e16 ?_
      refine jr_ldc2 (v := (-1)) jk_X12_363 dX12_seenFault_75 ?_
      refine jr_ldc2 (v := 999999) jk_X12_321 dX12_seenFault_78 ?_
      refine jr_cSi (As := [.long (f14 (((30 * x1) + x4)).toNatClampNeg), .long (-1), .long 999999]) jl_X12_128 km_X12_within rfl rfl dX12_seenFault_81 (Nat.le_of_ble_eq_true rfl) k (fun r17 h18 k => ?_)
      refine jr_istore_n (lv' := [(3, .int r17), (0, .ref x0), (1, .int x1), (4, .int x4)]) dX12_seenFault_84 rfl (by decide) rfl ?_
      refine jr_iinc (v := (x4 + 1)) (lv' := [(4, .int (x4 + 1)), (3, .int r17), (0, .ref x0), (1, .int x1)]) 3 dX12_seenFault_85 rfl rfl (by decide) rfl ?_
      refine jr_goto (tgt := 48) dX12_seenFault_88 (by decide) ?_
      exact jr_sub [2, 3, 1, 0] rfl k
set_option maxRecDepth 20000 in
theorem bX12_seenFault_91 {g : jG} {d : Nat} {hs : jH} {P : jO → jH → Prop} {x3 : Int32} {h : jH} (k : (x3 = 0 → P (.inl (some (.int 3))) h) ∧ (¬ x3 = 0 → P (.inl (some (.int 0))) h)) : J g mX12_seenFault (d + 1) hs P 91 [(3, .int x3)] [] h := by
  refine jr_iload_n 0 dX12_seenFault_91 rfl rfl ?_
  refine jr_if_eq (tgt := 99) dX12_seenFault_92 (by decide) (fun c92 => ?_) (fun c92 => ?_)
  · have k := k.1 c92
    refine jr_iconst (v := 3) dX12_seenFault_99 (by decide) ?_
    exact jr_iret (ty := .int) rfl rfl dX12_seenFault_100 k
  · have k := k.2 c92
    refine jr_iconst (v := 0) dX12_seenFault_95 (by decide) ?_
    refine jr_goto (tgt := 100) dX12_seenFault_96 (by decide) ?_
    exact jr_iret (ty := .int) rfl rfl dX12_seenFault_100 k
set_option maxRecDepth 20000 in
theorem bX12_laysFits_0 {g : jG} {d : Nat} {hs : jH} {P : jO → jH → Prop} {x0 : Nat} {x1 : Int32} {x2 : Int32} {h : jH} (k : ∃ fs1 : List Value, h.1 x0 = some (.inr (12, fs1)) ∧ 32 < fs1.length ∧ (∀ h4 : jH, h4 = jset h x0 (.inr (12, fs1.set 32 (.int 0))) → J g mX12_laysFits (d + 1) hs P 7 [(0, .ref x0), (1, .int x1), (2, .int x2), (3, .int 0)] [] h4)) : J g mX12_laysFits (d + 1) hs P 0 [(0, .ref x0), (1, .int x1), (2, .int x2)] [] h := by
  refine jr_aload_n 0 dX12_laysFits_0 rfl rfl ?_
  refine jr_iconst (v := 0) dX12_laysFits_1 (by decide) ?_
  obtain ⟨fs1, e2, e3, k⟩ := k
  refine jr_putE jp_X12_475 dX12_laysFits_2 e2 e3 rfl rfl (fun h4 eh5 => ?_)
  have k := k h4 eh5
  refine jr_iconst (v := 0) dX12_laysFits_5 (by decide) ?_
  refine jr_istore_n (lv' := [(3, .int 0), (0, .ref x0), (1, .int x1), (2, .int x2)]) dX12_laysFits_6 rfl (by decide) rfl ?_
  exact jr_sub [1, 2, 3, 0] rfl k
set_option maxRecDepth 20000 in
theorem bX12_laysFits_7 {g : jG} {d : Nat} {hs : jH} {P : jO → jH → Prop} {x0 : Nat} {x1 : Int32} {x2 : Int32} {x3 : Int32} {h : jH} (k : ∃ fs3 : List Value, h.1 x0 = some (.inr (12, fs3)) ∧ Con g mX12_houses d [.ref x0] h (jPi (fun (r1 : Int32) (h2 : jH) => (x3 < (r1 * 99) → ∃ fs7 : List Value, h2.1 x0 = some (.inr (12, fs7)) ∧ Con g mX12_putsAside d [.ref x0] h2 (jPv (fun (h6 : jH) => J g mX12_laysFits (d + 1) hs P 25 [(0, .ref x0), (1, .int x1), (2, .int x2), (3, .int x3), (4, .int 0)] [] h6) (fun E h' => P (.inr E) h'))) ∧ (¬ x3 < (r1 * 99) → P (.inl none) h2)) (fun E h' => P (.inr E) h'))) : J g mX12_laysFits (d + 1) hs P 7 [(0, .ref x0), (1, .int x1), (2, .int x2), (3, .int x3)] [] h := by
  refine jr_iload_n 3 dX12_laysFits_7 rfl rfl ?_
  refine jr_aload_n 0 dX12_laysFits_8 rfl rfl ?_
  obtain ⟨fs3, e4, k⟩ := k
  refine jr_cVi (As := []) jl_X12_249 km_X12_houses rfl rfl dX12_laysFits_9 e4 (Nat.le_of_ble_eq_true rfl) k (fun r1 h2 k => ?_)
  refine jr_bipush (v := 99) dX12_laysFits_12 (by decide) ?_
  refine jr_imul dX12_laysFits_14 ?_
  refine jr_icmp_ge (tgt := 180) dX12_laysFits_15 (by decide) (fun c15 => ?_) (fun c15 => ?_)
  · have k := k.2 c15
    exact jr_vret rfl dX12_laysFits_180 k
  · have k := k.1 c15
    refine jr_aload_n 0 dX12_laysFits_18 rfl rfl ?_
    obtain ⟨fs7, e8, k⟩ := k
    refine jr_cVv (As := []) jl_X12_380 km_X12_putsAside rfl rfl dX12_laysFits_19 e8 (Nat.le_of_ble_eq_true rfl) k (fun h6 k => ?_)
    refine jr_iconst (v := 0) dX12_laysFits_22 (by decide) ?_
    refine jr_istore (lv' := [(4, .int 0), (0, .ref x0), (1, .int x1), (2, .int x2), (3, .int x3)]) dX12_laysFits_23 (by decide) rfl ?_
    exact jr_sub [1, 2, 3, 4, 0] rfl k
set_option maxRecDepth 20000 in
theorem bX12_laysFits_25 {g : jG} {d : Nat} {hs : jH} {P : jO → jH → Prop} {x0 : Nat} {x1 : Int32} {x2 : Int32} {x3 : Int32} {x4 : Int32} {h : jH} (k : (x4 < 44 → ∃ fs15 : List Value, h.1 x0 = some (.inr (12, fs15)) ∧ ∃ v18 : Nat, fs15[0]? = some (.ref v18) ∧ ∃ fs19 : List Value, h.1 x0 = some (.inr (12, fs19)) ∧ ∃ v22 : Nat, fs19[0]? = some (.ref v22) ∧ ∃ (n23 : Nat) (f24 : Nat → Int32), h.1 v22 = some (.inl (0, (n23, .inl f24))) ∧ vp_in (52 + x4) n23 ∧ ∃ (n27 : Nat) (f28 : Nat → Int32), h.1 v18 = some (.inl (0, (n27, .inl f28))) ∧ vp_in (8 + x4) n27 ∧ ∀ h31 : jH, h31 = jset h v18 (.inl (0, (n27, .inl (upd f28 ((8 + x4)).toNatClampNeg ((f24 ((52 + x4)).toNatClampNeg)))))) → J g mX12_laysFits (d + 1) hs P 25 [(0, .ref x0), (1, .int x1), (2, .int x2), (3, .int x3), (4, .int (x4 + 1))] [] h31) ∧ (¬ x4 < 44 → ∃ fs1 : List Value, h.1 x0 = some (.inr (12, fs1)) ∧ ∃ v4 : Nat, fs1[0]? = some (.ref v4) ∧ ∃ (n5 : Nat) (f6 : Nat → Int32), h.1 v4 = some (.inl (0, (n5, .inl f6))) ∧ vp_in (36 + (x3 / 99)) n5 ∧ ∃ (n9 : Nat) (f10 : Nat → Int32), h.1 v4 = some (.inl (0, (n9, .inl f10))) ∧ vp_in (36 + (x3 / 99)) n9 ∧ ∀ h13 : jH, h13 = jset h v4 (.inl (0, (n9, .inl (upd f10 ((36 + (x3 / 99))).toNatClampNeg (((f6 ((36 + (x3 / 99))).toNatClampNeg) + ((x3 - x3 / 99 * 99) + 1))))))) → J g mX12_laysFits (d + 1) hs P 85 [(0, .ref x0), (1, .int x1), (2, .int x2), (3, .int x3), (4, .int 1), (5, .int 0)] [] h13)) : J g mX12_laysFits (d + 1) hs P 25 [(0, .ref x0), (1, .int x1), (2, .int x2), (3, .int x3), (4, .int x4)] [] h := by
  refine jr_iload 4 dX12_laysFits_25 rfl ?_
  refine jr_bipush (v := 44) dX12_laysFits_27 (by decide) ?_
  refine jr_icmp_ge (tgt := 58) dX12_laysFits_29 (by decide) (fun c29 => ?_) (fun c29 => ?_)
  · have k := k.2 c29
    refine jr_aload_n 0 dX12_laysFits_58 rfl rfl ?_
    obtain ⟨fs1, e2, v4, e3, k⟩ := k
    refine jr_get jf_X12_9 dX12_laysFits_59 e2 e3 ?_
    refine jr_bipush (v := 36) dX12_laysFits_62 (by decide) ?_
    refine jr_iload_n 3 dX12_laysFits_64 rfl rfl ?_
    refine jr_bipush (v := 99) dX12_laysFits_65 (by decide) ?_
    refine jr_idiv dX12_laysFits_67 (by decide) ?_
    refine jr_iadd dX12_laysFits_68 ?_
    refine jr_dup2 dX12_laysFits_69 rfl rfl ?_
    obtain ⟨n5, f6, e7, e8, k⟩ := k
    refine jr_iald dX12_laysFits_70 e7 e8 ?_
    refine jr_iload_n 3 dX12_laysFits_71 rfl rfl ?_
    refine jr_bipush (v := 99) dX12_laysFits_72 (by decide) ?_
    refine jr_irem dX12_laysFits_74 (by decide) ?_
    refine jr_iconst (v := 1) dX12_laysFits_75 (by decide) ?_
    refine jr_iadd dX12_laysFits_76 ?_
    refine jr_iadd dX12_laysFits_77 ?_
    obtain ⟨n9, f10, e11, e12, k⟩ := k
    refine jr_iastE dX12_laysFits_78 e11 e12 (fun h13 eh14 => ?_)
    have k := k h13 eh14
    refine jr_iconst (v := 1) dX12_laysFits_79 (by decide) ?_
    refine jr_istore (lv' := [(4, .int 1), (0, .ref x0), (1, .int x1), (2, .int x2), (3, .int x3)]) dX12_laysFits_80 (by decide) rfl ?_
    refine jr_iconst (v := 0) dX12_laysFits_82 (by decide) ?_
    refine jr_istore (lv' := [(5, .int 0), (4, .int 1), (0, .ref x0), (1, .int x1), (2, .int x2), (3, .int x3)]) dX12_laysFits_83 (by decide) rfl ?_
    exact jr_sub [2, 3, 4, 5, 1, 0] rfl k
  · have k := k.1 c29
    refine jr_aload_n 0 dX12_laysFits_32 rfl rfl ?_
    obtain ⟨fs15, e16, v18, e17, k⟩ := k
    refine jr_get jf_X12_9 dX12_laysFits_33 e16 e17 ?_
    refine jr_bipush (v := 8) dX12_laysFits_36 (by decide) ?_
    refine jr_iload 4 dX12_laysFits_38 rfl ?_
    refine jr_iadd dX12_laysFits_40 ?_
    refine jr_aload_n 0 dX12_laysFits_41 rfl rfl ?_
    obtain ⟨fs19, e20, v22, e21, k⟩ := k
    refine jr_get jf_X12_9 dX12_laysFits_42 e20 e21 ?_
    refine jr_bipush (v := 52) dX12_laysFits_45 (by decide) ?_
    refine jr_iload 4 dX12_laysFits_47 rfl ?_
    refine jr_iadd dX12_laysFits_49 ?_
    obtain ⟨n23, f24, e25, e26, k⟩ := k
    refine jr_iald dX12_laysFits_50 e25 e26 ?_
    obtain ⟨n27, f28, e29, e30, k⟩ := k
    refine jr_iastE dX12_laysFits_51 e29 e30 (fun h31 eh32 => ?_)
    have k := k h31 eh32
    refine jr_iinc (v := (x4 + 1)) (lv' := [(4, .int (x4 + 1)), (0, .ref x0), (1, .int x1), (2, .int x2), (3, .int x3)]) 4 dX12_laysFits_52 rfl rfl (by decide) rfl ?_
    refine jr_goto (tgt := 25) dX12_laysFits_55 (by decide) ?_
    exact jr_sub [1, 2, 3, 4, 0] rfl k
set_option maxRecDepth 20000 in
theorem bX12_laysFits_85 {g : jG} {d : Nat} {hs : jH} {P : jO → jH → Prop} {x0 : Nat} {x1 : Int32} {x2 : Int32} {x3 : Int32} {x4 : Int32} {x5 : Int32} {h : jH} (k : ∃ fs1 : List Value, h.1 x0 = some (.inr (12, fs1)) ∧ ∃ v4 : Nat, fs1[36]? = some (.ref v4) ∧ ∃ (n5 : Nat) (f6 : Nat → Int32), h.1 v4 = some (.inl (0, (n5, .inl f6))) ∧ vp_in x1 n5 ∧ (x5 < (f6 x1.toNatClampNeg) → (x4 = 0 → J g mX12_laysFits (d + 1) hs P 160 [(0, .ref x0), (1, .int x1), (2, .int x2), (3, .int x3), (4, .int x4)] [] h) ∧ (¬ x4 = 0 → ∃ fs11 : List Value, h.1 x0 = some (.inr (12, fs11)) ∧ Con g mX12_quarter d [.ref x0] h (jPv (fun (h10 : jH) => ∃ fs13 : List Value, h10.1 x0 = some (.inr (12, fs13)) ∧ ∃ v16 : Nat, fs13[37]? = some (.ref v16) ∧ ∃ (n17 : Nat) (f18 : Nat → Int64), h10.1 v16 = some (.inl (3, (n17, .inr (.inl f18)))) ∧ vp_in ((30 * x1) + x5) n17 ∧ ((f18 (((30 * x1) + x5)).toNatClampNeg) = (-1) → J g mX12_laysFits (d + 1) hs P 85 [(0, .ref x0), (1, .int x1), (2, .int x2), (3, .int x3), (4, .int 1), (5, .int (x5 + 1))] [] h10) ∧ (¬ (f18 (((30 * x1) + x5)).toNatClampNeg) = (-1) → ∃ fs21 : List Value, h10.1 x0 = some (.inr (12, fs21)) ∧ ∃ v24 : Nat, fs21[37]? = some (.ref v24) ∧ ∃ (n25 : Nat) (f26 : Nat → Int64), h10.1 v24 = some (.inl (3, (n25, .inr (.inl f26)))) ∧ vp_in ((30 * x1) + x5) n25 ∧ ∃ fs29 : List Value, h10.1 x0 = some (.inr (12, fs29)) ∧ ∃ v32 : Nat, fs29[21]? = some (.ref v32) ∧ ∃ (n33 : Nat) (f34 : Nat → Int32), h10.1 v32 = some (.inl (0, (n33, .inl f34))) ∧ vp_in x2 n33 ∧ ((f26 (((30 * x1) + x5)).toNatClampNeg) = ((f34 x2.toNatClampNeg)).toInt64 → J g mX12_laysFits (d + 1) hs P 85 [(0, .ref x0), (1, .int x1), (2, .int x2), (3, .int x3), (4, .int 1), (5, .int (x5 + 1))] [] h10) ∧ (¬ (f26 (((30 * x1) + x5)).toNatClampNeg) = ((f34 x2.toNatClampNeg)).toInt64 → J g mX12_laysFits (d + 1) hs P 85 [(0, .ref x0), (1, .int x1), (2, .int x2), (3, .int x3), (4, .int 0), (5, .int (x5 + 1))] [] h10))) (fun E h' => P (.inr E) h')))) ∧ (¬ x5 < (f6 x1.toNatClampNeg) → J g mX12_laysFits (d + 1) hs P 160 [(0, .ref x0), (1, .int x1), (2, .int x2), (3, .int x3), (4, .int x4)] [] h)) : J g mX12_laysFits (d + 1) hs P 85 [(0, .ref x0), (1, .int x1), (2, .int x2), (3, .int x3), (4, .int x4), (5, .int x5)] [] h := by
  refine jr_iload 5 dX12_laysFits_85 rfl ?_
  refine jr_aload_n 0 dX12_laysFits_87 rfl rfl ?_
  obtain ⟨fs1, e2, v4, e3, k⟩ := k
  refine jr_get jf_X12_60 dX12_laysFits_88 e2 e3 ?_
  refine jr_iload_n 1 dX12_laysFits_91 rfl rfl ?_
  obtain ⟨n5, f6, e7, e8, k⟩ := k
  refine jr_iald dX12_laysFits_92 e7 e8 ?_
  refine jr_icmp_ge (tgt := 160) dX12_laysFits_93 (by decide) (fun c93 => ?_) (fun c93 => ?_)
  · have k := k.2 c93
    exact jr_sub [0, 1, 2, 3, 4] rfl k
  · have k := k.1 c93
    refine jr_iload 4 dX12_laysFits_96 rfl ?_
    refine jr_if_eq (tgt := 160) dX12_laysFits_98 (by decide) (fun c98 => ?_) (fun c98 => ?_)
    · have k := k.1 c98
      exact jr_sub [0, 1, 2, 3, 4] rfl k
    · have k := k.2 c98
      refine jr_aload_n 0 dX12_laysFits_101 rfl rfl ?_
      obtain ⟨fs11, e12, k⟩ := k
      refine jr_cVv (As := []) jl_X12_356 km_X12_quarter rfl rfl dX12_laysFits_102 e12 (Nat.le_of_ble_eq_true rfl) k (fun h10 k => ?_)
      refine jr_aload_n 0 dX12_laysFits_105 rfl rfl ?_
      obtain ⟨fs13, e14, v16, e15, k⟩ := k
      refine jr_get jf_X12_63 dX12_laysFits_106 e14 e15 ?_
      refine jr_bipush (v := 30) dX12_laysFits_109 (by decide) ?_
      refine jr_iload_n 1 dX12_laysFits_111 rfl rfl ?_
      refine jr_imul dX12_laysFits_112 ?_
      refine jr_iload 5 dX12_laysFits_113 rfl ?_
      refine jr_iadd dX12_laysFits_115 ?_
      obtain ⟨n17, f18, e19, e20, k⟩ := k
      refine jr_lald dX12_laysFits_116 e19 e20 ?_
      refine jr_ldc2 (v := (-1)) jk_X12_363 dX12_laysFits_117 ?_
      refine jr_lcmp_eq (tgt := 147) dX12_laysFits_120 dX12_laysFits_121 (by decide) (fun c120 => ?_) (fun c120 => ?_)
      · have k := k.1 c120
        refine jr_iconst (v := 1) dX12_laysFits_147 (by decide) ?_
        refine jr_goto (tgt := 152) dX12_laysFits_148 (by decide) ?_
        refine jr_istore (lv' := [(4, .int 1), (0, .ref x0), (1, .int x1), (2, .int x2), (3, .int x3), (5, .int x5)]) dX12_laysFits_152 (by decide) rfl ?_
        refine jr_iinc (v := (x5 + 1)) (lv' := [(5, .int (x5 + 1)), (4, .int 1), (0, .ref x0), (1, .int x1), (2, .int x2), (3, .int x3)]) 5 dX12_laysFits_154 rfl rfl (by decide) rfl ?_
        refine jr_goto (tgt := 85) dX12_laysFits_157 (by decide) ?_
        exact jr_sub [2, 3, 4, 5, 1, 0] rfl k
      · have k := k.2 c120
        refine jr_aload_n 0 dX12_laysFits_124 rfl rfl ?_
        obtain ⟨fs21, e22, v24, e23, k⟩ := k
        refine jr_get jf_X12_63 dX12_laysFits_125 e22 e23 ?_
        refine jr_bipush (v := 30) dX12_laysFits_128 (by decide) ?_
        refine jr_iload_n 1 dX12_laysFits_130 rfl rfl ?_
        refine jr_imul dX12_laysFits_131 ?_
        refine jr_iload 5 dX12_laysFits_132 rfl ?_
        refine jr_iadd dX12_laysFits_134 ?_
        obtain ⟨n25, f26, e27, e28, k⟩ := k
        refine jr_lald dX12_laysFits_135 e27 e28 ?_
        refine jr_aload_n 0 dX12_laysFits_136 rfl rfl ?_
        obtain ⟨fs29, e30, v32, e31, k⟩ := k
        refine jr_get jf_X12_36 dX12_laysFits_137 e30 e31 ?_
        refine jr_iload_n 2 dX12_laysFits_140 rfl rfl ?_
        obtain ⟨n33, f34, e35, e36, k⟩ := k
        refine jr_iald dX12_laysFits_141 e35 e36 ?_
        refine jr_i2l dX12_laysFits_142 ?_
        refine jr_lcmp_ne (tgt := 151) dX12_laysFits_143 dX12_laysFits_144 (by decide) (fun c143 => ?_) (fun c143 => ?_)
        · have k := k.2 c143
          refine jr_iconst (v := 0) dX12_laysFits_151 (by decide) ?_
          refine jr_istore (lv' := [(4, .int 0), (0, .ref x0), (1, .int x1), (2, .int x2), (3, .int x3), (5, .int x5)]) dX12_laysFits_152 (by decide) rfl ?_
          refine jr_iinc (v := (x5 + 1)) (lv' := [(5, .int (x5 + 1)), (4, .int 0), (0, .ref x0), (1, .int x1), (2, .int x2), (3, .int x3)]) 5 dX12_laysFits_154 rfl rfl (by decide) rfl ?_
          refine jr_goto (tgt := 85) dX12_laysFits_157 (by decide) ?_
          exact jr_sub [2, 3, 4, 5, 1, 0] rfl k
        · have k := k.1 c143
          refine jr_iconst (v := 1) dX12_laysFits_147 (by decide) ?_
          refine jr_goto (tgt := 152) dX12_laysFits_148 (by decide) ?_
          refine jr_istore (lv' := [(4, .int 1), (0, .ref x0), (1, .int x1), (2, .int x2), (3, .int x3), (5, .int x5)]) dX12_laysFits_152 (by decide) rfl ?_
          refine jr_iinc (v := (x5 + 1)) (lv' := [(5, .int (x5 + 1)), (4, .int 1), (0, .ref x0), (1, .int x1), (2, .int x2), (3, .int x3)]) 5 dX12_laysFits_154 rfl rfl (by decide) rfl ?_
          refine jr_goto (tgt := 85) dX12_laysFits_157 (by decide) ?_
          exact jr_sub [2, 3, 4, 5, 1, 0] rfl k
set_option maxRecDepth 20000 in
theorem bX12_laysFits_160 {g : jG} {d : Nat} {hs : jH} {P : jO → jH → Prop} {x0 : Nat} {x1 : Int32} {x2 : Int32} {x3 : Int32} {x4 : Int32} {h : jH} (k : (x4 = 0 → J g mX12_laysFits (d + 1) hs P 170 [(0, .ref x0), (1, .int x1), (2, .int x2), (3, .int x3)] [] h) ∧ (¬ x4 = 0 → ∃ fs3 : List Value, h.1 x0 = some (.inr (12, fs3)) ∧ Con g mX12_addsFit d [.ref x0, .int x3] h (jPv (fun (h2 : jH) => J g mX12_laysFits (d + 1) hs P 170 [(0, .ref x0), (1, .int x1), (2, .int x2), (3, .int x3)] [] h2) (fun E h' => P (.inr E) h')))) : J g mX12_laysFits (d + 1) hs P 160 [(0, .ref x0), (1, .int x1), (2, .int x2), (3, .int x3), (4, .int x4)] [] h := by
  refine jr_iload 4 dX12_laysFits_160 rfl ?_
  refine jr_if_eq (tgt := 170) dX12_laysFits_162 (by decide) (fun c162 => ?_) (fun c162 => ?_)
  · have k := k.1 c162
    exact jr_sub [0, 1, 2, 3] rfl k
  · have k := k.2 c162
    refine jr_aload_n 0 dX12_laysFits_165 rfl rfl ?_
    refine jr_iload_n 3 dX12_laysFits_166 rfl rfl ?_
    obtain ⟨fs3, e4, k⟩ := k
    refine jr_cVv (As := [.int x3]) jl_X12_478 km_X12_addsFit rfl rfl dX12_laysFits_167 e4 (Nat.le_of_ble_eq_true rfl) k (fun h2 k => ?_)
    exact jr_sub [0, 1, 2, 3] rfl k
set_option maxRecDepth 20000 in
theorem bX12_laysFits_170 {g : jG} {d : Nat} {hs : jH} {P : jO → jH → Prop} {x0 : Nat} {x1 : Int32} {x2 : Int32} {x3 : Int32} {h : jH} (k : ∃ fs3 : List Value, h.1 x0 = some (.inr (12, fs3)) ∧ Con g mX12_putsBack d [.ref x0] h (jPv (fun (h2 : jH) => J g mX12_laysFits (d + 1) hs P 7 [(0, .ref x0), (1, .int x1), (2, .int x2), (3, .int (x3 + 1))] [] h2) (fun E h' => P (.inr E) h'))) : J g mX12_laysFits (d + 1) hs P 170 [(0, .ref x0), (1, .int x1), (2, .int x2), (3, .int x3)] [] h := by
  refine jr_aload_n 0 dX12_laysFits_170 rfl rfl ?_
  obtain ⟨fs3, e4, k⟩ := k
  refine jr_cVv (As := []) jl_X12_392 km_X12_putsBack rfl rfl dX12_laysFits_171 e4 (Nat.le_of_ble_eq_true rfl) k (fun h2 k => ?_)
  refine jr_iinc (v := (x3 + 1)) (lv' := [(3, .int (x3 + 1)), (0, .ref x0), (1, .int x1), (2, .int x2)]) 3 dX12_laysFits_174 rfl rfl (by decide) rfl ?_
  refine jr_goto (tgt := 7) dX12_laysFits_177 (by decide) ?_
  exact jr_sub [1, 2, 3, 0] rfl k
set_option maxRecDepth 20000 in
theorem bX12_addsFit_0 {g : jG} {d : Nat} {hs : jH} {P : jO → jH → Prop} {x0 : Nat} {x1 : Int32} {h : jH} (k : ∃ fs3 : List Value, h.1 x0 = some (.inr (12, fs3)) ∧ Con g mX12_quarter d [.ref x0] h (jPv (fun (h2 : jH) => J g mX12_addsFit (d + 1) hs P 6 [(0, .ref x0), (1, .int x1), (2, .int 0)] [] h2) (fun E h' => P (.inr E) h'))) : J g mX12_addsFit (d + 1) hs P 0 [(0, .ref x0), (1, .int x1)] [] h := by
  refine jr_aload_n 0 dX12_addsFit_0 rfl rfl ?_
  obtain ⟨fs3, e4, k⟩ := k
  refine jr_cVv (As := []) jl_X12_356 km_X12_quarter rfl rfl dX12_addsFit_1 e4 (Nat.le_of_ble_eq_true rfl) k (fun h2 k => ?_)
  refine jr_iconst (v := 0) dX12_addsFit_4 (by decide) ?_
  refine jr_istore_n (lv' := [(2, .int 0), (0, .ref x0), (1, .int x1)]) dX12_addsFit_5 rfl (by decide) rfl ?_
  exact jr_sub [1, 2, 0] rfl k
set_option maxRecDepth 20000 in
theorem bX12_addsFit_6 {g : jG} {d : Nat} {hs : jH} {P : jO → jH → Prop} {x0 : Nat} {x1 : Int32} {x2 : Int32} {h : jH} (k : ∃ fs3 : List Value, h.1 x0 = some (.inr (12, fs3)) ∧ Con g mX12_houses d [.ref x0] h (jPi (fun (r1 : Int32) (h2 : jH) => (x2 < r1 → ∃ fs28 : List Value, h2.1 x0 = some (.inr (12, fs28)) ∧ ∃ v31 : Nat, fs28[34]? = some (.ref v31) ∧ ∃ fs32 : List Value, h2.1 x0 = some (.inr (12, fs32)) ∧ ∃ v35 : Int32, fs32[32]? = some (.int v35) ∧ ∃ fs36 : List Value, h2.1 x0 = some (.inr (12, fs36)) ∧ ∃ v39 : Nat, fs36[21]? = some (.ref v39) ∧ ∃ (n40 : Nat) (f41 : Nat → Int32), h2.1 v39 = some (.inl (0, (n40, .inl f41))) ∧ vp_in x2 n40 ∧ ∃ (n44 : Nat) (f45 : Nat → Int32), h2.1 v31 = some (.inl (0, (n44, .inl f45))) ∧ vp_in ((7 * v35) + x2) n44 ∧ ∀ h48 : jH, h48 = jset h2 v31 (.inl (0, (n44, .inl (upd f45 (((7 * v35) + x2)).toNatClampNeg ((f41 x2.toNatClampNeg)))))) → J g mX12_addsFit (d + 1) hs P 6 [(0, .ref x0), (1, .int x1), (2, .int (x2 + 1))] [] h48) ∧ (¬ x2 < r1 → ∃ fs5 : List Value, h2.1 x0 = some (.inr (12, fs5)) ∧ ∃ v8 : Nat, fs5[33]? = some (.ref v8) ∧ ∃ fs9 : List Value, h2.1 x0 = some (.inr (12, fs9)) ∧ ∃ v12 : Int32, fs9[32]? = some (.int v12) ∧ ∃ (n13 : Nat) (f14 : Nat → Int32), h2.1 v8 = some (.inl (0, (n13, .inl f14))) ∧ vp_in v12 n13 ∧ ∀ h17 : jH, h17 = jset h2 v8 (.inl (0, (n13, .inl (upd f14 v12.toNatClampNeg ((((100 * (x1 / 99)) + (x1 - x1 / 99 * 99)) + 1)))))) → ∃ fs19 : List Value, h17.1 x0 = some (.inr (12, fs19)) ∧ ∃ v22 : Int32, fs19[32]? = some (.int v22) ∧ ∃ fs23 : List Value, h17.1 x0 = some (.inr (12, fs23)) ∧ 32 < fs23.length ∧ (∀ h26 : jH, h26 = jset h17 x0 (.inr (12, fs23.set 32 (.int (v22 + 1)))) → P (.inl none) h26))) (fun E h' => P (.inr E) h'))) : J g mX12_addsFit (d + 1) hs P 6 [(0, .ref x0), (1, .int x1), (2, .int x2)] [] h := by
  refine jr_iload_n 2 dX12_addsFit_6 rfl rfl ?_
  refine jr_aload_n 0 dX12_addsFit_7 rfl rfl ?_
  obtain ⟨fs3, e4, k⟩ := k
  refine jr_cVi (As := []) jl_X12_249 km_X12_houses rfl rfl dX12_addsFit_8 e4 (Nat.le_of_ble_eq_true rfl) k (fun r1 h2 k => ?_)
  refine jr_icmp_ge (tgt := 40) dX12_addsFit_11 (by decide) (fun c11 => ?_) (fun c11 => ?_)
  · have k := k.2 c11
    refine jr_aload_n 0 dX12_addsFit_40 rfl rfl ?_
    obtain ⟨fs5, e6, v8, e7, k⟩ := k
    refine jr_get jf_X12_51 dX12_addsFit_41 e6 e7 ?_
    refine jr_aload_n 0 dX12_addsFit_44 rfl rfl ?_
    obtain ⟨fs9, e10, v12, e11, k⟩ := k
    refine jr_get jf_X12_475 dX12_addsFit_45 e10 e11 ?_
    refine jr_bipush (v := 100) dX12_addsFit_48 (by decide) ?_
    refine jr_iload_n 1 dX12_addsFit_50 rfl rfl ?_
    refine jr_bipush (v := 99) dX12_addsFit_51 (by decide) ?_
    refine jr_idiv dX12_addsFit_53 (by decide) ?_
    refine jr_imul dX12_addsFit_54 ?_
    refine jr_iload_n 1 dX12_addsFit_55 rfl rfl ?_
    refine jr_bipush (v := 99) dX12_addsFit_56 (by decide) ?_
    refine jr_irem dX12_addsFit_58 (by decide) ?_
    refine jr_iadd dX12_addsFit_59 ?_
    refine jr_iconst (v := 1) dX12_addsFit_60 (by decide) ?_
    refine jr_iadd dX12_addsFit_61 ?_
    obtain ⟨n13, f14, e15, e16, k⟩ := k
    refine jr_iastE dX12_addsFit_62 e15 e16 (fun h17 eh18 => ?_)
    have k := k h17 eh18
    refine jr_aload_n 0 dX12_addsFit_63 rfl rfl ?_
    refine jr_dup dX12_addsFit_64 rfl ?_
    obtain ⟨fs19, e20, v22, e21, k⟩ := k
    refine jr_get jf_X12_475 dX12_addsFit_65 e20 e21 ?_
    refine jr_iconst (v := 1) dX12_addsFit_68 (by decide) ?_
    refine jr_iadd dX12_addsFit_69 ?_
    obtain ⟨fs23, e24, e25, k⟩ := k
    refine jr_putE jp_X12_475 dX12_addsFit_70 e24 e25 rfl rfl (fun h26 eh27 => ?_)
    have k := k h26 eh27
    exact jr_vret rfl dX12_addsFit_73 k
  · have k := k.1 c11
    refine jr_aload_n 0 dX12_addsFit_14 rfl rfl ?_
    obtain ⟨fs28, e29, v31, e30, k⟩ := k
    refine jr_get jf_X12_54 dX12_addsFit_15 e29 e30 ?_
    refine jr_bipush (v := 7) dX12_addsFit_18 (by decide) ?_
    refine jr_aload_n 0 dX12_addsFit_20 rfl rfl ?_
    obtain ⟨fs32, e33, v35, e34, k⟩ := k
    refine jr_get jf_X12_475 dX12_addsFit_21 e33 e34 ?_
    refine jr_imul dX12_addsFit_24 ?_
    refine jr_iload_n 2 dX12_addsFit_25 rfl rfl ?_
    refine jr_iadd dX12_addsFit_26 ?_
    refine jr_aload_n 0 dX12_addsFit_27 rfl rfl ?_
    obtain ⟨fs36, e37, v39, e38, k⟩ := k
    refine jr_get jf_X12_36 dX12_addsFit_28 e37 e38 ?_
    refine jr_iload_n 2 dX12_addsFit_31 rfl rfl ?_
    obtain ⟨n40, f41, e42, e43, k⟩ := k
    refine jr_iald dX12_addsFit_32 e42 e43 ?_
    obtain ⟨n44, f45, e46, e47, k⟩ := k
    refine jr_iastE dX12_addsFit_33 e46 e47 (fun h48 eh49 => ?_)
    have k := k h48 eh49
    refine jr_iinc (v := (x2 + 1)) (lv' := [(2, .int (x2 + 1)), (0, .ref x0), (1, .int x1)]) 2 dX12_addsFit_34 rfl rfl (by decide) rfl ?_
    refine jr_goto (tgt := 6) dX12_addsFit_37 (by decide) ?_
    exact jr_sub [1, 2, 0] rfl k
set_option maxRecDepth 20000 in
theorem bX12_seen_0 {g : jG} {d : Nat} {hs : jH} {P : jO → jH → Prop} {x0 : Nat} {x1 : Int32} {x2 : Int32} {h : jH} (k : ∃ fs3 : List Value, h.1 x0 = some (.inr (12, fs3)) ∧ Con g mX12_seenFault d [.ref x0, .int x1, .int x2] h (jPi (fun (r1 : Int32) (h2 : jH) => ∃ fs5 : List Value, h2.1 x0 = some (.inr (12, fs5)) ∧ 4 < fs5.length ∧ (∀ h8 : jH, h8 = jset h2 x0 (.inr (12, fs5.set 4 (.int r1))) → ∃ fs10 : List Value, h8.1 x0 = some (.inr (12, fs10)) ∧ ∃ v13 : Int32, fs10[4]? = some (.int v13) ∧ (0 < v13 → P (.inl (some (.int 0))) h8) ∧ (¬ 0 < v13 → ∃ fs16 : List Value, h8.1 x0 = some (.inr (12, fs16)) ∧ Con g mX12_laysFits d [.ref x0, .int x1, .int x2] h8 (jPv (fun (h15 : jH) => ∃ fs18 : List Value, h15.1 x0 = some (.inr (12, fs18)) ∧ ∃ v21 : Int32, fs18[32]? = some (.int v21) ∧ P (.inl (some (.int v21))) h15) (fun E h' => P (.inr E) h'))))) (fun E h' => P (.inr E) h'))) : J g mX12_seen (d + 1) hs P 0 [(0, .ref x0), (1, .int x1), (2, .int x2)] [] h := by
  refine jr_aload_n 0 dX12_seen_0 rfl rfl ?_
  refine jr_aload_n 0 dX12_seen_1 rfl rfl ?_
  refine jr_iload_n 1 dX12_seen_2 rfl rfl ?_
  refine jr_iload_n 2 dX12_seen_3 rfl rfl ?_
  obtain ⟨fs3, e4, k⟩ := k
  refine jr_cVi (As := [.int x1, .int x2]) jl_X12_481 km_X12_seenFault rfl rfl dX12_seen_4 e4 (Nat.le_of_ble_eq_true rfl) k (fun r1 h2 k => ?_)
  obtain ⟨fs5, e6, e7, k⟩ := k
  refine jr_putE jp_X12_67 dX12_seen_7 e6 e7 rfl rfl (fun h8 eh9 => ?_)
  have k := k h8 eh9
  refine jr_aload_n 0 dX12_seen_10 rfl rfl ?_
  obtain ⟨fs10, e11, v13, e12, k⟩ := k
  refine jr_get jf_X12_67 dX12_seen_11 e11 e12 ?_
  refine jr_if_le (tgt := 19) dX12_seen_14 (by decide) (fun c14 => ?_) (fun c14 => ?_)
  · have k := k.2 c14
    refine jr_aload_n 0 dX12_seen_19 rfl rfl ?_
    refine jr_iload_n 1 dX12_seen_20 rfl rfl ?_
    refine jr_iload_n 2 dX12_seen_21 rfl rfl ?_
    obtain ⟨fs16, e17, k⟩ := k
    refine jr_cVv (As := [.int x1, .int x2]) jl_X12_484 km_X12_laysFits rfl rfl dX12_seen_22 e17 (Nat.le_of_ble_eq_true rfl) k (fun h15 k => ?_)
    refine jr_aload_n 0 dX12_seen_25 rfl rfl ?_
    obtain ⟨fs18, e19, v21, e20, k⟩ := k
    refine jr_get jf_X12_475 dX12_seen_26 e19 e20 ?_
    exact jr_iret (ty := .int) rfl rfl dX12_seen_29 k
  · have k := k.1 c14
    refine jr_iconst (v := 0) dX12_seen_17 (by decide) ?_
    exact jr_iret (ty := .int) rfl rfl dX12_seen_18 k
set_option maxRecDepth 20000 in
theorem bX12_hidden_0 {g : jG} {d : Nat} {hs : jH} {P : jO → jH → Prop} {x0 : Nat} {x1 : Int32} {x2 : Int32} {x3 : Int32} {h : jH} (k : ∃ fs3 : List Value, h.1 x0 = some (.inr (12, fs3)) ∧ Con g mX12_seenFault d [.ref x0, .int x1, .int x2] h (jPi (fun (r1 : Int32) (h2 : jH) => ∃ fs5 : List Value, h2.1 x0 = some (.inr (12, fs5)) ∧ 4 < fs5.length ∧ (∀ h8 : jH, h8 = jset h2 x0 (.inr (12, fs5.set 4 (.int r1))) → ∃ fs10 : List Value, h8.1 x0 = some (.inr (12, fs10)) ∧ ∃ v13 : Int32, fs10[4]? = some (.int v13) ∧ (v13 = 0 → (x3 < 0 → ∃ fs14 : List Value, h8.1 x0 = some (.inr (12, fs14)) ∧ 4 < fs14.length ∧ (∀ h17 : jH, h17 = jset h8 x0 (.inr (12, fs14.set 4 (.int 3))) → J g mX12_hidden (d + 1) hs P 26 [(0, .ref x0), (1, .int x1), (2, .int x2), (3, .int x3)] [] h17)) ∧ (¬ x3 < 0 → J g mX12_hidden (d + 1) hs P 26 [(0, .ref x0), (1, .int x1), (2, .int x2), (3, .int x3)] [] h8)) ∧ (¬ v13 = 0 → J g mX12_hidden (d + 1) hs P 26 [(0, .ref x0), (1, .int x1), (2, .int x2), (3, .int x3)] [] h8))) (fun E h' => P (.inr E) h'))) : J g mX12_hidden (d + 1) hs P 0 [(0, .ref x0), (1, .int x1), (2, .int x2), (3, .int x3)] [] h := by
  refine jr_aload_n 0 dX12_hidden_0 rfl rfl ?_
  refine jr_aload_n 0 dX12_hidden_1 rfl rfl ?_
  refine jr_iload_n 1 dX12_hidden_2 rfl rfl ?_
  refine jr_iload_n 2 dX12_hidden_3 rfl rfl ?_
  obtain ⟨fs3, e4, k⟩ := k
  refine jr_cVi (As := [.int x1, .int x2]) jl_X12_481 km_X12_seenFault rfl rfl dX12_hidden_4 e4 (Nat.le_of_ble_eq_true rfl) k (fun r1 h2 k => ?_)
  obtain ⟨fs5, e6, e7, k⟩ := k
  refine jr_putE jp_X12_67 dX12_hidden_7 e6 e7 rfl rfl (fun h8 eh9 => ?_)
  have k := k h8 eh9
  refine jr_aload_n 0 dX12_hidden_10 rfl rfl ?_
  obtain ⟨fs10, e11, v13, e12, k⟩ := k
  refine jr_get jf_X12_67 dX12_hidden_11 e11 e12 ?_
  refine jr_if_ne (tgt := 26) dX12_hidden_14 (by decide) (fun c14 => ?_) (fun c14 => ?_)
  · have k := k.2 c14
    exact jr_sub [0, 1, 2, 3] rfl k
  · have k := k.1 c14
    refine jr_iload_n 3 dX12_hidden_17 rfl rfl ?_
    refine jr_if_ge (tgt := 26) dX12_hidden_18 (by decide) (fun c18 => ?_) (fun c18 => ?_)
    · have k := k.2 c18
      exact jr_sub [0, 1, 2, 3] rfl k
    · have k := k.1 c18
      refine jr_aload_n 0 dX12_hidden_21 rfl rfl ?_
      refine jr_iconst (v := 3) dX12_hidden_22 (by decide) ?_
      obtain ⟨fs14, e15, e16, k⟩ := k
      refine jr_putE jp_X12_67 dX12_hidden_23 e15 e16 rfl rfl (fun h17 eh18 => ?_)
      have k := k h17 eh18
      exact jr_sub [0, 1, 2, 3] rfl k
set_option maxRecDepth 20000 in
theorem bX12_hidden_26 {g : jG} {d : Nat} {hs : jH} {P : jO → jH → Prop} {x0 : Nat} {x1 : Int32} {x2 : Int32} {x3 : Int32} {h : jH} (k : ∃ fs1 : List Value, h.1 x0 = some (.inr (12, fs1)) ∧ ∃ v4 : Int32, fs1[4]? = some (.int v4) ∧ (0 < v4 → P (.inl (some (.int 0))) h) ∧ (¬ 0 < v4 → ∃ fs7 : List Value, h.1 x0 = some (.inr (12, fs7)) ∧ Con g mX12_laysFits d [.ref x0, .int x1, .int x2] h (jPv (fun (h6 : jH) => ∃ fs9 : List Value, h6.1 x0 = some (.inr (12, fs9)) ∧ ∃ v12 : Int32, fs9[32]? = some (.int v12) ∧ (x3 < v12 → ∃ fs13 : List Value, h6.1 x0 = some (.inr (12, fs13)) ∧ ∃ v16 : Nat, fs13[33]? = some (.ref v16) ∧ ∃ (n17 : Nat) (f18 : Nat → Int32), h6.1 v16 = some (.inl (0, (n17, .inl f18))) ∧ vp_in x3 n17 ∧ P (.inl (some (.int ((f18 x3.toNatClampNeg))))) h6) ∧ (¬ x3 < v12 → P (.inl (some (.int ((-1))))) h6)) (fun E h' => P (.inr E) h')))) : J g mX12_hidden (d + 1) hs P 26 [(0, .ref x0), (1, .int x1), (2, .int x2), (3, .int x3)] [] h := by
  refine jr_aload_n 0 dX12_hidden_26 rfl rfl ?_
  obtain ⟨fs1, e2, v4, e3, k⟩ := k
  refine jr_get jf_X12_67 dX12_hidden_27 e2 e3 ?_
  refine jr_if_le (tgt := 35) dX12_hidden_30 (by decide) (fun c30 => ?_) (fun c30 => ?_)
  · have k := k.2 c30
    refine jr_aload_n 0 dX12_hidden_35 rfl rfl ?_
    refine jr_iload_n 1 dX12_hidden_36 rfl rfl ?_
    refine jr_iload_n 2 dX12_hidden_37 rfl rfl ?_
    obtain ⟨fs7, e8, k⟩ := k
    refine jr_cVv (As := [.int x1, .int x2]) jl_X12_484 km_X12_laysFits rfl rfl dX12_hidden_38 e8 (Nat.le_of_ble_eq_true rfl) k (fun h6 k => ?_)
    refine jr_iload_n 3 dX12_hidden_41 rfl rfl ?_
    refine jr_aload_n 0 dX12_hidden_42 rfl rfl ?_
    obtain ⟨fs9, e10, v12, e11, k⟩ := k
    refine jr_get jf_X12_475 dX12_hidden_43 e10 e11 ?_
    refine jr_icmp_ge (tgt := 58) dX12_hidden_46 (by decide) (fun c46 => ?_) (fun c46 => ?_)
    · have k := k.2 c46
      refine jr_iconst (v := (-1)) dX12_hidden_58 (by decide) ?_
      exact jr_iret (ty := .int) rfl rfl dX12_hidden_59 k
    · have k := k.1 c46
      refine jr_aload_n 0 dX12_hidden_49 rfl rfl ?_
      obtain ⟨fs13, e14, v16, e15, k⟩ := k
      refine jr_get jf_X12_51 dX12_hidden_50 e14 e15 ?_
      refine jr_iload_n 3 dX12_hidden_53 rfl rfl ?_
      obtain ⟨n17, f18, e19, e20, k⟩ := k
      refine jr_iald dX12_hidden_54 e19 e20 ?_
      refine jr_goto (tgt := 59) dX12_hidden_55 (by decide) ?_
      exact jr_iret (ty := .int) rfl rfl dX12_hidden_59 k
  · have k := k.1 c30
    refine jr_iconst (v := 0) dX12_hidden_33 (by decide) ?_
    exact jr_iret (ty := .int) rfl rfl dX12_hidden_34 k
set_option maxRecDepth 20000 in
theorem bX12_mostLike_0 {g : jG} {d : Nat} {hs : jH} {P : jO → jH → Prop} {x0 : Nat} {x1 : Int32} {h : jH} (k : J g mX12_mostLike (d + 1) hs P 4 [(0, .ref x0), (1, .int x1), (2, .int 0), (3, .int 0)] [] h) : J g mX12_mostLike (d + 1) hs P 0 [(0, .ref x0), (1, .int x1)] [] h := by
  refine jr_iconst (v := 0) dX12_mostLike_0 (by decide) ?_
  refine jr_istore_n (lv' := [(2, .int 0), (0, .ref x0), (1, .int x1)]) dX12_mostLike_1 rfl (by decide) rfl ?_
  refine jr_iconst (v := 0) dX12_mostLike_2 (by decide) ?_
  refine jr_istore_n (lv' := [(3, .int 0), (2, .int 0), (0, .ref x0), (1, .int x1)]) dX12_mostLike_3 rfl (by decide) rfl ?_
  exact jr_sub [2, 3, 1, 0] rfl k
set_option maxRecDepth 20000 in
theorem bX12_mostLike_4 {g : jG} {d : Nat} {hs : jH} {P : jO → jH → Prop} {x0 : Nat} {x1 : Int32} {x2 : Int32} {x3 : Int32} {h : jH} (k : ∃ fs1 : List Value, h.1 x0 = some (.inr (12, fs1)) ∧ ∃ v4 : Int32, fs1[32]? = some (.int v4) ∧ (x3 < v4 → J g mX12_mostLike (d + 1) hs P 18 [(0, .ref x0), (1, .int x1), (2, .int x2), (3, .int x3), (4, .int 0), (5, .int 0)] [] h) ∧ (¬ x3 < v4 → P (.inl (some (.int x2))) h)) : J g mX12_mostLike (d + 1) hs P 4 [(0, .ref x0), (1, .int x1), (2, .int x2), (3, .int x3)] [] h := by
  refine jr_iload_n 3 dX12_mostLike_4 rfl rfl ?_
  refine jr_aload_n 0 dX12_mostLike_5 rfl rfl ?_
  obtain ⟨fs1, e2, v4, e3, k⟩ := k
  refine jr_get jf_X12_475 dX12_mostLike_6 e2 e3 ?_
  refine jr_icmp_ge (tgt := 82) dX12_mostLike_9 (by decide) (fun c9 => ?_) (fun c9 => ?_)
  · have k := k.2 c9
    refine jr_iload_n 2 dX12_mostLike_82 rfl rfl ?_
    exact jr_iret (ty := .int) rfl rfl dX12_mostLike_83 k
  · have k := k.1 c9
    refine jr_iconst (v := 0) dX12_mostLike_12 (by decide) ?_
    refine jr_istore (lv' := [(4, .int 0), (0, .ref x0), (1, .int x1), (2, .int x2), (3, .int x3)]) dX12_mostLike_13 (by decide) rfl ?_
    refine jr_iconst (v := 0) dX12_mostLike_15 (by decide) ?_
    refine jr_istore (lv' := [(5, .int 0), (4, .int 0), (0, .ref x0), (1, .int x1), (2, .int x2), (3, .int x3)]) dX12_mostLike_16 (by decide) rfl ?_
    exact jr_sub [2, 3, 4, 5, 1, 0] rfl k
set_option maxRecDepth 20000 in
theorem bX12_mostLike_18 {g : jG} {d : Nat} {hs : jH} {P : jO → jH → Prop} {x0 : Nat} {x1 : Int32} {x2 : Int32} {x3 : Int32} {x4 : Int32} {x5 : Int32} {h : jH} (k : ∃ fs1 : List Value, h.1 x0 = some (.inr (12, fs1)) ∧ ∃ v4 : Int32, fs1[32]? = some (.int v4) ∧ (x5 < v4 → ∃ fs5 : List Value, h.1 x0 = some (.inr (12, fs5)) ∧ ∃ v8 : Nat, fs5[34]? = some (.ref v8) ∧ ∃ (n9 : Nat) (f10 : Nat → Int32), h.1 v8 = some (.inl (0, (n9, .inl f10))) ∧ vp_in ((7 * x5) + x1) n9 ∧ ∃ fs13 : List Value, h.1 x0 = some (.inr (12, fs13)) ∧ ∃ v16 : Nat, fs13[34]? = some (.ref v16) ∧ ∃ (n17 : Nat) (f18 : Nat → Int32), h.1 v16 = some (.inl (0, (n17, .inl f18))) ∧ vp_in ((7 * x3) + x1) n17 ∧ ((f10 (((7 * x5) + x1)).toNatClampNeg) = (f18 (((7 * x3) + x1)).toNatClampNeg) → J g mX12_mostLike (d + 1) hs P 18 [(0, .ref x0), (1, .int x1), (2, .int x2), (3, .int x3), (4, .int (x4 + 1)), (5, .int (x5 + 1))] [] h) ∧ (¬ (f10 (((7 * x5) + x1)).toNatClampNeg) = (f18 (((7 * x3) + x1)).toNatClampNeg) → J g mX12_mostLike (d + 1) hs P 18 [(0, .ref x0), (1, .int x1), (2, .int x2), (3, .int x3), (4, .int (x4 + 0)), (5, .int (x5 + 1))] [] h)) ∧ (¬ x5 < v4 → J g mX12_mostLike (d + 1) hs P 4 [(0, .ref x0), (1, .int x1), (2, .int (jmax x2 x4)), (3, .int (x3 + 1))] [] h)) : J g mX12_mostLike (d + 1) hs P 18 [(0, .ref x0), (1, .int x1), (2, .int x2), (3, .int x3), (4, .int x4), (5, .int x5)] [] h := by
  refine jr_iload 5 dX12_mostLike_18 rfl ?_
  refine jr_aload_n 0 dX12_mostLike_20 rfl rfl ?_
  obtain ⟨fs1, e2, v4, e3, k⟩ := k
  refine jr_get jf_X12_475 dX12_mostLike_21 e2 e3 ?_
  refine jr_icmp_ge (tgt := 69) dX12_mostLike_24 (by decide) (fun c24 => ?_) (fun c24 => ?_)
  · have k := k.2 c24
    refine jr_iload_n 2 dX12_mostLike_69 rfl rfl ?_
    refine jr_iload 4 dX12_mostLike_70 rfl ?_
    refine jr_mmax jl_X12_276 dX12_mostLike_72 (Nat.le_of_ble_eq_true rfl) ?_
    refine jr_istore_n (lv' := [(2, .int (jmax x2 x4)), (0, .ref x0), (1, .int x1), (3, .int x3), (4, .int x4), (5, .int x5)]) dX12_mostLike_75 rfl (by decide) rfl ?_
    refine jr_iinc (v := (x3 + 1)) (lv' := [(3, .int (x3 + 1)), (2, .int (jmax x2 x4)), (0, .ref x0), (1, .int x1), (4, .int x4), (5, .int x5)]) 3 dX12_mostLike_76 rfl rfl (by decide) rfl ?_
    refine jr_goto (tgt := 4) dX12_mostLike_79 (by decide) ?_
    exact jr_sub [2, 3, 1, 0] rfl k
  · have k := k.1 c24
    refine jr_iload 4 dX12_mostLike_27 rfl ?_
    refine jr_aload_n 0 dX12_mostLike_29 rfl rfl ?_
    obtain ⟨fs5, e6, v8, e7, k⟩ := k
    refine jr_get jf_X12_54 dX12_mostLike_30 e6 e7 ?_
    refine jr_bipush (v := 7) dX12_mostLike_33 (by decide) ?_
    refine jr_iload 5 dX12_mostLike_35 rfl ?_
    refine jr_imul dX12_mostLike_37 ?_
    refine jr_iload_n 1 dX12_mostLike_38 rfl rfl ?_
    refine jr_iadd dX12_mostLike_39 ?_
    obtain ⟨n9, f10, e11, e12, k⟩ := k
    refine jr_iald dX12_mostLike_40 e11 e12 ?_
    refine jr_aload_n 0 dX12_mostLike_41 rfl rfl ?_
    obtain ⟨fs13, e14, v16, e15, k⟩ := k
    refine jr_get jf_X12_54 dX12_mostLike_42 e14 e15 ?_
    refine jr_bipush (v := 7) dX12_mostLike_45 (by decide) ?_
    refine jr_iload_n 3 dX12_mostLike_47 rfl rfl ?_
    refine jr_imul dX12_mostLike_48 ?_
    refine jr_iload_n 1 dX12_mostLike_49 rfl rfl ?_
    refine jr_iadd dX12_mostLike_50 ?_
    obtain ⟨n17, f18, e19, e20, k⟩ := k
    refine jr_iald dX12_mostLike_51 e19 e20 ?_
    refine jr_icmp_ne (tgt := 59) dX12_mostLike_52 (by decide) (fun c52 => ?_) (fun c52 => ?_)
    · have k := k.2 c52
      refine jr_iconst (v := 0) dX12_mostLike_59 (by decide) ?_
      refine jr_iadd dX12_mostLike_60 ?_
      refine jr_istore (lv' := [(4, .int (x4 + 0)), (0, .ref x0), (1, .int x1), (2, .int x2), (3, .int x3), (5, .int x5)]) dX12_mostLike_61 (by decide) rfl ?_
      refine jr_iinc (v := (x5 + 1)) (lv' := [(5, .int (x5 + 1)), (4, .int (x4 + 0)), (0, .ref x0), (1, .int x1), (2, .int x2), (3, .int x3)]) 5 dX12_mostLike_63 rfl rfl (by decide) rfl ?_
      refine jr_goto (tgt := 18) dX12_mostLike_66 (by decide) ?_
      exact jr_sub [2, 3, 4, 5, 1, 0] rfl k
    · have k := k.1 c52
      refine jr_iconst (v := 1) dX12_mostLike_55 (by decide) ?_
      refine jr_goto (tgt := 60) dX12_mostLike_56 (by decide) ?_
      refine jr_iadd dX12_mostLike_60 ?_
      refine jr_istore (lv' := [(4, .int (x4 + 1)), (0, .ref x0), (1, .int x1), (2, .int x2), (3, .int x3), (5, .int x5)]) dX12_mostLike_61 (by decide) rfl ?_
      refine jr_iinc (v := (x5 + 1)) (lv' := [(5, .int (x5 + 1)), (4, .int (x4 + 1)), (0, .ref x0), (1, .int x1), (2, .int x2), (3, .int x3)]) 5 dX12_mostLike_63 rfl rfl (by decide) rfl ?_
      refine jr_goto (tgt := 18) dX12_mostLike_66 (by decide) ?_
      exact jr_sub [2, 3, 4, 5, 1, 0] rfl k
set_option maxRecDepth 20000 in
theorem bX12_look_0 {g : jG} {d : Nat} {hs : jH} {P : jO → jH → Prop} {x0 : Nat} {x1 : Int32} {x2 : Int32} {h : jH} (k : ∃ fs3 : List Value, h.1 x0 = some (.inr (12, fs3)) ∧ Con g mX12_seenFault d [.ref x0, .int x1, .int x2] h (jPi (fun (r1 : Int32) (h2 : jH) => ∃ fs5 : List Value, h2.1 x0 = some (.inr (12, fs5)) ∧ 4 < fs5.length ∧ (∀ h8 : jH, h8 = jset h2 x0 (.inr (12, fs5.set 4 (.int r1))) → ∃ fs10 : List Value, h8.1 x0 = some (.inr (12, fs10)) ∧ ∃ v13 : Int32, fs10[4]? = some (.int v13) ∧ (0 < v13 → P (.inl (some (.int 0))) h8) ∧ (¬ 0 < v13 → ∃ fs16 : List Value, h8.1 x0 = some (.inr (12, fs16)) ∧ Con g mX12_laysFits d [.ref x0, .int x1, .int x2] h8 (jPv (fun (h15 : jH) => J g mX12_look (d + 1) hs P 35 [(0, .ref x0), (3, .int (-1)), (4, .int 536870912), (5, .int 0)] [] h15) (fun E h' => P (.inr E) h'))))) (fun E h' => P (.inr E) h'))) : J g mX12_look (d + 1) hs P 0 [(0, .ref x0), (1, .int x1), (2, .int x2)] [] h := by
  refine jr_aload_n 0 dX12_look_0 rfl rfl ?_
  refine jr_aload_n 0 dX12_look_1 rfl rfl ?_
  refine jr_iload_n 1 dX12_look_2 rfl rfl ?_
  refine jr_iload_n 2 dX12_look_3 rfl rfl ?_
  obtain ⟨fs3, e4, k⟩ := k
  refine jr_cVi (As := [.int x1, .int x2]) jl_X12_481 km_X12_seenFault rfl rfl dX12_look_4 e4 (Nat.le_of_ble_eq_true rfl) k (fun r1 h2 k => ?_)
  obtain ⟨fs5, e6, e7, k⟩ := k
  refine jr_putE jp_X12_67 dX12_look_7 e6 e7 rfl rfl (fun h8 eh9 => ?_)
  have k := k h8 eh9
  refine jr_aload_n 0 dX12_look_10 rfl rfl ?_
  obtain ⟨fs10, e11, v13, e12, k⟩ := k
  refine jr_get jf_X12_67 dX12_look_11 e11 e12 ?_
  refine jr_if_le (tgt := 19) dX12_look_14 (by decide) (fun c14 => ?_) (fun c14 => ?_)
  · have k := k.2 c14
    refine jr_aload_n 0 dX12_look_19 rfl rfl ?_
    refine jr_iload_n 1 dX12_look_20 rfl rfl ?_
    refine jr_iload_n 2 dX12_look_21 rfl rfl ?_
    obtain ⟨fs16, e17, k⟩ := k
    refine jr_cVv (As := [.int x1, .int x2]) jl_X12_484 km_X12_laysFits rfl rfl dX12_look_22 e17 (Nat.le_of_ble_eq_true rfl) k (fun h15 k => ?_)
    refine jr_iconst (v := (-1)) dX12_look_25 (by decide) ?_
    refine jr_istore_n (lv' := [(3, .int (-1)), (0, .ref x0), (1, .int x1), (2, .int x2)]) dX12_look_26 rfl (by decide) rfl ?_
    refine jr_ldcw (v := 536870912) jk_X12_454 dX12_look_27 ?_
    refine jr_istore (lv' := [(4, .int 536870912), (3, .int (-1)), (0, .ref x0), (1, .int x1), (2, .int x2)]) dX12_look_30 (by decide) rfl ?_
    refine jr_iconst (v := 0) dX12_look_32 (by decide) ?_
    refine jr_istore (lv' := [(5, .int 0), (4, .int 536870912), (3, .int (-1)), (0, .ref x0), (1, .int x1), (2, .int x2)]) dX12_look_33 (by decide) rfl ?_
    exact jr_sub [3, 2, 1, 0] rfl k
  · have k := k.1 c14
    refine jr_iconst (v := 0) dX12_look_17 (by decide) ?_
    exact jr_iret (ty := .int) rfl rfl dX12_look_18 k
set_option maxRecDepth 20000 in
theorem bX12_look_35 {g : jG} {d : Nat} {hs : jH} {P : jO → jH → Prop} {x0 : Nat} {x3 : Int32} {x4 : Int32} {x5 : Int32} {h : jH} (k : ∃ fs3 : List Value, h.1 x0 = some (.inr (12, fs3)) ∧ Con g mX12_houses d [.ref x0] h (jPi (fun (r1 : Int32) (h2 : jH) => (x5 < r1 → ∃ fs5 : List Value, h2.1 x0 = some (.inr (12, fs5)) ∧ ∃ v8 : Int32, fs5[32]? = some (.int v8) ∧ (0 < v8 → ∃ fs11 : List Value, h2.1 x0 = some (.inr (12, fs11)) ∧ Con g mX12_mostLike d [.ref x0, .int x5] h2 (jPi (fun (r9 : Int32) (h10 : jH) => (r9 < x4 → J g mX12_look (d + 1) hs P 35 [(0, .ref x0), (3, .int x5), (4, .int r9), (5, .int (x5 + 1))] [] h10) ∧ (¬ r9 < x4 → J g mX12_look (d + 1) hs P 35 [(0, .ref x0), (3, .int x3), (4, .int x4), (5, .int (x5 + 1))] [] h10)) (fun E h' => P (.inr E) h'))) ∧ (¬ 0 < v8 → P (.inl (some (.int x3))) h2)) ∧ (¬ x5 < r1 → P (.inl (some (.int x3))) h2)) (fun E h' => P (.inr E) h'))) : J g mX12_look (d + 1) hs P 35 [(0, .ref x0), (3, .int x3), (4, .int x4), (5, .int x5)] [] h := by
  refine jr_iload 3 dX12_look_35 rfl ?_
  refine jr_aload_n 0 dX12_look_37 rfl rfl ?_
  obtain ⟨fs3, e4, k⟩ := k
  refine jr_cVi (As := []) jl_X12_249 km_X12_houses rfl rfl dX12_look_38 e4 (Nat.le_of_ble_eq_true rfl) k (fun r1 h2 k => ?_)
  refine jr_icmp_ge (tgt := 82) dX12_look_41 (by decide) (fun c41 => ?_) (fun c41 => ?_)
  · have k := k.2 c41
    refine jr_iload_n 1 dX12_look_82 rfl rfl ?_
    exact jr_iret (ty := .int) rfl rfl dX12_look_83 k
  · have k := k.1 c41
    refine jr_aload_n 0 dX12_look_44 rfl rfl ?_
    obtain ⟨fs5, e6, v8, e7, k⟩ := k
    refine jr_get jf_X12_475 dX12_look_45 e6 e7 ?_
    refine jr_if_le (tgt := 82) dX12_look_48 (by decide) (fun c48 => ?_) (fun c48 => ?_)
    · have k := k.2 c48
      refine jr_iload_n 1 dX12_look_82 rfl rfl ?_
      exact jr_iret (ty := .int) rfl rfl dX12_look_83 k
    · have k := k.1 c48
      refine jr_aload_n 0 dX12_look_51 rfl rfl ?_
      refine jr_iload 3 dX12_look_52 rfl ?_
      obtain ⟨fs11, e12, k⟩ := k
      refine jr_cVi (As := [.int x5]) jl_X12_487 km_X12_mostLike rfl rfl dX12_look_54 e12 (Nat.le_of_ble_eq_true rfl) k (fun r9 h10 k => ?_)
      refine jr_istore (lv' := [(6, .int r9), (0, .ref x0), (3, .int x3), (4, .int x4), (5, .int x5)]) dX12_look_57 (by decide) rfl ?_
      refine jr_iload 0 dX12_look_59 rfl ?_
      refine jr_iload 3 dX12_look_61 rfl ?_
      refine jr_icmp_lt (tgt := 69) dX12_look_63 (by decide) (fun c63 => ?_) (fun c63 => ?_)
      · have k := k.1 c63
        refine jr_iload 4 dX12_look_69 rfl ?_
        refine jr_istore_n (lv' := [(3, .int x5), (6, .int r9), (0, .ref x0), (4, .int x4), (5, .int x5)]) dX12_look_71 rfl (by decide) rfl ?_
        refine jr_iload 1 dX12_look_72 rfl ?_
        refine jr_istore (lv' := [(4, .int r9), (3, .int x5), (6, .int r9), (0, .ref x0), (5, .int x5)]) dX12_look_74 (by decide) rfl ?_
        refine jr_iinc (v := (x5 + 1)) (lv' := [(5, .int (x5 + 1)), (4, .int r9), (3, .int x5), (6, .int r9), (0, .ref x0)]) 4 dX12_look_76 rfl rfl (by decide) rfl ?_
        refine jr_goto (tgt := 35) dX12_look_79 (by decide) ?_
        exact jr_sub [4, 2, 1, 0] rfl k
      · have k := k.2 c63
        refine jr_goto (tgt := 76) dX12_look_66 (by decide) ?_
        refine jr_iinc (v := (x5 + 1)) (lv' := [(5, .int (x5 + 1)), (6, .int r9), (0, .ref x0), (3, .int x3), (4, .int x4)]) 4 dX12_look_76 rfl rfl (by decide) rfl ?_
        refine jr_goto (tgt := 35) dX12_look_79 (by decide) ?_
        exact jr_sub [2, 3, 4, 0] rfl k
set_option maxRecDepth 20000 in
theorem bX12_isTray_0 {g : jG} {d : Nat} {hs : jH} {P : jO → jH → Prop} {x0 : Int32} {h : jH} (k : Con g mX12_within d [.long x0.toInt64, .long 0, .long 3] h (jPi (fun (r1 : Int32) (h2 : jH) => (r1 = 0 ∨ r1 = 1) ∧ P (.inl (some (.int r1))) h2) (fun E h' => P (.inr E) h'))) : J g mX12_isTray (d + 1) hs P 0 [(0, .int x0)] [] h := by
  refine jr_iload_n 0 dX12_isTray_0 rfl rfl ?_
  refine jr_i2l dX12_isTray_1 ?_
  refine jr_lconst (v := 0) dX12_isTray_2 (by decide) ?_
  refine jr_ldc2 (v := 3) jk_X12_319 dX12_isTray_3 ?_
  refine jr_cSi (As := [.long x0.toInt64, .long 0, .long 3]) jl_X12_128 km_X12_within rfl rfl dX12_isTray_6 (Nat.le_of_ble_eq_true rfl) k (fun r1 h2 k => ?_)
  exact jr_iret (ty := .boolean) rfl (jz_n k.1) dX12_isTray_9 k.2
set_option maxRecDepth 20000 in
theorem bX12_tray_0 {g : jG} {d : Nat} {hs : jH} {P : jO → jH → Prop} {x0 : Nat} {x1 : Int32} {x2 : Int32} {x3 : Int32} {h : jH} (k : Con g mX12_isTray d [.int x1] h (jPi (fun (r1 : Int32) (h2 : jH) => (r1 = 0 → J g mX12_tray (d + 1) hs P 41 [(0, .ref x0), (1, .int x1), (2, .int x2), (3, .int x3)] [.int 1, .ref x0] h2) ∧ (¬ r1 = 0 → Con g mX12_within d [.long x2.toInt64, .long 0, .long 3] h2 (jPi (fun (r3 : Int32) (h4 : jH) => (r3 = 0 → J g mX12_tray (d + 1) hs P 36 [(0, .ref x0), (1, .int x1), (2, .int x2), (3, .int x3)] [.ref x0] h4) ∧ (¬ r3 = 0 → Con g mX12_within d [.long x3.toInt64, .long 0, .long 30] h4 (jPi (fun (r5 : Int32) (h6 : jH) => (r5 = 0 → J g mX12_tray (d + 1) hs P 36 [(0, .ref x0), (1, .int x1), (2, .int x2), (3, .int x3)] [.ref x0] h6) ∧ (¬ r5 = 0 → J g mX12_tray (d + 1) hs P 41 [(0, .ref x0), (1, .int x1), (2, .int x2), (3, .int x3)] [.int 0, .ref x0] h6)) (fun E h' => P (.inr E) h')))) (fun E h' => P (.inr E) h')))) (fun E h' => P (.inr E) h'))) : J g mX12_tray (d + 1) hs P 0 [(0, .ref x0), (1, .int x1), (2, .int x2), (3, .int x3)] [] h := by
  refine jr_aload_n 0 dX12_tray_0 rfl rfl ?_
  refine jr_iload_n 1 dX12_tray_1 rfl rfl ?_
  refine jr_cSi (As := [.int x1]) jl_X12_360 km_X12_isTray rfl rfl dX12_tray_2 (Nat.le_of_ble_eq_true rfl) k (fun r1 h2 k => ?_)
  refine jr_if_ne (tgt := 12) dX12_tray_5 (by decide) (fun c5 => ?_) (fun c5 => ?_)
  · have k := k.2 c5
    refine jr_iload_n 2 dX12_tray_12 rfl rfl ?_
    refine jr_i2l dX12_tray_13 ?_
    refine jr_lconst (v := 0) dX12_tray_14 (by decide) ?_
    refine jr_ldc2 (v := 3) jk_X12_319 dX12_tray_15 ?_
    refine jr_cSi (As := [.long x2.toInt64, .long 0, .long 3]) jl_X12_128 km_X12_within rfl rfl dX12_tray_18 (Nat.le_of_ble_eq_true rfl) k (fun r3 h4 k => ?_)
    refine jr_if_eq (tgt := 36) dX12_tray_21 (by decide) (fun c21 => ?_) (fun c21 => ?_)
    · have k := k.1 c21
      exact jr_sub [0, 1, 2, 3] rfl k
    · have k := k.2 c21
      refine jr_iload_n 3 dX12_tray_24 rfl rfl ?_
      refine jr_i2l dX12_tray_25 ?_
      refine jr_lconst (v := 0) dX12_tray_26 (by decide) ?_
      refine jr_ldc2 (v := 30) jk_X12_399 dX12_tray_27 ?_
      refine jr_cSi (As := [.long x3.toInt64, .long 0, .long 30]) jl_X12_128 km_X12_within rfl rfl dX12_tray_30 (Nat.le_of_ble_eq_true rfl) k (fun r5 h6 k => ?_)
      refine jr_if_ne (tgt := 40) dX12_tray_33 (by decide) (fun c33 => ?_) (fun c33 => ?_)
      · have k := k.2 c33
        refine jr_iconst (v := 0) dX12_tray_40 (by decide) ?_
        exact jr_sub [0, 1, 2, 3] rfl k
      · have k := k.1 c33
        exact jr_sub [0, 1, 2, 3] rfl k
  · have k := k.1 c5
    refine jr_iconst (v := 1) dX12_tray_8 (by decide) ?_
    refine jr_goto (tgt := 41) dX12_tray_9 (by decide) ?_
    exact jr_sub [0, 1, 2, 3] rfl k
set_option maxRecDepth 20000 in
theorem bX12_tray_36 {g : jG} {d : Nat} {hs : jH} {P : jO → jH → Prop} {x0 : Nat} {x1 : Int32} {x2 : Int32} {x3 : Int32} {s0 : Nat} {h : jH} (k : J g mX12_tray (d + 1) hs P 41 [(0, .ref x0), (1, .int x1), (2, .int x2), (3, .int x3)] [.int 2, .ref s0] h) : J g mX12_tray (d + 1) hs P 36 [(0, .ref x0), (1, .int x1), (2, .int x2), (3, .int x3)] [.ref s0] h := by
  refine jr_iconst (v := 2) dX12_tray_36 (by decide) ?_
  refine jr_goto (tgt := 41) dX12_tray_37 (by decide) ?_
  exact jr_sub [0, 1, 2, 3] rfl k
set_option maxRecDepth 20000 in
theorem bX12_tray_41 {g : jG} {d : Nat} {hs : jH} {P : jO → jH → Prop} {x0 : Nat} {x1 : Int32} {x2 : Int32} {x3 : Int32} {s0 : Nat} {s1 : Int32} {h : jH} (k : ∃ fs1 : List Value, h.1 s0 = some (.inr (12, fs1)) ∧ 4 < fs1.length ∧ (∀ h4 : jH, h4 = jset h s0 (.inr (12, fs1.set 4 (.int s1))) → ∃ fs6 : List Value, h4.1 x0 = some (.inr (12, fs6)) ∧ ∃ v9 : Int32, fs6[4]? = some (.int v9) ∧ (0 < v9 → P (.inl none) h4) ∧ (¬ 0 < v9 → ∃ fs10 : List Value, h4.1 x0 = some (.inr (12, fs10)) ∧ ∃ v13 : Nat, fs10[35]? = some (.ref v13) ∧ ∃ (n14 : Nat) (f15 : Nat → Int32), h4.1 v13 = some (.inl (0, (n14, .inl f15))) ∧ vp_in x1 n14 ∧ ∀ h18 : jH, h18 = jset h4 v13 (.inl (0, (n14, .inl (upd f15 x1.toNatClampNeg x2)))) → ∃ fs20 : List Value, h18.1 x0 = some (.inr (12, fs20)) ∧ ∃ v23 : Nat, fs20[36]? = some (.ref v23) ∧ ∃ (n24 : Nat) (f25 : Nat → Int32), h18.1 v23 = some (.inl (0, (n24, .inl f25))) ∧ vp_in x1 n24 ∧ ∀ h28 : jH, h28 = jset h18 v23 (.inl (0, (n24, .inl (upd f25 x1.toNatClampNeg x3)))) → J g mX12_tray (d + 1) hs P 69 [(0, .ref x0), (1, .int x1), (4, .int 0)] [] h28))) : J g mX12_tray (d + 1) hs P 41 [(0, .ref x0), (1, .int x1), (2, .int x2), (3, .int x3)] [.int s1, .ref s0] h := by
  obtain ⟨fs1, e2, e3, k⟩ := k
  refine jr_putE jp_X12_67 dX12_tray_41 e2 e3 rfl rfl (fun h4 eh5 => ?_)
  have k := k h4 eh5
  refine jr_aload_n 0 dX12_tray_44 rfl rfl ?_
  obtain ⟨fs6, e7, v9, e8, k⟩ := k
  refine jr_get jf_X12_67 dX12_tray_45 e7 e8 ?_
  refine jr_if_le (tgt := 52) dX12_tray_48 (by decide) (fun c48 => ?_) (fun c48 => ?_)
  · have k := k.2 c48
    refine jr_aload_n 0 dX12_tray_52 rfl rfl ?_
    obtain ⟨fs10, e11, v13, e12, k⟩ := k
    refine jr_get jf_X12_57 dX12_tray_53 e11 e12 ?_
    refine jr_iload_n 1 dX12_tray_56 rfl rfl ?_
    refine jr_iload_n 2 dX12_tray_57 rfl rfl ?_
    obtain ⟨n14, f15, e16, e17, k⟩ := k
    refine jr_iastE dX12_tray_58 e16 e17 (fun h18 eh19 => ?_)
    have k := k h18 eh19
    refine jr_aload_n 0 dX12_tray_59 rfl rfl ?_
    obtain ⟨fs20, e21, v23, e22, k⟩ := k
    refine jr_get jf_X12_60 dX12_tray_60 e21 e22 ?_
    refine jr_iload_n 1 dX12_tray_63 rfl rfl ?_
    refine jr_iload_n 3 dX12_tray_64 rfl rfl ?_
    obtain ⟨n24, f25, e26, e27, k⟩ := k
    refine jr_iastE dX12_tray_65 e26 e27 (fun h28 eh29 => ?_)
    have k := k h28 eh29
    refine jr_iconst (v := 0) dX12_tray_66 (by decide) ?_
    refine jr_istore (lv' := [(4, .int 0), (0, .ref x0), (1, .int x1), (2, .int x2), (3, .int x3)]) dX12_tray_67 (by decide) rfl ?_
    exact jr_sub [1, 2, 0] rfl k
  · have k := k.1 c48
    exact jr_vret rfl dX12_tray_51 k
set_option maxRecDepth 20000 in
theorem bX12_tray_69 {g : jG} {d : Nat} {hs : jH} {P : jO → jH → Prop} {x0 : Nat} {x1 : Int32} {x4 : Int32} {h : jH} (k : (x4 < 30 → ∃ fs1 : List Value, h.1 x0 = some (.inr (12, fs1)) ∧ ∃ v4 : Nat, fs1[37]? = some (.ref v4) ∧ ∃ (n5 : Nat) (f6 : Nat → Int64), h.1 v4 = some (.inl (3, (n5, .inr (.inl f6)))) ∧ vp_in ((30 * x1) + x4) n5 ∧ ∀ h9 : jH, h9 = jset h v4 (.inl (3, (n5, .inr (.inl (vp_updL f6 (((30 * x1) + x4)).toNatClampNeg 0))))) → J g mX12_tray (d + 1) hs P 69 [(0, .ref x0), (1, .int x1), (4, .int (x4 + 1))] [] h9) ∧ (¬ x4 < 30 → P (.inl none) h)) : J g mX12_tray (d + 1) hs P 69 [(0, .ref x0), (1, .int x1), (4, .int x4)] [] h := by
  refine jr_iload 2 dX12_tray_69 rfl ?_
  refine jr_bipush (v := 30) dX12_tray_71 (by decide) ?_
  refine jr_icmp_ge (tgt := 95) dX12_tray_73 (by decide) (fun c73 => ?_) (fun c73 => ?_)
  · have k := k.2 c73
    exact jr_vret rfl dX12_tray_95 k
  · have k := k.1 c73
    refine jr_aload_n 0 dX12_tray_76 rfl rfl ?_
    obtain ⟨fs1, e2, v4, e3, k⟩ := k
    refine jr_get jf_X12_63 dX12_tray_77 e2 e3 ?_
    refine jr_bipush (v := 30) dX12_tray_80 (by decide) ?_
    refine jr_iload_n 1 dX12_tray_82 rfl rfl ?_
    refine jr_imul dX12_tray_83 ?_
    refine jr_iload 2 dX12_tray_84 rfl ?_
    refine jr_iadd dX12_tray_86 ?_
    refine jr_lconst (v := 0) dX12_tray_87 (by decide) ?_
    obtain ⟨n5, f6, e7, e8, k⟩ := k
    refine jr_lastE dX12_tray_88 e7 e8 (fun h9 eh10 => ?_)
    have k := k h9 eh10
    refine jr_iinc (v := (x4 + 1)) (lv' := [(4, .int (x4 + 1)), (0, .ref x0), (1, .int x1)]) 2 dX12_tray_89 rfl rfl (by decide) rfl ?_
    refine jr_goto (tgt := 69) dX12_tray_92 (by decide) ?_
    exact jr_sub [1, 2, 0] rfl k
set_option maxRecDepth 20000 in
theorem bX12_cut_0 {g : jG} {d : Nat} {hs : jH} {P : jO → jH → Prop} {x0 : Nat} {x1 : Int32} {x2 : Int32} {x3 : Int64} {h : jH} (k : ∃ fs1 : List Value, h.1 x0 = some (.inr (12, fs1)) ∧ ∃ v4 : Nat, fs1[35]? = some (.ref v4) ∧ ∃ (n5 : Nat) (f6 : Nat → Int32), h.1 v4 = some (.inl (0, (n5, .inl f6))) ∧ vp_in x1 n5 ∧ ∃ fs9 : List Value, h.1 x0 = some (.inr (12, fs9)) ∧ ∃ v12 : Nat, fs9[37]? = some (.ref v12) ∧ ∃ (n13 : Nat) (f14 : Nat → Int64), h.1 v12 = some (.inl (3, (n13, .inr (.inl f14)))) ∧ vp_in ((30 * x1) + x2) n13 ∧ ∀ h17 : jH, h17 = jset h v12 (.inl (3, (n13, .inr (.inl (vp_updL f14 (((30 * x1) + x2)).toNatClampNeg (((((x3) <<< (((64 - ((8 : Int32) <<< ((f6 x1.toNatClampNeg) &&& 31))) : Int32).toInt64 &&& 63))) >>> (((64 - ((8 : Int32) <<< ((f6 x1.toNatClampNeg) &&& 31))) : Int32).toInt64 &&& 63)))))))) → ∃ fs19 : List Value, h17.1 x0 = some (.inr (12, fs19)) ∧ ∃ v22 : Nat, fs19[37]? = some (.ref v22) ∧ ∃ (n23 : Nat) (f24 : Nat → Int64), h17.1 v22 = some (.inl (3, (n23, .inr (.inl f24)))) ∧ vp_in ((30 * x1) + x2) n23 ∧ P (.inl (some (.long ((f24 (((30 * x1) + x2)).toNatClampNeg))))) h17) : J g mX12_cut (d + 1) hs P 0 [(0, .ref x0), (1, .int x1), (2, .int x2), (3, .long x3)] [] h := by
  refine jr_bipush (v := 64) dX12_cut_0 (by decide) ?_
  refine jr_bipush (v := 8) dX12_cut_2 (by decide) ?_
  refine jr_aload_n 0 dX12_cut_4 rfl rfl ?_
  obtain ⟨fs1, e2, v4, e3, k⟩ := k
  refine jr_get jf_X12_57 dX12_cut_5 e2 e3 ?_
  refine jr_iload_n 1 dX12_cut_8 rfl rfl ?_
  obtain ⟨n5, f6, e7, e8, k⟩ := k
  refine jr_iald dX12_cut_9 e7 e8 ?_
  refine jr_ishl dX12_cut_10 ?_
  refine jr_isub dX12_cut_11 ?_
  refine jr_istore (lv' := [(5, .int (64 - ((8 : Int32) <<< ((f6 x1.toNatClampNeg) &&& 31)))), (0, .ref x0), (1, .int x1), (2, .int x2), (3, .long x3)]) dX12_cut_12 (by decide) rfl ?_
  refine jr_aload_n 1 dX12_cut_14 rfl rfl ?_
  obtain ⟨fs9, e10, v12, e11, k⟩ := k
  refine jr_get jf_X12_63 dX12_cut_15 e10 e11 ?_
  refine jr_bipush (v := 30) dX12_cut_18 (by decide) ?_
  refine jr_iload_n 2 dX12_cut_20 rfl rfl ?_
  refine jr_imul dX12_cut_21 ?_
  refine jr_iload_n 3 dX12_cut_22 rfl rfl ?_
  refine jr_iadd dX12_cut_23 ?_
  refine jr_lload_n 4 dX12_cut_24 rfl rfl ?_
  refine jr_iload 0 dX12_cut_25 rfl ?_
  refine jr_lshl dX12_cut_27 ?_
  refine jr_iload 0 dX12_cut_28 rfl ?_
  refine jr_lshr dX12_cut_30 ?_
  obtain ⟨n13, f14, e15, e16, k⟩ := k
  refine jr_lastE dX12_cut_31 e15 e16 (fun h17 eh18 => ?_)
  have k := k h17 eh18
  refine jr_aload_n 1 dX12_cut_32 rfl rfl ?_
  obtain ⟨fs19, e20, v22, e21, k⟩ := k
  refine jr_get jf_X12_63 dX12_cut_33 e20 e21 ?_
  refine jr_bipush (v := 30) dX12_cut_36 (by decide) ?_
  refine jr_iload_n 2 dX12_cut_38 rfl rfl ?_
  refine jr_imul dX12_cut_39 ?_
  refine jr_iload_n 3 dX12_cut_40 rfl rfl ?_
  refine jr_iadd dX12_cut_41 ?_
  obtain ⟨n23, f24, e25, e26, k⟩ := k
  refine jr_lald dX12_cut_42 e25 e26 ?_
  exact jr_lret rfl dX12_cut_43 k
set_option maxRecDepth 20000 in
theorem bX12_write_0 {g : jG} {d : Nat} {hs : jH} {P : jO → jH → Prop} {x0 : Nat} {x1 : Int32} {x2 : Int32} {x3 : Int64} {h : jH} (k : ∃ fs3 : List Value, h.1 x0 = some (.inr (12, fs3)) ∧ Con g mX12_trayFault d [.ref x0, .int x1] h (jPi (fun (r1 : Int32) (h2 : jH) => ∃ fs5 : List Value, h2.1 x0 = some (.inr (12, fs5)) ∧ 4 < fs5.length ∧ (∀ h8 : jH, h8 = jset h2 x0 (.inr (12, fs5.set 4 (.int r1))) → ∃ fs10 : List Value, h8.1 x0 = some (.inr (12, fs10)) ∧ ∃ v13 : Int32, fs10[4]? = some (.int v13) ∧ (0 < v13 → P (.inl (some (.long 0))) h8) ∧ (¬ 0 < v13 → ∃ fs14 : List Value, h8.1 x0 = some (.inr (12, fs14)) ∧ ∃ v17 : Nat, fs14[36]? = some (.ref v17) ∧ ∃ (n18 : Nat) (f19 : Nat → Int32), h8.1 v17 = some (.inl (0, (n18, .inl f19))) ∧ vp_in x1 n18 ∧ Con g mX12_within d [.long x2.toInt64, .long 0, .long (((f19 x1.toNatClampNeg) - 1)).toInt64] h8 (jPi (fun (r22 : Int32) (h23 : jH) => (r22 = 0 → ∃ fs26 : List Value, h23.1 x0 = some (.inr (12, fs26)) ∧ Con g mX12_fails d [.ref x0, .int 3] h23 (jPi (fun (r24 : Int32) (h25 : jH) => P (.inl (some (.long r24.toInt64))) h25) (fun E h' => P (.inr E) h'))) ∧ (¬ r22 = 0 → ∃ fs30 : List Value, h23.1 x0 = some (.inr (12, fs30)) ∧ Con g mX12_cut d [.ref x0, .int x1, .int x2, .long x3] h23 (jPl (fun (r28 : Int64) (h29 : jH) => P (.inl (some (.long r28))) h29) (fun E h' => P (.inr E) h')))) (fun E h' => P (.inr E) h'))))) (fun E h' => P (.inr E) h'))) : J g mX12_write (d + 1) hs P 0 [(0, .ref x0), (1, .int x1), (2, .int x2), (3, .long x3)] [] h := by
  refine jr_aload_n 0 dX12_write_0 rfl rfl ?_
  refine jr_aload_n 0 dX12_write_1 rfl rfl ?_
  refine jr_iload_n 1 dX12_write_2 rfl rfl ?_
  obtain ⟨fs3, e4, k⟩ := k
  refine jr_cVi (As := [.int x1]) jl_X12_377 km_X12_trayFault rfl rfl dX12_write_3 e4 (Nat.le_of_ble_eq_true rfl) k (fun r1 h2 k => ?_)
  obtain ⟨fs5, e6, e7, k⟩ := k
  refine jr_putE jp_X12_67 dX12_write_6 e6 e7 rfl rfl (fun h8 eh9 => ?_)
  have k := k h8 eh9
  refine jr_aload_n 0 dX12_write_9 rfl rfl ?_
  obtain ⟨fs10, e11, v13, e12, k⟩ := k
  refine jr_get jf_X12_67 dX12_write_10 e11 e12 ?_
  refine jr_if_le (tgt := 18) dX12_write_13 (by decide) (fun c13 => ?_) (fun c13 => ?_)
  · have k := k.2 c13
    refine jr_iload_n 2 dX12_write_18 rfl rfl ?_
    refine jr_i2l dX12_write_19 ?_
    refine jr_lconst (v := 0) dX12_write_20 (by decide) ?_
    refine jr_aload_n 0 dX12_write_21 rfl rfl ?_
    obtain ⟨fs14, e15, v17, e16, k⟩ := k
    refine jr_get jf_X12_60 dX12_write_22 e15 e16 ?_
    refine jr_iload_n 1 dX12_write_25 rfl rfl ?_
    obtain ⟨n18, f19, e20, e21, k⟩ := k
    refine jr_iald dX12_write_26 e20 e21 ?_
    refine jr_iconst (v := 1) dX12_write_27 (by decide) ?_
    refine jr_isub dX12_write_28 ?_
    refine jr_i2l dX12_write_29 ?_
    refine jr_cSi (As := [.long x2.toInt64, .long 0, .long (((f19 x1.toNatClampNeg) - 1)).toInt64]) jl_X12_128 km_X12_within rfl rfl dX12_write_30 (Nat.le_of_ble_eq_true rfl) k (fun r22 h23 k => ?_)
    refine jr_if_eq (tgt := 46) dX12_write_33 (by decide) (fun c33 => ?_) (fun c33 => ?_)
    · have k := k.1 c33
      refine jr_aload_n 0 dX12_write_46 rfl rfl ?_
      refine jr_iconst (v := 3) dX12_write_47 (by decide) ?_
      obtain ⟨fs26, e27, k⟩ := k
      refine jr_cVi (As := [.int 3]) jl_X12_234 km_X12_fails rfl rfl dX12_write_48 e27 (Nat.le_of_ble_eq_true rfl) k (fun r24 h25 k => ?_)
      refine jr_i2l dX12_write_51 ?_
      exact jr_lret rfl dX12_write_52 k
    · have k := k.2 c33
      refine jr_aload_n 0 dX12_write_36 rfl rfl ?_
      refine jr_iload_n 1 dX12_write_37 rfl rfl ?_
      refine jr_iload_n 2 dX12_write_38 rfl rfl ?_
      refine jr_lload_n 3 dX12_write_39 rfl rfl ?_
      obtain ⟨fs30, e31, k⟩ := k
      refine jr_cVl (As := [.int x1, .int x2, .long x3]) jl_X12_490 km_X12_cut rfl rfl dX12_write_40 e31 (Nat.le_of_ble_eq_true rfl) k (fun r28 h29 k => ?_)
      refine jr_goto (tgt := 52) dX12_write_43 (by decide) ?_
      exact jr_lret rfl dX12_write_52 k
  · have k := k.1 c13
    refine jr_lconst (v := 0) dX12_write_16 (by decide) ?_
    exact jr_lret rfl dX12_write_17 k
set_option maxRecDepth 20000 in
theorem bX12_copy_0 {g : jG} {d : Nat} {hs : jH} {P : jO → jH → Prop} {x0 : Nat} {x1 : Int32} {x2 : Int32} {h : jH} (k : Con g mX12_isTray d [.int x1] h (jPi (fun (r1 : Int32) (h2 : jH) => (r1 = 0 → J g mX12_copy (d + 1) hs P 17 [(0, .ref x0), (1, .int x1), (2, .int x2)] [.ref x0] h2) ∧ (¬ r1 = 0 → ∃ fs5 : List Value, h2.1 x0 = some (.inr (12, fs5)) ∧ Con g mX12_isHouse d [.ref x0, .long x2.toInt64] h2 (jPi (fun (r3 : Int32) (h4 : jH) => (r3 = 0 → J g mX12_copy (d + 1) hs P 17 [(0, .ref x0), (1, .int x1), (2, .int x2)] [.ref x0] h4) ∧ (¬ r3 = 0 → ∃ fs7 : List Value, h4.1 x0 = some (.inr (12, fs7)) ∧ ∃ v10 : Nat, fs7[35]? = some (.ref v10) ∧ ∃ (n11 : Nat) (f12 : Nat → Int32), h4.1 v10 = some (.inl (0, (n11, .inl f12))) ∧ vp_in x1 n11 ∧ ((f12 x1.toNatClampNeg) = (-1) → J g mX12_copy (d + 1) hs P 36 [(0, .ref x0), (1, .int x1), (2, .int x2)] [.int 2, .ref x0] h4) ∧ (¬ (f12 x1.toNatClampNeg) = (-1) → J g mX12_copy (d + 1) hs P 36 [(0, .ref x0), (1, .int x1), (2, .int x2)] [.int 0, .ref x0] h4))) (fun E h' => P (.inr E) h')))) (fun E h' => P (.inr E) h'))) : J g mX12_copy (d + 1) hs P 0 [(0, .ref x0), (1, .int x1), (2, .int x2)] [] h := by
  refine jr_aload_n 0 dX12_copy_0 rfl rfl ?_
  refine jr_iload_n 1 dX12_copy_1 rfl rfl ?_
  refine jr_cSi (As := [.int x1]) jl_X12_360 km_X12_isTray rfl rfl dX12_copy_2 (Nat.le_of_ble_eq_true rfl) k (fun r1 h2 k => ?_)
  refine jr_if_eq (tgt := 17) dX12_copy_5 (by decide) (fun c5 => ?_) (fun c5 => ?_)
  · have k := k.1 c5
    exact jr_sub [0, 1, 2] rfl k
  · have k := k.2 c5
    refine jr_aload_n 0 dX12_copy_8 rfl rfl ?_
    refine jr_iload_n 2 dX12_copy_9 rfl rfl ?_
    refine jr_i2l dX12_copy_10 ?_
    obtain ⟨fs5, e6, k⟩ := k
    refine jr_cVi (As := [.long x2.toInt64]) jl_X12_313 km_X12_isHouse rfl rfl dX12_copy_11 e6 (Nat.le_of_ble_eq_true rfl) k (fun r3 h4 k => ?_)
    refine jr_if_ne (tgt := 21) dX12_copy_14 (by decide) (fun c14 => ?_) (fun c14 => ?_)
    · have k := k.2 c14
      refine jr_aload_n 0 dX12_copy_21 rfl rfl ?_
      obtain ⟨fs7, e8, v10, e9, k⟩ := k
      refine jr_get jf_X12_57 dX12_copy_22 e8 e9 ?_
      refine jr_iload_n 1 dX12_copy_25 rfl rfl ?_
      obtain ⟨n11, f12, e13, e14, k⟩ := k
      refine jr_iald dX12_copy_26 e13 e14 ?_
      refine jr_iconst (v := (-1)) dX12_copy_27 (by decide) ?_
      refine jr_icmp_ne (tgt := 35) dX12_copy_28 (by decide) (fun c28 => ?_) (fun c28 => ?_)
      · have k := k.2 c28
        refine jr_iconst (v := 0) dX12_copy_35 (by decide) ?_
        exact jr_sub [0, 1, 2] rfl k
      · have k := k.1 c28
        refine jr_iconst (v := 2) dX12_copy_31 (by decide) ?_
        refine jr_goto (tgt := 36) dX12_copy_32 (by decide) ?_
        exact jr_sub [0, 1, 2] rfl k
    · have k := k.1 c14
      exact jr_sub [0, 1, 2] rfl k
set_option maxRecDepth 20000 in
theorem bX12_copy_17 {g : jG} {d : Nat} {hs : jH} {P : jO → jH → Prop} {x0 : Nat} {x1 : Int32} {x2 : Int32} {s0 : Nat} {h : jH} (k : J g mX12_copy (d + 1) hs P 36 [(0, .ref x0), (1, .int x1), (2, .int x2)] [.int 1, .ref s0] h) : J g mX12_copy (d + 1) hs P 17 [(0, .ref x0), (1, .int x1), (2, .int x2)] [.ref s0] h := by
  refine jr_iconst (v := 1) dX12_copy_17 (by decide) ?_
  refine jr_goto (tgt := 36) dX12_copy_18 (by decide) ?_
  exact jr_sub [0, 1, 2] rfl k
set_option maxRecDepth 20000 in
theorem bX12_copy_36 {g : jG} {d : Nat} {hs : jH} {P : jO → jH → Prop} {x0 : Nat} {x1 : Int32} {x2 : Int32} {s0 : Nat} {s1 : Int32} {h : jH} (k : ∃ fs1 : List Value, h.1 s0 = some (.inr (12, fs1)) ∧ 4 < fs1.length ∧ (∀ h4 : jH, h4 = jset h s0 (.inr (12, fs1.set 4 (.int s1))) → ∃ fs6 : List Value, h4.1 x0 = some (.inr (12, fs6)) ∧ ∃ v9 : Int32, fs6[4]? = some (.int v9) ∧ (0 < v9 → P (.inl (some (.int 0))) h4) ∧ (¬ 0 < v9 → ∃ fs12 : List Value, h4.1 x0 = some (.inr (12, fs12)) ∧ Con g mX12_putsAside d [.ref x0] h4 (jPv (fun (h11 : jH) => J g mX12_copy (d + 1) hs P 54 [(0, .ref x0), (1, .int x1), (2, .int x2), (3, .int 0)] [] h11) (fun E h' => P (.inr E) h'))))) : J g mX12_copy (d + 1) hs P 36 [(0, .ref x0), (1, .int x1), (2, .int x2)] [.int s1, .ref s0] h := by
  obtain ⟨fs1, e2, e3, k⟩ := k
  refine jr_putE jp_X12_67 dX12_copy_36 e2 e3 rfl rfl (fun h4 eh5 => ?_)
  have k := k h4 eh5
  refine jr_aload_n 0 dX12_copy_39 rfl rfl ?_
  obtain ⟨fs6, e7, v9, e8, k⟩ := k
  refine jr_get jf_X12_67 dX12_copy_40 e7 e8 ?_
  refine jr_if_le (tgt := 48) dX12_copy_43 (by decide) (fun c43 => ?_) (fun c43 => ?_)
  · have k := k.2 c43
    refine jr_aload_n 0 dX12_copy_48 rfl rfl ?_
    obtain ⟨fs12, e13, k⟩ := k
    refine jr_cVv (As := []) jl_X12_380 km_X12_putsAside rfl rfl dX12_copy_49 e13 (Nat.le_of_ble_eq_true rfl) k (fun h11 k => ?_)
    refine jr_iconst (v := 0) dX12_copy_52 (by decide) ?_
    refine jr_istore_n (lv' := [(3, .int 0), (0, .ref x0), (1, .int x1), (2, .int x2)]) dX12_copy_53 rfl (by decide) rfl ?_
    exact jr_sub [1, 2, 3, 0] rfl k
  · have k := k.1 c43
    refine jr_iconst (v := 0) dX12_copy_46 (by decide) ?_
    exact jr_iret (ty := .int) rfl rfl dX12_copy_47 k
set_option maxRecDepth 20000 in
theorem bX12_copy_54 {g : jG} {d : Nat} {hs : jH} {P : jO → jH → Prop} {x0 : Nat} {x1 : Int32} {x2 : Int32} {x3 : Int32} {h : jH} (k : ∃ fs1 : List Value, h.1 x0 = some (.inr (12, fs1)) ∧ ∃ v4 : Nat, fs1[36]? = some (.ref v4) ∧ ∃ (n5 : Nat) (f6 : Nat → Int32), h.1 v4 = some (.inl (0, (n5, .inl f6))) ∧ vp_in x1 n5 ∧ (x3 < (f6 x1.toNatClampNeg) → ∃ fs23 : List Value, h.1 x0 = some (.inr (12, fs23)) ∧ Con g mX12_quarter d [.ref x0] h (jPv (fun (h22 : jH) => ∃ fs25 : List Value, h22.1 x0 = some (.inr (12, fs25)) ∧ ∃ v28 : Nat, fs25[21]? = some (.ref v28) ∧ ∃ (n29 : Nat) (f30 : Nat → Int32), h22.1 v28 = some (.inl (0, (n29, .inl f30))) ∧ vp_in x2 n29 ∧ ∃ fs35 : List Value, h22.1 x0 = some (.inr (12, fs35)) ∧ Con g mX12_cut d [.ref x0, .int x1, .int x3, .long ((f30 x2.toNatClampNeg)).toInt64] h22 (jPl (fun (r33 : Int64) (h34 : jH) => J g mX12_copy (d + 1) hs P 54 [(0, .ref x0), (1, .int x1), (2, .int x2), (3, .int (x3 + 1))] [] h34) (fun E h' => P (.inr E) h'))) (fun E h' => P (.inr E) h'))) ∧ (¬ x3 < (f6 x1.toNatClampNeg) → ∃ fs11 : List Value, h.1 x0 = some (.inr (12, fs11)) ∧ Con g mX12_putsBack d [.ref x0] h (jPv (fun (h10 : jH) => ∃ fs13 : List Value, h10.1 x0 = some (.inr (12, fs13)) ∧ ∃ v16 : Nat, fs13[36]? = some (.ref v16) ∧ ∃ (n17 : Nat) (f18 : Nat → Int32), h10.1 v16 = some (.inl (0, (n17, .inl f18))) ∧ vp_in x1 n17 ∧ P (.inl (some (.int ((f18 x1.toNatClampNeg))))) h10) (fun E h' => P (.inr E) h')))) : J g mX12_copy (d + 1) hs P 54 [(0, .ref x0), (1, .int x1), (2, .int x2), (3, .int x3)] [] h := by
  refine jr_iload_n 3 dX12_copy_54 rfl rfl ?_
  refine jr_aload_n 0 dX12_copy_55 rfl rfl ?_
  obtain ⟨fs1, e2, v4, e3, k⟩ := k
  refine jr_get jf_X12_60 dX12_copy_56 e2 e3 ?_
  refine jr_iload_n 1 dX12_copy_59 rfl rfl ?_
  obtain ⟨n5, f6, e7, e8, k⟩ := k
  refine jr_iald dX12_copy_60 e7 e8 ?_
  refine jr_icmp_ge (tgt := 88) dX12_copy_61 (by decide) (fun c61 => ?_) (fun c61 => ?_)
  · have k := k.2 c61
    refine jr_aload_n 0 dX12_copy_88 rfl rfl ?_
    obtain ⟨fs11, e12, k⟩ := k
    refine jr_cVv (As := []) jl_X12_392 km_X12_putsBack rfl rfl dX12_copy_89 e12 (Nat.le_of_ble_eq_true rfl) k (fun h10 k => ?_)
    refine jr_aload_n 0 dX12_copy_92 rfl rfl ?_
    obtain ⟨fs13, e14, v16, e15, k⟩ := k
    refine jr_get jf_X12_60 dX12_copy_93 e14 e15 ?_
    refine jr_iload_n 1 dX12_copy_96 rfl rfl ?_
    obtain ⟨n17, f18, e19, e20, k⟩ := k
    refine jr_iald dX12_copy_97 e19 e20 ?_
    exact jr_iret (ty := .int) rfl rfl dX12_copy_98 k
  · have k := k.1 c61
    refine jr_aload_n 0 dX12_copy_64 rfl rfl ?_
    obtain ⟨fs23, e24, k⟩ := k
    refine jr_cVv (As := []) jl_X12_356 km_X12_quarter rfl rfl dX12_copy_65 e24 (Nat.le_of_ble_eq_true rfl) k (fun h22 k => ?_)
    refine jr_aload_n 0 dX12_copy_68 rfl rfl ?_
    refine jr_iload_n 1 dX12_copy_69 rfl rfl ?_
    refine jr_iload_n 3 dX12_copy_70 rfl rfl ?_
    refine jr_aload_n 0 dX12_copy_71 rfl rfl ?_
    obtain ⟨fs25, e26, v28, e27, k⟩ := k
    refine jr_get jf_X12_36 dX12_copy_72 e26 e27 ?_
    refine jr_iload_n 2 dX12_copy_75 rfl rfl ?_
    obtain ⟨n29, f30, e31, e32, k⟩ := k
    refine jr_iald dX12_copy_76 e31 e32 ?_
    refine jr_i2l dX12_copy_77 ?_
    obtain ⟨fs35, e36, k⟩ := k
    refine jr_cVl (As := [.int x1, .int x3, .long ((f30 x2.toNatClampNeg)).toInt64]) jl_X12_490 km_X12_cut rfl rfl dX12_copy_78 e36 (Nat.le_of_ble_eq_true rfl) k (fun r33 h34 k => ?_)
    refine jr_pop2 dX12_copy_81 rfl ?_
    refine jr_iinc (v := (x3 + 1)) (lv' := [(3, .int (x3 + 1)), (0, .ref x0), (1, .int x1), (2, .int x2)]) 3 dX12_copy_82 rfl rfl (by decide) rfl ?_
    refine jr_goto (tgt := 54) dX12_copy_85 (by decide) ?_
    exact jr_sub [1, 2, 3, 0] rfl k
set_option maxRecDepth 20000 in
theorem bX12_image_0 {g : jG} {d : Nat} {hs : jH} {P : jO → jH → Prop} {x0 : Nat} {x1 : Int32} {h : jH} (k : Con g mX12_within d [.long x1.toInt64, .long 0, .long 2] h (jPi (fun (r1 : Int32) (h2 : jH) => (r1 = 0 → J g mX12_image (d + 1) hs P 18 [(0, .ref x0), (1, .int x1)] [.int 1, .ref x0] h2) ∧ (¬ r1 = 0 → J g mX12_image (d + 1) hs P 18 [(0, .ref x0), (1, .int x1)] [.int 0, .ref x0] h2)) (fun E h' => P (.inr E) h'))) : J g mX12_image (d + 1) hs P 0 [(0, .ref x0), (1, .int x1)] [] h := by
  refine jr_aload_n 0 dX12_image_0 rfl rfl ?_
  refine jr_iload_n 1 dX12_image_1 rfl rfl ?_
  refine jr_i2l dX12_image_2 ?_
  refine jr_lconst (v := 0) dX12_image_3 (by decide) ?_
  refine jr_ldc2 (v := 2) jk_X12_317 dX12_image_4 ?_
  refine jr_cSi (As := [.long x1.toInt64, .long 0, .long 2]) jl_X12_128 km_X12_within rfl rfl dX12_image_7 (Nat.le_of_ble_eq_true rfl) k (fun r1 h2 k => ?_)
  refine jr_if_eq (tgt := 17) dX12_image_10 (by decide) (fun c10 => ?_) (fun c10 => ?_)
  · have k := k.1 c10
    refine jr_iconst (v := 1) dX12_image_17 (by decide) ?_
    exact jr_sub [0, 1] rfl k
  · have k := k.2 c10
    refine jr_iconst (v := 0) dX12_image_13 (by decide) ?_
    refine jr_goto (tgt := 18) dX12_image_14 (by decide) ?_
    exact jr_sub [0, 1] rfl k
set_option maxRecDepth 20000 in
theorem bX12_image_18 {g : jG} {d : Nat} {hs : jH} {P : jO → jH → Prop} {x0 : Nat} {x1 : Int32} {s0 : Nat} {s1 : Int32} {h : jH} (k : ∃ fs1 : List Value, h.1 s0 = some (.inr (12, fs1)) ∧ 4 < fs1.length ∧ (∀ h4 : jH, h4 = jset h s0 (.inr (12, fs1.set 4 (.int s1))) → ∃ fs6 : List Value, h4.1 x0 = some (.inr (12, fs6)) ∧ ∃ v9 : Int32, fs6[4]? = some (.int v9) ∧ (0 < v9 → P (.inl none) h4) ∧ (¬ 0 < v9 → ∃ fs10 : List Value, h4.1 x0 = some (.inr (12, fs10)) ∧ ∃ v13 : Nat, fs10[3]? = some (.ref v13) ∧ ∃ (n14 : Nat) (f15 : Nat → Int32), h4.1 v13 = some (.inl (2, (n14, .inl f15))) ∧ vp_in x1 n14 ∧ ∀ h18 : jH, h18 = jset h4 v13 (.inl (2, (n14, .inl (upd f15 x1.toNatClampNeg (vp_nar .boolean 1))))) → J g mX12_image (d + 1) hs P 38 [(0, .ref x0), (1, .int x1), (2, .int 0)] [] h18))) : J g mX12_image (d + 1) hs P 18 [(0, .ref x0), (1, .int x1)] [.int s1, .ref s0] h := by
  obtain ⟨fs1, e2, e3, k⟩ := k
  refine jr_putE jp_X12_67 dX12_image_18 e2 e3 rfl rfl (fun h4 eh5 => ?_)
  have k := k h4 eh5
  refine jr_aload_n 0 dX12_image_21 rfl rfl ?_
  obtain ⟨fs6, e7, v9, e8, k⟩ := k
  refine jr_get jf_X12_67 dX12_image_22 e7 e8 ?_
  refine jr_if_le (tgt := 29) dX12_image_25 (by decide) (fun c25 => ?_) (fun c25 => ?_)
  · have k := k.2 c25
    refine jr_aload_n 0 dX12_image_29 rfl rfl ?_
    obtain ⟨fs10, e11, v13, e12, k⟩ := k
    refine jr_get jf_X12_19 dX12_image_30 e11 e12 ?_
    refine jr_iload_n 1 dX12_image_33 rfl rfl ?_
    refine jr_iconst (v := 1) dX12_image_34 (by decide) ?_
    obtain ⟨n14, f15, e16, e17, k⟩ := k
    refine jr_zastE dX12_image_35 e16 e17 (fun h18 eh19 => ?_)
    have k := k h18 eh19
    refine jr_iconst (v := 0) dX12_image_36 (by decide) ?_
    refine jr_istore_n (lv' := [(2, .int 0), (0, .ref x0), (1, .int x1)]) dX12_image_37 rfl (by decide) rfl ?_
    exact jr_sub [1, 2, 0] rfl k
  · have k := k.1 c25
    exact jr_vret rfl dX12_image_28 k
set_option maxRecDepth 20000 in
theorem bX12_image_38 {g : jG} {d : Nat} {hs : jH} {P : jO → jH → Prop} {x0 : Nat} {x1 : Int32} {x2 : Int32} {h : jH} (k : (x2 < 3240 → ∃ fs1 : List Value, h.1 x0 = some (.inr (12, fs1)) ∧ ∃ v4 : Nat, fs1[2]? = some (.ref v4) ∧ ∃ fs5 : List Value, h.1 x0 = some (.inr (12, fs5)) ∧ ∃ v8 : Nat, fs5[0]? = some (.ref v8) ∧ ∃ (n9 : Nat) (f10 : Nat → Int32), h.1 v8 = some (.inl (0, (n9, .inl f10))) ∧ vp_in x2 n9 ∧ ∃ (n13 : Nat) (f14 : Nat → Int32), h.1 v4 = some (.inl (0, (n13, .inl f14))) ∧ vp_in ((3240 * x1) + x2) n13 ∧ ∀ h17 : jH, h17 = jset h v4 (.inl (0, (n13, .inl (upd f14 (((3240 * x1) + x2)).toNatClampNeg ((f10 x2.toNatClampNeg)))))) → J g mX12_image (d + 1) hs P 38 [(0, .ref x0), (1, .int x1), (2, .int (x2 + 1))] [] h17) ∧ (¬ x2 < 3240 → P (.inl none) h)) : J g mX12_image (d + 1) hs P 38 [(0, .ref x0), (1, .int x1), (2, .int x2)] [] h := by
  refine jr_iload_n 2 dX12_image_38 rfl rfl ?_
  refine jr_sipush (v := 3240) dX12_image_39 (by decide) ?_
  refine jr_icmp_ge (tgt := 69) dX12_image_42 (by decide) (fun c42 => ?_) (fun c42 => ?_)
  · have k := k.2 c42
    exact jr_vret rfl dX12_image_69 k
  · have k := k.1 c42
    refine jr_aload_n 0 dX12_image_45 rfl rfl ?_
    obtain ⟨fs1, e2, v4, e3, k⟩ := k
    refine jr_get jf_X12_16 dX12_image_46 e2 e3 ?_
    refine jr_sipush (v := 3240) dX12_image_49 (by decide) ?_
    refine jr_iload_n 1 dX12_image_52 rfl rfl ?_
    refine jr_imul dX12_image_53 ?_
    refine jr_iload_n 2 dX12_image_54 rfl rfl ?_
    refine jr_iadd dX12_image_55 ?_
    refine jr_aload_n 0 dX12_image_56 rfl rfl ?_
    obtain ⟨fs5, e6, v8, e7, k⟩ := k
    refine jr_get jf_X12_9 dX12_image_57 e6 e7 ?_
    refine jr_iload_n 2 dX12_image_60 rfl rfl ?_
    obtain ⟨n9, f10, e11, e12, k⟩ := k
    refine jr_iald dX12_image_61 e11 e12 ?_
    obtain ⟨n13, f14, e15, e16, k⟩ := k
    refine jr_iastE dX12_image_62 e15 e16 (fun h17 eh18 => ?_)
    have k := k h17 eh18
    refine jr_iinc (v := (x2 + 1)) (lv' := [(2, .int (x2 + 1)), (0, .ref x0), (1, .int x1)]) 2 dX12_image_63 rfl rfl (by decide) rfl ?_
    refine jr_goto (tgt := 38) dX12_image_66 (by decide) ?_
    exact jr_sub [1, 2, 0] rfl k
set_option maxRecDepth 20000 in
theorem bX12_restore_0 {g : jG} {d : Nat} {hs : jH} {P : jO → jH → Prop} {x0 : Nat} {x1 : Int32} {h : jH} (k : Con g mX12_within d [.long x1.toInt64, .long 0, .long 2] h (jPi (fun (r1 : Int32) (h2 : jH) => (r1 = 0 → J g mX12_restore (d + 1) hs P 31 [(0, .ref x0), (1, .int x1)] [.int 1, .ref x0] h2) ∧ (¬ r1 = 0 → ∃ fs3 : List Value, h2.1 x0 = some (.inr (12, fs3)) ∧ ∃ v6 : Nat, fs3[3]? = some (.ref v6) ∧ ∃ (n7 : Nat) (f8 : Nat → Int32), h2.1 v6 = some (.inl (2, (n7, .inl f8))) ∧ vp_in x1 n7 ∧ ((f8 x1.toNatClampNeg) = 0 → J g mX12_restore (d + 1) hs P 31 [(0, .ref x0), (1, .int x1)] [.int 2, .ref x0] h2) ∧ (¬ (f8 x1.toNatClampNeg) = 0 → J g mX12_restore (d + 1) hs P 31 [(0, .ref x0), (1, .int x1)] [.int 0, .ref x0] h2))) (fun E h' => P (.inr E) h'))) : J g mX12_restore (d + 1) hs P 0 [(0, .ref x0), (1, .int x1)] [] h := by
  refine jr_aload_n 0 dX12_restore_0 rfl rfl ?_
  refine jr_iload_n 1 dX12_restore_1 rfl rfl ?_
  refine jr_i2l dX12_restore_2 ?_
  refine jr_lconst (v := 0) dX12_restore_3 (by decide) ?_
  refine jr_ldc2 (v := 2) jk_X12_317 dX12_restore_4 ?_
  refine jr_cSi (As := [.long x1.toInt64, .long 0, .long 2]) jl_X12_128 km_X12_within rfl rfl dX12_restore_7 (Nat.le_of_ble_eq_true rfl) k (fun r1 h2 k => ?_)
  refine jr_if_ne (tgt := 17) dX12_restore_10 (by decide) (fun c10 => ?_) (fun c10 => ?_)
  · have k := k.2 c10
    refine jr_aload_n 0 dX12_restore_17 rfl rfl ?_
    obtain ⟨fs3, e4, v6, e5, k⟩ := k
    refine jr_get jf_X12_19 dX12_restore_18 e4 e5 ?_
    refine jr_iload_n 1 dX12_restore_21 rfl rfl ?_
    obtain ⟨n7, f8, e9, e10, k⟩ := k
    refine jr_zald dX12_restore_22 e9 e10 ?_
    refine jr_if_ne (tgt := 30) dX12_restore_23 (by decide) (fun c23 => ?_) (fun c23 => ?_)
    · have k := k.2 c23
      refine jr_iconst (v := 0) dX12_restore_30 (by decide) ?_
      exact jr_sub [0, 1] rfl k
    · have k := k.1 c23
      refine jr_iconst (v := 2) dX12_restore_26 (by decide) ?_
      refine jr_goto (tgt := 31) dX12_restore_27 (by decide) ?_
      exact jr_sub [0, 1] rfl k
  · have k := k.1 c10
    refine jr_iconst (v := 1) dX12_restore_13 (by decide) ?_
    refine jr_goto (tgt := 31) dX12_restore_14 (by decide) ?_
    exact jr_sub [0, 1] rfl k
set_option maxRecDepth 20000 in
theorem bX12_restore_31 {g : jG} {d : Nat} {hs : jH} {P : jO → jH → Prop} {x0 : Nat} {x1 : Int32} {s0 : Nat} {s1 : Int32} {h : jH} (k : ∃ fs1 : List Value, h.1 s0 = some (.inr (12, fs1)) ∧ 4 < fs1.length ∧ (∀ h4 : jH, h4 = jset h s0 (.inr (12, fs1.set 4 (.int s1))) → ∃ fs6 : List Value, h4.1 x0 = some (.inr (12, fs6)) ∧ ∃ v9 : Int32, fs6[4]? = some (.int v9) ∧ (0 < v9 → P (.inl none) h4) ∧ (¬ 0 < v9 → J g mX12_restore (d + 1) hs P 44 [(0, .ref x0), (1, .int x1), (2, .int 0)] [] h4))) : J g mX12_restore (d + 1) hs P 31 [(0, .ref x0), (1, .int x1)] [.int s1, .ref s0] h := by
  obtain ⟨fs1, e2, e3, k⟩ := k
  refine jr_putE jp_X12_67 dX12_restore_31 e2 e3 rfl rfl (fun h4 eh5 => ?_)
  have k := k h4 eh5
  refine jr_aload_n 0 dX12_restore_34 rfl rfl ?_
  obtain ⟨fs6, e7, v9, e8, k⟩ := k
  refine jr_get jf_X12_67 dX12_restore_35 e7 e8 ?_
  refine jr_if_le (tgt := 42) dX12_restore_38 (by decide) (fun c38 => ?_) (fun c38 => ?_)
  · have k := k.2 c38
    refine jr_iconst (v := 0) dX12_restore_42 (by decide) ?_
    refine jr_istore_n (lv' := [(2, .int 0), (0, .ref x0), (1, .int x1)]) dX12_restore_43 rfl (by decide) rfl ?_
    exact jr_sub [1, 2, 0] rfl k
  · have k := k.1 c38
    exact jr_vret rfl dX12_restore_41 k
set_option maxRecDepth 20000 in
theorem bX12_restore_44 {g : jG} {d : Nat} {hs : jH} {P : jO → jH → Prop} {x0 : Nat} {x1 : Int32} {x2 : Int32} {h : jH} (k : (x2 < 3240 → ∃ fs1 : List Value, h.1 x0 = some (.inr (12, fs1)) ∧ ∃ v4 : Nat, fs1[0]? = some (.ref v4) ∧ ∃ fs5 : List Value, h.1 x0 = some (.inr (12, fs5)) ∧ ∃ v8 : Nat, fs5[2]? = some (.ref v8) ∧ ∃ (n9 : Nat) (f10 : Nat → Int32), h.1 v8 = some (.inl (0, (n9, .inl f10))) ∧ vp_in ((3240 * x1) + x2) n9 ∧ ∃ (n13 : Nat) (f14 : Nat → Int32), h.1 v4 = some (.inl (0, (n13, .inl f14))) ∧ vp_in x2 n13 ∧ ∀ h17 : jH, h17 = jset h v4 (.inl (0, (n13, .inl (upd f14 x2.toNatClampNeg ((f10 (((3240 * x1) + x2)).toNatClampNeg)))))) → J g mX12_restore (d + 1) hs P 44 [(0, .ref x0), (1, .int x1), (2, .int (x2 + 1))] [] h17) ∧ (¬ x2 < 3240 → P (.inl none) h)) : J g mX12_restore (d + 1) hs P 44 [(0, .ref x0), (1, .int x1), (2, .int x2)] [] h := by
  refine jr_iload_n 2 dX12_restore_44 rfl rfl ?_
  refine jr_sipush (v := 3240) dX12_restore_45 (by decide) ?_
  refine jr_icmp_ge (tgt := 75) dX12_restore_48 (by decide) (fun c48 => ?_) (fun c48 => ?_)
  · have k := k.2 c48
    exact jr_vret rfl dX12_restore_75 k
  · have k := k.1 c48
    refine jr_aload_n 0 dX12_restore_51 rfl rfl ?_
    obtain ⟨fs1, e2, v4, e3, k⟩ := k
    refine jr_get jf_X12_9 dX12_restore_52 e2 e3 ?_
    refine jr_iload_n 2 dX12_restore_55 rfl rfl ?_
    refine jr_aload_n 0 dX12_restore_56 rfl rfl ?_
    obtain ⟨fs5, e6, v8, e7, k⟩ := k
    refine jr_get jf_X12_16 dX12_restore_57 e6 e7 ?_
    refine jr_sipush (v := 3240) dX12_restore_60 (by decide) ?_
    refine jr_iload_n 1 dX12_restore_63 rfl rfl ?_
    refine jr_imul dX12_restore_64 ?_
    refine jr_iload_n 2 dX12_restore_65 rfl rfl ?_
    refine jr_iadd dX12_restore_66 ?_
    obtain ⟨n9, f10, e11, e12, k⟩ := k
    refine jr_iald dX12_restore_67 e11 e12 ?_
    obtain ⟨n13, f14, e15, e16, k⟩ := k
    refine jr_iastE dX12_restore_68 e15 e16 (fun h17 eh18 => ?_)
    have k := k h17 eh18
    refine jr_iinc (v := (x2 + 1)) (lv' := [(2, .int (x2 + 1)), (0, .ref x0), (1, .int x1)]) 2 dX12_restore_69 rfl rfl (by decide) rfl ?_
    refine jr_goto (tgt := 44) dX12_restore_72 (by decide) ?_
    exact jr_sub [1, 2, 0] rfl k
set_option maxRecDepth 20000 in
theorem bX12_count_0 {g : jG} {d : Nat} {hs : jH} {P : jO → jH → Prop} {x0 : Nat} {x1 : Int32} {h : jH} (k : ∃ fs1 : List Value, h.1 x0 = some (.inr (12, fs1)) ∧ 4 < fs1.length ∧ (∀ h4 : jH, h4 = jset h x0 (.inr (12, fs1.set 4 (.int 0))) → (x1 = 0 → ∃ fs6 : List Value, h4.1 x0 = some (.inr (12, fs6)) ∧ ∃ v9 : Nat, fs6[0]? = some (.ref v9) ∧ ∃ (n10 : Nat) (f11 : Nat → Int32), h4.1 v9 = some (.inl (0, (n10, .inl f11))) ∧ vp_in 0 n10 ∧ P (.inl (some (.int ((f11 ((0 : Int32)).toNatClampNeg))))) h4) ∧ (¬ x1 = 0 → (x1 = 1 → ∃ fs16 : List Value, h4.1 x0 = some (.inr (12, fs16)) ∧ Con g mX12_houses d [.ref x0] h4 (jPi (fun (r14 : Int32) (h15 : jH) => P (.inl (some (.int r14))) h15) (fun E h' => P (.inr E) h'))) ∧ (¬ x1 = 1 → (x1 = 2 → ∃ fs20 : List Value, h4.1 x0 = some (.inr (12, fs20)) ∧ Con g mX12_sumOf d [.ref x0, .int 29] h4 (jPi (fun (r18 : Int32) (h19 : jH) => P (.inl (some (.int r18))) h19) (fun E h' => P (.inr E) h'))) ∧ (¬ x1 = 2 → (x1 = 3 → ∃ fs24 : List Value, h4.1 x0 = some (.inr (12, fs24)) ∧ Con g mX12_sumOf d [.ref x0, .int 36] h4 (jPi (fun (r22 : Int32) (h23 : jH) => P (.inl (some (.int r22))) h23) (fun E h' => P (.inr E) h'))) ∧ (¬ x1 = 3 → (x1 = 4 → ∃ fs28 : List Value, h4.1 x0 = some (.inr (12, fs28)) ∧ Con g mX12_sumOf d [.ref x0, .int 22] h4 (jPi (fun (r26 : Int32) (h27 : jH) => P (.inl (some (.int r26))) h27) (fun E h' => P (.inr E) h'))) ∧ (¬ x1 = 4 → (x1 = 5 → ∃ fs30 : List Value, h4.1 x0 = some (.inr (12, fs30)) ∧ ∃ v33 : Nat, fs30[0]? = some (.ref v33) ∧ ∃ (n34 : Nat) (f35 : Nat → Int32), h4.1 v33 = some (.inl (0, (n34, .inl f35))) ∧ vp_in 50 n34 ∧ P (.inl (some (.int ((f35 ((50 : Int32)).toNatClampNeg))))) h4) ∧ (¬ x1 = 5 → (x1 = 6 → ∃ fs38 : List Value, h4.1 x0 = some (.inr (12, fs38)) ∧ ∃ v41 : Nat, fs38[0]? = some (.ref v41) ∧ ∃ (n42 : Nat) (f43 : Nat → Int32), h4.1 v41 = some (.inl (0, (n42, .inl f43))) ∧ vp_in 3 n42 ∧ P (.inl (some (.int ((f43 ((3 : Int32)).toNatClampNeg))))) h4) ∧ (¬ x1 = 6 → (x1 = 7 → ∃ fs46 : List Value, h4.1 x0 = some (.inr (12, fs46)) ∧ ∃ v49 : Nat, fs46[0]? = some (.ref v49) ∧ ∃ (n50 : Nat) (f51 : Nat → Int32), h4.1 v49 = some (.inl (0, (n50, .inl f51))) ∧ vp_in 51 n50 ∧ P (.inl (some (.int ((f51 ((51 : Int32)).toNatClampNeg))))) h4) ∧ (¬ x1 = 7 → (x1 = 8 → ∃ fs54 : List Value, h4.1 x0 = some (.inr (12, fs54)) ∧ ∃ v57 : Nat, fs54[0]? = some (.ref v57) ∧ ∃ (n58 : Nat) (f59 : Nat → Int32), h4.1 v57 = some (.inl (0, (n58, .inl f59))) ∧ vp_in 2 n58 ∧ P (.inl (some (.int ((f59 ((2 : Int32)).toNatClampNeg))))) h4) ∧ (¬ x1 = 8 → (x1 = 9 → ∃ fs62 : List Value, h4.1 x0 = some (.inr (12, fs62)) ∧ ∃ v65 : Nat, fs62[0]? = some (.ref v65) ∧ ∃ (n66 : Nat) (f67 : Nat → Int32), h4.1 v65 = some (.inl (0, (n66, .inl f67))) ∧ vp_in 7 n66 ∧ P (.inl (some (.int ((f67 ((7 : Int32)).toNatClampNeg))))) h4) ∧ (¬ x1 = 9 → (x1 = 10 → ∃ fs70 : List Value, h4.1 x0 = some (.inr (12, fs70)) ∧ ∃ v73 : Int32, fs70[6]? = some (.int v73) ∧ P (.inl (some (.int v73))) h4) ∧ (¬ x1 = 10 → P (.inl (some (.int ((-1))))) h4))))))))))))) : J g mX12_count (d + 1) hs P 0 [(0, .ref x0), (1, .int x1)] [] h := by
  refine jr_aload_n 0 dX12_count_0 rfl rfl ?_
  refine jr_iconst (v := 0) dX12_count_1 (by decide) ?_
  obtain ⟨fs1, e2, e3, k⟩ := k
  refine jr_putE jp_X12_67 dX12_count_2 e2 e3 rfl rfl (fun h4 eh5 => ?_)
  have k := k h4 eh5
  refine jr_iload_n 1 dX12_count_5 rfl rfl ?_
  by_cases c6_0 : x1 = 0
  · have k := k.1 c6_0
    refine jr_tableIn (tgt := 64) dX12_count_6 (by rw [c6_0]; decide) (by rw [c6_0]; decide) (by rw [c6_0]; rfl) (by decide) ?_
    refine jr_aload_n 0 dX12_count_64 rfl rfl ?_
    obtain ⟨fs6, e7, v9, e8, k⟩ := k
    refine jr_get jf_X12_9 dX12_count_65 e7 e8 ?_
    refine jr_iconst (v := 0) dX12_count_68 (by decide) ?_
    obtain ⟨n10, f11, e12, e13, k⟩ := k
    refine jr_iald dX12_count_69 e12 e13 ?_
    exact jr_iret (ty := .int) rfl rfl dX12_count_70 k
  · have k := k.2 c6_0
    by_cases c6_1 : x1 = 1
    · have k := k.1 c6_1
      refine jr_tableIn (tgt := 71) dX12_count_6 (by rw [c6_1]; decide) (by rw [c6_1]; decide) (by rw [c6_1]; rfl) (by decide) ?_
      refine jr_aload_n 0 dX12_count_71 rfl rfl ?_
      obtain ⟨fs16, e17, k⟩ := k
      refine jr_cVi (As := []) jl_X12_249 km_X12_houses rfl rfl dX12_count_72 e17 (Nat.le_of_ble_eq_true rfl) k (fun r14 h15 k => ?_)
      exact jr_iret (ty := .int) rfl rfl dX12_count_75 k
    · have k := k.2 c6_1
      by_cases c6_2 : x1 = 2
      · have k := k.1 c6_2
        refine jr_tableIn (tgt := 76) dX12_count_6 (by rw [c6_2]; decide) (by rw [c6_2]; decide) (by rw [c6_2]; rfl) (by decide) ?_
        refine jr_aload_n 0 dX12_count_76 rfl rfl ?_
        refine jr_bipush (v := 29) dX12_count_77 (by decide) ?_
        obtain ⟨fs20, e21, k⟩ := k
        refine jr_cVi (As := [.int 29]) jl_X12_389 km_X12_sumOf rfl rfl dX12_count_79 e21 (Nat.le_of_ble_eq_true rfl) k (fun r18 h19 k => ?_)
        exact jr_iret (ty := .int) rfl rfl dX12_count_82 k
      · have k := k.2 c6_2
        by_cases c6_3 : x1 = 3
        · have k := k.1 c6_3
          refine jr_tableIn (tgt := 83) dX12_count_6 (by rw [c6_3]; decide) (by rw [c6_3]; decide) (by rw [c6_3]; rfl) (by decide) ?_
          refine jr_aload_n 0 dX12_count_83 rfl rfl ?_
          refine jr_bipush (v := 36) dX12_count_84 (by decide) ?_
          obtain ⟨fs24, e25, k⟩ := k
          refine jr_cVi (As := [.int 36]) jl_X12_389 km_X12_sumOf rfl rfl dX12_count_86 e25 (Nat.le_of_ble_eq_true rfl) k (fun r22 h23 k => ?_)
          exact jr_iret (ty := .int) rfl rfl dX12_count_89 k
        · have k := k.2 c6_3
          by_cases c6_4 : x1 = 4
          · have k := k.1 c6_4
            refine jr_tableIn (tgt := 90) dX12_count_6 (by rw [c6_4]; decide) (by rw [c6_4]; decide) (by rw [c6_4]; rfl) (by decide) ?_
            refine jr_aload_n 0 dX12_count_90 rfl rfl ?_
            refine jr_bipush (v := 22) dX12_count_91 (by decide) ?_
            obtain ⟨fs28, e29, k⟩ := k
            refine jr_cVi (As := [.int 22]) jl_X12_389 km_X12_sumOf rfl rfl dX12_count_93 e29 (Nat.le_of_ble_eq_true rfl) k (fun r26 h27 k => ?_)
            exact jr_iret (ty := .int) rfl rfl dX12_count_96 k
          · have k := k.2 c6_4
            by_cases c6_5 : x1 = 5
            · have k := k.1 c6_5
              refine jr_tableIn (tgt := 97) dX12_count_6 (by rw [c6_5]; decide) (by rw [c6_5]; decide) (by rw [c6_5]; rfl) (by decide) ?_
              refine jr_aload_n 0 dX12_count_97 rfl rfl ?_
              obtain ⟨fs30, e31, v33, e32, k⟩ := k
              refine jr_get jf_X12_9 dX12_count_98 e31 e32 ?_
              refine jr_bipush (v := 50) dX12_count_101 (by decide) ?_
              obtain ⟨n34, f35, e36, e37, k⟩ := k
              refine jr_iald dX12_count_103 e36 e37 ?_
              exact jr_iret (ty := .int) rfl rfl dX12_count_104 k
            · have k := k.2 c6_5
              by_cases c6_6 : x1 = 6
              · have k := k.1 c6_6
                refine jr_tableIn (tgt := 105) dX12_count_6 (by rw [c6_6]; decide) (by rw [c6_6]; decide) (by rw [c6_6]; rfl) (by decide) ?_
                refine jr_aload_n 0 dX12_count_105 rfl rfl ?_
                obtain ⟨fs38, e39, v41, e40, k⟩ := k
                refine jr_get jf_X12_9 dX12_count_106 e39 e40 ?_
                refine jr_iconst (v := 3) dX12_count_109 (by decide) ?_
                obtain ⟨n42, f43, e44, e45, k⟩ := k
                refine jr_iald dX12_count_110 e44 e45 ?_
                exact jr_iret (ty := .int) rfl rfl dX12_count_111 k
              · have k := k.2 c6_6
                by_cases c6_7 : x1 = 7
                · have k := k.1 c6_7
                  refine jr_tableIn (tgt := 112) dX12_count_6 (by rw [c6_7]; decide) (by rw [c6_7]; decide) (by rw [c6_7]; rfl) (by decide) ?_
                  refine jr_aload_n 0 dX12_count_112 rfl rfl ?_
                  obtain ⟨fs46, e47, v49, e48, k⟩ := k
                  refine jr_get jf_X12_9 dX12_count_113 e47 e48 ?_
                  refine jr_bipush (v := 51) dX12_count_116 (by decide) ?_
                  obtain ⟨n50, f51, e52, e53, k⟩ := k
                  refine jr_iald dX12_count_118 e52 e53 ?_
                  exact jr_iret (ty := .int) rfl rfl dX12_count_119 k
                · have k := k.2 c6_7
                  by_cases c6_8 : x1 = 8
                  · have k := k.1 c6_8
                    refine jr_tableIn (tgt := 120) dX12_count_6 (by rw [c6_8]; decide) (by rw [c6_8]; decide) (by rw [c6_8]; rfl) (by decide) ?_
                    refine jr_aload_n 0 dX12_count_120 rfl rfl ?_
                    obtain ⟨fs54, e55, v57, e56, k⟩ := k
                    refine jr_get jf_X12_9 dX12_count_121 e55 e56 ?_
                    refine jr_iconst (v := 2) dX12_count_124 (by decide) ?_
                    obtain ⟨n58, f59, e60, e61, k⟩ := k
                    refine jr_iald dX12_count_125 e60 e61 ?_
                    exact jr_iret (ty := .int) rfl rfl dX12_count_126 k
                  · have k := k.2 c6_8
                    by_cases c6_9 : x1 = 9
                    · have k := k.1 c6_9
                      refine jr_tableIn (tgt := 127) dX12_count_6 (by rw [c6_9]; decide) (by rw [c6_9]; decide) (by rw [c6_9]; rfl) (by decide) ?_
                      refine jr_aload_n 0 dX12_count_127 rfl rfl ?_
                      obtain ⟨fs62, e63, v65, e64, k⟩ := k
                      refine jr_get jf_X12_9 dX12_count_128 e63 e64 ?_
                      refine jr_bipush (v := 7) dX12_count_131 (by decide) ?_
                      obtain ⟨n66, f67, e68, e69, k⟩ := k
                      refine jr_iald dX12_count_133 e68 e69 ?_
                      exact jr_iret (ty := .int) rfl rfl dX12_count_134 k
                    · have k := k.2 c6_9
                      by_cases c6_10 : x1 = 10
                      · have k := k.1 c6_10
                        refine jr_tableIn (tgt := 135) dX12_count_6 (by rw [c6_10]; decide) (by rw [c6_10]; decide) (by rw [c6_10]; rfl) (by decide) ?_
                        refine jr_aload_n 0 dX12_count_135 rfl rfl ?_
                        obtain ⟨fs70, e71, v73, e72, k⟩ := k
                        refine jr_get jf_X12_70 dX12_count_136 e71 e72 ?_
                        exact jr_iret (ty := .int) rfl rfl dX12_count_139 k
                      · have k := k.2 c6_10
                        refine jr_tableOut (tgt := 140) dX12_count_6 ?_ (by decide) ?_
                        · have d6_0 := j_ne c6_0 (z := 0) (by decide)
                          have d6_1 := j_ne c6_1 (z := 1) (by decide)
                          have d6_2 := j_ne c6_2 (z := 2) (by decide)
                          have d6_3 := j_ne c6_3 (z := 3) (by decide)
                          have d6_4 := j_ne c6_4 (z := 4) (by decide)
                          have d6_5 := j_ne c6_5 (z := 5) (by decide)
                          have d6_6 := j_ne c6_6 (z := 6) (by decide)
                          have d6_7 := j_ne c6_7 (z := 7) (by decide)
                          have d6_8 := j_ne c6_8 (z := 8) (by decide)
                          have d6_9 := j_ne c6_9 (z := 9) (by decide)
                          have d6_10 := j_ne c6_10 (z := 10) (by decide)
                          omega
                        · refine jr_iconst (v := (-1)) dX12_count_140 (by decide) ?_
                          exact jr_iret (ty := .int) rfl rfl dX12_count_141 k
