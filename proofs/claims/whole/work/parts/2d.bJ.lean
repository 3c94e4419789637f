theorem jk_J6_265 : Cond.constant RJ6 265 1431655765 ∈ lw_tbl := jw_in 1230 (by decide +kernel)
theorem jk_J6_266 : Cond.constant RJ6 266 858993459 ∈ lw_tbl := jw_in 1231 (by decide +kernel)
theorem jk_J6_267 : Cond.constant RJ6 267 252645135 ∈ lw_tbl := jw_in 1232 (by decide +kernel)
set_option maxRecDepth 20000 in
theorem bJ7_fill_53178_0 {g : jG} {d : Nat} {hs : jH} {P : jO → jH → Prop} {x0 : Nat} {x1 : Int32} {h : jH} (k : ∃ (t1 : Nat) (z2 : vp_A), h.1 x0 = some (.inl (t1, z2)) ∧ (∃ ty5 : FieldType, jTy t1 = some ty5) ∧ J g mJ7_fill_53178 (d + 1) hs P 5 [(0, .ref x0), (1, .int x1), (2, .int 0), (3, .int (nI z2.1))] [] h) : J g mJ7_fill_53178 (d + 1) hs P 0 [(0, .ref x0), (1, .int x1)] [] h := by
  refine jr_iconst (v := 0) dJ7_fill_53178_0 (by decide) ?_
  refine jr_istore_n (lv' := [(2, .int 0), (0, .ref x0), (1, .int x1)]) dJ7_fill_53178_1 rfl (by decide) rfl ?_
  refine jr_aload_n 1 dJ7_fill_53178_2 rfl rfl ?_
  obtain ⟨t1, z2, e3, ⟨ty5, e4⟩, k⟩ := k
  refine jr_alen (v := nI z2.1) dJ7_fill_53178_3 e4 e3 rfl ?_
  refine jr_istore_n (lv' := [(3, .int (nI z2.1)), (2, .int 0), (0, .ref x0), (1, .int x1)]) dJ7_fill_53178_4 rfl (by decide) rfl ?_
  exact jr_sub [2, 3, 1, 0] rfl k
set_option maxRecDepth 20000 in
theorem bJ7_fill_53178_5 {g : jG} {d : Nat} {hs : jH} {P : jO → jH → Prop} {x0 : Nat} {x1 : Int32} {x2 : Int32} {x3 : Int32} {h : jH} (k : (x2 < x3 → ∃ (n1 : Nat) (f2 : Nat → Int32), h.1 x0 = some (.inl (0, (n1, .inl f2))) ∧ vp_in x2 n1 ∧ ∀ h5 : jH, h5 = jset h x0 (.inl (0, (n1, .inl (upd f2 x2.toNatClampNeg x1)))) → J g mJ7_fill_53178 (d + 1) hs P 5 [(0, .ref x0), (1, .int x1), (2, .int (x2 + 1)), (3, .int x3)] [] h5) ∧ (¬ x2 < x3 → P (.inl none) h)) : J g mJ7_fill_53178 (d + 1) hs P 5 [(0, .ref x0), (1, .int x1), (2, .int x2), (3, .int x3)] [] h := by
  refine jr_iload_n 2 dJ7_fill_53178_5 rfl rfl ?_
  refine jr_iload_n 3 dJ7_fill_53178_6 rfl rfl ?_
  refine jr_icmp_ge (tgt := 20) dJ7_fill_53178_7 (by decide) (fun c7 => ?_) (fun c7 => ?_)
  · have k := k.2 c7
    exact jr_vret rfl dJ7_fill_53178_20 k
  · have k := k.1 c7
    refine jr_aload_n 0 dJ7_fill_53178_10 rfl rfl ?_
    refine jr_iload_n 2 dJ7_fill_53178_11 rfl rfl ?_
    refine jr_iload_n 1 dJ7_fill_53178_12 rfl rfl ?_
    obtain ⟨n1, f2, e3, e4, k⟩ := k
    refine jr_iastE dJ7_fill_53178_13 e3 e4 (fun h5 eh6 => ?_)
    have k := k h5 eh6
    refine jr_iinc (v := (x2 + 1)) (lv' := [(2, .int (x2 + 1)), (0, .ref x0), (1, .int x1), (3, .int x3)]) 2 dJ7_fill_53178_14 rfl rfl (by decide) rfl ?_
    refine jr_goto (tgt := 5) dJ7_fill_53178_17 (by decide) ?_
    exact jr_sub [1, 2, 0, 3] rfl k
set_option maxRecDepth 20000 in
theorem bJ7_fill_d0a16_0 {g : jG} {d : Nat} {hs : jH} {P : jO → jH → Prop} {x0 : Nat} {x1 : Int64} {h : jH} (k : ∃ (t1 : Nat) (z2 : vp_A), h.1 x0 = some (.inl (t1, z2)) ∧ (∃ ty5 : FieldType, jTy t1 = some ty5) ∧ J g mJ7_fill_d0a16 (d + 1) hs P 6 [(0, .ref x0), (1, .long x1), (3, .int 0), (4, .int (nI z2.1))] [] h) : J g mJ7_fill_d0a16 (d + 1) hs P 0 [(0, .ref x0), (1, .long x1)] [] h := by
  refine jr_iconst (v := 0) dJ7_fill_d0a16_0 (by decide) ?_
  refine jr_istore_n (lv' := [(3, .int 0), (0, .ref x0), (1, .long x1)]) dJ7_fill_d0a16_1 rfl (by decide) rfl ?_
  refine jr_aload_n 1 dJ7_fill_d0a16_2 rfl rfl ?_
  obtain ⟨t1, z2, e3, ⟨ty5, e4⟩, k⟩ := k
  refine jr_alen (v := nI z2.1) dJ7_fill_d0a16_3 e4 e3 rfl ?_
  refine jr_istore (lv' := [(4, .int (nI z2.1)), (3, .int 0), (0, .ref x0), (1, .long x1)]) dJ7_fill_d0a16_4 (by decide) rfl ?_
  exact jr_sub [2, 3, 1, 0] rfl k
set_option maxRecDepth 20000 in
theorem bJ7_fill_d0a16_6 {g : jG} {d : Nat} {hs : jH} {P : jO → jH → Prop} {x0 : Nat} {x1 : Int64} {x3 : Int32} {x4 : Int32} {h : jH} (k : (x3 < x4 → ∃ (n1 : Nat) (f2 : Nat → Int64), h.1 x0 = some (.inl (3, (n1, .inr (.inl f2)))) ∧ vp_in x3 n1 ∧ ∀ h5 : jH, h5 = jset h x0 (.inl (3, (n1, .inr (.inl (vp_updL f2 x3.toNatClampNeg x1))))) → J g mJ7_fill_d0a16 (d + 1) hs P 6 [(0, .ref x0), (1, .long x1), (3, .int (x3 + 1)), (4, .int x4)] [] h5) ∧ (¬ x3 < x4 → P (.inl none) h)) : J g mJ7_fill_d0a16 (d + 1) hs P 6 [(0, .ref x0), (1, .long x1), (3, .int x3), (4, .int x4)] [] h := by
  refine jr_iload_n 2 dJ7_fill_d0a16_6 rfl rfl ?_
  refine jr_iload 3 dJ7_fill_d0a16_7 rfl ?_
  refine jr_icmp_ge (tgt := 22) dJ7_fill_d0a16_9 (by decide) (fun c9 => ?_) (fun c9 => ?_)
  · have k := k.2 c9
    exact jr_vret rfl dJ7_fill_d0a16_22 k
  · have k := k.1 c9
    refine jr_aload_n 0 dJ7_fill_d0a16_12 rfl rfl ?_
    refine jr_iload_n 2 dJ7_fill_d0a16_13 rfl rfl ?_
    refine jr_lload_n 1 dJ7_fill_d0a16_14 rfl rfl ?_
    obtain ⟨n1, f2, e3, e4, k⟩ := k
    refine jr_lastE dJ7_fill_d0a16_15 e3 e4 (fun h5 eh6 => ?_)
    have k := k h5 eh6
    refine jr_iinc (v := (x3 + 1)) (lv' := [(3, .int (x3 + 1)), (0, .ref x0), (1, .long x1), (4, .int x4)]) 2 dJ7_fill_d0a16_16 rfl rfl (by decide) rfl ?_
    refine jr_goto (tgt := 6) dJ7_fill_d0a16_19 (by decide) ?_
    exact jr_sub [1, 2, 0, 3] rfl k
set_option maxRecDepth 20000 in
theorem bJ6_bitCount_0f7a4_0 {g : jG} {d : Nat} {hs : jH} {P : jO → jH → Prop} {x0 : Int32} {h : jH} (k : P (.inl (some (.int (((((((((x0 - (((x0).toUInt32 >>> ((1 : Int32).toUInt32 &&& Int32.toUInt32 31)).toInt32 &&& 1431655765)) &&& 858993459) + ((((x0 - (((x0).toUInt32 >>> ((1 : Int32).toUInt32 &&& Int32.toUInt32 31)).toInt32 &&& 1431655765))).toUInt32 >>> ((2 : Int32).toUInt32 &&& Int32.toUInt32 31)).toInt32 &&& 858993459)) + (((((x0 - (((x0).toUInt32 >>> ((1 : Int32).toUInt32 &&& Int32.toUInt32 31)).toInt32 &&& 1431655765)) &&& 858993459) + ((((x0 - (((x0).toUInt32 >>> ((1 : Int32).toUInt32 &&& Int32.toUInt32 31)).toInt32 &&& 1431655765))).toUInt32 >>> ((2 : Int32).toUInt32 &&& Int32.toUInt32 31)).toInt32 &&& 858993459))).toUInt32 >>> ((4 : Int32).toUInt32 &&& Int32.toUInt32 31)).toInt32) &&& 252645135) + (((((((x0 - (((x0).toUInt32 >>> ((1 : Int32).toUInt32 &&& Int32.toUInt32 31)).toInt32 &&& 1431655765)) &&& 858993459) + ((((x0 - (((x0).toUInt32 >>> ((1 : Int32).toUInt32 &&& Int32.toUInt32 31)).toInt32 &&& 1431655765))).toUInt32 >>> ((2 : Int32).toUInt32 &&& Int32.toUInt32 31)).toInt32 &&& 858993459)) + (((((x0 - (((x0).toUInt32 >>> ((1 : Int32).toUInt32 &&& Int32.toUInt32 31)).toInt32 &&& 1431655765)) &&& 858993459) + ((((x0 - (((x0).toUInt32 >>> ((1 : Int32).toUInt32 &&& Int32.toUInt32 31)).toInt32 &&& 1431655765))).toUInt32 >>> ((2 : Int32).toUInt32 &&& Int32.toUInt32 31)).toInt32 &&& 858993459))).toUInt32 >>> ((4 : Int32).toUInt32 &&& Int32.toUInt32 31)).toInt32) &&& 252645135)).toUInt32 >>> ((8 : Int32).toUInt32 &&& Int32.toUInt32 31)).toInt32) + ((((((((x0 - (((x0).toUInt32 >>> ((1 : Int32).toUInt32 &&& Int32.toUInt32 31)).toInt32 &&& 1431655765)) &&& 858993459) + ((((x0 - (((x0).toUInt32 >>> ((1 : Int32).toUInt32 &&& Int32.toUInt32 31)).toInt32 &&& 1431655765))).toUInt32 >>> ((2 : Int32).toUInt32 &&& Int32.toUInt32 31)).toInt32 &&& 858993459)) + (((((x0 - (((x0).toUInt32 >>> ((1 : Int32).toUInt32 &&& Int32.toUInt32 31)).toInt32 &&& 1431655765)) &&& 858993459) + ((((x0 - (((x0).toUInt32 >>> ((1 : Int32).toUInt32 &&& Int32.toUInt32 31)).toInt32 &&& 1431655765))).toUInt32 >>> ((2 : Int32).toUInt32 &&& Int32.toUInt32 31)).toInt32 &&& 858993459))).toUInt32 >>> ((4 : Int32).toUInt32 &&& Int32.toUInt32 31)).toInt32) &&& 252645135) + (((((((x0 - (((x0).toUInt32 >>> ((1 : Int32).toUInt32 &&& Int32.toUInt32 31)).toInt32 &&& 1431655765)) &&& 858993459) + ((((x0 - (((x0).toUInt32 >>> ((1 : Int32).toUInt32 &&& Int32.toUInt32 31)).toInt32 &&& 1431655765))).toUInt32 >>> ((2 : Int32).toUInt32 &&& Int32.toUInt32 31)).toInt32 &&& 858993459)) + (((((x0 - (((x0).toUInt32 >>> ((1 : Int32).toUInt32 &&& Int32.toUInt32 31)).toInt32 &&& 1431655765)) &&& 858993459) + ((((x0 - (((x0).toUInt32 >>> ((1 : Int32).toUInt32 &&& Int32.toUInt32 31)).toInt32 &&& 1431655765))).toUInt32 >>> ((2 : Int32).toUInt32 &&& Int32.toUInt32 31)).toInt32 &&& 858993459))).toUInt32 >>> ((4 : Int32).toUInt32 &&& Int32.toUInt32 31)).toInt32) &&& 252645135)).toUInt32 >>> ((8 : Int32).toUInt32 &&& Int32.toUInt32 31)).toInt32)).toUInt32 >>> ((16 : Int32).toUInt32 &&& Int32.toUInt32 31)).toInt32) &&& 63))))) h) : J g mJ6_bitCount_0f7a4 (d + 1) hs P 0 [(0, .int x0)] [] h := by
  refine jr_iload_n 0 dJ6_bitCount_0f7a4_0 rfl rfl ?_
  refine jr_iload_n 0 dJ6_bitCount_0f7a4_1 rfl rfl ?_
  refine jr_iconst (v := 1) dJ6_bitCount_0f7a4_2 (by decide) ?_
  refine jr_iushr dJ6_bitCount_0f7a4_3 ?_
  refine jr_ldcw (v := 1431655765) jk_J6_265 dJ6_bitCount_0f7a4_4 ?_
  refine jr_iand dJ6_bitCount_0f7a4_7 ?_
  refine jr_isub dJ6_bitCount_0f7a4_8 ?_
  refine jr_istore_n (lv' := [(0, .int (x0 - (((x0).toUInt32 >>> ((1 : Int32).toUInt32 &&& Int32.toUInt32 31)).toInt32 &&& 1431655765)))]) dJ6_bitCount_0f7a4_9 rfl (by decide) rfl ?_
  refine jr_iload_n 0 dJ6_bitCount_0f7a4_10 rfl rfl ?_
  refine jr_ldcw (v := 858993459) jk_J6_266 dJ6_bitCount_0f7a4_11 ?_
  refine jr_iand dJ6_bitCount_0f7a4_14 ?_
  refine jr_iload_n 0 dJ6_bitCount_0f7a4_15 rfl rfl ?_
  refine jr_iconst (v := 2) dJ6_bitCount_0f7a4_16 (by decide) ?_
  refine jr_iushr dJ6_bitCount_0f7a4_17 ?_
  refine jr_ldcw (v := 858993459) jk_J6_266 dJ6_bitCount_0f7a4_18 ?_
  refine jr_iand dJ6_bitCount_0f7a4_21 ?_
  refine jr_iadd dJ6_bitCount_0f7a4_22 ?_
  refine jr_istore_n (lv' := [(0, .int (((x0 - (((x0).toUInt32 >>> ((1 : Int32).toUInt32 &&& Int32.toUInt32 31)).toInt32 &&& 1431655765)) &&& 858993459) + ((((x0 - (((x0).toUInt32 >>> ((1 : Int32).toUInt32 &&& Int32.toUInt32 31)).toInt32 &&& 1431655765))).toUInt32 >>> ((2 : Int32).toUInt32 &&& Int32.toUInt32 31)).toInt32 &&& 858993459)))]) dJ6_bitCount_0f7a4_23 rfl (by decide) rfl ?_
  refine jr_iload_n 0 dJ6_bitCount_0f7a4_24 rfl rfl ?_
  refine jr_iload_n 0 dJ6_bitCount_0f7a4_25 rfl rfl ?_
  refine jr_iconst (v := 4) dJ6_bitCount_0f7a4_26 (by decide) ?_
  refine jr_iushr dJ6_bitCount_0f7a4_27 ?_
  refine jr_iadd dJ6_bitCount_0f7a4_28 ?_
  refine jr_ldcw (v := 252645135) jk_J6_267 dJ6_bitCount_0f7a4_29 ?_
  refine jr_iand dJ6_bitCount_0f7a4_32 ?_
  refine jr_istore_n (lv' := [(0, .int (((((x0 - (((x0).toUInt32 >>> ((1 : Int32).toUInt32 &&& Int32.toUInt32 31)).toInt32 &&& 1431655765)) &&& 858993459) + ((((x0 - (((x0).toUInt32 >>> ((1 : Int32).toUInt32 &&& Int32.toUInt32 31)).toInt32 &&& 1431655765))).toUInt32 >>> ((2 : Int32).toUInt32 &&& Int32.toUInt32 31)).toInt32 &&& 858993459)) + (((((x0 - (((x0).toUInt32 >>> ((1 : Int32).toUInt32 &&& Int32.toUInt32 31)).toInt32 &&& 1431655765)) &&& 858993459) + ((((x0 - (((x0).toUInt32 >>> ((1 : Int32).toUInt32 &&& Int32.toUInt32 31)).toInt32 &&& 1431655765))).toUInt32 >>> ((2 : Int32).toUInt32 &&& Int32.toUInt32 31)).toInt32 &&& 858993459))).toUInt32 >>> ((4 : Int32).toUInt32 &&& Int32.toUInt32 31)).toInt32) &&& 252645135))]) dJ6_bitCount_0f7a4_33 rfl (by decide) rfl ?_
  refine jr_iload_n 0 dJ6_bitCount_0f7a4_34 rfl rfl ?_
  refine jr_iload_n 0 dJ6_bitCount_0f7a4_35 rfl rfl ?_
  refine jr_bipush (v := 8) dJ6_bitCount_0f7a4_36 (by decide) ?_
  refine jr_iushr dJ6_bitCount_0f7a4_38 ?_
  refine jr_iadd dJ6_bitCount_0f7a4_39 ?_
  refine jr_istore_n (lv' := [(0, .int ((((((x0 - (((x0).toUInt32 >>> ((1 : Int32).toUInt32 &&& Int32.toUInt32 31)).toInt32 &&& 1431655765)) &&& 858993459) + ((((x0 - (((x0).toUInt32 >>> ((1 : Int32).toUInt32 &&& Int32.toUInt32 31)).toInt32 &&& 1431655765))).toUInt32 >>> ((2 : Int32).toUInt32 &&& Int32.toUInt32 31)).toInt32 &&& 858993459)) + (((((x0 - (((x0).toUInt32 >>> ((1 : Int32).toUInt32 &&& Int32.toUInt32 31)).toInt32 &&& 1431655765)) &&& 858993459) + ((((x0 - (((x0).toUInt32 >>> ((1 : Int32).toUInt32 &&& Int32.toUInt32 31)).toInt32 &&& 1431655765))).toUInt32 >>> ((2 : Int32).toUInt32 &&& Int32.toUInt32 31)).toInt32 &&& 858993459))).toUInt32 >>> ((4 : Int32).toUInt32 &&& Int32.toUInt32 31)).toInt32) &&& 252645135) + (((((((x0 - (((x0).toUInt32 >>> ((1 : Int32).toUInt32 &&& Int32.toUInt32 31)).toInt32 &&& 1431655765)) &&& 858993459) + ((((x0 - (((x0).toUInt32 >>> ((1 : Int32).toUInt32 &&& Int32.toUInt32 31)).toInt32 &&& 1431655765))).toUInt32 >>> ((2 : Int32).toUInt32 &&& Int32.toUInt32 31)).toInt32 &&& 858993459)) + (((((x0 - (((x0).toUInt32 >>> ((1 : Int32).toUInt32 &&& Int32.toUInt32 31)).toInt32 &&& 1431655765)) &&& 858993459) + ((((x0 - (((x0).toUInt32 >>> ((1 : Int32).toUInt32 &&& Int32.toUInt32 31)).toInt32 &&& 1431655765))).toUInt32 >>> ((2 : Int32).toUInt32 &&& Int32.toUInt32 31)).toInt32 &&& 858993459))).toUInt32 >>> ((4 : Int32).toUInt32 &&& Int32.toUInt32 31)).toInt32) &&& 252645135)).toUInt32 >>> ((8 : Int32).toUInt32 &&& Int32.toUInt32 31)).toInt32))]) dJ6_bitCount_0f7a4_40 rfl (by decide) rfl ?_
  refine jr_iload_n 0 dJ6_bitCount_0f7a4_41 rfl rfl ?_
  refine jr_iload_n 0 dJ6_bitCount_0f7a4_42 rfl rfl ?_
  refine jr_bipush (v := 16) dJ6_bitCount_0f7a4_43 (by decide) ?_
  refine jr_iushr dJ6_bitCount_0f7a4_45 ?_
  refine jr_iadd dJ6_bitCount_0f7a4_46 ?_
  refine jr_istore_n (lv' := [(0, .int (((((((x0 - (((x0).toUInt32 >>> ((1 : Int32).toUInt32 &&& Int32.toUInt32 31)).toInt32 &&& 1431655765)) &&& 858993459) + ((((x0 - (((x0).toUInt32 >>> ((1 : Int32).toUInt32 &&& Int32.toUInt32 31)).toInt32 &&& 1431655765))).toUInt32 >>> ((2 : Int32).toUInt32 &&& Int32.toUInt32 31)).toInt32 &&& 858993459)) + (((((x0 - (((x0).toUInt32 >>> ((1 : Int32).toUInt32 &&& Int32.toUInt32 31)).toInt32 &&& 1431655765)) &&& 858993459) + ((((x0 - (((x0).toUInt32 >>> ((1 : Int32).toUInt32 &&& Int32.toUInt32 31)).toInt32 &&& 1431655765))).toUInt32 >>> ((2 : Int32).toUInt32 &&& Int32.toUInt32 31)).toInt32 &&& 858993459))).toUInt32 >>> ((4 : Int32).toUInt32 &&& Int32.toUInt32 31)).toInt32) &&& 252645135) + (((((((x0 - (((x0).toUInt32 >>> ((1 : Int32).toUInt32 &&& Int32.toUInt32 31)).toInt32 &&& 1431655765)) &&& 858993459) + ((((x0 - (((x0).toUInt32 >>> ((1 : Int32).toUInt32 &&& Int32.toUInt32 31)).toInt32 &&& 1431655765))).toUInt32 >>> ((2 : Int32).toUInt32 &&& Int32.toUInt32 31)).toInt32 &&& 858993459)) + (((((x0 - (((x0).toUInt32 >>> ((1 : Int32).toUInt32 &&& Int32.toUInt32 31)).toInt32 &&& 1431655765)) &&& 858993459) + ((((x0 - (((x0).toUInt32 >>> ((1 : Int32).toUInt32 &&& Int32.toUInt32 31)).toInt32 &&& 1431655765))).toUInt32 >>> ((2 : Int32).toUInt32 &&& Int32.toUInt32 31)).toInt32 &&& 858993459))).toUInt32 >>> ((4 : Int32).toUInt32 &&& Int32.toUInt32 31)).toInt32) &&& 252645135)).toUInt32 >>> ((8 : Int32).toUInt32 &&& Int32.toUInt32 31)).toInt32) + ((((((((x0 - (((x0).toUInt32 >>> ((1 : Int32).toUInt32 &&& Int32.toUInt32 31)).toInt32 &&& 1431655765)) &&& 858993459) + ((((x0 - (((x0).toUInt32 >>> ((1 : Int32).toUInt32 &&& Int32.toUInt32 31)).toInt32 &&& 1431655765))).toUInt32 >>> ((2 : Int32).toUInt32 &&& Int32.toUInt32 31)).toInt32 &&& 858993459)) + (((((x0 - (((x0).toUInt32 >>> ((1 : Int32).toUInt32 &&& Int32.toUInt32 31)).toInt32 &&& 1431655765)) &&& 858993459) + ((((x0 - (((x0).toUInt32 >>> ((1 : Int32).toUInt32 &&& Int32.toUInt32 31)).toInt32 &&& 1431655765))).toUInt32 >>> ((2 : Int32).toUInt32 &&& Int32.toUInt32 31)).toInt32 &&& 858993459))).toUInt32 >>> ((4 : Int32).toUInt32 &&& Int32.toUInt32 31)).toInt32) &&& 252645135) + (((((((x0 - (((x0).toUInt32 >>> ((1 : Int32).toUInt32 &&& Int32.toUInt32 31)).toInt32 &&& 1431655765)) &&& 858993459) + ((((x0 - (((x0).toUInt32 >>> ((1 : Int32).toUInt32 &&& Int32.toUInt32 31)).toInt32 &&& 1431655765))).toUInt32 >>> ((2 : Int32).toUInt32 &&& Int32.toUInt32 31)).toInt32 &&& 858993459)) + (((((x0 - (((x0).toUInt32 >>> ((1 : Int32).toUInt32 &&& Int32.toUInt32 31)).toInt32 &&& 1431655765)) &&& 858993459) + ((((x0 - (((x0).toUInt32 >>> ((1 : Int32).toUInt32 &&& Int32.toUInt32 31)).toInt32 &&& 1431655765))).toUInt32 >>> ((2 : Int32).toUInt32 &&& Int32.toUInt32 31)).toInt32 &&& 858993459))).toUInt32 >>> ((4 : Int32).toUInt32 &&& Int32.toUInt32 31)).toInt32) &&& 252645135)).toUInt32 >>> ((8 : Int32).toUInt32 &&& Int32.toUInt32 31)).toInt32)).toUInt32 >>> ((16 : Int32).toUInt32 &&& Int32.toUInt32 31)).toInt32))]) dJ6_bitCount_0f7a4_47 rfl (by decide) rfl ?_
  refine jr_iload_n 0 dJ6_bitCount_0f7a4_48 rfl rfl ?_
  refine jr_bipush (v := 63) dJ6_bitCount_0f7a4_49 (by decide) ?_
  refine jr_iand dJ6_bitCount_0f7a4_51 ?_
  exact jr_iret (ty := .int) rfl rfl dJ6_bitCount_0f7a4_52 k
