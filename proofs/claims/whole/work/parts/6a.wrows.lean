/-! What a call of the reference leaves, as a world -/
def wPi (h : jH) (m : Nat) (Q : Int32 → MW → Prop) : jO → jH → Prop := jPi (fun r h' => ∃ μ', Q r μ' ∧ h' = mw h m μ') no2
def wPl (h : jH) (m : Nat) (Q : Int64 → MW → Prop) : jO → jH → Prop := jPl (fun r h' => ∃ μ', Q r μ' ∧ h' = mw h m μ') no2
def wPv (h : jH) (m : Nat) (Q : MW → Prop) : jO → jH → Prop := jPv (fun h' => ∃ μ', Q μ' ∧ h' = mw h m μ') no2
section
variable {g : jG} {d : Nat} {hs : jH} {P : jO → jH → Prop} {h : jH} {m : Nat} {μ : MW}
set_option maxRecDepth 20000 in
theorem wX12_thrown_0  (k : P (.inl (some (.int ((μ.1 4))))) (mw h m μ)) : J g mX12_thrown (d + 1) hs P 0 [(0, .ref m)] [] (mw h m μ) := by
  refine jr_aload_n 0 dX12_thrown_0 rfl rfl ?_
  refine jr_get jf_X12_67 dX12_thrown_1 mw_o rfl ?_
  exact jr_iret (ty := .int) rfl rfl dX12_thrown_4 k
set_option maxRecDepth 20000 in
theorem wX12_fails_0 {x1 : Int32} (k : P (.inl (some (.int 0))) (mw h m (mI μ 4 x1))) : J g mX12_fails (d + 1) hs P 0 [(0, .ref m), (1, .int x1)] [] (mw h m μ) := by
  refine jr_aload_n 0 dX12_fails_0 rfl rfl ?_
  refine jr_iload_n 1 dX12_fails_1 rfl rfl ?_
  refine jr_putE jp_X12_67 dX12_fails_2 mw_o (Nat.le_of_ble_eq_true rfl) rfl rfl (fun h1 e2 => ?_)
  replace e2 := e2.trans (mw_pI 4 x1)
  subst e2
  refine jr_iconst (v := 0) dX12_fails_5 (by decide) ?_
  exact jr_iret (ty := .int) rfl rfl dX12_fails_6 k
set_option maxRecDepth 20000 in
theorem wX12_within_0 {x0 : Int64} {x2 : Int64} {x4 : Int64} (k : (x0 < x2 → P (.inl (some (.int 0))) (mw h m μ)) ∧ (¬ x0 < x2 → (x4 < x0 → P (.inl (some (.int 0))) (mw h m μ)) ∧ (¬ x4 < x0 → P (.inl (some (.int 1))) (mw h m μ)))) : J g mX12_within (d + 1) hs P 0 [(0, .long x0), (2, .long x2), (4, .long x4)] [] (mw h m μ) := by
  refine jr_lload_n 0 dX12_within_0 rfl rfl ?_
  refine jr_lload_n 1 dX12_within_1 rfl rfl ?_
  refine jr_lcmp_lt (tgt := 17) dX12_within_2 dX12_within_3 (by decide) (fun c2 => ?_) (fun c2 => ?_)
  · have k := k.1 c2
    refine jr_iconst (v := 0) dX12_within_17 (by decide) ?_
    exact jr_iret (ty := .boolean) rfl rfl dX12_within_18 k
  · have k := k.2 c2
    refine jr_lload_n 0 dX12_within_6 rfl rfl ?_
    refine jr_lload 2 dX12_within_7 rfl ?_
    refine jr_lcmp_gt (tgt := 17) dX12_within_9 dX12_within_10 (by decide) (fun c9 => ?_) (fun c9 => ?_)
    · have k := k.1 c9
      refine jr_iconst (v := 0) dX12_within_17 (by decide) ?_
      exact jr_iret (ty := .boolean) rfl rfl dX12_within_18 k
    · have k := k.2 c9
      refine jr_iconst (v := 1) dX12_within_13 (by decide) ?_
      refine jr_goto (tgt := 18) dX12_within_14 (by decide) ?_
      exact jr_iret (ty := .boolean) rfl rfl dX12_within_18 k
set_option maxRecDepth 20000 in
theorem wX12_has_0 {x0 : Int32} {x1 : Int32} (k : (((x0 >>> (x1 &&& 31)) &&& 1) = 1 → P (.inl (some (.int 1))) (mw h m μ)) ∧ (¬ ((x0 >>> (x1 &&& 31)) &&& 1) = 1 → P (.inl (some (.int 0))) (mw h m μ))) : J g mX12_has (d + 1) hs P 0 [(0, .int x0), (1, .int x1)] [] (mw h m μ) := by
  refine jr_iload_n 0 dX12_has_0 rfl rfl ?_
  refine jr_iload_n 1 dX12_has_1 rfl rfl ?_
  refine jr_ishr dX12_has_2 ?_
  refine jr_iconst (v := 1) dX12_has_3 (by decide) ?_
  refine jr_iand dX12_has_4 ?_
  refine jr_iconst (v := 1) dX12_has_5 (by decide) ?_
  refine jr_icmp_ne (tgt := 13) dX12_has_6 (by decide) (fun c6 => ?_) (fun c6 => ?_)
  · have k := k.2 c6
    refine jr_iconst (v := 0) dX12_has_13 (by decide) ?_
    exact jr_iret (ty := .boolean) rfl rfl dX12_has_14 k
  · have k := k.1 c6
    refine jr_iconst (v := 1) dX12_has_9 (by decide) ?_
    refine jr_goto (tgt := 14) dX12_has_10 (by decide) ?_
    exact jr_iret (ty := .boolean) rfl rfl dX12_has_14 k
set_option maxRecDepth 20000 in
theorem wX12_size_0 {x0 : Int32} (k : J g mX12_size (d + 1) hs P 4 [(1, .int 0), (2, .int x0)] [] (mw h m μ)) : J g mX12_size (d + 1) hs P 0 [(0, .int x0)] [] (mw h m μ) := by
  refine jr_iconst (v := 0) dX12_size_0 (by decide) ?_
  refine jr_istore_n (lv' := [(1, .int 0), (0, .int x0)]) dX12_size_1 rfl (by decide) rfl ?_
  refine jr_iload_n 1 dX12_size_2 rfl rfl ?_
  refine jr_istore_n (lv' := [(2, .int x0), (1, .int 0), (0, .int x0)]) dX12_size_3 rfl (by decide) rfl ?_
  exact jr_sub [1, 0] rfl k
set_option maxRecDepth 20000 in
theorem wX12_size_4 {x1 : Int32} {x2 : Int32} (k : (x2 = 0 → P (.inl (some (.int x1))) (mw h m μ)) ∧ (¬ x2 = 0 → J g mX12_size (d + 1) hs P 4 [(1, .int (x1 + 1)), (2, .int (x2 &&& (x2 - 1)))] [] (mw h m μ))) : J g mX12_size (d + 1) hs P 4 [(1, .int x1), (2, .int x2)] [] (mw h m μ) := by
  refine jr_iload_n 1 dX12_size_4 rfl rfl ?_
  refine jr_if_eq (tgt := 20) dX12_size_5 (by decide) (fun c5 => ?_) (fun c5 => ?_)
  · have k := k.1 c5
    refine jr_iload_n 0 dX12_size_20 rfl rfl ?_
    exact jr_iret (ty := .int) rfl rfl dX12_size_21 k
  · have k := k.2 c5
    refine jr_iinc (v := (x1 + 1)) (lv' := [(1, .int (x1 + 1)), (2, .int x2)]) 0 dX12_size_8 rfl rfl (by decide) rfl ?_
    refine jr_iload_n 1 dX12_size_11 rfl rfl ?_
    refine jr_iload_n 1 dX12_size_12 rfl rfl ?_
    refine jr_iconst (v := 1) dX12_size_13 (by decide) ?_
    refine jr_isub dX12_size_14 ?_
    refine jr_iand dX12_size_15 ?_
    refine jr_istore_n (lv' := [(2, .int (x2 &&& (x2 - 1))), (1, .int (x1 + 1))]) dX12_size_16 rfl (by decide) rfl ?_
    refine jr_goto (tgt := 4) dX12_size_17 (by decide) ?_
    exact jr_sub [1, 0] rfl k
set_option maxRecDepth 20000 in
theorem wX12_feed_0 {x1 : Int32} {x2 : Int32} {x3 : Int32} {x4 : Int32} {x5 : Int32} (k : (900 < ((((mI μ 4 0)).1 6) + 20) → P (.inl (some (.int ((-1))))) (mw h m (mI μ 4 0))) ∧ (¬ 900 < ((((mI μ 4 0)).1 6) + 20) → J g mX12_feed (d + 1) hs P 23 [(0, .ref m), (1, .int x1), (2, .int x2), (3, .int x3), (4, .int x4), (5, .int x5), (6, .int 0)] [] (mw h m (mI μ 4 0)))) : J g mX12_feed (d + 1) hs P 0 [(0, .ref m), (1, .int x1), (2, .int x2), (3, .int x3), (4, .int x4), (5, .int x5)] [] (mw h m μ) := by
  refine jr_aload_n 0 dX12_feed_0 rfl rfl ?_
  refine jr_iconst (v := 0) dX12_feed_1 (by decide) ?_
  refine jr_putE jp_X12_67 dX12_feed_2 mw_o (Nat.le_of_ble_eq_true rfl) rfl rfl (fun h1 e2 => ?_)
  replace e2 := e2.trans (mw_pI 4 ((0 : Int32)))
  subst e2
  refine jr_aload_n 0 dX12_feed_5 rfl rfl ?_
  refine jr_get jf_X12_70 dX12_feed_6 mw_o rfl ?_
  refine jr_bipush (v := 20) dX12_feed_9 (by decide) ?_
  refine jr_iadd dX12_feed_11 ?_
  refine jr_sipush (v := 900) dX12_feed_12 (by decide) ?_
  refine jr_icmp_le (tgt := 20) dX12_feed_15 (by decide) (fun c15 => ?_) (fun c15 => ?_)
  · have k := k.2 c15
    refine jr_iconst (v := 0) dX12_feed_20 (by decide) ?_
    refine jr_istore (lv' := [(6, .int 0), (0, .ref m), (1, .int x1), (2, .int x2), (3, .int x3), (4, .int x4), (5, .int x5)]) dX12_feed_21 (by decide) rfl ?_
    exact jr_sub [1, 2, 3, 4, 5, 6, 0] rfl k
  · have k := k.1 c15
    refine jr_iconst (v := (-1)) dX12_feed_18 (by decide) ?_
    exact jr_iret (ty := .int) rfl rfl dX12_feed_19 k
set_option maxRecDepth 20000 in
theorem wX12_feed_23 {x1 : Int32} {x2 : Int32} {x3 : Int32} {x4 : Int32} {x5 : Int32} {x6 : Int32} (k : (x6 < 20 → (x6 < 4 → J g mX12_feed (d + 1) hs P 76 [(0, .ref m), (1, .int x1), (2, .int x2), (3, .int x3), (4, .int x4), (5, .int x5), (6, .int x6)] [.int x1] (mw h m μ)) ∧ (¬ x6 < 4 → (x6 < 8 → J g mX12_feed (d + 1) hs P 76 [(0, .ref m), (1, .int x1), (2, .int x2), (3, .int x3), (4, .int x4), (5, .int x5), (6, .int x6)] [.int x2] (mw h m μ)) ∧ (¬ x6 < 8 → (x6 < 12 → J g mX12_feed (d + 1) hs P 76 [(0, .ref m), (1, .int x1), (2, .int x2), (3, .int x3), (4, .int x4), (5, .int x5), (6, .int x6)] [.int x3] (mw h m μ)) ∧ (¬ x6 < 12 → (x6 < 16 → J g mX12_feed (d + 1) hs P 76 [(0, .ref m), (1, .int x1), (2, .int x2), (3, .int x3), (4, .int x4), (5, .int x5), (6, .int x6)] [.int x4] (mw h m μ)) ∧ (¬ x6 < 16 → J g mX12_feed (d + 1) hs P 76 [(0, .ref m), (1, .int x1), (2, .int x2), (3, .int x3), (4, .int x4), (5, .int x5), (6, .int x6)] [.int x5] (mw h m μ)))))) ∧ (¬ x6 < 20 → P (.inl (some (.int ((μ.1 6))))) (mw h m μ))) : J g mX12_feed (d + 1) hs P 23 [(0, .ref m), (1, .int x1), (2, .int x2), (3, .int x3), (4, .int x4), (5, .int x5), (6, .int x6)] [] (mw h m μ) := by
  refine jr_iload 6 dX12_feed_23 rfl ?_
  refine jr_bipush (v := 20) dX12_feed_25 (by decide) ?_
  refine jr_icmp_ge (tgt := 120) dX12_feed_27 (by decide) (fun c27 => ?_) (fun c27 => ?_)
  · have k := k.2 c27
    refine jr_aload_n 0 dX12_feed_120 rfl rfl ?_
    refine jr_get jf_X12_70 dX12_feed_121 mw_o rfl ?_
    exact jr_iret (ty := .int) rfl rfl dX12_feed_124 k
  · have k := k.1 c27
    refine jr_iload 6 dX12_feed_30 rfl ?_
    refine jr_iconst (v := 4) dX12_feed_32 (by decide) ?_
    refine jr_icmp_ge (tgt := 40) dX12_feed_33 (by decide) (fun c33 => ?_) (fun c33 => ?_)
    · have k := k.2 c33
      refine jr_iload 6 dX12_feed_40 rfl ?_
      refine jr_bipush (v := 8) dX12_feed_42 (by decide) ?_
      refine jr_icmp_ge (tgt := 51) dX12_feed_44 (by decide) (fun c44 => ?_) (fun c44 => ?_)
      · have k := k.2 c44
        refine jr_iload 6 dX12_feed_51 rfl ?_
        refine jr_bipush (v := 12) dX12_feed_53 (by decide) ?_
        refine jr_icmp_ge (tgt := 62) dX12_feed_55 (by decide) (fun c55 => ?_) (fun c55 => ?_)
        · have k := k.2 c55
          refine jr_iload 6 dX12_feed_62 rfl ?_
          refine jr_bipush (v := 16) dX12_feed_64 (by decide) ?_
          refine jr_icmp_ge (tgt := 74) dX12_feed_66 (by decide) (fun c66 => ?_) (fun c66 => ?_)
          · have k := k.2 c66
            refine jr_iload 5 dX12_feed_74 rfl ?_
            exact jr_sub [0, 1, 2, 3, 4, 5, 6] rfl k
          · have k := k.1 c66
            refine jr_iload 4 dX12_feed_69 rfl ?_
            refine jr_goto (tgt := 76) dX12_feed_71 (by decide) ?_
            exact jr_sub [0, 1, 2, 3, 4, 5, 6] rfl k
        · have k := k.1 c55
          refine jr_iload_n 3 dX12_feed_58 rfl rfl ?_
          refine jr_goto (tgt := 76) dX12_feed_59 (by decide) ?_
          exact jr_sub [0, 1, 2, 3, 4, 5, 6] rfl k
      · have k := k.1 c44
        refine jr_iload_n 2 dX12_feed_47 rfl rfl ?_
        refine jr_goto (tgt := 76) dX12_feed_48 (by decide) ?_
        exact jr_sub [0, 1, 2, 3, 4, 5, 6] rfl k
    · have k := k.1 c33
      refine jr_iload_n 1 dX12_feed_36 rfl rfl ?_
      refine jr_goto (tgt := 76) dX12_feed_37 (by decide) ?_
      exact jr_sub [0, 1, 2, 3, 4, 5, 6] rfl k
set_option maxRecDepth 20000 in
theorem wX12_feed_76 {x1 : Int32} {x2 : Int32} {x3 : Int32} {x4 : Int32} {x5 : Int32} {x6 : Int32} {s0 : Int32} (k : vp_in ((μ.1 6)) 900 ∧ J g mX12_feed (d + 1) hs P 23 [(0, .ref m), (1, .int x1), (2, .int x2), (3, .int x3), (4, .int x4), (5, .int x5), (6, .int (x6 + 1))] [] (mw h m (mI ((mA μ 5 (upd (μ.2.1 5) (ix ((μ.1 6))) ((((s0).toUInt32 >>> (((24 - (8 * (x6 &&& 3))) : Int32).toUInt32 &&& Int32.toUInt32 31)).toInt32 &&& 255))))) 6 (((((mA μ 5 (upd (μ.2.1 5) (ix ((μ.1 6))) ((((s0).toUInt32 >>> (((24 - (8 * (x6 &&& 3))) : Int32).toUInt32 &&& Int32.toUInt32 31)).toInt32 &&& 255))))).1 6) + 1))))) : J g mX12_feed (d + 1) hs P 76 [(0, .ref m), (1, .int x1), (2, .int x2), (3, .int x3), (4, .int x4), (5, .int x5), (6, .int x6)] [.int s0] (mw h m μ) := by
  refine jr_istore (lv' := [(7, .int s0), (0, .ref m), (1, .int x1), (2, .int x2), (3, .int x3), (4, .int x4), (5, .int x5), (6, .int x6)]) dX12_feed_76 (by decide) rfl ?_
  refine jr_aload_n 1 dX12_feed_78 rfl rfl ?_
  refine jr_get jf_X12_23 dX12_feed_79 mw_o rfl ?_
  refine jr_aload_n 1 dX12_feed_82 rfl rfl ?_
  refine jr_get jf_X12_70 dX12_feed_83 mw_o rfl ?_
  refine jr_iload 0 dX12_feed_86 rfl ?_
  refine jr_bipush (v := 24) dX12_feed_88 (by decide) ?_
  refine jr_bipush (v := 8) dX12_feed_90 (by decide) ?_
  refine jr_iload 7 dX12_feed_92 rfl ?_
  refine jr_iconst (v := 3) dX12_feed_94 (by decide) ?_
  refine jr_iand dX12_feed_95 ?_
  refine jr_imul dX12_feed_96 ?_
  refine jr_isub dX12_feed_97 ?_
  refine jr_iushr dX12_feed_98 ?_
  refine jr_sipush (v := 255) dX12_feed_99 (by decide) ?_
  refine jr_iand dX12_feed_102 ?_
  obtain ⟨e3, k⟩ := k
  refine jr_iastE dX12_feed_103 mw_5 e3 (fun h1 e2 => ?_)
  replace e2 : h1 = mw h m (mA μ 5 (upd (μ.2.1 5) (ix ((μ.1 6))) ((((s0).toUInt32 >>> (((24 - (8 * (x6 &&& 3))) : Int32).toUInt32 &&& Int32.toUInt32 31)).toInt32 &&& 255)))) := e2.trans (mw_pA (by decide) (by decide) _)
  subst e2
  refine jr_aload_n 1 dX12_feed_104 rfl rfl ?_
  refine jr_dup dX12_feed_105 rfl ?_
  refine jr_get jf_X12_70 dX12_feed_106 mw_o rfl ?_
  refine jr_iconst (v := 1) dX12_feed_109 (by decide) ?_
  refine jr_iadd dX12_feed_110 ?_
  refine jr_putE jp_X12_70 dX12_feed_111 mw_o (Nat.le_of_ble_eq_true rfl) rfl rfl (fun h4 e5 => ?_)
  replace e5 := e5.trans (mw_pI 6 (((((mA μ 5 (upd (μ.2.1 5) (ix ((μ.1 6))) ((((s0).toUInt32 >>> (((24 - (8 * (x6 &&& 3))) : Int32).toUInt32 &&& Int32.toUInt32 31)).toInt32 &&& 255))))).1 6) + 1)))
  subst e5
  refine jr_iinc (v := (x6 + 1)) (lv' := [(6, .int (x6 + 1)), (7, .int s0), (0, .ref m), (1, .int x1), (2, .int x2), (3, .int x3), (4, .int x4), (5, .int x5)]) 7 dX12_feed_114 rfl rfl (by decide) rfl ?_
  refine jr_goto (tgt := 23) dX12_feed_117 (by decide) ?_
  exact jr_sub [2, 3, 4, 5, 6, 7, 0] rfl k
set_option maxRecDepth 20000 in
theorem wX12_see_0 {x1 : Int32} (k : (x1 < (μ.1 7) → vp_in x1 900 ∧ P (.inl (some (.int ((μ.2.1 5 (ix x1)))))) (mw h m μ)) ∧ (¬ x1 < (μ.1 7) → P (.inl (some (.int 0))) (mw h m μ))) : J g mX12_see (d + 1) hs P 0 [(0, .ref m), (1, .int x1)] [] (mw h m μ) := by
  refine jr_iload_n 1 dX12_see_0 rfl rfl ?_
  refine jr_aload_n 0 dX12_see_1 rfl rfl ?_
  refine jr_get jf_X12_73 dX12_see_2 mw_o rfl ?_
  refine jr_icmp_ge (tgt := 17) dX12_see_5 (by decide) (fun c5 => ?_) (fun c5 => ?_)
  · have k := k.2 c5
    refine jr_iconst (v := 0) dX12_see_17 (by decide) ?_
    exact jr_iret (ty := .int) rfl rfl dX12_see_18 k
  · have k := k.1 c5
    refine jr_aload_n 0 dX12_see_8 rfl rfl ?_
    refine jr_get jf_X12_23 dX12_see_9 mw_o rfl ?_
    refine jr_iload_n 1 dX12_see_12 rfl rfl ?_
    obtain ⟨e1, k⟩ := k
    refine jr_iald dX12_see_13 mw_5 e1 ?_
    refine jr_goto (tgt := 18) dX12_see_14 (by decide) ?_
    exact jr_iret (ty := .int) rfl rfl dX12_see_18 k
set_option maxRecDepth 20000 in
theorem wX12_isLetter_0 {x0 : Int32} (k : (x0 < 97 → P (.inl (some (.int 0))) (mw h m μ)) ∧ (¬ x0 < 97 → (122 < x0 → P (.inl (some (.int 0))) (mw h m μ)) ∧ (¬ 122 < x0 → P (.inl (some (.int 1))) (mw h m μ)))) : J g mX12_isLetter (d + 1) hs P 0 [(0, .int x0)] [] (mw h m μ) := by
  refine jr_iload_n 0 dX12_isLetter_0 rfl rfl ?_
  refine jr_bipush (v := 97) dX12_isLetter_1 (by decide) ?_
  refine jr_icmp_lt (tgt := 16) dX12_isLetter_3 (by decide) (fun c3 => ?_) (fun c3 => ?_)
  · have k := k.1 c3
    refine jr_iconst (v := 0) dX12_isLetter_16 (by decide) ?_
    exact jr_iret (ty := .boolean) rfl rfl dX12_isLetter_17 k
  · have k := k.2 c3
    refine jr_iload_n 0 dX12_isLetter_6 rfl rfl ?_
    refine jr_bipush (v := 122) dX12_isLetter_7 (by decide) ?_
    refine jr_icmp_gt (tgt := 16) dX12_isLetter_9 (by decide) (fun c9 => ?_) (fun c9 => ?_)
    · have k := k.1 c9
      refine jr_iconst (v := 0) dX12_isLetter_16 (by decide) ?_
      exact jr_iret (ty := .boolean) rfl rfl dX12_isLetter_17 k
    · have k := k.2 c9
      refine jr_iconst (v := 1) dX12_isLetter_12 (by decide) ?_
      refine jr_goto (tgt := 17) dX12_isLetter_13 (by decide) ?_
      exact jr_iret (ty := .boolean) rfl rfl dX12_isLetter_17 k
set_option maxRecDepth 20000 in
theorem wX12_isDigit_0 {x0 : Int32} (k : (x0 < 48 → P (.inl (some (.int 0))) (mw h m μ)) ∧ (¬ x0 < 48 → (57 < x0 → P (.inl (some (.int 0))) (mw h m μ)) ∧ (¬ 57 < x0 → P (.inl (some (.int 1))) (mw h m μ)))) : J g mX12_isDigit (d + 1) hs P 0 [(0, .int x0)] [] (mw h m μ) := by
  refine jr_iload_n 0 dX12_isDigit_0 rfl rfl ?_
  refine jr_bipush (v := 48) dX12_isDigit_1 (by decide) ?_
  refine jr_icmp_lt (tgt := 16) dX12_isDigit_3 (by decide) (fun c3 => ?_) (fun c3 => ?_)
  · have k := k.1 c3
    refine jr_iconst (v := 0) dX12_isDigit_16 (by decide) ?_
    exact jr_iret (ty := .boolean) rfl rfl dX12_isDigit_17 k
  · have k := k.2 c3
    refine jr_iload_n 0 dX12_isDigit_6 rfl rfl ?_
    refine jr_bipush (v := 57) dX12_isDigit_7 (by decide) ?_
    refine jr_icmp_gt (tgt := 16) dX12_isDigit_9 (by decide) (fun c9 => ?_) (fun c9 => ?_)
    · have k := k.1 c9
      refine jr_iconst (v := 0) dX12_isDigit_16 (by decide) ?_
      exact jr_iret (ty := .boolean) rfl rfl dX12_isDigit_17 k
    · have k := k.2 c9
      refine jr_iconst (v := 1) dX12_isDigit_12 (by decide) ?_
      refine jr_goto (tgt := 17) dX12_isDigit_13 (by decide) ?_
      exact jr_iret (ty := .boolean) rfl rfl dX12_isDigit_17 k
set_option maxRecDepth 20000 in
theorem wX12_isSignByte_0 {x0 : Int32} (k : (x0 = 91 → J g mX12_isSignByte (d + 1) hs P 36 [(0, .int x0)] [] (mw h m μ)) ∧ (¬ x0 = 91 → (x0 = 93 → J g mX12_isSignByte (d + 1) hs P 36 [(0, .int x0)] [] (mw h m μ)) ∧ (¬ x0 = 93 → (x0 = 61 → J g mX12_isSignByte (d + 1) hs P 36 [(0, .int x0)] [] (mw h m μ)) ∧ (¬ x0 = 61 → (x0 = 60 → J g mX12_isSignByte (d + 1) hs P 36 [(0, .int x0)] [] (mw h m μ)) ∧ (¬ x0 = 60 → (x0 = 62 → J g mX12_isSignByte (d + 1) hs P 36 [(0, .int x0)] [] (mw h m μ)) ∧ (¬ x0 = 62 → (x0 = 58 → J g mX12_isSignByte (d + 1) hs P 36 [(0, .int x0)] [] (mw h m μ)) ∧ (¬ x0 = 58 → J g mX12_isSignByte (d + 1) hs P 41 [(0, .int x0)] [.int 0] (mw h m μ)))))))) : J g mX12_isSignByte (d + 1) hs P 0 [(0, .int x0)] [] (mw h m μ) := by
  refine jr_iload_n 0 dX12_isSignByte_0 rfl rfl ?_
  refine jr_bipush (v := 91) dX12_isSignByte_1 (by decide) ?_
  refine jr_icmp_eq (tgt := 36) dX12_isSignByte_3 (by decide) (fun c3 => ?_) (fun c3 => ?_)
  · have k := k.1 c3
    exact jr_sub [0] rfl k
  · have k := k.2 c3
    refine jr_iload_n 0 dX12_isSignByte_6 rfl rfl ?_
    refine jr_bipush (v := 93) dX12_isSignByte_7 (by decide) ?_
    refine jr_icmp_eq (tgt := 36) dX12_isSignByte_9 (by decide) (fun c9 => ?_) (fun c9 => ?_)
    · have k := k.1 c9
      exact jr_sub [0] rfl k
    · have k := k.2 c9
      refine jr_iload_n 0 dX12_isSignByte_12 rfl rfl ?_
      refine jr_bipush (v := 61) dX12_isSignByte_13 (by decide) ?_
      refine jr_icmp_eq (tgt := 36) dX12_isSignByte_15 (by decide) (fun c15 => ?_) (fun c15 => ?_)
      · have k := k.1 c15
        exact jr_sub [0] rfl k
      · have k := k.2 c15
        refine jr_iload_n 0 dX12_isSignByte_18 rfl rfl ?_
        refine jr_bipush (v := 60) dX12_isSignByte_19 (by decide) ?_
        refine jr_icmp_eq (tgt := 36) dX12_isSignByte_21 (by decide) (fun c21 => ?_) (fun c21 => ?_)
        · have k := k.1 c21
          exact jr_sub [0] rfl k
        · have k := k.2 c21
          refine jr_iload_n 0 dX12_isSignByte_24 rfl rfl ?_
          refine jr_bipush (v := 62) dX12_isSignByte_25 (by decide) ?_
          refine jr_icmp_eq (tgt := 36) dX12_isSignByte_27 (by decide) (fun c27 => ?_) (fun c27 => ?_)
          · have k := k.1 c27
            exact jr_sub [0] rfl k
          · have k := k.2 c27
            refine jr_iload_n 0 dX12_isSignByte_30 rfl rfl ?_
            refine jr_bipush (v := 58) dX12_isSignByte_31 (by decide) ?_
            refine jr_icmp_ne (tgt := 40) dX12_isSignByte_33 (by decide) (fun c33 => ?_) (fun c33 => ?_)
            · have k := k.2 c33
              refine jr_iconst (v := 0) dX12_isSignByte_40 (by decide) ?_
              exact jr_sub [0] rfl k
            · have k := k.1 c33
              exact jr_sub [0] rfl k
set_option maxRecDepth 20000 in
theorem wX12_isSignByte_36 {x0 : Int32} (k : J g mX12_isSignByte (d + 1) hs P 41 [(0, .int x0)] [.int 1] (mw h m μ)) : J g mX12_isSignByte (d + 1) hs P 36 [(0, .int x0)] [] (mw h m μ) := by
  refine jr_iconst (v := 1) dX12_isSignByte_36 (by decide) ?_
  refine jr_goto (tgt := 41) dX12_isSignByte_37 (by decide) ?_
  exact jr_sub [0] rfl k
set_option maxRecDepth 20000 in
theorem wX12_isSignByte_41 {x0 : Int32} {s0 : Int32} (k : (s0 = 0 → (x0 = 59 → P (.inl (some (.int 1))) (mw h m μ)) ∧ (¬ x0 = 59 → (x0 = 43 → P (.inl (some (.int 1))) (mw h m μ)) ∧ (¬ x0 = 43 → (x0 = 45 → P (.inl (some (.int 1))) (mw h m μ)) ∧ (¬ x0 = 45 → (x0 = 42 → P (.inl (some (.int 1))) (mw h m μ)) ∧ (¬ x0 = 42 → (x0 = 40 → P (.inl (some (.int 1))) (mw h m μ)) ∧ (¬ x0 = 40 → (x0 = 41 → P (.inl (some (.int 1))) (mw h m μ)) ∧ (¬ x0 = 41 → P (.inl (some (.int 0))) (mw h m μ)))))))) ∧ (¬ s0 = 0 → P (.inl (some (.int 1))) (mw h m μ))) : J g mX12_isSignByte (d + 1) hs P 41 [(0, .int x0)] [.int s0] (mw h m μ) := by
  refine jr_istore_n (lv' := [(1, .int s0), (0, .int x0)]) dX12_isSignByte_41 rfl (by decide) rfl ?_
  refine jr_iload_n 0 dX12_isSignByte_42 rfl rfl ?_
  refine jr_if_ne (tgt := 82) dX12_isSignByte_43 (by decide) (fun c43 => ?_) (fun c43 => ?_)
  · have k := k.2 c43
    refine jr_iconst (v := 1) dX12_isSignByte_82 (by decide) ?_
    refine jr_goto (tgt := 87) dX12_isSignByte_83 (by decide) ?_
    exact jr_iret (ty := .boolean) rfl rfl dX12_isSignByte_87 k
  · have k := k.1 c43
    refine jr_iload_n 1 dX12_isSignByte_46 rfl rfl ?_
    refine jr_bipush (v := 59) dX12_isSignByte_47 (by decide) ?_
    refine jr_icmp_eq (tgt := 82) dX12_isSignByte_49 (by decide) (fun c49 => ?_) (fun c49 => ?_)
    · have k := k.1 c49
      refine jr_iconst (v := 1) dX12_isSignByte_82 (by decide) ?_
      refine jr_goto (tgt := 87) dX12_isSignByte_83 (by decide) ?_
      exact jr_iret (ty := .boolean) rfl rfl dX12_isSignByte_87 k
    · have k := k.2 c49
      refine jr_iload_n 1 dX12_isSignByte_52 rfl rfl ?_
      refine jr_bipush (v := 43) dX12_isSignByte_53 (by decide) ?_
      refine jr_icmp_eq (tgt := 82) dX12_isSignByte_55 (by decide) (fun c55 => ?_) (fun c55 => ?_)
      · have k := k.1 c55
        refine jr_iconst (v := 1) dX12_isSignByte_82 (by decide) ?_
        refine jr_goto (tgt := 87) dX12_isSignByte_83 (by decide) ?_
        exact jr_iret (ty := .boolean) rfl rfl dX12_isSignByte_87 k
      · have k := k.2 c55
        refine jr_iload_n 1 dX12_isSignByte_58 rfl rfl ?_
        refine jr_bipush (v := 45) dX12_isSignByte_59 (by decide) ?_
        refine jr_icmp_eq (tgt := 82) dX12_isSignByte_61 (by decide) (fun c61 => ?_) (fun c61 => ?_)
        · have k := k.1 c61
          refine jr_iconst (v := 1) dX12_isSignByte_82 (by decide) ?_
          refine jr_goto (tgt := 87) dX12_isSignByte_83 (by decide) ?_
          exact jr_iret (ty := .boolean) rfl rfl dX12_isSignByte_87 k
        · have k := k.2 c61
          refine jr_iload_n 1 dX12_isSignByte_64 rfl rfl ?_
          refine jr_bipush (v := 42) dX12_isSignByte_65 (by decide) ?_
          refine jr_icmp_eq (tgt := 82) dX12_isSignByte_67 (by decide) (fun c67 => ?_) (fun c67 => ?_)
          · have k := k.1 c67
            refine jr_iconst (v := 1) dX12_isSignByte_82 (by decide) ?_
            refine jr_goto (tgt := 87) dX12_isSignByte_83 (by decide) ?_
            exact jr_iret (ty := .boolean) rfl rfl dX12_isSignByte_87 k
          · have k := k.2 c67
            refine jr_iload_n 1 dX12_isSignByte_70 rfl rfl ?_
            refine jr_bipush (v := 40) dX12_isSignByte_71 (by decide) ?_
            refine jr_icmp_eq (tgt := 82) dX12_isSignByte_73 (by decide) (fun c73 => ?_) (fun c73 => ?_)
            · have k := k.1 c73
              refine jr_iconst (v := 1) dX12_isSignByte_82 (by decide) ?_
              refine jr_goto (tgt := 87) dX12_isSignByte_83 (by decide) ?_
              exact jr_iret (ty := .boolean) rfl rfl dX12_isSignByte_87 k
            · have k := k.2 c73
              refine jr_iload_n 1 dX12_isSignByte_76 rfl rfl ?_
              refine jr_bipush (v := 41) dX12_isSignByte_77 (by decide) ?_
              refine jr_icmp_ne (tgt := 86) dX12_isSignByte_79 (by decide) (fun c79 => ?_) (fun c79 => ?_)
              · have k := k.2 c79
                refine jr_iconst (v := 0) dX12_isSignByte_86 (by decide) ?_
                exact jr_iret (ty := .boolean) rfl rfl dX12_isSignByte_87 k
              · have k := k.1 c79
                refine jr_iconst (v := 1) dX12_isSignByte_82 (by decide) ?_
                refine jr_goto (tgt := 87) dX12_isSignByte_83 (by decide) ?_
                exact jr_iret (ty := .boolean) rfl rfl dX12_isSignByte_87 k
set_option maxRecDepth 20000 in
theorem wX12_readsOn_0  (k : ((μ.1 8) < (μ.1 7) → vp_in ((μ.1 8)) 900 ∧ ((μ.2.1 5 (ix ((μ.1 8)))) = 32 → J g mX12_readsOn (d + 1) hs P 39 [(0, .ref m)] [] (mw h m μ)) ∧ (¬ (μ.2.1 5 (ix ((μ.1 8)))) = 32 → vp_in ((μ.1 8)) 900 ∧ ((μ.2.1 5 (ix ((μ.1 8)))) = 10 → J g mX12_readsOn (d + 1) hs P 39 [(0, .ref m)] [] (mw h m μ)) ∧ (¬ (μ.2.1 5 (ix ((μ.1 8)))) = 10 → J g mX12_readsOn (d + 1) hs P 52 [(0, .ref m)] [] (mw h m μ)))) ∧ (¬ (μ.1 8) < (μ.1 7) → J g mX12_readsOn (d + 1) hs P 52 [(0, .ref m)] [] (mw h m μ))) : J g mX12_readsOn (d + 1) hs P 0 [(0, .ref m)] [] (mw h m μ) := by
  refine jr_aload_n 0 dX12_readsOn_0 rfl rfl ?_
  refine jr_get jf_X12_76 dX12_readsOn_1 mw_o rfl ?_
  refine jr_aload_n 0 dX12_readsOn_4 rfl rfl ?_
  refine jr_get jf_X12_73 dX12_readsOn_5 mw_o rfl ?_
  refine jr_icmp_ge (tgt := 52) dX12_readsOn_8 (by decide) (fun c8 => ?_) (fun c8 => ?_)
  · have k := k.2 c8
    exact jr_sub [0] rfl k
  · have k := k.1 c8
    refine jr_aload_n 0 dX12_readsOn_11 rfl rfl ?_
    refine jr_get jf_X12_23 dX12_readsOn_12 mw_o rfl ?_
    refine jr_aload_n 0 dX12_readsOn_15 rfl rfl ?_
    refine jr_get jf_X12_76 dX12_readsOn_16 mw_o rfl ?_
    obtain ⟨e1, k⟩ := k
    refine jr_iald dX12_readsOn_19 mw_5 e1 ?_
    refine jr_bipush (v := 32) dX12_readsOn_20 (by decide) ?_
    refine jr_icmp_eq (tgt := 39) dX12_readsOn_22 (by decide) (fun c22 => ?_) (fun c22 => ?_)
    · have k := k.1 c22
      exact jr_sub [0] rfl k
    · have k := k.2 c22
      refine jr_aload_n 0 dX12_readsOn_25 rfl rfl ?_
      refine jr_get jf_X12_23 dX12_readsOn_26 mw_o rfl ?_
      refine jr_aload_n 0 dX12_readsOn_29 rfl rfl ?_
      refine jr_get jf_X12_76 dX12_readsOn_30 mw_o rfl ?_
      obtain ⟨e2, k⟩ := k
      refine jr_iald dX12_readsOn_33 mw_5 e2 ?_
      refine jr_bipush (v := 10) dX12_readsOn_34 (by decide) ?_
      refine jr_icmp_ne (tgt := 52) dX12_readsOn_36 (by decide) (fun c36 => ?_) (fun c36 => ?_)
      · have k := k.2 c36
        exact jr_sub [0] rfl k
      · have k := k.1 c36
        exact jr_sub [0] rfl k
set_option maxRecDepth 20000 in
theorem wX12_readsOn_39  (k : ((((mI μ 8 (((μ.1 8) + 1)))).1 8) < (((mI μ 8 (((μ.1 8) + 1)))).1 7) → vp_in ((((mI μ 8 (((μ.1 8) + 1)))).1 8)) 900 ∧ ((((mI μ 8 (((μ.1 8) + 1)))).2.1 5 (ix ((((mI μ 8 (((μ.1 8) + 1)))).1 8)))) = 32 → J g mX12_readsOn (d + 1) hs P 39 [(0, .ref m)] [] (mw h m (mI μ 8 (((μ.1 8) + 1))))) ∧ (¬ (((mI μ 8 (((μ.1 8) + 1)))).2.1 5 (ix ((((mI μ 8 (((μ.1 8) + 1)))).1 8)))) = 32 → vp_in ((((mI μ 8 (((μ.1 8) + 1)))).1 8)) 900 ∧ ((((mI μ 8 (((μ.1 8) + 1)))).2.1 5 (ix ((((mI μ 8 (((μ.1 8) + 1)))).1 8)))) = 10 → J g mX12_readsOn (d + 1) hs P 39 [(0, .ref m)] [] (mw h m (mI μ 8 (((μ.1 8) + 1))))) ∧ (¬ (((mI μ 8 (((μ.1 8) + 1)))).2.1 5 (ix ((((mI μ 8 (((μ.1 8) + 1)))).1 8)))) = 10 → J g mX12_readsOn (d + 1) hs P 52 [(0, .ref m)] [] (mw h m (mI μ 8 (((μ.1 8) + 1))))))) ∧ (¬ (((mI μ 8 (((μ.1 8) + 1)))).1 8) < (((mI μ 8 (((μ.1 8) + 1)))).1 7) → J g mX12_readsOn (d + 1) hs P 52 [(0, .ref m)] [] (mw h m (mI μ 8 (((μ.1 8) + 1)))))) : J g mX12_readsOn (d + 1) hs P 39 [(0, .ref m)] [] (mw h m μ) := by
  refine jr_aload_n 0 dX12_readsOn_39 rfl rfl ?_
  refine jr_dup dX12_readsOn_40 rfl ?_
  refine jr_get jf_X12_76 dX12_readsOn_41 mw_o rfl ?_
  refine jr_iconst (v := 1) dX12_readsOn_44 (by decide) ?_
  refine jr_iadd dX12_readsOn_45 ?_
  refine jr_putE jp_X12_76 dX12_readsOn_46 mw_o (Nat.le_of_ble_eq_true rfl) rfl rfl (fun h1 e2 => ?_)
  replace e2 := e2.trans (mw_pI 8 (((μ.1 8) + 1)))
  subst e2
  refine jr_goto (tgt := 0) dX12_readsOn_49 (by decide) ?_
  refine jr_aload_n 0 dX12_readsOn_0 rfl rfl ?_
  refine jr_get jf_X12_76 dX12_readsOn_1 mw_o rfl ?_
  refine jr_aload_n 0 dX12_readsOn_4 rfl rfl ?_
  refine jr_get jf_X12_73 dX12_readsOn_5 mw_o rfl ?_
  refine jr_icmp_ge (tgt := 52) dX12_readsOn_8 (by decide) (fun c8 => ?_) (fun c8 => ?_)
  · have k := k.2 c8
    exact jr_sub [0] rfl k
  · have k := k.1 c8
    refine jr_aload_n 0 dX12_readsOn_11 rfl rfl ?_
    refine jr_get jf_X12_23 dX12_readsOn_12 mw_o rfl ?_
    refine jr_aload_n 0 dX12_readsOn_15 rfl rfl ?_
    refine jr_get jf_X12_76 dX12_readsOn_16 mw_o rfl ?_
    obtain ⟨e3, k⟩ := k
    refine jr_iald dX12_readsOn_19 mw_5 e3 ?_
    refine jr_bipush (v := 32) dX12_readsOn_20 (by decide) ?_
    refine jr_icmp_eq (tgt := 39) dX12_readsOn_22 (by decide) (fun c22 => ?_) (fun c22 => ?_)
    · have k := k.1 c22
      exact jr_sub [0] rfl k
    · have k := k.2 c22
      refine jr_aload_n 0 dX12_readsOn_25 rfl rfl ?_
      refine jr_get jf_X12_23 dX12_readsOn_26 mw_o rfl ?_
      refine jr_aload_n 0 dX12_readsOn_29 rfl rfl ?_
      refine jr_get jf_X12_76 dX12_readsOn_30 mw_o rfl ?_
      obtain ⟨e4, k⟩ := k
      refine jr_iald dX12_readsOn_33 mw_5 e4 ?_
      refine jr_bipush (v := 10) dX12_readsOn_34 (by decide) ?_
      refine jr_icmp_ne (tgt := 52) dX12_readsOn_36 (by decide) (fun c36 => ?_) (fun c36 => ?_)
      · have k := k.2 c36
        exact jr_sub [0] rfl k
      · have k := k.1 c36
        exact jr_sub [0] rfl k
set_option maxRecDepth 20000 in
theorem wX12_readsOn_52  (k : ((((mI μ 9 ((μ.1 8)))).1 8) < (((mI μ 9 ((μ.1 8)))).1 7) → vp_in ((((mI μ 9 ((μ.1 8)))).1 8)) 900 ∧ ∃ r4 : Int32, Con g mX12_isLetter d [.int (((mI μ 9 ((μ.1 8)))).2.1 5 (ix ((((mI μ 9 ((μ.1 8)))).1 8))))] (mw h m (mI μ 9 ((μ.1 8)))) (jPi (fun r h' => r = r4 ∧ h' = (mw h m (mI μ 9 ((μ.1 8))))) no2) ∧ (r4 = 0 → ∃ r9 : Int32, Con g mX12_isDigit d [.int (((mI μ 9 ((μ.1 8)))).2.1 5 (ix ((((mI μ 9 ((μ.1 8)))).1 8))))] (mw h m (mI μ 9 ((μ.1 8)))) (jPi (fun r h' => r = r9 ∧ h' = (mw h m (mI μ 9 ((μ.1 8))))) no2) ∧ (r9 = 0 → ∃ r14 : Int32, Con g mX12_isSignByte d [.int (((mI μ 9 ((μ.1 8)))).2.1 5 (ix ((((mI μ 9 ((μ.1 8)))).1 8))))] (mw h m (mI μ 9 ((μ.1 8)))) (jPi (fun r h' => r = r14 ∧ h' = (mw h m (mI μ 9 ((μ.1 8))))) no2) ∧ (r14 = 0 → J g mX12_readsOn (d + 1) hs P 250 [(0, .ref m)] [.int 3, .ref m] (mw h m (mI μ 9 ((μ.1 8))))) ∧ (¬ r14 = 0 → J g mX12_readsOn (d + 1) hs P 250 [(0, .ref m)] [.int (((mI μ 9 ((μ.1 8)))).2.1 5 (ix ((((mI μ 9 ((μ.1 8)))).1 8)))), .ref m] (mw h m (mI μ 9 ((μ.1 8)))))) ∧ (¬ r9 = 0 → J g mX12_readsOn (d + 1) hs P 141 [(0, .ref m)] [] (mw h m (mI ((mI μ 9 ((μ.1 8)))) 11 0)))) ∧ (¬ r4 = 0 → J g mX12_readsOn (d + 1) hs P 94 [(0, .ref m)] [] (mw h m (mI μ 9 ((μ.1 8)))))) ∧ (¬ (((mI μ 9 ((μ.1 8)))).1 8) < (((mI μ 9 ((μ.1 8)))).1 7) → P (.inl none) (mw h m (mI ((mI μ 9 ((μ.1 8)))) 10 0)))) : J g mX12_readsOn (d + 1) hs P 52 [(0, .ref m)] [] (mw h m μ) := by
  refine jr_aload_n 0 dX12_readsOn_52 rfl rfl ?_
  refine jr_aload_n 0 dX12_readsOn_53 rfl rfl ?_
  refine jr_get jf_X12_76 dX12_readsOn_54 mw_o rfl ?_
  refine jr_putE jp_X12_79 dX12_readsOn_57 mw_o (Nat.le_of_ble_eq_true rfl) rfl rfl (fun h1 e2 => ?_)
  replace e2 := e2.trans (mw_pI 9 ((μ.1 8)))
  subst e2
  refine jr_aload_n 0 dX12_readsOn_60 rfl rfl ?_
  refine jr_get jf_X12_76 dX12_readsOn_61 mw_o rfl ?_
  refine jr_aload_n 0 dX12_readsOn_64 rfl rfl ?_
  refine jr_get jf_X12_73 dX12_readsOn_65 mw_o rfl ?_
  refine jr_icmp_lt (tgt := 77) dX12_readsOn_68 (by decide) (fun c68 => ?_) (fun c68 => ?_)
  · have k := k.1 c68
    refine jr_aload_n 0 dX12_readsOn_77 rfl rfl ?_
    refine jr_get jf_X12_23 dX12_readsOn_78 mw_o rfl ?_
    refine jr_aload_n 0 dX12_readsOn_81 rfl rfl ?_
    refine jr_get jf_X12_76 dX12_readsOn_82 mw_o rfl ?_
    obtain ⟨e3, k⟩ := k
    refine jr_iald dX12_readsOn_85 mw_5 e3 ?_
    refine jr_istore_n (lv' := [(1, .int (((mI μ 9 ((μ.1 8)))).2.1 5 (ix ((((mI μ 9 ((μ.1 8)))).1 8))))), (0, .ref m)]) dX12_readsOn_86 rfl (by decide) rfl ?_
    refine jr_iload_n 0 dX12_readsOn_87 rfl rfl ?_
    obtain ⟨r4z, C8, k⟩ := k
    refine jr_cSi (As := [.int (((mI μ 9 ((μ.1 8)))).2.1 5 (ix ((((mI μ 9 ((μ.1 8)))).1 8))))]) jl_X12_85 km_X12_isLetter rfl rfl dX12_readsOn_88 (Nat.le_of_ble_eq_true rfl) (C8.pi (fun _ _ q => q) (fun E h' f => f.elim)) (fun r4 h5 q6 => ?_)
    obtain ⟨q6, q7⟩ := q6
    subst q7
    subst q6
    refine jr_if_eq (tgt := 129) dX12_readsOn_91 (by decide) (fun c91 => ?_) (fun c91 => ?_)
    · have k := k.1 c91
      refine jr_iload_n 0 dX12_readsOn_129 rfl rfl ?_
      obtain ⟨r9z, C13, k⟩ := k
      refine jr_cSi (As := [.int (((mI μ 9 ((μ.1 8)))).2.1 5 (ix ((((mI μ 9 ((μ.1 8)))).1 8))))]) jl_X12_93 km_X12_isDigit rfl rfl dX12_readsOn_130 (Nat.le_of_ble_eq_true rfl) (C13.pi (fun _ _ q => q) (fun E h' f => f.elim)) (fun r9 h10 q11 => ?_)
      obtain ⟨q11, q12⟩ := q11
      subst q12
      subst q11
      refine jr_if_eq (tgt := 237) dX12_readsOn_133 (by decide) (fun c133 => ?_) (fun c133 => ?_)
      · have k := k.1 c133
        refine jr_aload_n 1 dX12_readsOn_237 rfl rfl ?_
        refine jr_iload_n 0 dX12_readsOn_238 rfl rfl ?_
        obtain ⟨r14z, C18, k⟩ := k
        refine jr_cSi (As := [.int (((mI μ 9 ((μ.1 8)))).2.1 5 (ix ((((mI μ 9 ((μ.1 8)))).1 8))))]) jl_X12_99 km_X12_isSignByte rfl rfl dX12_readsOn_239 (Nat.le_of_ble_eq_true rfl) (C18.pi (fun _ _ q => q) (fun E h' f => f.elim)) (fun r14 h15 q16 => ?_)
        obtain ⟨q16, q17⟩ := q16
        subst q17
        subst q16
        refine jr_if_eq (tgt := 249) dX12_readsOn_242 (by decide) (fun c242 => ?_) (fun c242 => ?_)
        · have k := k.1 c242
          refine jr_iconst (v := 3) dX12_readsOn_249 (by decide) ?_
          exact jr_sub [1] rfl k
        · have k := k.2 c242
          refine jr_iload_n 0 dX12_readsOn_245 rfl rfl ?_
          refine jr_goto (tgt := 250) dX12_readsOn_246 (by decide) ?_
          exact jr_sub [1] rfl k
      · have k := k.2 c133
        refine jr_aload_n 1 dX12_readsOn_136 rfl rfl ?_
        refine jr_iconst (v := 0) dX12_readsOn_137 (by decide) ?_
        refine jr_putE jp_X12_96 dX12_readsOn_138 mw_o (Nat.le_of_ble_eq_true rfl) rfl rfl (fun h19 e20 => ?_)
        replace e20 := e20.trans (mw_pI 11 ((0 : Int32)))
        subst e20
        exact jr_sub [1] rfl k
    · have k := k.2 c91
      exact jr_sub [1] rfl k
  · have k := k.2 c68
    refine jr_aload_n 0 dX12_readsOn_71 rfl rfl ?_
    refine jr_iconst (v := 0) dX12_readsOn_72 (by decide) ?_
    refine jr_putE jp_X12_82 dX12_readsOn_73 mw_o (Nat.le_of_ble_eq_true rfl) rfl rfl (fun h21 e22 => ?_)
    replace e22 := e22.trans (mw_pI 10 ((0 : Int32)))
    subst e22
    exact jr_vret rfl dX12_readsOn_76 k
set_option maxRecDepth 20000 in
theorem wX12_readsOn_94  (k : ∃ r1 : Int32, Con g mX12_see d [.ref m, .int (μ.1 8)] (mw h m μ) (jPi (fun r h' => r = r1 ∧ h' = (mw h m μ)) no2) ∧ ∃ r6 : Int32, Con g mX12_isLetter d [.int r1] (mw h m μ) (jPi (fun r h' => r = r6 ∧ h' = (mw h m μ)) no2) ∧ (r6 = 0 → P (.inl none) (mw h m (mI μ 10 1))) ∧ (¬ r6 = 0 → J g mX12_readsOn (d + 1) hs P 94 [(0, .ref m)] [] (mw h m (mI μ 8 (((μ.1 8) + 1)))))) : J g mX12_readsOn (d + 1) hs P 94 [(0, .ref m)] [] (mw h m μ) := by
  refine jr_aload_n 0 dX12_readsOn_94 rfl rfl ?_
  refine jr_aload_n 0 dX12_readsOn_95 rfl rfl ?_
  refine jr_get jf_X12_76 dX12_readsOn_96 mw_o rfl ?_
  obtain ⟨r1z, C5, k⟩ := k
  refine jr_cVi (As := [.int (μ.1 8)]) jl_X12_89 km_X12_see rfl rfl dX12_readsOn_99 mw_o (Nat.le_of_ble_eq_true rfl) (C5.pi (fun _ _ q => q) (fun E h' f => f.elim)) (fun r1 h2 q3 => ?_)
  obtain ⟨q3, q4⟩ := q3
  subst q4
  subst q3
  obtain ⟨r6z, C10, k⟩ := k
  refine jr_cSi (As := [.int r1]) jl_X12_85 km_X12_isLetter rfl rfl dX12_readsOn_102 (Nat.le_of_ble_eq_true rfl) (C10.pi (fun _ _ q => q) (fun E h' f => f.elim)) (fun r6 h7 q8 => ?_)
  obtain ⟨q8, q9⟩ := q8
  subst q9
  subst q8
  refine jr_if_eq (tgt := 121) dX12_readsOn_105 (by decide) (fun c105 => ?_) (fun c105 => ?_)
  · have k := k.1 c105
    refine jr_aload_n 0 dX12_readsOn_121 rfl rfl ?_
    refine jr_iconst (v := 1) dX12_readsOn_122 (by decide) ?_
    refine jr_putE jp_X12_82 dX12_readsOn_123 mw_o (Nat.le_of_ble_eq_true rfl) rfl rfl (fun h11 e12 => ?_)
    replace e12 := e12.trans (mw_pI 10 ((1 : Int32)))
    subst e12
    refine jr_goto (tgt := 263) dX12_readsOn_126 (by decide) ?_
    exact jr_vret rfl dX12_readsOn_263 k
  · have k := k.2 c105
    refine jr_aload_n 0 dX12_readsOn_108 rfl rfl ?_
    refine jr_dup dX12_readsOn_109 rfl ?_
    refine jr_get jf_X12_76 dX12_readsOn_110 mw_o rfl ?_
    refine jr_iconst (v := 1) dX12_readsOn_113 (by decide) ?_
    refine jr_iadd dX12_readsOn_114 ?_
    refine jr_putE jp_X12_76 dX12_readsOn_115 mw_o (Nat.le_of_ble_eq_true rfl) rfl rfl (fun h13 e14 => ?_)
    replace e14 := e14.trans (mw_pI 8 (((μ.1 8) + 1)))
    subst e14
    refine jr_goto (tgt := 94) dX12_readsOn_118 (by decide) ?_
    exact jr_sub [0] rfl k
set_option maxRecDepth 20000 in
theorem wX12_readsOn_141  (k : ∃ r1 : Int32, Con g mX12_see d [.ref m, .int (μ.1 8)] (mw h m μ) (jPi (fun r h' => r = r1 ∧ h' = (mw h m μ)) no2) ∧ ∃ r6 : Int32, Con g mX12_isDigit d [.int r1] (mw h m μ) (jPi (fun r h' => r = r6 ∧ h' = (mw h m μ)) no2) ∧ (r6 = 0 → (3 < ((μ.1 8) - (μ.1 9)) → J g mX12_readsOn (d + 1) hs P 231 [] [.int 3, .ref m] (mw h m μ)) ∧ (¬ 3 < ((μ.1 8) - (μ.1 9)) → J g mX12_readsOn (d + 1) hs P 231 [] [.int 2, .ref m] (mw h m μ))) ∧ (¬ r6 = 0 → (((μ.1 8) - (μ.1 9)) < 3 → vp_in ((μ.1 8)) 900 ∧ J g mX12_readsOn (d + 1) hs P 196 [(0, .ref m)] [.int (((10 * (μ.1 11)) + (μ.2.1 5 (ix ((μ.1 8))))) - 48), .ref m] (mw h m μ)) ∧ (¬ ((μ.1 8) - (μ.1 9)) < 3 → J g mX12_readsOn (d + 1) hs P 196 [(0, .ref m)] [.int (μ.1 11), .ref m] (mw h m μ)))) : J g mX12_readsOn (d + 1) hs P 141 [(0, .ref m)] [] (mw h m μ) := by
  refine jr_aload_n 0 dX12_readsOn_141 rfl rfl ?_
  refine jr_aload_n 0 dX12_readsOn_142 rfl rfl ?_
  refine jr_get jf_X12_76 dX12_readsOn_143 mw_o rfl ?_
  obtain ⟨r1z, C5, k⟩ := k
  refine jr_cVi (As := [.int (μ.1 8)]) jl_X12_89 km_X12_see rfl rfl dX12_readsOn_146 mw_o (Nat.le_of_ble_eq_true rfl) (C5.pi (fun _ _ q => q) (fun E h' f => f.elim)) (fun r1 h2 q3 => ?_)
  obtain ⟨q3, q4⟩ := q3
  subst q4
  subst q3
  obtain ⟨r6z, C10, k⟩ := k
  refine jr_cSi (As := [.int r1]) jl_X12_93 km_X12_isDigit rfl rfl dX12_readsOn_149 (Nat.le_of_ble_eq_true rfl) (C10.pi (fun _ _ q => q) (fun E h' f => f.elim)) (fun r6 h7 q8 => ?_)
  obtain ⟨q8, q9⟩ := q8
  subst q9
  subst q8
  refine jr_if_eq (tgt := 212) dX12_readsOn_152 (by decide) (fun c152 => ?_) (fun c152 => ?_)
  · have k := k.1 c152
    refine jr_aload_n 0 dX12_readsOn_212 rfl rfl ?_
    refine jr_aload_n 0 dX12_readsOn_213 rfl rfl ?_
    refine jr_get jf_X12_76 dX12_readsOn_214 mw_o rfl ?_
    refine jr_aload_n 0 dX12_readsOn_217 rfl rfl ?_
    refine jr_get jf_X12_79 dX12_readsOn_218 mw_o rfl ?_
    refine jr_isub dX12_readsOn_221 ?_
    refine jr_iconst (v := 3) dX12_readsOn_222 (by decide) ?_
    refine jr_icmp_le (tgt := 230) dX12_readsOn_223 (by decide) (fun c223 => ?_) (fun c223 => ?_)
    · have k := k.2 c223
      refine jr_iconst (v := 2) dX12_readsOn_230 (by decide) ?_
      exact jr_sub [] rfl k
    · have k := k.1 c223
      refine jr_iconst (v := 3) dX12_readsOn_226 (by decide) ?_
      refine jr_goto (tgt := 231) dX12_readsOn_227 (by decide) ?_
      exact jr_sub [] rfl k
  · have k := k.2 c152
    refine jr_aload_n 0 dX12_readsOn_155 rfl rfl ?_
    refine jr_aload_n 0 dX12_readsOn_156 rfl rfl ?_
    refine jr_get jf_X12_76 dX12_readsOn_157 mw_o rfl ?_
    refine jr_aload_n 0 dX12_readsOn_160 rfl rfl ?_
    refine jr_get jf_X12_79 dX12_readsOn_161 mw_o rfl ?_
    refine jr_isub dX12_readsOn_164 ?_
    refine jr_iconst (v := 3) dX12_readsOn_165 (by decide) ?_
    refine jr_icmp_ge (tgt := 192) dX12_readsOn_166 (by decide) (fun c166 => ?_) (fun c166 => ?_)
    · have k := k.2 c166
      refine jr_aload_n 0 dX12_readsOn_192 rfl rfl ?_
      refine jr_get jf_X12_96 dX12_readsOn_193 mw_o rfl ?_
      exact jr_sub [0] rfl k
    · have k := k.1 c166
      refine jr_bipush (v := 10) dX12_readsOn_169 (by decide) ?_
      refine jr_aload_n 0 dX12_readsOn_171 rfl rfl ?_
      refine jr_get jf_X12_96 dX12_readsOn_172 mw_o rfl ?_
      refine jr_imul dX12_readsOn_175 ?_
      refine jr_aload_n 0 dX12_readsOn_176 rfl rfl ?_
      refine jr_get jf_X12_23 dX12_readsOn_177 mw_o rfl ?_
      refine jr_aload_n 0 dX12_readsOn_180 rfl rfl ?_
      refine jr_get jf_X12_76 dX12_readsOn_181 mw_o rfl ?_
      obtain ⟨e11, k⟩ := k
      refine jr_iald dX12_readsOn_184 mw_5 e11 ?_
      refine jr_iadd dX12_readsOn_185 ?_
      refine jr_bipush (v := 48) dX12_readsOn_186 (by decide) ?_
      refine jr_isub dX12_readsOn_188 ?_
      refine jr_goto (tgt := 196) dX12_readsOn_189 (by decide) ?_
      exact jr_sub [0] rfl k
set_option maxRecDepth 20000 in
theorem wX12_readsOn_196 {s1 : Int32} (k : J g mX12_readsOn (d + 1) hs P 141 [(0, .ref m)] [] (mw h m (mI ((mI μ 11 s1)) 8 (((((mI μ 11 s1)).1 8) + 1))))) : J g mX12_readsOn (d + 1) hs P 196 [(0, .ref m)] [.int s1, .ref m] (mw h m μ) := by
  refine jr_putE jp_X12_96 dX12_readsOn_196 mw_o (Nat.le_of_ble_eq_true rfl) rfl rfl (fun h1 e2 => ?_)
  replace e2 := e2.trans (mw_pI 11 s1)
  subst e2
  refine jr_aload_n 0 dX12_readsOn_199 rfl rfl ?_
  refine jr_dup dX12_readsOn_200 rfl ?_
  refine jr_get jf_X12_76 dX12_readsOn_201 mw_o rfl ?_
  refine jr_iconst (v := 1) dX12_readsOn_204 (by decide) ?_
  refine jr_iadd dX12_readsOn_205 ?_
  refine jr_putE jp_X12_76 dX12_readsOn_206 mw_o (Nat.le_of_ble_eq_true rfl) rfl rfl (fun h3 e4 => ?_)
  replace e4 := e4.trans (mw_pI 8 (((((mI μ 11 s1)).1 8) + 1)))
  subst e4
  refine jr_goto (tgt := 141) dX12_readsOn_209 (by decide) ?_
  exact jr_sub [0] rfl k
set_option maxRecDepth 20000 in
theorem wX12_readsOn_231 {s1 : Int32} (k : P (.inl none) (mw h m (mI μ 10 s1))) : J g mX12_readsOn (d + 1) hs P 231 [] [.int s1, .ref m] (mw h m μ) := by
  refine jr_putE jp_X12_82 dX12_readsOn_231 mw_o (Nat.le_of_ble_eq_true rfl) rfl rfl (fun h1 e2 => ?_)
  replace e2 := e2.trans (mw_pI 10 s1)
  subst e2
  refine jr_goto (tgt := 263) dX12_readsOn_234 (by decide) ?_
  exact jr_vret rfl dX12_readsOn_263 k
set_option maxRecDepth 20000 in
theorem wX12_readsOn_250 {s1 : Int32} (k : P (.inl none) (mw h m (mI ((mI μ 10 s1)) 8 (((((mI μ 10 s1)).1 8) + 1))))) : J g mX12_readsOn (d + 1) hs P 250 [(0, .ref m)] [.int s1, .ref m] (mw h m μ) := by
  refine jr_putE jp_X12_82 dX12_readsOn_250 mw_o (Nat.le_of_ble_eq_true rfl) rfl rfl (fun h1 e2 => ?_)
  replace e2 := e2.trans (mw_pI 10 s1)
  subst e2
  refine jr_aload_n 0 dX12_readsOn_253 rfl rfl ?_
  refine jr_dup dX12_readsOn_254 rfl ?_
  refine jr_get jf_X12_76 dX12_readsOn_255 mw_o rfl ?_
  refine jr_iconst (v := 1) dX12_readsOn_258 (by decide) ?_
  refine jr_iadd dX12_readsOn_259 ?_
  refine jr_putE jp_X12_76 dX12_readsOn_260 mw_o (Nat.le_of_ble_eq_true rfl) rfl rfl (fun h3 e4 => ?_)
  replace e4 := e4.trans (mw_pI 8 (((((mI μ 10 s1)).1 8) + 1)))
  subst e4
  exact jr_vret rfl dX12_readsOn_263 k
set_option maxRecDepth 20000 in
theorem wX12_blames_0 {x1 : Int32} (k : ((μ.1 12) = 0 → ((μ.1 10) = 3 → J g mX12_blames (d + 1) hs P 22 [(0, .ref m)] [.int 1, .ref m] (mw h m μ)) ∧ (¬ (μ.1 10) = 3 → J g mX12_blames (d + 1) hs P 22 [(0, .ref m)] [.int x1, .ref m] (mw h m μ))) ∧ (¬ (μ.1 12) = 0 → P (.inl none) (mw h m μ))) : J g mX12_blames (d + 1) hs P 0 [(0, .ref m), (1, .int x1)] [] (mw h m μ) := by
  refine jr_aload_n 0 dX12_blames_0 rfl rfl ?_
  refine jr_get jf_X12_102 dX12_blames_1 mw_o rfl ?_
  refine jr_if_eq (tgt := 8) dX12_blames_4 (by decide) (fun c4 => ?_) (fun c4 => ?_)
  · have k := k.1 c4
    refine jr_aload_n 0 dX12_blames_8 rfl rfl ?_
    refine jr_aload_n 0 dX12_blames_9 rfl rfl ?_
    refine jr_get jf_X12_82 dX12_blames_10 mw_o rfl ?_
    refine jr_iconst (v := 3) dX12_blames_13 (by decide) ?_
    refine jr_icmp_ne (tgt := 21) dX12_blames_14 (by decide) (fun c14 => ?_) (fun c14 => ?_)
    · have k := k.2 c14
      refine jr_iload_n 1 dX12_blames_21 rfl rfl ?_
      exact jr_sub [0] rfl k
    · have k := k.1 c14
      refine jr_iconst (v := 1) dX12_blames_17 (by decide) ?_
      refine jr_goto (tgt := 22) dX12_blames_18 (by decide) ?_
      exact jr_sub [0] rfl k
  · have k := k.2 c4
    exact jr_vret rfl dX12_blames_7 k
set_option maxRecDepth 20000 in
theorem wX12_blames_22 {s1 : Int32} (k : P (.inl none) (mw h m (mI ((mI μ 12 s1)) 13 ((((mI μ 12 s1)).1 9))))) : J g mX12_blames (d + 1) hs P 22 [(0, .ref m)] [.int s1, .ref m] (mw h m μ) := by
  refine jr_putE jp_X12_102 dX12_blames_22 mw_o (Nat.le_of_ble_eq_true rfl) rfl rfl (fun h1 e2 => ?_)
  replace e2 := e2.trans (mw_pI 12 s1)
  subst e2
  refine jr_aload_n 0 dX12_blames_25 rfl rfl ?_
  refine jr_aload_n 0 dX12_blames_26 rfl rfl ?_
  refine jr_get jf_X12_79 dX12_blames_27 mw_o rfl ?_
  refine jr_putE jp_X12_105 dX12_blames_30 mw_o (Nat.le_of_ble_eq_true rfl) rfl rfl (fun h3 e4 => ?_)
  replace e4 := e4.trans (mw_pI 13 ((((mI μ 12 s1)).1 9)))
  subst e4
  exact jr_vret rfl dX12_blames_33 k
set_option maxRecDepth 20000 in
theorem wX12_isWord_0 {x1 : Nat} (k : ((μ.1 12) = 0 → ((μ.1 10) = 1 → (∃ k9 : Nat, k9 < 37 ∧ x1 = gS g k9) ∧ ∃ r1 : Int32, Con g mJ0_length_8abf5 d [.ref x1] (mw h m μ) (jPi (fun r h' => r = r1 ∧ h' = (mw h m μ)) no2) ∧ (((μ.1 8) - (μ.1 9)) = r1 → J g mX12_isWord (d + 1) hs P 39 [(0, .ref m), (1, .ref x1), (2, .int 1), (3, .int 0)] [] (mw h m μ)) ∧ (¬ ((μ.1 8) - (μ.1 9)) = r1 → J g mX12_isWord (d + 1) hs P 39 [(0, .ref m), (1, .ref x1), (2, .int 0), (3, .int 0)] [] (mw h m μ))) ∧ (¬ (μ.1 10) = 1 → J g mX12_isWord (d + 1) hs P 39 [(0, .ref m), (1, .ref x1), (2, .int 0), (3, .int 0)] [] (mw h m μ))) ∧ (¬ (μ.1 12) = 0 → J g mX12_isWord (d + 1) hs P 39 [(0, .ref m), (1, .ref x1), (2, .int 0), (3, .int 0)] [] (mw h m μ))) : J g mX12_isWord (d + 1) hs P 0 [(0, .ref m), (1, .ref x1)] [] (mw h m μ) := by
  refine jr_aload_n 0 dX12_isWord_0 rfl rfl ?_
  refine jr_get jf_X12_102 dX12_isWord_1 mw_o rfl ?_
  refine jr_if_ne (tgt := 35) dX12_isWord_4 (by decide) (fun c4 => ?_) (fun c4 => ?_)
  · have k := k.2 c4
    refine jr_iconst (v := 0) dX12_isWord_35 (by decide) ?_
    refine jr_istore_n (lv' := [(2, .int 0), (0, .ref m), (1, .ref x1)]) dX12_isWord_36 rfl (by decide) rfl ?_
    refine jr_iconst (v := 0) dX12_isWord_37 (by decide) ?_
    refine jr_istore_n (lv' := [(3, .int 0), (2, .int 0), (0, .ref m), (1, .ref x1)]) dX12_isWord_38 rfl (by decide) rfl ?_
    exact jr_sub [2, 3, 1, 0] rfl k
  · have k := k.1 c4
    refine jr_aload_n 0 dX12_isWord_7 rfl rfl ?_
    refine jr_get jf_X12_82 dX12_isWord_8 mw_o rfl ?_
    refine jr_iconst (v := 1) dX12_isWord_11 (by decide) ?_
    refine jr_icmp_ne (tgt := 35) dX12_isWord_12 (by decide) (fun c12 => ?_) (fun c12 => ?_)
    · have k := k.2 c12
      refine jr_iconst (v := 0) dX12_isWord_35 (by decide) ?_
      refine jr_istore_n (lv' := [(2, .int 0), (0, .ref m), (1, .ref x1)]) dX12_isWord_36 rfl (by decide) rfl ?_
      refine jr_iconst (v := 0) dX12_isWord_37 (by decide) ?_
      refine jr_istore_n (lv' := [(3, .int 0), (2, .int 0), (0, .ref m), (1, .ref x1)]) dX12_isWord_38 rfl (by decide) rfl ?_
      exact jr_sub [2, 3, 1, 0] rfl k
    · have k := k.1 c12
      refine jr_aload_n 0 dX12_isWord_15 rfl rfl ?_
      refine jr_get jf_X12_76 dX12_isWord_16 mw_o rfl ?_
      refine jr_aload_n 0 dX12_isWord_19 rfl rfl ?_
      refine jr_get jf_X12_79 dX12_isWord_20 mw_o rfl ?_
      refine jr_isub dX12_isWord_23 ?_
      refine jr_aload_n 1 dX12_isWord_24 rfl rfl ?_
      obtain ⟨b6, k⟩ := k
      obtain ⟨r1z, C5, k⟩ := k
      refine jr_cQi (As := []) jl_X12_108 km_J0_length_8abf5 rfl rfl dX12_isWord_25 b6 (Nat.le_of_ble_eq_true rfl) (C5.pi (fun _ _ q => q) (fun E h' f => f.elim)) (fun r1 h2 q3 => ?_)
      obtain ⟨q3, q4⟩ := q3
      subst q4
      subst q3
      refine jr_icmp_ne (tgt := 35) dX12_isWord_28 (by decide) (fun c28 => ?_) (fun c28 => ?_)
      · have k := k.2 c28
        refine jr_iconst (v := 0) dX12_isWord_35 (by decide) ?_
        refine jr_istore_n (lv' := [(2, .int 0), (0, .ref m), (1, .ref x1)]) dX12_isWord_36 rfl (by decide) rfl ?_
        refine jr_iconst (v := 0) dX12_isWord_37 (by decide) ?_
        refine jr_istore_n (lv' := [(3, .int 0), (2, .int 0), (0, .ref m), (1, .ref x1)]) dX12_isWord_38 rfl (by decide) rfl ?_
        exact jr_sub [2, 3, 1, 0] rfl k
      · have k := k.1 c28
        refine jr_iconst (v := 1) dX12_isWord_31 (by decide) ?_
        refine jr_goto (tgt := 36) dX12_isWord_32 (by decide) ?_
        refine jr_istore_n (lv' := [(2, .int 1), (0, .ref m), (1, .ref x1)]) dX12_isWord_36 rfl (by decide) rfl ?_
        refine jr_iconst (v := 0) dX12_isWord_37 (by decide) ?_
        refine jr_istore_n (lv' := [(3, .int 0), (2, .int 1), (0, .ref m), (1, .ref x1)]) dX12_isWord_38 rfl (by decide) rfl ?_
        exact jr_sub [2, 3, 1, 0] rfl k
set_option maxRecDepth 20000 in
theorem wX12_isWord_39 {x1 : Nat} {x2 : Int32} {x3 : Int32} (k : (x2 = 0 → (x2 = 0 ∨ x2 = 1) ∧ P (.inl (some (.int x2))) (mw h m μ)) ∧ (¬ x2 = 0 → (∃ k9 : Nat, k9 < 37 ∧ x1 = gS g k9) ∧ ∃ r1 : Int32, Con g mJ0_length_8abf5 d [.ref x1] (mw h m μ) (jPi (fun r h' => r = r1 ∧ h' = (mw h m μ)) no2) ∧ (x3 < r1 → vp_in (((μ.1 9) + x3)) 900 ∧ (∃ k9 : Nat, k9 < 37 ∧ x1 = gS g k9) ∧ ∃ r8 : Int32, Con g mJ0_charAt_5068e d [.ref x1, .int x3] (mw h m μ) (jPi (fun r h' => r = r8 ∧ h' = (mw h m μ)) no2) ∧ ((μ.2.1 5 (ix (((μ.1 9) + x3)))) = r8 → J g mX12_isWord (d + 1) hs P 39 [(0, .ref m), (1, .ref x1), (2, .int 1), (3, .int (x3 + 1))] [] (mw h m μ)) ∧ (¬ (μ.2.1 5 (ix (((μ.1 9) + x3)))) = r8 → J g mX12_isWord (d + 1) hs P 39 [(0, .ref m), (1, .ref x1), (2, .int 0), (3, .int (x3 + 1))] [] (mw h m μ))) ∧ (¬ x3 < r1 → (x2 = 0 ∨ x2 = 1) ∧ P (.inl (some (.int x2))) (mw h m μ)))) : J g mX12_isWord (d + 1) hs P 39 [(0, .ref m), (1, .ref x1), (2, .int x2), (3, .int x3)] [] (mw h m μ) := by
  refine jr_iload_n 2 dX12_isWord_39 rfl rfl ?_
  refine jr_if_eq (tgt := 82) dX12_isWord_40 (by decide) (fun c40 => ?_) (fun c40 => ?_)
  · have k := k.1 c40
    refine jr_iload_n 2 dX12_isWord_82 rfl rfl ?_
    exact jr_iret (ty := .boolean) rfl (jz_n k.1) dX12_isWord_83 k.2
  · have k := k.2 c40
    refine jr_iload_n 3 dX12_isWord_43 rfl rfl ?_
    refine jr_aload_n 1 dX12_isWord_44 rfl rfl ?_
    obtain ⟨b6, k⟩ := k
    obtain ⟨r1z, C5, k⟩ := k
    refine jr_cQi (As := []) jl_X12_108 km_J0_length_8abf5 rfl rfl dX12_isWord_45 b6 (Nat.le_of_ble_eq_true rfl) (C5.pi (fun _ _ q => q) (fun E h' f => f.elim)) (fun r1 h2 q3 => ?_)
    obtain ⟨q3, q4⟩ := q3
    subst q4
    subst q3
    refine jr_icmp_ge (tgt := 82) dX12_isWord_48 (by decide) (fun c48 => ?_) (fun c48 => ?_)
    · have k := k.2 c48
      refine jr_iload_n 2 dX12_isWord_82 rfl rfl ?_
      exact jr_iret (ty := .boolean) rfl (jz_n k.1) dX12_isWord_83 k.2
    · have k := k.1 c48
      refine jr_aload_n 0 dX12_isWord_51 rfl rfl ?_
      refine jr_get jf_X12_23 dX12_isWord_52 mw_o rfl ?_
      refine jr_aload_n 0 dX12_isWord_55 rfl rfl ?_
      refine jr_get jf_X12_79 dX12_isWord_56 mw_o rfl ?_
      refine jr_iload_n 3 dX12_isWord_59 rfl rfl ?_
      refine jr_iadd dX12_isWord_60 ?_
      obtain ⟨e7, k⟩ := k
      refine jr_iald dX12_isWord_61 mw_5 e7 ?_
      refine jr_aload_n 1 dX12_isWord_62 rfl rfl ?_
      refine jr_iload_n 3 dX12_isWord_63 rfl rfl ?_
      obtain ⟨b13, k⟩ := k
      obtain ⟨r8z, C12, k⟩ := k
      refine jr_cQi (As := [.int x3]) jl_X12_113 km_J0_charAt_5068e rfl rfl dX12_isWord_64 b13 (Nat.le_of_ble_eq_true rfl) (C12.pi (fun _ _ q => q) (fun E h' f => f.elim)) (fun r8 h9 q10 => ?_)
      obtain ⟨q10, q11⟩ := q10
      subst q11
      subst q10
      refine jr_icmp_ne (tgt := 74) dX12_isWord_67 (by decide) (fun c67 => ?_) (fun c67 => ?_)
      · have k := k.2 c67
        refine jr_iconst (v := 0) dX12_isWord_74 (by decide) ?_
        refine jr_istore_n (lv' := [(2, .int 0), (0, .ref m), (1, .ref x1), (3, .int x3)]) dX12_isWord_75 rfl (by decide) rfl ?_
        refine jr_iinc (v := (x3 + 1)) (lv' := [(3, .int (x3 + 1)), (2, .int 0), (0, .ref m), (1, .ref x1)]) 3 dX12_isWord_76 rfl rfl (by decide) rfl ?_
        refine jr_goto (tgt := 39) dX12_isWord_79 (by decide) ?_
        exact jr_sub [2, 3, 1, 0] rfl k
      · have k := k.1 c67
        refine jr_iconst (v := 1) dX12_isWord_70 (by decide) ?_
        refine jr_goto (tgt := 75) dX12_isWord_71 (by decide) ?_
        refine jr_istore_n (lv' := [(2, .int 1), (0, .ref m), (1, .ref x1), (3, .int x3)]) dX12_isWord_75 rfl (by decide) rfl ?_
        refine jr_iinc (v := (x3 + 1)) (lv' := [(3, .int (x3 + 1)), (2, .int 1), (0, .ref m), (1, .ref x1)]) 3 dX12_isWord_76 rfl rfl (by decide) rfl ?_
        refine jr_goto (tgt := 39) dX12_isWord_79 (by decide) ?_
        exact jr_sub [2, 3, 1, 0] rfl k
set_option maxRecDepth 20000 in
theorem wX12_took_0 {x1 : Nat} (k : ∃ r1 : Int32, Con g mX12_isWord d [.ref m, .ref x1] (mw h m μ) (jPi (fun r h' => r = r1 ∧ h' = (mw h m μ)) no2) ∧ (r1 = 0 → (r1 = 0 ∨ r1 = 1) ∧ P (.inl (some (.int r1))) (mw h m μ)) ∧ (¬ r1 = 0 → ∃ Q12 : MW → Prop, Con g mX12_readsOn d [.ref m] (mw h m μ) (wPv h m Q12) ∧ ∀ μ11 : MW, Q12 μ11 → (r1 = 0 ∨ r1 = 1) ∧ P (.inl (some (.int r1))) (mw h m μ11))) : J g mX12_took (d + 1) hs P 0 [(0, .ref m), (1, .ref x1)] [] (mw h m μ) := by
  refine jr_aload_n 0 dX12_took_0 rfl rfl ?_
  refine jr_aload_n 1 dX12_took_1 rfl rfl ?_
  obtain ⟨r1z, C5, k⟩ := k
  refine jr_cVi (As := [.ref x1]) jl_X12_117 km_X12_isWord rfl rfl dX12_took_2 mw_o (Nat.le_of_ble_eq_true rfl) (C5.pi (fun _ _ q => q) (fun E h' f => f.elim)) (fun r1 h2 q3 => ?_)
  obtain ⟨q3, q4⟩ := q3
  subst q4
  subst q3
  refine jr_istore_n (lv' := [(2, .int r1), (0, .ref m), (1, .ref x1)]) dX12_took_5 rfl (by decide) rfl ?_
  refine jr_iload_n 0 dX12_took_6 rfl rfl ?_
  refine jr_if_eq (tgt := 14) dX12_took_7 (by decide) (fun c7 => ?_) (fun c7 => ?_)
  · have k := k.1 c7
    refine jr_iload_n 0 dX12_took_14 rfl rfl ?_
    exact jr_iret (ty := .boolean) rfl (jz_n k.1) dX12_took_15 k.2
  · have k := k.2 c7
    refine jr_aload_n 1 dX12_took_10 rfl rfl ?_
    obtain ⟨Q12, C10, k⟩ := k
    refine jr_cVv (As := []) jl_X12_121 km_X12_readsOn rfl rfl dX12_took_11 mw_o (Nat.le_of_ble_eq_true rfl) (Con.pv C10 (fun _ q => q) (fun E h' f => f.elim)) (fun h7 q8 => ?_)
    obtain ⟨μ11, q8, q9⟩ := q8
    subst q9
    have k := k μ11 q8
    refine jr_iload_n 0 dX12_took_14 rfl rfl ?_
    exact jr_iret (ty := .boolean) rfl (jz_n k.1) dX12_took_15 k.2
set_option maxRecDepth 20000 in
theorem wX12_isSign_0 {x1 : Int32} (k : ((μ.1 12) = 0 → ((μ.1 10) = x1 → P (.inl (some (.int 1))) (mw h m μ)) ∧ (¬ (μ.1 10) = x1 → P (.inl (some (.int 0))) (mw h m μ))) ∧ (¬ (μ.1 12) = 0 → P (.inl (some (.int 0))) (mw h m μ))) : J g mX12_isSign (d + 1) hs P 0 [(0, .ref m), (1, .int x1)] [] (mw h m μ) := by
  refine jr_aload_n 0 dX12_isSign_0 rfl rfl ?_
  refine jr_get jf_X12_102 dX12_isSign_1 mw_o rfl ?_
  refine jr_if_ne (tgt := 19) dX12_isSign_4 (by decide) (fun c4 => ?_) (fun c4 => ?_)
  · have k := k.2 c4
    refine jr_iconst (v := 0) dX12_isSign_19 (by decide) ?_
    exact jr_iret (ty := .boolean) rfl rfl dX12_isSign_20 k
  · have k := k.1 c4
    refine jr_aload_n 0 dX12_isSign_7 rfl rfl ?_
    refine jr_get jf_X12_82 dX12_isSign_8 mw_o rfl ?_
    refine jr_iload_n 1 dX12_isSign_11 rfl rfl ?_
    refine jr_icmp_ne (tgt := 19) dX12_isSign_12 (by decide) (fun c12 => ?_) (fun c12 => ?_)
    · have k := k.2 c12
      refine jr_iconst (v := 0) dX12_isSign_19 (by decide) ?_
      exact jr_iret (ty := .boolean) rfl rfl dX12_isSign_20 k
    · have k := k.1 c12
      refine jr_iconst (v := 1) dX12_isSign_15 (by decide) ?_
      refine jr_goto (tgt := 20) dX12_isSign_16 (by decide) ?_
      exact jr_iret (ty := .boolean) rfl rfl dX12_isSign_20 k
set_option maxRecDepth 20000 in
theorem wX12_mustSign_0 {x1 : Int32} (k : ((μ.1 10) = x1 → J g mX12_mustSign (d + 1) hs P 13 [(0, .ref m)] [] (mw h m μ)) ∧ (¬ (μ.1 10) = x1 → ∃ Q7 : MW → Prop, Con g mX12_blames d [.ref m, .int 2] (mw h m μ) (wPv h m Q7) ∧ ∀ μ6 : MW, Q7 μ6 → J g mX12_mustSign (d + 1) hs P 13 [(0, .ref m)] [] (mw h m μ6))) : J g mX12_mustSign (d + 1) hs P 0 [(0, .ref m), (1, .int x1)] [] (mw h m μ) := by
  refine jr_aload_n 0 dX12_mustSign_0 rfl rfl ?_
  refine jr_get jf_X12_82 dX12_mustSign_1 mw_o rfl ?_
  refine jr_iload_n 1 dX12_mustSign_4 rfl rfl ?_
  refine jr_icmp_eq (tgt := 13) dX12_mustSign_5 (by decide) (fun c5 => ?_) (fun c5 => ?_)
  · have k := k.1 c5
    exact jr_sub [0] rfl k
  · have k := k.2 c5
    refine jr_aload_n 0 dX12_mustSign_8 rfl rfl ?_
    refine jr_iconst (v := 2) dX12_mustSign_9 (by decide) ?_
    obtain ⟨Q7, C5, k⟩ := k
    refine jr_cVv (As := [.int 2]) jl_X12_124 km_X12_blames rfl rfl dX12_mustSign_10 mw_o (Nat.le_of_ble_eq_true rfl) (Con.pv C5 (fun _ q => q) (fun E h' f => f.elim)) (fun h2 q3 => ?_)
    obtain ⟨μ6, q3, q4⟩ := q3
    subst q4
    have k := k μ6 q3
    exact jr_sub [0] rfl k
set_option maxRecDepth 20000 in
theorem wX12_mustSign_13  (k : ((μ.1 12) = 0 → ∃ Q7 : MW → Prop, Con g mX12_readsOn d [.ref m] (mw h m μ) (wPv h m Q7) ∧ ∀ μ6 : MW, Q7 μ6 → P (.inl none) (mw h m μ6)) ∧ (¬ (μ.1 12) = 0 → P (.inl none) (mw h m μ))) : J g mX12_mustSign (d + 1) hs P 13 [(0, .ref m)] [] (mw h m μ) := by
  refine jr_aload_n 0 dX12_mustSign_13 rfl rfl ?_
  refine jr_get jf_X12_102 dX12_mustSign_14 mw_o rfl ?_
  refine jr_if_ne (tgt := 24) dX12_mustSign_17 (by decide) (fun c17 => ?_) (fun c17 => ?_)
  · have k := k.2 c17
    exact jr_vret rfl dX12_mustSign_24 k
  · have k := k.1 c17
    refine jr_aload_n 0 dX12_mustSign_20 rfl rfl ?_
    obtain ⟨Q7, C5, k⟩ := k
    refine jr_cVv (As := []) jl_X12_121 km_X12_readsOn rfl rfl dX12_mustSign_21 mw_o (Nat.le_of_ble_eq_true rfl) (Con.pv C5 (fun _ q => q) (fun E h' f => f.elim)) (fun h2 q3 => ?_)
    obtain ⟨μ6, q3, q4⟩ := q3
    subst q4
    have k := k μ6 q3
    exact jr_vret rfl dX12_mustSign_24 k
set_option maxRecDepth 20000 in
theorem wX12_number_0 {x1 : Int32} {x2 : Int32} (k : ((μ.1 10) = 2 → ∃ r1 : Int32, Con g mX12_within d [.long ((μ.1 11)).toInt64, .long x1.toInt64, .long x2.toInt64] (mw h m μ) (jPi (fun r h' => r = r1 ∧ h' = (mw h m μ)) no2) ∧ (r1 = 0 → ∃ Q12 : MW → Prop, Con g mX12_blames d [.ref m, .int 3] (mw h m μ) (wPv h m Q12) ∧ ∀ μ11 : MW, Q12 μ11 → J g mX12_number (d + 1) hs P 36 [(0, .ref m), (1, .int x1)] [] (mw h m μ11)) ∧ (¬ r1 = 0 → J g mX12_number (d + 1) hs P 36 [(0, .ref m), (1, .int x1)] [] (mw h m μ))) ∧ (¬ (μ.1 10) = 2 → ∃ Q19 : MW → Prop, Con g mX12_blames d [.ref m, .int 2] (mw h m μ) (wPv h m Q19) ∧ ∀ μ18 : MW, Q19 μ18 → J g mX12_number (d + 1) hs P 36 [(0, .ref m), (1, .int x1)] [] (mw h m μ18))) : J g mX12_number (d + 1) hs P 0 [(0, .ref m), (1, .int x1), (2, .int x2)] [] (mw h m μ) := by
  refine jr_aload_n 0 dX12_number_0 rfl rfl ?_
  refine jr_get jf_X12_82 dX12_number_1 mw_o rfl ?_
  refine jr_iconst (v := 2) dX12_number_4 (by decide) ?_
  refine jr_icmp_eq (tgt := 16) dX12_number_5 (by decide) (fun c5 => ?_) (fun c5 => ?_)
  · have k := k.1 c5
    refine jr_aload_n 0 dX12_number_16 rfl rfl ?_
    refine jr_get jf_X12_96 dX12_number_17 mw_o rfl ?_
    refine jr_i2l dX12_number_20 ?_
    refine jr_iload_n 1 dX12_number_21 rfl rfl ?_
    refine jr_i2l dX12_number_22 ?_
    refine jr_iload_n 2 dX12_number_23 rfl rfl ?_
    refine jr_i2l dX12_number_24 ?_
    obtain ⟨r1z, C5, k⟩ := k
    refine jr_cSi (As := [.long ((μ.1 11)).toInt64, .long x1.toInt64, .long x2.toInt64]) jl_X12_128 km_X12_within rfl rfl dX12_number_25 (Nat.le_of_ble_eq_true rfl) (C5.pi (fun _ _ q => q) (fun E h' f => f.elim)) (fun r1 h2 q3 => ?_)
    obtain ⟨q3, q4⟩ := q3
    subst q4
    subst q3
    refine jr_if_ne (tgt := 36) dX12_number_28 (by decide) (fun c28 => ?_) (fun c28 => ?_)
    · have k := k.2 c28
      exact jr_sub [0, 1] rfl k
    · have k := k.1 c28
      refine jr_aload_n 0 dX12_number_31 rfl rfl ?_
      refine jr_iconst (v := 3) dX12_number_32 (by decide) ?_
      obtain ⟨Q12, C10, k⟩ := k
      refine jr_cVv (As := [.int 3]) jl_X12_124 km_X12_blames rfl rfl dX12_number_33 mw_o (Nat.le_of_ble_eq_true rfl) (Con.pv C10 (fun _ q => q) (fun E h' f => f.elim)) (fun h7 q8 => ?_)
      obtain ⟨μ11, q8, q9⟩ := q8
      subst q9
      have k := k μ11 q8
      exact jr_sub [0, 1] rfl k
  · have k := k.2 c5
    refine jr_aload_n 0 dX12_number_8 rfl rfl ?_
    refine jr_iconst (v := 2) dX12_number_9 (by decide) ?_
    obtain ⟨Q19, C17, k⟩ := k
    refine jr_cVv (As := [.int 2]) jl_X12_124 km_X12_blames rfl rfl dX12_number_10 mw_o (Nat.le_of_ble_eq_true rfl) (Con.pv C17 (fun _ q => q) (fun E h' f => f.elim)) (fun h14 q15 => ?_)
    obtain ⟨μ18, q15, q16⟩ := q15
    subst q16
    have k := k μ18 q15
    refine jr_goto (tgt := 36) dX12_number_13 (by decide) ?_
    exact jr_sub [0, 1] rfl k
set_option maxRecDepth 20000 in
theorem wX12_number_36 {x1 : Int32} (k : ((μ.1 12) = 0 → ∃ Q7 : MW → Prop, Con g mX12_readsOn d [.ref m] (mw h m μ) (wPv h m Q7) ∧ ∀ μ6 : MW, Q7 μ6 → J g mX12_number (d + 1) hs P 52 [(0, .ref m), (1, .int x1), (3, .int (μ.1 11))] [] (mw h m μ6)) ∧ (¬ (μ.1 12) = 0 → J g mX12_number (d + 1) hs P 52 [(0, .ref m), (1, .int x1), (3, .int (μ.1 11))] [] (mw h m μ))) : J g mX12_number (d + 1) hs P 36 [(0, .ref m), (1, .int x1)] [] (mw h m μ) := by
  refine jr_aload_n 0 dX12_number_36 rfl rfl ?_
  refine jr_get jf_X12_96 dX12_number_37 mw_o rfl ?_
  refine jr_istore_n (lv' := [(3, .int (μ.1 11)), (0, .ref m), (1, .int x1)]) dX12_number_40 rfl (by decide) rfl ?_
  refine jr_aload_n 1 dX12_number_41 rfl rfl ?_
  refine jr_get jf_X12_102 dX12_number_42 mw_o rfl ?_
  refine jr_if_ne (tgt := 52) dX12_number_45 (by decide) (fun c45 => ?_) (fun c45 => ?_)
  · have k := k.2 c45
    exact jr_sub [1, 2, 0] rfl k
  · have k := k.1 c45
    refine jr_aload_n 1 dX12_number_48 rfl rfl ?_
    obtain ⟨Q7, C5, k⟩ := k
    refine jr_cVv (As := []) jl_X12_121 km_X12_readsOn rfl rfl dX12_number_49 mw_o (Nat.le_of_ble_eq_true rfl) (Con.pv C5 (fun _ q => q) (fun E h' f => f.elim)) (fun h2 q3 => ?_)
    obtain ⟨μ6, q3, q4⟩ := q3
    subst q4
    have k := k μ6 q3
    exact jr_sub [1, 2, 0] rfl k
set_option maxRecDepth 20000 in
theorem wX12_number_52 {x1 : Int32} {x3 : Int32} (k : ((μ.1 12) = 0 → P (.inl (some (.int x3))) (mw h m μ)) ∧ (¬ (μ.1 12) = 0 → P (.inl (some (.int x1))) (mw h m μ))) : J g mX12_number (d + 1) hs P 52 [(0, .ref m), (1, .int x1), (3, .int x3)] [] (mw h m μ) := by
  refine jr_aload_n 0 dX12_number_52 rfl rfl ?_
  refine jr_get jf_X12_102 dX12_number_53 mw_o rfl ?_
  refine jr_if_ne (tgt := 63) dX12_number_56 (by decide) (fun c56 => ?_) (fun c56 => ?_)
  · have k := k.2 c56
    refine jr_iload_n 1 dX12_number_63 rfl rfl ?_
    exact jr_iret (ty := .int) rfl rfl dX12_number_64 k
  · have k := k.1 c56
    refine jr_iload_n 2 dX12_number_59 rfl rfl ?_
    refine jr_goto (tgt := 64) dX12_number_60 (by decide) ?_
    exact jr_iret (ty := .int) rfl rfl dX12_number_64 k
set_option maxRecDepth 20000 in
theorem wX12_mustWord_0 {x1 : Nat} (k : ∃ Q7 : Int32 → MW → Prop, Con g mX12_took d [.ref m, .ref x1] (mw h m μ) (wPi h m Q7) ∧ ∀ (r1 : Int32) (μ6 : MW), Q7 r1 μ6 → (r1 = 0 → ∃ Q14 : MW → Prop, Con g mX12_blames d [.ref m, .int 2] (mw h m μ6) (wPv h m Q14) ∧ ∀ μ13 : MW, Q14 μ13 → P (.inl none) (mw h m μ13)) ∧ (¬ r1 = 0 → P (.inl none) (mw h m μ6))) : J g mX12_mustWord (d + 1) hs P 0 [(0, .ref m), (1, .ref x1)] [] (mw h m μ) := by
  refine jr_aload_n 0 dX12_mustWord_0 rfl rfl ?_
  refine jr_aload_n 1 dX12_mustWord_1 rfl rfl ?_
  obtain ⟨Q7, C5, k⟩ := k
  refine jr_cVi (As := [.ref x1]) jl_X12_132 km_X12_took rfl rfl dX12_mustWord_2 mw_o (Nat.le_of_ble_eq_true rfl) (Con.pi C5 (fun _ _ q => q) (fun E h' f => f.elim)) (fun r1 h2 q3 => ?_)
  obtain ⟨μ6, q3, q4⟩ := q3
  subst q4
  have k := k r1 μ6 q3
  refine jr_if_ne (tgt := 13) dX12_mustWord_5 (by decide) (fun c5 => ?_) (fun c5 => ?_)
  · have k := k.2 c5
    exact jr_vret rfl dX12_mustWord_13 k
  · have k := k.1 c5
    refine jr_aload_n 0 dX12_mustWord_8 rfl rfl ?_
    refine jr_iconst (v := 2) dX12_mustWord_9 (by decide) ?_
    obtain ⟨Q14, C12, k⟩ := k
    refine jr_cVv (As := [.int 2]) jl_X12_124 km_X12_blames rfl rfl dX12_mustWord_10 mw_o (Nat.le_of_ble_eq_true rfl) (Con.pv C12 (fun _ q => q) (fun E h' f => f.elim)) (fun h9 q10 => ?_)
    obtain ⟨μ13, q10, q11⟩ := q10
    subst q11
    have k := k μ13 q10
    exact jr_vret rfl dX12_mustWord_13 k
set_option maxRecDepth 20000 in
theorem wX12_laysStep_0 {x1 : Int32} (k : ((μ.1 12) = 0 → vp_in ((μ.1 17)) 3240 ∧ vp_in (((μ.1 18) + (μ.2.1 2 (ix ((μ.1 17)))))) 3240 ∧ vp_in ((((mA μ 2 (upd (μ.2.1 2) (ix (((μ.1 18) + (μ.2.1 2 (ix ((μ.1 17))))))) x1))).1 17)) 3240 ∧ vp_in ((((mA μ 2 (upd (μ.2.1 2) (ix (((μ.1 18) + (μ.2.1 2 (ix ((μ.1 17))))))) x1))).1 17)) 3240 ∧ P (.inl none) (mw h m (mA ((mA μ 2 (upd (μ.2.1 2) (ix (((μ.1 18) + (μ.2.1 2 (ix ((μ.1 17))))))) x1))) 2 (upd (((mA μ 2 (upd (μ.2.1 2) (ix (((μ.1 18) + (μ.2.1 2 (ix ((μ.1 17))))))) x1))).2.1 2) (ix ((((mA μ 2 (upd (μ.2.1 2) (ix (((μ.1 18) + (μ.2.1 2 (ix ((μ.1 17))))))) x1))).1 17))) (((((mA μ 2 (upd (μ.2.1 2) (ix (((μ.1 18) + (μ.2.1 2 (ix ((μ.1 17))))))) x1))).2.1 2 (ix ((((mA μ 2 (upd (μ.2.1 2) (ix (((μ.1 18) + (μ.2.1 2 (ix ((μ.1 17))))))) x1))).1 17)))) + 1)))))) ∧ (¬ (μ.1 12) = 0 → P (.inl none) (mw h m μ))) : J g mX12_laysStep (d + 1) hs P 0 [(0, .ref m), (1, .int x1)] [] (mw h m μ) := by
  refine jr_aload_n 0 dX12_laysStep_0 rfl rfl ?_
  refine jr_get jf_X12_102 dX12_laysStep_1 mw_o rfl ?_
  refine jr_if_eq (tgt := 8) dX12_laysStep_4 (by decide) (fun c4 => ?_) (fun c4 => ?_)
  · have k := k.1 c4
    refine jr_aload_n 0 dX12_laysStep_8 rfl rfl ?_
    refine jr_get jf_X12_13 dX12_laysStep_9 mw_o rfl ?_
    refine jr_aload_n 0 dX12_laysStep_12 rfl rfl ?_
    refine jr_get jf_X12_135 dX12_laysStep_13 mw_o rfl ?_
    refine jr_aload_n 0 dX12_laysStep_16 rfl rfl ?_
    refine jr_get jf_X12_13 dX12_laysStep_17 mw_o rfl ?_
    refine jr_aload_n 0 dX12_laysStep_20 rfl rfl ?_
    refine jr_get jf_X12_138 dX12_laysStep_21 mw_o rfl ?_
    obtain ⟨e1, k⟩ := k
    refine jr_iald dX12_laysStep_24 mw_2 e1 ?_
    refine jr_iadd dX12_laysStep_25 ?_
    refine jr_iload_n 1 dX12_laysStep_26 rfl rfl ?_
    obtain ⟨e4, k⟩ := k
    refine jr_iastE dX12_laysStep_27 mw_2 e4 (fun h2 e3 => ?_)
    replace e3 : h2 = mw h m (mA μ 2 (upd (μ.2.1 2) (ix (((μ.1 18) + (μ.2.1 2 (ix ((μ.1 17))))))) x1)) := e3.trans (mw_pA (by decide) (by decide) _)
    subst e3
    refine jr_aload_n 0 dX12_laysStep_28 rfl rfl ?_
    refine jr_get jf_X12_13 dX12_laysStep_29 mw_o rfl ?_
    refine jr_aload_n 0 dX12_laysStep_32 rfl rfl ?_
    refine jr_get jf_X12_138 dX12_laysStep_33 mw_o rfl ?_
    refine jr_dup2 dX12_laysStep_36 rfl rfl ?_
    obtain ⟨e5, k⟩ := k
    refine jr_iald dX12_laysStep_37 mw_2 e5 ?_
    refine jr_iconst (v := 1) dX12_laysStep_38 (by decide) ?_
    refine jr_iadd dX12_laysStep_39 ?_
    obtain ⟨e8, k⟩ := k
    refine jr_iastE dX12_laysStep_40 mw_2 e8 (fun h6 e7 => ?_)
    replace e7 : h6 = mw h m (mA ((mA μ 2 (upd (μ.2.1 2) (ix (((μ.1 18) + (μ.2.1 2 (ix ((μ.1 17))))))) x1))) 2 (upd (((mA μ 2 (upd (μ.2.1 2) (ix (((μ.1 18) + (μ.2.1 2 (ix ((μ.1 17))))))) x1))).2.1 2) (ix ((((mA μ 2 (upd (μ.2.1 2) (ix (((μ.1 18) + (μ.2.1 2 (ix ((μ.1 17))))))) x1))).1 17))) (((((mA μ 2 (upd (μ.2.1 2) (ix (((μ.1 18) + (μ.2.1 2 (ix ((μ.1 17))))))) x1))).2.1 2 (ix ((((mA μ 2 (upd (μ.2.1 2) (ix (((μ.1 18) + (μ.2.1 2 (ix ((μ.1 17))))))) x1))).1 17)))) + 1)))) := e7.trans (mw_pA (by decide) (by decide) _)
    subst e7
    exact jr_vret rfl dX12_laysStep_41 k
  · have k := k.2 c4
    exact jr_vret rfl dX12_laysStep_7 k
set_option maxRecDepth 20000 in
theorem wX12_beginsLaw_0 {x1 : Int32} {x2 : Int32} (k : vp_in x1 3240 ∧ ∃ Q14 : MW → Prop, Con g mX12_mustSign d [.ref m, .int 58] (mw h m (mA ((mI ((mI μ 17 x1)) 18 x2)) 2 (upd (((mI ((mI μ 17 x1)) 18 x2)).2.1 2) (ix x1) 0))) (wPv h m Q14) ∧ ∀ μ13 : MW, Q14 μ13 → P (.inl none) (mw h m μ13)) : J g mX12_beginsLaw (d + 1) hs P 0 [(0, .ref m), (1, .int x1), (2, .int x2)] [] (mw h m μ) := by
  refine jr_aload_n 0 dX12_beginsLaw_0 rfl rfl ?_
  refine jr_iload_n 1 dX12_beginsLaw_1 rfl rfl ?_
  refine jr_putE jp_X12_138 dX12_beginsLaw_2 mw_o (Nat.le_of_ble_eq_true rfl) rfl rfl (fun h1 e2 => ?_)
  replace e2 := e2.trans (mw_pI 17 x1)
  subst e2
  refine jr_aload_n 0 dX12_beginsLaw_5 rfl rfl ?_
  refine jr_iload_n 2 dX12_beginsLaw_6 rfl rfl ?_
  refine jr_putE jp_X12_135 dX12_beginsLaw_7 mw_o (Nat.le_of_ble_eq_true rfl) rfl rfl (fun h3 e4 => ?_)
  replace e4 := e4.trans (mw_pI 18 x2)
  subst e4
  refine jr_aload_n 0 dX12_beginsLaw_10 rfl rfl ?_
  refine jr_get jf_X12_13 dX12_beginsLaw_11 mw_o rfl ?_
  refine jr_iload_n 1 dX12_beginsLaw_14 rfl rfl ?_
  refine jr_iconst (v := 0) dX12_beginsLaw_15 (by decide) ?_
  obtain ⟨e7, k⟩ := k
  refine jr_iastE dX12_beginsLaw_16 mw_2 e7 (fun h5 e6 => ?_)
  replace e6 : h5 = mw h m (mA ((mI ((mI μ 17 x1)) 18 x2)) 2 (upd (((mI ((mI μ 17 x1)) 18 x2)).2.1 2) (ix x1) 0)) := e6.trans (mw_pA (by decide) (by decide) _)
  subst e6
  refine jr_aload_n 0 dX12_beginsLaw_17 rfl rfl ?_
  refine jr_bipush (v := 58) dX12_beginsLaw_18 (by decide) ?_
  obtain ⟨Q14, C12, k⟩ := k
  refine jr_cVv (As := [.int 58]) jl_X12_141 km_X12_mustSign rfl rfl dX12_beginsLaw_20 mw_o (Nat.le_of_ble_eq_true rfl) (Con.pv C12 (fun _ q => q) (fun E h' f => f.elim)) (fun h9 q10 => ?_)
  obtain ⟨μ13, q10, q11⟩ := q10
  subst q11
  have k := k μ13 q10
  exact jr_vret rfl dX12_beginsLaw_23 k
set_option maxRecDepth 20000 in
theorem wX12_goesIn_0  (k : ((μ.1 16) = 6 → ∃ Q7 : MW → Prop, Con g mX12_blames d [.ref m, .int 4] (mw h m μ) (wPv h m Q7) ∧ ∀ μ6 : MW, Q7 μ6 → J g mX12_goesIn (d + 1) hs P 14 [(0, .ref m)] [] (mw h m μ6)) ∧ (¬ (μ.1 16) = 6 → J g mX12_goesIn (d + 1) hs P 14 [(0, .ref m)] [] (mw h m μ))) : J g mX12_goesIn (d + 1) hs P 0 [(0, .ref m)] [] (mw h m μ) := by
  refine jr_aload_n 0 dX12_goesIn_0 rfl rfl ?_
  refine jr_get jf_X12_144 dX12_goesIn_1 mw_o rfl ?_
  refine jr_bipush (v := 6) dX12_goesIn_4 (by decide) ?_
  refine jr_icmp_ne (tgt := 14) dX12_goesIn_6 (by decide) (fun c6 => ?_) (fun c6 => ?_)
  · have k := k.2 c6
    exact jr_sub [0] rfl k
  · have k := k.1 c6
    refine jr_aload_n 0 dX12_goesIn_9 rfl rfl ?_
    refine jr_iconst (v := 4) dX12_goesIn_10 (by decide) ?_
    obtain ⟨Q7, C5, k⟩ := k
    refine jr_cVv (As := [.int 4]) jl_X12_124 km_X12_blames rfl rfl dX12_goesIn_11 mw_o (Nat.le_of_ble_eq_true rfl) (Con.pv C5 (fun _ q => q) (fun E h' f => f.elim)) (fun h2 q3 => ?_)
    obtain ⟨μ6, q3, q4⟩ := q3
    subst q4
    have k := k μ6 q3
    exact jr_sub [0] rfl k
set_option maxRecDepth 20000 in
theorem wX12_goesIn_14  (k : ((((mI μ 16 (((μ.1 16) + 1)))).1 12) = 0 → ∃ Q9 : MW → Prop, Con g mX12_readsOn d [.ref m] (mw h m (mI μ 16 (((μ.1 16) + 1)))) (wPv h m Q9) ∧ ∀ μ8 : MW, Q9 μ8 → P (.inl none) (mw h m μ8)) ∧ (¬ (((mI μ 16 (((μ.1 16) + 1)))).1 12) = 0 → P (.inl none) (mw h m (mI μ 16 (((μ.1 16) + 1)))))) : J g mX12_goesIn (d + 1) hs P 14 [(0, .ref m)] [] (mw h m μ) := by
  refine jr_aload_n 0 dX12_goesIn_14 rfl rfl ?_
  refine jr_dup dX12_goesIn_15 rfl ?_
  refine jr_get jf_X12_144 dX12_goesIn_16 mw_o rfl ?_
  refine jr_iconst (v := 1) dX12_goesIn_19 (by decide) ?_
  refine jr_iadd dX12_goesIn_20 ?_
  refine jr_putE jp_X12_144 dX12_goesIn_21 mw_o (Nat.le_of_ble_eq_true rfl) rfl rfl (fun h1 e2 => ?_)
  replace e2 := e2.trans (mw_pI 16 (((μ.1 16) + 1)))
  subst e2
  refine jr_aload_n 0 dX12_goesIn_24 rfl rfl ?_
  refine jr_get jf_X12_102 dX12_goesIn_25 mw_o rfl ?_
  refine jr_if_ne (tgt := 35) dX12_goesIn_28 (by decide) (fun c28 => ?_) (fun c28 => ?_)
  · have k := k.2 c28
    exact jr_vret rfl dX12_goesIn_35 k
  · have k := k.1 c28
    refine jr_aload_n 0 dX12_goesIn_31 rfl rfl ?_
    obtain ⟨Q9, C7, k⟩ := k
    refine jr_cVv (As := []) jl_X12_121 km_X12_readsOn rfl rfl dX12_goesIn_32 mw_o (Nat.le_of_ble_eq_true rfl) (Con.pv C7 (fun _ q => q) (fun E h' f => f.elim)) (fun h4 q5 => ?_)
    obtain ⟨μ8, q5, q6⟩ := q5
    subst q6
    have k := k μ8 q5
    exact jr_vret rfl dX12_goesIn_35 k
set_option maxRecDepth 20000 in
theorem wX12_readTruth_0  (k : ∃ Q7 : MW → Prop, Con g mX12_readBoth d [.ref m] (mw h m μ) (wPv h m Q7) ∧ ∀ μ6 : MW, Q7 μ6 → J g mX12_readTruth (d + 1) hs P 4 [(0, .ref m)] [] (mw h m μ6)) : J g mX12_readTruth (d + 1) hs P 0 [(0, .ref m)] [] (mw h m μ) := by
  refine jr_aload_n 0 dX12_readTruth_0 rfl rfl ?_
  obtain ⟨Q7, C5, k⟩ := k
  refine jr_cVv (As := []) jl_X12_147 km_X12_readBoth rfl rfl dX12_readTruth_1 mw_o (Nat.le_of_ble_eq_true rfl) (Con.pv C5 (fun _ q => q) (fun E h' f => f.elim)) (fun h2 q3 => ?_)
  obtain ⟨μ6, q3, q4⟩ := q3
  subst q4
  have k := k μ6 q3
  exact jr_sub [0] rfl k
set_option maxRecDepth 20000 in
theorem wX12_readTruth_4  (k : ∃ Q7 : Int32 → MW → Prop, Con g mX12_took d [.ref m, .ref (gS g 36)] (mw h m μ) (wPi h m Q7) ∧ ∀ (r1 : Int32) (μ6 : MW), Q7 r1 μ6 → (r1 = 0 → P (.inl none) (mw h m μ6)) ∧ (¬ r1 = 0 → ∃ Q14 : MW → Prop, Con g mX12_readBoth d [.ref m] (mw h m μ6) (wPv h m Q14) ∧ ∀ μ13 : MW, Q14 μ13 → ∃ Q21 : MW → Prop, Con g mX12_laysStep d [.ref m, .int 17] (mw h m μ13) (wPv h m Q21) ∧ ∀ μ20 : MW, Q21 μ20 → J g mX12_readTruth (d + 1) hs P 4 [(0, .ref m)] [] (mw h m μ20))) : J g mX12_readTruth (d + 1) hs P 4 [(0, .ref m)] [] (mw h m μ) := by
  refine jr_aload_n 0 dX12_readTruth_4 rfl rfl ?_
  refine jr_ldcS (k9 := 36) rfl rfl rfl dX12_readTruth_5 ?_
  obtain ⟨Q7, C5, k⟩ := k
  refine jr_cVi (As := [.ref (gS g 36)]) jl_X12_132 km_X12_took rfl rfl dX12_readTruth_7 mw_o (Nat.le_of_ble_eq_true rfl) (Con.pi C5 (fun _ _ q => q) (fun E h' f => f.elim)) (fun r1 h2 q3 => ?_)
  obtain ⟨μ6, q3, q4⟩ := q3
  subst q4
  have k := k r1 μ6 q3
  refine jr_if_eq (tgt := 26) dX12_readTruth_10 (by decide) (fun c10 => ?_) (fun c10 => ?_)
  · have k := k.1 c10
    exact jr_vret rfl dX12_readTruth_26 k
  · have k := k.2 c10
    refine jr_aload_n 0 dX12_readTruth_13 rfl rfl ?_
    obtain ⟨Q14, C12, k⟩ := k
    refine jr_cVv (As := []) jl_X12_147 km_X12_readBoth rfl rfl dX12_readTruth_14 mw_o (Nat.le_of_ble_eq_true rfl) (Con.pv C12 (fun _ q => q) (fun E h' f => f.elim)) (fun h9 q10 => ?_)
    obtain ⟨μ13, q10, q11⟩ := q10
    subst q11
    have k := k μ13 q10
    refine jr_aload_n 0 dX12_readTruth_17 rfl rfl ?_
    refine jr_bipush (v := 17) dX12_readTruth_18 (by decide) ?_
    obtain ⟨Q21, C19, k⟩ := k
    refine jr_cVv (As := [.int 17]) jl_X12_152 km_X12_laysStep rfl rfl dX12_readTruth_20 mw_o (Nat.le_of_ble_eq_true rfl) (Con.pv C19 (fun _ q => q) (fun E h' f => f.elim)) (fun h16 q17 => ?_)
    obtain ⟨μ20, q17, q18⟩ := q17
    subst q18
    have k := k μ20 q17
    refine jr_goto (tgt := 4) dX12_readTruth_23 (by decide) ?_
    exact jr_sub [0] rfl k
set_option maxRecDepth 20000 in
theorem wX12_readBoth_0  (k : ∃ Q7 : MW → Prop, Con g mX12_readUnit d [.ref m] (mw h m μ) (wPv h m Q7) ∧ ∀ μ6 : MW, Q7 μ6 → J g mX12_readBoth (d + 1) hs P 4 [(0, .ref m)] [] (mw h m μ6)) : J g mX12_readBoth (d + 1) hs P 0 [(0, .ref m)] [] (mw h m μ) := by
  refine jr_aload_n 0 dX12_readBoth_0 rfl rfl ?_
  obtain ⟨Q7, C5, k⟩ := k
  refine jr_cVv (As := []) jl_X12_155 km_X12_readUnit rfl rfl dX12_readBoth_1 mw_o (Nat.le_of_ble_eq_true rfl) (Con.pv C5 (fun _ q => q) (fun E h' f => f.elim)) (fun h2 q3 => ?_)
  obtain ⟨μ6, q3, q4⟩ := q3
  subst q4
  have k := k μ6 q3
  exact jr_sub [0] rfl k
set_option maxRecDepth 20000 in
theorem wX12_readBoth_4  (k : ∃ Q7 : Int32 → MW → Prop, Con g mX12_took d [.ref m, .ref (gS g 35)] (mw h m μ) (wPi h m Q7) ∧ ∀ (r1 : Int32) (μ6 : MW), Q7 r1 μ6 → (r1 = 0 → P (.inl none) (mw h m μ6)) ∧ (¬ r1 = 0 → ∃ Q14 : MW → Prop, Con g mX12_readUnit d [.ref m] (mw h m μ6) (wPv h m Q14) ∧ ∀ μ13 : MW, Q14 μ13 → ∃ Q21 : MW → Prop, Con g mX12_laysStep d [.ref m, .int 16] (mw h m μ13) (wPv h m Q21) ∧ ∀ μ20 : MW, Q21 μ20 → J g mX12_readBoth (d + 1) hs P 4 [(0, .ref m)] [] (mw h m μ20))) : J g mX12_readBoth (d + 1) hs P 4 [(0, .ref m)] [] (mw h m μ) := by
  refine jr_aload_n 0 dX12_readBoth_4 rfl rfl ?_
  refine jr_ldcS (k9 := 35) rfl rfl rfl dX12_readBoth_5 ?_
  obtain ⟨Q7, C5, k⟩ := k
  refine jr_cVi (As := [.ref (gS g 35)]) jl_X12_132 km_X12_took rfl rfl dX12_readBoth_7 mw_o (Nat.le_of_ble_eq_true rfl) (Con.pi C5 (fun _ _ q => q) (fun E h' f => f.elim)) (fun r1 h2 q3 => ?_)
  obtain ⟨μ6, q3, q4⟩ := q3
  subst q4
  have k := k r1 μ6 q3
  refine jr_if_eq (tgt := 26) dX12_readBoth_10 (by decide) (fun c10 => ?_) (fun c10 => ?_)
  · have k := k.1 c10
    exact jr_vret rfl dX12_readBoth_26 k
  · have k := k.2 c10
    refine jr_aload_n 0 dX12_readBoth_13 rfl rfl ?_
    obtain ⟨Q14, C12, k⟩ := k
    refine jr_cVv (As := []) jl_X12_155 km_X12_readUnit rfl rfl dX12_readBoth_14 mw_o (Nat.le_of_ble_eq_true rfl) (Con.pv C12 (fun _ q => q) (fun E h' f => f.elim)) (fun h9 q10 => ?_)
    obtain ⟨μ13, q10, q11⟩ := q10
    subst q11
    have k := k μ13 q10
    refine jr_aload_n 0 dX12_readBoth_17 rfl rfl ?_
    refine jr_bipush (v := 16) dX12_readBoth_18 (by decide) ?_
    obtain ⟨Q21, C19, k⟩ := k
    refine jr_cVv (As := [.int 16]) jl_X12_152 km_X12_laysStep rfl rfl dX12_readBoth_20 mw_o (Nat.le_of_ble_eq_true rfl) (Con.pv C19 (fun _ q => q) (fun E h' f => f.elim)) (fun h16 q17 => ?_)
    obtain ⟨μ20, q17, q18⟩ := q17
    subst q18
    have k := k μ20 q17
    refine jr_goto (tgt := 4) dX12_readBoth_23 (by decide) ?_
    exact jr_sub [0] rfl k
set_option maxRecDepth 20000 in
theorem wX12_readUnit_0  (k : ((μ.1 12) = 0 → ∃ r1 : Int32, Con g mX12_isWord d [.ref m, .ref (gS g 34)] (mw h m μ) (jPi (fun r h' => r = r1 ∧ h' = (mw h m μ)) no2) ∧ (r1 = 0 → ∃ r6 : Int32, Con g mX12_isSign d [.ref m, .int 91] (mw h m μ) (jPi (fun r h' => r = r6 ∧ h' = (mw h m μ)) no2) ∧ (r6 = 0 → ∃ Q17 : MW → Prop, Con g mX12_readSum d [.ref m] (mw h m μ) (wPv h m Q17) ∧ ∀ μ16 : MW, Q17 μ16 → ((μ16.1 10) = 61 → J g mX12_readUnit (d + 1) hs P 112 [(0, .ref m), (1, .int (μ16.1 10))] [] (mw h m μ16)) ∧ (¬ (μ16.1 10) = 61 → ((μ16.1 10) = 60 → J g mX12_readUnit (d + 1) hs P 112 [(0, .ref m), (1, .int (μ16.1 10))] [] (mw h m μ16)) ∧ (¬ (μ16.1 10) = 60 → ((μ16.1 10) = 62 → J g mX12_readUnit (d + 1) hs P 112 [(0, .ref m), (1, .int (μ16.1 10))] [] (mw h m μ16)) ∧ (¬ (μ16.1 10) = 62 → ∃ Q24 : MW → Prop, Con g mX12_blames d [.ref m, .int 2] (mw h m μ16) (wPv h m Q24) ∧ ∀ μ23 : MW, Q24 μ23 → J g mX12_readUnit (d + 1) hs P 112 [(0, .ref m), (1, .int (μ16.1 10))] [] (mw h m μ23))))) ∧ (¬ r6 = 0 → ∃ Q31 : MW → Prop, Con g mX12_goesIn d [.ref m] (mw h m μ) (wPv h m Q31) ∧ ∀ μ30 : MW, Q31 μ30 → ∃ Q38 : MW → Prop, Con g mX12_readTruth d [.ref m] (mw h m μ30) (wPv h m Q38) ∧ ∀ μ37 : MW, Q38 μ37 → ∃ Q45 : MW → Prop, Con g mX12_mustSign d [.ref m, .int 93] (mw h m μ37) (wPv h m Q45) ∧ ∀ μ44 : MW, Q45 μ44 → P (.inl none) (mw h m (mI μ44 16 (((μ44.1 16) - 1)))))) ∧ (¬ r1 = 0 → ∃ Q54 : MW → Prop, Con g mX12_goesIn d [.ref m] (mw h m μ) (wPv h m Q54) ∧ ∀ μ53 : MW, Q54 μ53 → ∃ Q61 : MW → Prop, Con g mX12_readUnit d [.ref m] (mw h m μ53) (wPv h m Q61) ∧ ∀ μ60 : MW, Q61 μ60 → ∃ Q68 : MW → Prop, Con g mX12_laysStep d [.ref m, .int 18] (mw h m μ60) (wPv h m Q68) ∧ ∀ μ67 : MW, Q68 μ67 → P (.inl none) (mw h m (mI μ67 16 (((μ67.1 16) - 1)))))) ∧ (¬ (μ.1 12) = 0 → P (.inl none) (mw h m μ))) : J g mX12_readUnit (d + 1) hs P 0 [(0, .ref m)] [] (mw h m μ) := by
  refine jr_aload_n 0 dX12_readUnit_0 rfl rfl ?_
  refine jr_get jf_X12_102 dX12_readUnit_1 mw_o rfl ?_
  refine jr_if_eq (tgt := 8) dX12_readUnit_4 (by decide) (fun c4 => ?_) (fun c4 => ?_)
  · have k := k.1 c4
    refine jr_aload_n 0 dX12_readUnit_8 rfl rfl ?_
    refine jr_ldcS (k9 := 34) rfl rfl rfl dX12_readUnit_9 ?_
    obtain ⟨r1z, C5, k⟩ := k
    refine jr_cVi (As := [.ref (gS g 34)]) jl_X12_117 km_X12_isWord rfl rfl dX12_readUnit_11 mw_o (Nat.le_of_ble_eq_true rfl) (C5.pi (fun _ _ q => q) (fun E h' f => f.elim)) (fun r1 h2 q3 => ?_)
    obtain ⟨q3, q4⟩ := q3
    subst q4
    subst q3
    refine jr_if_eq (tgt := 44) dX12_readUnit_14 (by decide) (fun c14 => ?_) (fun c14 => ?_)
    · have k := k.1 c14
      refine jr_aload_n 0 dX12_readUnit_44 rfl rfl ?_
      refine jr_bipush (v := 91) dX12_readUnit_45 (by decide) ?_
      obtain ⟨r6z, C10, k⟩ := k
      refine jr_cVi (As := [.int 91]) jl_X12_165 km_X12_isSign rfl rfl dX12_readUnit_47 mw_o (Nat.le_of_ble_eq_true rfl) (C10.pi (fun _ _ q => q) (fun E h' f => f.elim)) (fun r6 h7 q8 => ?_)
      obtain ⟨q8, q9⟩ := q8
      subst q9
      subst q8
      refine jr_if_eq (tgt := 80) dX12_readUnit_50 (by decide) (fun c50 => ?_) (fun c50 => ?_)
      · have k := k.1 c50
        refine jr_aload_n 0 dX12_readUnit_80 rfl rfl ?_
        obtain ⟨Q17, C15, k⟩ := k
        refine jr_cVv (As := []) jl_X12_171 km_X12_readSum rfl rfl dX12_readUnit_81 mw_o (Nat.le_of_ble_eq_true rfl) (Con.pv C15 (fun _ q => q) (fun E h' f => f.elim)) (fun h12 q13 => ?_)
        obtain ⟨μ16, q13, q14⟩ := q13
        subst q14
        have k := k μ16 q13
        refine jr_aload_n 0 dX12_readUnit_84 rfl rfl ?_
        refine jr_get jf_X12_82 dX12_readUnit_85 mw_o rfl ?_
        refine jr_istore_n (lv' := [(1, .int (μ16.1 10)), (0, .ref m)]) dX12_readUnit_88 rfl (by decide) rfl ?_
        refine jr_iload_n 0 dX12_readUnit_89 rfl rfl ?_
        refine jr_bipush (v := 61) dX12_readUnit_90 (by decide) ?_
        refine jr_icmp_eq (tgt := 112) dX12_readUnit_92 (by decide) (fun c92 => ?_) (fun c92 => ?_)
        · have k := k.1 c92
          exact jr_sub [1, 0] rfl k
        · have k := k.2 c92
          refine jr_iload_n 0 dX12_readUnit_95 rfl rfl ?_
          refine jr_bipush (v := 60) dX12_readUnit_96 (by decide) ?_
          refine jr_icmp_eq (tgt := 112) dX12_readUnit_98 (by decide) (fun c98 => ?_) (fun c98 => ?_)
          · have k := k.1 c98
            exact jr_sub [1, 0] rfl k
          · have k := k.2 c98
            refine jr_iload_n 0 dX12_readUnit_101 rfl rfl ?_
            refine jr_bipush (v := 62) dX12_readUnit_102 (by decide) ?_
            refine jr_icmp_eq (tgt := 112) dX12_readUnit_104 (by decide) (fun c104 => ?_) (fun c104 => ?_)
            · have k := k.1 c104
              exact jr_sub [1, 0] rfl k
            · have k := k.2 c104
              refine jr_aload_n 1 dX12_readUnit_107 rfl rfl ?_
              refine jr_iconst (v := 2) dX12_readUnit_108 (by decide) ?_
              obtain ⟨Q24, C22, k⟩ := k
              refine jr_cVv (As := [.int 2]) jl_X12_124 km_X12_blames rfl rfl dX12_readUnit_109 mw_o (Nat.le_of_ble_eq_true rfl) (Con.pv C22 (fun _ q => q) (fun E h' f => f.elim)) (fun h19 q20 => ?_)
              obtain ⟨μ23, q20, q21⟩ := q20
              subst q21
              have k := k μ23 q20
              exact jr_sub [1, 0] rfl k
      · have k := k.2 c50
        refine jr_aload_n 0 dX12_readUnit_53 rfl rfl ?_
        obtain ⟨Q31, C29, k⟩ := k
        refine jr_cVv (As := []) jl_X12_162 km_X12_goesIn rfl rfl dX12_readUnit_54 mw_o (Nat.le_of_ble_eq_true rfl) (Con.pv C29 (fun _ q => q) (fun E h' f => f.elim)) (fun h26 q27 => ?_)
        obtain ⟨μ30, q27, q28⟩ := q27
        subst q28
        have k := k μ30 q27
        refine jr_aload_n 0 dX12_readUnit_57 rfl rfl ?_
        obtain ⟨Q38, C36, k⟩ := k
        refine jr_cVv (As := []) jl_X12_168 km_X12_readTruth rfl rfl dX12_readUnit_58 mw_o (Nat.le_of_ble_eq_true rfl) (Con.pv C36 (fun _ q => q) (fun E h' f => f.elim)) (fun h33 q34 => ?_)
        obtain ⟨μ37, q34, q35⟩ := q34
        subst q35
        have k := k μ37 q34
        refine jr_aload_n 0 dX12_readUnit_61 rfl rfl ?_
        refine jr_bipush (v := 93) dX12_readUnit_62 (by decide) ?_
        obtain ⟨Q45, C43, k⟩ := k
        refine jr_cVv (As := [.int 93]) jl_X12_141 km_X12_mustSign rfl rfl dX12_readUnit_64 mw_o (Nat.le_of_ble_eq_true rfl) (Con.pv C43 (fun _ q => q) (fun E h' f => f.elim)) (fun h40 q41 => ?_)
        obtain ⟨μ44, q41, q42⟩ := q41
        subst q42
        have k := k μ44 q41
        refine jr_aload_n 0 dX12_readUnit_67 rfl rfl ?_
        refine jr_dup dX12_readUnit_68 rfl ?_
        refine jr_get jf_X12_144 dX12_readUnit_69 mw_o rfl ?_
        refine jr_iconst (v := 1) dX12_readUnit_72 (by decide) ?_
        refine jr_isub dX12_readUnit_73 ?_
        refine jr_putE jp_X12_144 dX12_readUnit_74 mw_o (Nat.le_of_ble_eq_true rfl) rfl rfl (fun h46 e47 => ?_)
        replace e47 := e47.trans (mw_pI 16 (((μ44.1 16) - 1)))
        subst e47
        refine jr_goto (tgt := 155) dX12_readUnit_77 (by decide) ?_
        exact jr_vret rfl dX12_readUnit_155 k
    · have k := k.2 c14
      refine jr_aload_n 0 dX12_readUnit_17 rfl rfl ?_
      obtain ⟨Q54, C52, k⟩ := k
      refine jr_cVv (As := []) jl_X12_162 km_X12_goesIn rfl rfl dX12_readUnit_18 mw_o (Nat.le_of_ble_eq_true rfl) (Con.pv C52 (fun _ q => q) (fun E h' f => f.elim)) (fun h49 q50 => ?_)
      obtain ⟨μ53, q50, q51⟩ := q50
      subst q51
      have k := k μ53 q50
      refine jr_aload_n 0 dX12_readUnit_21 rfl rfl ?_
      obtain ⟨Q61, C59, k⟩ := k
      refine jr_cVv (As := []) jl_X12_155 km_X12_readUnit rfl rfl dX12_readUnit_22 mw_o (Nat.le_of_ble_eq_true rfl) (Con.pv C59 (fun _ q => q) (fun E h' f => f.elim)) (fun h56 q57 => ?_)
      obtain ⟨μ60, q57, q58⟩ := q57
      subst q58
      have k := k μ60 q57
      refine jr_aload_n 0 dX12_readUnit_25 rfl rfl ?_
      refine jr_bipush (v := 18) dX12_readUnit_26 (by decide) ?_
      obtain ⟨Q68, C66, k⟩ := k
      refine jr_cVv (As := [.int 18]) jl_X12_152 km_X12_laysStep rfl rfl dX12_readUnit_28 mw_o (Nat.le_of_ble_eq_true rfl) (Con.pv C66 (fun _ q => q) (fun E h' f => f.elim)) (fun h63 q64 => ?_)
      obtain ⟨μ67, q64, q65⟩ := q64
      subst q65
      have k := k μ67 q64
      refine jr_aload_n 0 dX12_readUnit_31 rfl rfl ?_
      refine jr_dup dX12_readUnit_32 rfl ?_
      refine jr_get jf_X12_144 dX12_readUnit_33 mw_o rfl ?_
      refine jr_iconst (v := 1) dX12_readUnit_36 (by decide) ?_
      refine jr_isub dX12_readUnit_37 ?_
      refine jr_putE jp_X12_144 dX12_readUnit_38 mw_o (Nat.le_of_ble_eq_true rfl) rfl rfl (fun h69 e70 => ?_)
      replace e70 := e70.trans (mw_pI 16 (((μ67.1 16) - 1)))
      subst e70
      refine jr_goto (tgt := 155) dX12_readUnit_41 (by decide) ?_
      exact jr_vret rfl dX12_readUnit_155 k
  · have k := k.2 c4
    exact jr_vret rfl dX12_readUnit_7 k
set_option maxRecDepth 20000 in
theorem wX12_readUnit_112 {x1 : Int32} (k : ((μ.1 12) = 0 → ∃ Q7 : MW → Prop, Con g mX12_readsOn d [.ref m] (mw h m μ) (wPv h m Q7) ∧ ∀ μ6 : MW, Q7 μ6 → J g mX12_readUnit (d + 1) hs P 123 [(0, .ref m), (1, .int x1)] [] (mw h m μ6)) ∧ (¬ (μ.1 12) = 0 → J g mX12_readUnit (d + 1) hs P 123 [(0, .ref m), (1, .int x1)] [] (mw h m μ))) : J g mX12_readUnit (d + 1) hs P 112 [(0, .ref m), (1, .int x1)] [] (mw h m μ) := by
  refine jr_aload_n 0 dX12_readUnit_112 rfl rfl ?_
  refine jr_get jf_X12_102 dX12_readUnit_113 mw_o rfl ?_
  refine jr_if_ne (tgt := 123) dX12_readUnit_116 (by decide) (fun c116 => ?_) (fun c116 => ?_)
  · have k := k.2 c116
    exact jr_sub [0, 1] rfl k
  · have k := k.1 c116
    refine jr_aload_n 0 dX12_readUnit_119 rfl rfl ?_
    obtain ⟨Q7, C5, k⟩ := k
    refine jr_cVv (As := []) jl_X12_121 km_X12_readsOn rfl rfl dX12_readUnit_120 mw_o (Nat.le_of_ble_eq_true rfl) (Con.pv C5 (fun _ q => q) (fun E h' f => f.elim)) (fun h2 q3 => ?_)
    obtain ⟨μ6, q3, q4⟩ := q3
    subst q4
    have k := k μ6 q3
    exact jr_sub [0, 1] rfl k
set_option maxRecDepth 20000 in
theorem wX12_readUnit_123 {x1 : Int32} (k : ∃ Q7 : MW → Prop, Con g mX12_readSum d [.ref m] (mw h m μ) (wPv h m Q7) ∧ ∀ μ6 : MW, Q7 μ6 → (x1 = 61 → J g mX12_readUnit (d + 1) hs P 152 [] [.int 13, .ref m] (mw h m μ6)) ∧ (¬ x1 = 61 → (x1 = 60 → J g mX12_readUnit (d + 1) hs P 152 [] [.int 14, .ref m] (mw h m μ6)) ∧ (¬ x1 = 60 → J g mX12_readUnit (d + 1) hs P 152 [] [.int 15, .ref m] (mw h m μ6)))) : J g mX12_readUnit (d + 1) hs P 123 [(0, .ref m), (1, .int x1)] [] (mw h m μ) := by
  refine jr_aload_n 0 dX12_readUnit_123 rfl rfl ?_
  obtain ⟨Q7, C5, k⟩ := k
  refine jr_cVv (As := []) jl_X12_171 km_X12_readSum rfl rfl dX12_readUnit_124 mw_o (Nat.le_of_ble_eq_true rfl) (Con.pv C5 (fun _ q => q) (fun E h' f => f.elim)) (fun h2 q3 => ?_)
  obtain ⟨μ6, q3, q4⟩ := q3
  subst q4
  have k := k μ6 q3
  refine jr_aload_n 0 dX12_readUnit_127 rfl rfl ?_
  refine jr_iload_n 1 dX12_readUnit_128 rfl rfl ?_
  refine jr_bipush (v := 61) dX12_readUnit_129 (by decide) ?_
  refine jr_icmp_ne (tgt := 139) dX12_readUnit_131 (by decide) (fun c131 => ?_) (fun c131 => ?_)
  · have k := k.2 c131
    refine jr_iload_n 1 dX12_readUnit_139 rfl rfl ?_
    refine jr_bipush (v := 60) dX12_readUnit_140 (by decide) ?_
    refine jr_icmp_ne (tgt := 150) dX12_readUnit_142 (by decide) (fun c142 => ?_) (fun c142 => ?_)
    · have k := k.2 c142
      refine jr_bipush (v := 15) dX12_readUnit_150 (by decide) ?_
      exact jr_sub [] rfl k
    · have k := k.1 c142
      refine jr_bipush (v := 14) dX12_readUnit_145 (by decide) ?_
      refine jr_goto (tgt := 152) dX12_readUnit_147 (by decide) ?_
      exact jr_sub [] rfl k
  · have k := k.1 c131
    refine jr_bipush (v := 13) dX12_readUnit_134 (by decide) ?_
    refine jr_goto (tgt := 152) dX12_readUnit_136 (by decide) ?_
    exact jr_sub [] rfl k
set_option maxRecDepth 20000 in
theorem wX12_readUnit_152 {s1 : Int32} (k : ∃ Q7 : MW → Prop, Con g mX12_laysStep d [.ref m, .int s1] (mw h m μ) (wPv h m Q7) ∧ ∀ μ6 : MW, Q7 μ6 → P (.inl none) (mw h m μ6)) : J g mX12_readUnit (d + 1) hs P 152 [] [.int s1, .ref m] (mw h m μ) := by
  obtain ⟨Q7, C5, k⟩ := k
  refine jr_cVv (As := [.int s1]) jl_X12_152 km_X12_laysStep rfl rfl dX12_readUnit_152 mw_o (Nat.le_of_ble_eq_true rfl) (Con.pv C5 (fun _ q => q) (fun E h' f => f.elim)) (fun h2 q3 => ?_)
  obtain ⟨μ6, q3, q4⟩ := q3
  subst q4
  have k := k μ6 q3
  exact jr_vret rfl dX12_readUnit_155 k
set_option maxRecDepth 20000 in
theorem wX12_readSum_0  (k : ∃ Q7 : MW → Prop, Con g mX12_readTerm d [.ref m] (mw h m μ) (wPv h m Q7) ∧ ∀ μ6 : MW, Q7 μ6 → J g mX12_readSum (d + 1) hs P 4 [(0, .ref m)] [] (mw h m μ6)) : J g mX12_readSum (d + 1) hs P 0 [(0, .ref m)] [] (mw h m μ) := by
  refine jr_aload_n 0 dX12_readSum_0 rfl rfl ?_
  obtain ⟨Q7, C5, k⟩ := k
  refine jr_cVv (As := []) jl_X12_174 km_X12_readTerm rfl rfl dX12_readSum_1 mw_o (Nat.le_of_ble_eq_true rfl) (Con.pv C5 (fun _ q => q) (fun E h' f => f.elim)) (fun h2 q3 => ?_)
  obtain ⟨μ6, q3, q4⟩ := q3
  subst q4
  have k := k μ6 q3
  exact jr_sub [0] rfl k
set_option maxRecDepth 20000 in
theorem wX12_readSum_4  (k : ∃ r1 : Int32, Con g mX12_isSign d [.ref m, .int 43] (mw h m μ) (jPi (fun r h' => r = r1 ∧ h' = (mw h m μ)) no2) ∧ (r1 = 0 → ∃ r6 : Int32, Con g mX12_isSign d [.ref m, .int 45] (mw h m μ) (jPi (fun r h' => r = r6 ∧ h' = (mw h m μ)) no2) ∧ (r6 = 0 → P (.inl none) (mw h m μ)) ∧ (¬ r6 = 0 → J g mX12_readSum (d + 1) hs P 22 [(0, .ref m)] [] (mw h m μ))) ∧ (¬ r1 = 0 → J g mX12_readSum (d + 1) hs P 22 [(0, .ref m)] [] (mw h m μ))) : J g mX12_readSum (d + 1) hs P 4 [(0, .ref m)] [] (mw h m μ) := by
  refine jr_aload_n 0 dX12_readSum_4 rfl rfl ?_
  refine jr_bipush (v := 43) dX12_readSum_5 (by decide) ?_
  obtain ⟨r1z, C5, k⟩ := k
  refine jr_cVi (As := [.int 43]) jl_X12_165 km_X12_isSign rfl rfl dX12_readSum_7 mw_o (Nat.le_of_ble_eq_true rfl) (C5.pi (fun _ _ q => q) (fun E h' f => f.elim)) (fun r1 h2 q3 => ?_)
  obtain ⟨q3, q4⟩ := q3
  subst q4
  subst q3
  refine jr_if_ne (tgt := 22) dX12_readSum_10 (by decide) (fun c10 => ?_) (fun c10 => ?_)
  · have k := k.2 c10
    exact jr_sub [0] rfl k
  · have k := k.1 c10
    refine jr_aload_n 0 dX12_readSum_13 rfl rfl ?_
    refine jr_bipush (v := 45) dX12_readSum_14 (by decide) ?_
    obtain ⟨r6z, C10, k⟩ := k
    refine jr_cVi (As := [.int 45]) jl_X12_165 km_X12_isSign rfl rfl dX12_readSum_16 mw_o (Nat.le_of_ble_eq_true rfl) (C10.pi (fun _ _ q => q) (fun E h' f => f.elim)) (fun r6 h7 q8 => ?_)
    obtain ⟨q8, q9⟩ := q8
    subst q9
    subst q8
    refine jr_if_eq (tgt := 55) dX12_readSum_19 (by decide) (fun c19 => ?_) (fun c19 => ?_)
    · have k := k.1 c19
      exact jr_vret rfl dX12_readSum_55 k
    · have k := k.2 c19
      exact jr_sub [0] rfl k
set_option maxRecDepth 20000 in
theorem wX12_readSum_22  (k : ∃ Q7 : MW → Prop, Con g mX12_readsOn d [.ref m] (mw h m μ) (wPv h m Q7) ∧ ∀ μ6 : MW, Q7 μ6 → ∃ Q14 : MW → Prop, Con g mX12_readTerm d [.ref m] (mw h m μ6) (wPv h m Q14) ∧ ∀ μ13 : MW, Q14 μ13 → ((μ.1 10) = 43 → J g mX12_readSum (d + 1) hs P 49 [(0, .ref m)] [.int 10, .ref m] (mw h m μ13)) ∧ (¬ (μ.1 10) = 43 → J g mX12_readSum (d + 1) hs P 49 [(0, .ref m)] [.int 11, .ref m] (mw h m μ13))) : J g mX12_readSum (d + 1) hs P 22 [(0, .ref m)] [] (mw h m μ) := by
  refine jr_aload_n 0 dX12_readSum_22 rfl rfl ?_
  refine jr_get jf_X12_82 dX12_readSum_23 mw_o rfl ?_
  refine jr_istore_n (lv' := [(1, .int (μ.1 10)), (0, .ref m)]) dX12_readSum_26 rfl (by decide) rfl ?_
  refine jr_aload_n 1 dX12_readSum_27 rfl rfl ?_
  obtain ⟨Q7, C5, k⟩ := k
  refine jr_cVv (As := []) jl_X12_121 km_X12_readsOn rfl rfl dX12_readSum_28 mw_o (Nat.le_of_ble_eq_true rfl) (Con.pv C5 (fun _ q => q) (fun E h' f => f.elim)) (fun h2 q3 => ?_)
  obtain ⟨μ6, q3, q4⟩ := q3
  subst q4
  have k := k μ6 q3
  refine jr_aload_n 1 dX12_readSum_31 rfl rfl ?_
  obtain ⟨Q14, C12, k⟩ := k
  refine jr_cVv (As := []) jl_X12_174 km_X12_readTerm rfl rfl dX12_readSum_32 mw_o (Nat.le_of_ble_eq_true rfl) (Con.pv C12 (fun _ q => q) (fun E h' f => f.elim)) (fun h9 q10 => ?_)
  obtain ⟨μ13, q10, q11⟩ := q10
  subst q11
  have k := k μ13 q10
  refine jr_aload_n 1 dX12_readSum_35 rfl rfl ?_
  refine jr_iload_n 0 dX12_readSum_36 rfl rfl ?_
  refine jr_bipush (v := 43) dX12_readSum_37 (by decide) ?_
  refine jr_icmp_ne (tgt := 47) dX12_readSum_39 (by decide) (fun c39 => ?_) (fun c39 => ?_)
  · have k := k.2 c39
    refine jr_bipush (v := 11) dX12_readSum_47 (by decide) ?_
    exact jr_sub [1] rfl k
  · have k := k.1 c39
    refine jr_bipush (v := 10) dX12_readSum_42 (by decide) ?_
    refine jr_goto (tgt := 49) dX12_readSum_44 (by decide) ?_
    exact jr_sub [1] rfl k
set_option maxRecDepth 20000 in
theorem wX12_readSum_49 {s1 : Int32} (k : ∃ Q7 : MW → Prop, Con g mX12_laysStep d [.ref m, .int s1] (mw h m μ) (wPv h m Q7) ∧ ∀ μ6 : MW, Q7 μ6 → J g mX12_readSum (d + 1) hs P 4 [(0, .ref m)] [] (mw h m μ6)) : J g mX12_readSum (d + 1) hs P 49 [(0, .ref m)] [.int s1, .ref m] (mw h m μ) := by
  obtain ⟨Q7, C5, k⟩ := k
  refine jr_cVv (As := [.int s1]) jl_X12_152 km_X12_laysStep rfl rfl dX12_readSum_49 mw_o (Nat.le_of_ble_eq_true rfl) (Con.pv C5 (fun _ q => q) (fun E h' f => f.elim)) (fun h2 q3 => ?_)
  obtain ⟨μ6, q3, q4⟩ := q3
  subst q4
  have k := k μ6 q3
  refine jr_goto (tgt := 4) dX12_readSum_52 (by decide) ?_
  exact jr_sub [0] rfl k
set_option maxRecDepth 20000 in
theorem wX12_readTerm_0  (k : ∃ Q7 : MW → Prop, Con g mX12_readAtom d [.ref m] (mw h m μ) (wPv h m Q7) ∧ ∀ μ6 : MW, Q7 μ6 → J g mX12_readTerm (d + 1) hs P 4 [(0, .ref m)] [] (mw h m μ6)) : J g mX12_readTerm (d + 1) hs P 0 [(0, .ref m)] [] (mw h m μ) := by
  refine jr_aload_n 0 dX12_readTerm_0 rfl rfl ?_
  obtain ⟨Q7, C5, k⟩ := k
  refine jr_cVv (As := []) jl_X12_177 km_X12_readAtom rfl rfl dX12_readTerm_1 mw_o (Nat.le_of_ble_eq_true rfl) (Con.pv C5 (fun _ q => q) (fun E h' f => f.elim)) (fun h2 q3 => ?_)
  obtain ⟨μ6, q3, q4⟩ := q3
  subst q4
  have k := k μ6 q3
  exact jr_sub [0] rfl k
set_option maxRecDepth 20000 in
theorem wX12_readTerm_4  (k : ∃ r1 : Int32, Con g mX12_isSign d [.ref m, .int 42] (mw h m μ) (jPi (fun r h' => r = r1 ∧ h' = (mw h m μ)) no2) ∧ (r1 = 0 → P (.inl none) (mw h m μ)) ∧ (¬ r1 = 0 → ∃ Q12 : MW → Prop, Con g mX12_readsOn d [.ref m] (mw h m μ) (wPv h m Q12) ∧ ∀ μ11 : MW, Q12 μ11 → ∃ Q19 : MW → Prop, Con g mX12_readAtom d [.ref m] (mw h m μ11) (wPv h m Q19) ∧ ∀ μ18 : MW, Q19 μ18 → ∃ Q26 : MW → Prop, Con g mX12_laysStep d [.ref m, .int 12] (mw h m μ18) (wPv h m Q26) ∧ ∀ μ25 : MW, Q26 μ25 → J g mX12_readTerm (d + 1) hs P 4 [(0, .ref m)] [] (mw h m μ25))) : J g mX12_readTerm (d + 1) hs P 4 [(0, .ref m)] [] (mw h m μ) := by
  refine jr_aload_n 0 dX12_readTerm_4 rfl rfl ?_
  refine jr_bipush (v := 42) dX12_readTerm_5 (by decide) ?_
  obtain ⟨r1z, C5, k⟩ := k
  refine jr_cVi (As := [.int 42]) jl_X12_165 km_X12_isSign rfl rfl dX12_readTerm_7 mw_o (Nat.le_of_ble_eq_true rfl) (C5.pi (fun _ _ q => q) (fun E h' f => f.elim)) (fun r1 h2 q3 => ?_)
  obtain ⟨q3, q4⟩ := q3
  subst q4
  subst q3
  refine jr_if_eq (tgt := 30) dX12_readTerm_10 (by decide) (fun c10 => ?_) (fun c10 => ?_)
  · have k := k.1 c10
    exact jr_vret rfl dX12_readTerm_30 k
  · have k := k.2 c10
    refine jr_aload_n 0 dX12_readTerm_13 rfl rfl ?_
    obtain ⟨Q12, C10, k⟩ := k
    refine jr_cVv (As := []) jl_X12_121 km_X12_readsOn rfl rfl dX12_readTerm_14 mw_o (Nat.le_of_ble_eq_true rfl) (Con.pv C10 (fun _ q => q) (fun E h' f => f.elim)) (fun h7 q8 => ?_)
    obtain ⟨μ11, q8, q9⟩ := q8
    subst q9
    have k := k μ11 q8
    refine jr_aload_n 0 dX12_readTerm_17 rfl rfl ?_
    obtain ⟨Q19, C17, k⟩ := k
    refine jr_cVv (As := []) jl_X12_177 km_X12_readAtom rfl rfl dX12_readTerm_18 mw_o (Nat.le_of_ble_eq_true rfl) (Con.pv C17 (fun _ q => q) (fun E h' f => f.elim)) (fun h14 q15 => ?_)
    obtain ⟨μ18, q15, q16⟩ := q15
    subst q16
    have k := k μ18 q15
    refine jr_aload_n 0 dX12_readTerm_21 rfl rfl ?_
    refine jr_bipush (v := 12) dX12_readTerm_22 (by decide) ?_
    obtain ⟨Q26, C24, k⟩ := k
    refine jr_cVv (As := [.int 12]) jl_X12_152 km_X12_laysStep rfl rfl dX12_readTerm_24 mw_o (Nat.le_of_ble_eq_true rfl) (Con.pv C24 (fun _ q => q) (fun E h' f => f.elim)) (fun h21 q22 => ?_)
    obtain ⟨μ25, q22, q23⟩ := q22
    subst q23
    have k := k μ25 q22
    refine jr_goto (tgt := 4) dX12_readTerm_27 (by decide) ?_
    exact jr_sub [0] rfl k
set_option maxRecDepth 20000 in
theorem wX12_lawWord_0  (k : ∃ Q7 : Int32 → MW → Prop, Con g mX12_took d [.ref m, .ref (gS g 29)] (mw h m μ) (wPi h m Q7) ∧ ∀ (r1 : Int32) (μ6 : MW), Q7 r1 μ6 → (r1 = 0 → ∃ Q14 : Int32 → MW → Prop, Con g mX12_took d [.ref m, .ref (gS g 20)] (mw h m μ6) (wPi h m Q14) ∧ ∀ (r8 : Int32) (μ13 : MW), Q14 r8 μ13 → (r8 = 0 → ∃ Q21 : Int32 → MW → Prop, Con g mX12_took d [.ref m, .ref (gS g 27)] (mw h m μ13) (wPi h m Q21) ∧ ∀ (r15 : Int32) (μ20 : MW), Q21 r15 μ20 → (r15 = 0 → ((μ20.1 17) = 5 → J g mX12_lawWord (d + 1) hs P 52 [(0, .ref m)] [] (mw h m μ20)) ∧ (¬ (μ20.1 17) = 5 → ∃ Q28 : Int32 → MW → Prop, Con g mX12_took d [.ref m, .ref (gS g 22)] (mw h m μ20) (wPi h m Q28) ∧ ∀ (r22 : Int32) (μ27 : MW), Q28 r22 μ27 → (r22 = 0 → J g mX12_lawWord (d + 1) hs P 52 [(0, .ref m)] [] (mw h m μ27)) ∧ (¬ r22 = 0 → P (.inl (some (.int 3))) (mw h m μ27)))) ∧ (¬ r15 = 0 → P (.inl (some (.int 2))) (mw h m μ20))) ∧ (¬ r8 = 0 → P (.inl (some (.int 1))) (mw h m μ13))) ∧ (¬ r1 = 0 → P (.inl (some (.int 0))) (mw h m μ6))) : J g mX12_lawWord (d + 1) hs P 0 [(0, .ref m)] [] (mw h m μ) := by
  refine jr_aload_n 0 dX12_lawWord_0 rfl rfl ?_
  refine jr_ldcS (k9 := 29) rfl rfl rfl dX12_lawWord_1 ?_
  obtain ⟨Q7, C5, k⟩ := k
  refine jr_cVi (As := [.ref (gS g 29)]) jl_X12_132 km_X12_took rfl rfl dX12_lawWord_3 mw_o (Nat.le_of_ble_eq_true rfl) (Con.pi C5 (fun _ _ q => q) (fun E h' f => f.elim)) (fun r1 h2 q3 => ?_)
  obtain ⟨μ6, q3, q4⟩ := q3
  subst q4
  have k := k r1 μ6 q3
  refine jr_if_eq (tgt := 11) dX12_lawWord_6 (by decide) (fun c6 => ?_) (fun c6 => ?_)
  · have k := k.1 c6
    refine jr_aload_n 0 dX12_lawWord_11 rfl rfl ?_
    refine jr_ldcS (k9 := 20) rfl rfl rfl dX12_lawWord_12 ?_
    obtain ⟨Q14, C12, k⟩ := k
    refine jr_cVi (As := [.ref (gS g 20)]) jl_X12_132 km_X12_took rfl rfl dX12_lawWord_14 mw_o (Nat.le_of_ble_eq_true rfl) (Con.pi C12 (fun _ _ q => q) (fun E h' f => f.elim)) (fun r8 h9 q10 => ?_)
    obtain ⟨μ13, q10, q11⟩ := q10
    subst q11
    have k := k r8 μ13 q10
    refine jr_if_eq (tgt := 22) dX12_lawWord_17 (by decide) (fun c17 => ?_) (fun c17 => ?_)
    · have k := k.1 c17
      refine jr_aload_n 0 dX12_lawWord_22 rfl rfl ?_
      refine jr_ldcS (k9 := 27) rfl rfl rfl dX12_lawWord_23 ?_
      obtain ⟨Q21, C19, k⟩ := k
      refine jr_cVi (As := [.ref (gS g 27)]) jl_X12_132 km_X12_took rfl rfl dX12_lawWord_25 mw_o (Nat.le_of_ble_eq_true rfl) (Con.pi C19 (fun _ _ q => q) (fun E h' f => f.elim)) (fun r15 h16 q17 => ?_)
      obtain ⟨μ20, q17, q18⟩ := q17
      subst q18
      have k := k r15 μ20 q17
      refine jr_if_eq (tgt := 33) dX12_lawWord_28 (by decide) (fun c28 => ?_) (fun c28 => ?_)
      · have k := k.1 c28
        refine jr_aload_n 0 dX12_lawWord_33 rfl rfl ?_
        refine jr_get jf_X12_138 dX12_lawWord_34 mw_o rfl ?_
        refine jr_iconst (v := 5) dX12_lawWord_37 (by decide) ?_
        refine jr_icmp_eq (tgt := 52) dX12_lawWord_38 (by decide) (fun c38 => ?_) (fun c38 => ?_)
        · have k := k.1 c38
          exact jr_sub [0] rfl k
        · have k := k.2 c38
          refine jr_aload_n 0 dX12_lawWord_41 rfl rfl ?_
          refine jr_ldcS (k9 := 22) rfl rfl rfl dX12_lawWord_42 ?_
          obtain ⟨Q28, C26, k⟩ := k
          refine jr_cVi (As := [.ref (gS g 22)]) jl_X12_132 km_X12_took rfl rfl dX12_lawWord_44 mw_o (Nat.le_of_ble_eq_true rfl) (Con.pi C26 (fun _ _ q => q) (fun E h' f => f.elim)) (fun r22 h23 q24 => ?_)
          obtain ⟨μ27, q24, q25⟩ := q24
          subst q25
          have k := k r22 μ27 q24
          refine jr_if_eq (tgt := 52) dX12_lawWord_47 (by decide) (fun c47 => ?_) (fun c47 => ?_)
          · have k := k.1 c47
            exact jr_sub [0] rfl k
          · have k := k.2 c47
            refine jr_iconst (v := 3) dX12_lawWord_50 (by decide) ?_
            exact jr_iret (ty := .int) rfl rfl dX12_lawWord_51 k
      · have k := k.2 c28
        refine jr_iconst (v := 2) dX12_lawWord_31 (by decide) ?_
        exact jr_iret (ty := .int) rfl rfl dX12_lawWord_32 k
    · have k := k.2 c17
      refine jr_iconst (v := 1) dX12_lawWord_20 (by decide) ?_
      exact jr_iret (ty := .int) rfl rfl dX12_lawWord_21 k
  · have k := k.2 c6
    refine jr_iconst (v := 0) dX12_lawWord_9 (by decide) ?_
    exact jr_iret (ty := .int) rfl rfl dX12_lawWord_10 k
set_option maxRecDepth 20000 in
theorem wX12_lawWord_52  (k : ((μ.1 17) = 6 → ∃ Q14 : Int32 → MW → Prop, Con g mX12_took d [.ref m, .ref (gS g 30)] (mw h m μ) (wPi h m Q14) ∧ ∀ (r8 : Int32) (μ13 : MW), Q14 r8 μ13 → (r8 = 0 → P (.inl (some (.int ((-1))))) (mw h m μ13)) ∧ (¬ r8 = 0 → P (.inl (some (.int 4))) (mw h m μ13))) ∧ (¬ (μ.1 17) = 6 → ((μ.1 17) = 4 → ∃ Q7 : Int32 → MW → Prop, Con g mX12_took d [.ref m, .ref (gS g 31)] (mw h m μ) (wPi h m Q7) ∧ ∀ (r1 : Int32) (μ6 : MW), Q7 r1 μ6 → (r1 = 0 → J g mX12_lawWord (d + 1) hs P 95 [(0, .ref m)] [] (mw h m μ6)) ∧ (¬ r1 = 0 → P (.inl (some (.int 4))) (mw h m μ6))) ∧ (¬ (μ.1 17) = 4 → J g mX12_lawWord (d + 1) hs P 95 [(0, .ref m)] [] (mw h m μ)))) : J g mX12_lawWord (d + 1) hs P 52 [(0, .ref m)] [] (mw h m μ) := by
  refine jr_aload_n 0 dX12_lawWord_52 rfl rfl ?_
  refine jr_get jf_X12_138 dX12_lawWord_53 mw_o rfl ?_
  refine jr_bipush (v := 6) dX12_lawWord_56 (by decide) ?_
  refine jr_icmp_ne (tgt := 76) dX12_lawWord_58 (by decide) (fun c58 => ?_) (fun c58 => ?_)
  · have k := k.2 c58
    refine jr_aload_n 0 dX12_lawWord_76 rfl rfl ?_
    refine jr_get jf_X12_138 dX12_lawWord_77 mw_o rfl ?_
    refine jr_iconst (v := 4) dX12_lawWord_80 (by decide) ?_
    refine jr_icmp_ne (tgt := 95) dX12_lawWord_81 (by decide) (fun c81 => ?_) (fun c81 => ?_)
    · have k := k.2 c81
      exact jr_sub [0] rfl k
    · have k := k.1 c81
      refine jr_aload_n 0 dX12_lawWord_84 rfl rfl ?_
      refine jr_ldcS (k9 := 31) rfl rfl rfl dX12_lawWord_85 ?_
      obtain ⟨Q7, C5, k⟩ := k
      refine jr_cVi (As := [.ref (gS g 31)]) jl_X12_132 km_X12_took rfl rfl dX12_lawWord_87 mw_o (Nat.le_of_ble_eq_true rfl) (Con.pi C5 (fun _ _ q => q) (fun E h' f => f.elim)) (fun r1 h2 q3 => ?_)
      obtain ⟨μ6, q3, q4⟩ := q3
      subst q4
      have k := k r1 μ6 q3
      refine jr_if_eq (tgt := 95) dX12_lawWord_90 (by decide) (fun c90 => ?_) (fun c90 => ?_)
      · have k := k.1 c90
        exact jr_sub [0] rfl k
      · have k := k.2 c90
        refine jr_iconst (v := 4) dX12_lawWord_93 (by decide) ?_
        exact jr_iret (ty := .int) rfl rfl dX12_lawWord_94 k
  · have k := k.1 c58
    refine jr_aload_n 0 dX12_lawWord_61 rfl rfl ?_
    refine jr_ldcS (k9 := 30) rfl rfl rfl dX12_lawWord_62 ?_
    obtain ⟨Q14, C12, k⟩ := k
    refine jr_cVi (As := [.ref (gS g 30)]) jl_X12_132 km_X12_took rfl rfl dX12_lawWord_64 mw_o (Nat.le_of_ble_eq_true rfl) (Con.pi C12 (fun _ _ q => q) (fun E h' f => f.elim)) (fun r8 h9 q10 => ?_)
    obtain ⟨μ13, q10, q11⟩ := q10
    subst q11
    have k := k r8 μ13 q10
    refine jr_if_eq (tgt := 74) dX12_lawWord_67 (by decide) (fun c67 => ?_) (fun c67 => ?_)
    · have k := k.1 c67
      refine jr_iconst (v := (-1)) dX12_lawWord_74 (by decide) ?_
      exact jr_iret (ty := .int) rfl rfl dX12_lawWord_75 k
    · have k := k.2 c67
      refine jr_iconst (v := 4) dX12_lawWord_70 (by decide) ?_
      refine jr_goto (tgt := 75) dX12_lawWord_71 (by decide) ?_
      exact jr_iret (ty := .int) rfl rfl dX12_lawWord_75 k
set_option maxRecDepth 20000 in
theorem wX12_lawWord_95  (k : ((μ.1 17) = 4 → ∃ Q7 : Int32 → MW → Prop, Con g mX12_took d [.ref m, .ref (gS g 21)] (mw h m μ) (wPi h m Q7) ∧ ∀ (r1 : Int32) (μ6 : MW), Q7 r1 μ6 → (r1 = 0 → P (.inl (some (.int ((-1))))) (mw h m μ6)) ∧ (¬ r1 = 0 → P (.inl (some (.int 5))) (mw h m μ6))) ∧ (¬ (μ.1 17) = 4 → P (.inl (some (.int ((-1))))) (mw h m μ))) : J g mX12_lawWord (d + 1) hs P 95 [(0, .ref m)] [] (mw h m μ) := by
  refine jr_aload_n 0 dX12_lawWord_95 rfl rfl ?_
  refine jr_get jf_X12_138 dX12_lawWord_96 mw_o rfl ?_
  refine jr_iconst (v := 4) dX12_lawWord_99 (by decide) ?_
  refine jr_icmp_ne (tgt := 116) dX12_lawWord_100 (by decide) (fun c100 => ?_) (fun c100 => ?_)
  · have k := k.2 c100
    refine jr_iconst (v := (-1)) dX12_lawWord_116 (by decide) ?_
    exact jr_iret (ty := .int) rfl rfl dX12_lawWord_117 k
  · have k := k.1 c100
    refine jr_aload_n 0 dX12_lawWord_103 rfl rfl ?_
    refine jr_ldcS (k9 := 21) rfl rfl rfl dX12_lawWord_104 ?_
    obtain ⟨Q7, C5, k⟩ := k
    refine jr_cVi (As := [.ref (gS g 21)]) jl_X12_132 km_X12_took rfl rfl dX12_lawWord_106 mw_o (Nat.le_of_ble_eq_true rfl) (Con.pi C5 (fun _ _ q => q) (fun E h' f => f.elim)) (fun r1 h2 q3 => ?_)
    obtain ⟨μ6, q3, q4⟩ := q3
    subst q4
    have k := k r1 μ6 q3
    refine jr_if_eq (tgt := 116) dX12_lawWord_109 (by decide) (fun c109 => ?_) (fun c109 => ?_)
    · have k := k.1 c109
      refine jr_iconst (v := (-1)) dX12_lawWord_116 (by decide) ?_
      exact jr_iret (ty := .int) rfl rfl dX12_lawWord_117 k
    · have k := k.2 c109
      refine jr_iconst (v := 5) dX12_lawWord_112 (by decide) ?_
      refine jr_goto (tgt := 117) dX12_lawWord_113 (by decide) ?_
      exact jr_iret (ty := .int) rfl rfl dX12_lawWord_117 k
set_option maxRecDepth 20000 in
theorem wX12_readAtom_0  (k : ((μ.1 12) = 0 → ∃ Q7 : Int32 → MW → Prop, Con g mX12_lawWord d [.ref m] (mw h m μ) (wPi h m Q7) ∧ ∀ (r1 : Int32) (μ6 : MW), Q7 r1 μ6 → (r1 = (-1) → ∃ r8 : Int32, Con g mX12_isSign d [.ref m, .int 40] (mw h m μ6) (jPi (fun r h' => r = r8 ∧ h' = (mw h m μ6)) no2) ∧ (r8 = 0 → ∃ Q19 : Int32 → MW → Prop, Con g mX12_number d [.ref m, .int 0, .int 999] (mw h m μ6) (wPi h m Q19) ∧ ∀ (r13 : Int32) (μ18 : MW), Q19 r13 μ18 → ∃ Q26 : MW → Prop, Con g mX12_laysStep d [.ref m, .int (1000 + r13)] (mw h m μ18) (wPv h m Q26) ∧ ∀ μ25 : MW, Q26 μ25 → P (.inl none) (mw h m μ25)) ∧ (¬ r8 = 0 → ∃ Q33 : MW → Prop, Con g mX12_goesIn d [.ref m] (mw h m μ6) (wPv h m Q33) ∧ ∀ μ32 : MW, Q33 μ32 → ∃ Q40 : MW → Prop, Con g mX12_readSum d [.ref m] (mw h m μ32) (wPv h m Q40) ∧ ∀ μ39 : MW, Q40 μ39 → ∃ Q47 : MW → Prop, Con g mX12_mustSign d [.ref m, .int 41] (mw h m μ39) (wPv h m Q47) ∧ ∀ μ46 : MW, Q47 μ46 → P (.inl none) (mw h m (mI μ46 16 (((μ46.1 16) - 1)))))) ∧ (¬ r1 = (-1) → ∃ Q56 : MW → Prop, Con g mX12_laysStep d [.ref m, .int (100 + r1)] (mw h m μ6) (wPv h m Q56) ∧ ∀ μ55 : MW, Q56 μ55 → P (.inl none) (mw h m μ55))) ∧ (¬ (μ.1 12) = 0 → P (.inl none) (mw h m μ))) : J g mX12_readAtom (d + 1) hs P 0 [(0, .ref m)] [] (mw h m μ) := by
  refine jr_aload_n 0 dX12_readAtom_0 rfl rfl ?_
  refine jr_get jf_X12_102 dX12_readAtom_1 mw_o rfl ?_
  refine jr_if_eq (tgt := 8) dX12_readAtom_4 (by decide) (fun c4 => ?_) (fun c4 => ?_)
  · have k := k.1 c4
    refine jr_aload_n 0 dX12_readAtom_8 rfl rfl ?_
    obtain ⟨Q7, C5, k⟩ := k
    refine jr_cVi (As := []) jl_X12_194 km_X12_lawWord rfl rfl dX12_readAtom_9 mw_o (Nat.le_of_ble_eq_true rfl) (Con.pi C5 (fun _ _ q => q) (fun E h' f => f.elim)) (fun r1 h2 q3 => ?_)
    obtain ⟨μ6, q3, q4⟩ := q3
    subst q4
    have k := k r1 μ6 q3
    refine jr_istore_n (lv' := [(1, .int r1), (0, .ref m)]) dX12_readAtom_12 rfl (by decide) rfl ?_
    refine jr_iload_n 0 dX12_readAtom_13 rfl rfl ?_
    refine jr_iconst (v := (-1)) dX12_readAtom_14 (by decide) ?_
    refine jr_icmp_eq (tgt := 29) dX12_readAtom_15 (by decide) (fun c15 => ?_) (fun c15 => ?_)
    · have k := k.1 c15
      refine jr_aload_n 1 dX12_readAtom_29 rfl rfl ?_
      refine jr_bipush (v := 40) dX12_readAtom_30 (by decide) ?_
      obtain ⟨r8z, C12, k⟩ := k
      refine jr_cVi (As := [.int 40]) jl_X12_165 km_X12_isSign rfl rfl dX12_readAtom_32 mw_o (Nat.le_of_ble_eq_true rfl) (C12.pi (fun _ _ q => q) (fun E h' f => f.elim)) (fun r8 h9 q10 => ?_)
      obtain ⟨q10, q11⟩ := q10
      subst q11
      subst q10
      refine jr_if_eq (tgt := 65) dX12_readAtom_35 (by decide) (fun c35 => ?_) (fun c35 => ?_)
      · have k := k.1 c35
        refine jr_aload_n 1 dX12_readAtom_65 rfl rfl ?_
        refine jr_iconst (v := 0) dX12_readAtom_66 (by decide) ?_
        refine jr_sipush (v := 999) dX12_readAtom_67 (by decide) ?_
        obtain ⟨Q19, C17, k⟩ := k
        refine jr_cVi (As := [.int 0, .int 999]) jl_X12_197 km_X12_number rfl rfl dX12_readAtom_70 mw_o (Nat.le_of_ble_eq_true rfl) (Con.pi C17 (fun _ _ q => q) (fun E h' f => f.elim)) (fun r13 h14 q15 => ?_)
        obtain ⟨μ18, q15, q16⟩ := q15
        subst q16
        have k := k r13 μ18 q15
        refine jr_istore_n (lv' := [(2, .int r13), (1, .int r1), (0, .ref m)]) dX12_readAtom_73 rfl (by decide) rfl ?_
        refine jr_aload_n 2 dX12_readAtom_74 rfl rfl ?_
        refine jr_sipush (v := 1000) dX12_readAtom_75 (by decide) ?_
        refine jr_iload_n 0 dX12_readAtom_78 rfl rfl ?_
        refine jr_iadd dX12_readAtom_79 ?_
        obtain ⟨Q26, C24, k⟩ := k
        refine jr_cVv (As := [.int (1000 + r13)]) jl_X12_152 km_X12_laysStep rfl rfl dX12_readAtom_80 mw_o (Nat.le_of_ble_eq_true rfl) (Con.pv C24 (fun _ q => q) (fun E h' f => f.elim)) (fun h21 q22 => ?_)
        obtain ⟨μ25, q22, q23⟩ := q22
        subst q23
        have k := k μ25 q22
        exact jr_vret rfl dX12_readAtom_83 k
      · have k := k.2 c35
        refine jr_aload_n 1 dX12_readAtom_38 rfl rfl ?_
        obtain ⟨Q33, C31, k⟩ := k
        refine jr_cVv (As := []) jl_X12_162 km_X12_goesIn rfl rfl dX12_readAtom_39 mw_o (Nat.le_of_ble_eq_true rfl) (Con.pv C31 (fun _ q => q) (fun E h' f => f.elim)) (fun h28 q29 => ?_)
        obtain ⟨μ32, q29, q30⟩ := q29
        subst q30
        have k := k μ32 q29
        refine jr_aload_n 1 dX12_readAtom_42 rfl rfl ?_
        obtain ⟨Q40, C38, k⟩ := k
        refine jr_cVv (As := []) jl_X12_171 km_X12_readSum rfl rfl dX12_readAtom_43 mw_o (Nat.le_of_ble_eq_true rfl) (Con.pv C38 (fun _ q => q) (fun E h' f => f.elim)) (fun h35 q36 => ?_)
        obtain ⟨μ39, q36, q37⟩ := q36
        subst q37
        have k := k μ39 q36
        refine jr_aload_n 1 dX12_readAtom_46 rfl rfl ?_
        refine jr_bipush (v := 41) dX12_readAtom_47 (by decide) ?_
        obtain ⟨Q47, C45, k⟩ := k
        refine jr_cVv (As := [.int 41]) jl_X12_141 km_X12_mustSign rfl rfl dX12_readAtom_49 mw_o (Nat.le_of_ble_eq_true rfl) (Con.pv C45 (fun _ q => q) (fun E h' f => f.elim)) (fun h42 q43 => ?_)
        obtain ⟨μ46, q43, q44⟩ := q43
        subst q44
        have k := k μ46 q43
        refine jr_aload_n 1 dX12_readAtom_52 rfl rfl ?_
        refine jr_dup dX12_readAtom_53 rfl ?_
        refine jr_get jf_X12_144 dX12_readAtom_54 mw_o rfl ?_
        refine jr_iconst (v := 1) dX12_readAtom_57 (by decide) ?_
        refine jr_isub dX12_readAtom_58 ?_
        refine jr_putE jp_X12_144 dX12_readAtom_59 mw_o (Nat.le_of_ble_eq_true rfl) rfl rfl (fun h48 e49 => ?_)
        replace e49 := e49.trans (mw_pI 16 (((μ46.1 16) - 1)))
        subst e49
        refine jr_goto (tgt := 83) dX12_readAtom_62 (by decide) ?_
        exact jr_vret rfl dX12_readAtom_83 k
    · have k := k.2 c15
      refine jr_aload_n 1 dX12_readAtom_18 rfl rfl ?_
      refine jr_bipush (v := 100) dX12_readAtom_19 (by decide) ?_
      refine jr_iload_n 0 dX12_readAtom_21 rfl rfl ?_
      refine jr_iadd dX12_readAtom_22 ?_
      obtain ⟨Q56, C54, k⟩ := k
      refine jr_cVv (As := [.int (100 + r1)]) jl_X12_152 km_X12_laysStep rfl rfl dX12_readAtom_23 mw_o (Nat.le_of_ble_eq_true rfl) (Con.pv C54 (fun _ q => q) (fun E h' f => f.elim)) (fun h51 q52 => ?_)
      obtain ⟨μ55, q52, q53⟩ := q52
      subst q53
      have k := k μ55 q52
      refine jr_goto (tgt := 83) dX12_readAtom_26 (by decide) ?_
      exact jr_vret rfl dX12_readAtom_83 k
  · have k := k.2 c4
    exact jr_vret rfl dX12_readAtom_7 k
set_option maxRecDepth 20000 in
theorem wX12_readHouse_0  (k : ((μ.2.1 2 1) = 7 → ∃ Q7 : MW → Prop, Con g mX12_blames d [.ref m, .int 4] (mw h m μ) (wPv h m Q7) ∧ ∀ μ6 : MW, Q7 μ6 → J g mX12_readHouse (d + 1) hs P 16 [(0, .ref m)] [] (mw h m μ6)) ∧ (¬ (μ.2.1 2 1) = 7 → J g mX12_readHouse (d + 1) hs P 16 [(0, .ref m)] [] (mw h m μ))) : J g mX12_readHouse (d + 1) hs P 0 [(0, .ref m)] [] (mw h m μ) := by
  refine jr_aload_n 0 dX12_readHouse_0 rfl rfl ?_
  refine jr_get jf_X12_13 dX12_readHouse_1 mw_o rfl ?_
  refine jr_iconst (v := 1) dX12_readHouse_4 (by decide) ?_
  refine jr_iald dX12_readHouse_5 mw_2 (vp_in_nI (n := 1) (by decide) (by decide)) ?_
  refine jr_bipush (v := 7) dX12_readHouse_6 (by decide) ?_
  refine jr_icmp_ne (tgt := 16) dX12_readHouse_8 (by decide) (fun c8 => ?_) (fun c8 => ?_)
  · have k := k.2 c8
    exact jr_sub [0] rfl k
  · have k := k.1 c8
    refine jr_aload_n 0 dX12_readHouse_11 rfl rfl ?_
    refine jr_iconst (v := 4) dX12_readHouse_12 (by decide) ?_
    obtain ⟨Q7, C5, k⟩ := k
    refine jr_cVv (As := [.int 4]) jl_X12_124 km_X12_blames rfl rfl dX12_readHouse_13 mw_o (Nat.le_of_ble_eq_true rfl) (Con.pv C5 (fun _ q => q) (fun E h' f => f.elim)) (fun h2 q3 => ?_)
    obtain ⟨μ6, q3, q4⟩ := q3
    subst q4
    have k := k μ6 q3
    exact jr_sub [0] rfl k
set_option maxRecDepth 20000 in
theorem wX12_readHouse_16  (k : ((μ.1 12) = 0 → ∃ Q7 : MW → Prop, Con g mX12_readsOn d [.ref m] (mw h m μ) (wPv h m Q7) ∧ ∀ μ6 : MW, Q7 μ6 → J g mX12_readHouse (d + 1) hs P 27 [(0, .ref m)] [] (mw h m μ6)) ∧ (¬ (μ.1 12) = 0 → J g mX12_readHouse (d + 1) hs P 27 [(0, .ref m)] [] (mw h m μ))) : J g mX12_readHouse (d + 1) hs P 16 [(0, .ref m)] [] (mw h m μ) := by
  refine jr_aload_n 0 dX12_readHouse_16 rfl rfl ?_
  refine jr_get jf_X12_102 dX12_readHouse_17 mw_o rfl ?_
  refine jr_if_ne (tgt := 27) dX12_readHouse_20 (by decide) (fun c20 => ?_) (fun c20 => ?_)
  · have k := k.2 c20
    exact jr_sub [0] rfl k
  · have k := k.1 c20
    refine jr_aload_n 0 dX12_readHouse_23 rfl rfl ?_
    obtain ⟨Q7, C5, k⟩ := k
    refine jr_cVv (As := []) jl_X12_121 km_X12_readsOn rfl rfl dX12_readHouse_24 mw_o (Nat.le_of_ble_eq_true rfl) (Con.pv C5 (fun _ q => q) (fun E h' f => f.elim)) (fun h2 q3 => ?_)
    obtain ⟨μ6, q3, q4⟩ := q3
    subst q4
    have k := k μ6 q3
    exact jr_sub [0] rfl k
set_option maxRecDepth 20000 in
theorem wX12_readHouse_27  (k : ∃ Q7 : Int32 → MW → Prop, Con g mX12_number d [.ref m, .int 0, .int 99] (mw h m μ) (wPi h m Q7) ∧ ∀ (r1 : Int32) (μ6 : MW), Q7 r1 μ6 → ∃ Q14 : MW → Prop, Con g mX12_mustWord d [.ref m, .ref (gS g 21)] (mw h m μ6) (wPv h m Q14) ∧ ∀ μ13 : MW, Q14 μ13 → ∃ Q21 : Int32 → MW → Prop, Con g mX12_number d [.ref m, .int 0, .int 99] (mw h m μ13) (wPi h m Q21) ∧ ∀ (r15 : Int32) (μ20 : MW), Q21 r15 μ20 → J g mX12_readHouse (d + 1) hs P 76 [(0, .ref m), (1, .int (jmin 6 ((μ.2.1 2 1)))), (2, .int r1), (3, .int r15), (4, .int 0), (5, .int 0), (6, .int 0), (7, .int 0), (8, .int 1)] [] (mw h m μ20)) : J g mX12_readHouse (d + 1) hs P 27 [(0, .ref m)] [] (mw h m μ) := by
  refine jr_bipush (v := 6) dX12_readHouse_27 (by decide) ?_
  refine jr_aload_n 0 dX12_readHouse_29 rfl rfl ?_
  refine jr_get jf_X12_13 dX12_readHouse_30 mw_o rfl ?_
  refine jr_iconst (v := 1) dX12_readHouse_33 (by decide) ?_
  refine jr_iald dX12_readHouse_34 mw_2 (vp_in_nI (n := 1) (by decide) (by decide)) ?_
  refine jr_mmin jl_X12_201 dX12_readHouse_35 (Nat.le_of_ble_eq_true rfl) ?_
  refine jr_istore_n (lv' := [(1, .int (jmin 6 ((μ.2.1 2 1)))), (0, .ref m)]) dX12_readHouse_38 rfl (by decide) rfl ?_
  refine jr_aload_n 1 dX12_readHouse_39 rfl rfl ?_
  refine jr_iconst (v := 0) dX12_readHouse_40 (by decide) ?_
  refine jr_bipush (v := 99) dX12_readHouse_41 (by decide) ?_
  obtain ⟨Q7, C5, k⟩ := k
  refine jr_cVi (As := [.int 0, .int 99]) jl_X12_197 km_X12_number rfl rfl dX12_readHouse_43 mw_o (Nat.le_of_ble_eq_true rfl) (Con.pi C5 (fun _ _ q => q) (fun E h' f => f.elim)) (fun r1 h2 q3 => ?_)
  obtain ⟨μ6, q3, q4⟩ := q3
  subst q4
  have k := k r1 μ6 q3
  refine jr_istore_n (lv' := [(2, .int r1), (1, .int (jmin 6 ((μ.2.1 2 1)))), (0, .ref m)]) dX12_readHouse_46 rfl (by decide) rfl ?_
  refine jr_aload_n 2 dX12_readHouse_47 rfl rfl ?_
  refine jr_ldcS (k9 := 21) rfl rfl rfl dX12_readHouse_48 ?_
  obtain ⟨Q14, C12, k⟩ := k
  refine jr_cVv (As := [.ref (gS g 21)]) jl_X12_206 km_X12_mustWord rfl rfl dX12_readHouse_50 mw_o (Nat.le_of_ble_eq_true rfl) (Con.pv C12 (fun _ q => q) (fun E h' f => f.elim)) (fun h9 q10 => ?_)
  obtain ⟨μ13, q10, q11⟩ := q10
  subst q11
  have k := k μ13 q10
  refine jr_aload_n 2 dX12_readHouse_53 rfl rfl ?_
  refine jr_iconst (v := 0) dX12_readHouse_54 (by decide) ?_
  refine jr_bipush (v := 99) dX12_readHouse_55 (by decide) ?_
  obtain ⟨Q21, C19, k⟩ := k
  refine jr_cVi (As := [.int 0, .int 99]) jl_X12_197 km_X12_number rfl rfl dX12_readHouse_57 mw_o (Nat.le_of_ble_eq_true rfl) (Con.pi C19 (fun _ _ q => q) (fun E h' f => f.elim)) (fun r15 h16 q17 => ?_)
  obtain ⟨μ20, q17, q18⟩ := q17
  subst q18
  have k := k r15 μ20 q17
  refine jr_istore_n (lv' := [(3, .int r15), (2, .int r1), (1, .int (jmin 6 ((μ.2.1 2 1)))), (0, .ref m)]) dX12_readHouse_60 rfl (by decide) rfl ?_
  refine jr_iconst (v := 0) dX12_readHouse_61 (by decide) ?_
  refine jr_istore (lv' := [(4, .int 0), (3, .int r15), (2, .int r1), (1, .int (jmin 6 ((μ.2.1 2 1)))), (0, .ref m)]) dX12_readHouse_62 (by decide) rfl ?_
  refine jr_iconst (v := 0) dX12_readHouse_64 (by decide) ?_
  refine jr_istore (lv' := [(5, .int 0), (4, .int 0), (3, .int r15), (2, .int r1), (1, .int (jmin 6 ((μ.2.1 2 1)))), (0, .ref m)]) dX12_readHouse_65 (by decide) rfl ?_
  refine jr_iconst (v := 0) dX12_readHouse_67 (by decide) ?_
  refine jr_istore (lv' := [(6, .int 0), (5, .int 0), (4, .int 0), (3, .int r15), (2, .int r1), (1, .int (jmin 6 ((μ.2.1 2 1)))), (0, .ref m)]) dX12_readHouse_68 (by decide) rfl ?_
  refine jr_iconst (v := 0) dX12_readHouse_70 (by decide) ?_
  refine jr_istore (lv' := [(7, .int 0), (6, .int 0), (5, .int 0), (4, .int 0), (3, .int r15), (2, .int r1), (1, .int (jmin 6 ((μ.2.1 2 1)))), (0, .ref m)]) dX12_readHouse_71 (by decide) rfl ?_
  refine jr_iconst (v := 1) dX12_readHouse_73 (by decide) ?_
  refine jr_istore (lv' := [(8, .int 1), (7, .int 0), (6, .int 0), (5, .int 0), (4, .int 0), (3, .int r15), (2, .int r1), (1, .int (jmin 6 ((μ.2.1 2 1)))), (0, .ref m)]) dX12_readHouse_74 (by decide) rfl ?_
  exact jr_sub [8, 7, 6, 5, 4, 3, 2, 1, 0] rfl k
set_option maxRecDepth 20000 in
theorem wX12_readHouse_76 {x1 : Int32} {x2 : Int32} {x3 : Int32} {x4 : Int32} {x5 : Int32} {x6 : Int32} {x7 : Int32} {x8 : Int32} (k : ((μ.1 12) = 0 → (x8 = 0 → J g mX12_readHouse (d + 1) hs P 174 [(0, .ref m), (1, .int x1), (2, .int x2), (3, .int x3), (4, .int x4), (5, .int x5), (6, .int x6), (7, .int x7)] [] (mw h m μ)) ∧ (¬ x8 = 0 → ∃ Q7 : Int32 → MW → Prop, Con g mX12_took d [.ref m, .ref (gS g 22)] (mw h m μ) (wPi h m Q7) ∧ ∀ (r1 : Int32) (μ6 : MW), Q7 r1 μ6 → (r1 = 0 → ∃ Q14 : Int32 → MW → Prop, Con g mX12_took d [.ref m, .ref (gS g 23)] (mw h m μ6) (wPi h m Q14) ∧ ∀ (r8 : Int32) (μ13 : MW), Q14 r8 μ13 → (r8 = 0 → ∃ Q21 : Int32 → MW → Prop, Con g mX12_took d [.ref m, .ref (gS g 24)] (mw h m μ13) (wPi h m Q21) ∧ ∀ (r15 : Int32) (μ20 : MW), Q21 r15 μ20 → (r15 = 0 → ∃ Q28 : Int32 → MW → Prop, Con g mX12_took d [.ref m, .ref (gS g 25)] (mw h m μ20) (wPi h m Q28) ∧ ∀ (r22 : Int32) (μ27 : MW), Q28 r22 μ27 → (r22 = 0 → J g mX12_readHouse (d + 1) hs P 76 [(0, .ref m), (1, .int x1), (2, .int x2), (3, .int x3), (4, .int x4), (5, .int x5), (6, .int x6), (7, .int x7), (8, .int 0)] [] (mw h m μ27)) ∧ (¬ r22 = 0 → J g mX12_readHouse (d + 1) hs P 76 [(0, .ref m), (1, .int x1), (2, .int x2), (3, .int x3), (4, .int x4), (5, .int x5), (6, .int x6), (7, .int 1), (8, .int x8)] [] (mw h m μ27))) ∧ (¬ r15 = 0 → ∃ Q35 : Int32 → MW → Prop, Con g mX12_number d [.ref m, .int 0, .int 20] (mw h m μ20) (wPi h m Q35) ∧ ∀ (r29 : Int32) (μ34 : MW), Q35 r29 μ34 → J g mX12_readHouse (d + 1) hs P 76 [(0, .ref m), (1, .int x1), (2, .int x2), (3, .int x3), (4, .int x4), (5, .int x5), (6, .int r29), (7, .int x7), (8, .int x8)] [] (mw h m μ34))) ∧ (¬ r8 = 0 → ∃ Q42 : Int32 → MW → Prop, Con g mX12_number d [.ref m, .int 0, .int 999] (mw h m μ13) (wPi h m Q42) ∧ ∀ (r36 : Int32) (μ41 : MW), Q42 r36 μ41 → J g mX12_readHouse (d + 1) hs P 76 [(0, .ref m), (1, .int x1), (2, .int x2), (3, .int x3), (4, .int x4), (5, .int r36), (6, .int x6), (7, .int x7), (8, .int x8)] [] (mw h m μ41))) ∧ (¬ r1 = 0 → ∃ Q49 : Int32 → MW → Prop, Con g mX12_number d [.ref m, .int 0, .int 999] (mw h m μ6) (wPi h m Q49) ∧ ∀ (r43 : Int32) (μ48 : MW), Q49 r43 μ48 → J g mX12_readHouse (d + 1) hs P 76 [(0, .ref m), (1, .int x1), (2, .int x2), (3, .int x3), (4, .int r43), (5, .int x5), (6, .int x6), (7, .int x7), (8, .int x8)] [] (mw h m μ48)))) ∧ (¬ (μ.1 12) = 0 → J g mX12_readHouse (d + 1) hs P 174 [(0, .ref m), (1, .int x1), (2, .int x2), (3, .int x3), (4, .int x4), (5, .int x5), (6, .int x6), (7, .int x7)] [] (mw h m μ))) : J g mX12_readHouse (d + 1) hs P 76 [(0, .ref m), (1, .int x1), (2, .int x2), (3, .int x3), (4, .int x4), (5, .int x5), (6, .int x6), (7, .int x7), (8, .int x8)] [] (mw h m μ) := by
  refine jr_aload_n 0 dX12_readHouse_76 rfl rfl ?_
  refine jr_get jf_X12_102 dX12_readHouse_77 mw_o rfl ?_
  refine jr_if_ne (tgt := 174) dX12_readHouse_80 (by decide) (fun c80 => ?_) (fun c80 => ?_)
  · have k := k.2 c80
    exact jr_sub [0, 1, 2, 3, 4, 5, 6, 7] rfl k
  · have k := k.1 c80
    refine jr_iload 8 dX12_readHouse_83 rfl ?_
    refine jr_if_eq (tgt := 174) dX12_readHouse_85 (by decide) (fun c85 => ?_) (fun c85 => ?_)
    · have k := k.1 c85
      exact jr_sub [0, 1, 2, 3, 4, 5, 6, 7] rfl k
    · have k := k.2 c85
      refine jr_aload_n 0 dX12_readHouse_88 rfl rfl ?_
      refine jr_ldcS (k9 := 22) rfl rfl rfl dX12_readHouse_89 ?_
      obtain ⟨Q7, C5, k⟩ := k
      refine jr_cVi (As := [.ref (gS g 22)]) jl_X12_132 km_X12_took rfl rfl dX12_readHouse_91 mw_o (Nat.le_of_ble_eq_true rfl) (Con.pi C5 (fun _ _ q => q) (fun E h' f => f.elim)) (fun r1 h2 q3 => ?_)
      obtain ⟨μ6, q3, q4⟩ := q3
      subst q4
      have k := k r1 μ6 q3
      refine jr_if_eq (tgt := 110) dX12_readHouse_94 (by decide) (fun c94 => ?_) (fun c94 => ?_)
      · have k := k.1 c94
        refine jr_aload_n 0 dX12_readHouse_110 rfl rfl ?_
        refine jr_ldcS (k9 := 23) rfl rfl rfl dX12_readHouse_111 ?_
        obtain ⟨Q14, C12, k⟩ := k
        refine jr_cVi (As := [.ref (gS g 23)]) jl_X12_132 km_X12_took rfl rfl dX12_readHouse_113 mw_o (Nat.le_of_ble_eq_true rfl) (Con.pi C12 (fun _ _ q => q) (fun E h' f => f.elim)) (fun r8 h9 q10 => ?_)
        obtain ⟨μ13, q10, q11⟩ := q10
        subst q11
        have k := k r8 μ13 q10
        refine jr_if_eq (tgt := 132) dX12_readHouse_116 (by decide) (fun c116 => ?_) (fun c116 => ?_)
        · have k := k.1 c116
          refine jr_aload_n 0 dX12_readHouse_132 rfl rfl ?_
          refine jr_ldcS (k9 := 24) rfl rfl rfl dX12_readHouse_133 ?_
          obtain ⟨Q21, C19, k⟩ := k
          refine jr_cVi (As := [.ref (gS g 24)]) jl_X12_132 km_X12_took rfl rfl dX12_readHouse_135 mw_o (Nat.le_of_ble_eq_true rfl) (Con.pi C19 (fun _ _ q => q) (fun E h' f => f.elim)) (fun r15 h16 q17 => ?_)
          obtain ⟨μ20, q17, q18⟩ := q17
          subst q18
          have k := k r15 μ20 q17
          refine jr_if_eq (tgt := 153) dX12_readHouse_138 (by decide) (fun c138 => ?_) (fun c138 => ?_)
          · have k := k.1 c138
            refine jr_aload_n 0 dX12_readHouse_153 rfl rfl ?_
            refine jr_ldcS (k9 := 25) rfl rfl rfl dX12_readHouse_154 ?_
            obtain ⟨Q28, C26, k⟩ := k
            refine jr_cVi (As := [.ref (gS g 25)]) jl_X12_132 km_X12_took rfl rfl dX12_readHouse_156 mw_o (Nat.le_of_ble_eq_true rfl) (Con.pi C26 (fun _ _ q => q) (fun E h' f => f.elim)) (fun r22 h23 q24 => ?_)
            obtain ⟨μ27, q24, q25⟩ := q24
            subst q25
            have k := k r22 μ27 q24
            refine jr_if_eq (tgt := 168) dX12_readHouse_159 (by decide) (fun c159 => ?_) (fun c159 => ?_)
            · have k := k.1 c159
              refine jr_iconst (v := 0) dX12_readHouse_168 (by decide) ?_
              refine jr_istore (lv' := [(8, .int 0), (0, .ref m), (1, .int x1), (2, .int x2), (3, .int x3), (4, .int x4), (5, .int x5), (6, .int x6), (7, .int x7)]) dX12_readHouse_169 (by decide) rfl ?_
              refine jr_goto (tgt := 76) dX12_readHouse_171 (by decide) ?_
              exact jr_sub [1, 2, 3, 4, 5, 6, 7, 8, 0] rfl k
            · have k := k.2 c159
              refine jr_iconst (v := 1) dX12_readHouse_162 (by decide) ?_
              refine jr_istore (lv' := [(7, .int 1), (0, .ref m), (1, .int x1), (2, .int x2), (3, .int x3), (4, .int x4), (5, .int x5), (6, .int x6), (8, .int x8)]) dX12_readHouse_163 (by decide) rfl ?_
              refine jr_goto (tgt := 76) dX12_readHouse_165 (by decide) ?_
              exact jr_sub [1, 2, 3, 4, 5, 6, 7, 0, 8] rfl k
          · have k := k.2 c138
            refine jr_aload_n 0 dX12_readHouse_141 rfl rfl ?_
            refine jr_iconst (v := 0) dX12_readHouse_142 (by decide) ?_
            refine jr_bipush (v := 20) dX12_readHouse_143 (by decide) ?_
            obtain ⟨Q35, C33, k⟩ := k
            refine jr_cVi (As := [.int 0, .int 20]) jl_X12_197 km_X12_number rfl rfl dX12_readHouse_145 mw_o (Nat.le_of_ble_eq_true rfl) (Con.pi C33 (fun _ _ q => q) (fun E h' f => f.elim)) (fun r29 h30 q31 => ?_)
            obtain ⟨μ34, q31, q32⟩ := q31
            subst q32
            have k := k r29 μ34 q31
            refine jr_istore (lv' := [(6, .int r29), (0, .ref m), (1, .int x1), (2, .int x2), (3, .int x3), (4, .int x4), (5, .int x5), (7, .int x7), (8, .int x8)]) dX12_readHouse_148 (by decide) rfl ?_
            refine jr_goto (tgt := 76) dX12_readHouse_150 (by decide) ?_
            exact jr_sub [1, 2, 3, 4, 5, 6, 0, 7, 8] rfl k
        · have k := k.2 c116
          refine jr_aload_n 0 dX12_readHouse_119 rfl rfl ?_
          refine jr_iconst (v := 0) dX12_readHouse_120 (by decide) ?_
          refine jr_sipush (v := 999) dX12_readHouse_121 (by decide) ?_
          obtain ⟨Q42, C40, k⟩ := k
          refine jr_cVi (As := [.int 0, .int 999]) jl_X12_197 km_X12_number rfl rfl dX12_readHouse_124 mw_o (Nat.le_of_ble_eq_true rfl) (Con.pi C40 (fun _ _ q => q) (fun E h' f => f.elim)) (fun r36 h37 q38 => ?_)
          obtain ⟨μ41, q38, q39⟩ := q38
          subst q39
          have k := k r36 μ41 q38
          refine jr_istore (lv' := [(5, .int r36), (0, .ref m), (1, .int x1), (2, .int x2), (3, .int x3), (4, .int x4), (6, .int x6), (7, .int x7), (8, .int x8)]) dX12_readHouse_127 (by decide) rfl ?_
          refine jr_goto (tgt := 76) dX12_readHouse_129 (by decide) ?_
          exact jr_sub [1, 2, 3, 4, 5, 0, 6, 7, 8] rfl k
      · have k := k.2 c94
        refine jr_aload_n 0 dX12_readHouse_97 rfl rfl ?_
        refine jr_iconst (v := 0) dX12_readHouse_98 (by decide) ?_
        refine jr_sipush (v := 999) dX12_readHouse_99 (by decide) ?_
        obtain ⟨Q49, C47, k⟩ := k
        refine jr_cVi (As := [.int 0, .int 999]) jl_X12_197 km_X12_number rfl rfl dX12_readHouse_102 mw_o (Nat.le_of_ble_eq_true rfl) (Con.pi C47 (fun _ _ q => q) (fun E h' f => f.elim)) (fun r43 h44 q45 => ?_)
        obtain ⟨μ48, q45, q46⟩ := q45
        subst q46
        have k := k r43 μ48 q45
        refine jr_istore (lv' := [(4, .int r43), (0, .ref m), (1, .int x1), (2, .int x2), (3, .int x3), (5, .int x5), (6, .int x6), (7, .int x7), (8, .int x8)]) dX12_readHouse_105 (by decide) rfl ?_
        refine jr_goto (tgt := 76) dX12_readHouse_107 (by decide) ?_
        exact jr_sub [1, 2, 3, 4, 0, 5, 6, 7, 8] rfl k
set_option maxRecDepth 20000 in
theorem wX12_readHouse_174 {x1 : Int32} {x2 : Int32} {x3 : Int32} {x4 : Int32} {x5 : Int32} {x6 : Int32} {x7 : Int32} (k : ((μ.1 12) = 0 → vp_in ((8 + x1)) 3240 ∧ vp_in ((15 + x1)) 3240 ∧ (x7 = 1 → J g mX12_readHouse (d + 1) hs P 222 [(0, .ref m), (1, .int x1), (5, .int x5), (6, .int x6), (7, .int x7)] [.int 0, .int (22 + x1), .ref (m + 2)] (mw h m (mA ((mA μ 2 (upd (μ.2.1 2) (ix ((8 + x1))) x2))) 2 (upd (((mA μ 2 (upd (μ.2.1 2) (ix ((8 + x1))) x2))).2.1 2) (ix ((15 + x1))) x3)))) ∧ (¬ x7 = 1 → J g mX12_readHouse (d + 1) hs P 222 [(0, .ref m), (1, .int x1), (5, .int x5), (6, .int x6), (7, .int x7)] [.int x4, .int (22 + x1), .ref (m + 2)] (mw h m (mA ((mA μ 2 (upd (μ.2.1 2) (ix ((8 + x1))) x2))) 2 (upd (((mA μ 2 (upd (μ.2.1 2) (ix ((8 + x1))) x2))).2.1 2) (ix ((15 + x1))) x3))))) ∧ (¬ (μ.1 12) = 0 → P (.inl none) (mw h m μ))) : J g mX12_readHouse (d + 1) hs P 174 [(0, .ref m), (1, .int x1), (2, .int x2), (3, .int x3), (4, .int x4), (5, .int x5), (6, .int x6), (7, .int x7)] [] (mw h m μ) := by
  refine jr_aload_n 0 dX12_readHouse_174 rfl rfl ?_
  refine jr_get jf_X12_102 dX12_readHouse_175 mw_o rfl ?_
  refine jr_if_eq (tgt := 182) dX12_readHouse_178 (by decide) (fun c178 => ?_) (fun c178 => ?_)
  · have k := k.1 c178
    refine jr_aload_n 0 dX12_readHouse_182 rfl rfl ?_
    refine jr_get jf_X12_13 dX12_readHouse_183 mw_o rfl ?_
    refine jr_bipush (v := 8) dX12_readHouse_186 (by decide) ?_
    refine jr_iload_n 1 dX12_readHouse_188 rfl rfl ?_
    refine jr_iadd dX12_readHouse_189 ?_
    refine jr_iload_n 2 dX12_readHouse_190 rfl rfl ?_
    obtain ⟨e3, k⟩ := k
    refine jr_iastE dX12_readHouse_191 mw_2 e3 (fun h1 e2 => ?_)
    replace e2 : h1 = mw h m (mA μ 2 (upd (μ.2.1 2) (ix ((8 + x1))) x2)) := e2.trans (mw_pA (by decide) (by decide) _)
    subst e2
    refine jr_aload_n 0 dX12_readHouse_192 rfl rfl ?_
    refine jr_get jf_X12_13 dX12_readHouse_193 mw_o rfl ?_
    refine jr_bipush (v := 15) dX12_readHouse_196 (by decide) ?_
    refine jr_iload_n 1 dX12_readHouse_198 rfl rfl ?_
    refine jr_iadd dX12_readHouse_199 ?_
    refine jr_iload_n 3 dX12_readHouse_200 rfl rfl ?_
    obtain ⟨e6, k⟩ := k
    refine jr_iastE dX12_readHouse_201 mw_2 e6 (fun h4 e5 => ?_)
    replace e5 : h4 = mw h m (mA ((mA μ 2 (upd (μ.2.1 2) (ix ((8 + x1))) x2))) 2 (upd (((mA μ 2 (upd (μ.2.1 2) (ix ((8 + x1))) x2))).2.1 2) (ix ((15 + x1))) x3)) := e5.trans (mw_pA (by decide) (by decide) _)
    subst e5
    refine jr_aload_n 0 dX12_readHouse_202 rfl rfl ?_
    refine jr_get jf_X12_13 dX12_readHouse_203 mw_o rfl ?_
    refine jr_bipush (v := 22) dX12_readHouse_206 (by decide) ?_
    refine jr_iload_n 1 dX12_readHouse_208 rfl rfl ?_
    refine jr_iadd dX12_readHouse_209 ?_
    refine jr_iload 7 dX12_readHouse_210 rfl ?_
    refine jr_iconst (v := 1) dX12_readHouse_212 (by decide) ?_
    refine jr_icmp_ne (tgt := 220) dX12_readHouse_213 (by decide) (fun c213 => ?_) (fun c213 => ?_)
    · have k := k.2 c213
      refine jr_iload 4 dX12_readHouse_220 rfl ?_
      exact jr_sub [0, 1, 5, 6, 7] rfl k
    · have k := k.1 c213
      refine jr_iconst (v := 0) dX12_readHouse_216 (by decide) ?_
      refine jr_goto (tgt := 222) dX12_readHouse_217 (by decide) ?_
      exact jr_sub [0, 1, 5, 6, 7] rfl k
  · have k := k.2 c178
    exact jr_vret rfl dX12_readHouse_181 k
set_option maxRecDepth 20000 in
theorem wX12_readHouse_222 {x1 : Int32} {x5 : Int32} {x6 : Int32} {x7 : Int32} {s1 : Int32} {s2 : Int32} (k : vp_in s1 3240 ∧ vp_in ((29 + x1)) 3240 ∧ vp_in ((36 + x1)) 3240 ∧ vp_in ((43 + x1)) 3240 ∧ P (.inl none) (mw h m (mA ((mA ((mA ((mA ((mA μ 2 (upd (μ.2.1 2) (ix s1) s2))) 2 (upd (((mA μ 2 (upd (μ.2.1 2) (ix s1) s2))).2.1 2) (ix ((29 + x1))) x7))) 2 (upd (((mA ((mA μ 2 (upd (μ.2.1 2) (ix s1) s2))) 2 (upd (((mA μ 2 (upd (μ.2.1 2) (ix s1) s2))).2.1 2) (ix ((29 + x1))) x7))).2.1 2) (ix ((36 + x1))) x5))) 2 (upd (((mA ((mA ((mA μ 2 (upd (μ.2.1 2) (ix s1) s2))) 2 (upd (((mA μ 2 (upd (μ.2.1 2) (ix s1) s2))).2.1 2) (ix ((29 + x1))) x7))) 2 (upd (((mA ((mA μ 2 (upd (μ.2.1 2) (ix s1) s2))) 2 (upd (((mA μ 2 (upd (μ.2.1 2) (ix s1) s2))).2.1 2) (ix ((29 + x1))) x7))).2.1 2) (ix ((36 + x1))) x5))).2.1 2) (ix ((43 + x1))) x6))) 2 (upd (((mA ((mA ((mA ((mA μ 2 (upd (μ.2.1 2) (ix s1) s2))) 2 (upd (((mA μ 2 (upd (μ.2.1 2) (ix s1) s2))).2.1 2) (ix ((29 + x1))) x7))) 2 (upd (((mA ((mA μ 2 (upd (μ.2.1 2) (ix s1) s2))) 2 (upd (((mA μ 2 (upd (μ.2.1 2) (ix s1) s2))).2.1 2) (ix ((29 + x1))) x7))).2.1 2) (ix ((36 + x1))) x5))) 2 (upd (((mA ((mA ((mA μ 2 (upd (μ.2.1 2) (ix s1) s2))) 2 (upd (((mA μ 2 (upd (μ.2.1 2) (ix s1) s2))).2.1 2) (ix ((29 + x1))) x7))) 2 (upd (((mA ((mA μ 2 (upd (μ.2.1 2) (ix s1) s2))) 2 (upd (((mA μ 2 (upd (μ.2.1 2) (ix s1) s2))).2.1 2) (ix ((29 + x1))) x7))).2.1 2) (ix ((36 + x1))) x5))).2.1 2) (ix ((43 + x1))) x6))).2.1 2) 1 (((((mA ((mA ((mA ((mA μ 2 (upd (μ.2.1 2) (ix s1) s2))) 2 (upd (((mA μ 2 (upd (μ.2.1 2) (ix s1) s2))).2.1 2) (ix ((29 + x1))) x7))) 2 (upd (((mA ((mA μ 2 (upd (μ.2.1 2) (ix s1) s2))) 2 (upd (((mA μ 2 (upd (μ.2.1 2) (ix s1) s2))).2.1 2) (ix ((29 + x1))) x7))).2.1 2) (ix ((36 + x1))) x5))) 2 (upd (((mA ((mA ((mA μ 2 (upd (μ.2.1 2) (ix s1) s2))) 2 (upd (((mA μ 2 (upd (μ.2.1 2) (ix s1) s2))).2.1 2) (ix ((29 + x1))) x7))) 2 (upd (((mA ((mA μ 2 (upd (μ.2.1 2) (ix s1) s2))) 2 (upd (((mA μ 2 (upd (μ.2.1 2) (ix s1) s2))).2.1 2) (ix ((29 + x1))) x7))).2.1 2) (ix ((36 + x1))) x5))).2.1 2) (ix ((43 + x1))) x6))).2.1 2 1) + 1)))))) : J g mX12_readHouse (d + 1) hs P 222 [(0, .ref m), (1, .int x1), (5, .int x5), (6, .int x6), (7, .int x7)] [.int s2, .int s1, .ref (m + 2)] (mw h m μ) := by
  obtain ⟨e3, k⟩ := k
  refine jr_iastE dX12_readHouse_222 mw_2 e3 (fun h1 e2 => ?_)
  replace e2 : h1 = mw h m (mA μ 2 (upd (μ.2.1 2) (ix s1) s2)) := e2.trans (mw_pA (by decide) (by decide) _)
  subst e2
  refine jr_aload_n 0 dX12_readHouse_223 rfl rfl ?_
  refine jr_get jf_X12_13 dX12_readHouse_224 mw_o rfl ?_
  refine jr_bipush (v := 29) dX12_readHouse_227 (by decide) ?_
  refine jr_iload_n 1 dX12_readHouse_229 rfl rfl ?_
  refine jr_iadd dX12_readHouse_230 ?_
  refine jr_iload 4 dX12_readHouse_231 rfl ?_
  obtain ⟨e6, k⟩ := k
  refine jr_iastE dX12_readHouse_233 mw_2 e6 (fun h4 e5 => ?_)
  replace e5 : h4 = mw h m (mA ((mA μ 2 (upd (μ.2.1 2) (ix s1) s2))) 2 (upd (((mA μ 2 (upd (μ.2.1 2) (ix s1) s2))).2.1 2) (ix ((29 + x1))) x7)) := e5.trans (mw_pA (by decide) (by decide) _)
  subst e5
  refine jr_aload_n 0 dX12_readHouse_234 rfl rfl ?_
  refine jr_get jf_X12_13 dX12_readHouse_235 mw_o rfl ?_
  refine jr_bipush (v := 36) dX12_readHouse_238 (by decide) ?_
  refine jr_iload_n 1 dX12_readHouse_240 rfl rfl ?_
  refine jr_iadd dX12_readHouse_241 ?_
  refine jr_iload 2 dX12_readHouse_242 rfl ?_
  obtain ⟨e9, k⟩ := k
  refine jr_iastE dX12_readHouse_244 mw_2 e9 (fun h7 e8 => ?_)
  replace e8 : h7 = mw h m (mA ((mA ((mA μ 2 (upd (μ.2.1 2) (ix s1) s2))) 2 (upd (((mA μ 2 (upd (μ.2.1 2) (ix s1) s2))).2.1 2) (ix ((29 + x1))) x7))) 2 (upd (((mA ((mA μ 2 (upd (μ.2.1 2) (ix s1) s2))) 2 (upd (((mA μ 2 (upd (μ.2.1 2) (ix s1) s2))).2.1 2) (ix ((29 + x1))) x7))).2.1 2) (ix ((36 + x1))) x5)) := e8.trans (mw_pA (by decide) (by decide) _)
  subst e8
  refine jr_aload_n 0 dX12_readHouse_245 rfl rfl ?_
  refine jr_get jf_X12_13 dX12_readHouse_246 mw_o rfl ?_
  refine jr_bipush (v := 43) dX12_readHouse_249 (by decide) ?_
  refine jr_iload_n 1 dX12_readHouse_251 rfl rfl ?_
  refine jr_iadd dX12_readHouse_252 ?_
  refine jr_iload 3 dX12_readHouse_253 rfl ?_
  obtain ⟨e12, k⟩ := k
  refine jr_iastE dX12_readHouse_255 mw_2 e12 (fun h10 e11 => ?_)
  replace e11 : h10 = mw h m (mA ((mA ((mA ((mA μ 2 (upd (μ.2.1 2) (ix s1) s2))) 2 (upd (((mA μ 2 (upd (μ.2.1 2) (ix s1) s2))).2.1 2) (ix ((29 + x1))) x7))) 2 (upd (((mA ((mA μ 2 (upd (μ.2.1 2) (ix s1) s2))) 2 (upd (((mA μ 2 (upd (μ.2.1 2) (ix s1) s2))).2.1 2) (ix ((29 + x1))) x7))).2.1 2) (ix ((36 + x1))) x5))) 2 (upd (((mA ((mA ((mA μ 2 (upd (μ.2.1 2) (ix s1) s2))) 2 (upd (((mA μ 2 (upd (μ.2.1 2) (ix s1) s2))).2.1 2) (ix ((29 + x1))) x7))) 2 (upd (((mA ((mA μ 2 (upd (μ.2.1 2) (ix s1) s2))) 2 (upd (((mA μ 2 (upd (μ.2.1 2) (ix s1) s2))).2.1 2) (ix ((29 + x1))) x7))).2.1 2) (ix ((36 + x1))) x5))).2.1 2) (ix ((43 + x1))) x6)) := e11.trans (mw_pA (by decide) (by decide) _)
  subst e11
  refine jr_aload_n 0 dX12_readHouse_256 rfl rfl ?_
  refine jr_get jf_X12_13 dX12_readHouse_257 mw_o rfl ?_
  refine jr_iconst (v := 1) dX12_readHouse_260 (by decide) ?_
  refine jr_dup2 dX12_readHouse_261 rfl rfl ?_
  refine jr_iald dX12_readHouse_262 mw_2 (vp_in_nI (n := 1) (by decide) (by decide)) ?_
  refine jr_iconst (v := 1) dX12_readHouse_263 (by decide) ?_
  refine jr_iadd dX12_readHouse_264 ?_
  refine jr_iastE dX12_readHouse_265 mw_2 (vp_in_nI (n := 1) (by decide) (by decide)) (fun h13 e14 => ?_)
  replace e14 : h13 = mw h m (mA ((mA ((mA ((mA ((mA μ 2 (upd (μ.2.1 2) (ix s1) s2))) 2 (upd (((mA μ 2 (upd (μ.2.1 2) (ix s1) s2))).2.1 2) (ix ((29 + x1))) x7))) 2 (upd (((mA ((mA μ 2 (upd (μ.2.1 2) (ix s1) s2))) 2 (upd (((mA μ 2 (upd (μ.2.1 2) (ix s1) s2))).2.1 2) (ix ((29 + x1))) x7))).2.1 2) (ix ((36 + x1))) x5))) 2 (upd (((mA ((mA ((mA μ 2 (upd (μ.2.1 2) (ix s1) s2))) 2 (upd (((mA μ 2 (upd (μ.2.1 2) (ix s1) s2))).2.1 2) (ix ((29 + x1))) x7))) 2 (upd (((mA ((mA μ 2 (upd (μ.2.1 2) (ix s1) s2))) 2 (upd (((mA μ 2 (upd (μ.2.1 2) (ix s1) s2))).2.1 2) (ix ((29 + x1))) x7))).2.1 2) (ix ((36 + x1))) x5))).2.1 2) (ix ((43 + x1))) x6))) 2 (upd (((mA ((mA ((mA ((mA μ 2 (upd (μ.2.1 2) (ix s1) s2))) 2 (upd (((mA μ 2 (upd (μ.2.1 2) (ix s1) s2))).2.1 2) (ix ((29 + x1))) x7))) 2 (upd (((mA ((mA μ 2 (upd (μ.2.1 2) (ix s1) s2))) 2 (upd (((mA μ 2 (upd (μ.2.1 2) (ix s1) s2))).2.1 2) (ix ((29 + x1))) x7))).2.1 2) (ix ((36 + x1))) x5))) 2 (upd (((mA ((mA ((mA μ 2 (upd (μ.2.1 2) (ix s1) s2))) 2 (upd (((mA μ 2 (upd (μ.2.1 2) (ix s1) s2))).2.1 2) (ix ((29 + x1))) x7))) 2 (upd (((mA ((mA μ 2 (upd (μ.2.1 2) (ix s1) s2))) 2 (upd (((mA μ 2 (upd (μ.2.1 2) (ix s1) s2))).2.1 2) (ix ((29 + x1))) x7))).2.1 2) (ix ((36 + x1))) x5))).2.1 2) (ix ((43 + x1))) x6))).2.1 2) 1 (((((mA ((mA ((mA ((mA μ 2 (upd (μ.2.1 2) (ix s1) s2))) 2 (upd (((mA μ 2 (upd (μ.2.1 2) (ix s1) s2))).2.1 2) (ix ((29 + x1))) x7))) 2 (upd (((mA ((mA μ 2 (upd (μ.2.1 2) (ix s1) s2))) 2 (upd (((mA μ 2 (upd (μ.2.1 2) (ix s1) s2))).2.1 2) (ix ((29 + x1))) x7))).2.1 2) (ix ((36 + x1))) x5))) 2 (upd (((mA ((mA ((mA μ 2 (upd (μ.2.1 2) (ix s1) s2))) 2 (upd (((mA μ 2 (upd (μ.2.1 2) (ix s1) s2))).2.1 2) (ix ((29 + x1))) x7))) 2 (upd (((mA ((mA μ 2 (upd (μ.2.1 2) (ix s1) s2))) 2 (upd (((mA μ 2 (upd (μ.2.1 2) (ix s1) s2))).2.1 2) (ix ((29 + x1))) x7))).2.1 2) (ix ((36 + x1))) x5))).2.1 2) (ix ((43 + x1))) x6))).2.1 2 1) + 1)))) := e14.trans (mw_pA (by decide) (by decide) _)
  subst e14
  exact jr_vret rfl dX12_readHouse_266 k
set_option maxRecDepth 20000 in
theorem wX12_readStop_0  (k : ∃ Q7 : MW → Prop, Con g mX12_mustSign d [.ref m, .int 59] (mw h m μ) (wPv h m Q7) ∧ ∀ μ6 : MW, Q7 μ6 → ((μ6.1 12) = 0 → P (.inl none) (mw h m (mA μ6 2 (upd (μ6.2.1 2) 0 (((μ6.2.1 2 0) + 1)))))) ∧ (¬ (μ6.1 12) = 0 → P (.inl none) (mw h m μ6))) : J g mX12_readStop (d + 1) hs P 0 [(0, .ref m)] [] (mw h m μ) := by
  refine jr_aload_n 0 dX12_readStop_0 rfl rfl ?_
  refine jr_bipush (v := 59) dX12_readStop_1 (by decide) ?_
  obtain ⟨Q7, C5, k⟩ := k
  refine jr_cVv (As := [.int 59]) jl_X12_141 km_X12_mustSign rfl rfl dX12_readStop_3 mw_o (Nat.le_of_ble_eq_true rfl) (Con.pv C5 (fun _ q => q) (fun E h' f => f.elim)) (fun h2 q3 => ?_)
  obtain ⟨μ6, q3, q4⟩ := q3
  subst q4
  have k := k μ6 q3
  refine jr_aload_n 0 dX12_readStop_6 rfl rfl ?_
  refine jr_get jf_X12_102 dX12_readStop_7 mw_o rfl ?_
  refine jr_if_ne (tgt := 23) dX12_readStop_10 (by decide) (fun c10 => ?_) (fun c10 => ?_)
  · have k := k.2 c10
    exact jr_vret rfl dX12_readStop_23 k
  · have k := k.1 c10
    refine jr_aload_n 0 dX12_readStop_13 rfl rfl ?_
    refine jr_get jf_X12_13 dX12_readStop_14 mw_o rfl ?_
    refine jr_iconst (v := 0) dX12_readStop_17 (by decide) ?_
    refine jr_dup2 dX12_readStop_18 rfl rfl ?_
    refine jr_iald dX12_readStop_19 mw_2 (vp_in_nI (n := 0) (by decide) (by decide)) ?_
    refine jr_iconst (v := 1) dX12_readStop_20 (by decide) ?_
    refine jr_iadd dX12_readStop_21 ?_
    refine jr_iastE dX12_readStop_22 mw_2 (vp_in_nI (n := 0) (by decide) (by decide)) (fun h8 e9 => ?_)
    replace e9 : h8 = mw h m (mA μ6 2 (upd (μ6.2.1 2) 0 (((μ6.2.1 2 0) + 1)))) := e9.trans (mw_pA (by decide) (by decide) _)
    subst e9
    exact jr_vret rfl dX12_readStop_23 k
set_option maxRecDepth 20000 in
theorem wX12_readLine_0  (k : ∃ r1 : Int32, Con g mX12_isWord d [.ref m, .ref (gS g 20)] (mw h m μ) (jPi (fun r h' => r = r1 ∧ h' = (mw h m μ)) no2) ∧ (r1 = 0 → ∃ Q12 : Int32 → MW → Prop, Con g mX12_took d [.ref m, .ref (gS g 26)] (mw h m μ) (wPi h m Q12) ∧ ∀ (r6 : Int32) (μ11 : MW), Q12 r6 μ11 → (r6 = 0 → ∃ Q19 : Int32 → MW → Prop, Con g mX12_took d [.ref m, .ref (gS g 27)] (mw h m μ11) (wPi h m Q19) ∧ ∀ (r13 : Int32) (μ18 : MW), Q19 r13 μ18 → (r13 = 0 → ∃ Q26 : Int32 → MW → Prop, Con g mX12_took d [.ref m, .ref (gS g 28)] (mw h m μ18) (wPi h m Q26) ∧ ∀ (r20 : Int32) (μ25 : MW), Q26 r20 μ25 → (r20 = 0 → ∃ Q33 : Int32 → MW → Prop, Con g mX12_took d [.ref m, .ref (gS g 32)] (mw h m μ25) (wPi h m Q33) ∧ ∀ (r27 : Int32) (μ32 : MW), Q33 r27 μ32 → (r27 = 0 → ∃ Q40 : Int32 → MW → Prop, Con g mX12_took d [.ref m, .ref (gS g 33)] (mw h m μ32) (wPi h m Q40) ∧ ∀ (r34 : Int32) (μ39 : MW), Q40 r34 μ39 → (r34 = 0 → ∃ Q47 : MW → Prop, Con g mX12_blames d [.ref m, .int 2] (mw h m μ39) (wPv h m Q47) ∧ ∀ μ46 : MW, Q47 μ46 → J g mX12_readLine (d + 1) hs P 147 [(0, .ref m)] [] (mw h m μ46)) ∧ (¬ r34 = 0 → ∃ Q54 : MW → Prop, Con g mX12_beginsLaw d [.ref m, .int 6, .int 2336] (mw h m μ39) (wPv h m Q54) ∧ ∀ μ53 : MW, Q54 μ53 → ∃ Q61 : MW → Prop, Con g mX12_readTruth d [.ref m] (mw h m μ53) (wPv h m Q61) ∧ ∀ μ60 : MW, Q61 μ60 → J g mX12_readLine (d + 1) hs P 147 [(0, .ref m)] [] (mw h m μ60))) ∧ (¬ r27 = 0 → ∃ Q68 : MW → Prop, Con g mX12_beginsLaw d [.ref m, .int 5, .int 1436] (mw h m μ32) (wPv h m Q68) ∧ ∀ μ67 : MW, Q68 μ67 → ∃ Q75 : MW → Prop, Con g mX12_readSum d [.ref m] (mw h m μ67) (wPv h m Q75) ∧ ∀ μ74 : MW, Q75 μ74 → J g mX12_readLine (d + 1) hs P 147 [(0, .ref m)] [] (mw h m μ74))) ∧ (¬ r20 = 0 → ∃ Q82 : MW → Prop, Con g mX12_beginsLaw d [.ref m, .int 4, .int 536] (mw h m μ25) (wPv h m Q82) ∧ ∀ μ81 : MW, Q82 μ81 → ∃ Q89 : MW → Prop, Con g mX12_readSum d [.ref m] (mw h m μ81) (wPv h m Q89) ∧ ∀ μ88 : MW, Q89 μ88 → J g mX12_readLine (d + 1) hs P 147 [(0, .ref m)] [] (mw h m μ88))) ∧ (¬ r13 = 0 → ∃ Q96 : Int32 → MW → Prop, Con g mX12_number d [.ref m, .int 0, .int 999] (mw h m μ18) (wPi h m Q96) ∧ ∀ (r90 : Int32) (μ95 : MW), Q96 r90 μ95 → J g mX12_readLine (d + 1) hs P 147 [(0, .ref m)] [] (mw h m (mA μ95 2 (upd (μ95.2.1 2) 51 r90))))) ∧ (¬ r6 = 0 → ∃ Q106 : Int32 → MW → Prop, Con g mX12_number d [.ref m, .int 0, .int 999] (mw h m μ11) (wPi h m Q106) ∧ ∀ (r100 : Int32) (μ105 : MW), Q106 r100 μ105 → J g mX12_readLine (d + 1) hs P 147 [(0, .ref m)] [] (mw h m (mA μ105 2 (upd (μ105.2.1 2) 3 r100))))) ∧ (¬ r1 = 0 → ∃ Q116 : MW → Prop, Con g mX12_readHouse d [.ref m] (mw h m μ) (wPv h m Q116) ∧ ∀ μ115 : MW, Q116 μ115 → J g mX12_readLine (d + 1) hs P 147 [(0, .ref m)] [] (mw h m μ115))) : J g mX12_readLine (d + 1) hs P 0 [(0, .ref m)] [] (mw h m μ) := by
  refine jr_aload_n 0 dX12_readLine_0 rfl rfl ?_
  refine jr_ldcS (k9 := 20) rfl rfl rfl dX12_readLine_1 ?_
  obtain ⟨r1z, C5, k⟩ := k
  refine jr_cVi (As := [.ref (gS g 20)]) jl_X12_117 km_X12_isWord rfl rfl dX12_readLine_3 mw_o (Nat.le_of_ble_eq_true rfl) (C5.pi (fun _ _ q => q) (fun E h' f => f.elim)) (fun r1 h2 q3 => ?_)
  obtain ⟨q3, q4⟩ := q3
  subst q4
  subst q3
  refine jr_if_eq (tgt := 16) dX12_readLine_6 (by decide) (fun c6 => ?_) (fun c6 => ?_)
  · have k := k.1 c6
    refine jr_aload_n 0 dX12_readLine_16 rfl rfl ?_
    refine jr_ldcS (k9 := 26) rfl rfl rfl dX12_readLine_17 ?_
    obtain ⟨Q12, C10, k⟩ := k
    refine jr_cVi (As := [.ref (gS g 26)]) jl_X12_132 km_X12_took rfl rfl dX12_readLine_19 mw_o (Nat.le_of_ble_eq_true rfl) (Con.pi C10 (fun _ _ q => q) (fun E h' f => f.elim)) (fun r6 h7 q8 => ?_)
    obtain ⟨μ11, q8, q9⟩ := q8
    subst q9
    have k := k r6 μ11 q8
    refine jr_if_eq (tgt := 42) dX12_readLine_22 (by decide) (fun c22 => ?_) (fun c22 => ?_)
    · have k := k.1 c22
      refine jr_aload_n 0 dX12_readLine_42 rfl rfl ?_
      refine jr_ldcS (k9 := 27) rfl rfl rfl dX12_readLine_43 ?_
      obtain ⟨Q19, C17, k⟩ := k
      refine jr_cVi (As := [.ref (gS g 27)]) jl_X12_132 km_X12_took rfl rfl dX12_readLine_45 mw_o (Nat.le_of_ble_eq_true rfl) (Con.pi C17 (fun _ _ q => q) (fun E h' f => f.elim)) (fun r13 h14 q15 => ?_)
      obtain ⟨μ18, q15, q16⟩ := q15
      subst q16
      have k := k r13 μ18 q15
      refine jr_if_eq (tgt := 69) dX12_readLine_48 (by decide) (fun c48 => ?_) (fun c48 => ?_)
      · have k := k.1 c48
        refine jr_aload_n 0 dX12_readLine_69 rfl rfl ?_
        refine jr_ldcS (k9 := 28) rfl rfl rfl dX12_readLine_70 ?_
        obtain ⟨Q26, C24, k⟩ := k
        refine jr_cVi (As := [.ref (gS g 28)]) jl_X12_132 km_X12_took rfl rfl dX12_readLine_72 mw_o (Nat.le_of_ble_eq_true rfl) (Con.pi C24 (fun _ _ q => q) (fun E h' f => f.elim)) (fun r20 h21 q22 => ?_)
        obtain ⟨μ25, q22, q23⟩ := q22
        subst q23
        have k := k r20 μ25 q22
        refine jr_if_eq (tgt := 93) dX12_readLine_75 (by decide) (fun c75 => ?_) (fun c75 => ?_)
        · have k := k.1 c75
          refine jr_aload_n 0 dX12_readLine_93 rfl rfl ?_
          refine jr_ldcS (k9 := 32) rfl rfl rfl dX12_readLine_94 ?_
          obtain ⟨Q33, C31, k⟩ := k
          refine jr_cVi (As := [.ref (gS g 32)]) jl_X12_132 km_X12_took rfl rfl dX12_readLine_96 mw_o (Nat.le_of_ble_eq_true rfl) (Con.pi C31 (fun _ _ q => q) (fun E h' f => f.elim)) (fun r27 h28 q29 => ?_)
          obtain ⟨μ32, q29, q30⟩ := q29
          subst q30
          have k := k r27 μ32 q29
          refine jr_if_eq (tgt := 117) dX12_readLine_99 (by decide) (fun c99 => ?_) (fun c99 => ?_)
          · have k := k.1 c99
            refine jr_aload_n 0 dX12_readLine_117 rfl rfl ?_
            refine jr_ldcS (k9 := 33) rfl rfl rfl dX12_readLine_118 ?_
            obtain ⟨Q40, C38, k⟩ := k
            refine jr_cVi (As := [.ref (gS g 33)]) jl_X12_132 km_X12_took rfl rfl dX12_readLine_120 mw_o (Nat.le_of_ble_eq_true rfl) (Con.pi C38 (fun _ _ q => q) (fun E h' f => f.elim)) (fun r34 h35 q36 => ?_)
            obtain ⟨μ39, q36, q37⟩ := q36
            subst q37
            have k := k r34 μ39 q36
            refine jr_if_eq (tgt := 142) dX12_readLine_123 (by decide) (fun c123 => ?_) (fun c123 => ?_)
            · have k := k.1 c123
              refine jr_aload_n 0 dX12_readLine_142 rfl rfl ?_
              refine jr_iconst (v := 2) dX12_readLine_143 (by decide) ?_
              obtain ⟨Q47, C45, k⟩ := k
              refine jr_cVv (As := [.int 2]) jl_X12_124 km_X12_blames rfl rfl dX12_readLine_144 mw_o (Nat.le_of_ble_eq_true rfl) (Con.pv C45 (fun _ q => q) (fun E h' f => f.elim)) (fun h42 q43 => ?_)
              obtain ⟨μ46, q43, q44⟩ := q43
              subst q44
              have k := k μ46 q43
              exact jr_sub [0] rfl k
            · have k := k.2 c123
              refine jr_aload_n 0 dX12_readLine_126 rfl rfl ?_
              refine jr_bipush (v := 6) dX12_readLine_127 (by decide) ?_
              refine jr_sipush (v := 2336) dX12_readLine_129 (by decide) ?_
              obtain ⟨Q54, C52, k⟩ := k
              refine jr_cVv (As := [.int 6, .int 2336]) jl_X12_223 km_X12_beginsLaw rfl rfl dX12_readLine_132 mw_o (Nat.le_of_ble_eq_true rfl) (Con.pv C52 (fun _ q => q) (fun E h' f => f.elim)) (fun h49 q50 => ?_)
              obtain ⟨μ53, q50, q51⟩ := q50
              subst q51
              have k := k μ53 q50
              refine jr_aload_n 0 dX12_readLine_135 rfl rfl ?_
              obtain ⟨Q61, C59, k⟩ := k
              refine jr_cVv (As := []) jl_X12_168 km_X12_readTruth rfl rfl dX12_readLine_136 mw_o (Nat.le_of_ble_eq_true rfl) (Con.pv C59 (fun _ q => q) (fun E h' f => f.elim)) (fun h56 q57 => ?_)
              obtain ⟨μ60, q57, q58⟩ := q57
              subst q58
              have k := k μ60 q57
              refine jr_goto (tgt := 147) dX12_readLine_139 (by decide) ?_
              exact jr_sub [0] rfl k
          · have k := k.2 c99
            refine jr_aload_n 0 dX12_readLine_102 rfl rfl ?_
            refine jr_iconst (v := 5) dX12_readLine_103 (by decide) ?_
            refine jr_sipush (v := 1436) dX12_readLine_104 (by decide) ?_
            obtain ⟨Q68, C66, k⟩ := k
            refine jr_cVv (As := [.int 5, .int 1436]) jl_X12_223 km_X12_beginsLaw rfl rfl dX12_readLine_107 mw_o (Nat.le_of_ble_eq_true rfl) (Con.pv C66 (fun _ q => q) (fun E h' f => f.elim)) (fun h63 q64 => ?_)
            obtain ⟨μ67, q64, q65⟩ := q64
            subst q65
            have k := k μ67 q64
            refine jr_aload_n 0 dX12_readLine_110 rfl rfl ?_
            obtain ⟨Q75, C73, k⟩ := k
            refine jr_cVv (As := []) jl_X12_171 km_X12_readSum rfl rfl dX12_readLine_111 mw_o (Nat.le_of_ble_eq_true rfl) (Con.pv C73 (fun _ q => q) (fun E h' f => f.elim)) (fun h70 q71 => ?_)
            obtain ⟨μ74, q71, q72⟩ := q71
            subst q72
            have k := k μ74 q71
            refine jr_goto (tgt := 147) dX12_readLine_114 (by decide) ?_
            exact jr_sub [0] rfl k
        · have k := k.2 c75
          refine jr_aload_n 0 dX12_readLine_78 rfl rfl ?_
          refine jr_iconst (v := 4) dX12_readLine_79 (by decide) ?_
          refine jr_sipush (v := 536) dX12_readLine_80 (by decide) ?_
          obtain ⟨Q82, C80, k⟩ := k
          refine jr_cVv (As := [.int 4, .int 536]) jl_X12_223 km_X12_beginsLaw rfl rfl dX12_readLine_83 mw_o (Nat.le_of_ble_eq_true rfl) (Con.pv C80 (fun _ q => q) (fun E h' f => f.elim)) (fun h77 q78 => ?_)
          obtain ⟨μ81, q78, q79⟩ := q78
          subst q79
          have k := k μ81 q78
          refine jr_aload_n 0 dX12_readLine_86 rfl rfl ?_
          obtain ⟨Q89, C87, k⟩ := k
          refine jr_cVv (As := []) jl_X12_171 km_X12_readSum rfl rfl dX12_readLine_87 mw_o (Nat.le_of_ble_eq_true rfl) (Con.pv C87 (fun _ q => q) (fun E h' f => f.elim)) (fun h84 q85 => ?_)
          obtain ⟨μ88, q85, q86⟩ := q85
          subst q86
          have k := k μ88 q85
          refine jr_goto (tgt := 147) dX12_readLine_90 (by decide) ?_
          exact jr_sub [0] rfl k
      · have k := k.2 c48
        refine jr_aload_n 0 dX12_readLine_51 rfl rfl ?_
        refine jr_get jf_X12_13 dX12_readLine_52 mw_o rfl ?_
        refine jr_bipush (v := 51) dX12_readLine_55 (by decide) ?_
        refine jr_aload_n 0 dX12_readLine_57 rfl rfl ?_
        refine jr_iconst (v := 0) dX12_readLine_58 (by decide) ?_
        refine jr_sipush (v := 999) dX12_readLine_59 (by decide) ?_
        obtain ⟨Q96, C94, k⟩ := k
        refine jr_cVi (As := [.int 0, .int 999]) jl_X12_197 km_X12_number rfl rfl dX12_readLine_62 mw_o (Nat.le_of_ble_eq_true rfl) (Con.pi C94 (fun _ _ q => q) (fun E h' f => f.elim)) (fun r90 h91 q92 => ?_)
        obtain ⟨μ95, q92, q93⟩ := q92
        subst q93
        have k := k r90 μ95 q92
        refine jr_iastE dX12_readLine_65 mw_2 (vp_in_nI (n := 51) (by decide) (by decide)) (fun h97 e98 => ?_)
        replace e98 : h97 = mw h m (mA μ95 2 (upd (μ95.2.1 2) 51 r90)) := e98.trans (mw_pA (by decide) (by decide) _)
        subst e98
        refine jr_goto (tgt := 147) dX12_readLine_66 (by decide) ?_
        exact jr_sub [0] rfl k
    · have k := k.2 c22
      refine jr_aload_n 0 dX12_readLine_25 rfl rfl ?_
      refine jr_get jf_X12_13 dX12_readLine_26 mw_o rfl ?_
      refine jr_iconst (v := 3) dX12_readLine_29 (by decide) ?_
      refine jr_aload_n 0 dX12_readLine_30 rfl rfl ?_
      refine jr_iconst (v := 0) dX12_readLine_31 (by decide) ?_
      refine jr_sipush (v := 999) dX12_readLine_32 (by decide) ?_
      obtain ⟨Q106, C104, k⟩ := k
      refine jr_cVi (As := [.int 0, .int 999]) jl_X12_197 km_X12_number rfl rfl dX12_readLine_35 mw_o (Nat.le_of_ble_eq_true rfl) (Con.pi C104 (fun _ _ q => q) (fun E h' f => f.elim)) (fun r100 h101 q102 => ?_)
      obtain ⟨μ105, q102, q103⟩ := q102
      subst q103
      have k := k r100 μ105 q102
      refine jr_iastE dX12_readLine_38 mw_2 (vp_in_nI (n := 3) (by decide) (by decide)) (fun h107 e108 => ?_)
      replace e108 : h107 = mw h m (mA μ105 2 (upd (μ105.2.1 2) 3 r100)) := e108.trans (mw_pA (by decide) (by decide) _)
      subst e108
      refine jr_goto (tgt := 147) dX12_readLine_39 (by decide) ?_
      exact jr_sub [0] rfl k
  · have k := k.2 c6
    refine jr_aload_n 0 dX12_readLine_9 rfl rfl ?_
    obtain ⟨Q116, C114, k⟩ := k
    refine jr_cVv (As := []) jl_X12_216 km_X12_readHouse rfl rfl dX12_readLine_10 mw_o (Nat.le_of_ble_eq_true rfl) (Con.pv C114 (fun _ q => q) (fun E h' f => f.elim)) (fun h111 q112 => ?_)
    obtain ⟨μ115, q112, q113⟩ := q112
    subst q113
    have k := k μ115 q112
    refine jr_goto (tgt := 147) dX12_readLine_13 (by decide) ?_
    exact jr_sub [0] rfl k
set_option maxRecDepth 20000 in
theorem wX12_readLine_147  (k : ∃ Q7 : MW → Prop, Con g mX12_readStop d [.ref m] (mw h m μ) (wPv h m Q7) ∧ ∀ μ6 : MW, Q7 μ6 → P (.inl none) (mw h m μ6)) : J g mX12_readLine (d + 1) hs P 147 [(0, .ref m)] [] (mw h m μ) := by
  refine jr_aload_n 0 dX12_readLine_147 rfl rfl ?_
  obtain ⟨Q7, C5, k⟩ := k
  refine jr_cVv (As := []) jl_X12_231 km_X12_readStop rfl rfl dX12_readLine_148 mw_o (Nat.le_of_ble_eq_true rfl) (Con.pv C5 (fun _ q => q) (fun E h' f => f.elim)) (fun h2 q3 => ?_)
  obtain ⟨μ6, q3, q4⟩ := q3
  subst q4
  have k := k μ6 q3
  exact jr_vret rfl dX12_readLine_151 k
set_option maxRecDepth 20000 in
theorem wX12_street_0 {x1 : Int32} (k : ∃ r3 : Int32, Con g mX12_within d [.long x1.toInt64, .long 0, .long ((((mI μ 4 0)).1 6)).toInt64] (mw h m (mI μ 4 0)) (jPi (fun r h' => r = r3 ∧ h' = (mw h m (mI μ 4 0))) no2) ∧ (r3 = 0 → ∃ Q24 : Int32 → MW → Prop, Con g mX12_fails d [.ref m, .int 1] (mw h m (mI μ 4 0)) (wPi h m Q24) ∧ ∀ (r18 : Int32) (μ23 : MW), Q24 r18 μ23 → P (.inl (some (.int r18))) (mw h m μ23)) ∧ (¬ r3 = 0 → J g mX12_street (d + 1) hs P 52 [(0, .ref m), (2, .int 0)] [] (mw h m (mI ((mI ((mI ((mI ((mI ((mI μ 4 0)) 7 x1)) 6 0)) 8 0)) 12 0)) 16 0)))) : J g mX12_street (d + 1) hs P 0 [(0, .ref m), (1, .int x1)] [] (mw h m μ) := by
  refine jr_aload_n 0 dX12_street_0 rfl rfl ?_
  refine jr_iconst (v := 0) dX12_street_1 (by decide) ?_
  refine jr_putE jp_X12_67 dX12_street_2 mw_o (Nat.le_of_ble_eq_true rfl) rfl rfl (fun h1 e2 => ?_)
  replace e2 := e2.trans (mw_pI 4 ((0 : Int32)))
  subst e2
  refine jr_iload_n 1 dX12_street_5 rfl rfl ?_
  refine jr_i2l dX12_street_6 ?_
  refine jr_lconst (v := 0) dX12_street_7 (by decide) ?_
  refine jr_aload_n 0 dX12_street_8 rfl rfl ?_
  refine jr_get jf_X12_70 dX12_street_9 mw_o rfl ?_
  refine jr_i2l dX12_street_12 ?_
  obtain ⟨r3z, C7, k⟩ := k
  refine jr_cSi (As := [.long x1.toInt64, .long 0, .long ((((mI μ 4 0)).1 6)).toInt64]) jl_X12_128 km_X12_within rfl rfl dX12_street_13 (Nat.le_of_ble_eq_true rfl) (C7.pi (fun _ _ q => q) (fun E h' f => f.elim)) (fun r3 h4 q5 => ?_)
  obtain ⟨q5, q6⟩ := q5
  subst q6
  subst q5
  refine jr_if_ne (tgt := 25) dX12_street_16 (by decide) (fun c16 => ?_) (fun c16 => ?_)
  · have k := k.2 c16
    refine jr_aload_n 0 dX12_street_25 rfl rfl ?_
    refine jr_iload_n 1 dX12_street_26 rfl rfl ?_
    refine jr_putE jp_X12_73 dX12_street_27 mw_o (Nat.le_of_ble_eq_true rfl) rfl rfl (fun h8 e9 => ?_)
    replace e9 := e9.trans (mw_pI 7 x1)
    subst e9
    refine jr_aload_n 0 dX12_street_30 rfl rfl ?_
    refine jr_iconst (v := 0) dX12_street_31 (by decide) ?_
    refine jr_putE jp_X12_70 dX12_street_32 mw_o (Nat.le_of_ble_eq_true rfl) rfl rfl (fun h10 e11 => ?_)
    replace e11 := e11.trans (mw_pI 6 ((0 : Int32)))
    subst e11
    refine jr_aload_n 0 dX12_street_35 rfl rfl ?_
    refine jr_iconst (v := 0) dX12_street_36 (by decide) ?_
    refine jr_putE jp_X12_76 dX12_street_37 mw_o (Nat.le_of_ble_eq_true rfl) rfl rfl (fun h12 e13 => ?_)
    replace e13 := e13.trans (mw_pI 8 ((0 : Int32)))
    subst e13
    refine jr_aload_n 0 dX12_street_40 rfl rfl ?_
    refine jr_iconst (v := 0) dX12_street_41 (by decide) ?_
    refine jr_putE jp_X12_102 dX12_street_42 mw_o (Nat.le_of_ble_eq_true rfl) rfl rfl (fun h14 e15 => ?_)
    replace e15 := e15.trans (mw_pI 12 ((0 : Int32)))
    subst e15
    refine jr_aload_n 0 dX12_street_45 rfl rfl ?_
    refine jr_iconst (v := 0) dX12_street_46 (by decide) ?_
    refine jr_putE jp_X12_144 dX12_street_47 mw_o (Nat.le_of_ble_eq_true rfl) rfl rfl (fun h16 e17 => ?_)
    replace e17 := e17.trans (mw_pI 16 ((0 : Int32)))
    subst e17
    refine jr_iconst (v := 0) dX12_street_50 (by decide) ?_
    refine jr_istore_n (lv' := [(2, .int 0), (0, .ref m), (1, .int x1)]) dX12_street_51 rfl (by decide) rfl ?_
    exact jr_sub [1, 0] rfl k
  · have k := k.1 c16
    refine jr_aload_n 0 dX12_street_19 rfl rfl ?_
    refine jr_iconst (v := 1) dX12_street_20 (by decide) ?_
    obtain ⟨Q24, C22, k⟩ := k
    refine jr_cVi (As := [.int 1]) jl_X12_234 km_X12_fails rfl rfl dX12_street_21 mw_o (Nat.le_of_ble_eq_true rfl) (Con.pi C22 (fun _ _ q => q) (fun E h' f => f.elim)) (fun r18 h19 q20 => ?_)
    obtain ⟨μ23, q20, q21⟩ := q20
    subst q21
    have k := k r18 μ23 q20
    exact jr_iret (ty := .int) rfl rfl dX12_street_24 k
set_option maxRecDepth 20000 in
theorem wX12_street_52 {x2 : Int32} (k : (x2 < 3240 → vp_in x2 3240 ∧ J g mX12_street (d + 1) hs P 52 [(0, .ref m), (2, .int (x2 + 1))] [] (mw h m (mA μ 2 (upd (μ.2.1 2) (ix x2) 0)))) ∧ (¬ x2 < 3240 → ∃ Q10 : MW → Prop, Con g mX12_readsOn d [.ref m] (mw h m (mA μ 2 (upd (μ.2.1 2) 3 100))) (wPv h m Q10) ∧ ∀ μ9 : MW, Q10 μ9 → ∃ Q17 : MW → Prop, Con g mX12_mustWord d [.ref m, .ref (gS g 17)] (mw h m μ9) (wPv h m Q17) ∧ ∀ μ16 : MW, Q17 μ16 → ∃ Q24 : Int32 → MW → Prop, Con g mX12_took d [.ref m, .ref (gS g 18)] (mw h m μ16) (wPi h m Q24) ∧ ∀ (r18 : Int32) (μ23 : MW), Q24 r18 μ23 → (r18 = 0 → ∃ Q31 : MW → Prop, Con g mX12_mustWord d [.ref m, .ref (gS g 19)] (mw h m μ23) (wPv h m Q31) ∧ ∀ μ30 : MW, Q31 μ30 → J g mX12_street (d + 1) hs P 115 [(0, .ref m)] [] (mw h m μ30)) ∧ (¬ r18 = 0 → J g mX12_street (d + 1) hs P 115 [(0, .ref m)] [] (mw h m (mA μ23 2 (upd (μ23.2.1 2) 2 1)))))) : J g mX12_street (d + 1) hs P 52 [(0, .ref m), (2, .int x2)] [] (mw h m μ) := by
  refine jr_iload_n 1 dX12_street_52 rfl rfl ?_
  refine jr_sipush (v := 3240) dX12_street_53 (by decide) ?_
  refine jr_icmp_ge (tgt := 72) dX12_street_56 (by decide) (fun c56 => ?_) (fun c56 => ?_)
  · have k := k.2 c56
    refine jr_aload_n 0 dX12_street_72 rfl rfl ?_
    refine jr_get jf_X12_13 dX12_street_73 mw_o rfl ?_
    refine jr_iconst (v := 3) dX12_street_76 (by decide) ?_
    refine jr_bipush (v := 100) dX12_street_77 (by decide) ?_
    refine jr_iastE dX12_street_79 mw_2 (vp_in_nI (n := 3) (by decide) (by decide)) (fun h1 e2 => ?_)
    replace e2 : h1 = mw h m (mA μ 2 (upd (μ.2.1 2) 3 100)) := e2.trans (mw_pA (by decide) (by decide) _)
    subst e2
    refine jr_aload_n 0 dX12_street_80 rfl rfl ?_
    obtain ⟨Q10, C8, k⟩ := k
    refine jr_cVv (As := []) jl_X12_121 km_X12_readsOn rfl rfl dX12_street_81 mw_o (Nat.le_of_ble_eq_true rfl) (Con.pv C8 (fun _ q => q) (fun E h' f => f.elim)) (fun h5 q6 => ?_)
    obtain ⟨μ9, q6, q7⟩ := q6
    subst q7
    have k := k μ9 q6
    refine jr_aload_n 0 dX12_street_84 rfl rfl ?_
    refine jr_ldcS (k9 := 17) rfl rfl rfl dX12_street_85 ?_
    obtain ⟨Q17, C15, k⟩ := k
    refine jr_cVv (As := [.ref (gS g 17)]) jl_X12_206 km_X12_mustWord rfl rfl dX12_street_87 mw_o (Nat.le_of_ble_eq_true rfl) (Con.pv C15 (fun _ q => q) (fun E h' f => f.elim)) (fun h12 q13 => ?_)
    obtain ⟨μ16, q13, q14⟩ := q13
    subst q14
    have k := k μ16 q13
    refine jr_aload_n 0 dX12_street_90 rfl rfl ?_
    refine jr_ldcS (k9 := 18) rfl rfl rfl dX12_street_91 ?_
    obtain ⟨Q24, C22, k⟩ := k
    refine jr_cVi (As := [.ref (gS g 18)]) jl_X12_132 km_X12_took rfl rfl dX12_street_93 mw_o (Nat.le_of_ble_eq_true rfl) (Con.pi C22 (fun _ _ q => q) (fun E h' f => f.elim)) (fun r18 h19 q20 => ?_)
    obtain ⟨μ23, q20, q21⟩ := q20
    subst q21
    have k := k r18 μ23 q20
    refine jr_if_eq (tgt := 109) dX12_street_96 (by decide) (fun c96 => ?_) (fun c96 => ?_)
    · have k := k.1 c96
      refine jr_aload_n 0 dX12_street_109 rfl rfl ?_
      refine jr_ldcS (k9 := 19) rfl rfl rfl dX12_street_110 ?_
      obtain ⟨Q31, C29, k⟩ := k
      refine jr_cVv (As := [.ref (gS g 19)]) jl_X12_206 km_X12_mustWord rfl rfl dX12_street_112 mw_o (Nat.le_of_ble_eq_true rfl) (Con.pv C29 (fun _ q => q) (fun E h' f => f.elim)) (fun h26 q27 => ?_)
      obtain ⟨μ30, q27, q28⟩ := q27
      subst q28
      have k := k μ30 q27
      exact jr_sub [0] rfl k
    · have k := k.2 c96
      refine jr_aload_n 0 dX12_street_99 rfl rfl ?_
      refine jr_get jf_X12_13 dX12_street_100 mw_o rfl ?_
      refine jr_iconst (v := 2) dX12_street_103 (by decide) ?_
      refine jr_iconst (v := 1) dX12_street_104 (by decide) ?_
      refine jr_iastE dX12_street_105 mw_2 (vp_in_nI (n := 2) (by decide) (by decide)) (fun h32 e33 => ?_)
      replace e33 : h32 = mw h m (mA μ23 2 (upd (μ23.2.1 2) 2 1)) := e33.trans (mw_pA (by decide) (by decide) _)
      subst e33
      refine jr_goto (tgt := 115) dX12_street_106 (by decide) ?_
      exact jr_sub [0] rfl k
  · have k := k.1 c56
    refine jr_aload_n 0 dX12_street_59 rfl rfl ?_
    refine jr_get jf_X12_13 dX12_street_60 mw_o rfl ?_
    refine jr_iload_n 1 dX12_street_63 rfl rfl ?_
    refine jr_iconst (v := 0) dX12_street_64 (by decide) ?_
    obtain ⟨e37, k⟩ := k
    refine jr_iastE dX12_street_65 mw_2 e37 (fun h35 e36 => ?_)
    replace e36 : h35 = mw h m (mA μ 2 (upd (μ.2.1 2) (ix x2) 0)) := e36.trans (mw_pA (by decide) (by decide) _)
    subst e36
    refine jr_iinc (v := (x2 + 1)) (lv' := [(2, .int (x2 + 1)), (0, .ref m)]) 1 dX12_street_66 rfl rfl (by decide) rfl ?_
    refine jr_goto (tgt := 52) dX12_street_69 (by decide) ?_
    exact jr_sub [1, 0] rfl k
set_option maxRecDepth 20000 in
theorem wX12_street_115  (k : ∃ Q7 : MW → Prop, Con g mX12_readStop d [.ref m] (mw h m μ) (wPv h m Q7) ∧ ∀ μ6 : MW, Q7 μ6 → J g mX12_street (d + 1) hs P 119 [(0, .ref m)] [] (mw h m μ6)) : J g mX12_street (d + 1) hs P 115 [(0, .ref m)] [] (mw h m μ) := by
  refine jr_aload_n 0 dX12_street_115 rfl rfl ?_
  obtain ⟨Q7, C5, k⟩ := k
  refine jr_cVv (As := []) jl_X12_231 km_X12_readStop rfl rfl dX12_street_116 mw_o (Nat.le_of_ble_eq_true rfl) (Con.pv C5 (fun _ q => q) (fun E h' f => f.elim)) (fun h2 q3 => ?_)
  obtain ⟨μ6, q3, q4⟩ := q3
  subst q4
  have k := k μ6 q3
  exact jr_sub [0] rfl k
set_option maxRecDepth 20000 in
theorem wX12_street_119  (k : ((μ.1 12) = 0 → ((μ.1 10) = 0 → J g mX12_street (d + 1) hs P 140 [(0, .ref m)] [] (mw h m μ)) ∧ (¬ (μ.1 10) = 0 → ∃ Q7 : MW → Prop, Con g mX12_readLine d [.ref m] (mw h m μ) (wPv h m Q7) ∧ ∀ μ6 : MW, Q7 μ6 → J g mX12_street (d + 1) hs P 119 [(0, .ref m)] [] (mw h m μ6))) ∧ (¬ (μ.1 12) = 0 → J g mX12_street (d + 1) hs P 140 [(0, .ref m)] [] (mw h m μ))) : J g mX12_street (d + 1) hs P 119 [(0, .ref m)] [] (mw h m μ) := by
  refine jr_aload_n 0 dX12_street_119 rfl rfl ?_
  refine jr_get jf_X12_102 dX12_street_120 mw_o rfl ?_
  refine jr_if_ne (tgt := 140) dX12_street_123 (by decide) (fun c123 => ?_) (fun c123 => ?_)
  · have k := k.2 c123
    exact jr_sub [0] rfl k
  · have k := k.1 c123
    refine jr_aload_n 0 dX12_street_126 rfl rfl ?_
    refine jr_get jf_X12_82 dX12_street_127 mw_o rfl ?_
    refine jr_if_eq (tgt := 140) dX12_street_130 (by decide) (fun c130 => ?_) (fun c130 => ?_)
    · have k := k.1 c130
      exact jr_sub [0] rfl k
    · have k := k.2 c130
      refine jr_aload_n 0 dX12_street_133 rfl rfl ?_
      obtain ⟨Q7, C5, k⟩ := k
      refine jr_cVv (As := []) jl_X12_243 km_X12_readLine rfl rfl dX12_street_134 mw_o (Nat.le_of_ble_eq_true rfl) (Con.pv C5 (fun _ q => q) (fun E h' f => f.elim)) (fun h2 q3 => ?_)
      obtain ⟨μ6, q3, q4⟩ := q3
      subst q4
      have k := k μ6 q3
      refine jr_goto (tgt := 119) dX12_street_137 (by decide) ?_
      exact jr_sub [0] rfl k
set_option maxRecDepth 20000 in
theorem wX12_street_140  (k : ((((mI μ 14 ((μ.1 12)))).1 12) = 0 → J g mX12_street (d + 1) hs P 164 [(0, .ref m)] [.int (-1), .ref m] (mw h m (mI μ 14 ((μ.1 12))))) ∧ (¬ (((mI μ 14 ((μ.1 12)))).1 12) = 0 → J g mX12_street (d + 1) hs P 164 [(0, .ref m)] [.int (((mI μ 14 ((μ.1 12)))).1 13), .ref m] (mw h m (mI μ 14 ((μ.1 12)))))) : J g mX12_street (d + 1) hs P 140 [(0, .ref m)] [] (mw h m μ) := by
  refine jr_aload_n 0 dX12_street_140 rfl rfl ?_
  refine jr_aload_n 0 dX12_street_141 rfl rfl ?_
  refine jr_get jf_X12_102 dX12_street_142 mw_o rfl ?_
  refine jr_putE jp_X12_246 dX12_street_145 mw_o (Nat.le_of_ble_eq_true rfl) rfl rfl (fun h1 e2 => ?_)
  replace e2 := e2.trans (mw_pI 14 ((μ.1 12)))
  subst e2
  refine jr_aload_n 0 dX12_street_148 rfl rfl ?_
  refine jr_aload_n 0 dX12_street_149 rfl rfl ?_
  refine jr_get jf_X12_102 dX12_street_150 mw_o rfl ?_
  refine jr_if_ne (tgt := 160) dX12_street_153 (by decide) (fun c153 => ?_) (fun c153 => ?_)
  · have k := k.2 c153
    refine jr_aload_n 0 dX12_street_160 rfl rfl ?_
    refine jr_get jf_X12_105 dX12_street_161 mw_o rfl ?_
    exact jr_sub [0] rfl k
  · have k := k.1 c153
    refine jr_iconst (v := (-1)) dX12_street_156 (by decide) ?_
    refine jr_goto (tgt := 164) dX12_street_157 (by decide) ?_
    exact jr_sub [0] rfl k
set_option maxRecDepth 20000 in
theorem wX12_street_164 {s1 : Int32} (k : ((((mI μ 15 s1)).1 12) = 0 → J g mX12_street (d + 1) hs P 184 [(0, .ref m), (2, .int 0)] [] (mw h m (mI μ 15 s1))) ∧ (¬ (((mI μ 15 s1)).1 12) = 0 → P (.inl (some (.int (((-10) - (((mI μ 15 s1)).1 12)))))) (mw h m (mI μ 15 s1)))) : J g mX12_street (d + 1) hs P 164 [(0, .ref m)] [.int s1, .ref m] (mw h m μ) := by
  refine jr_putE jp_X12_26 dX12_street_164 mw_o (Nat.le_of_ble_eq_true rfl) rfl rfl (fun h1 e2 => ?_)
  replace e2 := e2.trans (mw_pI 15 s1)
  subst e2
  refine jr_aload_n 0 dX12_street_167 rfl rfl ?_
  refine jr_get jf_X12_102 dX12_street_168 mw_o rfl ?_
  refine jr_if_eq (tgt := 182) dX12_street_171 (by decide) (fun c171 => ?_) (fun c171 => ?_)
  · have k := k.1 c171
    refine jr_iconst (v := 0) dX12_street_182 (by decide) ?_
    refine jr_istore_n (lv' := [(2, .int 0), (0, .ref m)]) dX12_street_183 rfl (by decide) rfl ?_
    exact jr_sub [1, 0] rfl k
  · have k := k.2 c171
    refine jr_bipush (v := (-10)) dX12_street_174 (by decide) ?_
    refine jr_aload_n 0 dX12_street_176 rfl rfl ?_
    refine jr_get jf_X12_102 dX12_street_177 mw_o rfl ?_
    refine jr_isub dX12_street_180 ?_
    exact jr_iret (ty := .int) rfl rfl dX12_street_181 k
set_option maxRecDepth 20000 in
theorem wX12_street_184 {x2 : Int32} (k : (x2 < 3240 → vp_in x2 3240 ∧ vp_in x2 3240 ∧ J g mX12_street (d + 1) hs P 184 [(0, .ref m), (2, .int (x2 + 1))] [] (mw h m (mA μ 1 (upd (kn μ) (ix x2) ((μ.2.1 2 (ix x2))))))) ∧ (¬ x2 < 3240 → J g mX12_street (d + 1) hs P 211 [(0, .ref m), (2, .int 0)] [] (mw h m μ))) : J g mX12_street (d + 1) hs P 184 [(0, .ref m), (2, .int x2)] [] (mw h m μ) := by
  refine jr_iload_n 1 dX12_street_184 rfl rfl ?_
  refine jr_sipush (v := 3240) dX12_street_185 (by decide) ?_
  refine jr_icmp_ge (tgt := 209) dX12_street_188 (by decide) (fun c188 => ?_) (fun c188 => ?_)
  · have k := k.2 c188
    refine jr_iconst (v := 0) dX12_street_209 (by decide) ?_
    refine jr_istore_n (lv' := [(2, .int 0), (0, .ref m)]) dX12_street_210 rfl (by decide) rfl ?_
    exact jr_sub [1, 0] rfl k
  · have k := k.1 c188
    refine jr_aload_n 0 dX12_street_191 rfl rfl ?_
    refine jr_get jf_X12_9 dX12_street_192 mw_o rfl ?_
    refine jr_iload_n 1 dX12_street_195 rfl rfl ?_
    refine jr_aload_n 0 dX12_street_196 rfl rfl ?_
    refine jr_get jf_X12_13 dX12_street_197 mw_o rfl ?_
    refine jr_iload_n 1 dX12_street_200 rfl rfl ?_
    obtain ⟨e1, k⟩ := k
    refine jr_iald dX12_street_201 mw_2 e1 ?_
    obtain ⟨e4, k⟩ := k
    refine jr_iastE dX12_street_202 mw_1 e4 (fun h2 e3 => ?_)
    replace e3 : h2 = mw h m (mA μ 1 (upd (kn μ) (ix x2) ((μ.2.1 2 (ix x2))))) := e3.trans (mw_pA (by decide) (by decide) _)
    subst e3
    refine jr_iinc (v := (x2 + 1)) (lv' := [(2, .int (x2 + 1)), (0, .ref m)]) 1 dX12_street_203 rfl rfl (by decide) rfl ?_
    refine jr_goto (tgt := 184) dX12_street_206 (by decide) ?_
    exact jr_sub [1, 0] rfl k
set_option maxRecDepth 20000 in
theorem wX12_street_211 {x2 : Int32} (k : (x2 < 44 → vp_in ((8 + x2)) 3240 ∧ vp_in ((52 + x2)) 3240 ∧ J g mX12_street (d + 1) hs P 211 [(0, .ref m), (2, .int (x2 + 1))] [] (mw h m (mA μ 1 (upd (kn μ) (ix ((52 + x2))) ((kn μ (ix ((8 + x2))))))))) ∧ (¬ x2 < 44 → P (.inl (some (.int ((kn μ 0))))) (mw h m μ))) : J g mX12_street (d + 1) hs P 211 [(0, .ref m), (2, .int x2)] [] (mw h m μ) := by
  refine jr_iload_n 1 dX12_street_211 rfl rfl ?_
  refine jr_bipush (v := 44) dX12_street_212 (by decide) ?_
  refine jr_icmp_ge (tgt := 241) dX12_street_214 (by decide) (fun c214 => ?_) (fun c214 => ?_)
  · have k := k.2 c214
    refine jr_aload_n 0 dX12_street_241 rfl rfl ?_
    refine jr_get jf_X12_9 dX12_street_242 mw_o rfl ?_
    refine jr_iconst (v := 0) dX12_street_245 (by decide) ?_
    refine jr_iald dX12_street_246 mw_1 (vp_in_nI (n := 0) (by decide) (by decide)) ?_
    exact jr_iret (ty := .int) rfl rfl dX12_street_247 k
  · have k := k.1 c214
    refine jr_aload_n 0 dX12_street_217 rfl rfl ?_
    refine jr_get jf_X12_9 dX12_street_218 mw_o rfl ?_
    refine jr_bipush (v := 52) dX12_street_221 (by decide) ?_
    refine jr_iload_n 1 dX12_street_223 rfl rfl ?_
    refine jr_iadd dX12_street_224 ?_
    refine jr_aload_n 0 dX12_street_225 rfl rfl ?_
    refine jr_get jf_X12_9 dX12_street_226 mw_o rfl ?_
    refine jr_bipush (v := 8) dX12_street_229 (by decide) ?_
    refine jr_iload_n 1 dX12_street_231 rfl rfl ?_
    refine jr_iadd dX12_street_232 ?_
    obtain ⟨e1, k⟩ := k
    refine jr_iald dX12_street_233 mw_1 e1 ?_
    obtain ⟨e4, k⟩ := k
    refine jr_iastE dX12_street_234 mw_1 e4 (fun h2 e3 => ?_)
    replace e3 : h2 = mw h m (mA μ 1 (upd (kn μ) (ix ((52 + x2))) ((kn μ (ix ((8 + x2))))))) := e3.trans (mw_pA (by decide) (by decide) _)
    subst e3
    refine jr_iinc (v := (x2 + 1)) (lv' := [(2, .int (x2 + 1)), (0, .ref m)]) 1 dX12_street_235 rfl rfl (by decide) rfl ?_
    refine jr_goto (tgt := 211) dX12_street_238 (by decide) ?_
    exact jr_sub [1, 0] rfl k
set_option maxRecDepth 20000 in
theorem wX12_fault_0 {x1 : Int32} (k : (x1 = 0 → P (.inl (some (.int ((((mI μ 4 0)).1 14))))) (mw h m (mI μ 4 0))) ∧ (¬ x1 = 0 → (x1 = 1 → P (.inl (some (.int ((((mI μ 4 0)).1 15))))) (mw h m (mI μ 4 0))) ∧ (¬ x1 = 1 → P (.inl (some (.int ((-1))))) (mw h m (mI μ 4 0))))) : J g mX12_fault (d + 1) hs P 0 [(0, .ref m), (1, .int x1)] [] (mw h m μ) := by
  refine jr_aload_n 0 dX12_fault_0 rfl rfl ?_
  refine jr_iconst (v := 0) dX12_fault_1 (by decide) ?_
  refine jr_putE jp_X12_67 dX12_fault_2 mw_o (Nat.le_of_ble_eq_true rfl) rfl rfl (fun h1 e2 => ?_)
  replace e2 := e2.trans (mw_pI 4 ((0 : Int32)))
  subst e2
  refine jr_iload_n 1 dX12_fault_5 rfl rfl ?_
  refine jr_if_ne (tgt := 16) dX12_fault_6 (by decide) (fun c6 => ?_) (fun c6 => ?_)
  · have k := k.2 c6
    refine jr_iload_n 1 dX12_fault_16 rfl rfl ?_
    refine jr_iconst (v := 1) dX12_fault_17 (by decide) ?_
    refine jr_icmp_ne (tgt := 28) dX12_fault_18 (by decide) (fun c18 => ?_) (fun c18 => ?_)
    · have k := k.2 c18
      refine jr_iconst (v := (-1)) dX12_fault_28 (by decide) ?_
      exact jr_iret (ty := .int) rfl rfl dX12_fault_29 k
    · have k := k.1 c18
      refine jr_aload_n 0 dX12_fault_21 rfl rfl ?_
      refine jr_get jf_X12_26 dX12_fault_22 mw_o rfl ?_
      refine jr_goto (tgt := 29) dX12_fault_25 (by decide) ?_
      exact jr_iret (ty := .int) rfl rfl dX12_fault_29 k
  · have k := k.1 c6
    refine jr_aload_n 0 dX12_fault_9 rfl rfl ?_
    refine jr_get jf_X12_246 dX12_fault_10 mw_o rfl ?_
    refine jr_goto (tgt := 29) dX12_fault_13 (by decide) ?_
    exact jr_iret (ty := .int) rfl rfl dX12_fault_29 k
set_option maxRecDepth 20000 in
theorem wX12_isHouse_0 {x1 : Int64} (k : ∃ r1 : Int32, Con g mX12_houses d [.ref m] (mw h m μ) (jPi (fun r h' => r = r1 ∧ h' = (mw h m μ)) no2) ∧ ∃ r6 : Int32, Con g mX12_within d [.long x1, .long 0, .long ((r1 - 1)).toInt64] (mw h m μ) (jPi (fun r h' => r = r6 ∧ h' = (mw h m μ)) no2) ∧ (r6 = 0 ∨ r6 = 1) ∧ P (.inl (some (.int r6))) (mw h m μ)) : J g mX12_isHouse (d + 1) hs P 0 [(0, .ref m), (1, .long x1)] [] (mw h m μ) := by
  refine jr_lload_n 1 dX12_isHouse_0 rfl rfl ?_
  refine jr_lconst (v := 0) dX12_isHouse_1 (by decide) ?_
  refine jr_aload_n 0 dX12_isHouse_2 rfl rfl ?_
  obtain ⟨r1z, C5, k⟩ := k
  refine jr_cVi (As := []) jl_X12_249 km_X12_houses rfl rfl dX12_isHouse_3 mw_o (Nat.le_of_ble_eq_true rfl) (C5.pi (fun _ _ q => q) (fun E h' f => f.elim)) (fun r1 h2 q3 => ?_)
  obtain ⟨q3, q4⟩ := q3
  subst q4
  subst q3
  refine jr_iconst (v := 1) dX12_isHouse_6 (by decide) ?_
  refine jr_isub dX12_isHouse_7 ?_
  refine jr_i2l dX12_isHouse_8 ?_
  obtain ⟨r6z, C10, k⟩ := k
  refine jr_cSi (As := [.long x1, .long 0, .long ((r1 - 1)).toInt64]) jl_X12_128 km_X12_within rfl rfl dX12_isHouse_9 (Nat.le_of_ble_eq_true rfl) (C10.pi (fun _ _ q => q) (fun E h' f => f.elim)) (fun r6 h7 q8 => ?_)
  obtain ⟨q8, q9⟩ := q8
  subst q9
  subst q8
  exact jr_iret (ty := .boolean) rfl (jz_n k.1) dX12_isHouse_12 k.2
set_option maxRecDepth 20000 in
theorem wX12_house_0 {x1 : Int32} {x2 : Int32} (k : ∃ r1 : Int32, Con g mX12_isHouse d [.ref m, .long x1.toInt64] (mw h m μ) (jPi (fun r h' => r = r1 ∧ h' = (mw h m μ)) no2) ∧ (r1 = 0 → J g mX12_house (d + 1) hs P 31 [(0, .ref m), (1, .int x1), (2, .int x2)] [.int 1, .ref m] (mw h m μ)) ∧ (¬ r1 = 0 → ∃ r6 : Int32, Con g mX12_within d [.long x2.toInt64, .long 0, .long 2] (mw h m μ) (jPi (fun r h' => r = r6 ∧ h' = (mw h m μ)) no2) ∧ (r6 = 0 → J g mX12_house (d + 1) hs P 31 [(0, .ref m), (1, .int x1), (2, .int x2)] [.int 2, .ref m] (mw h m μ)) ∧ (¬ r6 = 0 → J g mX12_house (d + 1) hs P 31 [(0, .ref m), (1, .int x1), (2, .int x2)] [.int 0, .ref m] (mw h m μ)))) : J g mX12_house (d + 1) hs P 0 [(0, .ref m), (1, .int x1), (2, .int x2)] [] (mw h m μ) := by
  refine jr_aload_n 0 dX12_house_0 rfl rfl ?_
  refine jr_aload_n 0 dX12_house_1 rfl rfl ?_
  refine jr_iload_n 1 dX12_house_2 rfl rfl ?_
  refine jr_i2l dX12_house_3 ?_
  obtain ⟨r1z, C5, k⟩ := k
  refine jr_cVi (As := [.long x1.toInt64]) jl_X12_313 km_X12_isHouse rfl rfl dX12_house_4 mw_o (Nat.le_of_ble_eq_true rfl) (C5.pi (fun _ _ q => q) (fun E h' f => f.elim)) (fun r1 h2 q3 => ?_)
  obtain ⟨q3, q4⟩ := q3
  subst q4
  subst q3
  refine jr_if_ne (tgt := 14) dX12_house_7 (by decide) (fun c7 => ?_) (fun c7 => ?_)
  · have k := k.2 c7
    refine jr_iload_n 2 dX12_house_14 rfl rfl ?_
    refine jr_i2l dX12_house_15 ?_
    refine jr_lconst (v := 0) dX12_house_16 (by decide) ?_
    refine jr_ldc2 (v := 2) jk_X12_317 dX12_house_17 ?_
    obtain ⟨r6z, C10, k⟩ := k
    refine jr_cSi (As := [.long x2.toInt64, .long 0, .long 2]) jl_X12_128 km_X12_within rfl rfl dX12_house_20 (Nat.le_of_ble_eq_true rfl) (C10.pi (fun _ _ q => q) (fun E h' f => f.elim)) (fun r6 h7 q8 => ?_)
    obtain ⟨q8, q9⟩ := q8
    subst q9
    subst q8
    refine jr_if_eq (tgt := 30) dX12_house_23 (by decide) (fun c23 => ?_) (fun c23 => ?_)
    · have k := k.1 c23
      refine jr_iconst (v := 2) dX12_house_30 (by decide) ?_
      exact jr_sub [0, 1, 2] rfl k
    · have k := k.2 c23
      refine jr_iconst (v := 0) dX12_house_26 (by decide) ?_
      refine jr_goto (tgt := 31) dX12_house_27 (by decide) ?_
      exact jr_sub [0, 1, 2] rfl k
  · have k := k.1 c7
    refine jr_iconst (v := 1) dX12_house_10 (by decide) ?_
    refine jr_goto (tgt := 31) dX12_house_11 (by decide) ?_
    exact jr_sub [0, 1, 2] rfl k
set_option maxRecDepth 20000 in
theorem wX12_house_31 {x1 : Int32} {x2 : Int32} {s1 : Int32} (k : (0 < (((mI μ 4 s1)).1 4) → P (.inl (some (.int 0))) (mw h m (mI μ 4 s1))) ∧ (¬ 0 < (((mI μ 4 s1)).1 4) → (x2 = 0 → vp_in ((36 + x1)) 3240 ∧ P (.inl (some (.int ((kn ((mI μ 4 s1)) (ix ((36 + x1)))))))) (mw h m (mI μ 4 s1))) ∧ (¬ x2 = 0 → (x2 = 1 → vp_in ((43 + x1)) 3240 ∧ P (.inl (some (.int ((kn ((mI μ 4 s1)) (ix ((43 + x1)))))))) (mw h m (mI μ 4 s1))) ∧ (¬ x2 = 1 → ∃ r3 : Int32, Con g mX12_next d [.ref m, .int x1] (mw h m (mI μ 4 s1)) (jPi (fun r h' => r = r3 ∧ h' = (mw h m (mI μ 4 s1))) no2) ∧ P (.inl (some (.int r3))) (mw h m (mI μ 4 s1)))))) : J g mX12_house (d + 1) hs P 31 [(0, .ref m), (1, .int x1), (2, .int x2)] [.int s1, .ref m] (mw h m μ) := by
  refine jr_putE jp_X12_67 dX12_house_31 mw_o (Nat.le_of_ble_eq_true rfl) rfl rfl (fun h1 e2 => ?_)
  replace e2 := e2.trans (mw_pI 4 s1)
  subst e2
  refine jr_aload_n 0 dX12_house_34 rfl rfl ?_
  refine jr_get jf_X12_67 dX12_house_35 mw_o rfl ?_
  refine jr_if_le (tgt := 43) dX12_house_38 (by decide) (fun c38 => ?_) (fun c38 => ?_)
  · have k := k.2 c38
    refine jr_iload_n 2 dX12_house_43 rfl rfl ?_
    refine jr_if_ne (tgt := 59) dX12_house_44 (by decide) (fun c44 => ?_) (fun c44 => ?_)
    · have k := k.2 c44
      refine jr_iload_n 2 dX12_house_59 rfl rfl ?_
      refine jr_iconst (v := 1) dX12_house_60 (by decide) ?_
      refine jr_icmp_ne (tgt := 76) dX12_house_61 (by decide) (fun c61 => ?_) (fun c61 => ?_)
      · have k := k.2 c61
        refine jr_aload_n 0 dX12_house_76 rfl rfl ?_
        refine jr_iload_n 1 dX12_house_77 rfl rfl ?_
        obtain ⟨r3z, C7, k⟩ := k
        refine jr_cVi (As := [.int x1]) jl_X12_306 km_X12_next rfl rfl dX12_house_78 mw_o (Nat.le_of_ble_eq_true rfl) (C7.pi (fun _ _ q => q) (fun E h' f => f.elim)) (fun r3 h4 q5 => ?_)
        obtain ⟨q5, q6⟩ := q5
        subst q6
        subst q5
        exact jr_iret (ty := .int) rfl rfl dX12_house_81 k
      · have k := k.1 c61
        refine jr_aload_n 0 dX12_house_64 rfl rfl ?_
        refine jr_get jf_X12_9 dX12_house_65 mw_o rfl ?_
        refine jr_bipush (v := 43) dX12_house_68 (by decide) ?_
        refine jr_iload_n 1 dX12_house_70 rfl rfl ?_
        refine jr_iadd dX12_house_71 ?_
        obtain ⟨e8, k⟩ := k
        refine jr_iald dX12_house_72 mw_1 e8 ?_
        refine jr_goto (tgt := 81) dX12_house_73 (by decide) ?_
        exact jr_iret (ty := .int) rfl rfl dX12_house_81 k
    · have k := k.1 c44
      refine jr_aload_n 0 dX12_house_47 rfl rfl ?_
      refine jr_get jf_X12_9 dX12_house_48 mw_o rfl ?_
      refine jr_bipush (v := 36) dX12_house_51 (by decide) ?_
      refine jr_iload_n 1 dX12_house_53 rfl rfl ?_
      refine jr_iadd dX12_house_54 ?_
      obtain ⟨e9, k⟩ := k
      refine jr_iald dX12_house_55 mw_1 e9 ?_
      refine jr_goto (tgt := 81) dX12_house_56 (by decide) ?_
      exact jr_iret (ty := .int) rfl rfl dX12_house_81 k
  · have k := k.1 c38
    refine jr_iconst (v := 0) dX12_house_41 (by decide) ?_
    exact jr_iret (ty := .int) rfl rfl dX12_house_42 k
set_option maxRecDepth 20000 in
theorem wX12_household_0 {x1 : Int32} {x2 : Int32} (k : ∃ r1 : Int32, Con g mX12_isHouse d [.ref m, .long x1.toInt64] (mw h m μ) (jPi (fun r h' => r = r1 ∧ h' = (mw h m μ)) no2) ∧ (r1 = 0 → J g mX12_household (d + 1) hs P 31 [(0, .ref m), (1, .int x1), (2, .int x2)] [.int 1, .ref m] (mw h m μ)) ∧ (¬ r1 = 0 → ∃ r6 : Int32, Con g mX12_within d [.long x2.toInt64, .long 0, .long 3] (mw h m μ) (jPi (fun r h' => r = r6 ∧ h' = (mw h m μ)) no2) ∧ (r6 = 0 → J g mX12_household (d + 1) hs P 31 [(0, .ref m), (1, .int x1), (2, .int x2)] [.int 2, .ref m] (mw h m μ)) ∧ (¬ r6 = 0 → J g mX12_household (d + 1) hs P 31 [(0, .ref m), (1, .int x1), (2, .int x2)] [.int 0, .ref m] (mw h m μ)))) : J g mX12_household (d + 1) hs P 0 [(0, .ref m), (1, .int x1), (2, .int x2)] [] (mw h m μ) := by
  refine jr_aload_n 0 dX12_household_0 rfl rfl ?_
  refine jr_aload_n 0 dX12_household_1 rfl rfl ?_
  refine jr_iload_n 1 dX12_household_2 rfl rfl ?_
  refine jr_i2l dX12_household_3 ?_
  obtain ⟨r1z, C5, k⟩ := k
  refine jr_cVi (As := [.long x1.toInt64]) jl_X12_313 km_X12_isHouse rfl rfl dX12_household_4 mw_o (Nat.le_of_ble_eq_true rfl) (C5.pi (fun _ _ q => q) (fun E h' f => f.elim)) (fun r1 h2 q3 => ?_)
  obtain ⟨q3, q4⟩ := q3
  subst q4
  subst q3
  refine jr_if_ne (tgt := 14) dX12_household_7 (by decide) (fun c7 => ?_) (fun c7 => ?_)
  · have k := k.2 c7
    refine jr_iload_n 2 dX12_household_14 rfl rfl ?_
    refine jr_i2l dX12_household_15 ?_
    refine jr_lconst (v := 0) dX12_household_16 (by decide) ?_
    refine jr_ldc2 (v := 3) jk_X12_319 dX12_household_17 ?_
    obtain ⟨r6z, C10, k⟩ := k
    refine jr_cSi (As := [.long x2.toInt64, .long 0, .long 3]) jl_X12_128 km_X12_within rfl rfl dX12_household_20 (Nat.le_of_ble_eq_true rfl) (C10.pi (fun _ _ q => q) (fun E h' f => f.elim)) (fun r6 h7 q8 => ?_)
    obtain ⟨q8, q9⟩ := q8
    subst q9
    subst q8
    refine jr_if_eq (tgt := 30) dX12_household_23 (by decide) (fun c23 => ?_) (fun c23 => ?_)
    · have k := k.1 c23
      refine jr_iconst (v := 2) dX12_household_30 (by decide) ?_
      exact jr_sub [0, 1, 2] rfl k
    · have k := k.2 c23
      refine jr_iconst (v := 0) dX12_household_26 (by decide) ?_
      refine jr_goto (tgt := 31) dX12_household_27 (by decide) ?_
      exact jr_sub [0, 1, 2] rfl k
  · have k := k.1 c7
    refine jr_iconst (v := 1) dX12_household_10 (by decide) ?_
    refine jr_goto (tgt := 31) dX12_household_11 (by decide) ?_
    exact jr_sub [0, 1, 2] rfl k
set_option maxRecDepth 20000 in
theorem wX12_household_31 {x1 : Int32} {x2 : Int32} {s1 : Int32} (k : (0 < (((mI μ 4 s1)).1 4) → P (.inl (some (.int 0))) (mw h m (mI μ 4 s1))) ∧ (¬ 0 < (((mI μ 4 s1)).1 4) → vp_in (((8 + (7 * x2)) + x1)) 3240 ∧ P (.inl (some (.int ((kn ((mI μ 4 s1)) (ix (((8 + (7 * x2)) + x1)))))))) (mw h m (mI μ 4 s1)))) : J g mX12_household (d + 1) hs P 31 [(0, .ref m), (1, .int x1), (2, .int x2)] [.int s1, .ref m] (mw h m μ) := by
  refine jr_putE jp_X12_67 dX12_household_31 mw_o (Nat.le_of_ble_eq_true rfl) rfl rfl (fun h1 e2 => ?_)
  replace e2 := e2.trans (mw_pI 4 s1)
  subst e2
  refine jr_aload_n 0 dX12_household_34 rfl rfl ?_
  refine jr_get jf_X12_67 dX12_household_35 mw_o rfl ?_
  refine jr_if_le (tgt := 45) dX12_household_38 (by decide) (fun c38 => ?_) (fun c38 => ?_)
  · have k := k.2 c38
    refine jr_aload_n 0 dX12_household_45 rfl rfl ?_
    refine jr_get jf_X12_9 dX12_household_46 mw_o rfl ?_
    refine jr_bipush (v := 8) dX12_household_49 (by decide) ?_
    refine jr_bipush (v := 7) dX12_household_51 (by decide) ?_
    refine jr_iload_n 2 dX12_household_53 rfl rfl ?_
    refine jr_imul dX12_household_54 ?_
    refine jr_iadd dX12_household_55 ?_
    refine jr_iload_n 1 dX12_household_56 rfl rfl ?_
    refine jr_iadd dX12_household_57 ?_
    obtain ⟨e3, k⟩ := k
    refine jr_iald dX12_household_58 mw_1 e3 ?_
    exact jr_iret (ty := .int) rfl rfl dX12_household_59 k
  · have k := k.1 c38
    refine jr_iconst (v := 0) dX12_household_41 (by decide) ?_
    refine jr_goto (tgt := 59) dX12_household_42 (by decide) ?_
    exact jr_iret (ty := .int) rfl rfl dX12_household_59 k
end
