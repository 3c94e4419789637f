abbrev mJ0_isLatin1_aae02 : jM := (yJ0_isLatin1_aae02, cJ0_isLatin1_aae02, 1, (some (.boolean)), [])
abbrev mJ0_coder_7d493 : jM := (yJ0_coder_7d493, cJ0_coder_7d493, 1, (some (.byte)), [])
abbrev mJ1_charAt_3b067 : jM := (yJ1_charAt_3b067, cJ1_charAt_3b067, 2, (some (.char)), [])
abbrev mJ0_checkIndex_df160 : jM := (yJ0_checkIndex_df160, cJ0_checkIndex_df160, 2, none, [])
abbrev mJ3_checkIndex_8e157 : jM := (yJ3_checkIndex_8e157, cJ3_checkIndex_8e157, 3, (some (.int)), [])
abbrev mJ0_indexOf_7cf53 : jM := (yJ0_indexOf_7cf53, cJ0_indexOf_7cf53, 3, (some (.int)), [])
abbrev mJ1_indexOf_4cfef : jM := (yJ1_indexOf_4cfef, cJ1_indexOf_4cfef, 4, (some (.int)), [])
abbrev mJ1_indexOfChar_4cfef : jM := (yJ1_indexOfChar_4cfef, cJ1_indexOfChar_4cfef, 6, (some (.int)), [])
abbrev mJ1_canEncode_9a6ad : jM := (yJ1_canEncode_9a6ad, cJ1_canEncode_9a6ad, 1, (some (.boolean)), [])
theorem km_J0_isLatin1_aae02 : jMq mJ0_isLatin1_aae02 0 := ⟨⟨jw_in 699 (by decide +kernel), jw_in 19 (by decide +kernel), by decide, ⟨by decide +kernel, by decide +kernel, by decide +kernel⟩, by decide +kernel⟩, rfl, jw_in 697 (by decide +kernel), jw_in 698 (by decide +kernel)⟩
theorem km_J0_coder_7d493 : jMq mJ0_coder_7d493 0 := ⟨⟨jw_in 689 (by decide +kernel), jw_in 19 (by decide +kernel), by decide, ⟨by decide +kernel, by decide +kernel, by decide +kernel⟩, by decide +kernel⟩, rfl, jw_in 687 (by decide +kernel), jw_in 688 (by decide +kernel)⟩
theorem km_J1_charAt_3b067 : jMs mJ1_charAt_3b067 2 := ⟨⟨jw_in 702 (by decide +kernel), jw_in 20 (by decide +kernel), by decide, ⟨by decide +kernel, by decide +kernel, by decide +kernel⟩, by decide +kernel⟩, rfl, jw_in 701 (by decide +kernel)⟩
theorem km_J0_checkIndex_df160 : jMs mJ0_checkIndex_df160 2 := ⟨⟨jw_in 705 (by decide +kernel), jw_in 19 (by decide +kernel), by decide, ⟨by decide +kernel, by decide +kernel, by decide +kernel⟩, by decide +kernel⟩, rfl, jw_in 704 (by decide +kernel)⟩
theorem km_J3_checkIndex_8e157 : jMs mJ3_checkIndex_8e157 3 := ⟨⟨jw_in 710 (by decide +kernel), jw_in 21 (by decide +kernel), by decide, ⟨by decide +kernel, by decide +kernel, by decide +kernel⟩, by decide +kernel⟩, rfl, jw_in 709 (by decide +kernel)⟩
theorem km_J0_indexOf_7cf53 : jMq mJ0_indexOf_7cf53 2 := ⟨⟨jw_in 738 (by decide +kernel), jw_in 19 (by decide +kernel), by decide, ⟨by decide +kernel, by decide +kernel, by decide +kernel⟩, by decide +kernel⟩, rfl, jw_in 736 (by decide +kernel), jw_in 737 (by decide +kernel)⟩
theorem km_J1_indexOf_4cfef : jMs mJ1_indexOf_4cfef 4 := ⟨⟨jw_in 742 (by decide +kernel), jw_in 20 (by decide +kernel), by decide, ⟨by decide +kernel, by decide +kernel, by decide +kernel⟩, by decide +kernel⟩, rfl, jw_in 741 (by decide +kernel)⟩
theorem km_J1_indexOfChar_4cfef : jMs mJ1_indexOfChar_4cfef 4 := ⟨⟨jw_in 750 (by decide +kernel), jw_in 20 (by decide +kernel), by decide, ⟨by decide +kernel, by decide +kernel, by decide +kernel⟩, by decide +kernel⟩, rfl, jw_in 749 (by decide +kernel)⟩
theorem km_J1_canEncode_9a6ad : jMs mJ1_canEncode_9a6ad 1 := ⟨⟨jw_in 745 (by decide +kernel), jw_in 20 (by decide +kernel), by decide, ⟨by decide +kernel, by decide +kernel, by decide +kernel⟩, by decide +kernel⟩, rfl, jw_in 744 (by decide +kernel)⟩
theorem jl_J0_492 : Cond.methodLink RJ0 492 mJ0_isLatin1_aae02.1 ∈ lw_tbl := jw_in 696 (by decide +kernel)
theorem jl_J0_495 : Cond.methodLink RJ0 495 mJ1_charAt_3b067.1 ∈ lw_tbl := jw_in 700 (by decide +kernel)
theorem jl_J0_335 : Cond.methodLink RJ0 335 mJ0_coder_7d493.1 ∈ lw_tbl := jw_in 686 (by decide +kernel)
theorem jl_J1_9 : Cond.methodLink RJ1 9 mJ0_checkIndex_df160.1 ∈ lw_tbl := jw_in 703 (by decide +kernel)
theorem jl_J0_1059 : Cond.methodLink RJ0 1059 mJ3_checkIndex_8e157.1 ∈ lw_tbl := jw_in 708 (by decide +kernel)
theorem jl_J0_633 : Cond.methodLink RJ0 633 mJ0_indexOf_7cf53.1 ∈ lw_tbl := jw_in 735 (by decide +kernel)
theorem jl_J0_505 : Cond.methodLink RJ0 505 mJ0_length_8abf5.1 ∈ lw_tbl := jw_in 739 (by decide +kernel)
theorem jl_J0_637 : Cond.methodLink RJ0 637 mJ1_indexOf_4cfef.1 ∈ lw_tbl := jw_in 740 (by decide +kernel)
theorem jl_J1_88 : Cond.methodLink RJ1 88 mJ1_canEncode_9a6ad.1 ∈ lw_tbl := jw_in 743 (by decide +kernel)
theorem jl_J1_95 : Cond.methodLink RJ1 95 mJ1_indexOfChar_4cfef.1 ∈ lw_tbl := jw_in 748 (by decide +kernel)
theorem jl_compact : Cond.fieldLink RJ0 38 "java/lang/String" "COMPACT_STRINGS" "Z" ∈ lw_tbl := jw_in 690 (by decide +kernel)
theorem jl_value : Cond.fieldLink RJ0 9 "java/lang/String" "value" "[B" ∈ lw_tbl := jw_in 2118 (by decide +kernel)
theorem jl_coder : Cond.fieldLink RJ0 15 "java/lang/String" "coder" "B" ∈ lw_tbl := jw_in 2119 (by decide +kernel)
theorem jl_sioobe : Cond.fieldLink RJ0 1053 "jdk/internal/util/Preconditions" "SIOOBE_FORMATTER" "Ljava/util/function/BiFunction;" ∈ lw_tbl := jw_in 706 (by decide +kernel)
theorem jl_J1_92 : Cond.methodLink RJ1 92 Lib.Math.max.name ∈ lw_tbl := jw_in 746 (by decide +kernel)
theorem jl_J1_38 : Cond.methodLink RJ1 38 Lib.Math.min.name ∈ lw_tbl := jw_in 747 (by decide +kernel)
abbrev nx2 : String → jH → Prop := fun _ _ => False
section STRC
variable {g : jG} {d : Nat} {h : jH} {k : Nat}
theorem c_isLatin1 (hk : k < 37) : Con g mJ0_isLatin1_aae02 (d + 1) [.ref (gS g k)] h (jPi (fun r h' => r = 1 ∧ h' = h) nx2) := by
  refine con_of km_J0_isLatin1_aae02.1.2.2.2.2 (Nat.le_of_ble_eq_true rfl) rfl ?_
  show J g _ (d + 1) _ _ 0 [(0, .ref (gS g k))] [] h
  refine jr_compact jl_compact dJ0_isLatin1_aae02_0 ?_
  refine jr_if_eq (tgt := 17) dJ0_isLatin1_aae02_3 (by decide) (fun c => absurd c (by decide)) (fun _ => ?_)
  refine jr_aload_n 0 dJ0_isLatin1_aae02_6 rfl rfl ?_
  refine jr_coder hk rfl jl_coder dJ0_isLatin1_aae02_7 ?_
  refine jr_if_ne (tgt := 17) dJ0_isLatin1_aae02_10 (by decide) (fun c => absurd rfl c) (fun _ => ?_)
  refine jr_iconst (v := 1) dJ0_isLatin1_aae02_13 (by decide) ?_
  refine jr_goto (tgt := 18) dJ0_isLatin1_aae02_14 (by decide) ?_
  exact jr_iret (ty := .boolean) rfl rfl dJ0_isLatin1_aae02_18 ⟨rfl, rfl⟩
theorem c_coder (hk : k < 37) : Con g mJ0_coder_7d493 (d + 1) [.ref (gS g k)] h (jPi (fun r h' => r = 0 ∧ h' = h) nx2) := by
  refine con_of km_J0_coder_7d493.1.2.2.2.2 (Nat.le_of_ble_eq_true rfl) rfl ?_
  show J g _ (d + 1) _ _ 0 [(0, .ref (gS g k))] [] h
  refine jr_compact jl_compact dJ0_coder_7d493_0 ?_
  refine jr_if_eq (tgt := 13) dJ0_coder_7d493_3 (by decide) (fun c => absurd c (by decide)) (fun _ => ?_)
  refine jr_aload_n 0 dJ0_coder_7d493_6 rfl rfl ?_
  refine jr_coder hk rfl jl_coder dJ0_coder_7d493_7 ?_
  refine jr_goto (tgt := 14) dJ0_coder_7d493_10 (by decide) ?_
  exact jr_iret (ty := .byte) rfl rfl dJ0_coder_7d493_14 ⟨rfl, rfl⟩
theorem sB_len : ∀ k, k < 37 → (sB k).length < 200 := by decide +kernel
theorem c_length (hk : k < 37) : Con g mJ0_length_8abf5 (d + 2) [.ref (gS g k)] h (jPi (fun r h' => r = nI (sB k).length ∧ h' = h) nx2) := by
  refine con_of km_J0_length_8abf5.1.2.2.2.2 (Nat.le_of_ble_eq_true rfl) rfl ?_
  show J g _ (d + 2) _ _ 0 [(0, .ref (gS g k))] [] h
  refine jr_aload_n 0 dJ0_length_8abf5_0 rfl rfl ?_
  refine jr_value hk rfl jl_value dJ0_length_8abf5_1 (fun v hv => ?_)
  refine jr_slen hv dJ0_length_8abf5_4 ?_
  refine jr_aload_n 0 dJ0_length_8abf5_5 rfl rfl ?_
  refine jr_cQi (As := []) jl_J0_335 km_J0_coder_7d493 rfl rfl dJ0_length_8abf5_6 ⟨k, hk, rfl⟩ (Nat.le_of_ble_eq_true rfl) ((c_coder hk).pi (fun r h' hr => hr) (fun E h' f => f.elim)) (fun r h' hr => ?_)
  obtain ⟨rfl, rfl⟩ := hr
  refine jr_ishr dJ0_length_8abf5_9 ?_
  have e : nI (sB k).length >>> ((0 : Int32) &&& 31) = nI (sB k).length := by
    rw [show (0 : Int32) &&& 31 = 0 from by decide]
    exact Int32.toBitVec_inj.mp (by simp)
  exact jr_iret (ty := .int) rfl rfl dJ0_length_8abf5_10 ⟨e, rfl⟩
theorem c_chk3 {i n : Nat} {v : Value} (hv : v = .null ∨ ∃ t, v = .ref t) (hi : i < n) (hn : n < 2 ^ 31) : Con g mJ3_checkIndex_8e157 (d + 1) [.int (nI i), .int (nI n), v] h (jPi (fun r h' => r = nI i ∧ h' = h) nx2) := by
  have key : J g mJ3_checkIndex_8e157 (d + 1) h (jPi (fun r h' => r = nI i ∧ h' = h) nx2) 0 [(0, .int (nI i)), (1, .int (nI n)), (2, v)] [] h := by
    refine jr_iload_n 0 dJ3_checkIndex_8e157_0 rfl rfl ?_
    refine jr_if_lt (tgt := 9) dJ3_checkIndex_8e157_1 (by decide) (fun c => absurd c (nI_pos (by omega))) (fun _ => ?_)
    refine jr_iload_n 0 dJ3_checkIndex_8e157_4 rfl rfl ?_
    refine jr_iload_n 1 dJ3_checkIndex_8e157_5 rfl rfl ?_
    refine jr_icmp_lt (tgt := 16) dJ3_checkIndex_8e157_6 (by decide) (fun _ => ?_) (fun c => absurd (nI_lt hi hn) c)
    refine jr_iload_n 0 dJ3_checkIndex_8e157_16 rfl rfl ?_
    exact jr_iret (ty := .int) rfl rfl dJ3_checkIndex_8e157_17 ⟨rfl, rfl⟩
  rcases hv with rfl | ⟨t, rfl⟩
  · exact con_of km_J3_checkIndex_8e157.1.2.2.2.2 (Nat.le_of_ble_eq_true rfl) rfl key
  · exact con_of km_J3_checkIndex_8e157.1.2.2.2.2 (Nat.le_of_ble_eq_true rfl) rfl key
theorem c_chk0 {i n : Nat} (hi : i < n) (hn : n < 2 ^ 31) : Con g mJ0_checkIndex_df160 (d + 2) [.int (nI i), .int (nI n)] h (jPv (fun h' => h' = h) nx2) := by
  refine con_of km_J0_checkIndex_df160.1.2.2.2.2 (Nat.le_of_ble_eq_true rfl) rfl ?_
  show J g _ (d + 2) _ _ 0 [(0, .int (nI i)), (1, .int (nI n))] [] h
  refine jr_iload_n 0 dJ0_checkIndex_df160_0 rfl rfl ?_
  refine jr_iload_n 1 dJ0_checkIndex_df160_1 rfl rfl ?_
  have go : ∀ v : Value, (v = .null ∨ ∃ t, v = .ref t) → J g mJ0_checkIndex_df160 (d + 2) h (jPv (fun h' => h' = h) nx2) 5 [(0, .int (nI i)), (1, .int (nI n))] [v, .int (nI n), .int (nI i)] h := by
    intro v hv
    refine jr_cSi (As := [.int (nI i), .int (nI n), v]) jl_J0_1059 km_J3_checkIndex_8e157 rfl rfl dJ0_checkIndex_df160_5 (Nat.le_of_ble_eq_true rfl) ((c_chk3 hv hi hn).pi (fun r h' hr => hr) (fun E h' f => f.elim)) (fun r h' hr => ?_)
    obtain ⟨rfl, rfl⟩ := hr
    refine jr_pop dJ0_checkIndex_df160_8 rfl ?_
    exact jr_vret rfl dJ0_checkIndex_df160_9 rfl
  exact jr_sioobe jl_sioobe dJ0_checkIndex_df160_2 (go .null (Or.inl rfl)) (fun t => go (.ref t) (Or.inr ⟨t, rfl⟩))
theorem sB_lo : ∀ k, k < 37 → ∀ i, i < (sB k).length → ((((sB k).getD i 0) &&& 255).toUInt32 % 65536).toInt32 = (sB k).getD i 0 := by decide +kernel
theorem c_charAt1 {v i : Nat} (hv : sV g k v) (hi : i < (sB k).length) : Con g mJ1_charAt_3b067 (d + 3) [.ref v, .int (nI i)] h (jPi (fun r h' => r = (sB k).getD i 0 ∧ h' = h) nx2) := by
  have hl := sB_len k hv.1
  refine con_of km_J1_charAt_3b067.1.2.2.2.2 (Nat.le_of_ble_eq_true rfl) rfl ?_
  show J g _ (d + 3) _ _ 0 [(0, .ref v), (1, .int (nI i))] [] h
  refine jr_iload_n 1 dJ1_charAt_3b067_0 rfl rfl ?_
  refine jr_aload_n 0 dJ1_charAt_3b067_1 rfl rfl ?_
  refine jr_slen hv dJ1_charAt_3b067_2 ?_
  refine jr_cSv (As := [.int (nI i), .int (nI (sB k).length)]) jl_J1_9 km_J0_checkIndex_df160 rfl rfl dJ1_charAt_3b067_3 (Nat.le_of_ble_eq_true rfl) ((c_chk0 hi (by omega)).pv (fun h' hr => hr) (fun E h' f => f.elim)) (fun h' hr => ?_)
  subst hr
  refine jr_aload_n 0 dJ1_charAt_3b067_6 rfl rfl ?_
  refine jr_iload_n 1 dJ1_charAt_3b067_7 rfl rfl ?_
  refine jr_sbyte hv dJ1_charAt_3b067_8 (vp_in_nI hi (by omega)) ?_
  refine jr_sipush (v := 255) dJ1_charAt_3b067_9 (by decide) ?_
  refine jr_iand dJ1_charAt_3b067_12 ?_
  refine jr_i2c dJ1_charAt_3b067_13 ?_
  refine jr_iret (ty := .char) rfl ?_ dJ1_charAt_3b067_14 ⟨?_, rfl⟩
  · sorry
  · rw [nI_clamp (by omega)]
    exact sB_lo k hv.1 i hi
end STRC
