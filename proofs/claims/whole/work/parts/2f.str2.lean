abbrev mJ0_isLatin1_aae02 : jM := (yJ0_isLatin1_aae02, cJ0_isLatin1_aae02, 1, (some (.boolean)), [])
abbrev mJ0_coder_7d493 : jM := (yJ0_coder_7d493, cJ0_coder_7d493, 1, (some (.byte)), [])
abbrev mJ1_charAt_3b067 : jM := (yJ1_charAt_3b067, cJ1_charAt_3b067, 2, (some (.char)), [])
abbrev mJ0_checkIndex_df160 : jM := (yJ0_checkIndex_df160, cJ0_checkIndex_df160, 2, none, [])
abbrev mJ3_checkIndex_8e157 : jM := (yJ3_checkIndex_8e157, cJ3_checkIndex_8e157, 3, (some (.int)), [])
abbrev mJ0_indexOf_7cf53 : jM := (yJ0_indexOf_7cf53, cJ0_indexOf_7cf53, 3, (some (.int)), [])
abbrev mJ1_indexOf_4cfef : jM := (yJ1_indexOf_4cfef, cJ1_indexOf_4cfef, 4, (some (.int)), [])
abbrev mJ1_indexOfChar_4cfef : jM := (yJ1_indexOfChar_4cfef, cJ1_indexOfChar_4cfef, 6, (some (.int)), [])
abbrev mJ1_canEncode_9a6ad : jM := (yJ1_canEncode_9a6ad, cJ1_canEncode_9a6ad, 1, (some (.boolean)), [])
theorem km_J0_isLatin1_aae02 : jMq mJ0_isLatin1_aae02 0 := ⟨⟨jw_in 699 (by decide +kernel), jw_in 19 (by decide +kernel), by decide, ⟨by decide +kernel, by decide +kernel, by decide +kernel⟩, by decide +kernel⟩, rfl, jw_in 697 (by decide +kernel), jw_in 698 (by decide +kernel)⟩
theorem km_J0_coder_7d493 : jMq mJ0_coder_7d493 0 := ⟨⟨jw_in 689 (by decide +kernel), jw_in 19 (by decide +kernel), by decide, ⟨by decide +kernel, by decide +kernel, by decide +kernel⟩, by decide +kernel⟩, rfl, jw_in 687 (by decide +kernel), jw_in 688 (by decide +kernel)⟩
theorem km_J1_charAt_3b067 : jMs mJ1_charAt_3b067 2 := ⟨⟨jw_in 702 (by decide +kernel), jw_in 20 (by decide +kernel), by decide, ⟨by decide +kernel, by decide +kernel, by decide +kernel⟩, by decide +kernel⟩, rfl, jw_in 701 (by decide +kernel)⟩
theorem km_J0_checkIndex_df160 : jMs mJ0_checkIndex_df160 2 := ⟨⟨jw_in 705 (by decide +kernel), jw_in 19 (by decide +kernel), by decide, ⟨by decide +kernel, by decide +kernel, by decide +kernel⟩, by decide +kernel⟩, rfl, jw_in 704 (by decide +kernel)⟩
theorem km_J3_checkIndex_8e157 : jMs mJ3_checkIndex_8e157 3 := ⟨⟨jw_in 710 (by decide +kernel), jw_in 21 (by decide +kernel), by decide, ⟨by decide +kernel, by decide +kernel, by decide +kernel⟩, by decide +kernel⟩, rfl, jw_in 709 (by decide +kernel)⟩
theorem km_J0_indexOf_7cf53 : jMq mJ0_indexOf_7cf53 2 := ⟨⟨jw_in 738 (by decide +kernel), jw_in 19 (by decide +kernel), by decide, ⟨by decide +kernel, by decide +kernel, by decide +kernel⟩, by decide +kernel⟩, rfl, jw_in 736 (by decide +kernel), jw_in 737 (by decide +kernel)⟩
theorem km_J1_indexOf_4cfef : jMs mJ1_indexOf_4cfef 4 := ⟨⟨jw_in 742 (by decide +kernel), jw_in 20 (by decide +kernel), by decide, ⟨by decide +kernel, by decide +kernel, by decide +kernel⟩, by decide +kernel⟩, rfl, jw_in 741 (by decide +kernel)⟩
theorem km_J1_indexOfChar_4cfef : jMs mJ1_indexOfChar_4cfef 4 := ⟨⟨jw_in 750 (by decide +kernel), jw_in 20 (by decide +kernel), by decide, ⟨by decide +kernel, by decide +kernel, by decide +kernel⟩, by decide +kernel⟩, rfl, jw_in 749 (by decide +kernel)⟩
theorem km_J1_canEncode_9a6ad : jMs mJ1_canEncode_9a6ad 1 := ⟨⟨jw_in 745 (by decide +kernel), jw_in 20 (by decide +kernel), by decide, ⟨by decide +kernel, by decide +kernel, by decide +kernel⟩, by decide +kernel⟩, rfl, jw_in 744 (by decide +kernel)⟩
theorem jl_J0_492 : Cond.methodLink RJ0 492 mJ0_isLatin1_aae02.1 ∈ lw_tbl := jw_in 696 (by decide +kernel)
theorem jl_J0_495 : Cond.methodLink RJ0 495 mJ1_charAt_3b067.1 ∈ lw_tbl := jw_in 700 (by decide +kernel)
theorem jl_J0_335 : Cond.methodLink RJ0 335 mJ0_coder_7d493.1 ∈ lw_tbl := jw_in 686 (by decide +kernel)
theorem jl_J1_9 : Cond.methodLink RJ1 9 mJ0_checkIndex_df160.1 ∈ lw_tbl := jw_in 703 (by decide +kernel)
theorem jl_J0_1059 : Cond.methodLink RJ0 1059 mJ3_checkIndex_8e157.1 ∈ lw_tbl := jw_in 708 (by decide +kernel)
theorem jl_J0_633 : Cond.methodLink RJ0 633 mJ0_indexOf_7cf53.1 ∈ lw_tbl := jw_in 735 (by decide +kernel)
theorem jl_J0_505 : Cond.methodLink RJ0 505 mJ0_length_8abf5.1 ∈ lw_tbl := jw_in 739 (by decide +kernel)
theorem jl_J0_637 : Cond.methodLink RJ0 637 mJ1_indexOf_4cfef.1 ∈ lw_tbl := jw_in 740 (by decide +kernel)
theorem jl_J1_88 : Cond.methodLink RJ1 88 mJ1_canEncode_9a6ad.1 ∈ lw_tbl := jw_in 743 (by decide +kernel)
theorem jl_J1_95 : Cond.methodLink RJ1 95 mJ1_indexOfChar_4cfef.1 ∈ lw_tbl := jw_in 748 (by decide +kernel)
theorem jl_compact : Cond.fieldLink RJ0 38 "java/lang/String" "COMPACT_STRINGS" "Z" ∈ lw_tbl := jw_in 690 (by decide +kernel)
theorem jl_value : Cond.fieldLink RJ0 9 "java/lang/String" "value" "[B" ∈ lw_tbl := jw_in 2118 (by decide +kernel)
theorem jl_coder : Cond.fieldLink RJ0 15 "java/lang/String" "coder" "B" ∈ lw_tbl := jw_in 2119 (by decide +kernel)
theorem jl_sioobe : Cond.fieldLink RJ0 1053 "jdk/internal/util/Preconditions" "SIOOBE_FORMATTER" "Ljava/util/function/BiFunction;" ∈ lw_tbl := jw_in 706 (by decide +kernel)
theorem jl_J1_92 : Cond.methodLink RJ1 92 Lib.Math.max.name ∈ lw_tbl := jw_in 746 (by decide +kernel)
theorem jl_J1_38 : Cond.methodLink RJ1 38 Lib.Math.min.name ∈ lw_tbl := jw_in 747 (by decide +kernel)
abbrev nx2 : String → jH → Prop := fun _ _ => False
section STRC
variable {g : jG} {d : Nat} {h : jH} {k : Nat}
theorem c_isLatin1 (hk : k < 37) : Con g mJ0_isLatin1_aae02 (d + 1) [.ref (gS g k)] h (jPi (fun r h' => r = 1 ∧ h' = h) nx2) := by
  refine con_of km_J0_isLatin1_aae02.1.2.2.2.2 (Nat.le_of_ble_eq_true rfl) rfl ?_
  show J g _ (d + 1) _ _ 0 [(0, .ref (gS g k))] [] h
  refine jr_compact jl_compact dJ0_isLatin1_aae02_0 ?_
  refine jr_if_eq (tgt := 17) dJ0_isLatin1_aae02_3 (by decide) (fun c => absurd c (by decide)) (fun _ => ?_)
  refine jr_aload_n 0 dJ0_isLatin1_aae02_6 rfl rfl ?_
  refine jr_coder hk rfl jl_coder dJ0_isLatin1_aae02_7 ?_
  refine jr_if_ne (tgt := 17) dJ0_isLatin1_aae02_10 (by decide) (fun c => absurd rfl c) (fun _ => ?_)
  refine jr_iconst (v := 1) dJ0_isLatin1_aae02_13 (by decide) ?_
  refine jr_goto (tgt := 18) dJ0_isLatin1_aae02_14 (by decide) ?_
  exact jr_iret (ty := .boolean) rfl rfl dJ0_isLatin1_aae02_18 ⟨rfl, rfl⟩
theorem c_coder (hk : k < 37) : Con g mJ0_coder_7d493 (d + 1) [.ref (gS g k)] h (jPi (fun r h' => r = 0 ∧ h' = h) nx2) := by
  refine con_of km_J0_coder_7d493.1.2.2.2.2 (Nat.le_of_ble_eq_true rfl) rfl ?_
  show J g _ (d + 1) _ _ 0 [(0, .ref (gS g k))] [] h
  refine jr_compact jl_compact dJ0_coder_7d493_0 ?_
  refine jr_if_eq (tgt := 13) dJ0_coder_7d493_3 (by decide) (fun c => absurd c (by decide)) (fun _ => ?_)
  refine jr_aload_n 0 dJ0_coder_7d493_6 rfl rfl ?_
  refine jr_coder hk rfl jl_coder dJ0_coder_7d493_7 ?_
  refine jr_goto (tgt := 14) dJ0_coder_7d493_10 (by decide) ?_
  exact jr_iret (ty := .byte) rfl rfl dJ0_coder_7d493_14 ⟨rfl, rfl⟩
theorem sB_len : ∀ k, k < 37 → (sB k).length < 200 := by decide +kernel
theorem c_length (hk : k < 37) : Con g mJ0_length_8abf5 (d + 2) [.ref (gS g k)] h (jPi (fun r h' => r = nI (sB k).length ∧ h' = h) nx2) := by
  refine con_of km_J0_length_8abf5.1.2.2.2.2 (Nat.le_of_ble_eq_true rfl) rfl ?_
  show J g _ (d + 2) _ _ 0 [(0, .ref (gS g k))] [] h
  refine jr_aload_n 0 dJ0_length_8abf5_0 rfl rfl ?_
  refine jr_value hk rfl jl_value dJ0_length_8abf5_1 (fun v hv => ?_)
  refine jr_slen hv dJ0_length_8abf5_4 ?_
  refine jr_aload_n 0 dJ0_length_8abf5_5 rfl rfl ?_
  refine jr_cQi (As := []) jl_J0_335 km_J0_coder_7d493 rfl rfl dJ0_length_8abf5_6 ⟨k, hk, rfl⟩ (Nat.le_of_ble_eq_true rfl) ((c_coder hk).pi (fun r h' hr => hr) (fun E h' f => f.elim)) (fun r h' hr => ?_)
  obtain ⟨rfl, rfl⟩ := hr
  refine jr_ishr dJ0_length_8abf5_9 ?_
  have e : nI (sB k).length >>> ((0 : Int32) &&& 31) = nI (sB k).length := by
    rw [show (0 : Int32) &&& 31 = 0 from by decide]
    exact Int32.toBitVec_inj.mp (by simp)
  exact jr_iret (ty := .int) rfl rfl dJ0_length_8abf5_10 ⟨e, rfl⟩
theorem c_chk3 {i n : Nat} {v : Value} (hv : v = .null ∨ ∃ t, v = .ref t) (hi : i < n) (hn : n < 2 ^ 31) : Con g mJ3_checkIndex_8e157 (d + 1) [.int (nI i), .int (nI n), v] h (jPi (fun r h' => r = nI i ∧ h' = h) nx2) := by
  have key : J g mJ3_checkIndex_8e157 (d + 1) h (jPi (fun r h' => r = nI i ∧ h' = h) nx2) 0 [(0, .int (nI i)), (1, .int (nI n)), (2, v)] [] h := by
    refine jr_iload_n 0 dJ3_checkIndex_8e157_0 rfl rfl ?_
    refine jr_if_lt (tgt := 9) dJ3_checkIndex_8e157_1 (by decide) (fun c => absurd c (nI_pos (by omega))) (fun _ => ?_)
    refine jr_iload_n 0 dJ3_checkIndex_8e157_4 rfl rfl ?_
    refine jr_iload_n 1 dJ3_checkIndex_8e157_5 rfl rfl ?_
    refine jr_icmp_lt (tgt := 16) dJ3_checkIndex_8e157_6 (by decide) (fun _ => ?_) (fun c => absurd (nI_lt hi hn) c)
    refine jr_iload_n 0 dJ3_checkIndex_8e157_16 rfl rfl ?_
    exact jr_iret (ty := .int) rfl rfl dJ3_checkIndex_8e157_17 ⟨rfl, rfl⟩
  rcases hv with rfl | ⟨t, rfl⟩
  · exact con_of km_J3_checkIndex_8e157.1.2.2.2.2 (Nat.le_of_ble_eq_true rfl) rfl key
  · exact con_of km_J3_checkIndex_8e157.1.2.2.2.2 (Nat.le_of_ble_eq_true rfl) rfl key
theorem c_chk0 {i n : Nat} (hi : i < n) (hn : n < 2 ^ 31) : Con g mJ0_checkIndex_df160 (d + 2) [.int (nI i), .int (nI n)] h (jPv (fun h' => h' = h) nx2) := by
  refine con_of km_J0_checkIndex_df160.1.2.2.2.2 (Nat.le_of_ble_eq_true rfl) rfl ?_
  show J g _ (d + 2) _ _ 0 [(0, .int (nI i)), (1, .int (nI n))] [] h
  refine jr_iload_n 0 dJ0_checkIndex_df160_0 rfl rfl ?_
  refine jr_iload_n 1 dJ0_checkIndex_df160_1 rfl rfl ?_
  have go : ∀ v : Value, (v = .null ∨ ∃ t, v = .ref t) → J g mJ0_checkIndex_df160 (d + 2) h (jPv (fun h' => h' = h) nx2) 5 [(0, .int (nI i)), (1, .int (nI n))] [v, .int (nI n), .int (nI i)] h := by
    intro v hv
    refine jr_cSi (As := [.int (nI i), .int (nI n), v]) jl_J0_1059 km_J3_checkIndex_8e157 rfl rfl dJ0_checkIndex_df160_5 (Nat.le_of_ble_eq_true rfl) ((c_chk3 hv hi hn).pi (fun r h' hr => hr) (fun E h' f => f.elim)) (fun r h' hr => ?_)
    obtain ⟨rfl, rfl⟩ := hr
    refine jr_pop dJ0_checkIndex_df160_8 rfl ?_
    exact jr_vret rfl dJ0_checkIndex_df160_9 rfl
  exact jr_sioobe jl_sioobe dJ0_checkIndex_df160_2 (go .null (Or.inl rfl)) (fun t => go (.ref t) (Or.inr ⟨t, rfl⟩))
theorem sB_lo : ∀ k, k < 37 → ∀ i, i < (sB k).length → ((((sB k).getD i 0) &&& 255).toUInt32 % 65536).toInt32 = (sB k).getD i 0 := by decide +kernel
theorem sB_nar : ∀ k, k < 37 → ∀ i, i < (sB k).length → narrow .char (.int ((sB k).getD i 0)) = .int ((sB k).getD i 0) := by decide +kernel
theorem c_charAt1 {v i : Nat} (hv : sV g k v) (hi : i < (sB k).length) : Con g mJ1_charAt_3b067 (d + 3) [.ref v, .int (nI i)] h (jPi (fun r h' => r = (sB k).getD i 0 ∧ h' = h) nx2) := by
  have hl := sB_len k hv.1
  refine con_of km_J1_charAt_3b067.1.2.2.2.2 (Nat.le_of_ble_eq_true rfl) rfl ?_
  show J g _ (d + 3) _ _ 0 [(0, .ref v), (1, .int (nI i))] [] h
  refine jr_iload_n 1 dJ1_charAt_3b067_0 rfl rfl ?_
  refine jr_aload_n 0 dJ1_charAt_3b067_1 rfl rfl ?_
  refine jr_slen hv dJ1_charAt_3b067_2 ?_
  refine jr_cSv (As := [.int (nI i), .int (nI (sB k).length)]) jl_J1_9 km_J0_checkIndex_df160 rfl rfl dJ1_charAt_3b067_3 (Nat.le_of_ble_eq_true rfl) ((c_chk0 hi (by omega)).pv (fun h' hr => hr) (fun E h' f => f.elim)) (fun h' hr => ?_)
  subst hr
  refine jr_aload_n 0 dJ1_charAt_3b067_6 rfl rfl ?_
  refine jr_iload_n 1 dJ1_charAt_3b067_7 rfl rfl ?_
  refine jr_sbyte hv dJ1_charAt_3b067_8 (vp_in_nI hi (by omega)) ?_
  refine jr_sipush (v := 255) dJ1_charAt_3b067_9 (by decide) ?_
  refine jr_iand dJ1_charAt_3b067_12 ?_
  refine jr_i2c dJ1_charAt_3b067_13 ?_
  rw [nI_clamp (by omega), sB_lo k hv.1 i hi]
  exact jr_iret (ty := .char) rfl (sB_nar k hv.1 i hi) dJ1_charAt_3b067_14 ⟨rfl, rfl⟩
theorem c_charAt {i : Nat} (hk : k < 37) (hi : i < (sB k).length) : Con g mJ0_charAt_5068e (d + 4) [.ref (gS g k), .int (nI i)] h (jPi (fun r h' => r = (sB k).getD i 0 ∧ h' = h) nx2) := by
  refine con_of km_J0_charAt_5068e.1.2.2.2.2 (Nat.le_of_ble_eq_true rfl) rfl ?_
  show J g _ (d + 4) _ _ 0 [(0, .ref (gS g k)), (1, .int (nI i))] [] h
  refine jr_aload_n 0 dJ0_charAt_5068e_0 rfl rfl ?_
  refine jr_cQi (As := []) jl_J0_492 km_J0_isLatin1_aae02 rfl rfl dJ0_charAt_5068e_1 ⟨k, hk, rfl⟩ (Nat.le_of_ble_eq_true rfl) ((c_isLatin1 hk).pi (fun r h' hr => hr) (fun E h' f => f.elim)) (fun r h' hr => ?_)
  obtain ⟨rfl, rfl⟩ := hr
  refine jr_if_eq (tgt := 16) dJ0_charAt_5068e_4 (by decide) (fun c => absurd c (by decide)) (fun _ => ?_)
  refine jr_aload_n 0 dJ0_charAt_5068e_7 rfl rfl ?_
  refine jr_value hk rfl jl_value dJ0_charAt_5068e_8 (fun v hv => ?_)
  refine jr_iload_n 1 dJ0_charAt_5068e_11 rfl rfl ?_
  refine jr_cSi (As := [.ref v, .int (nI i)]) jl_J0_495 km_J1_charAt_3b067 rfl rfl dJ0_charAt_5068e_12 (Nat.le_of_ble_eq_true rfl) ((c_charAt1 hv hi).pi (fun r h' hr => hr) (fun E h' f => f.elim)) (fun r h' hr => ?_)
  obtain ⟨rfl, rfl⟩ := hr
  exact jr_iret (ty := .char) rfl (sB_nar k hk i hi) dJ0_charAt_5068e_15 ⟨rfl, rfl⟩
/-- where a byte first stands -/
def idxR (B : List Int32) (b : Int32) : Nat → Nat → Int32
  | 0, _ => -1
  | m + 1, i => if B.getD i 0 = b then nI i else idxR B b m (i + 1)
theorem c_canEncode {x : Int32} (h0 : ¬ x < 0) (h1 : ¬ 255 < x) : Con g mJ1_canEncode_9a6ad (d + 1) [.int x] h (jPi (fun r h' => r = 1 ∧ h' = h) nx2) := by
  refine con_of km_J1_canEncode_9a6ad.1.2.2.2.2 (Nat.le_of_ble_eq_true rfl) rfl ?_
  show J g _ (d + 1) _ _ 0 [(0, .int x)] [] h
  refine jr_iload_n 0 dJ1_canEncode_9a6ad_0 rfl rfl ?_
  refine jr_if_lt (tgt := 15) dJ1_canEncode_9a6ad_1 (by decide) (fun c => absurd c h0) (fun _ => ?_)
  refine jr_iload_n 0 dJ1_canEncode_9a6ad_4 rfl rfl ?_
  refine jr_sipush (v := 255) dJ1_canEncode_9a6ad_5 (by decide) ?_
  refine jr_icmp_gt (tgt := 15) dJ1_canEncode_9a6ad_8 (by decide) (fun c => absurd c h1) (fun _ => ?_)
  refine jr_iconst (v := 1) dJ1_canEncode_9a6ad_11 (by decide) ?_
  refine jr_goto (tgt := 16) dJ1_canEncode_9a6ad_12 (by decide) ?_
  exact jr_iret (ty := .boolean) rfl rfl dJ1_canEncode_9a6ad_16 ⟨rfl, rfl⟩
theorem idxC_loop {v : Nat} {hs : jH} {x b : Int32} (hv : sV g k v) : ∀ m i, (sB k).length = i + m →
    J g mJ1_indexOfChar_4cfef (d + 1) hs (jPi (fun r h' => r = idxR (sB k) b m i ∧ h' = h) nx2) 7 [(5, .int (nI i)), (4, .int b), (0, .ref v), (1, .int x), (2, .int 0), (3, .int (nI (sB k).length))] [] h := by
  have hl := sB_len k hv.1
  intro m
  induction m with
  | zero =>
    intro i hi
    refine jr_iload 0 dJ1_indexOfChar_4cfef_7 rfl ?_
    refine jr_iload_n 5 dJ1_indexOfChar_4cfef_9 rfl rfl ?_
    refine jr_icmp_ge (tgt := 31) dJ1_indexOfChar_4cfef_10 (by decide) (fun _ => ?_) (fun c => absurd c (nI_nlt (by omega) (by omega)))
    refine jr_iconst (v := -1) dJ1_indexOfChar_4cfef_31 (by decide) ?_
    exact jr_iret (ty := .int) rfl rfl dJ1_indexOfChar_4cfef_32 ⟨rfl, rfl⟩
  | succ m ih =>
    intro i hi
    refine jr_iload 0 dJ1_indexOfChar_4cfef_7 rfl ?_
    refine jr_iload_n 5 dJ1_indexOfChar_4cfef_9 rfl rfl ?_
    refine jr_icmp_ge (tgt := 31) dJ1_indexOfChar_4cfef_10 (by decide) (fun c => absurd (nI_lt (by omega) (by omega)) c) (fun _ => ?_)
    refine jr_aload_n 2 dJ1_indexOfChar_4cfef_13 rfl rfl ?_
    refine jr_iload 0 dJ1_indexOfChar_4cfef_14 rfl ?_
    refine jr_sbyte hv dJ1_indexOfChar_4cfef_16 (vp_in_nI (by omega) (by omega)) ?_
    refine jr_iload 1 dJ1_indexOfChar_4cfef_17 rfl ?_
    rw [nI_clamp (by omega)]
    refine jr_icmp_ne (tgt := 25) dJ1_indexOfChar_4cfef_19 (by decide) (fun c => ?_) (fun c => ?_)
    · refine jr_iinc (v := nI (i + 1)) (lv' := [(5, .int (nI (i + 1))), (4, .int b), (0, .ref v), (1, .int x), (2, .int 0), (3, .int (nI (sB k).length))]) 0 dJ1_indexOfChar_4cfef_25 rfl (nI_1 i) (by decide) rfl ?_
      refine jr_goto (tgt := 7) dJ1_indexOfChar_4cfef_28 (by decide) ?_
      rw [idxR, if_neg c]
      exact ih (i + 1) (by omega)
    · refine jr_iload 0 dJ1_indexOfChar_4cfef_22 rfl ?_
      refine jr_iret (ty := .int) rfl rfl dJ1_indexOfChar_4cfef_24 ⟨?_, rfl⟩
      rw [idxR, if_pos c]
theorem c_idxC {v : Nat} {x : Int32} (hv : sV g k v) : Con g mJ1_indexOfChar_4cfef (d + 1) [.ref v, .int x, .int 0, .int (nI (sB k).length)] h (jPi (fun r h' => r = idxR (sB k) x.toInt8.toInt32 (sB k).length 0 ∧ h' = h) nx2) := by
  refine con_of km_J1_indexOfChar_4cfef.1.2.2.2.2 (Nat.le_of_ble_eq_true rfl) rfl ?_
  show J g _ (d + 1) _ _ 0 [(0, .ref v), (1, .int x), (2, .int 0), (3, .int (nI (sB k).length))] [] h
  refine jr_iload_n 1 dJ1_indexOfChar_4cfef_0 rfl rfl ?_
  refine jr_i2b dJ1_indexOfChar_4cfef_1 ?_
  refine jr_istore (lv' := [(4, .int x.toInt8.toInt32), (0, .ref v), (1, .int x), (2, .int 0), (3, .int (nI (sB k).length))]) dJ1_indexOfChar_4cfef_2 (by decide) rfl ?_
  refine jr_iload_n 3 dJ1_indexOfChar_4cfef_4 rfl rfl ?_
  refine jr_istore (lv' := [(5, .int 0), (4, .int x.toInt8.toInt32), (0, .ref v), (1, .int x), (2, .int 0), (3, .int (nI (sB k).length))]) dJ1_indexOfChar_4cfef_5 (by decide) rfl ?_
  exact idxC_loop hv (sB k).length 0 (by omega)
theorem c_idx1 {v : Nat} {x : Int32} (hv : sV g k v) (hp : 0 < (sB k).length) (h0 : ¬ x < 0) (h1 : ¬ 255 < x) : Con g mJ1_indexOf_4cfef (d + 2) [.ref v, .int x, .int 0, .int (nI (sB k).length)] h (jPi (fun r h' => r = idxR (sB k) x.toInt8.toInt32 (sB k).length 0 ∧ h' = h) nx2) := by
  have hl := sB_len k hv.1
  refine con_of km_J1_indexOf_4cfef.1.2.2.2.2 (Nat.le_of_ble_eq_true rfl) rfl ?_
  show J g _ (d + 2) _ _ 0 [(0, .ref v), (1, .int x), (2, .int 0), (3, .int (nI (sB k).length))] [] h
  refine jr_iload_n 1 dJ1_indexOf_4cfef_0 rfl rfl ?_
  refine jr_cSi (As := [.int x]) jl_J1_88 km_J1_canEncode_9a6ad rfl rfl dJ1_indexOf_4cfef_1 (Nat.le_of_ble_eq_true rfl) ((c_canEncode h0 h1).pi (fun r h' hr => hr) (fun E h' f => f.elim)) (fun r h' hr => ?_)
  obtain ⟨rfl, rfl⟩ := hr
  refine jr_if_ne (tgt := 9) dJ1_indexOf_4cfef_4 (by decide) (fun _ => ?_) (fun c => absurd c (by decide))
  refine jr_iload_n 2 dJ1_indexOf_4cfef_9 rfl rfl ?_
  refine jr_iconst (v := 0) dJ1_indexOf_4cfef_10 (by decide) ?_
  refine jr_mmax jl_J1_92 dJ1_indexOf_4cfef_11 (Nat.le_of_ble_eq_true rfl) ?_
  refine jr_istore_n (lv' := [(2, .int 0), (0, .ref v), (1, .int x), (3, .int (nI (sB k).length))]) dJ1_indexOf_4cfef_14 rfl (by decide) rfl ?_
  refine jr_iload_n 3 dJ1_indexOf_4cfef_15 rfl rfl ?_
  refine jr_aload_n 1 dJ1_indexOf_4cfef_16 rfl rfl ?_
  refine jr_slen hv dJ1_indexOf_4cfef_17 ?_
  refine jr_mmin jl_J1_38 dJ1_indexOf_4cfef_18 (Nat.le_of_ble_eq_true rfl) ?_
  rw [show jmin (nI (sB k).length) (nI (sB k).length) = nI (sB k).length from by unfold jmin; split <;> rfl]
  refine jr_istore_n (lv' := [(3, .int (nI (sB k).length)), (2, .int 0), (0, .ref v), (1, .int x)]) dJ1_indexOf_4cfef_21 rfl (by decide) rfl ?_
  refine jr_iload_n 1 dJ1_indexOf_4cfef_22 rfl rfl ?_
  refine jr_iload_n 0 dJ1_indexOf_4cfef_23 rfl rfl ?_
  refine jr_icmp_lt (tgt := 29) dJ1_indexOf_4cfef_24 (by decide) (fun _ => ?_) (fun c => absurd (nI_lt (a := 0) hp (by omega)) c)
  refine jr_aload_n 2 dJ1_indexOf_4cfef_29 rfl rfl ?_
  refine jr_iload_n 3 dJ1_indexOf_4cfef_30 rfl rfl ?_
  refine jr_iload_n 1 dJ1_indexOf_4cfef_31 rfl rfl ?_
  refine jr_iload_n 0 dJ1_indexOf_4cfef_32 rfl rfl ?_
  refine jr_cSi (As := [.ref v, .int x, .int 0, .int (nI (sB k).length)]) jl_J1_95 km_J1_indexOfChar_4cfef rfl rfl dJ1_indexOf_4cfef_33 (Nat.le_of_ble_eq_true rfl) ((c_idxC hv).pi (fun r h' hr => hr) (fun E h' f => f.elim)) (fun r h' hr => ?_)
  obtain ⟨rfl, rfl⟩ := hr
  exact jr_iret (ty := .int) rfl rfl dJ1_indexOf_4cfef_36 ⟨rfl, rfl⟩
theorem c_idx2 {x : Int32} (hk : k < 37) (hp : 0 < (sB k).length) (h0 : ¬ x < 0) (h1 : ¬ 255 < x) : Con g mJ0_indexOf_7cf53 (d + 3) [.ref (gS g k), .int x, .int 0] h (jPi (fun r h' => r = idxR (sB k) x.toInt8.toInt32 (sB k).length 0 ∧ h' = h) nx2) := by
  refine con_of km_J0_indexOf_7cf53.1.2.2.2.2 (Nat.le_of_ble_eq_true rfl) rfl ?_
  show J g _ (d + 3) _ _ 0 [(0, .ref (gS g k)), (1, .int x), (2, .int 0)] [] h
  refine jr_aload_n 0 dJ0_indexOf_7cf53_0 rfl rfl ?_
  refine jr_cQi (As := []) jl_J0_492 km_J0_isLatin1_aae02 rfl rfl dJ0_indexOf_7cf53_1 ⟨k, hk, rfl⟩ (Nat.le_of_ble_eq_true rfl) ((c_isLatin1 hk).pi (fun r h' hr => hr) (fun E h' f => f.elim)) (fun r h' hr => ?_)
  obtain ⟨rfl, rfl⟩ := hr
  refine jr_if_eq (tgt := 23) dJ0_indexOf_7cf53_4 (by decide) (fun c => absurd c (by decide)) (fun _ => ?_)
  refine jr_aload_n 0 dJ0_indexOf_7cf53_7 rfl rfl ?_
  refine jr_value hk rfl jl_value dJ0_indexOf_7cf53_8 (fun v hv => ?_)
  refine jr_iload_n 1 dJ0_indexOf_7cf53_11 rfl rfl ?_
  refine jr_iload_n 2 dJ0_indexOf_7cf53_12 rfl rfl ?_
  refine jr_aload_n 0 dJ0_indexOf_7cf53_13 rfl rfl ?_
  refine jr_cQi (As := []) jl_J0_505 km_J0_length_8abf5 rfl rfl dJ0_indexOf_7cf53_14 ⟨k, hk, rfl⟩ (Nat.le_of_ble_eq_true rfl) ((c_length hk).pi (fun r h' hr => hr) (fun E h' f => f.elim)) (fun r h' hr => ?_)
  obtain ⟨rfl, rfl⟩ := hr
  refine jr_cSi (As := [.ref v, .int x, .int 0, .int (nI (sB k).length)]) jl_J0_637 km_J1_indexOf_4cfef rfl rfl dJ0_indexOf_7cf53_17 (Nat.le_of_ble_eq_true rfl) ((c_idx1 hv hp h0 h1).pi (fun r h' hr => hr) (fun E h' f => f.elim)) (fun r h' hr => ?_)
  obtain ⟨rfl, rfl⟩ := hr
  refine jr_goto (tgt := 36) dJ0_indexOf_7cf53_20 (by decide) ?_
  exact jr_iret (ty := .int) rfl rfl dJ0_indexOf_7cf53_36 ⟨rfl, rfl⟩
theorem c_indexOf {x : Int32} (hk : k < 37) (hp : 0 < (sB k).length) (h0 : ¬ x < 0) (h1 : ¬ 255 < x) : Con g mJ0_indexOf_0f7a4 (d + 4) [.ref (gS g k), .int x] h (jPi (fun r h' => r = idxR (sB k) x.toInt8.toInt32 (sB k).length 0 ∧ h' = h) nx2) := by
  refine con_of km_J0_indexOf_0f7a4.1.2.2.2.2 (Nat.le_of_ble_eq_true rfl) rfl ?_
  show J g _ (d + 4) _ _ 0 [(0, .ref (gS g k)), (1, .int x)] [] h
  refine jr_aload_n 0 dJ0_indexOf_0f7a4_0 rfl rfl ?_
  refine jr_iload_n 1 dJ0_indexOf_0f7a4_1 rfl rfl ?_
  refine jr_iconst (v := 0) dJ0_indexOf_0f7a4_2 (by decide) ?_
  refine jr_cQi (As := [.int x, .int 0]) jl_J0_633 km_J0_indexOf_7cf53 rfl rfl dJ0_indexOf_0f7a4_3 ⟨k, hk, rfl⟩ (Nat.le_of_ble_eq_true rfl) ((c_idx2 hk hp h0 h1).pi (fun r h' hr => hr) (fun E h' f => f.elim)) (fun r h' hr => ?_)
  obtain ⟨rfl, rfl⟩ := hr
  exact jr_iret (ty := .int) rfl rfl dJ0_indexOf_0f7a4_6 ⟨rfl, rfl⟩
end STRC
