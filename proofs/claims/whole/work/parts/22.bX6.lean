set_option maxRecDepth 20000 in
theorem bX6_init_0 {g : jG} {d : Nat} {hs : jH} {P : jO → jH → Prop} {x0 : Nat} {h : jH} (k : ∃ N1 : Nat, (7 : Int32) = nI N1 ∧ N1 < 60000000 ∧ jroom g h 1 N1 ∧ ∀ (q4 : Nat) (h5 : jH), q4 = h.2.1 → h5 = jnew h (.inl (0, (N1, .inl (fun _ => 0)))) N1 → ∃ fs9 : List Value, h5.1 x0 = some (.inr (6, fs9)) ∧ 3 < fs9.length ∧ (∀ h12 : jH, h12 = jset h5 x0 (.inr (6, fs9.set 3 (.ref q4))) → ∃ N14 : Nat, (7 : Int32) = nI N14 ∧ N14 < 60000000 ∧ jroom g h12 1 N14 ∧ ∀ (q17 : Nat) (h18 : jH), q17 = h12.2.1 → h18 = jnew h12 (.inl (0, (N14, .inl (fun _ => 0)))) N14 → ∃ fs22 : List Value, h18.1 x0 = some (.inr (6, fs22)) ∧ 4 < fs22.length ∧ (∀ h25 : jH, h25 = jset h18 x0 (.inr (6, fs22.set 4 (.ref q17))) → ∃ N27 : Nat, (7 : Int32) = nI N27 ∧ N27 < 60000000 ∧ jroom g h25 1 N27 ∧ ∀ (q30 : Nat) (h31 : jH), q30 = h25.2.1 → h31 = jnew h25 (.inl (0, (N27, .inl (fun _ => 0)))) N27 → ∃ fs35 : List Value, h31.1 x0 = some (.inr (6, fs35)) ∧ 5 < fs35.length ∧ (∀ h38 : jH, h38 = jset h31 x0 (.inr (6, fs35.set 5 (.ref q30))) → ∃ N40 : Nat, (7 : Int32) = nI N40 ∧ N40 < 60000000 ∧ jroom g h38 1 N40 ∧ ∀ (q43 : Nat) (h44 : jH), q43 = h38.2.1 → h44 = jnew h38 (.inl (0, (N40, .inl (fun _ => 0)))) N40 → ∃ fs48 : List Value, h44.1 x0 = some (.inr (6, fs48)) ∧ 6 < fs48.length ∧ (∀ h51 : jH, h51 = jset h44 x0 (.inr (6, fs48.set 6 (.ref q43))) → ∃ N53 : Nat, (7 : Int32) = nI N53 ∧ N53 < 60000000 ∧ jroom g h51 1 N53 ∧ ∀ (q56 : Nat) (h57 : jH), q56 = h51.2.1 → h57 = jnew h51 (.inl (0, (N53, .inl (fun _ => 0)))) N53 → ∃ fs61 : List Value, h57.1 x0 = some (.inr (6, fs61)) ∧ 7 < fs61.length ∧ (∀ h64 : jH, h64 = jset h57 x0 (.inr (6, fs61.set 7 (.ref q56))) → ∃ N66 : Nat, (7 : Int32) = nI N66 ∧ N66 < 60000000 ∧ jroom g h64 1 N66 ∧ ∀ (q69 : Nat) (h70 : jH), q69 = h64.2.1 → h70 = jnew h64 (.inl (0, (N66, .inl (fun _ => 0)))) N66 → ∃ fs74 : List Value, h70.1 x0 = some (.inr (6, fs74)) ∧ 8 < fs74.length ∧ (∀ h77 : jH, h77 = jset h70 x0 (.inr (6, fs74.set 8 (.ref q69))) → P (.inl none) h77))))))) : J g mX6_init (d + 1) hs P 0 [(0, .ref x0)] [] h := by
  refine jr_aload_n 0 dX6_init_0 rfl rfl ?_
  refine jr_objInit jl_X6_3 dX6_init_1 (Nat.le_of_ble_eq_true rfl) ?_
  refine jr_aload_n 0 dX6_init_4 rfl rfl ?_
  refine jr_bipush (v := 7) dX6_init_5 (by decide) ?_
  obtain ⟨N1, e2, e3, rm8, k⟩ := k
  refine jr_new_int e2 e3 rm8 dX6_init_7 (fun q4 h5 eq6 eh7 => ?_)
  have k := k q4 h5 eq6 eh7
  obtain ⟨fs9, e10, e11, k⟩ := k
  refine jr_putFE jp_X6_9 (fun C T N hc => by cases hc; rfl) rfl dX6_init_9 e10 e11 rfl rfl (fun h12 eh13 => ?_)
  have k := k h12 eh13
  refine jr_aload_n 0 dX6_init_12 rfl rfl ?_
  refine jr_bipush (v := 7) dX6_init_13 (by decide) ?_
  obtain ⟨N14, e15, e16, rm21, k⟩ := k
  refine jr_new_int e15 e16 rm21 dX6_init_15 (fun q17 h18 eq19 eh20 => ?_)
  have k := k q17 h18 eq19 eh20
  obtain ⟨fs22, e23, e24, k⟩ := k
  refine jr_putFE jp_X6_15 (fun C T N hc => by cases hc; rfl) rfl dX6_init_17 e23 e24 rfl rfl (fun h25 eh26 => ?_)
  have k := k h25 eh26
  refine jr_aload_n 0 dX6_init_20 rfl rfl ?_
  refine jr_bipush (v := 7) dX6_init_21 (by decide) ?_
  obtain ⟨N27, e28, e29, rm34, k⟩ := k
  refine jr_new_int e28 e29 rm34 dX6_init_23 (fun q30 h31 eq32 eh33 => ?_)
  have k := k q30 h31 eq32 eh33
  obtain ⟨fs35, e36, e37, k⟩ := k
  refine jr_putFE jp_X6_18 (fun C T N hc => by cases hc; rfl) rfl dX6_init_25 e36 e37 rfl rfl (fun h38 eh39 => ?_)
  have k := k h38 eh39
  refine jr_aload_n 0 dX6_init_28 rfl rfl ?_
  refine jr_bipush (v := 7) dX6_init_29 (by decide) ?_
  obtain ⟨N40, e41, e42, rm47, k⟩ := k
  refine jr_new_int e41 e42 rm47 dX6_init_31 (fun q43 h44 eq45 eh46 => ?_)
  have k := k q43 h44 eq45 eh46
  obtain ⟨fs48, e49, e50, k⟩ := k
  refine jr_putFE jp_X6_21 (fun C T N hc => by cases hc; rfl) rfl dX6_init_33 e49 e50 rfl rfl (fun h51 eh52 => ?_)
  have k := k h51 eh52
  refine jr_aload_n 0 dX6_init_36 rfl rfl ?_
  refine jr_bipush (v := 7) dX6_init_37 (by decide) ?_
  obtain ⟨N53, e54, e55, rm60, k⟩ := k
  refine jr_new_int e54 e55 rm60 dX6_init_39 (fun q56 h57 eq58 eh59 => ?_)
  have k := k q56 h57 eq58 eh59
  obtain ⟨fs61, e62, e63, k⟩ := k
  refine jr_putFE jp_X6_24 (fun C T N hc => by cases hc; rfl) rfl dX6_init_41 e62 e63 rfl rfl (fun h64 eh65 => ?_)
  have k := k h64 eh65
  refine jr_aload_n 0 dX6_init_44 rfl rfl ?_
  refine jr_bipush (v := 7) dX6_init_45 (by decide) ?_
  obtain ⟨N66, e67, e68, rm73, k⟩ := k
  refine jr_new_int e67 e68 rm73 dX6_init_47 (fun q69 h70 eq71 eh72 => ?_)
  have k := k q69 h70 eq71 eh72
  obtain ⟨fs74, e75, e76, k⟩ := k
  refine jr_putFE jp_X6_27 (fun C T N hc => by cases hc; rfl) rfl dX6_init_49 e75 e76 rfl rfl (fun h77 eh78 => ?_)
  have k := k h77 eh78
  exact jr_vret rfl dX6_init_52 k
set_option maxRecDepth 20000 in
theorem bX6_has_0 {g : jG} {d : Nat} {hs : jH} {P : jO → jH → Prop} {x0 : Nat} {x1 : Int32} {h : jH} (k : (x1 < 0 → P (.inl (some (.int 0))) h) ∧ (¬ x1 < 0 → ∃ fs1 : List Value, h.1 x0 = some (.inr (6, fs1)) ∧ ∃ v4 : Int32, fs1[0]? = some (.int v4) ∧ (x1 < v4 → (x1 < 7 → P (.inl (some (.int 1))) h) ∧ (¬ x1 < 7 → P (.inl (some (.int 0))) h)) ∧ (¬ x1 < v4 → P (.inl (some (.int 0))) h))) : J g mX6_has (d + 1) hs P 0 [(0, .ref x0), (1, .int x1)] [] h := by
  refine jr_iload_n 1 dX6_has_0 rfl rfl ?_
  refine jr_if_lt (tgt := 22) dX6_has_1 (by decide) (fun c1 => ?_) (fun c1 => ?_)
  · have k := k.1 c1
    refine jr_iconst (v := 0) dX6_has_22 (by decide) ?_
    exact jr_iret (ty := .boolean) rfl rfl dX6_has_23 k
  · have k := k.2 c1
    refine jr_iload_n 1 dX6_has_4 rfl rfl ?_
    refine jr_aload_n 0 dX6_has_5 rfl rfl ?_
    obtain ⟨fs1, e2, v4, e3, k⟩ := k
    refine jr_get jf_X6_30 dX6_has_6 e2 e3 ?_
    refine jr_icmp_ge (tgt := 22) dX6_has_9 (by decide) (fun c9 => ?_) (fun c9 => ?_)
    · have k := k.2 c9
      refine jr_iconst (v := 0) dX6_has_22 (by decide) ?_
      exact jr_iret (ty := .boolean) rfl rfl dX6_has_23 k
    · have k := k.1 c9
      refine jr_iload_n 1 dX6_has_12 rfl rfl ?_
      refine jr_bipush (v := 7) dX6_has_13 (by decide) ?_
      refine jr_icmp_ge (tgt := 22) dX6_has_15 (by decide) (fun c15 => ?_) (fun c15 => ?_)
      · have k := k.2 c15
        refine jr_iconst (v := 0) dX6_has_22 (by decide) ?_
        exact jr_iret (ty := .boolean) rfl rfl dX6_has_23 k
      · have k := k.1 c15
        refine jr_iconst (v := 1) dX6_has_18 (by decide) ?_
        refine jr_goto (tgt := 23) dX6_has_19 (by decide) ?_
        exact jr_iret (ty := .boolean) rfl rfl dX6_has_23 k
set_option maxRecDepth 20000 in
theorem bX6_isGone_0 {g : jG} {d : Nat} {hs : jH} {P : jO → jH → Prop} {x0 : Nat} {x1 : Int32} {h : jH} (k : ∃ fs3 : List Value, h.1 x0 = some (.inr (6, fs3)) ∧ Con g mX6_has d [.ref x0, .int x1] h (jPi (fun (r1 : Int32) (h2 : jH) => (r1 = 0 → P (.inl (some (.int 0))) h2) ∧ (¬ r1 = 0 → ∃ fs5 : List Value, h2.1 x0 = some (.inr (6, fs5)) ∧ ∃ v8 : Nat, fs5[6]? = some (.ref v8) ∧ ∃ (n9 : Nat) (f10 : Nat → Int32), h2.1 v8 = some (.inl (0, (n9, .inl f10))) ∧ vp_in x1 n9 ∧ ((f10 x1.toNatClampNeg) = 1 → P (.inl (some (.int 1))) h2) ∧ (¬ (f10 x1.toNatClampNeg) = 1 → P (.inl (some (.int 0))) h2))) (fun E h' => P (.inr E) h'))) : J g mX6_isGone (d + 1) hs P 0 [(0, .ref x0), (1, .int x1)] [] h := by
  refine jr_aload_n 0 dX6_isGone_0 rfl rfl ?_
  refine jr_iload_n 1 dX6_isGone_1 rfl rfl ?_
  obtain ⟨fs3, e4, k⟩ := k
  refine jr_cVi (As := [.int x1]) jl_X6_34 km_X6_has rfl rfl dX6_isGone_2 e4 (Nat.le_of_ble_eq_true rfl) k (fun r1 h2 k => ?_)
  refine jr_if_eq (tgt := 22) dX6_isGone_5 (by decide) (fun c5 => ?_) (fun c5 => ?_)
  · have k := k.1 c5
    refine jr_iconst (v := 0) dX6_isGone_22 (by decide) ?_
    exact jr_iret (ty := .boolean) rfl rfl dX6_isGone_23 k
  · have k := k.2 c5
    refine jr_aload_n 0 dX6_isGone_8 rfl rfl ?_
    obtain ⟨fs5, e6, v8, e7, k⟩ := k
    refine jr_get jf_X6_21 dX6_isGone_9 e6 e7 ?_
    refine jr_iload_n 1 dX6_isGone_12 rfl rfl ?_
    obtain ⟨n9, f10, e11, e12, k⟩ := k
    refine jr_iald dX6_isGone_13 e11 e12 ?_
    refine jr_iconst (v := 1) dX6_isGone_14 (by decide) ?_
    refine jr_icmp_ne (tgt := 22) dX6_isGone_15 (by decide) (fun c15 => ?_) (fun c15 => ?_)
    · have k := k.2 c15
      refine jr_iconst (v := 0) dX6_isGone_22 (by decide) ?_
      exact jr_iret (ty := .boolean) rfl rfl dX6_isGone_23 k
    · have k := k.1 c15
      refine jr_iconst (v := 1) dX6_isGone_18 (by decide) ?_
      refine jr_goto (tgt := 23) dX6_isGone_19 (by decide) ?_
      exact jr_iret (ty := .boolean) rfl rfl dX6_isGone_23 k
set_option maxRecDepth 20000 in
theorem bX6_takeOver_0 {g : jG} {d : Nat} {hs : jH} {P : jO → jH → Prop} {x0 : Nat} {x1 : Nat} {h : jH} (k : ∃ fs1 : List Value, h.1 x1 = some (.inr (6, fs1)) ∧ ∃ v4 : Int32, fs1[0]? = some (.int v4) ∧ ∃ fs5 : List Value, h.1 x0 = some (.inr (6, fs5)) ∧ 0 < fs5.length ∧ (∀ h8 : jH, h8 = jset h x0 (.inr (6, fs5.set 0 (.int v4))) → ∃ fs10 : List Value, h8.1 x1 = some (.inr (6, fs10)) ∧ ∃ v13 : Int32, fs10[1]? = some (.int v13) ∧ ∃ fs14 : List Value, h8.1 x0 = some (.inr (6, fs14)) ∧ 1 < fs14.length ∧ (∀ h17 : jH, h17 = jset h8 x0 (.inr (6, fs14.set 1 (.int v13))) → ∃ fs19 : List Value, h17.1 x1 = some (.inr (6, fs19)) ∧ ∃ v22 : Int32, fs19[2]? = some (.int v22) ∧ ∃ fs23 : List Value, h17.1 x0 = some (.inr (6, fs23)) ∧ 2 < fs23.length ∧ (∀ h26 : jH, h26 = jset h17 x0 (.inr (6, fs23.set 2 (.int v22))) → ∃ fs28 : List Value, h26.1 x1 = some (.inr (6, fs28)) ∧ ∃ v31 : Nat, fs28[3]? = some (.ref v31) ∧ ∃ fs32 : List Value, h26.1 x0 = some (.inr (6, fs32)) ∧ ∃ v35 : Nat, fs32[3]? = some (.ref v35) ∧ ∃ (n36 : Nat) (f38 : Nat → Int32), h26.1 v31 = some (.inl (0, (n36, .inl f38))) ∧ ∃ (n37 : Nat) (f39 : Nat → Int32), h26.1 v35 = some (.inl (0, (n37, .inl f39))) ∧ ¬ (0 : Int32) < 0 ∧ ¬ (0 : Int32) < 0 ∧ ¬ (7 : Int32) < 0 ∧ (0 : Int32).toNatClampNeg + (7 : Int32).toNatClampNeg ≤ n36 ∧ (0 : Int32).toNatClampNeg + (7 : Int32).toNatClampNeg ≤ n37 ∧ ∀ h47, h47 = jset h26 v35 (.inl (0, (n37, .inl (va_cpy f38 f39 (0 : Int32).toNatClampNeg (0 : Int32).toNatClampNeg (7 : Int32).toNatClampNeg)))) → ∃ fs49 : List Value, h47.1 x1 = some (.inr (6, fs49)) ∧ ∃ v52 : Nat, fs49[4]? = some (.ref v52) ∧ ∃ fs53 : List Value, h47.1 x0 = some (.inr (6, fs53)) ∧ ∃ v56 : Nat, fs53[4]? = some (.ref v56) ∧ ∃ (n57 : Nat) (f59 : Nat → Int32), h47.1 v52 = some (.inl (0, (n57, .inl f59))) ∧ ∃ (n58 : Nat) (f60 : Nat → Int32), h47.1 v56 = some (.inl (0, (n58, .inl f60))) ∧ ¬ (0 : Int32) < 0 ∧ ¬ (0 : Int32) < 0 ∧ ¬ (7 : Int32) < 0 ∧ (0 : Int32).toNatClampNeg + (7 : Int32).toNatClampNeg ≤ n57 ∧ (0 : Int32).toNatClampNeg + (7 : Int32).toNatClampNeg ≤ n58 ∧ ∀ h68, h68 = jset h47 v56 (.inl (0, (n58, .inl (va_cpy f59 f60 (0 : Int32).toNatClampNeg (0 : Int32).toNatClampNeg (7 : Int32).toNatClampNeg)))) → ∃ fs70 : List Value, h68.1 x1 = some (.inr (6, fs70)) ∧ ∃ v73 : Nat, fs70[5]? = some (.ref v73) ∧ ∃ fs74 : List Value, h68.1 x0 = some (.inr (6, fs74)) ∧ ∃ v77 : Nat, fs74[5]? = some (.ref v77) ∧ ∃ (n78 : Nat) (f80 : Nat → Int32), h68.1 v73 = some (.inl (0, (n78, .inl f80))) ∧ ∃ (n79 : Nat) (f81 : Nat → Int32), h68.1 v77 = some (.inl (0, (n79, .inl f81))) ∧ ¬ (0 : Int32) < 0 ∧ ¬ (0 : Int32) < 0 ∧ ¬ (7 : Int32) < 0 ∧ (0 : Int32).toNatClampNeg + (7 : Int32).toNatClampNeg ≤ n78 ∧ (0 : Int32).toNatClampNeg + (7 : Int32).toNatClampNeg ≤ n79 ∧ ∀ h89, h89 = jset h68 v77 (.inl (0, (n79, .inl (va_cpy f80 f81 (0 : Int32).toNatClampNeg (0 : Int32).toNatClampNeg (7 : Int32).toNatClampNeg)))) → ∃ fs91 : List Value, h89.1 x1 = some (.inr (6, fs91)) ∧ ∃ v94 : Nat, fs91[6]? = some (.ref v94) ∧ ∃ fs95 : List Value, h89.1 x0 = some (.inr (6, fs95)) ∧ ∃ v98 : Nat, fs95[6]? = some (.ref v98) ∧ ∃ (n99 : Nat) (f101 : Nat → Int32), h89.1 v94 = some (.inl (0, (n99, .inl f101))) ∧ ∃ (n100 : Nat) (f102 : Nat → Int32), h89.1 v98 = some (.inl (0, (n100, .inl f102))) ∧ ¬ (0 : Int32) < 0 ∧ ¬ (0 : Int32) < 0 ∧ ¬ (7 : Int32) < 0 ∧ (0 : Int32).toNatClampNeg + (7 : Int32).toNatClampNeg ≤ n99 ∧ (0 : Int32).toNatClampNeg + (7 : Int32).toNatClampNeg ≤ n100 ∧ ∀ h110, h110 = jset h89 v98 (.inl (0, (n100, .inl (va_cpy f101 f102 (0 : Int32).toNatClampNeg (0 : Int32).toNatClampNeg (7 : Int32).toNatClampNeg)))) → ∃ fs112 : List Value, h110.1 x1 = some (.inr (6, fs112)) ∧ ∃ v115 : Nat, fs112[7]? = some (.ref v115) ∧ ∃ fs116 : List Value, h110.1 x0 = some (.inr (6, fs116)) ∧ ∃ v119 : Nat, fs116[7]? = some (.ref v119) ∧ ∃ (n120 : Nat) (f122 : Nat → Int32), h110.1 v115 = some (.inl (0, (n120, .inl f122))) ∧ ∃ (n121 : Nat) (f123 : Nat → Int32), h110.1 v119 = some (.inl (0, (n121, .inl f123))) ∧ ¬ (0 : Int32) < 0 ∧ ¬ (0 : Int32) < 0 ∧ ¬ (7 : Int32) < 0 ∧ (0 : Int32).toNatClampNeg + (7 : Int32).toNatClampNeg ≤ n120 ∧ (0 : Int32).toNatClampNeg + (7 : Int32).toNatClampNeg ≤ n121 ∧ ∀ h131, h131 = jset h110 v119 (.inl (0, (n121, .inl (va_cpy f122 f123 (0 : Int32).toNatClampNeg (0 : Int32).toNatClampNeg (7 : Int32).toNatClampNeg)))) → ∃ fs133 : List Value, h131.1 x1 = some (.inr (6, fs133)) ∧ ∃ v136 : Nat, fs133[8]? = some (.ref v136) ∧ ∃ fs137 : List Value, h131.1 x0 = some (.inr (6, fs137)) ∧ ∃ v140 : Nat, fs137[8]? = some (.ref v140) ∧ ∃ (n141 : Nat) (f143 : Nat → Int32), h131.1 v136 = some (.inl (0, (n141, .inl f143))) ∧ ∃ (n142 : Nat) (f144 : Nat → Int32), h131.1 v140 = some (.inl (0, (n142, .inl f144))) ∧ ¬ (0 : Int32) < 0 ∧ ¬ (0 : Int32) < 0 ∧ ¬ (7 : Int32) < 0 ∧ (0 : Int32).toNatClampNeg + (7 : Int32).toNatClampNeg ≤ n141 ∧ (0 : Int32).toNatClampNeg + (7 : Int32).toNatClampNeg ≤ n142 ∧ ∀ h152, h152 = jset h131 v140 (.inl (0, (n142, .inl (va_cpy f143 f144 (0 : Int32).toNatClampNeg (0 : Int32).toNatClampNeg (7 : Int32).toNatClampNeg)))) → P (.inl none) h152)))) : J g mX6_takeOver (d + 1) hs P 0 [(0, .ref x0), (1, .ref x1)] [] h := by
  refine jr_aload_n 0 dX6_takeOver_0 rfl rfl ?_
  refine jr_aload_n 1 dX6_takeOver_1 rfl rfl ?_
  obtain ⟨fs1, e2, v4, e3, k⟩ := k
  refine jr_get jf_X6_30 dX6_takeOver_2 e2 e3 ?_
  obtain ⟨fs5, e6, e7, k⟩ := k
  refine jr_putE jp_X6_30 dX6_takeOver_5 e6 e7 rfl rfl (fun h8 eh9 => ?_)
  have k := k h8 eh9
  refine jr_aload_n 0 dX6_takeOver_8 rfl rfl ?_
  refine jr_aload_n 1 dX6_takeOver_9 rfl rfl ?_
  obtain ⟨fs10, e11, v13, e12, k⟩ := k
  refine jr_get jf_X6_38 dX6_takeOver_10 e11 e12 ?_
  obtain ⟨fs14, e15, e16, k⟩ := k
  refine jr_putE jp_X6_38 dX6_takeOver_13 e15 e16 rfl rfl (fun h17 eh18 => ?_)
  have k := k h17 eh18
  refine jr_aload_n 0 dX6_takeOver_16 rfl rfl ?_
  refine jr_aload_n 1 dX6_takeOver_17 rfl rfl ?_
  obtain ⟨fs19, e20, v22, e21, k⟩ := k
  refine jr_get jf_X6_41 dX6_takeOver_18 e20 e21 ?_
  obtain ⟨fs23, e24, e25, k⟩ := k
  refine jr_putE jp_X6_41 dX6_takeOver_21 e24 e25 rfl rfl (fun h26 eh27 => ?_)
  have k := k h26 eh27
  refine jr_aload_n 1 dX6_takeOver_24 rfl rfl ?_
  obtain ⟨fs28, e29, v31, e30, k⟩ := k
  refine jr_get jf_X6_9 dX6_takeOver_25 e29 e30 ?_
  refine jr_iconst (v := 0) dX6_takeOver_28 (by decide) ?_
  refine jr_aload_n 0 dX6_takeOver_29 rfl rfl ?_
  obtain ⟨fs32, e33, v35, e34, k⟩ := k
  refine jr_get jf_X6_9 dX6_takeOver_30 e33 e34 ?_
  refine jr_iconst (v := 0) dX6_takeOver_33 (by decide) ?_
  refine jr_bipush (v := 7) dX6_takeOver_34 (by decide) ?_
  obtain ⟨n36, f38, e40, n37, f39, e41, e42, e43, e44, e45, e46, k⟩ := k
  refine jr_copyiE jl_X6_44 dX6_takeOver_36 e40 e41 e42 e43 e44 e45 e46 (Nat.le_of_ble_eq_true rfl) (fun h47 eh48 => ?_)
  have k := k h47 eh48
  refine jr_aload_n 1 dX6_takeOver_39 rfl rfl ?_
  obtain ⟨fs49, e50, v52, e51, k⟩ := k
  refine jr_get jf_X6_15 dX6_takeOver_40 e50 e51 ?_
  refine jr_iconst (v := 0) dX6_takeOver_43 (by decide) ?_
  refine jr_aload_n 0 dX6_takeOver_44 rfl rfl ?_
  obtain ⟨fs53, e54, v56, e55, k⟩ := k
  refine jr_get jf_X6_15 dX6_takeOver_45 e54 e55 ?_
  refine jr_iconst (v := 0) dX6_takeOver_48 (by decide) ?_
  refine jr_bipush (v := 7) dX6_takeOver_49 (by decide) ?_
  obtain ⟨n57, f59, e61, n58, f60, e62, e63, e64, e65, e66, e67, k⟩ := k
  refine jr_copyiE jl_X6_44 dX6_takeOver_51 e61 e62 e63 e64 e65 e66 e67 (Nat.le_of_ble_eq_true rfl) (fun h68 eh69 => ?_)
  have k := k h68 eh69
  refine jr_aload_n 1 dX6_takeOver_54 rfl rfl ?_
  obtain ⟨fs70, e71, v73, e72, k⟩ := k
  refine jr_get jf_X6_18 dX6_takeOver_55 e71 e72 ?_
  refine jr_iconst (v := 0) dX6_takeOver_58 (by decide) ?_
  refine jr_aload_n 0 dX6_takeOver_59 rfl rfl ?_
  obtain ⟨fs74, e75, v77, e76, k⟩ := k
  refine jr_get jf_X6_18 dX6_takeOver_60 e75 e76 ?_
  refine jr_iconst (v := 0) dX6_takeOver_63 (by decide) ?_
  refine jr_bipush (v := 7) dX6_takeOver_64 (by decide) ?_
  obtain ⟨n78, f80, e82, n79, f81, e83, e84, e85, e86, e87, e88, k⟩ := k
  refine jr_copyiE jl_X6_44 dX6_takeOver_66 e82 e83 e84 e85 e86 e87 e88 (Nat.le_of_ble_eq_true rfl) (fun h89 eh90 => ?_)
  have k := k h89 eh90
  refine jr_aload_n 1 dX6_takeOver_69 rfl rfl ?_
  obtain ⟨fs91, e92, v94, e93, k⟩ := k
  refine jr_get jf_X6_21 dX6_takeOver_70 e92 e93 ?_
  refine jr_iconst (v := 0) dX6_takeOver_73 (by decide) ?_
  refine jr_aload_n 0 dX6_takeOver_74 rfl rfl ?_
  obtain ⟨fs95, e96, v98, e97, k⟩ := k
  refine jr_get jf_X6_21 dX6_takeOver_75 e96 e97 ?_
  refine jr_iconst (v := 0) dX6_takeOver_78 (by decide) ?_
  refine jr_bipush (v := 7) dX6_takeOver_79 (by decide) ?_
  obtain ⟨n99, f101, e103, n100, f102, e104, e105, e106, e107, e108, e109, k⟩ := k
  refine jr_copyiE jl_X6_44 dX6_takeOver_81 e103 e104 e105 e106 e107 e108 e109 (Nat.le_of_ble_eq_true rfl) (fun h110 eh111 => ?_)
  have k := k h110 eh111
  refine jr_aload_n 1 dX6_takeOver_84 rfl rfl ?_
  obtain ⟨fs112, e113, v115, e114, k⟩ := k
  refine jr_get jf_X6_24 dX6_takeOver_85 e113 e114 ?_
  refine jr_iconst (v := 0) dX6_takeOver_88 (by decide) ?_
  refine jr_aload_n 0 dX6_takeOver_89 rfl rfl ?_
  obtain ⟨fs116, e117, v119, e118, k⟩ := k
  refine jr_get jf_X6_24 dX6_takeOver_90 e117 e118 ?_
  refine jr_iconst (v := 0) dX6_takeOver_93 (by decide) ?_
  refine jr_bipush (v := 7) dX6_takeOver_94 (by decide) ?_
  obtain ⟨n120, f122, e124, n121, f123, e125, e126, e127, e128, e129, e130, k⟩ := k
  refine jr_copyiE jl_X6_44 dX6_takeOver_96 e124 e125 e126 e127 e128 e129 e130 (Nat.le_of_ble_eq_true rfl) (fun h131 eh132 => ?_)
  have k := k h131 eh132
  refine jr_aload_n 1 dX6_takeOver_99 rfl rfl ?_
  obtain ⟨fs133, e134, v136, e135, k⟩ := k
  refine jr_get jf_X6_27 dX6_takeOver_100 e134 e135 ?_
  refine jr_iconst (v := 0) dX6_takeOver_103 (by decide) ?_
  refine jr_aload_n 0 dX6_takeOver_104 rfl rfl ?_
  obtain ⟨fs137, e138, v140, e139, k⟩ := k
  refine jr_get jf_X6_27 dX6_takeOver_105 e138 e139 ?_
  refine jr_iconst (v := 0) dX6_takeOver_108 (by decide) ?_
  refine jr_bipush (v := 7) dX6_takeOver_109 (by decide) ?_
  obtain ⟨n141, f143, e145, n142, f144, e146, e147, e148, e149, e150, e151, k⟩ := k
  refine jr_copyiE jl_X6_44 dX6_takeOver_111 e145 e146 e147 e148 e149 e150 e151 (Nat.le_of_ble_eq_true rfl) (fun h152 eh153 => ?_)
  have k := k h152 eh153
  exact jr_vret rfl dX6_takeOver_114 k
set_option maxRecDepth 20000 in
theorem bX6_isLike_0 {g : jG} {d : Nat} {hs : jH} {P : jO → jH → Prop} {x0 : Nat} {x1 : Nat} {h : jH} (k : ∃ fs1 : List Value, h.1 x0 = some (.inr (6, fs1)) ∧ ∃ v4 : Int32, fs1[0]? = some (.int v4) ∧ ∃ fs5 : List Value, h.1 x1 = some (.inr (6, fs5)) ∧ ∃ v8 : Int32, fs5[0]? = some (.int v8) ∧ (v4 = v8 → ∃ fs9 : List Value, h.1 x0 = some (.inr (6, fs9)) ∧ ∃ v12 : Int32, fs9[1]? = some (.int v12) ∧ ∃ fs13 : List Value, h.1 x1 = some (.inr (6, fs13)) ∧ ∃ v16 : Int32, fs13[1]? = some (.int v16) ∧ (v12 = v16 → ∃ fs17 : List Value, h.1 x0 = some (.inr (6, fs17)) ∧ ∃ v20 : Int32, fs17[2]? = some (.int v20) ∧ ∃ fs21 : List Value, h.1 x1 = some (.inr (6, fs21)) ∧ ∃ v24 : Int32, fs21[2]? = some (.int v24) ∧ (v20 = v24 → J g mX6_isLike (d + 1) hs P 41 [(0, .ref x0), (1, .ref x1), (2, .int 1), (3, .int 0)] [] h) ∧ (¬ v20 = v24 → J g mX6_isLike (d + 1) hs P 41 [(0, .ref x0), (1, .ref x1), (2, .int 0), (3, .int 0)] [] h)) ∧ (¬ v12 = v16 → J g mX6_isLike (d + 1) hs P 41 [(0, .ref x0), (1, .ref x1), (2, .int 0), (3, .int 0)] [] h)) ∧ (¬ v4 = v8 → J g mX6_isLike (d + 1) hs P 41 [(0, .ref x0), (1, .ref x1), (2, .int 0), (3, .int 0)] [] h)) : J g mX6_isLike (d + 1) hs P 0 [(0, .ref x0), (1, .ref x1)] [] h := by
  refine jr_aload_n 0 dX6_isLike_0 rfl rfl ?_
  obtain ⟨fs1, e2, v4, e3, k⟩ := k
  refine jr_get jf_X6_30 dX6_isLike_1 e2 e3 ?_
  refine jr_aload_n 1 dX6_isLike_4 rfl rfl ?_
  obtain ⟨fs5, e6, v8, e7, k⟩ := k
  refine jr_get jf_X6_30 dX6_isLike_5 e6 e7 ?_
  refine jr_icmp_ne (tgt := 37) dX6_isLike_8 (by decide) (fun c8 => ?_) (fun c8 => ?_)
  · have k := k.2 c8
    refine jr_iconst (v := 0) dX6_isLike_37 (by decide) ?_
    refine jr_istore_n (lv' := [(2, .int 0), (0, .ref x0), (1, .ref x1)]) dX6_isLike_38 rfl (by decide) rfl ?_
    refine jr_iconst (v := 0) dX6_isLike_39 (by decide) ?_
    refine jr_istore_n (lv' := [(3, .int 0), (2, .int 0), (0, .ref x0), (1, .ref x1)]) dX6_isLike_40 rfl (by decide) rfl ?_
    exact jr_sub [2, 3, 1, 0] rfl k
  · have k := k.1 c8
    refine jr_aload_n 0 dX6_isLike_11 rfl rfl ?_
    obtain ⟨fs9, e10, v12, e11, k⟩ := k
    refine jr_get jf_X6_38 dX6_isLike_12 e10 e11 ?_
    refine jr_aload_n 1 dX6_isLike_15 rfl rfl ?_
    obtain ⟨fs13, e14, v16, e15, k⟩ := k
    refine jr_get jf_X6_38 dX6_isLike_16 e14 e15 ?_
    refine jr_icmp_ne (tgt := 37) dX6_isLike_19 (by decide) (fun c19 => ?_) (fun c19 => ?_)
    · have k := k.2 c19
      refine jr_iconst (v := 0) dX6_isLike_37 (by decide) ?_
      refine jr_istore_n (lv' := [(2, .int 0), (0, .ref x0), (1, .ref x1)]) dX6_isLike_38 rfl (by decide) rfl ?_
      refine jr_iconst (v := 0) dX6_isLike_39 (by decide) ?_
      refine jr_istore_n (lv' := [(3, .int 0), (2, .int 0), (0, .ref x0), (1, .ref x1)]) dX6_isLike_40 rfl (by decide) rfl ?_
      exact jr_sub [2, 3, 1, 0] rfl k
    · have k := k.1 c19
      refine jr_aload_n 0 dX6_isLike_22 rfl rfl ?_
      obtain ⟨fs17, e18, v20, e19, k⟩ := k
      refine jr_get jf_X6_41 dX6_isLike_23 e18 e19 ?_
      refine jr_aload_n 1 dX6_isLike_26 rfl rfl ?_
      obtain ⟨fs21, e22, v24, e23, k⟩ := k
      refine jr_get jf_X6_41 dX6_isLike_27 e22 e23 ?_
      refine jr_icmp_ne (tgt := 37) dX6_isLike_30 (by decide) (fun c30 => ?_) (fun c30 => ?_)
      · have k := k.2 c30
        refine jr_iconst (v := 0) dX6_isLike_37 (by decide) ?_
        refine jr_istore_n (lv' := [(2, .int 0), (0, .ref x0), (1, .ref x1)]) dX6_isLike_38 rfl (by decide) rfl ?_
        refine jr_iconst (v := 0) dX6_isLike_39 (by decide) ?_
        refine jr_istore_n (lv' := [(3, .int 0), (2, .int 0), (0, .ref x0), (1, .ref x1)]) dX6_isLike_40 rfl (by decide) rfl ?_
        exact jr_sub [2, 3, 1, 0] rfl k
      · have k := k.1 c30
        refine jr_iconst (v := 1) dX6_isLike_33 (by decide) ?_
        refine jr_goto (tgt := 38) dX6_isLike_34 (by decide) ?_
        refine jr_istore_n (lv' := [(2, .int 1), (0, .ref x0), (1, .ref x1)]) dX6_isLike_38 rfl (by decide) rfl ?_
        refine jr_iconst (v := 0) dX6_isLike_39 (by decide) ?_
        refine jr_istore_n (lv' := [(3, .int 0), (2, .int 1), (0, .ref x0), (1, .ref x1)]) dX6_isLike_40 rfl (by decide) rfl ?_
        exact jr_sub [2, 3, 1, 0] rfl k
set_option maxRecDepth 20000 in
theorem bX6_isLike_41 {g : jG} {d : Nat} {hs : jH} {P : jO → jH → Prop} {x0 : Nat} {x1 : Nat} {x2 : Int32} {x3 : Int32} {h : jH} (k : (x3 < 7 → (x2 = 0 → (x2 = 0 ∨ x2 = 1) ∧ P (.inl (some (.int x2))) h) ∧ (¬ x2 = 0 → ∃ fs1 : List Value, h.1 x0 = some (.inr (6, fs1)) ∧ ∃ v4 : Nat, fs1[3]? = some (.ref v4) ∧ ∃ (n5 : Nat) (f6 : Nat → Int32), h.1 v4 = some (.inl (0, (n5, .inl f6))) ∧ vp_in x3 n5 ∧ ∃ fs9 : List Value, h.1 x1 = some (.inr (6, fs9)) ∧ ∃ v12 : Nat, fs9[3]? = some (.ref v12) ∧ ∃ (n13 : Nat) (f14 : Nat → Int32), h.1 v12 = some (.inl (0, (n13, .inl f14))) ∧ vp_in x3 n13 ∧ ((f6 x3.toNatClampNeg) = (f14 x3.toNatClampNeg) → ∃ fs17 : List Value, h.1 x0 = some (.inr (6, fs17)) ∧ ∃ v20 : Nat, fs17[4]? = some (.ref v20) ∧ ∃ (n21 : Nat) (f22 : Nat → Int32), h.1 v20 = some (.inl (0, (n21, .inl f22))) ∧ vp_in x3 n21 ∧ ∃ fs25 : List Value, h.1 x1 = some (.inr (6, fs25)) ∧ ∃ v28 : Nat, fs25[4]? = some (.ref v28) ∧ ∃ (n29 : Nat) (f30 : Nat → Int32), h.1 v28 = some (.inl (0, (n29, .inl f30))) ∧ vp_in x3 n29 ∧ ((f22 x3.toNatClampNeg) = (f30 x3.toNatClampNeg) → ∃ fs33 : List Value, h.1 x0 = some (.inr (6, fs33)) ∧ ∃ v36 : Nat, fs33[5]? = some (.ref v36) ∧ ∃ (n37 : Nat) (f38 : Nat → Int32), h.1 v36 = some (.inl (0, (n37, .inl f38))) ∧ vp_in x3 n37 ∧ ∃ fs41 : List Value, h.1 x1 = some (.inr (6, fs41)) ∧ ∃ v44 : Nat, fs41[5]? = some (.ref v44) ∧ ∃ (n45 : Nat) (f46 : Nat → Int32), h.1 v44 = some (.inl (0, (n45, .inl f46))) ∧ vp_in x3 n45 ∧ ((f38 x3.toNatClampNeg) = (f46 x3.toNatClampNeg) → ∃ fs49 : List Value, h.1 x0 = some (.inr (6, fs49)) ∧ ∃ v52 : Nat, fs49[6]? = some (.ref v52) ∧ ∃ (n53 : Nat) (f54 : Nat → Int32), h.1 v52 = some (.inl (0, (n53, .inl f54))) ∧ vp_in x3 n53 ∧ ∃ fs57 : List Value, h.1 x1 = some (.inr (6, fs57)) ∧ ∃ v60 : Nat, fs57[6]? = some (.ref v60) ∧ ∃ (n61 : Nat) (f62 : Nat → Int32), h.1 v60 = some (.inl (0, (n61, .inl f62))) ∧ vp_in x3 n61 ∧ ((f54 x3.toNatClampNeg) = (f62 x3.toNatClampNeg) → ∃ fs65 : List Value, h.1 x0 = some (.inr (6, fs65)) ∧ ∃ v68 : Nat, fs65[7]? = some (.ref v68) ∧ ∃ (n69 : Nat) (f70 : Nat → Int32), h.1 v68 = some (.inl (0, (n69, .inl f70))) ∧ vp_in x3 n69 ∧ ∃ fs73 : List Value, h.1 x1 = some (.inr (6, fs73)) ∧ ∃ v76 : Nat, fs73[7]? = some (.ref v76) ∧ ∃ (n77 : Nat) (f78 : Nat → Int32), h.1 v76 = some (.inl (0, (n77, .inl f78))) ∧ vp_in x3 n77 ∧ ((f70 x3.toNatClampNeg) = (f78 x3.toNatClampNeg) → ∃ fs81 : List Value, h.1 x0 = some (.inr (6, fs81)) ∧ ∃ v84 : Nat, fs81[8]? = some (.ref v84) ∧ ∃ (n85 : Nat) (f86 : Nat → Int32), h.1 v84 = some (.inl (0, (n85, .inl f86))) ∧ vp_in x3 n85 ∧ ∃ fs89 : List Value, h.1 x1 = some (.inr (6, fs89)) ∧ ∃ v92 : Nat, fs89[8]? = some (.ref v92) ∧ ∃ (n93 : Nat) (f94 : Nat → Int32), h.1 v92 = some (.inl (0, (n93, .inl f94))) ∧ vp_in x3 n93 ∧ ((f86 x3.toNatClampNeg) = (f94 x3.toNatClampNeg) → J g mX6_isLike (d + 1) hs P 41 [(0, .ref x0), (1, .ref x1), (2, .int 1), (3, .int (x3 + 1))] [] h) ∧ (¬ (f86 x3.toNatClampNeg) = (f94 x3.toNatClampNeg) → J g mX6_isLike (d + 1) hs P 41 [(0, .ref x0), (1, .ref x1), (2, .int 0), (3, .int (x3 + 1))] [] h)) ∧ (¬ (f70 x3.toNatClampNeg) = (f78 x3.toNatClampNeg) → J g mX6_isLike (d + 1) hs P 41 [(0, .ref x0), (1, .ref x1), (2, .int 0), (3, .int (x3 + 1))] [] h)) ∧ (¬ (f54 x3.toNatClampNeg) = (f62 x3.toNatClampNeg) → J g mX6_isLike (d + 1) hs P 41 [(0, .ref x0), (1, .ref x1), (2, .int 0), (3, .int (x3 + 1))] [] h)) ∧ (¬ (f38 x3.toNatClampNeg) = (f46 x3.toNatClampNeg) → J g mX6_isLike (d + 1) hs P 41 [(0, .ref x0), (1, .ref x1), (2, .int 0), (3, .int (x3 + 1))] [] h)) ∧ (¬ (f22 x3.toNatClampNeg) = (f30 x3.toNatClampNeg) → J g mX6_isLike (d + 1) hs P 41 [(0, .ref x0), (1, .ref x1), (2, .int 0), (3, .int (x3 + 1))] [] h)) ∧ (¬ (f6 x3.toNatClampNeg) = (f14 x3.toNatClampNeg) → J g mX6_isLike (d + 1) hs P 41 [(0, .ref x0), (1, .ref x1), (2, .int 0), (3, .int (x3 + 1))] [] h))) ∧ (¬ x3 < 7 → (x2 = 0 ∨ x2 = 1) ∧ P (.inl (some (.int x2))) h)) : J g mX6_isLike (d + 1) hs P 41 [(0, .ref x0), (1, .ref x1), (2, .int x2), (3, .int x3)] [] h := by
  refine jr_iload_n 3 dX6_isLike_41 rfl rfl ?_
  refine jr_bipush (v := 7) dX6_isLike_42 (by decide) ?_
  refine jr_icmp_ge (tgt := 153) dX6_isLike_44 (by decide) (fun c44 => ?_) (fun c44 => ?_)
  · have k := k.2 c44
    refine jr_iload_n 2 dX6_isLike_153 rfl rfl ?_
    exact jr_iret (ty := .boolean) rfl (jz_n k.1) dX6_isLike_154 k.2
  · have k := k.1 c44
    refine jr_iload_n 2 dX6_isLike_47 rfl rfl ?_
    refine jr_if_eq (tgt := 153) dX6_isLike_48 (by decide) (fun c48 => ?_) (fun c48 => ?_)
    · have k := k.1 c48
      refine jr_iload_n 2 dX6_isLike_153 rfl rfl ?_
      exact jr_iret (ty := .boolean) rfl (jz_n k.1) dX6_isLike_154 k.2
    · have k := k.2 c48
      refine jr_aload_n 0 dX6_isLike_51 rfl rfl ?_
      obtain ⟨fs1, e2, v4, e3, k⟩ := k
      refine jr_get jf_X6_9 dX6_isLike_52 e2 e3 ?_
      refine jr_iload_n 3 dX6_isLike_55 rfl rfl ?_
      obtain ⟨n5, f6, e7, e8, k⟩ := k
      refine jr_iald dX6_isLike_56 e7 e8 ?_
      refine jr_aload_n 1 dX6_isLike_57 rfl rfl ?_
      obtain ⟨fs9, e10, v12, e11, k⟩ := k
      refine jr_get jf_X6_9 dX6_isLike_58 e10 e11 ?_
      refine jr_iload_n 3 dX6_isLike_61 rfl rfl ?_
      obtain ⟨n13, f14, e15, e16, k⟩ := k
      refine jr_iald dX6_isLike_62 e15 e16 ?_
      refine jr_icmp_ne (tgt := 145) dX6_isLike_63 (by decide) (fun c63 => ?_) (fun c63 => ?_)
      · have k := k.2 c63
        refine jr_iconst (v := 0) dX6_isLike_145 (by decide) ?_
        refine jr_istore_n (lv' := [(2, .int 0), (0, .ref x0), (1, .ref x1), (3, .int x3)]) dX6_isLike_146 rfl (by decide) rfl ?_
        refine jr_iinc (v := (x3 + 1)) (lv' := [(3, .int (x3 + 1)), (2, .int 0), (0, .ref x0), (1, .ref x1)]) 3 dX6_isLike_147 rfl rfl (by decide) rfl ?_
        refine jr_goto (tgt := 41) dX6_isLike_150 (by decide) ?_
        exact jr_sub [2, 3, 1, 0] rfl k
      · have k := k.1 c63
        refine jr_aload_n 0 dX6_isLike_66 rfl rfl ?_
        obtain ⟨fs17, e18, v20, e19, k⟩ := k
        refine jr_get jf_X6_15 dX6_isLike_67 e18 e19 ?_
        refine jr_iload_n 3 dX6_isLike_70 rfl rfl ?_
        obtain ⟨n21, f22, e23, e24, k⟩ := k
        refine jr_iald dX6_isLike_71 e23 e24 ?_
        refine jr_aload_n 1 dX6_isLike_72 rfl rfl ?_
        obtain ⟨fs25, e26, v28, e27, k⟩ := k
        refine jr_get jf_X6_15 dX6_isLike_73 e26 e27 ?_
        refine jr_iload_n 3 dX6_isLike_76 rfl rfl ?_
        obtain ⟨n29, f30, e31, e32, k⟩ := k
        refine jr_iald dX6_isLike_77 e31 e32 ?_
        refine jr_icmp_ne (tgt := 145) dX6_isLike_78 (by decide) (fun c78 => ?_) (fun c78 => ?_)
        · have k := k.2 c78
          refine jr_iconst (v := 0) dX6_isLike_145 (by decide) ?_
          refine jr_istore_n (lv' := [(2, .int 0), (0, .ref x0), (1, .ref x1), (3, .int x3)]) dX6_isLike_146 rfl (by decide) rfl ?_
          refine jr_iinc (v := (x3 + 1)) (lv' := [(3, .int (x3 + 1)), (2, .int 0), (0, .ref x0), (1, .ref x1)]) 3 dX6_isLike_147 rfl rfl (by decide) rfl ?_
          refine jr_goto (tgt := 41) dX6_isLike_150 (by decide) ?_
          exact jr_sub [2, 3, 1, 0] rfl k
        · have k := k.1 c78
          refine jr_aload_n 0 dX6_isLike_81 rfl rfl ?_
          obtain ⟨fs33, e34, v36, e35, k⟩ := k
          refine jr_get jf_X6_18 dX6_isLike_82 e34 e35 ?_
          refine jr_iload_n 3 dX6_isLike_85 rfl rfl ?_
          obtain ⟨n37, f38, e39, e40, k⟩ := k
          refine jr_iald dX6_isLike_86 e39 e40 ?_
          refine jr_aload_n 1 dX6_isLike_87 rfl rfl ?_
          obtain ⟨fs41, e42, v44, e43, k⟩ := k
          refine jr_get jf_X6_18 dX6_isLike_88 e42 e43 ?_
          refine jr_iload_n 3 dX6_isLike_91 rfl rfl ?_
          obtain ⟨n45, f46, e47, e48, k⟩ := k
          refine jr_iald dX6_isLike_92 e47 e48 ?_
          refine jr_icmp_ne (tgt := 145) dX6_isLike_93 (by decide) (fun c93 => ?_) (fun c93 => ?_)
          · have k := k.2 c93
            refine jr_iconst (v := 0) dX6_isLike_145 (by decide) ?_
            refine jr_istore_n (lv' := [(2, .int 0), (0, .ref x0), (1, .ref x1), (3, .int x3)]) dX6_isLike_146 rfl (by decide) rfl ?_
            refine jr_iinc (v := (x3 + 1)) (lv' := [(3, .int (x3 + 1)), (2, .int 0), (0, .ref x0), (1, .ref x1)]) 3 dX6_isLike_147 rfl rfl (by decide) rfl ?_
            refine jr_goto (tgt := 41) dX6_isLike_150 (by decide) ?_
            exact jr_sub [2, 3, 1, 0] rfl k
          · have k := k.1 c93
            refine jr_aload_n 0 dX6_isLike_96 rfl rfl ?_
            obtain ⟨fs49, e50, v52, e51, k⟩ := k
            refine jr_get jf_X6_21 dX6_isLike_97 e50 e51 ?_
            refine jr_iload_n 3 dX6_isLike_100 rfl rfl ?_
            obtain ⟨n53, f54, e55, e56, k⟩ := k
            refine jr_iald dX6_isLike_101 e55 e56 ?_
            refine jr_aload_n 1 dX6_isLike_102 rfl rfl ?_
            obtain ⟨fs57, e58, v60, e59, k⟩ := k
            refine jr_get jf_X6_21 dX6_isLike_103 e58 e59 ?_
            refine jr_iload_n 3 dX6_isLike_106 rfl rfl ?_
            obtain ⟨n61, f62, e63, e64, k⟩ := k
            refine jr_iald dX6_isLike_107 e63 e64 ?_
            refine jr_icmp_ne (tgt := 145) dX6_isLike_108 (by decide) (fun c108 => ?_) (fun c108 => ?_)
            · have k := k.2 c108
              refine jr_iconst (v := 0) dX6_isLike_145 (by decide) ?_
              refine jr_istore_n (lv' := [(2, .int 0), (0, .ref x0), (1, .ref x1), (3, .int x3)]) dX6_isLike_146 rfl (by decide) rfl ?_
              refine jr_iinc (v := (x3 + 1)) (lv' := [(3, .int (x3 + 1)), (2, .int 0), (0, .ref x0), (1, .ref x1)]) 3 dX6_isLike_147 rfl rfl (by decide) rfl ?_
              refine jr_goto (tgt := 41) dX6_isLike_150 (by decide) ?_
              exact jr_sub [2, 3, 1, 0] rfl k
            · have k := k.1 c108
              refine jr_aload_n 0 dX6_isLike_111 rfl rfl ?_
              obtain ⟨fs65, e66, v68, e67, k⟩ := k
              refine jr_get jf_X6_24 dX6_isLike_112 e66 e67 ?_
              refine jr_iload_n 3 dX6_isLike_115 rfl rfl ?_
              obtain ⟨n69, f70, e71, e72, k⟩ := k
              refine jr_iald dX6_isLike_116 e71 e72 ?_
              refine jr_aload_n 1 dX6_isLike_117 rfl rfl ?_
              obtain ⟨fs73, e74, v76, e75, k⟩ := k
              refine jr_get jf_X6_24 dX6_isLike_118 e74 e75 ?_
              refine jr_iload_n 3 dX6_isLike_121 rfl rfl ?_
              obtain ⟨n77, f78, e79, e80, k⟩ := k
              refine jr_iald dX6_isLike_122 e79 e80 ?_
              refine jr_icmp_ne (tgt := 145) dX6_isLike_123 (by decide) (fun c123 => ?_) (fun c123 => ?_)
              · have k := k.2 c123
                refine jr_iconst (v := 0) dX6_isLike_145 (by decide) ?_
                refine jr_istore_n (lv' := [(2, .int 0), (0, .ref x0), (1, .ref x1), (3, .int x3)]) dX6_isLike_146 rfl (by decide) rfl ?_
                refine jr_iinc (v := (x3 + 1)) (lv' := [(3, .int (x3 + 1)), (2, .int 0), (0, .ref x0), (1, .ref x1)]) 3 dX6_isLike_147 rfl rfl (by decide) rfl ?_
                refine jr_goto (tgt := 41) dX6_isLike_150 (by decide) ?_
                exact jr_sub [2, 3, 1, 0] rfl k
              · have k := k.1 c123
                refine jr_aload_n 0 dX6_isLike_126 rfl rfl ?_
                obtain ⟨fs81, e82, v84, e83, k⟩ := k
                refine jr_get jf_X6_27 dX6_isLike_127 e82 e83 ?_
                refine jr_iload_n 3 dX6_isLike_130 rfl rfl ?_
                obtain ⟨n85, f86, e87, e88, k⟩ := k
                refine jr_iald dX6_isLike_131 e87 e88 ?_
                refine jr_aload_n 1 dX6_isLike_132 rfl rfl ?_
                obtain ⟨fs89, e90, v92, e91, k⟩ := k
                refine jr_get jf_X6_27 dX6_isLike_133 e90 e91 ?_
                refine jr_iload_n 3 dX6_isLike_136 rfl rfl ?_
                obtain ⟨n93, f94, e95, e96, k⟩ := k
                refine jr_iald dX6_isLike_137 e95 e96 ?_
                refine jr_icmp_ne (tgt := 145) dX6_isLike_138 (by decide) (fun c138 => ?_) (fun c138 => ?_)
                · have k := k.2 c138
                  refine jr_iconst (v := 0) dX6_isLike_145 (by decide) ?_
                  refine jr_istore_n (lv' := [(2, .int 0), (0, .ref x0), (1, .ref x1), (3, .int x3)]) dX6_isLike_146 rfl (by decide) rfl ?_
                  refine jr_iinc (v := (x3 + 1)) (lv' := [(3, .int (x3 + 1)), (2, .int 0), (0, .ref x0), (1, .ref x1)]) 3 dX6_isLike_147 rfl rfl (by decide) rfl ?_
                  refine jr_goto (tgt := 41) dX6_isLike_150 (by decide) ?_
                  exact jr_sub [2, 3, 1, 0] rfl k
                · have k := k.1 c138
                  refine jr_iconst (v := 1) dX6_isLike_141 (by decide) ?_
                  refine jr_goto (tgt := 146) dX6_isLike_142 (by decide) ?_
                  refine jr_istore_n (lv' := [(2, .int 1), (0, .ref x0), (1, .ref x1), (3, .int x3)]) dX6_isLike_146 rfl (by decide) rfl ?_
                  refine jr_iinc (v := (x3 + 1)) (lv' := [(3, .int (x3 + 1)), (2, .int 1), (0, .ref x0), (1, .ref x1)]) 3 dX6_isLike_147 rfl rfl (by decide) rfl ?_
                  refine jr_goto (tgt := 41) dX6_isLike_150 (by decide) ?_
                  exact jr_sub [2, 3, 1, 0] rfl k
set_option maxRecDepth 20000 in
theorem bX6_sum_0 {g : jG} {d : Nat} {hs : jH} {P : jO → jH → Prop} {x0 : Nat} {x1 : Nat} {h : jH} (k : J g mX6_sum (d + 1) hs P 4 [(0, .ref x0), (1, .ref x1), (2, .int 0), (3, .int 0)] [] h) : J g mX6_sum (d + 1) hs P 0 [(0, .ref x0), (1, .ref x1)] [] h := by
  refine jr_iconst (v := 0) dX6_sum_0 (by decide) ?_
  refine jr_istore_n (lv' := [(2, .int 0), (0, .ref x0), (1, .ref x1)]) dX6_sum_1 rfl (by decide) rfl ?_
  refine jr_iconst (v := 0) dX6_sum_2 (by decide) ?_
  refine jr_istore_n (lv' := [(3, .int 0), (2, .int 0), (0, .ref x0), (1, .ref x1)]) dX6_sum_3 rfl (by decide) rfl ?_
  exact jr_sub [2, 3, 1, 0] rfl k
set_option maxRecDepth 20000 in
theorem bX6_sum_4 {g : jG} {d : Nat} {hs : jH} {P : jO → jH → Prop} {x0 : Nat} {x1 : Nat} {x2 : Int32} {x3 : Int32} {h : jH} (k : ∃ fs1 : List Value, h.1 x0 = some (.inr (6, fs1)) ∧ ∃ v4 : Int32, fs1[0]? = some (.int v4) ∧ (x3 < v4 → ∃ (t5 : Nat) (z6 : vp_A), h.1 x1 = some (.inl (t5, z6)) ∧ (∃ ty9 : FieldType, jTy t5 = some ty9) ∧ (x3 < (nI z6.1) → ∃ (n10 : Nat) (f11 : Nat → Int32), h.1 x1 = some (.inl (0, (n10, .inl f11))) ∧ vp_in x3 n10 ∧ J g mX6_sum (d + 1) hs P 4 [(0, .ref x0), (1, .ref x1), (2, .int (x2 + (f11 x3.toNatClampNeg))), (3, .int (x3 + 1))] [] h) ∧ (¬ x3 < (nI z6.1) → P (.inl (some (.int x2))) h)) ∧ (¬ x3 < v4 → P (.inl (some (.int x2))) h)) : J g mX6_sum (d + 1) hs P 4 [(0, .ref x0), (1, .ref x1), (2, .int x2), (3, .int x3)] [] h := by
  refine jr_iload_n 3 dX6_sum_4 rfl rfl ?_
  refine jr_aload_n 0 dX6_sum_5 rfl rfl ?_
  obtain ⟨fs1, e2, v4, e3, k⟩ := k
  refine jr_get jf_X6_30 dX6_sum_6 e2 e3 ?_
  refine jr_icmp_ge (tgt := 30) dX6_sum_9 (by decide) (fun c9 => ?_) (fun c9 => ?_)
  · have k := k.2 c9
    refine jr_iload_n 2 dX6_sum_30 rfl rfl ?_
    exact jr_iret (ty := .int) rfl rfl dX6_sum_31 k
  · have k := k.1 c9
    refine jr_iload_n 3 dX6_sum_12 rfl rfl ?_
    refine jr_aload_n 1 dX6_sum_13 rfl rfl ?_
    obtain ⟨t5, z6, e7, ⟨ty9, e8⟩, k⟩ := k
    refine jr_alen (v := nI z6.1) dX6_sum_14 e8 e7 rfl ?_
    refine jr_icmp_ge (tgt := 30) dX6_sum_15 (by decide) (fun c15 => ?_) (fun c15 => ?_)
    · have k := k.2 c15
      refine jr_iload_n 2 dX6_sum_30 rfl rfl ?_
      exact jr_iret (ty := .int) rfl rfl dX6_sum_31 k
    · have k := k.1 c15
      refine jr_iload_n 2 dX6_sum_18 rfl rfl ?_
      refine jr_aload_n 1 dX6_sum_19 rfl rfl ?_
      refine jr_iload_n 3 dX6_sum_20 rfl rfl ?_
      obtain ⟨n10, f11, e12, e13, k⟩ := k
      refine jr_iald dX6_sum_21 e12 e13 ?_
      refine jr_iadd dX6_sum_22 ?_
      refine jr_istore_n (lv' := [(2, .int (x2 + (f11 x3.toNatClampNeg))), (0, .ref x0), (1, .ref x1), (3, .int x3)]) dX6_sum_23 rfl (by decide) rfl ?_
      refine jr_iinc (v := (x3 + 1)) (lv' := [(3, .int (x3 + 1)), (2, .int (x2 + (f11 x3.toNatClampNeg))), (0, .ref x0), (1, .ref x1)]) 3 dX6_sum_24 rfl rfl (by decide) rfl ?_
      refine jr_goto (tgt := 4) dX6_sum_27 (by decide) ?_
      exact jr_sub [2, 3, 1, 0] rfl k
set_option maxRecDepth 20000 in
theorem bX6_whyNoSwap_0 {g : jG} {d : Nat} {hs : jH} {P : jO → jH → Prop} {x0 : Nat} {x1 : Int32} {x2 : Int32} {h : jH} (k : ∃ fs3 : List Value, h.1 x0 = some (.inr (6, fs3)) ∧ Con g mX6_has d [.ref x0, .int x1] h (jPi (fun (r1 : Int32) (h2 : jH) => (r1 = 0 → P (.inl (some (.int 1))) h2) ∧ (¬ r1 = 0 → ∃ fs7 : List Value, h2.1 x0 = some (.inr (6, fs7)) ∧ Con g mX6_has d [.ref x0, .int x2] h2 (jPi (fun (r5 : Int32) (h6 : jH) => (r5 = 0 → P (.inl (some (.int 1))) h6) ∧ (¬ r5 = 0 → (x1 = x2 → P (.inl (some (.int 1))) h6) ∧ (¬ x1 = x2 → P (.inl (some (.int 0))) h6))) (fun E h' => P (.inr E) h')))) (fun E h' => P (.inr E) h'))) : J g mX6_whyNoSwap (d + 1) hs P 0 [(0, .ref x0), (1, .int x1), (2, .int x2)] [] h := by
  refine jr_aload_n 0 dX6_whyNoSwap_0 rfl rfl ?_
  refine jr_iload_n 1 dX6_whyNoSwap_1 rfl rfl ?_
  obtain ⟨fs3, e4, k⟩ := k
  refine jr_cVi (As := [.int x1]) jl_X6_34 km_X6_has rfl rfl dX6_whyNoSwap_2 e4 (Nat.le_of_ble_eq_true rfl) k (fun r1 h2 k => ?_)
  refine jr_if_eq (tgt := 25) dX6_whyNoSwap_5 (by decide) (fun c5 => ?_) (fun c5 => ?_)
  · have k := k.1 c5
    refine jr_iconst (v := 1) dX6_whyNoSwap_25 (by decide) ?_
    exact jr_iret (ty := .int) rfl rfl dX6_whyNoSwap_26 k
  · have k := k.2 c5
    refine jr_aload_n 0 dX6_whyNoSwap_8 rfl rfl ?_
    refine jr_iload_n 2 dX6_whyNoSwap_9 rfl rfl ?_
    obtain ⟨fs7, e8, k⟩ := k
    refine jr_cVi (As := [.int x2]) jl_X6_34 km_X6_has rfl rfl dX6_whyNoSwap_10 e8 (Nat.le_of_ble_eq_true rfl) k (fun r5 h6 k => ?_)
    refine jr_if_eq (tgt := 25) dX6_whyNoSwap_13 (by decide) (fun c13 => ?_) (fun c13 => ?_)
    · have k := k.1 c13
      refine jr_iconst (v := 1) dX6_whyNoSwap_25 (by decide) ?_
      exact jr_iret (ty := .int) rfl rfl dX6_whyNoSwap_26 k
    · have k := k.2 c13
      refine jr_iload_n 1 dX6_whyNoSwap_16 rfl rfl ?_
      refine jr_iload_n 2 dX6_whyNoSwap_17 rfl rfl ?_
      refine jr_icmp_eq (tgt := 25) dX6_whyNoSwap_18 (by decide) (fun c18 => ?_) (fun c18 => ?_)
      · have k := k.1 c18
        refine jr_iconst (v := 1) dX6_whyNoSwap_25 (by decide) ?_
        exact jr_iret (ty := .int) rfl rfl dX6_whyNoSwap_26 k
      · have k := k.2 c18
        refine jr_iconst (v := 0) dX6_whyNoSwap_21 (by decide) ?_
        refine jr_goto (tgt := 26) dX6_whyNoSwap_22 (by decide) ?_
        exact jr_iret (ty := .int) rfl rfl dX6_whyNoSwap_26 k
set_option maxRecDepth 20000 in
theorem bX6_whyNoGift_0 {g : jG} {d : Nat} {hs : jH} {P : jO → jH → Prop} {x0 : Nat} {x1 : Int32} {x2 : Int32} {x3 : Int32} {h : jH} (k : ∃ fs3 : List Value, h.1 x0 = some (.inr (6, fs3)) ∧ Con g mX6_has d [.ref x0, .int x1] h (jPi (fun (r1 : Int32) (h2 : jH) => (r1 = 0 → P (.inl (some (.int 1))) h2) ∧ (¬ r1 = 0 → ∃ fs7 : List Value, h2.1 x0 = some (.inr (6, fs7)) ∧ Con g mX6_has d [.ref x0, .int x2] h2 (jPi (fun (r5 : Int32) (h6 : jH) => (r5 = 0 → P (.inl (some (.int 1))) h6) ∧ (¬ r5 = 0 → (x1 = x2 → P (.inl (some (.int 1))) h6) ∧ (¬ x1 = x2 → ∃ fs11 : List Value, h6.1 x0 = some (.inr (6, fs11)) ∧ Con g mX6_isGone d [.ref x0, .int x1] h6 (jPi (fun (r9 : Int32) (h10 : jH) => (r9 = 0 → ∃ fs15 : List Value, h10.1 x0 = some (.inr (6, fs15)) ∧ Con g mX6_isGone d [.ref x0, .int x2] h10 (jPi (fun (r13 : Int32) (h14 : jH) => (r13 = 0 → ∃ fs17 : List Value, h14.1 x0 = some (.inr (6, fs17)) ∧ ∃ v20 : Nat, fs17[5]? = some (.ref v20) ∧ ∃ (n21 : Nat) (f22 : Nat → Int32), h14.1 v20 = some (.inl (0, (n21, .inl f22))) ∧ vp_in x1 n21 ∧ ((f22 x1.toNatClampNeg) < x3 → P (.inl (some (.int 3))) h14) ∧ (¬ (f22 x1.toNatClampNeg) < x3 → P (.inl (some (.int 0))) h14)) ∧ (¬ r13 = 0 → P (.inl (some (.int 2))) h14)) (fun E h' => P (.inr E) h'))) ∧ (¬ r9 = 0 → P (.inl (some (.int 2))) h10)) (fun E h' => P (.inr E) h'))))) (fun E h' => P (.inr E) h')))) (fun E h' => P (.inr E) h'))) : J g mX6_whyNoGift (d + 1) hs P 0 [(0, .ref x0), (1, .int x1), (2, .int x2), (3, .int x3)] [] h := by
  refine jr_aload_n 0 dX6_whyNoGift_0 rfl rfl ?_
  refine jr_iload_n 1 dX6_whyNoGift_1 rfl rfl ?_
  obtain ⟨fs3, e4, k⟩ := k
  refine jr_cVi (As := [.int x1]) jl_X6_34 km_X6_has rfl rfl dX6_whyNoGift_2 e4 (Nat.le_of_ble_eq_true rfl) k (fun r1 h2 k => ?_)
  refine jr_if_eq (tgt := 21) dX6_whyNoGift_5 (by decide) (fun c5 => ?_) (fun c5 => ?_)
  · have k := k.1 c5
    refine jr_iconst (v := 1) dX6_whyNoGift_21 (by decide) ?_
    exact jr_iret (ty := .int) rfl rfl dX6_whyNoGift_22 k
  · have k := k.2 c5
    refine jr_aload_n 0 dX6_whyNoGift_8 rfl rfl ?_
    refine jr_iload_n 2 dX6_whyNoGift_9 rfl rfl ?_
    obtain ⟨fs7, e8, k⟩ := k
    refine jr_cVi (As := [.int x2]) jl_X6_34 km_X6_has rfl rfl dX6_whyNoGift_10 e8 (Nat.le_of_ble_eq_true rfl) k (fun r5 h6 k => ?_)
    refine jr_if_eq (tgt := 21) dX6_whyNoGift_13 (by decide) (fun c13 => ?_) (fun c13 => ?_)
    · have k := k.1 c13
      refine jr_iconst (v := 1) dX6_whyNoGift_21 (by decide) ?_
      exact jr_iret (ty := .int) rfl rfl dX6_whyNoGift_22 k
    · have k := k.2 c13
      refine jr_iload_n 1 dX6_whyNoGift_16 rfl rfl ?_
      refine jr_iload_n 2 dX6_whyNoGift_17 rfl rfl ?_
      refine jr_icmp_ne (tgt := 23) dX6_whyNoGift_18 (by decide) (fun c18 => ?_) (fun c18 => ?_)
      · have k := k.2 c18
        refine jr_aload_n 0 dX6_whyNoGift_23 rfl rfl ?_
        refine jr_iload_n 1 dX6_whyNoGift_24 rfl rfl ?_
        obtain ⟨fs11, e12, k⟩ := k
        refine jr_cVi (As := [.int x1]) jl_X6_50 km_X6_isGone rfl rfl dX6_whyNoGift_25 e12 (Nat.le_of_ble_eq_true rfl) k (fun r9 h10 k => ?_)
        refine jr_if_ne (tgt := 39) dX6_whyNoGift_28 (by decide) (fun c28 => ?_) (fun c28 => ?_)
        · have k := k.2 c28
          refine jr_iconst (v := 2) dX6_whyNoGift_39 (by decide) ?_
          exact jr_iret (ty := .int) rfl rfl dX6_whyNoGift_40 k
        · have k := k.1 c28
          refine jr_aload_n 0 dX6_whyNoGift_31 rfl rfl ?_
          refine jr_iload_n 2 dX6_whyNoGift_32 rfl rfl ?_
          obtain ⟨fs15, e16, k⟩ := k
          refine jr_cVi (As := [.int x2]) jl_X6_50 km_X6_isGone rfl rfl dX6_whyNoGift_33 e16 (Nat.le_of_ble_eq_true rfl) k (fun r13 h14 k => ?_)
          refine jr_if_eq (tgt := 41) dX6_whyNoGift_36 (by decide) (fun c36 => ?_) (fun c36 => ?_)
          · have k := k.1 c36
            refine jr_aload_n 0 dX6_whyNoGift_41 rfl rfl ?_
            obtain ⟨fs17, e18, v20, e19, k⟩ := k
            refine jr_get jf_X6_18 dX6_whyNoGift_42 e18 e19 ?_
            refine jr_iload_n 1 dX6_whyNoGift_45 rfl rfl ?_
            obtain ⟨n21, f22, e23, e24, k⟩ := k
            refine jr_iald dX6_whyNoGift_46 e23 e24 ?_
            refine jr_iload_n 3 dX6_whyNoGift_47 rfl rfl ?_
            refine jr_icmp_ge (tgt := 55) dX6_whyNoGift_48 (by decide) (fun c48 => ?_) (fun c48 => ?_)
            · have k := k.2 c48
              refine jr_iconst (v := 0) dX6_whyNoGift_55 (by decide) ?_
              exact jr_iret (ty := .int) rfl rfl dX6_whyNoGift_56 k
            · have k := k.1 c48
              refine jr_iconst (v := 3) dX6_whyNoGift_51 (by decide) ?_
              refine jr_goto (tgt := 56) dX6_whyNoGift_52 (by decide) ?_
              exact jr_iret (ty := .int) rfl rfl dX6_whyNoGift_56 k
          · have k := k.2 c36
            refine jr_iconst (v := 2) dX6_whyNoGift_39 (by decide) ?_
            exact jr_iret (ty := .int) rfl rfl dX6_whyNoGift_40 k
      · have k := k.1 c18
        refine jr_iconst (v := 1) dX6_whyNoGift_21 (by decide) ?_
        exact jr_iret (ty := .int) rfl rfl dX6_whyNoGift_22 k
set_option maxRecDepth 20000 in
theorem bX6_whyNoPayOff_0 {g : jG} {d : Nat} {hs : jH} {P : jO → jH → Prop} {x0 : Nat} {x1 : Int32} {h : jH} (k : ∃ fs3 : List Value, h.1 x0 = some (.inr (6, fs3)) ∧ Con g mX6_has d [.ref x0, .int x1] h (jPi (fun (r1 : Int32) (h2 : jH) => (r1 = 0 → P (.inl (some (.int 1))) h2) ∧ (¬ r1 = 0 → ∃ fs7 : List Value, h2.1 x0 = some (.inr (6, fs7)) ∧ Con g mX6_isGone d [.ref x0, .int x1] h2 (jPi (fun (r5 : Int32) (h6 : jH) => (r5 = 0 → ∃ fs9 : List Value, h6.1 x0 = some (.inr (6, fs9)) ∧ ∃ v12 : Nat, fs9[5]? = some (.ref v12) ∧ ∃ (n13 : Nat) (f14 : Nat → Int32), h6.1 v12 = some (.inl (0, (n13, .inl f14))) ∧ vp_in x1 n13 ∧ ((f14 x1.toNatClampNeg) = 0 → P (.inl (some (.int 3))) h6) ∧ (¬ (f14 x1.toNatClampNeg) = 0 → ∃ fs17 : List Value, h6.1 x0 = some (.inr (6, fs17)) ∧ ∃ v20 : Nat, fs17[7]? = some (.ref v20) ∧ ∃ (n21 : Nat) (f22 : Nat → Int32), h6.1 v20 = some (.inl (0, (n21, .inl f22))) ∧ vp_in x1 n21 ∧ ((f22 x1.toNatClampNeg) = 0 → P (.inl (some (.int 3))) h6) ∧ (¬ (f22 x1.toNatClampNeg) = 0 → P (.inl (some (.int 0))) h6))) ∧ (¬ r5 = 0 → P (.inl (some (.int 2))) h6)) (fun E h' => P (.inr E) h')))) (fun E h' => P (.inr E) h'))) : J g mX6_whyNoPayOff (d + 1) hs P 0 [(0, .ref x0), (1, .int x1)] [] h := by
  refine jr_aload_n 0 dX6_whyNoPayOff_0 rfl rfl ?_
  refine jr_iload_n 1 dX6_whyNoPayOff_1 rfl rfl ?_
  obtain ⟨fs3, e4, k⟩ := k
  refine jr_cVi (As := [.int x1]) jl_X6_34 km_X6_has rfl rfl dX6_whyNoPayOff_2 e4 (Nat.le_of_ble_eq_true rfl) k (fun r1 h2 k => ?_)
  refine jr_if_ne (tgt := 10) dX6_whyNoPayOff_5 (by decide) (fun c5 => ?_) (fun c5 => ?_)
  · have k := k.2 c5
    refine jr_aload_n 0 dX6_whyNoPayOff_10 rfl rfl ?_
    refine jr_iload_n 1 dX6_whyNoPayOff_11 rfl rfl ?_
    obtain ⟨fs7, e8, k⟩ := k
    refine jr_cVi (As := [.int x1]) jl_X6_50 km_X6_isGone rfl rfl dX6_whyNoPayOff_12 e8 (Nat.le_of_ble_eq_true rfl) k (fun r5 h6 k => ?_)
    refine jr_if_eq (tgt := 20) dX6_whyNoPayOff_15 (by decide) (fun c15 => ?_) (fun c15 => ?_)
    · have k := k.1 c15
      refine jr_aload_n 0 dX6_whyNoPayOff_20 rfl rfl ?_
      obtain ⟨fs9, e10, v12, e11, k⟩ := k
      refine jr_get jf_X6_18 dX6_whyNoPayOff_21 e10 e11 ?_
      refine jr_iload_n 1 dX6_whyNoPayOff_24 rfl rfl ?_
      obtain ⟨n13, f14, e15, e16, k⟩ := k
      refine jr_iald dX6_whyNoPayOff_25 e15 e16 ?_
      refine jr_if_eq (tgt := 38) dX6_whyNoPayOff_26 (by decide) (fun c26 => ?_) (fun c26 => ?_)
      · have k := k.1 c26
        refine jr_iconst (v := 3) dX6_whyNoPayOff_38 (by decide) ?_
        refine jr_goto (tgt := 43) dX6_whyNoPayOff_39 (by decide) ?_
        exact jr_iret (ty := .int) rfl rfl dX6_whyNoPayOff_43 k
      · have k := k.2 c26
        refine jr_aload_n 0 dX6_whyNoPayOff_29 rfl rfl ?_
        obtain ⟨fs17, e18, v20, e19, k⟩ := k
        refine jr_get jf_X6_24 dX6_whyNoPayOff_30 e18 e19 ?_
        refine jr_iload_n 1 dX6_whyNoPayOff_33 rfl rfl ?_
        obtain ⟨n21, f22, e23, e24, k⟩ := k
        refine jr_iald dX6_whyNoPayOff_34 e23 e24 ?_
        refine jr_if_ne (tgt := 42) dX6_whyNoPayOff_35 (by decide) (fun c35 => ?_) (fun c35 => ?_)
        · have k := k.2 c35
          refine jr_iconst (v := 0) dX6_whyNoPayOff_42 (by decide) ?_
          exact jr_iret (ty := .int) rfl rfl dX6_whyNoPayOff_43 k
        · have k := k.1 c35
          refine jr_iconst (v := 3) dX6_whyNoPayOff_38 (by decide) ?_
          refine jr_goto (tgt := 43) dX6_whyNoPayOff_39 (by decide) ?_
          exact jr_iret (ty := .int) rfl rfl dX6_whyNoPayOff_43 k
    · have k := k.2 c15
      refine jr_iconst (v := 2) dX6_whyNoPayOff_18 (by decide) ?_
      exact jr_iret (ty := .int) rfl rfl dX6_whyNoPayOff_19 k
  · have k := k.1 c5
    refine jr_iconst (v := 1) dX6_whyNoPayOff_8 (by decide) ?_
    exact jr_iret (ty := .int) rfl rfl dX6_whyNoPayOff_9 k
set_option maxRecDepth 20000 in
theorem bX6_exchange_0 {g : jG} {d : Nat} {hs : jH} {P : jO → jH → Prop} {x0 : Nat} {x1 : Int32} {x2 : Int32} {h : jH} (k : ∃ fs3 : List Value, h.1 x0 = some (.inr (6, fs3)) ∧ Con g mX6_has d [.ref x0, .int x1] h (jPi (fun (r1 : Int32) (h2 : jH) => (r1 = 0 → P (.inl none) h2) ∧ (¬ r1 = 0 → ∃ fs7 : List Value, h2.1 x0 = some (.inr (6, fs7)) ∧ Con g mX6_has d [.ref x0, .int x2] h2 (jPi (fun (r5 : Int32) (h6 : jH) => (r5 = 0 → P (.inl none) h6) ∧ (¬ r5 = 0 → ∃ fs9 : List Value, h6.1 x0 = some (.inr (6, fs9)) ∧ ∃ v12 : Nat, fs9[3]? = some (.ref v12) ∧ ∃ fs15 : List Value, h6.1 x0 = some (.inr (6, fs15)) ∧ Con g mX6_exchangeIn d [.ref x0, .ref v12, .int x1, .int x2] h6 (jPv (fun (h14 : jH) => ∃ fs17 : List Value, h14.1 x0 = some (.inr (6, fs17)) ∧ ∃ v20 : Nat, fs17[4]? = some (.ref v20) ∧ ∃ fs23 : List Value, h14.1 x0 = some (.inr (6, fs23)) ∧ Con g mX6_exchangeIn d [.ref x0, .ref v20, .int x1, .int x2] h14 (jPv (fun (h22 : jH) => ∃ fs25 : List Value, h22.1 x0 = some (.inr (6, fs25)) ∧ ∃ v28 : Nat, fs25[5]? = some (.ref v28) ∧ ∃ fs31 : List Value, h22.1 x0 = some (.inr (6, fs31)) ∧ Con g mX6_exchangeIn d [.ref x0, .ref v28, .int x1, .int x2] h22 (jPv (fun (h30 : jH) => ∃ fs33 : List Value, h30.1 x0 = some (.inr (6, fs33)) ∧ ∃ v36 : Nat, fs33[6]? = some (.ref v36) ∧ ∃ fs39 : List Value, h30.1 x0 = some (.inr (6, fs39)) ∧ Con g mX6_exchangeIn d [.ref x0, .ref v36, .int x1, .int x2] h30 (jPv (fun (h38 : jH) => P (.inl none) h38) (fun E h' => P (.inr E) h'))) (fun E h' => P (.inr E) h'))) (fun E h' => P (.inr E) h'))) (fun E h' => P (.inr E) h')))) (fun E h' => P (.inr E) h')))) (fun E h' => P (.inr E) h'))) : J g mX6_exchange (d + 1) hs P 0 [(0, .ref x0), (1, .int x1), (2, .int x2)] [] h := by
  refine jr_aload_n 0 dX6_exchange_0 rfl rfl ?_
  refine jr_iload_n 1 dX6_exchange_1 rfl rfl ?_
  obtain ⟨fs3, e4, k⟩ := k
  refine jr_cVi (As := [.int x1]) jl_X6_34 km_X6_has rfl rfl dX6_exchange_2 e4 (Nat.le_of_ble_eq_true rfl) k (fun r1 h2 k => ?_)
  refine jr_if_eq (tgt := 56) dX6_exchange_5 (by decide) (fun c5 => ?_) (fun c5 => ?_)
  · have k := k.1 c5
    exact jr_vret rfl dX6_exchange_56 k
  · have k := k.2 c5
    refine jr_aload_n 0 dX6_exchange_8 rfl rfl ?_
    refine jr_iload_n 2 dX6_exchange_9 rfl rfl ?_
    obtain ⟨fs7, e8, k⟩ := k
    refine jr_cVi (As := [.int x2]) jl_X6_34 km_X6_has rfl rfl dX6_exchange_10 e8 (Nat.le_of_ble_eq_true rfl) k (fun r5 h6 k => ?_)
    refine jr_if_eq (tgt := 56) dX6_exchange_13 (by decide) (fun c13 => ?_) (fun c13 => ?_)
    · have k := k.1 c13
      exact jr_vret rfl dX6_exchange_56 k
    · have k := k.2 c13
      refine jr_aload_n 0 dX6_exchange_16 rfl rfl ?_
      refine jr_aload_n 0 dX6_exchange_17 rfl rfl ?_
      obtain ⟨fs9, e10, v12, e11, k⟩ := k
      refine jr_get jf_X6_9 dX6_exchange_18 e10 e11 ?_
      refine jr_iload_n 1 dX6_exchange_21 rfl rfl ?_
      refine jr_iload_n 2 dX6_exchange_22 rfl rfl ?_
      obtain ⟨fs15, e16, k⟩ := k
      refine jr_cVv (As := [.ref v12, .int x1, .int x2]) jl_X6_53 km_X6_exchangeIn rfl rfl dX6_exchange_23 e16 (Nat.le_of_ble_eq_true rfl) k (fun h14 k => ?_)
      refine jr_aload_n 0 dX6_exchange_26 rfl rfl ?_
      refine jr_aload_n 0 dX6_exchange_27 rfl rfl ?_
      obtain ⟨fs17, e18, v20, e19, k⟩ := k
      refine jr_get jf_X6_15 dX6_exchange_28 e18 e19 ?_
      refine jr_iload_n 1 dX6_exchange_31 rfl rfl ?_
      refine jr_iload_n 2 dX6_exchange_32 rfl rfl ?_
      obtain ⟨fs23, e24, k⟩ := k
      refine jr_cVv (As := [.ref v20, .int x1, .int x2]) jl_X6_53 km_X6_exchangeIn rfl rfl dX6_exchange_33 e24 (Nat.le_of_ble_eq_true rfl) k (fun h22 k => ?_)
      refine jr_aload_n 0 dX6_exchange_36 rfl rfl ?_
      refine jr_aload_n 0 dX6_exchange_37 rfl rfl ?_
      obtain ⟨fs25, e26, v28, e27, k⟩ := k
      refine jr_get jf_X6_18 dX6_exchange_38 e26 e27 ?_
      refine jr_iload_n 1 dX6_exchange_41 rfl rfl ?_
      refine jr_iload_n 2 dX6_exchange_42 rfl rfl ?_
      obtain ⟨fs31, e32, k⟩ := k
      refine jr_cVv (As := [.ref v28, .int x1, .int x2]) jl_X6_53 km_X6_exchangeIn rfl rfl dX6_exchange_43 e32 (Nat.le_of_ble_eq_true rfl) k (fun h30 k => ?_)
      refine jr_aload_n 0 dX6_exchange_46 rfl rfl ?_
      refine jr_aload_n 0 dX6_exchange_47 rfl rfl ?_
      obtain ⟨fs33, e34, v36, e35, k⟩ := k
      refine jr_get jf_X6_21 dX6_exchange_48 e34 e35 ?_
      refine jr_iload_n 1 dX6_exchange_51 rfl rfl ?_
      refine jr_iload_n 2 dX6_exchange_52 rfl rfl ?_
      obtain ⟨fs39, e40, k⟩ := k
      refine jr_cVv (As := [.ref v36, .int x1, .int x2]) jl_X6_53 km_X6_exchangeIn rfl rfl dX6_exchange_53 e40 (Nat.le_of_ble_eq_true rfl) k (fun h38 k => ?_)
      exact jr_vret rfl dX6_exchange_56 k
set_option maxRecDepth 20000 in
theorem bX6_exchangeIn_0 {g : jG} {d : Nat} {hs : jH} {P : jO → jH → Prop} {x0 : Nat} {x1 : Nat} {x2 : Int32} {x3 : Int32} {h : jH} (k : ∃ (n1 : Nat) (f2 : Nat → Int32), h.1 x1 = some (.inl (0, (n1, .inl f2))) ∧ vp_in x2 n1 ∧ ∃ (n5 : Nat) (f6 : Nat → Int32), h.1 x1 = some (.inl (0, (n5, .inl f6))) ∧ vp_in x3 n5 ∧ ∃ (n9 : Nat) (f10 : Nat → Int32), h.1 x1 = some (.inl (0, (n9, .inl f10))) ∧ vp_in x2 n9 ∧ ∀ h13 : jH, h13 = jset h x1 (.inl (0, (n9, .inl (upd f10 x2.toNatClampNeg ((f6 x3.toNatClampNeg)))))) → ∃ (n15 : Nat) (f16 : Nat → Int32), h13.1 x1 = some (.inl (0, (n15, .inl f16))) ∧ vp_in x3 n15 ∧ ∀ h19 : jH, h19 = jset h13 x1 (.inl (0, (n15, .inl (upd f16 x3.toNatClampNeg ((f2 x2.toNatClampNeg)))))) → P (.inl none) h19) : J g mX6_exchangeIn (d + 1) hs P 0 [(0, .ref x0), (1, .ref x1), (2, .int x2), (3, .int x3)] [] h := by
  refine jr_aload_n 1 dX6_exchangeIn_0 rfl rfl ?_
  refine jr_iload_n 2 dX6_exchangeIn_1 rfl rfl ?_
  obtain ⟨n1, f2, e3, e4, k⟩ := k
  refine jr_iald dX6_exchangeIn_2 e3 e4 ?_
  refine jr_istore (lv' := [(4, .int (f2 x2.toNatClampNeg)), (0, .ref x0), (1, .ref x1), (2, .int x2), (3, .int x3)]) dX6_exchangeIn_3 (by decide) rfl ?_
  refine jr_aload_n 2 dX6_exchangeIn_5 rfl rfl ?_
  refine jr_iload_n 3 dX6_exchangeIn_6 rfl rfl ?_
  refine jr_aload_n 2 dX6_exchangeIn_7 rfl rfl ?_
  refine jr_iload_n 4 dX6_exchangeIn_8 rfl rfl ?_
  obtain ⟨n5, f6, e7, e8, k⟩ := k
  refine jr_iald dX6_exchangeIn_9 e7 e8 ?_
  obtain ⟨n9, f10, e11, e12, k⟩ := k
  refine jr_iastE dX6_exchangeIn_10 e11 e12 (fun h13 eh14 => ?_)
  have k := k h13 eh14
  refine jr_aload_n 2 dX6_exchangeIn_11 rfl rfl ?_
  refine jr_iload_n 4 dX6_exchangeIn_12 rfl rfl ?_
  refine jr_iload 0 dX6_exchangeIn_13 rfl ?_
  obtain ⟨n15, f16, e17, e18, k⟩ := k
  refine jr_iastE dX6_exchangeIn_15 e17 e18 (fun h19 eh20 => ?_)
  have k := k h19 eh20
  exact jr_vret rfl dX6_exchangeIn_16 k
set_option maxRecDepth 20000 in
theorem bX6_give_0 {g : jG} {d : Nat} {hs : jH} {P : jO → jH → Prop} {x0 : Nat} {x1 : Int32} {x2 : Int32} {x3 : Int32} {h : jH} (k : ∃ fs3 : List Value, h.1 x0 = some (.inr (6, fs3)) ∧ Con g mX6_has d [.ref x0, .int x1] h (jPi (fun (r1 : Int32) (h2 : jH) => (r1 = 0 → P (.inl none) h2) ∧ (¬ r1 = 0 → ∃ fs7 : List Value, h2.1 x0 = some (.inr (6, fs7)) ∧ Con g mX6_has d [.ref x0, .int x2] h2 (jPi (fun (r5 : Int32) (h6 : jH) => (r5 = 0 → P (.inl none) h6) ∧ (¬ r5 = 0 → ∃ fs9 : List Value, h6.1 x0 = some (.inr (6, fs9)) ∧ ∃ v12 : Nat, fs9[5]? = some (.ref v12) ∧ ∃ (n13 : Nat) (f14 : Nat → Int32), h6.1 v12 = some (.inl (0, (n13, .inl f14))) ∧ vp_in x1 n13 ∧ ∃ (n17 : Nat) (f18 : Nat → Int32), h6.1 v12 = some (.inl (0, (n17, .inl f18))) ∧ vp_in x1 n17 ∧ ∀ h21 : jH, h21 = jset h6 v12 (.inl (0, (n17, .inl (upd f18 x1.toNatClampNeg (((f14 x1.toNatClampNeg) - x3)))))) → ∃ fs23 : List Value, h21.1 x0 = some (.inr (6, fs23)) ∧ ∃ v26 : Nat, fs23[5]? = some (.ref v26) ∧ ∃ fs27 : List Value, h21.1 x0 = some (.inr (6, fs27)) ∧ ∃ v30 : Nat, fs27[5]? = some (.ref v30) ∧ ∃ (n31 : Nat) (f32 : Nat → Int32), h21.1 v30 = some (.inl (0, (n31, .inl f32))) ∧ vp_in x2 n31 ∧ ∃ (n35 : Nat) (f36 : Nat → Int32), h21.1 v26 = some (.inl (0, (n35, .inl f36))) ∧ vp_in x2 n35 ∧ ∀ h39 : jH, h39 = jset h21 v26 (.inl (0, (n35, .inl (upd f36 x2.toNatClampNeg ((jmin (((f32 x2.toNatClampNeg) + x3)) 999999)))))) → P (.inl none) h39)) (fun E h' => P (.inr E) h')))) (fun E h' => P (.inr E) h'))) : J g mX6_give (d + 1) hs P 0 [(0, .ref x0), (1, .int x1), (2, .int x2), (3, .int x3)] [] h := by
  refine jr_aload_n 0 dX6_give_0 rfl rfl ?_
  refine jr_iload_n 1 dX6_give_1 rfl rfl ?_
  obtain ⟨fs3, e4, k⟩ := k
  refine jr_cVi (As := [.int x1]) jl_X6_34 km_X6_has rfl rfl dX6_give_2 e4 (Nat.le_of_ble_eq_true rfl) k (fun r1 h2 k => ?_)
  refine jr_if_eq (tgt := 45) dX6_give_5 (by decide) (fun c5 => ?_) (fun c5 => ?_)
  · have k := k.1 c5
    exact jr_vret rfl dX6_give_45 k
  · have k := k.2 c5
    refine jr_aload_n 0 dX6_give_8 rfl rfl ?_
    refine jr_iload_n 2 dX6_give_9 rfl rfl ?_
    obtain ⟨fs7, e8, k⟩ := k
    refine jr_cVi (As := [.int x2]) jl_X6_34 km_X6_has rfl rfl dX6_give_10 e8 (Nat.le_of_ble_eq_true rfl) k (fun r5 h6 k => ?_)
    refine jr_if_eq (tgt := 45) dX6_give_13 (by decide) (fun c13 => ?_) (fun c13 => ?_)
    · have k := k.1 c13
      exact jr_vret rfl dX6_give_45 k
    · have k := k.2 c13
      refine jr_aload_n 0 dX6_give_16 rfl rfl ?_
      obtain ⟨fs9, e10, v12, e11, k⟩ := k
      refine jr_get jf_X6_18 dX6_give_17 e10 e11 ?_
      refine jr_iload_n 1 dX6_give_20 rfl rfl ?_
      refine jr_dup2 dX6_give_21 rfl rfl ?_
      obtain ⟨n13, f14, e15, e16, k⟩ := k
      refine jr_iald dX6_give_22 e15 e16 ?_
      refine jr_iload_n 3 dX6_give_23 rfl rfl ?_
      refine jr_isub dX6_give_24 ?_
      obtain ⟨n17, f18, e19, e20, k⟩ := k
      refine jr_iastE dX6_give_25 e19 e20 (fun h21 eh22 => ?_)
      have k := k h21 eh22
      refine jr_aload_n 0 dX6_give_26 rfl rfl ?_
      obtain ⟨fs23, e24, v26, e25, k⟩ := k
      refine jr_get jf_X6_18 dX6_give_27 e24 e25 ?_
      refine jr_iload_n 2 dX6_give_30 rfl rfl ?_
      refine jr_aload_n 0 dX6_give_31 rfl rfl ?_
      obtain ⟨fs27, e28, v30, e29, k⟩ := k
      refine jr_get jf_X6_18 dX6_give_32 e28 e29 ?_
      refine jr_iload_n 2 dX6_give_35 rfl rfl ?_
      obtain ⟨n31, f32, e33, e34, k⟩ := k
      refine jr_iald dX6_give_36 e33 e34 ?_
      refine jr_iload_n 3 dX6_give_37 rfl rfl ?_
      refine jr_iadd dX6_give_38 ?_
      refine jr_ldc (v := 999999) jk_X6_57 dX6_give_39 ?_
      refine jr_mmin jl_X6_58 dX6_give_41 (Nat.le_of_ble_eq_true rfl) ?_
      obtain ⟨n35, f36, e37, e38, k⟩ := k
      refine jr_iastE dX6_give_44 e37 e38 (fun h39 eh40 => ?_)
      have k := k h39 eh40
      exact jr_vret rfl dX6_give_45 k
set_option maxRecDepth 20000 in
theorem bX6_payBack_0 {g : jG} {d : Nat} {hs : jH} {P : jO → jH → Prop} {x0 : Nat} {x1 : Int32} {x2 : Int32} {h : jH} (k : ∃ fs3 : List Value, h.1 x0 = some (.inr (6, fs3)) ∧ Con g mX6_has d [.ref x0, .int x1] h (jPi (fun (r1 : Int32) (h2 : jH) => (r1 = 0 → P (.inl (some (.int 0))) h2) ∧ (¬ r1 = 0 → ∃ fs5 : List Value, h2.1 x0 = some (.inr (6, fs5)) ∧ ∃ v8 : Nat, fs5[5]? = some (.ref v8) ∧ ∃ (n9 : Nat) (f10 : Nat → Int32), h2.1 v8 = some (.inl (0, (n9, .inl f10))) ∧ vp_in x1 n9 ∧ ∃ fs13 : List Value, h2.1 x0 = some (.inr (6, fs13)) ∧ ∃ v16 : Nat, fs13[7]? = some (.ref v16) ∧ ∃ (n17 : Nat) (f18 : Nat → Int32), h2.1 v16 = some (.inl (0, (n17, .inl f18))) ∧ vp_in x1 n17 ∧ ∃ fs21 : List Value, h2.1 x0 = some (.inr (6, fs21)) ∧ ∃ v24 : Nat, fs21[5]? = some (.ref v24) ∧ ∃ (n25 : Nat) (f26 : Nat → Int32), h2.1 v24 = some (.inl (0, (n25, .inl f26))) ∧ vp_in x1 n25 ∧ ∃ (n29 : Nat) (f30 : Nat → Int32), h2.1 v24 = some (.inl (0, (n29, .inl f30))) ∧ vp_in x1 n29 ∧ ∀ h33 : jH, h33 = jset h2 v24 (.inl (0, (n29, .inl (upd f30 x1.toNatClampNeg (((f26 x1.toNatClampNeg) - (jmin x2 ((jmin ((f10 x1.toNatClampNeg)) ((f18 x1.toNatClampNeg))))))))))) → ∃ fs35 : List Value, h33.1 x0 = some (.inr (6, fs35)) ∧ ∃ v38 : Nat, fs35[7]? = some (.ref v38) ∧ ∃ (n39 : Nat) (f40 : Nat → Int32), h33.1 v38 = some (.inl (0, (n39, .inl f40))) ∧ vp_in x1 n39 ∧ ∃ (n43 : Nat) (f44 : Nat → Int32), h33.1 v38 = some (.inl (0, (n43, .inl f44))) ∧ vp_in x1 n43 ∧ ∀ h47 : jH, h47 = jset h33 v38 (.inl (0, (n43, .inl (upd f44 x1.toNatClampNeg (((f40 x1.toNatClampNeg) - (jmin x2 ((jmin ((f10 x1.toNatClampNeg)) ((f18 x1.toNatClampNeg))))))))))) → P (.inl (some (.int ((jmin x2 ((jmin ((f10 x1.toNatClampNeg)) ((f18 x1.toNatClampNeg))))))))) h47)) (fun E h' => P (.inr E) h'))) : J g mX6_payBack (d + 1) hs P 0 [(0, .ref x0), (1, .int x1), (2, .int x2)] [] h := by
  refine jr_aload_n 0 dX6_payBack_0 rfl rfl ?_
  refine jr_iload_n 1 dX6_payBack_1 rfl rfl ?_
  obtain ⟨fs3, e4, k⟩ := k
  refine jr_cVi (As := [.int x1]) jl_X6_34 km_X6_has rfl rfl dX6_payBack_2 e4 (Nat.le_of_ble_eq_true rfl) k (fun r1 h2 k => ?_)
  refine jr_if_ne (tgt := 10) dX6_payBack_5 (by decide) (fun c5 => ?_) (fun c5 => ?_)
  · have k := k.2 c5
    refine jr_iload_n 2 dX6_payBack_10 rfl rfl ?_
    refine jr_aload_n 0 dX6_payBack_11 rfl rfl ?_
    obtain ⟨fs5, e6, v8, e7, k⟩ := k
    refine jr_get jf_X6_18 dX6_payBack_12 e6 e7 ?_
    refine jr_iload_n 1 dX6_payBack_15 rfl rfl ?_
    obtain ⟨n9, f10, e11, e12, k⟩ := k
    refine jr_iald dX6_payBack_16 e11 e12 ?_
    refine jr_aload_n 0 dX6_payBack_17 rfl rfl ?_
    obtain ⟨fs13, e14, v16, e15, k⟩ := k
    refine jr_get jf_X6_24 dX6_payBack_18 e14 e15 ?_
    refine jr_iload_n 1 dX6_payBack_21 rfl rfl ?_
    obtain ⟨n17, f18, e19, e20, k⟩ := k
    refine jr_iald dX6_payBack_22 e19 e20 ?_
    refine jr_mmin jl_X6_58 dX6_payBack_23 (Nat.le_of_ble_eq_true rfl) ?_
    refine jr_mmin jl_X6_58 dX6_payBack_26 (Nat.le_of_ble_eq_true rfl) ?_
    refine jr_istore_n (lv' := [(3, .int (jmin x2 ((jmin ((f10 x1.toNatClampNeg)) ((f18 x1.toNatClampNeg)))))), (0, .ref x0), (1, .int x1), (2, .int x2)]) dX6_payBack_29 rfl (by decide) rfl ?_
    refine jr_aload_n 1 dX6_payBack_30 rfl rfl ?_
    obtain ⟨fs21, e22, v24, e23, k⟩ := k
    refine jr_get jf_X6_18 dX6_payBack_31 e22 e23 ?_
    refine jr_iload_n 2 dX6_payBack_34 rfl rfl ?_
    refine jr_dup2 dX6_payBack_35 rfl rfl ?_
    obtain ⟨n25, f26, e27, e28, k⟩ := k
    refine jr_iald dX6_payBack_36 e27 e28 ?_
    refine jr_iload_n 0 dX6_payBack_37 rfl rfl ?_
    refine jr_isub dX6_payBack_38 ?_
    obtain ⟨n29, f30, e31, e32, k⟩ := k
    refine jr_iastE dX6_payBack_39 e31 e32 (fun h33 eh34 => ?_)
    have k := k h33 eh34
    refine jr_aload_n 1 dX6_payBack_40 rfl rfl ?_
    obtain ⟨fs35, e36, v38, e37, k⟩ := k
    refine jr_get jf_X6_24 dX6_payBack_41 e36 e37 ?_
    refine jr_iload_n 2 dX6_payBack_44 rfl rfl ?_
    refine jr_dup2 dX6_payBack_45 rfl rfl ?_
    obtain ⟨n39, f40, e41, e42, k⟩ := k
    refine jr_iald dX6_payBack_46 e41 e42 ?_
    refine jr_iload_n 0 dX6_payBack_47 rfl rfl ?_
    refine jr_isub dX6_payBack_48 ?_
    obtain ⟨n43, f44, e45, e46, k⟩ := k
    refine jr_iastE dX6_payBack_49 e45 e46 (fun h47 eh48 => ?_)
    have k := k h47 eh48
    refine jr_iload_n 0 dX6_payBack_50 rfl rfl ?_
    exact jr_iret (ty := .int) rfl rfl dX6_payBack_51 k
  · have k := k.1 c5
    refine jr_iconst (v := 0) dX6_payBack_8 (by decide) ?_
    exact jr_iret (ty := .int) rfl rfl dX6_payBack_9 k
set_option maxRecDepth 20000 in
theorem bX6_ruin_0 {g : jG} {d : Nat} {hs : jH} {P : jO → jH → Prop} {x0 : Nat} {x1 : Int32} {h : jH} (k : ∃ fs3 : List Value, h.1 x0 = some (.inr (6, fs3)) ∧ Con g mX6_has d [.ref x0, .int x1] h (jPi (fun (r1 : Int32) (h2 : jH) => (r1 = 0 → P (.inl none) h2) ∧ (¬ r1 = 0 → ∃ fs5 : List Value, h2.1 x0 = some (.inr (6, fs5)) ∧ ∃ v8 : Nat, fs5[6]? = some (.ref v8) ∧ ∃ (n9 : Nat) (f10 : Nat → Int32), h2.1 v8 = some (.inl (0, (n9, .inl f10))) ∧ vp_in x1 n9 ∧ ∀ h13 : jH, h13 = jset h2 v8 (.inl (0, (n9, .inl (upd f10 x1.toNatClampNeg 1)))) → ∃ fs15 : List Value, h13.1 x0 = some (.inr (6, fs15)) ∧ ∃ v18 : Nat, fs15[5]? = some (.ref v18) ∧ ∃ (n19 : Nat) (f20 : Nat → Int32), h13.1 v18 = some (.inl (0, (n19, .inl f20))) ∧ vp_in x1 n19 ∧ ∀ h23 : jH, h23 = jset h13 v18 (.inl (0, (n19, .inl (upd f20 x1.toNatClampNeg 0)))) → P (.inl none) h23)) (fun E h' => P (.inr E) h'))) : J g mX6_ruin (d + 1) hs P 0 [(0, .ref x0), (1, .int x1)] [] h := by
  refine jr_aload_n 0 dX6_ruin_0 rfl rfl ?_
  refine jr_iload_n 1 dX6_ruin_1 rfl rfl ?_
  obtain ⟨fs3, e4, k⟩ := k
  refine jr_cVi (As := [.int x1]) jl_X6_34 km_X6_has rfl rfl dX6_ruin_2 e4 (Nat.le_of_ble_eq_true rfl) k (fun r1 h2 k => ?_)
  refine jr_if_eq (tgt := 22) dX6_ruin_5 (by decide) (fun c5 => ?_) (fun c5 => ?_)
  · have k := k.1 c5
    exact jr_vret rfl dX6_ruin_22 k
  · have k := k.2 c5
    refine jr_aload_n 0 dX6_ruin_8 rfl rfl ?_
    obtain ⟨fs5, e6, v8, e7, k⟩ := k
    refine jr_get jf_X6_21 dX6_ruin_9 e6 e7 ?_
    refine jr_iload_n 1 dX6_ruin_12 rfl rfl ?_
    refine jr_iconst (v := 1) dX6_ruin_13 (by decide) ?_
    obtain ⟨n9, f10, e11, e12, k⟩ := k
    refine jr_iastE dX6_ruin_14 e11 e12 (fun h13 eh14 => ?_)
    have k := k h13 eh14
    refine jr_aload_n 0 dX6_ruin_15 rfl rfl ?_
    obtain ⟨fs15, e16, v18, e17, k⟩ := k
    refine jr_get jf_X6_18 dX6_ruin_16 e16 e17 ?_
    refine jr_iload_n 1 dX6_ruin_19 rfl rfl ?_
    refine jr_iconst (v := 0) dX6_ruin_20 (by decide) ?_
    obtain ⟨n19, f20, e21, e22, k⟩ := k
    refine jr_iastE dX6_ruin_21 e21 e22 (fun h23 eh24 => ?_)
    have k := k h23 eh24
    exact jr_vret rfl dX6_ruin_22 k
set_option maxRecDepth 20000 in
theorem bX6_moveIn_0 {g : jG} {d : Nat} {hs : jH} {P : jO → jH → Prop} {x0 : Nat} {x1 : Nat} {x2 : Int32} {x3 : Int32} {h : jH} (k : ∃ fs3 : List Value, h.1 x0 = some (.inr (6, fs3)) ∧ Con g mX6_has d [.ref x0, .int x3] h (jPi (fun (r1 : Int32) (h2 : jH) => (r1 = 0 → P (.inl none) h2) ∧ (¬ r1 = 0 → ∃ fs7 : List Value, h2.1 x1 = some (.inr (6, fs7)) ∧ Con g mX6_has d [.ref x1, .int x2] h2 (jPi (fun (r5 : Int32) (h6 : jH) => (r5 = 0 → P (.inl none) h6) ∧ (¬ r5 = 0 → ∃ fs9 : List Value, h6.1 x0 = some (.inr (6, fs9)) ∧ ∃ v12 : Nat, fs9[3]? = some (.ref v12) ∧ ∃ fs13 : List Value, h6.1 x1 = some (.inr (6, fs13)) ∧ ∃ v16 : Nat, fs13[3]? = some (.ref v16) ∧ ∃ (n17 : Nat) (f18 : Nat → Int32), h6.1 v16 = some (.inl (0, (n17, .inl f18))) ∧ vp_in x2 n17 ∧ ∃ (n21 : Nat) (f22 : Nat → Int32), h6.1 v12 = some (.inl (0, (n21, .inl f22))) ∧ vp_in x3 n21 ∧ ∀ h25 : jH, h25 = jset h6 v12 (.inl (0, (n21, .inl (upd f22 x3.toNatClampNeg ((f18 x2.toNatClampNeg)))))) → ∃ fs27 : List Value, h25.1 x0 = some (.inr (6, fs27)) ∧ ∃ v30 : Nat, fs27[4]? = some (.ref v30) ∧ ∃ fs31 : List Value, h25.1 x1 = some (.inr (6, fs31)) ∧ ∃ v34 : Nat, fs31[4]? = some (.ref v34) ∧ ∃ (n35 : Nat) (f36 : Nat → Int32), h25.1 v34 = some (.inl (0, (n35, .inl f36))) ∧ vp_in x2 n35 ∧ ∃ (n39 : Nat) (f40 : Nat → Int32), h25.1 v30 = some (.inl (0, (n39, .inl f40))) ∧ vp_in x3 n39 ∧ ∀ h43 : jH, h43 = jset h25 v30 (.inl (0, (n39, .inl (upd f40 x3.toNatClampNeg ((f36 x2.toNatClampNeg)))))) → ∃ fs45 : List Value, h43.1 x0 = some (.inr (6, fs45)) ∧ ∃ v48 : Nat, fs45[5]? = some (.ref v48) ∧ ∃ fs49 : List Value, h43.1 x1 = some (.inr (6, fs49)) ∧ ∃ v52 : Nat, fs49[5]? = some (.ref v52) ∧ ∃ (n53 : Nat) (f54 : Nat → Int32), h43.1 v52 = some (.inl (0, (n53, .inl f54))) ∧ vp_in x2 n53 ∧ ∃ (n57 : Nat) (f58 : Nat → Int32), h43.1 v48 = some (.inl (0, (n57, .inl f58))) ∧ vp_in x3 n57 ∧ ∀ h61 : jH, h61 = jset h43 v48 (.inl (0, (n57, .inl (upd f58 x3.toNatClampNeg ((f54 x2.toNatClampNeg)))))) → ∃ fs63 : List Value, h61.1 x0 = some (.inr (6, fs63)) ∧ ∃ v66 : Nat, fs63[6]? = some (.ref v66) ∧ ∃ fs67 : List Value, h61.1 x1 = some (.inr (6, fs67)) ∧ ∃ v70 : Nat, fs67[6]? = some (.ref v70) ∧ ∃ (n71 : Nat) (f72 : Nat → Int32), h61.1 v70 = some (.inl (0, (n71, .inl f72))) ∧ vp_in x2 n71 ∧ ∃ (n75 : Nat) (f76 : Nat → Int32), h61.1 v66 = some (.inl (0, (n75, .inl f76))) ∧ vp_in x3 n75 ∧ ∀ h79 : jH, h79 = jset h61 v66 (.inl (0, (n75, .inl (upd f76 x3.toNatClampNeg ((f72 x2.toNatClampNeg)))))) → P (.inl none) h79)) (fun E h' => P (.inr E) h')))) (fun E h' => P (.inr E) h'))) : J g mX6_moveIn (d + 1) hs P 0 [(0, .ref x0), (1, .ref x1), (2, .int x2), (3, .int x3)] [] h := by
  refine jr_aload_n 0 dX6_moveIn_0 rfl rfl ?_
  refine jr_iload_n 3 dX6_moveIn_1 rfl rfl ?_
  obtain ⟨fs3, e4, k⟩ := k
  refine jr_cVi (As := [.int x3]) jl_X6_34 km_X6_has rfl rfl dX6_moveIn_2 e4 (Nat.le_of_ble_eq_true rfl) k (fun r1 h2 k => ?_)
  refine jr_if_eq (tgt := 64) dX6_moveIn_5 (by decide) (fun c5 => ?_) (fun c5 => ?_)
  · have k := k.1 c5
    exact jr_vret rfl dX6_moveIn_64 k
  · have k := k.2 c5
    refine jr_aload_n 1 dX6_moveIn_8 rfl rfl ?_
    refine jr_iload_n 2 dX6_moveIn_9 rfl rfl ?_
    obtain ⟨fs7, e8, k⟩ := k
    refine jr_cVi (As := [.int x2]) jl_X6_34 km_X6_has rfl rfl dX6_moveIn_10 e8 (Nat.le_of_ble_eq_true rfl) k (fun r5 h6 k => ?_)
    refine jr_if_eq (tgt := 64) dX6_moveIn_13 (by decide) (fun c13 => ?_) (fun c13 => ?_)
    · have k := k.1 c13
      exact jr_vret rfl dX6_moveIn_64 k
    · have k := k.2 c13
      refine jr_aload_n 0 dX6_moveIn_16 rfl rfl ?_
      obtain ⟨fs9, e10, v12, e11, k⟩ := k
      refine jr_get jf_X6_9 dX6_moveIn_17 e10 e11 ?_
      refine jr_iload_n 3 dX6_moveIn_20 rfl rfl ?_
      refine jr_aload_n 1 dX6_moveIn_21 rfl rfl ?_
      obtain ⟨fs13, e14, v16, e15, k⟩ := k
      refine jr_get jf_X6_9 dX6_moveIn_22 e14 e15 ?_
      refine jr_iload_n 2 dX6_moveIn_25 rfl rfl ?_
      obtain ⟨n17, f18, e19, e20, k⟩ := k
      refine jr_iald dX6_moveIn_26 e19 e20 ?_
      obtain ⟨n21, f22, e23, e24, k⟩ := k
      refine jr_iastE dX6_moveIn_27 e23 e24 (fun h25 eh26 => ?_)
      have k := k h25 eh26
      refine jr_aload_n 0 dX6_moveIn_28 rfl rfl ?_
      obtain ⟨fs27, e28, v30, e29, k⟩ := k
      refine jr_get jf_X6_15 dX6_moveIn_29 e28 e29 ?_
      refine jr_iload_n 3 dX6_moveIn_32 rfl rfl ?_
      refine jr_aload_n 1 dX6_moveIn_33 rfl rfl ?_
      obtain ⟨fs31, e32, v34, e33, k⟩ := k
      refine jr_get jf_X6_15 dX6_moveIn_34 e32 e33 ?_
      refine jr_iload_n 2 dX6_moveIn_37 rfl rfl ?_
      obtain ⟨n35, f36, e37, e38, k⟩ := k
      refine jr_iald dX6_moveIn_38 e37 e38 ?_
      obtain ⟨n39, f40, e41, e42, k⟩ := k
      refine jr_iastE dX6_moveIn_39 e41 e42 (fun h43 eh44 => ?_)
      have k := k h43 eh44
      refine jr_aload_n 0 dX6_moveIn_40 rfl rfl ?_
      obtain ⟨fs45, e46, v48, e47, k⟩ := k
      refine jr_get jf_X6_18 dX6_moveIn_41 e46 e47 ?_
      refine jr_iload_n 3 dX6_moveIn_44 rfl rfl ?_
      refine jr_aload_n 1 dX6_moveIn_45 rfl rfl ?_
      obtain ⟨fs49, e50, v52, e51, k⟩ := k
      refine jr_get jf_X6_18 dX6_moveIn_46 e50 e51 ?_
      refine jr_iload_n 2 dX6_moveIn_49 rfl rfl ?_
      obtain ⟨n53, f54, e55, e56, k⟩ := k
      refine jr_iald dX6_moveIn_50 e55 e56 ?_
      obtain ⟨n57, f58, e59, e60, k⟩ := k
      refine jr_iastE dX6_moveIn_51 e59 e60 (fun h61 eh62 => ?_)
      have k := k h61 eh62
      refine jr_aload_n 0 dX6_moveIn_52 rfl rfl ?_
      obtain ⟨fs63, e64, v66, e65, k⟩ := k
      refine jr_get jf_X6_21 dX6_moveIn_53 e64 e65 ?_
      refine jr_iload_n 3 dX6_moveIn_56 rfl rfl ?_
      refine jr_aload_n 1 dX6_moveIn_57 rfl rfl ?_
      obtain ⟨fs67, e68, v70, e69, k⟩ := k
      refine jr_get jf_X6_21 dX6_moveIn_58 e68 e69 ?_
      refine jr_iload_n 2 dX6_moveIn_61 rfl rfl ?_
      obtain ⟨n71, f72, e73, e74, k⟩ := k
      refine jr_iald dX6_moveIn_62 e73 e74 ?_
      obtain ⟨n75, f76, e77, e78, k⟩ := k
      refine jr_iastE dX6_moveIn_63 e77 e78 (fun h79 eh80 => ?_)
      have k := k h79 eh80
      exact jr_vret rfl dX6_moveIn_64 k
