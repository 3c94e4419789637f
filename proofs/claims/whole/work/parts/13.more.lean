theorem kw_maxL_s : Cond.static Lib.MathLoose.max_long.x ∈ lw_tbl := jw_in 1737 (by decide +kernel)
theorem kw_maxL_c : Cond.code Lib.MathLoose.max_long.x Lib.MathLoose.max_long.code 4 (some .long) ∈ lw_tbl := jw_in 1738 (by decide +kernel)
theorem kw_minL_s : Cond.static Lib.MathLoose.min_long.x ∈ lw_tbl := jw_in 1734 (by decide +kernel)
theorem kw_minL_c : Cond.code Lib.MathLoose.min_long.x Lib.MathLoose.min_long.code 4 (some .long) ∈ lw_tbl := jw_in 1735 (by decide +kernel)
theorem kw_oi_i : Cond.instanceMethod Lib.objectInit ∈ lw_tbl := jw_in 36 (by decide +kernel)
theorem kw_oi_c : Cond.code Lib.objectInit ⟨#[0xb1]⟩ 1 none ∈ lw_tbl := jw_in 37 (by decide +kernel)
def jminL (x y : Int64) : Int64 := if y < x then y else x
def jMq (μ2 : jM) (n : Nat) : Prop := jMe μ2 n ∧ μ2.2.2.2.2 = [] ∧ Cond.instanceMethod μ2.1 ∈ lw_tbl ∧ Cond.selects μ2.1.cls μ2.1 μ2.1 ∈ lw_tbl
theorem j_ne {x n : Int32} {z : Int} (h : ¬ x = n) (hz : n.toInt = z) : ¬ x.toInt = z := fun e => h (Int32.toInt_inj.mp (e.trans hz.symm))
section JR7
variable {g : jG} {μ μ2 : jM} {d : Nat} {hs : jH} {P : jO → jH → Prop} {pc : Nat} {lv : List (Nat × Value)} {st : List Value} {h : jH}
theorem jr_aload_nN {n : Fin 4} {i : Nat} (q : Nat) (hdg : decode μ.2.1 pc = .ok (.aload_n n, 1)) (hi : (n : Nat) = i) (hq : lv[q]? = some (i, .null)) (k : J g μ d hs P (pc + 1) lv (.null :: st) h) : J g μ d hs P pc lv st h :=
  fun hg p e R s m args below meth c B H ls locs hR hl hL hf => lv_aload_nN B.1 B.2.1 hdg hi (lv_at hl q hq) (k hg p e R s m args below meth c B H ls locs hR hl hL hf)
theorem jr_aloadN {i : Nat} (q : Nat) (hdg : decode μ.2.1 pc = .ok (.aload i, 2)) (hq : lv[q]? = some (i, .null)) (k : J g μ d hs P (pc + 2) lv (.null :: st) h) : J g μ d hs P pc lv st h :=
  fun hg p e R s m args below meth c B H ls locs hR hl hL hf => lv_aloadN B.1 B.2.1 hdg (lv_at hl q hq) (k hg p e R s m args below meth c B H ls locs hR hl hL hf)
theorem jr_astore_nN {n : Fin 4} {i : Nat} {lv' : List (Nat × Value)} (hdg : decode μ.2.1 pc = .ok (.astore_n n, 1)) (hi : (n : Nat) = i) (hn : i < μ.2.2.1) (hlv : (i, Value.null) :: lv.filter (fun q => !(q.1 == i) && !(q.1 + 1 == i && q.2.category == 2)) = lv') (k : J g μ d hs P (pc + 1) lv' st h) : J g μ d hs P pc lv (.null :: st) h :=
  fun hg p e R s m args below meth c B H ls locs hR hl hL hf => lv_astore_nN B.1 B.2.1 hdg hi hl hn hlv (fun ls' hl' => k hg p e R s m args below meth c B H ls' locs hR hl' hL hf)
theorem jr_astoreN {i : Nat} {lv' : List (Nat × Value)} (hdg : decode μ.2.1 pc = .ok (.astore i, 2)) (hn : i < μ.2.2.1) (hlv : (i, Value.null) :: lv.filter (fun q => !(q.1 == i) && !(q.1 + 1 == i && q.2.category == 2)) = lv') (k : J g μ d hs P (pc + 2) lv' st h) : J g μ d hs P pc lv (.null :: st) h :=
  fun hg p e R s m args below meth c B H ls locs hR hl hL hf => lv_astoreN B.1 B.2.1 hdg hl hn hlv (fun ls' hl' => k hg p e R s m args below meth c B H ls' locs hR hl' hL hf)
theorem jr_objInit {index a : Nat} (hl : Cond.methodLink μ.1.cls index Lib.objectInit ∈ lw_tbl) (hdg : decode μ.2.1 pc = .ok (.invokespecial index, 3)) (hst : (st.map fun v => v.category).sum ≤ 8) (k : J g μ d hs P (pc + 3) lv st h) : J g μ d hs P pc lv (.ref a :: st) h := by
  intro hg p e R s m args below meth c B H ls locs hR hl9 hL hf
  obtain ⟨b1, b2, b3, b4⟩ := B.2.2.2.2.2.2.2.2.1
  have hW := B.2.2.2.2.2.2.2.1
  exact W.objInit B.1 B.2.1 B.2.2.2.1 (j_word hg hW hl rfl) (j_word hg hW kw_oi_i rfl) (j_word hg hW kw_oi_c rfl) rfl (by show ls.size = _; rw [B.2.2.1]; exact hl9.1) rfl hdg (by omega) (by show 2 * 0 + _ + 12 ≤ _; omega) (k hg p e R s m args below meth c B H ls locs hR hl9 hL hf)
theorem jr_ldcS {index k9 : Nat} {own tx : String} {bs : List Int32} (hq : jStr[k9]? = some (own, index, tx, bs)) (hown : own = μ.1.cls) (_h9 : True = True) (hdg : decode μ.2.1 pc = .ok (.ldc index, 2)) (k : J g μ d hs P (pc + 2) lv (.ref (gS g k9) :: st) h) : J g μ d hs P pc lv st h := by
  subst hown
  intro hg p e R s m args below meth c B H ls locs hR hl9 hL hf
  exact va_ldcS B.1 B.2.1 B.2.2.2.1 (vk_R.warm B.2.2.2.2.2.2.2.1 (hg.2.2.2.2.2.2.2.1 k9 _ hq).1) hdg (k hg p e R s m args below meth c B H ls locs hR hl9 hL hf)
theorem jr_mminL {index : Nat} {x y : Int64} (hl : Cond.methodLink μ.1.cls index Lib.MathLoose.min_long.x ∈ lw_tbl) (hdg : decode μ.2.1 pc = .ok (.invokestatic index, 3)) (hst : (st.map fun v => v.category).sum ≤ 8) (k : J g μ d hs P (pc + 3) lv (.long (jminL x y) :: st) h) : J g μ d hs P pc lv (.long y :: .long x :: st) h := by
  intro hg p e R s m args below meth c B H ls locs hR hl9 hL hf
  obtain ⟨b1, b2, b3, b4⟩ := B.2.2.2.2.2.2.2.2.1
  obtain ⟨f1, f2, f3, f4⟩ := id hf
  have hW := B.2.2.2.2.2.2.2.1
  exact va_mmin_long B.1 B.2.1 (by rw [B.2.2.1]; exact hl9.1.symm) B.2.2.2.1 (j_word hg hW hl rfl) (j_word hg hW kw_minL_s rfl) (j_word hg hW kw_Math_i rfl) (j_word hg hW kw_minL_c rfl) (by omega) (by omega) (by omega) (by omega) hdg (k hg p e R s m args below meth c B H ls locs hR hl9 hL hf)
theorem jr_mmaxL {index : Nat} {x y : Int64} (hl : Cond.methodLink μ.1.cls index Lib.MathLoose.max_long.x ∈ lw_tbl) (hdg : decode μ.2.1 pc = .ok (.invokestatic index, 3)) (hst : (st.map fun v => v.category).sum ≤ 8) (k : J g μ d hs P (pc + 3) lv (.long (jmaxL x y) :: st) h) : J g μ d hs P pc lv (.long y :: .long x :: st) h := by
  intro hg p e R s m args below meth c B H ls locs hR hl9 hL hf
  obtain ⟨b1, b2, b3, b4⟩ := B.2.2.2.2.2.2.2.2.1
  obtain ⟨f1, f2, f3, f4⟩ := id hf
  have hW := B.2.2.2.2.2.2.2.1
  exact va_mmax_long B.1 B.2.1 (by rw [B.2.2.1]; exact hl9.1.symm) B.2.2.2.1 (j_word hg hW hl rfl) (j_word hg hW kw_maxL_s rfl) (j_word hg hW kw_Math_i rfl) (j_word hg hW kw_maxL_c rfl) (by omega) (by omega) (by omega) (by omega) hdg (k hg p e R s m args below meth c B H ls locs hR hl9 hL hf)
theorem j_S {p : Program} {R : Room} {s : State} {m : MethodId} {meth : Method} {c : Code} {H : Heap} {locs : List Loc} (B : jB g μ d hs p R s m meth c) (hR : jR g h H) (hL : ∀ z ∈ locs, jF g z.base) (hf : jfit g hs h) : va_S (jF g) s.heap H locs := ⟨by rw [B.2.2.2.2.2.2.2.2.2.1, hR.2.1]; exact hf.1, fun q hq hA => by
    have hq2 : q < jB0 g := Nat.not_le.mp hA
    rw [hR.2.2.2 q hq2, B.2.2.2.2.2.2.2.2.2.2.2 q hq2], hL⟩
theorem j_keep {p : Program} {R : Room} {s : State} {m : MethodId} {meth : Method} {c : Code} (B : jB g μ d hs p R s m meth c) : ∀ a : Nat, a < g.2.1.heap.size → ¬ jF g a → s.heap[a]? = g.2.1.heap[a]? := fun a ha _ => B.2.2.2.2.2.2.2.2.2.2.2 a ha
/-- a method of a text constant -/
theorem jr_callQ {P2 : jO → jH → Prop} {index n b : Nat} {As : List Value} (hl : Cond.methodLink μ.1.cls index μ2.1 ∈ lw_tbl) (hm : jMq μ2 n) (hc9 : μ2.1.cls = "java/lang/String") (hn : As.length = n) (hh : μ.2.2.2.2 = []) (hdg : decode μ.2.1 pc = .ok (.invokevirtual index, 3)) (hb : ∃ k9, k9 < 37 ∧ b = gS g k9) (hst : (st.map fun v => v.category).sum ≤ 8) (hcon : Con g μ2 d (.ref b :: As) h P2)
    (kk : ∀ v h', P2 (.inl v) h' → J g μ (d + 1) hs P (pc + 3) lv (v.toList ++ st) h') (kx : ∀ E h', P2 (.inr E) h' → P (.inr E) h') : J g μ (d + 1) hs P pc lv (As.reverse ++ .ref b :: st) h := by
  intro hg p e R s m args below meth c B H ls locs hR hl9 hL hf
  obtain ⟨c0, cn, c1, c2⟩ := hm
  obtain ⟨k9, hk9, rfl⟩ := hb
  have hW := B.2.2.2.2.2.2.2.1
  obtain ⟨f1, f2, f3, f4⟩ := id hf
  obtain ⟨b1, b2, b3, b4⟩ := B.2.2.2.2.2.2.2.2.1
  have hM := hcon hg ⟨Nat.le_refl _, Nat.le_refl _, f3, f4⟩
  have cw : CallW R s args μ.1.cls μ2.1.cls index μ2.1 μ2.2.1 μ2.2.2.1 μ2.2.2.2.1 [jw μ2] (jrm g d h) (jB0 g + 601024 - h.2.1) (7293034 - h.2.2) n := ⟨j_cB hg B ⟨hl, c0⟩ cn, j_word hg hW c1 rfl, j_word hg hW c2 rfl⟩
  obtain ⟨q9, hq9⟩ : ∃ q, jStr[k9]? = some q := ⟨_, List.getElem?_eq_getElem (show k9 < jStr.length from hk9)⟩
  obtain ⟨cellB, g1, g2, g3, -⟩ := (va_O.moved hW.alike ((hg.2.2.2.2.2.2.2.1 k9 _ hq9).2.1.kept (j_keep B))).kept (j_S B hR hL hf).2.1
  rw [← hc9] at g3
  exact j_run hg B hR hl9 hL hf hh (vx_runV (Ts := []) ⟨B.1, B.2.1, B.2.2.1, B.2.2.2.1, fun w hw => nomatch hw⟩ hM cw ⟨j_blind, ⟨cellB, g1, g2, g3⟩, fun U hU hW9 => ⟨rfl, by rw [hU]; exact hR, State.WarmedH.trans hW hW9⟩⟩ rfl hn hl9.1 rfl (lv_room (pc := pc) (ls := ls) (rest := st) (m := m) hst) hdg ⟨by omega, by omega⟩) kk kx
theorem jr_cQi {index n b : Nat} {As : List Value} {Q : Int32 → jH → Prop} (hl : Cond.methodLink μ.1.cls index μ2.1 ∈ lw_tbl) (hm : jMq μ2 n) (hn : As.length = n) (hh : μ.2.2.2.2 = []) (hdg : decode μ.2.1 pc = .ok (.invokevirtual index, 3)) (hb : ∃ k9, k9 < 37 ∧ b = gS g k9) (hst : (st.map fun v => v.category).sum ≤ 8) (hcon : Con g μ2 d (.ref b :: As) h (jPi Q (fun E h' => P (.inr E) h'))) (kk : ∀ r h', Q r h' → J g μ (d + 1) hs P (pc + 3) lv (.int r :: st) h') (hc9 : μ2.1.cls = "java/lang/String" := by rfl) : J g μ (d + 1) hs P pc lv (As.reverse ++ .ref b :: st) h :=
  jr_callQ hl hm hc9 hn hh hdg hb hst hcon (fun v h' hp => by
    match v, hp with
    | (some (.int r)), hp => exact kk r h' hp) (fun E h' hp => hp)
end JR7
theorem jfs_0 : ∀ C T, vwCl[0]? = some (C, T, 9) → ∀ j, j < 9 → ∀ ty, parseFieldDescriptor (T j).2.2.1 = some ty → defaultValue ty = vp_V ([.null, .int 0, .int 0, .null, .null, .null, .null, .null, .null]) j := by
  intro C T hc j hj ty hty
  cases hc
  have h9 := (tyX0_ok j hj).symm.trans hty
  cases h9
  exact (by decide +kernel : ∀ j, j < 9 → defaultValue (tyX0 j) = vp_V ([.null, .int 0, .int 0, .null, .null, .null, .null, .null, .null]) j) j hj
theorem jfs_1 : ∀ C T, vwCl[1]? = some (C, T, 3) → ∀ j, j < 3 → ∀ ty, parseFieldDescriptor (T j).2.2.1 = some ty → defaultValue ty = vp_V ([.null, .int 0, .null]) j := by
  intro C T hc j hj ty hty
  cases hc
  have h9 := (tyX1_ok j hj).symm.trans hty
  cases h9
  exact (by decide +kernel : ∀ j, j < 3 → defaultValue (tyX1 j) = vp_V ([.null, .int 0, .null]) j) j hj
theorem jfs_2 : ∀ C T, vwCl[2]? = some (C, T, 2) → ∀ j, j < 2 → ∀ ty, parseFieldDescriptor (T j).2.2.1 = some ty → defaultValue ty = vp_V ([.int 0, .null]) j := by
  intro C T hc j hj ty hty
  cases hc
  have h9 := (tyX2_ok j hj).symm.trans hty
  cases h9
  exact (by decide +kernel : ∀ j, j < 2 → defaultValue (tyX2 j) = vp_V ([.int 0, .null]) j) j hj
theorem jfs_3 : ∀ C T, vwCl[3]? = some (C, T, 3) → ∀ j, j < 3 → ∀ ty, parseFieldDescriptor (T j).2.2.1 = some ty → defaultValue ty = vp_V ([.null, .null, .null]) j := by
  intro C T hc j hj ty hty
  cases hc
  have h9 := (tyX3_ok j hj).symm.trans hty
  cases h9
  exact (by decide +kernel : ∀ j, j < 3 → defaultValue (tyX3 j) = vp_V ([.null, .null, .null]) j) j hj
theorem jfs_4 : ∀ C T, vwCl[4]? = some (C, T, 8) → ∀ j, j < 8 → ∀ ty, parseFieldDescriptor (T j).2.2.1 = some ty → defaultValue ty = vp_V ([.null, .int 0, .int 0, .null, .null, .null, .int 0, .int 0]) j := by
  intro C T hc j hj ty hty
  cases hc
  have h9 := (tyX4_ok j hj).symm.trans hty
  cases h9
  exact (by decide +kernel : ∀ j, j < 8 → defaultValue (tyX4 j) = vp_V ([.null, .int 0, .int 0, .null, .null, .null, .int 0, .int 0]) j) j hj
theorem jfs_5 : ∀ C T, vwCl[5]? = some (C, T, 2) → ∀ j, j < 2 → ∀ ty, parseFieldDescriptor (T j).2.2.1 = some ty → defaultValue ty = vp_V ([.null, .null]) j := by
  intro C T hc j hj ty hty
  cases hc
  have h9 := (tyX5_ok j hj).symm.trans hty
  cases h9
  exact (by decide +kernel : ∀ j, j < 2 → defaultValue (tyX5 j) = vp_V ([.null, .null]) j) j hj
theorem jfs_6 : ∀ C T, vwCl[6]? = some (C, T, 9) → ∀ j, j < 9 → ∀ ty, parseFieldDescriptor (T j).2.2.1 = some ty → defaultValue ty = vp_V ([.int 0, .int 0, .int 0, .null, .null, .null, .null, .null, .null]) j := by
  intro C T hc j hj ty hty
  cases hc
  have h9 := (tyX6_ok j hj).symm.trans hty
  cases h9
  exact (by decide +kernel : ∀ j, j < 9 → defaultValue (tyX6 j) = vp_V ([.int 0, .int 0, .int 0, .null, .null, .null, .null, .null, .null]) j) j hj
theorem jfs_7 : ∀ C T, vwCl[7]? = some (C, T, 9) → ∀ j, j < 9 → ∀ ty, parseFieldDescriptor (T j).2.2.1 = some ty → defaultValue ty = vp_V ([.null, .int 0, .int 0, .null, .int 0, .int 0, .null, .int 0, .int 0]) j := by
  intro C T hc j hj ty hty
  cases hc
  have h9 := (tyX7_ok j hj).symm.trans hty
  cases h9
  exact (by decide +kernel : ∀ j, j < 9 → defaultValue (tyX7 j) = vp_V ([.null, .int 0, .int 0, .null, .int 0, .int 0, .null, .int 0, .int 0]) j) j hj
theorem jfs_8 : ∀ C T, vwCl[8]? = some (C, T, 4) → ∀ j, j < 4 → ∀ ty, parseFieldDescriptor (T j).2.2.1 = some ty → defaultValue ty = vp_V ([.null, .null, .null, .int 0]) j := by
  intro C T hc j hj ty hty
  cases hc
  have h9 := (tyX8_ok j hj).symm.trans hty
  cases h9
  exact (by decide +kernel : ∀ j, j < 4 → defaultValue (tyX8 j) = vp_V ([.null, .null, .null, .int 0]) j) j hj
theorem jfs_9 : ∀ C T, vwCl[9]? = some (C, T, 7) → ∀ j, j < 7 → ∀ ty, parseFieldDescriptor (T j).2.2.1 = some ty → defaultValue ty = vp_V ([.null, .int 0, .int 0, .int 0, .null, .null, .null]) j := by
  intro C T hc j hj ty hty
  cases hc
  have h9 := (tyX9_ok j hj).symm.trans hty
  cases h9
  exact (by decide +kernel : ∀ j, j < 7 → defaultValue (tyX9 j) = vp_V ([.null, .int 0, .int 0, .int 0, .null, .null, .null]) j) j hj
theorem jfs_10 : ∀ C T, vwCl[10]? = some (C, T, 3) → ∀ j, j < 3 → ∀ ty, parseFieldDescriptor (T j).2.2.1 = some ty → defaultValue ty = vp_V ([.int 0, .int 0, .null]) j := by
  intro C T hc j hj ty hty
  cases hc
  have h9 := (tyX10_ok j hj).symm.trans hty
  cases h9
  exact (by decide +kernel : ∀ j, j < 3 → defaultValue (tyX10 j) = vp_V ([.int 0, .int 0, .null]) j) j hj
theorem jfs_11 : ∀ C T, vwCl[11]? = some (C, T, 14) → ∀ j, j < 14 → ∀ ty, parseFieldDescriptor (T j).2.2.1 = some ty → defaultValue ty = vp_V ([.null, .int 0, .int 0, .int 0, .null, .null, .null, .null, .null, .null, .null, .null, .null, .int 0]) j := by
  intro C T hc j hj ty hty
  cases hc
  have h9 := (tyX11_ok j hj).symm.trans hty
  cases h9
  exact (by decide +kernel : ∀ j, j < 14 → defaultValue (tyX11 j) = vp_V ([.null, .int 0, .int 0, .int 0, .null, .null, .null, .null, .null, .null, .null, .null, .null, .int 0]) j) j hj
theorem jfs_12 : ∀ C T, vwCl[12]? = some (C, T, 38) → ∀ j, j < 38 → ∀ ty, parseFieldDescriptor (T j).2.2.1 = some ty → defaultValue ty = vp_V ([.null, .null, .null, .null, .int 0, .null, .int 0, .int 0, .int 0, .int 0, .int 0, .int 0, .int 0, .int 0, .int 0, .int 0, .int 0, .int 0, .int 0, .null, .null, .null, .null, .int 0, .int 0, .null, .int 0, .int 0, .null, .null, .int 0, .int 0, .int 0, .null, .null, .null, .null, .null]) j := by
  intro C T hc j hj ty hty
  cases hc
  have h9 := (tyX12_ok j hj).symm.trans hty
  cases h9
  exact (by decide +kernel : ∀ j, j < 38 → defaultValue (tyX12 j) = vp_V ([.null, .null, .null, .null, .int 0, .null, .int 0, .int 0, .int 0, .int 0, .int 0, .int 0, .int 0, .int 0, .int 0, .int 0, .int 0, .int 0, .int 0, .null, .null, .null, .null, .int 0, .int 0, .null, .int 0, .int 0, .null, .null, .int 0, .int 0, .int 0, .null, .null, .null, .null, .null]) j) j hj
