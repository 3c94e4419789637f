/-! What the Statement gives of the start -/
abbrev jq : Type := String × Nat × String × List Int32
def strT (q : jq) : Term := .string q.1 q.2.1
def strF (q : jq) : Term := .field (strT q) "java/lang/String" "value" "[B"
def strW (q : jq) : List Cond := Cond.exactly (strT q) "java/lang/String" :: Cond.eq (.field (strT q) "java/lang/String" "coder" "B") (.int 0) :: Cond.arrayOf (strF q) .byte :: Cond.eq (.length (strF q)) (.int (Int32.ofNat q.2.2.2.length)) :: (List.range q.2.2.2.length).map (fun j => Cond.eq (.elem (strF q) (.int (Int32.ofNat j))) (.int (q.2.2.2.getD j 0)))
set_option maxRecDepth 20000 in
theorem str_nar : ((flatC (Jvm.Cond.and given_1 narrow_1)).drop 132).take 636 = jStr.flatMap strW := by decide +kernel
theorem str_tbl : ∀ q ∈ jStr, Cond.stringRef q.1 q.2.1 q.2.2.1 ∈ lw_tbl := by decide +kernel
theorem str_len : ∀ q ∈ jStr, q.2.2.2.length < 200 := by decide +kernel
theorem ncs_nar : ∀ p ∈ ncs, Cond.not (.castable p.1 p.2) ∈ flatC (Jvm.Cond.and given_1 narrow_1) := by decide +kernel
theorem nar_mem {w : Cond} (h : w ∈ jStr.flatMap strW) : w ∈ flatC (Jvm.Cond.and given_1 narrow_1) := by
  rw [← str_nar] at h
  exact List.mem_of_mem_drop (List.mem_of_mem_take h)
theorem nar_at {w : Cond} (i : Nat) (h : (flatC (Jvm.Cond.and given_1 narrow_1))[i]? = some w) : w ∈ flatC (Jvm.Cond.and given_1 narrow_1) := List.mem_of_getElem? h
section LSA
variable {s : State} {args : Array Value}
theorem lsA : ∀ a : Nat, a < s.heap.size → ¬ (fun q : Nat => s.heap.size ≤ q) a := fun _ h => Nat.not_le.mpr h
theorem str_start (hts : ∀ w ∈ lw_tbl, w.before args s = true) (hgv : (Jvm.Cond.and given_1 narrow_1).before args s = true) : ∃ ad : Nat → Nat, ∀ (k : Nat) (q : jq), jStr[k]? = some q → vk_R q.1 q.2.1 q.2.2.1 (ad k) s ∧ va_O "java/lang/String" (ad k) (fun q => s.heap.size ≤ q) s s.heap ∧
    va_OF "java/lang/String" "coder" "B" (.int 0) (ad k) (fun q => s.heap.size ≤ q) s s.heap ∧ ∃ v : Nat, va_OF "java/lang/String" "value" "[B" (.ref v) (ad k) (fun q => s.heap.size ≤ q) s s.heap ∧
    va_T .byte v q.2.2.2.length (fun j => .int (q.2.2.2.getD j 0)) (fun q => s.heap.size ≤ q) s s.heap := by
  have hs := flat_of_before _ hgv
  have h0 : ∀ k : Nat, ∃ t : Nat, ∀ q : jq, jStr[k]? = some q → vk_R q.1 q.2.1 q.2.2.1 t s ∧ va_O "java/lang/String" t (fun q => s.heap.size ≤ q) s s.heap ∧
    va_OF "java/lang/String" "coder" "B" (.int 0) t (fun q => s.heap.size ≤ q) s s.heap ∧ ∃ v : Nat, va_OF "java/lang/String" "value" "[B" (.ref v) t (fun q => s.heap.size ≤ q) s s.heap ∧
    va_T .byte v q.2.2.2.length (fun j => .int (q.2.2.2.getD j 0)) (fun q => s.heap.size ≤ q) s s.heap := by
    intro k
    by_cases hk : ∃ q, jStr[k]? = some q
    · obtain ⟨q0, hk⟩ := hk
      have hm : q0 ∈ jStr := List.mem_of_getElem? hk
      have hw : ∀ w ∈ strW q0, w.before args s = true := fun w hw => hs w (nar_mem (List.mem_flatMap.mpr ⟨q0, hm, hw⟩))
      obtain ⟨a, c, cell, kk, q1, q2, q3, q4, q5, q6, -⟩ := Cond.exactly_spec (hw _ List.mem_cons_self)
      have e2 := va_eqt (hw _ (List.mem_cons_of_mem _ List.mem_cons_self))
      have e3 := hw _ (List.mem_cons_of_mem _ (List.mem_cons_of_mem _ List.mem_cons_self))
      have e4 := va_eqt (hw _ (List.mem_cons_of_mem _ (List.mem_cons_of_mem _ (List.mem_cons_of_mem _ List.mem_cons_self))))
      have e5 : ∀ j : Nat, j < q0.2.2.2.length → (Term.elem (strF q0) (.int (Int32.ofNat j))).eval args s none [] s = some (.int (q0.2.2.2.getD j 0)) := fun j hj =>
        va_eqt (hw _ (List.mem_cons_of_mem _ (List.mem_cons_of_mem _ (List.mem_cons_of_mem _ (List.mem_cons_of_mem _ (List.mem_map.mpr ⟨j, List.mem_range.mpr hj, rfl⟩))))))
      have hl := str_len q0 hm
      obtain ⟨v, hv, hT⟩ := va_Tof (tm := strF q0) (ty := .byte) (N := q0.2.2.2.length) (f := fun j => .int (q0.2.2.2.getD j 0)) (by omega) e3 e4 e5 (lsA (s := s))
      refine ⟨a, fun q h => ?_⟩
      obtain rfl := Option.some.inj (hk.symm.trans h)
      exact ⟨vk_R.of (hts _ (str_tbl q0 hm)) q1, ⟨cell, q3, q5, by rw [q6]; exact q2, lsA a (Array.getElem?_eq_some_iff.mp q3).1⟩, vk_OFof q1 e2 (lsA (s := s)), v, vk_OFof q1 hv (lsA (s := s)), hT⟩
    · exact ⟨0, fun q h => (hk ⟨q, h⟩).elim⟩
  exact Classical.axiomOfChoice h0
theorem ty_prim {ty : FieldType} (h : (Cond.arrayClass ty).before args s = true) : ∃ c : ClassId, ArrOfT s c ty ∧ s.vm.findClass ("[" ++ ty.toString) = some c := by
  obtain ⟨c, k, comp, h1, h2, h3⟩ := Cond.arrayClass_spec h
  exact ⟨c, fun n z => ⟨(fun k9 e => by cases e), k, h2, comp, h3⟩, h1⟩
theorem ty_obj {n : String} (h : (Cond.arrayOver (.object n)).before args s = true) : ∃ c : ClassId, ArrOfT s c (.object n) ∧ va_RA s c (.object n) := by
  obtain ⟨comp, c, k, h1, h2, h3, h4, h5⟩ := Cond.arrayOver_spec h
  exact ⟨c, fun n z => ⟨(fun k9 e => by cases e), k, h3, comp, h4⟩, k, comp, h3, h4, h1, h5⟩
theorem ty_arr {t : FieldType} (h : (Cond.arrayOver (.array t)).before args s = true) : ∃ c : ClassId, ArrOfT s c (.array t) ∧ s.vm.findClass ("[" ++ (FieldType.array t).toString) = some c := by
  have h : (Cond.arrayOver (.array t)).holds args s none s [] = true := h
  simp only [Cond.holds, Cond.value, beq_iff_eq] at h
  cases hc : s.vm.findClass (FieldType.array t).toString with
  | none => simp [hc] at h
  | some comp =>
    simp only [hc, Option.bind_some, Option.bind_eq_some_iff, Option.map_eq_some_iff] at h
    obtain ⟨c, hi, k, hk, hb⟩ := h
    obtain ⟨hlt, hp, -⟩ := Array.findIdx?_eq_some_iff_getElem.mp hi
    have hkk : s.vm.classes[c] = k := (Array.getElem?_eq_some_iff.mp hk).2
    rw [hkk] at hp
    cases hkind : k.kind with
    | array component ty =>
      rw [hkind] at hb hp
      simp at hb hp
      exact ⟨c, fun n z => ⟨(fun k9 e => by cases e), k, hk, comp, by rw [hkind, hp, hb.1]⟩, hb.2⟩
    | _ => rw [hkind] at hb; simp at hb
theorem ty_start (hts : ∀ w ∈ lw_tbl, w.before args s = true) : ∃ cls : Nat → ClassId, ∀ k ty, jTy k = some ty → ArrOfT s (cls k) ty ∧ va_RA s (cls k) ty := by
  obtain ⟨cB, b1, b2⟩ := ty_prim (hts (.arrayClass .byte) (jw_in 106 (by decide +kernel)))
  obtain ⟨cI, i1, i2⟩ := ty_prim (hts (.arrayClass .int) (jw_in 107 (by decide +kernel)))
  obtain ⟨cL, l1, l2⟩ := ty_prim (hts (.arrayClass .long) (jw_in 271 (by decide +kernel)))
  obtain ⟨cZ, z1, z2⟩ := ty_prim (hts (.arrayClass .boolean) (jw_in 1539 (by decide +kernel)))
  obtain ⟨c4, s1⟩ := ty_obj (hts (.arrayOver (.object "DebtStreet$Street")) (jw_in 219 (by decide +kernel)))
  obtain ⟨c5, m1⟩ := ty_obj (hts (.arrayOver (.object "DebtStreet$Image")) (jw_in 230 (by decide +kernel)))
  obtain ⟨c6, t1⟩ := ty_obj (hts (.arrayOver (.object "DebtStreet$Tray")) (jw_in 253 (by decide +kernel)))
  obtain ⟨c7, a1, a2⟩ := ty_arr (hts (.arrayOver (.array .int)) (jw_in 373 (by decide +kernel)))
  have h0 : ∀ k, ∃ c : ClassId, ∀ ty, jTy k = some ty → ArrOfT s c ty ∧ va_RA s c ty := by
    intro k
    match k with
    | 0 => exact ⟨cI, fun ty h => by cases h; exact ⟨i1, i2⟩⟩
    | 1 => exact ⟨cB, fun ty h => by cases h; exact ⟨b1, b2⟩⟩
    | 2 => exact ⟨cZ, fun ty h => by cases h; exact ⟨z1, z2⟩⟩
    | 3 => exact ⟨cL, fun ty h => by cases h; exact ⟨l1, l2⟩⟩
    | 4 => exact ⟨c4, fun ty h => by cases h; exact s1⟩
    | 5 => exact ⟨c5, fun ty h => by cases h; exact m1⟩
    | 6 => exact ⟨c6, fun ty h => by cases h; exact t1⟩
    | 7 => exact ⟨c7, fun ty h => by cases h; exact ⟨a1, a2⟩⟩
    | 8 => exact ⟨cI, fun ty h => by cases h⟩
    | 9 => exact ⟨cI, fun ty h => by cases h⟩
    | 10 => exact ⟨cI, fun ty h => by cases h; exact ⟨i1, i2⟩⟩
    | 11 => exact ⟨cI, fun ty h => by cases h; exact ⟨i1, i2⟩⟩
    | k + 12 => exact ⟨cI, fun ty h => by cases h⟩
  exact Classical.axiomOfChoice h0
/-- the array without a law -/
theorem nolaw_start (hts : ∀ w ∈ lw_tbl, w.before args s = true) (hgv : (Jvm.Cond.and given_1 narrow_1).before args s = true) : ∃ t : Nat, va_Z "DebtStreet" "NO_LAW" "[I" (.ref t) (fun q => s.heap.size ≤ q) s s.heap ∧ va_X t 0 (fun _ => 0) s s.heap ∧ t < s.heap.size := by
  have hs := flat_of_before _ hgv
  have harr : (Cond.arrayOf (.static "DebtStreet" "NO_LAW" "[I") .int).before args s = true := hs _ (by decide +kernel)
  have hlen : (Term.length (.static "DebtStreet" "NO_LAW" "[I")).eval args s none [] s = some (.int 0) := va_eqt (hs (Cond.eq (.length (.static "DebtStreet" "NO_LAW" "[I")) (.int 0)) (by decide +kernel))
  obtain ⟨t, cell, ht, hat, hv⟩ := Term.length_spec hlen
  obtain ⟨hcell, hkn, -, -⟩ := State.arrayAt?_spec hat
  obtain ⟨hof, -⟩ := Cond.arrayOf_spec harr ht hcell
  have gen : ∀ tm : Term, tm.eval args s none [] s = some (.ref t) → (Term.length tm).eval args s none [] s = some (.int 0) → cell.slots.size < 2 ^ 31 := by
    intro tm ht hlen
    simp only [Term.eval, ht, hat, Option.bind_eq_bind, Option.bind_some] at hlen
    by_cases hlt : cell.slots.size < 2147483648
    · exact hlt
    · simp [hlt] at hlen
  have hsz : cell.slots.size < 2 ^ 31 := gen _ ht hlen
  have h0 : cell.slots.size = 0 := by
    have e : nI cell.slots.size = nI 0 := (Value.int.inj hv).symm
    exact nI_ij hsz (by omega) e
  exact ⟨t, va_Zof (hts (.laysStatic "DebtStreet" "NO_LAW" "[I") (jw_in 109 (by decide +kernel))) (hts (.initialized "DebtStreet") (jw_in 1 (by decide +kernel))) ht (lsA (s := s)), ⟨cell, hcell, hof, hkn, h0, fun j hj => absurd hj (Nat.not_lt_zero j)⟩, (Array.getElem?_eq_some_iff.mp hcell).1⟩
theorem cls_start (hts : ∀ w ∈ lw_tbl, w.before args s = true) : ∃ D : va_G, va_K D vwCl [] s := by
  have kn : ∀ (k : Nat), ∃ (y : ClassId × (Nat → Nat)), ∀ (q : vw_C), vwCl[k]? = some q → u_Kn s q.1 q.2.1 q.2.2 y.1 y.2 := by
    intro k
    match k with
    | 0 => obtain ⟨c, iS, h⟩ := u_known (C := RX0) (T := TX0) (N := 9) (n := 9) hts jin0 (hts (.instantiable RX0 9) (jw_in 273 (by decide +kernel))); exact ⟨(c, iS), fun q e => by cases e; exact h⟩
    | 1 => obtain ⟨c, iS, h⟩ := u_known (C := RX1) (T := TX1) (N := 3) (n := 3) hts jin1 (hts (.instantiable RX1 3) (jw_in 367 (by decide +kernel))); exact ⟨(c, iS), fun q e => by cases e; exact h⟩
    | 2 => obtain ⟨c, iS, h⟩ := u_known (C := RX2) (T := TX2) (N := 2) (n := 2) hts jin2 (hts (.instantiable RX2 2) (jw_in 213 (by decide +kernel))); exact ⟨(c, iS), fun q e => by cases e; exact h⟩
    | 3 => obtain ⟨c, iS, h⟩ := u_known (C := RX3) (T := TX3) (N := 3) (n := 3) hts jin3 (hts (.instantiable RX3 3) (jw_in 231 (by decide +kernel))); exact ⟨(c, iS), fun q e => by cases e; exact h⟩
    | 4 => obtain ⟨c, iS, h⟩ := u_known (C := RX4) (T := TX4) (N := 8) (n := 8) hts jin4 (hts (.instantiable RX4 8) (jw_in 331 (by decide +kernel))); exact ⟨(c, iS), fun q e => by cases e; exact h⟩
    | 5 => obtain ⟨c, iS, h⟩ := u_known (C := RX5) (T := TX5) (N := 2) (n := 2) hts jin5 (hts (.instantiable RX5 2) (jw_in 279 (by decide +kernel))); exact ⟨(c, iS), fun q e => by cases e; exact h⟩
    | 6 => obtain ⟨c, iS, h⟩ := u_known (C := RX6) (T := TX6) (N := 9) (n := 9) hts jin6 (hts (.instantiable RX6 9) (jw_in 45 (by decide +kernel))); exact ⟨(c, iS), fun q e => by cases e; exact h⟩
    | 7 => obtain ⟨c, iS, h⟩ := u_known (C := RX7) (T := TX7) (N := 9) (n := 9) hts jin7 (hts (.instantiable RX7 9) (jw_in 149 (by decide +kernel))); exact ⟨(c, iS), fun q e => by cases e; exact h⟩
    | 8 => obtain ⟨c, iS, h⟩ := u_known (C := RX8) (T := TX8) (N := 4) (n := 4) hts jin8 (hts (.instantiable RX8 4) (jw_in 157 (by decide +kernel))); exact ⟨(c, iS), fun q e => by cases e; exact h⟩
    | 9 => obtain ⟨c, iS, h⟩ := u_known (C := RX9) (T := TX9) (N := 7) (n := 7) hts jin9 (hts (.instantiable RX9 7) (jw_in 39 (by decide +kernel))); exact ⟨(c, iS), fun q e => by cases e; exact h⟩
    | 10 => obtain ⟨c, iS, h⟩ := u_known (C := RX10) (T := TX10) (N := 3) (n := 3) hts jin10 (hts (.instantiable RX10 3) (jw_in 254 (by decide +kernel))); exact ⟨(c, iS), fun q e => by cases e; exact h⟩
    | 11 => obtain ⟨c, iS, h⟩ := u_known (C := RX11) (T := TX11) (N := 14) (n := 14) hts jin11 (hts (.instantiable RX11 14) (jw_in 31 (by decide +kernel))); exact ⟨(c, iS), fun q e => by cases e; exact h⟩
    | 12 => obtain ⟨c, iS, h⟩ := u_known (C := RX12) (T := TX12) (N := 38) (n := 38) hts jin12 (hts (.instantiable RX12 38) (jw_in 1419 (by decide +kernel))); exact ⟨(c, iS), fun q e => by cases e; exact h⟩
    | k + 13 => exact ⟨(0, fun _ => 0), fun q e => by cases e⟩
  obtain ⟨y, hy⟩ := Classical.axiomOfChoice kn
  exact ⟨(fun k => (y k).1, fun k => (y k).2), fun c q h => hy c q h, fun k q h => by simp at h⟩
/-- all that J asks of the law's start -/
theorem jok_start {l : Launch} {b L : Nat} {xs : Nat → Int32} (hflags : l.flags = flags0) (hts : ∀ w ∈ lw_tbl, w.before #[Value.ref b] s = true) (hgv : (Jvm.Cond.and given_1 narrow_1).before #[Value.ref b] s = true) (hX : va_X b L xs s s.heap) (hb : b < s.heap.size) : ∃ g : jG, g.1 = l ∧ g.2.1 = s ∧ g.2.2.1 = b ∧ jok g ∧ jnc g ∧ g.2.2.2.2.2.2 < s.heap.size ∧ (g.2.2.2.2.2.2 = b → L = 0) ∧ jR g (h00 g L xs) s.heap := by
  obtain ⟨D, hK⟩ := cls_start hts
  obtain ⟨cls, hT⟩ := ty_start hts
  obtain ⟨ad, hS⟩ := str_start hts hgv
  obtain ⟨t, hZ, hN, ht⟩ := nolaw_start hts hgv
  have hs := flat_of_before _ hgv
  have hz : t = b → L = 0 := by
    intro e
    subst e
    obtain ⟨c1, x1, -, -, x2, -⟩ := hX
    obtain ⟨c2, y1, -, -, y2, -⟩ := hN
    obtain rfl := Option.some.inj (x1.symm.trans y1)
    omega
  refine ⟨(l, s, b, D, cls, ad, t), rfl, rfl, rfl, ⟨?_, hts, hK, hT, ?_, ?_, hZ, hS, ?_, ?_⟩, ?_, ht, hz, ⟨fun a e h => ?_, rfl, Nat.le_refl _, fun _ _ => rfl⟩⟩
  · show (!l.flags.contains noTraceFlag) = false
    rw [hflags]
    decide +kernel
  · exact vx_Zqof (hts (.laysStatic "java/lang/Throwable" "UNASSIGNED_STACK" "[Ljava/lang/StackTraceElement;") (jw_in 611 (by decide +kernel))) (hts (.initialized "java/lang/Throwable") (jw_in 14 (by decide +kernel))) (hs (Cond.isRef (.static "java/lang/Throwable" "UNASSIGNED_STACK" "[Ljava/lang/StackTraceElement;")) (by decide +kernel)) (lsA (s := s))
  · exact vx_Zqof (hts (.laysStatic "java/lang/Throwable" "SUPPRESSED_SENTINEL" "Ljava/util/List;") (jw_in 613 (by decide +kernel))) (hts (.initialized "java/lang/Throwable") (jw_in 14 (by decide +kernel))) (hs (Cond.isRef (.static "java/lang/Throwable" "SUPPRESSED_SENTINEL" "Ljava/util/List;")) (by decide +kernel)) (lsA (s := s))
  · exact va_Zof (hts (.laysStatic "java/lang/String" "COMPACT_STRINGS" "Z") (jw_in 691 (by decide +kernel))) (hts (.initialized "java/lang/String") (jw_in 19 (by decide +kernel))) (va_eqi (hs (Cond.eq (.static "java/lang/String" "COMPACT_STRINGS" "Z") (.int 1)) (by decide +kernel))) (lsA (s := s))
  · exact va_Zqof (hts (.laysStatic "jdk/internal/util/Preconditions" "SIOOBE_FORMATTER" "Ljava/util/function/BiFunction;") (jw_in 707 (by decide +kernel))) (hts (.initialized "jdk/internal/util/Preconditions") (jw_in 21 (by decide +kernel))) (hs (Cond.isRef (.static "jdk/internal/util/Preconditions" "SIOOBE_FORMATTER" "Ljava/util/function/BiFunction;")) (by decide +kernel)) (lsA (s := s))
  · exact fun p hp => va_Nc.of (hs _ (ncs_nar p hp))
  · have h : (if a = b then some (.inl (11, (L, .inl xs))) else if a = t then some arr0 else none : Option va_E) = some e := h
    by_cases c : a = b
    · rw [if_pos c] at h
      obtain rfl := Option.some.inj h
      subst c
      exact ⟨⟨fun q => absurd q (Nat.not_lt.mpr (Nat.le_of_ble_eq_true rfl)), fun _ => hX⟩, Or.inl (Nat.le_of_ble_eq_true rfl)⟩
    · rw [if_neg c] at h
      by_cases c2 : a = t
      · rw [if_pos c2] at h
        obtain rfl := Option.some.inj h
        subst c2
        exact ⟨⟨fun q => absurd q (Nat.not_lt.mpr (Nat.le_of_ble_eq_true rfl)), fun _ => hN⟩, Or.inl (Nat.le_of_ble_eq_true rfl)⟩
      · rw [if_neg c2] at h
        cases h
end LSA
