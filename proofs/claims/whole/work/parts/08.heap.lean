theorem jw_acn : Cond.native arraycopyName ∈ lw_tbl := List.mem_append_right _ (List.mem_of_getElem? (i := 463) (by decide +kernel))
theorem jw_acs : Cond.static arraycopyName ∈ lw_tbl := List.mem_append_right _ (List.mem_of_getElem? (i := 462) (by decide +kernel))
theorem jw_aci : Cond.initialized "java/lang/System" ∈ lw_tbl := List.mem_append_right _ (List.mem_of_getElem? (i := 25) (by decide +kernel))
theorem j_lays {g : jG} {s : State} {args : Array Value} {C : String} {T : u_T} {N : Nat} (hg : jok g) (hW : g.2.1.WarmedH s.vm) (hin : ∀ w ∈ u_ws C T N, w ∈ lw_tbl) : ∀ w ∈ u_ws C T N, w.before args s = true := by
  intro w hw
  refine j_word hg hW (hin w hw) ?_
  obtain ⟨k, -, rfl⟩ := List.mem_map.mp hw
  unfold u_lay
  split <;> rfl
/-- a field's link: class ci's field kf by the entry 'index' of the class 'own' -/
def jFl (own : String) (index ci kf : Nat) : Prop := ∃ (C : String) (T : u_T) (N : Nat), vwCl[ci]? = some (C, T, N) ∧ (∀ w ∈ u_ws C T N, w ∈ lw_tbl) ∧ kf < N ∧ Cond.fieldLink own index (T kf).1 (T kf).2.1 (T kf).2.2.1 ∈ lw_tbl
def jFp (own : String) (index ci kf : Nat) (ty : FieldType) (fin : Bool) : Prop := ∃ (C : String) (T : u_T) (N : Nat) (ty0 : Nat → FieldType), vwCl[ci]? = some (C, T, N) ∧ (∀ w ∈ u_ws C T N, w ∈ lw_tbl) ∧ kf < N ∧ Cond.fieldLink own index (T kf).1 (T kf).2.1 (T kf).2.2.1 ∈ lw_tbl ∧
  (∀ k, k < N → parseFieldDescriptor (T k).2.2.1 = some (ty0 k)) ∧ (∀ a, a < N → ∀ b, b < N → a ≠ b → (T a).2.1 ≠ (T b).2.1) ∧ parseFieldDescriptor (T kf).2.2.1 = some ty ∧ (T kf).2.2.2 = fin ∧ (T kf).1 = C
/-- a class's making -/
def jNw (own : String) (index ci N : Nat) : Prop := ∃ (C : String) (T : u_T) (ty0 : Nat → FieldType), vwCl[ci]? = some (C, T, N) ∧ (∀ w ∈ u_ws C T N, w ∈ lw_tbl) ∧ (∀ k, k < N → parseFieldDescriptor (T k).2.2.1 = some (ty0 k)) ∧
  Cond.classLink own index C ∈ lw_tbl ∧ Cond.instantiable C N ∈ lw_tbl ∧ Cond.initialized C ∈ lw_tbl
section JR2
variable {g : jG} {μ : jM} {d : Nat} {hs : jH} {P : jO → jH → Prop} {pc : Nat} {lv : List (Nat × Value)} {st : List Value} {h : jH}
theorem jr_get {a ci kf index : Nat} {fs : List Value} {v : Value} (hfl : jFl μ.1.cls index ci kf) (hdg : decode μ.2.1 pc = .ok (.getfield index, 3)) (ha : h.1 a = some (.inr (ci, fs))) (hv : fs[kf]? = some v) (k : J g μ d hs P (pc + 3) lv (v :: st) h) : J g μ d hs P pc lv (.ref a :: st) h := by
  intro hg p e R s m args below meth c B H ls locs hR hl hL hf
  obtain ⟨C, T, N, hc, hin, hk, hlink⟩ := hfl
  exact va_get B.1 B.2.1 (j_lays hg B.2.2.2.2.2.2.2.1 hin) (fun _ hw => hw) B.2.2.2.1 (j_vaK hg B.2.2.2.2.2.2.2.1) (j_obj hR ha) 0 rfl hc kf hk (j_word hg B.2.2.2.2.2.2.2.1 hlink rfl) (fun _ hx => hx) hv hdg (k hg p e R s m args below meth c B H ls locs hR hl hL hf)
theorem jr_put {a ci kf index : Nat} {fs : List Value} {v : Value} {ty : FieldType} (hfl : jFp μ.1.cls index ci kf ty false) (hdg : decode μ.2.1 pc = .ok (.putfield index, 3)) (ha : h.1 a = some (.inr (ci, fs))) (hlt : kf < fs.length) (hn : narrow ty v = v) (hfit : fits ty v = true)
    (k : J g μ d hs P (pc + 3) lv st (jset h a (.inr (ci, fs.set kf v)))) : J g μ d hs P pc lv (v :: .ref a :: st) h := by
  intro hg p e R s m args below meth c B H ls locs hR hl hL hf
  obtain ⟨C, T, N, ty0, hc, hin, hk, hlink, hty, hnm, hd, hfin, -⟩ := hfl
  have hts := j_lays (args := args) hg B.2.2.2.2.2.2.2.1 hin
  have hK := j_vaK hg B.2.2.2.2.2.2.2.1
  have hap := va_apart (own := μ.1.cls) hts (fun _ hw => hw) ty0 hty hnm hK hc
  obtain ⟨⟨r, h1, cell, q1, q2, q3, q4⟩, hBa⟩ := hR.1 a _ ha
  have hr : r = (C, T, N) := Option.some.inj (h1.symm.trans hc)
  subst hr
  obtain ⟨hS, hfc, kC, hkC, hkind⟩ := hK.1 ci _ hc
  obtain ⟨cf, kf0, fi, f, hi, hsl⟩ := hS kf hk
  have hlay := hts _ (u_in_lay hk)
  unfold u_lay at hlay
  rw [if_neg (by rw [hfin]; decide)] at hlay
  have hst := (u_facts hfc hkC (u_lays hts (fun _ hw => hw) hk) hi).1
  have h6 := u_store hfc hkC hkind hlay hi hd hn hfit
  refine W.putK B.1 B.2.1 (f := f) ⟨B.2.2.2.1, j_word hg B.2.2.2.2.2.2.2.1 hlink rfl, ⟨_, _, _, hi⟩, hst⟩ (by rw [q2]; exact h6) q1 q3 (by rw [hsl]; exact k2_hasslot (q4 kf hk)) rfl rfl hdg fun H' e1 e2 e3 => ?_
  rw [hsl] at e1 ⊢
  exact k hg p e R s m args below meth c B H' ls _ (jR_set hR ha hBa e2 e3 ⟨⟨_, hc, t_OB.to (V := updV (vp_V fs) kf v) ⟨_, e1, q2, q3, t_set q4 hap hk v⟩ (fun j _ => vp_updV_set hlt v j)⟩, hBa⟩) hl
    (fun z hz => by
      rcases List.mem_append.mp hz with h9 | h9
      · exact hL z h9
      · rw [List.mem_singleton.mp h9]
        exact hBa) hf
theorem jr_putF {a ci kf index : Nat} {fs : List Value} {v : Value} {ty : FieldType} (hfl : jFp μ.1.cls index ci kf ty true) (hown : ∀ C T N, vwCl[ci]? = some (C, T, N) → C = μ.1.cls) (hini : μ.1.name = "<init>") (hdg : decode μ.2.1 pc = .ok (.putfield index, 3)) (ha : h.1 a = some (.inr (ci, fs))) (hlt : kf < fs.length) (hn : narrow ty v = v) (hfit : fits ty v = true)
    (k : J g μ d hs P (pc + 3) lv st (jset h a (.inr (ci, fs.set kf v)))) : J g μ d hs P pc lv (v :: .ref a :: st) h := by
  intro hg p e R s m args below meth c B H ls locs hR hl hL hf
  obtain ⟨C, T, N, ty0, hc, hin, hk, hlink, hty, hnm, hd, hfin, hdecl⟩ := hfl
  have hCo := hown C T N hc
  subst hCo
  have hts := j_lays (args := args) hg B.2.2.2.2.2.2.2.1 hin
  have hK := j_vaK hg B.2.2.2.2.2.2.2.1
  have hap := va_apart (own := μ.1.cls) hts (fun _ hw => hw) ty0 hty hnm hK hc
  obtain ⟨⟨r, h1, cell, q1, q2, q3, q4⟩, hBa⟩ := hR.1 a _ ha
  have hr : r = (μ.1.cls, T, N) := Option.some.inj (h1.symm.trans hc)
  subst hr
  obtain ⟨hS, hfc, kC, hkC, hkind⟩ := hK.1 ci _ hc
  obtain ⟨cf, kf0, fi, f, hi, hsl⟩ := hS kf hk
  have hlay := hts _ (u_in_lay hk)
  unfold u_lay at hlay
  rw [if_pos hfin] at hlay
  have hst := (u_facts hfc hkC (u_lays hts (fun _ hw => hw) hk) hi).1
  have hcf : m.cls = cf := by
    obtain ⟨_, _, c', _, _, _, -, -, hf', -, -, -, hown2, -⟩ := Cond.laysFinal_spec hlay
    have e1 : c' = cf := by have := hi.symm.trans hf'; simp at this; exact this.1.symm
    rw [hdecl] at hown2
    rw [← e1]; exact Option.some.inj (B.2.2.2.1.symm.trans hown2)
  have h6 := u_fits hfc hkC hkind (Or.inr hlay) hi hd hn hfit
  refine W.putFinK B.1 B.2.1 B.2.2.2.1 (j_word hg B.2.2.2.2.2.2.2.1 hlink rfl) hi hst hcf (B.2.2.2.2.2.2.2.2.2.2.1.trans hini) (by rw [q2]; exact h6) q1 q3 (by rw [hsl]; exact k2_hasslot (q4 kf hk)) rfl rfl hdg fun H' e1 e2 e3 => ?_
  rw [hsl] at e1 ⊢
  exact k hg p e R s m args below meth c B H' ls _ (jR_set hR ha hBa e2 e3 ⟨⟨_, hc, t_OB.to (V := updV (vp_V fs) kf v) ⟨_, e1, q2, q3, t_set q4 hap hk v⟩ (fun j _ => vp_updV_set hlt v j)⟩, hBa⟩) hl
    (fun z hz => by
      rcases List.mem_append.mp hz with h9 | h9
      · exact hL z h9
      · rw [List.mem_singleton.mp h9]
        exact hBa) hf
theorem jr_new {ci index N : Nat} {fs : List Value} (hnw : jNw μ.1.cls index ci N) (hfs : ∀ C T, vwCl[ci]? = some (C, T, N) → ∀ j, j < N → ∀ ty, parseFieldDescriptor (T j).2.2.1 = some ty → defaultValue ty = vp_V fs j) (hroom : jroom g h 1 N) (hdg : decode μ.2.1 pc = .ok (.new index, 3))
    (k : J g μ d hs P (pc + 3) lv (.ref h.2.1 :: st) (jnew h (.inr (ci, fs)) N)) : J g μ d hs P pc lv st h := by
  intro hg p e R s m args below meth c B H ls locs hR hl hL hf
  obtain ⟨C, T, ty0, hc, hin, hty, hcl, hins, hini⟩ := hnw
  have hts := j_lays (args := args) hg B.2.2.2.2.2.2.2.1 hin
  have hK := j_vaK hg B.2.2.2.2.2.2.2.1
  have hKn := hK.1 ci _ hc
  obtain ⟨f1, f2, f3, f4⟩ := hf
  obtain ⟨m1, m2⟩ := hroom
  obtain ⟨-, -, b3, b4⟩ := B.2.2.2.2.2.2.2.2.1
  have hsz : H.size = h.2.1 := hR.2.1
  refine W.newcK B.1 B.2.1 B.2.2.2.1 (j_word hg B.2.2.2.2.2.2.2.1 hcl rfl) (j_word hg B.2.2.2.2.2.2.2.1 hins rfl) (j_word hg B.2.2.2.2.2.2.2.1 hini rfl) rfl hdg (by omega) (by omega) hKn.2.1 rfl fun H1 kC hkC e1 z1 o1 => ?_
  have hob := (u_born ty0 hts (fun _ hw => hw) hKn hkC e1 hty).to (V' := vp_V fs) (fun j hj => hfs C T hc j hj _ (hty j hj))
  have hR1 : jR g (jnew h (.inr (ci, fs)) N) H1 := jR_new hR z1 o1 ⟨⟨_, hc, hob⟩, by have := hR.2.2.1; omega⟩
  have hk := k hg p e R s m args below meth c B H1 ls locs hR1 hl hL ⟨by show hs.2.1 ≤ h.2.1 + 1; omega, by show hs.2.2 ≤ h.2.2 + N; omega, by show h.2.1 + 1 ≤ _; omega, by show h.2.2 + N ≤ _; omega⟩
  have e1 : (jnew h (.inr (ci, fs)) N).2.1 - hs.2.1 = h.2.1 - hs.2.1 + 1 := by show h.2.1 + 1 - hs.2.1 = _; omega
  have e2 : (jnew h (.inr (ci, fs)) N).2.2 - hs.2.2 = h.2.2 - hs.2.2 + N := by show h.2.2 + N - hs.2.2 = _; omega
  rw [e1, e2] at hk
  rw [hsz]
  exact hk
theorem jr_newarr {t : Nat} {atype : ArrayType} {n : Int32} {N : Nat} {x : vp_A} (hty : jTy t = some (newarray.typeOf atype)) (ht : t < 10) (hw : Cond.arrayClass (newarray.typeOf atype) ∈ lw_tbl) (hx : ∀ cA : ClassId, vp_cell cA x = arrV cA N (fun _ => defaultValue (newarray.typeOf atype))) (hn : n = nI N) (hN : N < 100000000) (hbytes : N * componentBytes (newarray.typeOf atype) ≤ 536870912) (hroom : jroom g h 1 N) (hdg : decode μ.2.1 pc = .ok (.newarray atype, 2))
    (k : J g μ d hs P (pc + 2) lv (.ref h.2.1 :: st) (jnew h (.inl (t, x)) N)) : J g μ d hs P pc lv (.int n :: st) h := by
  intro hg p e R s m args below meth c B H ls locs hR hl hL hf
  obtain ⟨f1, f2, f3, f4⟩ := hf
  obtain ⟨m1, m2⟩ := hroom
  obtain ⟨-, -, b3, b4⟩ := B.2.2.2.2.2.2.2.2.1
  have hsz : H.size = h.2.1 := hR.2.1
  subst hn
  refine va_newaK B.1 B.2.1 (j_word hg B.2.2.2.2.2.2.2.1 hw rfl) rfl hdg rfl (nI_pos (by omega)) (nI_clamp (by omega)) hbytes (by omega) (by omega) rfl fun H1 cA e1 z1 o1 hAr hNm => ?_
  have hcA : g.2.2.2.2.1 t = cA := by
    have h1 := (j_arr hg B.2.2.2.2.2.2.2.1 hty).2
    have h2 : s.vm.findClass ("[" ++ (newarray.typeOf atype).toString) = some (g.2.2.2.2.1 t) := by cases atype <;> exact h1
    exact Option.some.inj (h2.symm.trans hNm)
  have hR1 : jR g (jnew h (.inl (t, x)) N) H1 := jR_new hR z1 o1 ⟨jcl_lo ht (by rw [hcA, hx]; exact e1), Or.inr (by have := hR.2.2.1; omega)⟩
  have hk := k hg p e R s m args below meth c B H1 ls locs hR1 hl hL ⟨by show hs.2.1 ≤ h.2.1 + 1; omega, by show hs.2.2 ≤ h.2.2 + N; omega, by show h.2.1 + 1 ≤ _; omega, by show h.2.2 + N ≤ _; omega⟩
  have e1 : (jnew h (.inl (t, x)) N).2.1 - hs.2.1 = h.2.1 - hs.2.1 + 1 := by show h.2.1 + 1 - hs.2.1 = _; omega
  have e2 : (jnew h (.inl (t, x)) N).2.2 - hs.2.2 = h.2.2 - hs.2.2 + N := by show h.2.2 + N - hs.2.2 = _; omega
  rw [e1, e2] at hk
  rw [hsz]
  exact hk
theorem jr_iald {a n : Nat} {f : Nat → Int32} {i : Int32} (hdg : decode μ.2.1 pc = .ok (.iaload, 1)) (ha : h.1 a = some (.inl (0, (n, .inl f)))) (hin : vp_in i n) (k : J g μ d hs P (pc + 1) lv (.int (f i.toNatClampNeg) :: st) h) : J g μ d hs P pc lv (.int i :: .ref a :: st) h :=
  fun hg p e R s m args below meth c B H ls locs hR hl hL hf => va_iald B.1 B.2.1 (j_tys hg B.2.2.2.2.2.2.2.1 (show jTy 0 = some _ from rfl)) (j_cell hR ha) 0 0 rfl rfl hin hdg (k hg p e R s m args below meth c B H ls locs hR hl hL hf)
theorem jr_bald {a n : Nat} {f : Nat → Int32} {i : Int32} (hdg : decode μ.2.1 pc = .ok (.baload, 1)) (ha : h.1 a = some (.inl (1, (n, .inl f)))) (hin : vp_in i n) (k : J g μ d hs P (pc + 1) lv (.int (f i.toNatClampNeg) :: st) h) : J g μ d hs P pc lv (.int i :: .ref a :: st) h :=
  fun hg p e R s m args below meth c B H ls locs hR hl hL hf => va_bald B.1 B.2.1 (j_tys hg B.2.2.2.2.2.2.2.1 (show jTy 1 = some _ from rfl)) (j_cell hR ha) 0 0 rfl rfl hin hdg (k hg p e R s m args below meth c B H ls locs hR hl hL hf)
theorem jr_zald {a n : Nat} {f : Nat → Int32} {i : Int32} (hdg : decode μ.2.1 pc = .ok (.baload, 1)) (ha : h.1 a = some (.inl (2, (n, .inl f)))) (hin : vp_in i n) (k : J g μ d hs P (pc + 1) lv (.int (f i.toNatClampNeg) :: st) h) : J g μ d hs P pc lv (.int i :: .ref a :: st) h :=
  fun hg p e R s m args below meth c B H ls locs hR hl hL hf => va_zald B.1 B.2.1 (j_tys hg B.2.2.2.2.2.2.2.1 (show jTy 2 = some _ from rfl)) (j_cell hR ha) 0 0 rfl rfl hin hdg (k hg p e R s m args below meth c B H ls locs hR hl hL hf)
theorem jr_lald {a n : Nat} {f : Nat → Int64} {i : Int32} (hdg : decode μ.2.1 pc = .ok (.laload, 1)) (ha : h.1 a = some (.inl (3, (n, .inr (.inl f))))) (hin : vp_in i n) (k : J g μ d hs P (pc + 1) lv (.long (f i.toNatClampNeg) :: st) h) : J g μ d hs P pc lv (.int i :: .ref a :: st) h :=
  fun hg p e R s m args below meth c B H ls locs hR hl hL hf => va_lald B.1 B.2.1 (j_tys hg B.2.2.2.2.2.2.2.1 (show jTy 3 = some _ from rfl)) (j_cell hR ha) 0 0 rfl rfl hin hdg (k hg p e R s m args below meth c B H ls locs hR hl hL hf)
theorem jr_sald {a n : Nat} {f : Nat → Int32} {i : Int32} (hdg : decode μ.2.1 pc = .ok (.iaload, 1)) (ha : h.1 a = some (.inl (11, (n, .inl f)))) (hin : vp_in i n) (k : J g μ d hs P (pc + 1) lv (.int (f i.toNatClampNeg) :: st) h) : J g μ d hs P pc lv (.int i :: .ref a :: st) h := by
  intro hg p e R s m args below meth c B H ls locs hR hl hL hf
  have ho : jold g H a (n, .inl f) := (hR.1 a _ ha).1.2 (Nat.le_of_ble_eq_true rfl)
  obtain ⟨scr, h1, h2, h3, h4, h5⟩ := va_X.moved B.2.2.2.2.2.2.2.1.alike (show va_X a n f g.2.1 H from ho)
  have hlt : i.toNatClampNeg < n := Nat.not_le.mp fun q => hin (Or.inr q)
  exact W.iald (v := .int (f i.toNatClampNeg)) B.1 B.2.1 h1 h2 h3 (by rw [h4]; exact hin) (h5 _ hlt) rfl rfl hdg (k hg p e R s m args below meth c B H ls locs hR hl hL hf)
theorem jr_qald4 {a n : Nat} {f : Nat → Option Nat} {i : Int32} (hdg : decode μ.2.1 pc = .ok (.aaload, 1)) (ha : h.1 a = some (.inl (4, (n, .inr (.inr (.inr (.inr f))))))) (hin : vp_in i n) (k : J g μ d hs P (pc + 1) lv (va_rf (f i.toNatClampNeg) :: st) h) : J g μ d hs P pc lv (.int i :: .ref a :: st) h :=
  fun hg p e R s m args below meth c B H ls locs hR hl hL hf => va_aldq B.1 B.2.1 (j_tys hg B.2.2.2.2.2.2.2.1 (show jTy 4 = some _ from rfl)) (j_cell hR ha) 0 0 rfl rfl hin hdg (k hg p e R s m args below meth c B H ls locs hR hl hL hf)
theorem jr_qald5 {a n : Nat} {f : Nat → Option Nat} {i : Int32} (hdg : decode μ.2.1 pc = .ok (.aaload, 1)) (ha : h.1 a = some (.inl (5, (n, .inr (.inr (.inr (.inr f))))))) (hin : vp_in i n) (k : J g μ d hs P (pc + 1) lv (va_rf (f i.toNatClampNeg) :: st) h) : J g μ d hs P pc lv (.int i :: .ref a :: st) h :=
  fun hg p e R s m args below meth c B H ls locs hR hl hL hf => va_aldq B.1 B.2.1 (j_tys hg B.2.2.2.2.2.2.2.1 (show jTy 5 = some _ from rfl)) (j_cell hR ha) 0 0 rfl rfl hin hdg (k hg p e R s m args below meth c B H ls locs hR hl hL hf)
theorem jr_qald6 {a n : Nat} {f : Nat → Option Nat} {i : Int32} (hdg : decode μ.2.1 pc = .ok (.aaload, 1)) (ha : h.1 a = some (.inl (6, (n, .inr (.inr (.inr (.inr f))))))) (hin : vp_in i n) (k : J g μ d hs P (pc + 1) lv (va_rf (f i.toNatClampNeg) :: st) h) : J g μ d hs P pc lv (.int i :: .ref a :: st) h :=
  fun hg p e R s m args below meth c B H ls locs hR hl hL hf => va_aldq B.1 B.2.1 (j_tys hg B.2.2.2.2.2.2.2.1 (show jTy 6 = some _ from rfl)) (j_cell hR ha) 0 0 rfl rfl hin hdg (k hg p e R s m args below meth c B H ls locs hR hl hL hf)
theorem jr_qald7 {a n : Nat} {f : Nat → Option Nat} {i : Int32} (hdg : decode μ.2.1 pc = .ok (.aaload, 1)) (ha : h.1 a = some (.inl (7, (n, .inr (.inr (.inr (.inr f))))))) (hin : vp_in i n) (k : J g μ d hs P (pc + 1) lv (va_rf (f i.toNatClampNeg) :: st) h) : J g μ d hs P pc lv (.int i :: .ref a :: st) h := by
  intro hg p e R s m args below meth c B H ls locs hR hl hL hf
  have hP := j_cell hR ha
  have hlt : i.toNatClampNeg < n := Nat.not_le.mp fun q => hin (Or.inr q)
  exact W.aald (v := va_rf (f i.toNatClampNeg)) B.1 B.2.1 (hP 0 _ rfl) ((j_arr hg B.2.2.2.2.2.2.2.1 (show jTy 7 = some _ from rfl)).1 n (fun j => va_rf (f j))) rfl (fun q => by cases q) (by show ¬ (i < 0 ∨ (arrV _ _ _).slots.size ≤ _); rw [arrV_size]; exact hin) (by show (arrV _ _ _).slots[_]? = _; rw [arrV_read _ _ hlt]) rfl rfl hdg (k hg p e R s m args below meth c B H ls locs hR hl hL hf)
theorem jr_alen {a t : Nat} {x : vp_A} {ty : FieldType} {v : Int32} (hdg : decode μ.2.1 pc = .ok (.arraylength, 1)) (hty : jTy t = some ty) (ha : h.1 a = some (.inl (t, x))) (hv : Int32.ofNat x.1 = v) (k : J g μ d hs P (pc + 1) lv (.int v :: st) h) : J g μ d hs P pc lv (.ref a :: st) h := by
  intro hg p e R s m args below meth c B H ls locs hR hl hL hf
  by_cases ht : t < 10
  · exact va_alen B.1 B.2.1 (j_tys hg B.2.2.2.2.2.2.2.1 hty) (j_cell hR ha ht) 0 rfl (t0 := 0) rfl hv hdg (k hg p e R s m args below meth c B H ls locs hR hl hL hf)
  · have ho : jold g H a x := (hR.1 a _ ha).1.2 (Nat.not_lt.mp ht)
    obtain ⟨n, y⟩ := x
    cases y with
    | inl f =>
      obtain ⟨scr, h1, h2, h3, h4, h5⟩ := va_X.moved B.2.2.2.2.2.2.2.1.alike (show va_X a n f g.2.1 H from ho)
      subst hv
      exact W.alen (n := Int32.ofNat n) B.1 B.2.1 h1 h2 (by rw [h4] <;> rfl) rfl rfl hdg (k hg p e R s m args below meth c B H ls locs hR hl hL hf)
    | inr y => exact (show False from ho).elim
theorem jr_iast {a n : Nat} {f : Nat → Int32} {i : Int32} {x : Int32} (hdg : decode μ.2.1 pc = .ok (.iastore, 1)) (ha : h.1 a = some (.inl (0, (n, .inl f)))) (hin : vp_in i n) (k : J g μ d hs P (pc + 1) lv st (jset h a (.inl (0, (n, .inl (upd f i.toNatClampNeg x)))))) : J g μ d hs P pc lv (.int x :: .int i :: .ref a :: st) h := by
  intro hg p e R s m args below meth c B H ls locs hR hl hL hf
  have hP := j_cell hR ha
  have hBa : jB0 g ≤ a := by
    rcases (hR.1 a _ ha).2 with h9 | h9
    · exact absurd h9 (Nat.not_le.mpr (by decide +kernel : (0 : Nat) < 10))
    · exact h9
  refine W.iast B.1 B.2.1 (hP 0 _ rfl) ((j_arr hg B.2.2.2.2.2.2.2.1 (show jTy 0 = some _ from rfl)).1 n (fun j => .int (f j))) (fun q => by cases q) (by show ¬ (i < 0 ∨ (arrV _ _ _).slots.size ≤ _); rw [arrV_size]; exact hin) rfl rfl hdg fun H1 e1 z oq => ?_
  refine k hg p e R s m args below meth c B H1 ls _ (jR_set hR ha hBa z oq ⟨jcl_lo (Nat.le_of_ble_eq_true rfl) ?_, Or.inr hBa⟩) hl (fun z hz => by
      rcases List.mem_append.mp hz with h9 | h9
      · exact hL z h9
      · rw [List.mem_singleton.mp h9]
        exact hBa) hf
  show H1[a]? = some (vp_cell _ _)
  rw [e1]
  rw [vp_cell_i, vp_cell_i, arrV_store]
  congr 2
  funext q
  by_cases hq : q = i.toNatClampNeg
  · subst hq
    simp [updV, upd]
  · simp [updV, upd, hq]
theorem jr_bast {a n : Nat} {f : Nat → Int32} {i : Int32} {x : Int32} (hdg : decode μ.2.1 pc = .ok (.bastore, 1)) (ha : h.1 a = some (.inl (1, (n, .inl f)))) (hin : vp_in i n) (k : J g μ d hs P (pc + 1) lv st (jset h a (.inl (1, (n, .inl (upd f i.toNatClampNeg (vp_nar .byte x))))))) : J g μ d hs P pc lv (.int x :: .int i :: .ref a :: st) h := by
  intro hg p e R s m args below meth c B H ls locs hR hl hL hf
  have hP := j_cell hR ha
  have hBa : jB0 g ≤ a := by
    rcases (hR.1 a _ ha).2 with h9 | h9
    · exact absurd h9 (Nat.not_le.mpr (by decide +kernel : (1 : Nat) < 10))
    · exact h9
  refine W.bast B.1 B.2.1 (hP 0 _ rfl) ((j_arr hg B.2.2.2.2.2.2.2.1 (show jTy 1 = some _ from rfl)).1 n (fun j => .int (f j))) (fun q => by cases q) (by show ¬ (i < 0 ∨ (arrV _ _ _).slots.size ≤ _); rw [arrV_size]; exact hin) rfl rfl hdg fun H1 e1 z oq => ?_
  refine k hg p e R s m args below meth c B H1 ls _ (jR_set hR ha hBa z oq ⟨jcl_lo (Nat.le_of_ble_eq_true rfl) ?_, Or.inr hBa⟩) hl (fun z hz => by
      rcases List.mem_append.mp hz with h9 | h9
      · exact hL z h9
      · rw [List.mem_singleton.mp h9]
        exact hBa) hf
  show H1[a]? = some (vp_cell _ _)
  rw [e1]
  rw [vp_cell_i, vp_cell_i, arrV_store]
  congr 2
  funext q
  by_cases hq : q = i.toNatClampNeg
  · subst hq
    simp [updV, upd, vp_nar]
    try rfl
  · simp [updV, upd, hq]
theorem jr_zast {a n : Nat} {f : Nat → Int32} {i : Int32} {x : Int32} (hdg : decode μ.2.1 pc = .ok (.bastore, 1)) (ha : h.1 a = some (.inl (2, (n, .inl f)))) (hin : vp_in i n) (k : J g μ d hs P (pc + 1) lv st (jset h a (.inl (2, (n, .inl (upd f i.toNatClampNeg (vp_nar .boolean x))))))) : J g μ d hs P pc lv (.int x :: .int i :: .ref a :: st) h := by
  intro hg p e R s m args below meth c B H ls locs hR hl hL hf
  have hP := j_cell hR ha
  have hBa : jB0 g ≤ a := by
    rcases (hR.1 a _ ha).2 with h9 | h9
    · exact absurd h9 (Nat.not_le.mpr (by decide +kernel : (2 : Nat) < 10))
    · exact h9
  refine W.zast B.1 B.2.1 (hP 0 _ rfl) ((j_arr hg B.2.2.2.2.2.2.2.1 (show jTy 2 = some _ from rfl)).1 n (fun j => .int (f j))) (fun q => by cases q) (by show ¬ (i < 0 ∨ (arrV _ _ _).slots.size ≤ _); rw [arrV_size]; exact hin) rfl rfl hdg fun H1 e1 z oq => ?_
  refine k hg p e R s m args below meth c B H1 ls _ (jR_set hR ha hBa z oq ⟨jcl_lo (Nat.le_of_ble_eq_true rfl) ?_, Or.inr hBa⟩) hl (fun z hz => by
      rcases List.mem_append.mp hz with h9 | h9
      · exact hL z h9
      · rw [List.mem_singleton.mp h9]
        exact hBa) hf
  show H1[a]? = some (vp_cell _ _)
  rw [e1]
  rw [vp_cell_i, vp_cell_i, arrV_store]
  congr 2
  funext q
  by_cases hq : q = i.toNatClampNeg
  · subst hq
    simp [updV, upd, vp_nar]
    try rfl
  · simp [updV, upd, hq]
theorem jr_last {a n : Nat} {f : Nat → Int64} {i : Int32} {x : Int64} (hdg : decode μ.2.1 pc = .ok (.lastore, 1)) (ha : h.1 a = some (.inl (3, (n, .inr (.inl f))))) (hin : vp_in i n) (k : J g μ d hs P (pc + 1) lv st (jset h a (.inl (3, (n, .inr (.inl (vp_updL f i.toNatClampNeg x))))))) : J g μ d hs P pc lv (.long x :: .int i :: .ref a :: st) h := by
  intro hg p e R s m args below meth c B H ls locs hR hl hL hf
  have hP := j_cell hR ha
  have hBa : jB0 g ≤ a := by
    rcases (hR.1 a _ ha).2 with h9 | h9
    · exact absurd h9 (Nat.not_le.mpr (by decide +kernel : (3 : Nat) < 10))
    · exact h9
  refine W.last B.1 B.2.1 (hP 0 _ rfl) ((j_arr hg B.2.2.2.2.2.2.2.1 (show jTy 3 = some _ from rfl)).1 n (fun j => .long (f j))) (fun q => by cases q) (by show ¬ (i < 0 ∨ (arrV _ _ _).slots.size ≤ _); rw [arrV_size]; exact hin) rfl rfl hdg fun H1 e1 z oq => ?_
  refine k hg p e R s m args below meth c B H1 ls _ (jR_set hR ha hBa z oq ⟨jcl_lo (Nat.le_of_ble_eq_true rfl) ?_, Or.inr hBa⟩) hl (fun z hz => by
      rcases List.mem_append.mp hz with h9 | h9
      · exact hL z h9
      · rw [List.mem_singleton.mp h9]
        exact hBa) hf
  show H1[a]? = some (vp_cell _ _)
  rw [e1]
  rw [vp_cell_l, vp_cell_l, arrV_store]
  congr 2
  funext q
  by_cases hq : q = i.toNatClampNeg
  · subst hq
    simp [updV, vp_updL]
  · simp [updV, vp_updL, hq]
theorem jr_qast4 {a n v : Nat} {f : Nat → Option Nat} {vs : List Value} {i : Int32} (hdg : decode μ.2.1 pc = .ok (.aastore, 1)) (ha : h.1 a = some (.inl (4, (n, .inr (.inr (.inr (.inr f))))))) (hv : h.1 v = some (.inr (6, vs))) (hin : vp_in i n) (k : J g μ d hs P (pc + 1) lv st (jset h a (.inl (4, (n, .inr (.inr (.inr (.inr (va_up f i.toNatClampNeg (some v))))))))))  : J g μ d hs P pc lv (.ref v :: .int i :: .ref a :: st) h := by
  intro hg p e R s m args below meth c B H ls locs hR hl hL hf
  have hP := j_cell hR ha
  have hlt : i.toNatClampNeg < n := Nat.not_le.mp fun q => hin (Or.inr q)
  have h0 : ¬ i < 0 := fun q => hin (Or.inl q)
  have hBa : jB0 g ≤ a := by
    rcases (hR.1 a _ ha).2 with h9 | h9
    · exact absurd h9 (Nat.not_le.mpr (by decide +kernel : (4 : Nat) < 10))
    · exact h9
  obtain ⟨⟨r', hr', cellV, g1, g2, g3, -⟩, -⟩ := hR.1 v _ hv
  have hcls := ((j_vaK hg B.2.2.2.2.2.2.2.1).1 6 _ rfl).2
  obtain ⟨kA, comp, k1, k2, k3, -⟩ := (j_arr hg B.2.2.2.2.2.2.2.1 (show jTy 4 = some _ from rfl)).2
  have hcomp : comp = g.2.2.2.1.1 6 := Option.some.inj (k3.symm.trans hcls.1)
  subst hcomp
  obtain ⟨kC, hkC, -⟩ := hcls.2
  refine W.aast B.1 B.2.1 (hP 0 _ rfl) (fun q h => by cases h) (fun h => by cases h) k1 k2 rfl hkC ⟨h0, by show _ < (arrV _ _ _).slots.size; rw [arrV_size]; exact hlt⟩ g1 (fun q h => by rw [g3] at h; cases h) (by rw [g2]; exact hkC) (by rw [g2]; exact va_assign hcls) rfl rfl hdg fun H1 e1 z oq => ?_
  refine k hg p e R s m args below meth c B H1 ls _ (jR_set hR ha hBa z oq ⟨jcl_lo (Nat.le_of_ble_eq_true rfl) ?_, Or.inr hBa⟩) hl (fun z hz => by
      rcases List.mem_append.mp hz with h9 | h9
      · exact hL z h9
      · rw [List.mem_singleton.mp h9]
        exact hBa) hf
  show H1[a]? = some (vp_cell _ _)
  rw [e1]
  rw [vp_cell_q, vp_cell_q, arrV_store]
  congr 2
  funext q
  by_cases hq : q = i.toNatClampNeg
  · subst hq
    simp [updV, va_up, va_rf]
  · simp [updV, va_up, hq]
theorem jr_newq4 {n : Int32} {N index : Nat} (hcl : Cond.classLink μ.1.cls index "DebtStreet$Street" ∈ lw_tbl) (hao : Cond.arrayOver (.object "DebtStreet$Street") ∈ lw_tbl) (hn : n = nI N) (hN : N < 100000) (hroom : jroom g h 1 N) (hdg : decode μ.2.1 pc = .ok (.anewarray index, 3))
    (k : J g μ d hs P (pc + 3) lv (.ref h.2.1 :: st) (jnew h (.inl (4, (N, .inr (.inr (.inr (.inr (fun _ => none))))))) N)) : J g μ d hs P pc lv (.int n :: st) h := by
  intro hg p e R s m args below meth c B H ls locs hR hl hL hf
  obtain ⟨f1, f2, f3, f4⟩ := hf
  obtain ⟨m1, m2⟩ := hroom
  obtain ⟨-, -, b3, b4⟩ := B.2.2.2.2.2.2.2.2.1
  have hsz : H.size = h.2.1 := hR.2.1
  subst hn
  have hao9 : va_AO "DebtStreet$Street" s := (va_AO.of (hg.2.1 _ hao)).moved B.2.2.2.2.2.2.2.1.alike
  refine W.anew B.1 B.2.1 B.2.2.2.1 (j_word hg B.2.2.2.2.2.2.2.1 hcl rfl) (va_AO.use hao9) rfl hdg rfl (nI_pos (by omega)) (by rw [nI_clamp (by omega)]; omega) (by omega) (by rw [nI_clamp (by omega)]; omega) fun cA kA comp q1 q2 q3 q4 => ?_
  rw [nI_clamp (by omega)]
  generalize hH1 : H.push ({ cls := cA, slots := Array.replicate N .null, vm := .none } : Cell) = H1
  have z1 : H1.size = H.size + 1 := by rw [← hH1, Array.size_push]
  have e1 : H1[H.size]? = some (arrV cA N (fun _ => .null)) := by rw [← hH1, Array.getElem?_push_size, ← arrV_new]
  have o1 : ∀ q : Nat, q < H.size → H1[q]? = H[q]? := fun q hq => by rw [← hH1, Array.getElem?_push, if_neg (Nat.ne_of_lt hq)]
  have hcA : g.2.2.2.2.1 4 = cA := by
    obtain ⟨kA', comp', k1, k2, k3, k4⟩ := (j_arr hg B.2.2.2.2.2.2.2.1 (show jTy 4 = some _ from rfl)).2
    exact Option.some.inj (k4.symm.trans q1)
  have hR1 : jR g (jnew h (.inl (4, (N, .inr (.inr (.inr (.inr (fun _ => none))))))) N) H1 := jR_new hR z1 o1 ⟨jcl_lo (Nat.le_of_ble_eq_true rfl) (by rw [hcA]; exact e1), Or.inr (by have := hR.2.2.1; omega)⟩
  have hk := k hg p e R s m args below meth c B H1 ls locs hR1 hl hL ⟨by show hs.2.1 ≤ h.2.1 + 1; omega, by show hs.2.2 ≤ h.2.2 + N; omega, by show h.2.1 + 1 ≤ _; omega, by show h.2.2 + N ≤ _; omega⟩
  have e2 : (jnew h (.inl (4, (N, .inr (.inr (.inr (.inr (fun _ => none))))))) N).2.1 - hs.2.1 = h.2.1 - hs.2.1 + 1 := by show h.2.1 + 1 - hs.2.1 = _; omega
  have e3 : (jnew h (.inl (4, (N, .inr (.inr (.inr (.inr (fun _ => none))))))) N).2.2 - hs.2.2 = h.2.2 - hs.2.2 + N := by show h.2.2 + N - hs.2.2 = _; omega
  rw [e2, e3] at hk
  rw [hsz]
  exact hk
theorem jr_qast5 {a n v : Nat} {f : Nat → Option Nat} {vs : List Value} {i : Int32} (hdg : decode μ.2.1 pc = .ok (.aastore, 1)) (ha : h.1 a = some (.inl (5, (n, .inr (.inr (.inr (.inr f))))))) (hv : h.1 v = some (.inr (3, vs))) (hin : vp_in i n) (k : J g μ d hs P (pc + 1) lv st (jset h a (.inl (5, (n, .inr (.inr (.inr (.inr (va_up f i.toNatClampNeg (some v))))))))))  : J g μ d hs P pc lv (.ref v :: .int i :: .ref a :: st) h := by
  intro hg p e R s m args below meth c B H ls locs hR hl hL hf
  have hP := j_cell hR ha
  have hlt : i.toNatClampNeg < n := Nat.not_le.mp fun q => hin (Or.inr q)
  have h0 : ¬ i < 0 := fun q => hin (Or.inl q)
  have hBa : jB0 g ≤ a := by
    rcases (hR.1 a _ ha).2 with h9 | h9
    · exact absurd h9 (Nat.not_le.mpr (by decide +kernel : (5 : Nat) < 10))
    · exact h9
  obtain ⟨⟨r', hr', cellV, g1, g2, g3, -⟩, -⟩ := hR.1 v _ hv
  have hcls := ((j_vaK hg B.2.2.2.2.2.2.2.1).1 3 _ rfl).2
  obtain ⟨kA, comp, k1, k2, k3, -⟩ := (j_arr hg B.2.2.2.2.2.2.2.1 (show jTy 5 = some _ from rfl)).2
  have hcomp : comp = g.2.2.2.1.1 3 := Option.some.inj (k3.symm.trans hcls.1)
  subst hcomp
  obtain ⟨kC, hkC, -⟩ := hcls.2
  refine W.aast B.1 B.2.1 (hP 0 _ rfl) (fun q h => by cases h) (fun h => by cases h) k1 k2 rfl hkC ⟨h0, by show _ < (arrV _ _ _).slots.size; rw [arrV_size]; exact hlt⟩ g1 (fun q h => by rw [g3] at h; cases h) (by rw [g2]; exact hkC) (by rw [g2]; exact va_assign hcls) rfl rfl hdg fun H1 e1 z oq => ?_
  refine k hg p e R s m args below meth c B H1 ls _ (jR_set hR ha hBa z oq ⟨jcl_lo (Nat.le_of_ble_eq_true rfl) ?_, Or.inr hBa⟩) hl (fun z hz => by
      rcases List.mem_append.mp hz with h9 | h9
      · exact hL z h9
      · rw [List.mem_singleton.mp h9]
        exact hBa) hf
  show H1[a]? = some (vp_cell _ _)
  rw [e1]
  rw [vp_cell_q, vp_cell_q, arrV_store]
  congr 2
  funext q
  by_cases hq : q = i.toNatClampNeg
  · subst hq
    simp [updV, va_up, va_rf]
  · simp [updV, va_up, hq]
theorem jr_newq5 {n : Int32} {N index : Nat} (hcl : Cond.classLink μ.1.cls index "DebtStreet$Image" ∈ lw_tbl) (hao : Cond.arrayOver (.object "DebtStreet$Image") ∈ lw_tbl) (hn : n = nI N) (hN : N < 100000) (hroom : jroom g h 1 N) (hdg : decode μ.2.1 pc = .ok (.anewarray index, 3))
    (k : J g μ d hs P (pc + 3) lv (.ref h.2.1 :: st) (jnew h (.inl (5, (N, .inr (.inr (.inr (.inr (fun _ => none))))))) N)) : J g μ d hs P pc lv (.int n :: st) h := by
  intro hg p e R s m args below meth c B H ls locs hR hl hL hf
  obtain ⟨f1, f2, f3, f4⟩ := hf
  obtain ⟨m1, m2⟩ := hroom
  obtain ⟨-, -, b3, b4⟩ := B.2.2.2.2.2.2.2.2.1
  have hsz : H.size = h.2.1 := hR.2.1
  subst hn
  have hao9 : va_AO "DebtStreet$Image" s := (va_AO.of (hg.2.1 _ hao)).moved B.2.2.2.2.2.2.2.1.alike
  refine W.anew B.1 B.2.1 B.2.2.2.1 (j_word hg B.2.2.2.2.2.2.2.1 hcl rfl) (va_AO.use hao9) rfl hdg rfl (nI_pos (by omega)) (by rw [nI_clamp (by omega)]; omega) (by omega) (by rw [nI_clamp (by omega)]; omega) fun cA kA comp q1 q2 q3 q4 => ?_
  rw [nI_clamp (by omega)]
  generalize hH1 : H.push ({ cls := cA, slots := Array.replicate N .null, vm := .none } : Cell) = H1
  have z1 : H1.size = H.size + 1 := by rw [← hH1, Array.size_push]
  have e1 : H1[H.size]? = some (arrV cA N (fun _ => .null)) := by rw [← hH1, Array.getElem?_push_size, ← arrV_new]
  have o1 : ∀ q : Nat, q < H.size → H1[q]? = H[q]? := fun q hq => by rw [← hH1, Array.getElem?_push, if_neg (Nat.ne_of_lt hq)]
  have hcA : g.2.2.2.2.1 5 = cA := by
    obtain ⟨kA', comp', k1, k2, k3, k4⟩ := (j_arr hg B.2.2.2.2.2.2.2.1 (show jTy 5 = some _ from rfl)).2
    exact Option.some.inj (k4.symm.trans q1)
  have hR1 : jR g (jnew h (.inl (5, (N, .inr (.inr (.inr (.inr (fun _ => none))))))) N) H1 := jR_new hR z1 o1 ⟨jcl_lo (Nat.le_of_ble_eq_true rfl) (by rw [hcA]; exact e1), Or.inr (by have := hR.2.2.1; omega)⟩
  have hk := k hg p e R s m args below meth c B H1 ls locs hR1 hl hL ⟨by show hs.2.1 ≤ h.2.1 + 1; omega, by show hs.2.2 ≤ h.2.2 + N; omega, by show h.2.1 + 1 ≤ _; omega, by show h.2.2 + N ≤ _; omega⟩
  have e2 : (jnew h (.inl (5, (N, .inr (.inr (.inr (.inr (fun _ => none))))))) N).2.1 - hs.2.1 = h.2.1 - hs.2.1 + 1 := by show h.2.1 + 1 - hs.2.1 = _; omega
  have e3 : (jnew h (.inl (5, (N, .inr (.inr (.inr (.inr (fun _ => none))))))) N).2.2 - hs.2.2 = h.2.2 - hs.2.2 + N := by show h.2.2 + N - hs.2.2 = _; omega
  rw [e2, e3] at hk
  rw [hsz]
  exact hk
theorem jr_qast6 {a n v : Nat} {f : Nat → Option Nat} {vs : List Value} {i : Int32} (hdg : decode μ.2.1 pc = .ok (.aastore, 1)) (ha : h.1 a = some (.inl (6, (n, .inr (.inr (.inr (.inr f))))))) (hv : h.1 v = some (.inr (10, vs))) (hin : vp_in i n) (k : J g μ d hs P (pc + 1) lv st (jset h a (.inl (6, (n, .inr (.inr (.inr (.inr (va_up f i.toNatClampNeg (some v))))))))))  : J g μ d hs P pc lv (.ref v :: .int i :: .ref a :: st) h := by
  intro hg p e R s m args below meth c B H ls locs hR hl hL hf
  have hP := j_cell hR ha
  have hlt : i.toNatClampNeg < n := Nat.not_le.mp fun q => hin (Or.inr q)
  have h0 : ¬ i < 0 := fun q => hin (Or.inl q)
  have hBa : jB0 g ≤ a := by
    rcases (hR.1 a _ ha).2 with h9 | h9
    · exact absurd h9 (Nat.not_le.mpr (by decide +kernel : (6 : Nat) < 10))
    · exact h9
  obtain ⟨⟨r', hr', cellV, g1, g2, g3, -⟩, -⟩ := hR.1 v _ hv
  have hcls := ((j_vaK hg B.2.2.2.2.2.2.2.1).1 10 _ rfl).2
  obtain ⟨kA, comp, k1, k2, k3, -⟩ := (j_arr hg B.2.2.2.2.2.2.2.1 (show jTy 6 = some _ from rfl)).2
  have hcomp : comp = g.2.2.2.1.1 10 := Option.some.inj (k3.symm.trans hcls.1)
  subst hcomp
  obtain ⟨kC, hkC, -⟩ := hcls.2
  refine W.aast B.1 B.2.1 (hP 0 _ rfl) (fun q h => by cases h) (fun h => by cases h) k1 k2 rfl hkC ⟨h0, by show _ < (arrV _ _ _).slots.size; rw [arrV_size]; exact hlt⟩ g1 (fun q h => by rw [g3] at h; cases h) (by rw [g2]; exact hkC) (by rw [g2]; exact va_assign hcls) rfl rfl hdg fun H1 e1 z oq => ?_
  refine k hg p e R s m args below meth c B H1 ls _ (jR_set hR ha hBa z oq ⟨jcl_lo (Nat.le_of_ble_eq_true rfl) ?_, Or.inr hBa⟩) hl (fun z hz => by
      rcases List.mem_append.mp hz with h9 | h9
      · exact hL z h9
      · rw [List.mem_singleton.mp h9]
        exact hBa) hf
  show H1[a]? = some (vp_cell _ _)
  rw [e1]
  rw [vp_cell_q, vp_cell_q, arrV_store]
  congr 2
  funext q
  by_cases hq : q = i.toNatClampNeg
  · subst hq
    simp [updV, va_up, va_rf]
  · simp [updV, va_up, hq]
theorem jr_newq6 {n : Int32} {N index : Nat} (hcl : Cond.classLink μ.1.cls index "DebtStreet$Tray" ∈ lw_tbl) (hao : Cond.arrayOver (.object "DebtStreet$Tray") ∈ lw_tbl) (hn : n = nI N) (hN : N < 100000) (hroom : jroom g h 1 N) (hdg : decode μ.2.1 pc = .ok (.anewarray index, 3))
    (k : J g μ d hs P (pc + 3) lv (.ref h.2.1 :: st) (jnew h (.inl (6, (N, .inr (.inr (.inr (.inr (fun _ => none))))))) N)) : J g μ d hs P pc lv (.int n :: st) h := by
  intro hg p e R s m args below meth c B H ls locs hR hl hL hf
  obtain ⟨f1, f2, f3, f4⟩ := hf
  obtain ⟨m1, m2⟩ := hroom
  obtain ⟨-, -, b3, b4⟩ := B.2.2.2.2.2.2.2.2.1
  have hsz : H.size = h.2.1 := hR.2.1
  subst hn
  have hao9 : va_AO "DebtStreet$Tray" s := (va_AO.of (hg.2.1 _ hao)).moved B.2.2.2.2.2.2.2.1.alike
  refine W.anew B.1 B.2.1 B.2.2.2.1 (j_word hg B.2.2.2.2.2.2.2.1 hcl rfl) (va_AO.use hao9) rfl hdg rfl (nI_pos (by omega)) (by rw [nI_clamp (by omega)]; omega) (by omega) (by rw [nI_clamp (by omega)]; omega) fun cA kA comp q1 q2 q3 q4 => ?_
  rw [nI_clamp (by omega)]
  generalize hH1 : H.push ({ cls := cA, slots := Array.replicate N .null, vm := .none } : Cell) = H1
  have z1 : H1.size = H.size + 1 := by rw [← hH1, Array.size_push]
  have e1 : H1[H.size]? = some (arrV cA N (fun _ => .null)) := by rw [← hH1, Array.getElem?_push_size, ← arrV_new]
  have o1 : ∀ q : Nat, q < H.size → H1[q]? = H[q]? := fun q hq => by rw [← hH1, Array.getElem?_push, if_neg (Nat.ne_of_lt hq)]
  have hcA : g.2.2.2.2.1 6 = cA := by
    obtain ⟨kA', comp', k1, k2, k3, k4⟩ := (j_arr hg B.2.2.2.2.2.2.2.1 (show jTy 6 = some _ from rfl)).2
    exact Option.some.inj (k4.symm.trans q1)
  have hR1 : jR g (jnew h (.inl (6, (N, .inr (.inr (.inr (.inr (fun _ => none))))))) N) H1 := jR_new hR z1 o1 ⟨jcl_lo (Nat.le_of_ble_eq_true rfl) (by rw [hcA]; exact e1), Or.inr (by have := hR.2.2.1; omega)⟩
  have hk := k hg p e R s m args below meth c B H1 ls locs hR1 hl hL ⟨by show hs.2.1 ≤ h.2.1 + 1; omega, by show hs.2.2 ≤ h.2.2 + N; omega, by show h.2.1 + 1 ≤ _; omega, by show h.2.2 + N ≤ _; omega⟩
  have e2 : (jnew h (.inl (6, (N, .inr (.inr (.inr (.inr (fun _ => none))))))) N).2.1 - hs.2.1 = h.2.1 - hs.2.1 + 1 := by show h.2.1 + 1 - hs.2.1 = _; omega
  have e3 : (jnew h (.inl (6, (N, .inr (.inr (.inr (.inr (fun _ => none))))))) N).2.2 - hs.2.2 = h.2.2 - hs.2.2 + N := by show h.2.2 + N - hs.2.2 = _; omega
  rw [e2, e3] at hk
  rw [hsz]
  exact hk
theorem jr_copyi {a0 a n0 n1 index : Nat} {f f1 : Nat → Int32} {sp dp n : Int32} (hlink : Cond.methodLink μ.1.cls index arraycopyName ∈ lw_tbl) (hdg : decode μ.2.1 pc = .ok (.invokestatic index, 3)) (ha0 : h.1 a0 = some (.inl (0, (n0, .inl f)))) (ha1 : h.1 a = some (.inl (0, (n1, .inl f1)))) (h1 : ¬ sp < 0) (h2 : ¬ dp < 0) (h3 : ¬ n < 0) (h4 : sp.toNatClampNeg + n.toNatClampNeg ≤ n0) (h5 : dp.toNatClampNeg + n.toNatClampNeg ≤ n1) (hst : (st.map fun v => v.category).sum ≤ 8)
    (k : J g μ d hs P (pc + 3) lv st (jset h a (.inl (0, (n1, .inl (va_cpy f f1 sp.toNatClampNeg dp.toNatClampNeg n.toNatClampNeg)))))) : J g μ d hs P pc lv (.int n :: .int dp :: .ref a :: .int sp :: .ref a0 :: st) h := by
  intro hg p e R s m args below meth c B H ls locs hR hl hL hf
  have hBa : jB0 g ≤ a := by
    rcases (hR.1 a _ ha1).2 with h9 | h9
    · exact absurd h9 (Nat.not_le.mpr (by decide +kernel : (0 : Nat) < 10))
    · exact h9
  have nn : ∀ z : Int32, ¬ z < 0 → z.toInt = (z.toNatClampNeg : Int) := by
    intro z hz
    have hz0 : (0 : Int) ≤ z.toInt := by
      have := Int32.not_lt.mp hz
      simpa using Int32.le_iff_toInt_le.mp this
    show z.toInt = ((z.toInt.toNat : Nat) : Int)
    omega
  intro T hT X
  have hc0 : H[a0]? = some (vp_cell (g.2.2.2.2.1 0) (n0, .inl f)) := j_cell hR ha0 (by decide) 0 _ rfl
  have hc1 : H[a]? = some (vp_cell (g.2.2.2.2.1 0) (n1, .inl f1)) := j_cell hR ha1 (by decide) 0 _ rfl
  obtain ⟨-, k0, hk0, cm0, hkk0⟩ := (j_arr hg B.2.2.2.2.2.2.2.1 (show jTy 0 = some .int from rfl)).1 n0 (fun j => .int (f j))
  obtain ⟨bf, bl, -, -⟩ := B.2.2.2.2.2.2.2.2.1
  have bn : nativeFrameWords "java/lang/System" "arraycopy" 5 ≤ 200 := by decide +kernel
  obtain ⟨vm', X', step⟩ := X.arraycopy B.1 B.2.2.2.1 (j_word hg B.2.2.2.2.2.2.2.1 hlink rfl) (j_word hg B.2.2.2.2.2.2.2.1 (w := Cond.native arraycopyName) jw_acn rfl) (j_word hg B.2.2.2.2.2.2.2.1 (w := Cond.static arraycopyName) jw_acs rfl) (j_word hg B.2.2.2.2.2.2.2.1 (w := Cond.initialized "java/lang/System") jw_aci rfl) (src := a0) (dst := a) (cs := vp_cell (g.2.2.2.2.1 0) (n0, .inl f)) (cd := vp_cell (g.2.2.2.2.1 0) (n1, .inl f1)) (srcPos := sp) (destPos := dp) (n := n) (by rw [hT]; exact hc0) (by rw [hT]; exact hc1)
    (fun _ h => by cases h) (fun _ h => by cases h) (fun h => by cases h) (fun h => by cases h) hk0 hk0 hkk0 hkk0 (by simp [refKind]) h1 h2 h3
    (by rw [nn sp h1, nn n h3]; show ¬ _ > ((arrV _ n0 (fun j => .int (f j))).slots.size : Int); rw [arrV_size]; omega)
    (by rw [nn dp h2, nn n h3]; show ¬ _ > ((arrV _ n1 (fun j => .int (f1 j))).slots.size : Int); rw [arrV_size]; omega)
    (fun vm₁ _ i hi => by
      have e : (vp_cell (g.2.2.2.2.1 0) (n0, .inl f)).slots.getD (sp.toNatClampNeg + i) .null = .int (f (sp.toNatClampNeg + i)) := by
        show (arrV _ n0 (fun j => .int (f j))).slots.getD _ _ = _
        rw [Array.getD_eq_getD_getElem?, arrV_read _ _ (by omega)]
        rfl
      refine ⟨?_, ?_⟩
      · rw [e]
        rfl
      · rw [e]
        exact trivial)
    (g := F0 m pc ls (.int n :: .int dp :: .ref a :: .int sp :: .ref a0 :: st)) rfl (by show ls.size = _; rw [B.2.2.1]; exact hl.1) (rest := st) rfl (by rw [B.2.1]; exact hdg) (by omega) (by show 2 * 0 + _ + _ ≤ _; omega)
  have e1 : copied (vp_cell (g.2.2.2.2.1 0) (n0, .inl f)) (vp_cell (g.2.2.2.2.1 0) (n1, .inl f1)) sp dp n = vp_cell (g.2.2.2.2.1 0) (n1, .inl (va_cpy f f1 sp.toNatClampNeg dp.toNatClampNeg n.toNatClampNeg)) := va_copied (fun z => .int z) _ _ f f1 h4
  rw [e1] at X' step
  have hl9 : a < H.size := (Array.getElem?_eq_some_iff.mp hc1).1
  have oq : ∀ q : Nat, q ≠ a → (H.setIfInBounds a (vp_cell (g.2.2.2.2.1 0) (n1, .inl (va_cpy f f1 sp.toNatClampNeg dp.toNatClampNeg n.toNatClampNeg))))[q]? = H[q]? := fun q hq => by simp [Array.getElem?_setIfInBounds, Ne.symm hq]
  have hheap : ((T.setVm vm').setCell a (vp_cell (g.2.2.2.2.1 0) (n1, .inl (va_cpy f f1 sp.toNatClampNeg dp.toNatClampNeg n.toNatClampNeg)))).heap = H.setIfInBounds a (vp_cell (g.2.2.2.2.1 0) (n1, .inl (va_cpy f f1 sp.toNatClampNeg dp.toNatClampNeg n.toNatClampNeg))) := by rw [← hT]; rfl
  obtain ⟨t, a1, b1⟩ := k hg p e R s m args below meth c B _ ls _ (jR_set hR ha1 hBa (by simp) oq ⟨jcl_lo (Nat.le_of_ble_eq_true rfl) (show (H.setIfInBounds a _)[a]? = some _ by simp [Array.getElem?_setIfInBounds, hl9]), Or.inr hBa⟩) hl (fun z hz => by
      rcases List.mem_append.mp hz with h9 | h9
      · exact hL z h9
      · obtain ⟨y, -, hy⟩ := List.mem_map.mp h9
        rw [← hy]
        exact hBa) hf _ hheap X'
  exact ⟨t, step t a1, b1⟩
theorem jr_copyl {a0 a n0 n1 index : Nat} {f f1 : Nat → Int64} {sp dp n : Int32} (hlink : Cond.methodLink μ.1.cls index arraycopyName ∈ lw_tbl) (hdg : decode μ.2.1 pc = .ok (.invokestatic index, 3)) (ha0 : h.1 a0 = some (.inl (3, (n0, .inr (.inl f))))) (ha1 : h.1 a = some (.inl (3, (n1, .inr (.inl f1))))) (h1 : ¬ sp < 0) (h2 : ¬ dp < 0) (h3 : ¬ n < 0) (h4 : sp.toNatClampNeg + n.toNatClampNeg ≤ n0) (h5 : dp.toNatClampNeg + n.toNatClampNeg ≤ n1) (hst : (st.map fun v => v.category).sum ≤ 8)
    (k : J g μ d hs P (pc + 3) lv st (jset h a (.inl (3, (n1, .inr (.inl (va_cpy f f1 sp.toNatClampNeg dp.toNatClampNeg n.toNatClampNeg))))))) : J g μ d hs P pc lv (.int n :: .int dp :: .ref a :: .int sp :: .ref a0 :: st) h := by
  intro hg p e R s m args below meth c B H ls locs hR hl hL hf
  have hBa : jB0 g ≤ a := by
    rcases (hR.1 a _ ha1).2 with h9 | h9
    · exact absurd h9 (Nat.not_le.mpr (by decide +kernel : (3 : Nat) < 10))
    · exact h9
  have nn : ∀ z : Int32, ¬ z < 0 → z.toInt = (z.toNatClampNeg : Int) := by
    intro z hz
    have hz0 : (0 : Int) ≤ z.toInt := by
      have := Int32.not_lt.mp hz
      simpa using Int32.le_iff_toInt_le.mp this
    show z.toInt = ((z.toInt.toNat : Nat) : Int)
    omega
  intro T hT X
  have hc0 : H[a0]? = some (vp_cell (g.2.2.2.2.1 3) (n0, .inr (.inl f))) := j_cell hR ha0 (by decide) 0 _ rfl
  have hc1 : H[a]? = some (vp_cell (g.2.2.2.2.1 3) (n1, .inr (.inl f1))) := j_cell hR ha1 (by decide) 0 _ rfl
  obtain ⟨-, k0, hk0, cm0, hkk0⟩ := (j_arr hg B.2.2.2.2.2.2.2.1 (show jTy 3 = some .long from rfl)).1 n0 (fun j => .long (f j))
  obtain ⟨bf, bl, -, -⟩ := B.2.2.2.2.2.2.2.2.1
  have bn : nativeFrameWords "java/lang/System" "arraycopy" 5 ≤ 200 := by decide +kernel
  obtain ⟨vm', X', step⟩ := X.arraycopy B.1 B.2.2.2.1 (j_word hg B.2.2.2.2.2.2.2.1 hlink rfl) (j_word hg B.2.2.2.2.2.2.2.1 (w := Cond.native arraycopyName) jw_acn rfl) (j_word hg B.2.2.2.2.2.2.2.1 (w := Cond.static arraycopyName) jw_acs rfl) (j_word hg B.2.2.2.2.2.2.2.1 (w := Cond.initialized "java/lang/System") jw_aci rfl) (src := a0) (dst := a) (cs := vp_cell (g.2.2.2.2.1 3) (n0, .inr (.inl f))) (cd := vp_cell (g.2.2.2.2.1 3) (n1, .inr (.inl f1))) (srcPos := sp) (destPos := dp) (n := n) (by rw [hT]; exact hc0) (by rw [hT]; exact hc1)
    (fun _ h => by cases h) (fun _ h => by cases h) (fun h => by cases h) (fun h => by cases h) hk0 hk0 hkk0 hkk0 (by simp [refKind]) h1 h2 h3
    (by rw [nn sp h1, nn n h3]; show ¬ _ > ((arrV _ n0 (fun j => .long (f j))).slots.size : Int); rw [arrV_size]; omega)
    (by rw [nn dp h2, nn n h3]; show ¬ _ > ((arrV _ n1 (fun j => .long (f1 j))).slots.size : Int); rw [arrV_size]; omega)
    (fun vm₁ _ i hi => by
      have e : (vp_cell (g.2.2.2.2.1 3) (n0, .inr (.inl f))).slots.getD (sp.toNatClampNeg + i) .null = .long (f (sp.toNatClampNeg + i)) := by
        show (arrV _ n0 (fun j => .long (f j))).slots.getD _ _ = _
        rw [Array.getD_eq_getD_getElem?, arrV_read _ _ (by omega)]
        rfl
      refine ⟨?_, ?_⟩
      · rw [e]
        rfl
      · rw [e]
        exact trivial)
    (g := F0 m pc ls (.int n :: .int dp :: .ref a :: .int sp :: .ref a0 :: st)) rfl (by show ls.size = _; rw [B.2.2.1]; exact hl.1) (rest := st) rfl (by rw [B.2.1]; exact hdg) (by omega) (by show 2 * 0 + _ + _ ≤ _; omega)
  have e1 : copied (vp_cell (g.2.2.2.2.1 3) (n0, .inr (.inl f))) (vp_cell (g.2.2.2.2.1 3) (n1, .inr (.inl f1))) sp dp n = vp_cell (g.2.2.2.2.1 3) (n1, .inr (.inl (va_cpy f f1 sp.toNatClampNeg dp.toNatClampNeg n.toNatClampNeg))) := va_copied (fun z => .long z) _ _ f f1 h4
  rw [e1] at X' step
  have hl9 : a < H.size := (Array.getElem?_eq_some_iff.mp hc1).1
  have oq : ∀ q : Nat, q ≠ a → (H.setIfInBounds a (vp_cell (g.2.2.2.2.1 3) (n1, .inr (.inl (va_cpy f f1 sp.toNatClampNeg dp.toNatClampNeg n.toNatClampNeg)))))[q]? = H[q]? := fun q hq => by simp [Array.getElem?_setIfInBounds, Ne.symm hq]
  have hheap : ((T.setVm vm').setCell a (vp_cell (g.2.2.2.2.1 3) (n1, .inr (.inl (va_cpy f f1 sp.toNatClampNeg dp.toNatClampNeg n.toNatClampNeg))))).heap = H.setIfInBounds a (vp_cell (g.2.2.2.2.1 3) (n1, .inr (.inl (va_cpy f f1 sp.toNatClampNeg dp.toNatClampNeg n.toNatClampNeg)))) := by rw [← hT]; rfl
  obtain ⟨t, a1, b1⟩ := k hg p e R s m args below meth c B _ ls _ (jR_set hR ha1 hBa (by simp) oq ⟨jcl_lo (Nat.le_of_ble_eq_true rfl) (show (H.setIfInBounds a _)[a]? = some _ by simp [Array.getElem?_setIfInBounds, hl9]), Or.inr hBa⟩) hl (fun z hz => by
      rcases List.mem_append.mp hz with h9 | h9
      · exact hL z h9
      · obtain ⟨y, -, hy⟩ := List.mem_map.mp h9
        rw [← hy]
        exact hBa) hf _ hheap X'
  exact ⟨t, step t a1, b1⟩
end JR2
