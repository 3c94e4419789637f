theorem kw_Math_i : Cond.initialized "java/lang/Math" ∈ lw_tbl := jw_in 18 (by decide +kernel)
theorem kw_max_s : Cond.static Lib.Math.max.name ∈ lw_tbl := jw_in 528 (by decide +kernel)
theorem kw_max_c : Cond.code Lib.Math.max.name Lib.Math.max.code 2 (some .int) ∈ lw_tbl := jw_in 529 (by decide +kernel)
theorem kw_min_s : Cond.static Lib.Math.min.name ∈ lw_tbl := jw_in 490 (by decide +kernel)
theorem kw_min_c : Cond.code Lib.Math.min.name Lib.Math.min.code 2 (some .int) ∈ lw_tbl := jw_in 491 (by decide +kernel)
theorem kw_arr_int : Cond.arrayClass (newarray.typeOf .int) ∈ lw_tbl := jw_in 107 (by decide +kernel)
theorem kw_arr_byte : Cond.arrayClass (newarray.typeOf .byte) ∈ lw_tbl := jw_in 106 (by decide +kernel)
theorem kw_arr_bool : Cond.arrayClass (newarray.typeOf .boolean) ∈ lw_tbl := jw_in 1539 (by decide +kernel)
theorem kw_arr_long : Cond.arrayClass (newarray.typeOf .long) ∈ lw_tbl := jw_in 271 (by decide +kernel)

def jmax (x y : Int32) : Int32 := if x < y then y else x
def jmin (x y : Int32) : Int32 := if y < x then y else x
def jmaxL (x y : Int64) : Int64 := if y < x then x else y
/-- what a throw leaves -/
def jthr (g : jG) (h : jH) (E : String) (P : jO → jH → Prop) : Prop := jroom g h 1 6 ∧ ∀ n, h.2.1 ≤ n → n ≤ h.2.1 + 1 → P (.inr E) (h.1, n, h.2.2 + 6)
def jMe (μ2 : jM) (n : Nat) : Prop := jw μ2 ∈ lw_tbl ∧ Cond.initialized μ2.1.cls ∈ lw_tbl ∧ μ2.2.2.1 ≤ 40 ∧
  (μ2.1.cls ≠ "java/lang/invoke/MethodHandle" ∧ μ2.1.cls ≠ "java/lang/invoke/VarHandle" ∧ (parseMethodDescriptor μ2.1.desc).map (fun d => d.parameters.length) = some n) ∧ plainName μ2.1.cls = true
def jMv (ci : Nat) (μ2 : jM) (n : Nat) : Prop := jMe μ2 n ∧ μ2.2.2.2.2 = [] ∧ Cond.instanceMethod μ2.1 ∈ lw_tbl ∧ Cond.selects μ2.1.cls μ2.1 μ2.1 ∈ lw_tbl ∧ ∃ q, vwCl[ci]? = some q ∧ q.1 = μ2.1.cls
def jMs (μ2 : jM) (n : Nat) : Prop := jMe μ2 n ∧ μ2.2.2.2.2 = [] ∧ Cond.static μ2.1 ∈ lw_tbl
def jMi (μ2 : jM) (n : Nat) : Prop := jMe μ2 n ∧ μ2.2.2.2.2 = [] ∧ μ2.2.2.2.1 = none ∧ μ2.1.name = "<init>" ∧ Cond.instanceMethod μ2.1 ∈ lw_tbl
theorem jz_n {x : Int32} (h : x = 0 ∨ x = 1) : narrow .boolean (.int x) = .int x := by rcases h with rfl | rfl <;> rfl
theorem jz_f {x : Int32} (h : x = 0 ∨ x = 1) : fits .boolean (.int x) = true := by rcases h with rfl | rfl <;> rfl
theorem j_sw {x : Int32} {lo : Int} {n : Nat} (h : ∀ k : Nat, k < n → ¬ x = Int32.ofInt (lo + k)) (h1 : -1000 ≤ lo) (h2 : lo ≤ 1000) (h3 : n ≤ 1000) : x.toInt < lo ∨ lo + n - 1 < x.toInt := by
  rcases Int.lt_or_le x.toInt lo with h4 | h4
  · exact Or.inl h4
  · refine Or.inr (Int.not_le.mp fun h5 => ?_)
    refine h (x.toInt - lo).toNat (by omega) ?_
    have e : lo + ((x.toInt - lo).toNat : Int) = x.toInt := by omega
    rw [e]
    exact (Int32.ofInt_toInt x).symm
section JR6
variable {g : jG} {μ μ2 : jM} {d : Nat} {hs : jH} {P : jO → jH → Prop} {pc : Nat} {lv : List (Nat × Value)} {st : List Value} {h : jH}
theorem jr_cVi {ci index n b : Nat} {As fs : List Value} {Q : Int32 → jH → Prop} (hl : Cond.methodLink μ.1.cls index μ2.1 ∈ lw_tbl) (hm : jMv ci μ2 n) (hn : As.length = n) (hh : μ.2.2.2.2 = []) (hdg : decode μ.2.1 pc = .ok (.invokevirtual index, 3)) (hb : h.1 b = some (.inr (ci, fs))) (hst : (st.map fun v => v.category).sum ≤ 8) (hcon : Con g μ2 d (.ref b :: As) h (jPi Q (fun E h' => P (.inr E) h'))) (kk : ∀ r h', Q r h' → J g μ (d + 1) hs P (pc + 3) lv (.int r :: st) h') : J g μ (d + 1) hs P pc lv (As.reverse ++ .ref b :: st) h :=
  jr_callV ⟨⟨hl, hm.1⟩, hm.2⟩ hn hh hdg hb hst hcon (fun v h' hp => by
    match v, hp with
    | (some (.int r)), hp => exact kk r h' hp) (fun E h' hp => hp)
theorem jr_cVl {ci index n b : Nat} {As fs : List Value} {Q : Int64 → jH → Prop} (hl : Cond.methodLink μ.1.cls index μ2.1 ∈ lw_tbl) (hm : jMv ci μ2 n) (hn : As.length = n) (hh : μ.2.2.2.2 = []) (hdg : decode μ.2.1 pc = .ok (.invokevirtual index, 3)) (hb : h.1 b = some (.inr (ci, fs))) (hst : (st.map fun v => v.category).sum ≤ 8) (hcon : Con g μ2 d (.ref b :: As) h (jPl Q (fun E h' => P (.inr E) h'))) (kk : ∀ r h', Q r h' → J g μ (d + 1) hs P (pc + 3) lv (.long r :: st) h') : J g μ (d + 1) hs P pc lv (As.reverse ++ .ref b :: st) h :=
  jr_callV ⟨⟨hl, hm.1⟩, hm.2⟩ hn hh hdg hb hst hcon (fun v h' hp => by
    match v, hp with
    | (some (.long r)), hp => exact kk r h' hp) (fun E h' hp => hp)
theorem jr_cVr {ci index n b : Nat} {As fs : List Value} {Q : Nat → jH → Prop} (hl : Cond.methodLink μ.1.cls index μ2.1 ∈ lw_tbl) (hm : jMv ci μ2 n) (hn : As.length = n) (hh : μ.2.2.2.2 = []) (hdg : decode μ.2.1 pc = .ok (.invokevirtual index, 3)) (hb : h.1 b = some (.inr (ci, fs))) (hst : (st.map fun v => v.category).sum ≤ 8) (hcon : Con g μ2 d (.ref b :: As) h (jPr Q (fun E h' => P (.inr E) h'))) (kk : ∀ r h', Q r h' → J g μ (d + 1) hs P (pc + 3) lv (.ref r :: st) h') : J g μ (d + 1) hs P pc lv (As.reverse ++ .ref b :: st) h :=
  jr_callV ⟨⟨hl, hm.1⟩, hm.2⟩ hn hh hdg hb hst hcon (fun v h' hp => by
    match v, hp with
    | (some (.ref r)), hp => exact kk r h' hp) (fun E h' hp => hp)
theorem jr_cVv {ci index n b : Nat} {As fs : List Value} {Q : jH → Prop} (hl : Cond.methodLink μ.1.cls index μ2.1 ∈ lw_tbl) (hm : jMv ci μ2 n) (hn : As.length = n) (hh : μ.2.2.2.2 = []) (hdg : decode μ.2.1 pc = .ok (.invokevirtual index, 3)) (hb : h.1 b = some (.inr (ci, fs))) (hst : (st.map fun v => v.category).sum ≤ 8) (hcon : Con g μ2 d (.ref b :: As) h (jPv Q (fun E h' => P (.inr E) h'))) (kk : ∀ h', Q h' → J g μ (d + 1) hs P (pc + 3) lv st h') : J g μ (d + 1) hs P pc lv (As.reverse ++ .ref b :: st) h :=
  jr_callV ⟨⟨hl, hm.1⟩, hm.2⟩ hn hh hdg hb hst hcon (fun v h' hp => by
    match v, hp with
    | none, hp => exact kk h' hp) (fun E h' hp => hp)
theorem jr_cSi {index n : Nat} {As : List Value} {Q : Int32 → jH → Prop} (hl : Cond.methodLink μ.1.cls index μ2.1 ∈ lw_tbl) (hm : jMs μ2 n) (hn : As.length = n) (hh : μ.2.2.2.2 = []) (hdg : decode μ.2.1 pc = .ok (.invokestatic index, 3)) (hst : (st.map fun v => v.category).sum ≤ 8) (hcon : Con g μ2 d As h (jPi Q (fun E h' => P (.inr E) h'))) (kk : ∀ r h', Q r h' → J g μ (d + 1) hs P (pc + 3) lv (.int r :: st) h') : J g μ (d + 1) hs P pc lv (As.reverse ++ st) h :=
  jr_callS ⟨⟨hl, hm.1⟩, hm.2.2⟩ hm.2.1 hn hh hdg hst hcon (fun v h' hp => by
    match v, hp with
    | (some (.int r)), hp => exact kk r h' hp) (fun E h' hp => hp)
theorem jr_cSl {index n : Nat} {As : List Value} {Q : Int64 → jH → Prop} (hl : Cond.methodLink μ.1.cls index μ2.1 ∈ lw_tbl) (hm : jMs μ2 n) (hn : As.length = n) (hh : μ.2.2.2.2 = []) (hdg : decode μ.2.1 pc = .ok (.invokestatic index, 3)) (hst : (st.map fun v => v.category).sum ≤ 8) (hcon : Con g μ2 d As h (jPl Q (fun E h' => P (.inr E) h'))) (kk : ∀ r h', Q r h' → J g μ (d + 1) hs P (pc + 3) lv (.long r :: st) h') : J g μ (d + 1) hs P pc lv (As.reverse ++ st) h :=
  jr_callS ⟨⟨hl, hm.1⟩, hm.2.2⟩ hm.2.1 hn hh hdg hst hcon (fun v h' hp => by
    match v, hp with
    | (some (.long r)), hp => exact kk r h' hp) (fun E h' hp => hp)
theorem jr_cSr {index n : Nat} {As : List Value} {Q : Nat → jH → Prop} (hl : Cond.methodLink μ.1.cls index μ2.1 ∈ lw_tbl) (hm : jMs μ2 n) (hn : As.length = n) (hh : μ.2.2.2.2 = []) (hdg : decode μ.2.1 pc = .ok (.invokestatic index, 3)) (hst : (st.map fun v => v.category).sum ≤ 8) (hcon : Con g μ2 d As h (jPr Q (fun E h' => P (.inr E) h'))) (kk : ∀ r h', Q r h' → J g μ (d + 1) hs P (pc + 3) lv (.ref r :: st) h') : J g μ (d + 1) hs P pc lv (As.reverse ++ st) h :=
  jr_callS ⟨⟨hl, hm.1⟩, hm.2.2⟩ hm.2.1 hn hh hdg hst hcon (fun v h' hp => by
    match v, hp with
    | (some (.ref r)), hp => exact kk r h' hp) (fun E h' hp => hp)
theorem jr_cSv {index n : Nat} {As : List Value} {Q : jH → Prop} (hl : Cond.methodLink μ.1.cls index μ2.1 ∈ lw_tbl) (hm : jMs μ2 n) (hn : As.length = n) (hh : μ.2.2.2.2 = []) (hdg : decode μ.2.1 pc = .ok (.invokestatic index, 3)) (hst : (st.map fun v => v.category).sum ≤ 8) (hcon : Con g μ2 d As h (jPv Q (fun E h' => P (.inr E) h'))) (kk : ∀ h', Q h' → J g μ (d + 1) hs P (pc + 3) lv st h') : J g μ (d + 1) hs P pc lv (As.reverse ++ st) h :=
  jr_callS ⟨⟨hl, hm.1⟩, hm.2.2⟩ hm.2.1 hn hh hdg hst hcon (fun v h' hp => by
    match v, hp with
    | none, hp => exact kk h' hp) (fun E h' hp => hp)
theorem jr_cIv {index n b : Nat} {As : List Value} {Q : jH → Prop} (hl : Cond.methodLink μ.1.cls index μ2.1 ∈ lw_tbl) (hm : jMi μ2 n) (hn : As.length = n) (hh : μ.2.2.2.2 = []) (hdg : decode μ.2.1 pc = .ok (.invokespecial index, 3)) (hst : (st.map fun v => v.category).sum ≤ 8) (hcon : Con g μ2 d (.ref b :: As) h (jPv Q (fun E h' => P (.inr E) h'))) (kk : ∀ h', Q h' → J g μ (d + 1) hs P (pc + 3) lv st h') : J g μ (d + 1) hs P pc lv (As.reverse ++ .ref b :: st) h :=
  jr_callI ⟨hl, hm.1⟩ hm.2.1 hm.2.2.1 hm.2.2.2.1 hm.2.2.2.2 hn hh hdg hst hcon (fun v h' hp => by
    match v, hp with
    | none, hp => exact kk h' hp) (fun E h' hp => hp)
theorem jr_cNv {index n b : Nat} {host : String} {As : List Value} {Q : jH → Prop} (hl : Cond.methodLinkNest μ.1.cls index μ2.1 host ∈ lw_tbl) (hm : jMi μ2 n) (hn : As.length = n) (hh : μ.2.2.2.2 = []) (hdg : decode μ.2.1 pc = .ok (.invokespecial index, 3)) (hst : (st.map fun v => v.category).sum ≤ 8) (hcon : Con g μ2 d (.ref b :: As) h (jPv Q (fun E h' => P (.inr E) h'))) (kk : ∀ h', Q h' → J g μ (d + 1) hs P (pc + 3) lv st h') : J g μ (d + 1) hs P pc lv (As.reverse ++ .ref b :: st) h :=
  jr_callIN ⟨hl, hm.1.1, hm.1.2.1, hm.1.2.2.1, hm.1.2.2.2.1, hm.2.1, hm.2.2.1, hm.2.2.2.1, hm.2.2.2.2⟩ hn hh hdg hst hcon (fun v h' hp => by
    match v, hp with
    | none, hp => exact kk h' hp) (fun E h' hp => hp)
theorem jr_mmax {index : Nat} {x y : Int32} (hl : Cond.methodLink μ.1.cls index Lib.Math.max.name ∈ lw_tbl) (hdg : decode μ.2.1 pc = .ok (.invokestatic index, 3)) (hst : (st.map fun v => v.category).sum ≤ 8) (k : J g μ d hs P (pc + 3) lv (.int (jmax x y) :: st) h) : J g μ d hs P pc lv (.int y :: .int x :: st) h := by
  intro hg p e R s m args below meth c B H ls locs hR hl9 hL hf
  obtain ⟨b1, b2, b3, b4⟩ := B.2.2.2.2.2.2.2.2.1
  obtain ⟨f1, f2, f3, f4⟩ := id hf
  have hW := B.2.2.2.2.2.2.2.1
  exact va_mmax B.1 B.2.1 (by rw [B.2.2.1]; exact hl9.1.symm) B.2.2.2.1 (j_word hg hW hl rfl) (j_word hg hW kw_max_s rfl) (j_word hg hW kw_Math_i rfl) (j_word hg hW kw_max_c rfl) (by omega) (by omega) (by omega) (by omega) hdg (k hg p e R s m args below meth c B H ls locs hR hl9 hL hf)
theorem jr_mmin {index : Nat} {x y : Int32} (hl : Cond.methodLink μ.1.cls index Lib.Math.min.name ∈ lw_tbl) (hdg : decode μ.2.1 pc = .ok (.invokestatic index, 3)) (hst : (st.map fun v => v.category).sum ≤ 8) (k : J g μ d hs P (pc + 3) lv (.int (jmin x y) :: st) h) : J g μ d hs P pc lv (.int y :: .int x :: st) h := by
  intro hg p e R s m args below meth c B H ls locs hR hl9 hL hf
  obtain ⟨b1, b2, b3, b4⟩ := B.2.2.2.2.2.2.2.2.1
  obtain ⟨f1, f2, f3, f4⟩ := id hf
  have hW := B.2.2.2.2.2.2.2.1
  exact va_mmin B.1 B.2.1 (by rw [B.2.2.1]; exact hl9.1.symm) B.2.2.2.1 (j_word hg hW hl rfl) (j_word hg hW kw_min_s rfl) (j_word hg hW kw_Math_i rfl) (j_word hg hW kw_min_c rfl) (by omega) (by omega) (by omega) (by omega) hdg (k hg p e R s m args below meth c B H ls locs hR hl9 hL hf)
theorem jr_nolaw {index : Nat} (hl : Cond.fieldLinkNest μ.1.cls index "DebtStreet" "NO_LAW" "[I" "DebtStreet" ∈ lw_tbl) (hdg : decode μ.2.1 pc = .ok (.getstatic index, 3)) (k : J g μ d hs P (pc + 3) lv (.ref g.2.2.2.2.2.2 :: st) h) : J g μ d hs P pc lv st h := by
  intro hg p e R s m args below meth c B H ls locs hR hl9 hL hf
  have hW := B.2.2.2.2.2.2.2.1
  have hpre := B.2.2.2.2.2.2.2.2.2.2.2
  have hS : va_S (jF g) s.heap H locs := ⟨by rw [B.2.2.2.2.2.2.2.2.2.1, hR.2.1]; exact hf.1, fun q hq hA => by
    have hq2 : q < jB0 g := Nat.not_le.mp hA
    rw [hR.2.2.2 q hq2, hpre q hq2], hL⟩
  have hkeep : ∀ a : Nat, a < g.2.1.heap.size → ¬ jF g a → s.heap[a]? = g.2.1.heap[a]? := fun a ha _ => hpre a ha
  exact va_getsN B.1 B.2.1 (va_Z.moved hW.alike (hg.2.2.2.2.2.2.1.kept hkeep)) hS B.2.2.2.1 (va_Nw.use rfl ((va_Nw.of rfl (hg.2.1 _ hl)).warmF hW)) (fun _ hx => hx) hdg (k hg p e R s m args below meth c B H ls locs hR hl9 hL hf)
theorem jr_putE {a ci kf index : Nat} {fs : List Value} {v : Value} {ty : FieldType} (hfl : jFp μ.1.cls index ci kf ty false) (hdg : decode μ.2.1 pc = .ok (.putfield index, 3)) (ha : h.1 a = some (.inr (ci, fs))) (hlt : kf < fs.length) (hn : narrow ty v = v) (hfit : fits ty v = true) (k : ∀ h1, h1 = jset h a (.inr (ci, fs.set kf v)) → J g μ d hs P (pc + 3) lv st h1) : J g μ d hs P pc lv (v :: .ref a :: st) h := jr_put hfl hdg ha hlt hn hfit (k _ rfl)
theorem jr_putFE {a ci kf index : Nat} {fs : List Value} {v : Value} {ty : FieldType} (hfl : jFp μ.1.cls index ci kf ty true) (hown : ∀ C T N, vwCl[ci]? = some (C, T, N) → C = μ.1.cls) (hini : μ.1.name = "<init>") (hdg : decode μ.2.1 pc = .ok (.putfield index, 3)) (ha : h.1 a = some (.inr (ci, fs))) (hlt : kf < fs.length) (hn : narrow ty v = v) (hfit : fits ty v = true) (k : ∀ h1, h1 = jset h a (.inr (ci, fs.set kf v)) → J g μ d hs P (pc + 3) lv st h1) : J g μ d hs P pc lv (v :: .ref a :: st) h := jr_putF hfl hown hini hdg ha hlt hn hfit (k _ rfl)
theorem jr_iastE {a n : Nat} {f : Nat → Int32} {i : Int32} {x : Int32} (hdg : decode μ.2.1 pc = .ok (.iastore, 1)) (ha : h.1 a = some (.inl (0, (n, .inl f)))) (hin : vp_in i n) (k : ∀ h1, h1 = jset h a (.inl (0, (n, .inl (upd f i.toNatClampNeg x)))) → J g μ d hs P (pc + 1) lv st h1) : J g μ d hs P pc lv (.int x :: .int i :: .ref a :: st) h := jr_iast hdg ha hin (k _ rfl)
theorem jr_bastE {a n : Nat} {f : Nat → Int32} {i : Int32} {x : Int32} (hdg : decode μ.2.1 pc = .ok (.bastore, 1)) (ha : h.1 a = some (.inl (1, (n, .inl f)))) (hin : vp_in i n) (k : ∀ h1, h1 = jset h a (.inl (1, (n, .inl (upd f i.toNatClampNeg (vp_nar .byte x))))) → J g μ d hs P (pc + 1) lv st h1) : J g μ d hs P pc lv (.int x :: .int i :: .ref a :: st) h := jr_bast hdg ha hin (k _ rfl)
theorem jr_zastE {a n : Nat} {f : Nat → Int32} {i : Int32} {x : Int32} (hdg : decode μ.2.1 pc = .ok (.bastore, 1)) (ha : h.1 a = some (.inl (2, (n, .inl f)))) (hin : vp_in i n) (k : ∀ h1, h1 = jset h a (.inl (2, (n, .inl (upd f i.toNatClampNeg (vp_nar .boolean x))))) → J g μ d hs P (pc + 1) lv st h1) : J g μ d hs P pc lv (.int x :: .int i :: .ref a :: st) h := jr_zast hdg ha hin (k _ rfl)
theorem jr_lastE {a n : Nat} {f : Nat → Int64} {i : Int32} {x : Int64} (hdg : decode μ.2.1 pc = .ok (.lastore, 1)) (ha : h.1 a = some (.inl (3, (n, .inr (.inl f))))) (hin : vp_in i n) (k : ∀ h1, h1 = jset h a (.inl (3, (n, .inr (.inl (vp_updL f i.toNatClampNeg x))))) → J g μ d hs P (pc + 1) lv st h1) : J g μ d hs P pc lv (.long x :: .int i :: .ref a :: st) h := jr_last hdg ha hin (k _ rfl)
theorem jr_qast4E {a n v : Nat} {f : Nat → Option Nat} {vs : List Value} {i : Int32} (hdg : decode μ.2.1 pc = .ok (.aastore, 1)) (ha : h.1 a = some (.inl (4, (n, .inr (.inr (.inr (.inr f))))))) (hv : h.1 v = some (.inr (6, vs))) (hin : vp_in i n) (k : ∀ h1, h1 = jset h a (.inl (4, (n, .inr (.inr (.inr (.inr (va_up f i.toNatClampNeg (some v)))))))) → J g μ d hs P (pc + 1) lv st h1) : J g μ d hs P pc lv (.ref v :: .int i :: .ref a :: st) h := jr_qast4 hdg ha hv hin (k _ rfl)
theorem jr_qast5E {a n v : Nat} {f : Nat → Option Nat} {vs : List Value} {i : Int32} (hdg : decode μ.2.1 pc = .ok (.aastore, 1)) (ha : h.1 a = some (.inl (5, (n, .inr (.inr (.inr (.inr f))))))) (hv : h.1 v = some (.inr (3, vs))) (hin : vp_in i n) (k : ∀ h1, h1 = jset h a (.inl (5, (n, .inr (.inr (.inr (.inr (va_up f i.toNatClampNeg (some v)))))))) → J g μ d hs P (pc + 1) lv st h1) : J g μ d hs P pc lv (.ref v :: .int i :: .ref a :: st) h := jr_qast5 hdg ha hv hin (k _ rfl)
theorem jr_qast6E {a n v : Nat} {f : Nat → Option Nat} {vs : List Value} {i : Int32} (hdg : decode μ.2.1 pc = .ok (.aastore, 1)) (ha : h.1 a = some (.inl (6, (n, .inr (.inr (.inr (.inr f))))))) (hv : h.1 v = some (.inr (10, vs))) (hin : vp_in i n) (k : ∀ h1, h1 = jset h a (.inl (6, (n, .inr (.inr (.inr (.inr (va_up f i.toNatClampNeg (some v)))))))) → J g μ d hs P (pc + 1) lv st h1) : J g μ d hs P pc lv (.ref v :: .int i :: .ref a :: st) h := jr_qast6 hdg ha hv hin (k _ rfl)
theorem jr_newq4E {N index : Nat} {n : Int32} (hcl : Cond.classLink μ.1.cls index "DebtStreet$Street" ∈ lw_tbl) (hao : Cond.arrayOver (.object "DebtStreet$Street") ∈ lw_tbl) (hn : n = nI N) (hN : N < 100000) (hroom : jroom g h 1 N) (hdg : decode μ.2.1 pc = .ok (.anewarray index, 3)) (k : ∀ q h1, q = h.2.1 → h1 = jnew h (.inl (4, (N, .inr (.inr (.inr (.inr (fun _ => none))))))) N → J g μ d hs P (pc + 3) lv (.ref q :: st) h1) : J g μ d hs P pc lv (.int n :: st) h := jr_newq4 hcl hao hn hN hroom hdg (k _ _ rfl rfl)
theorem jr_newq5E {N index : Nat} {n : Int32} (hcl : Cond.classLink μ.1.cls index "DebtStreet$Image" ∈ lw_tbl) (hao : Cond.arrayOver (.object "DebtStreet$Image") ∈ lw_tbl) (hn : n = nI N) (hN : N < 100000) (hroom : jroom g h 1 N) (hdg : decode μ.2.1 pc = .ok (.anewarray index, 3)) (k : ∀ q h1, q = h.2.1 → h1 = jnew h (.inl (5, (N, .inr (.inr (.inr (.inr (fun _ => none))))))) N → J g μ d hs P (pc + 3) lv (.ref q :: st) h1) : J g μ d hs P pc lv (.int n :: st) h := jr_newq5 hcl hao hn hN hroom hdg (k _ _ rfl rfl)
theorem jr_newq6E {N index : Nat} {n : Int32} (hcl : Cond.classLink μ.1.cls index "DebtStreet$Tray" ∈ lw_tbl) (hao : Cond.arrayOver (.object "DebtStreet$Tray") ∈ lw_tbl) (hn : n = nI N) (hN : N < 100000) (hroom : jroom g h 1 N) (hdg : decode μ.2.1 pc = .ok (.anewarray index, 3)) (k : ∀ q h1, q = h.2.1 → h1 = jnew h (.inl (6, (N, .inr (.inr (.inr (.inr (fun _ => none))))))) N → J g μ d hs P (pc + 3) lv (.ref q :: st) h1) : J g μ d hs P pc lv (.int n :: st) h := jr_newq6 hcl hao hn hN hroom hdg (k _ _ rfl rfl)
theorem jr_newE {ci index N : Nat} {fs : List Value} (hnw : jNw μ.1.cls index ci N) (hfs : ∀ C T, vwCl[ci]? = some (C, T, N) → ∀ j, j < N → ∀ ty, parseFieldDescriptor (T j).2.2.1 = some ty → defaultValue ty = vp_V fs j) (hroom : jroom g h 1 N) (hdg : decode μ.2.1 pc = .ok (.new index, 3)) (k : ∀ q h1, q = h.2.1 → h1 = jnew h (.inr (ci, fs)) N → J g μ d hs P (pc + 3) lv (.ref q :: st) h1) : J g μ d hs P pc lv st h := jr_new hnw hfs hroom hdg (k _ _ rfl rfl)
theorem jr_new_int {N : Nat} {n : Int32} (hn : n = nI N) (hN : N < 60000000) (hroom : jroom g h 1 N) (hdg : decode μ.2.1 pc = .ok (.newarray .int, 2)) (k : ∀ q h1, q = h.2.1 → h1 = jnew h (.inl (0, (N, .inl (fun _ => 0)))) N → J g μ d hs P (pc + 2) lv (.ref q :: st) h1) : J g μ d hs P pc lv (.int n :: st) h :=
  jr_newarr (t := 0) (x := (N, .inl (fun _ => 0))) (atype := .int) rfl (by decide) kw_arr_int (fun _ => rfl) hn (by omega) (by show N * 4 ≤ _; omega) hroom hdg (k _ _ rfl rfl)
theorem jr_new_byte {N : Nat} {n : Int32} (hn : n = nI N) (hN : N < 60000000) (hroom : jroom g h 1 N) (hdg : decode μ.2.1 pc = .ok (.newarray .byte, 2)) (k : ∀ q h1, q = h.2.1 → h1 = jnew h (.inl (1, (N, .inl (fun _ => 0)))) N → J g μ d hs P (pc + 2) lv (.ref q :: st) h1) : J g μ d hs P pc lv (.int n :: st) h :=
  jr_newarr (t := 1) (x := (N, .inl (fun _ => 0))) (atype := .byte) rfl (by decide) kw_arr_byte (fun _ => rfl) hn (by omega) (by show N * 1 ≤ _; omega) hroom hdg (k _ _ rfl rfl)
theorem jr_new_bool {N : Nat} {n : Int32} (hn : n = nI N) (hN : N < 60000000) (hroom : jroom g h 1 N) (hdg : decode μ.2.1 pc = .ok (.newarray .boolean, 2)) (k : ∀ q h1, q = h.2.1 → h1 = jnew h (.inl (2, (N, .inl (fun _ => 0)))) N → J g μ d hs P (pc + 2) lv (.ref q :: st) h1) : J g μ d hs P pc lv (.int n :: st) h :=
  jr_newarr (t := 2) (x := (N, .inl (fun _ => 0))) (atype := .boolean) rfl (by decide) kw_arr_bool (fun _ => rfl) hn (by omega) (by show N * 1 ≤ _; omega) hroom hdg (k _ _ rfl rfl)
theorem jr_new_long {N : Nat} {n : Int32} (hn : n = nI N) (hN : N < 60000000) (hroom : jroom g h 1 N) (hdg : decode μ.2.1 pc = .ok (.newarray .long, 2)) (k : ∀ q h1, q = h.2.1 → h1 = jnew h (.inl (3, (N, .inr (.inl (fun _ => 0))))) N → J g μ d hs P (pc + 2) lv (.ref q :: st) h1) : J g μ d hs P pc lv (.int n :: st) h :=
  jr_newarr (t := 3) (x := (N, .inr (.inl (fun _ => 0)))) (atype := .long) rfl (by decide) kw_arr_long (fun _ => rfl) hn (by omega) (by show N * 8 ≤ _; omega) hroom hdg (k _ _ rfl rfl)
theorem jr_copyiE {a0 a n0 n1 index : Nat} {f f1 : Nat → Int32} {sp dp n : Int32} (hlink : Cond.methodLink μ.1.cls index arraycopyName ∈ lw_tbl) (hdg : decode μ.2.1 pc = .ok (.invokestatic index, 3)) (ha0 : h.1 a0 = some (.inl (0, (n0, .inl f)))) (ha1 : h.1 a = some (.inl (0, (n1, .inl f1)))) (h1 : ¬ sp < 0) (h2 : ¬ dp < 0) (h3 : ¬ n < 0) (h4 : sp.toNatClampNeg + n.toNatClampNeg ≤ n0) (h5 : dp.toNatClampNeg + n.toNatClampNeg ≤ n1) (hst : (st.map fun v => v.category).sum ≤ 8) (k : ∀ h1, h1 = jset h a (.inl (0, (n1, .inl (va_cpy f f1 sp.toNatClampNeg dp.toNatClampNeg n.toNatClampNeg)))) → J g μ d hs P (pc + 3) lv st h1) : J g μ d hs P pc lv (.int n :: .int dp :: .ref a :: .int sp :: .ref a0 :: st) h := jr_copyi hlink hdg ha0 ha1 h1 h2 h3 h4 h5 hst (k _ rfl)
theorem jr_copylE {a0 a n0 n1 index : Nat} {f f1 : Nat → Int64} {sp dp n : Int32} (hlink : Cond.methodLink μ.1.cls index arraycopyName ∈ lw_tbl) (hdg : decode μ.2.1 pc = .ok (.invokestatic index, 3)) (ha0 : h.1 a0 = some (.inl (3, (n0, .inr (.inl f))))) (ha1 : h.1 a = some (.inl (3, (n1, .inr (.inl f1))))) (h1 : ¬ sp < 0) (h2 : ¬ dp < 0) (h3 : ¬ n < 0) (h4 : sp.toNatClampNeg + n.toNatClampNeg ≤ n0) (h5 : dp.toNatClampNeg + n.toNatClampNeg ≤ n1) (hst : (st.map fun v => v.category).sum ≤ 8) (k : ∀ h1, h1 = jset h a (.inl (3, (n1, .inr (.inl (va_cpy f f1 sp.toNatClampNeg dp.toNatClampNeg n.toNatClampNeg))))) → J g μ d hs P (pc + 3) lv st h1) : J g μ d hs P pc lv (.int n :: .int dp :: .ref a :: .int sp :: .ref a0 :: st) h := jr_copyl hlink hdg ha0 ha1 h1 h2 h3 h4 h5 hst (k _ rfl)
end JR6
