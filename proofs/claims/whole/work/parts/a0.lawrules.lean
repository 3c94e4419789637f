/-! Methods with handlers: their calls, a catch, their contract -/
/-- exceptions that are not each other's kind -/
def ncs : List (String × String) := [(nse, iae), (nse, ise), (nse, iob), (iae, nse), (iae, ise), (iae, iob), (ise, nse), (ise, iae), (ise, iob), (iob, nse), (iob, iae), (iob, ise)]
def jnc (g : jG) : Prop := ∀ p ∈ ncs, va_Nc p.1 p.2 g.2.1
theorem jnc_at {g : jG} (H : jnc g) (i : Nat) {E n : String} (h : ncs[i]? = some (E, n)) : va_Nc E n g.2.1 := H (E, n) (List.mem_of_getElem? h)
def jCat (g : jG) (own : String) (hh : List (Nat × Nat × Nat × Nat)) (pc : Nat) (E : String) (hpc : Nat) : Prop := ∃ (pre : List ExceptionTableEntry) (x : ExceptionTableEntry) (suf : List ExceptionTableEntry) (nm : String), tableOf hh = pre ++ x :: suf ∧ (∀ z ∈ pre, covers z pc = false ∨ (z.catchType ≠ 0 ∧ ∃ n : String, Cond.classLink own z.catchType n ∈ lw_tbl ∧ va_Nc E n g.2.1)) ∧ covers x pc = true ∧ x.catchType ≠ 0 ∧ Cond.classLink own x.catchType nm ∈ lw_tbl ∧ Cond.castable E nm ∈ lw_tbl ∧ x.handlerPc = hpc
section JR9
variable {g : jG} {μ μ2 : jM} {d : Nat} {hs : jH} {P P2 : jO → jH → Prop} {pc : Nat} {lv : List (Nat × Value)} {st st0 : List Value} {h : jH}
theorem j_runH {p : Program} {e : Env} {R : Room} {s : State} {m : MethodId} {args : Array Value} {below : List Frame} {meth : Method} {c : Code} {H : Heap} {ls : Array Slot} {locs : List Loc} {a : Array Value} (hg : jok g) (B : jB g μ d hs p R s m meth c) (hR : jR g h H) (hl : lv_has ls μ.2.2.1 lv) (hL : ∀ z ∈ locs, jF g z.base) (hf : jfit g hs h)
    (hrun : vx_Run p g.1 e R s m args below meth c H locs (h.2.1 - hs.2.1) (h.2.2 - hs.2.2) (jB0 g + 601024 - h.2.1) (7293034 - h.2.2) (F0 m pc ls st0) st (jQ g h P2 a) (jX g h P2) (jF g))
    (kk : ∀ v h', P2 (.inl v) h' → J g μ d hs P (pc + 3) lv (v.toList ++ st) h') (kx : ∀ E h', P2 (.inr E) h' → ∃ hpc, jCat g μ.1.cls μ.2.2.2.2 pc E hpc ∧ ∀ q : Nat, J g μ d hs P hpc lv [.ref q] h') :
    W p g.1 e R s m args below meth c H locs (h.2.1 - hs.2.1) (h.2.2 - hs.2.2) (vx_MQ below (jQ g hs P) (jX g hs P) args s (jB0 g + 601024 - hs.2.1) (7293034 - hs.2.2) (jF g)) (F0 m pc ls st0) := by
  intro T hT X
  have hsl := j_slots X
  obtain ⟨f1, f2, f3, f4⟩ := id hf
  have hsz := B.2.2.2.2.2.2.2.2.2.1
  have hW := B.2.2.2.2.2.2.2.1
  rcases hrun T hT X with ⟨v, st9, t, T', L, h0, X', hL', e1, e2, ⟨v', h', hv, hP2, hR', hsl', hf'⟩, stp⟩ | ⟨q, st9, t, T', L, E, ce, h0, X', hL', e1, e2, ⟨h', hP2, hR', hsl', hf'⟩, hce, hcv, hcl', stp⟩
  · cases hv
    obtain ⟨k1, k2, k3, k4⟩ := id hf'
    have hs9 : T'.heap.size = h'.2.1 := by rw [e1]; exact hR'.2.1
    rw [h0] at hsl'
    rw [hT] at hsl
    have X2 := j_narrow X' (k := h'.2.1 - hs.2.1) (n := h'.2.2 - hs.2.2) (by omega) (by rw [e1]; omega)
    obtain ⟨t2, a1, b1⟩ := kk v h' hP2 hg p e R s m args below meth c B T'.heap ls (locs ++ L) (by rw [e1]; exact hR') hl (fun z hz => by
      rcases List.mem_append.mp hz with h9 | h9
      · exact hL z h9
      · exact hL' z h9) ⟨by omega, by omega, k3, k4⟩ T' rfl X2
    exact ⟨t2, stp t2 a1, b1⟩
  · obtain ⟨k1, k2, k3, k4⟩ := id hf'
    have hs9 : T'.heap.size = h'.2.1 := by rw [e1]; exact hR'.2.1
    rw [h0] at hsl'
    rw [hT] at hsl
    have X2 := j_narrow X' (k := h'.2.1 - hs.2.1) (n := h'.2.2 - hs.2.2) (by omega) (by rw [e1]; omega)
    obtain ⟨hpc, ⟨pre, x, suf, nm, c1, c2, c3, c4, c5, c6, c7⟩, hk⟩ := kx E h' hP2
    subst c7
    obtain ⟨t2, a1, b1⟩ := vx_catch (rest := st) (pc := pc) (ls := ls) (own := μ.1.cls) (name := nm) (E := E) (ce := ce) (q := q) B.2.2.2.1 pre x suf (B.2.2.2.2.2.2.1.trans c1) (fun z hz => by
        rcases c2 z hz with h9 | ⟨h8, n, h7, h6⟩
        · exact Or.inl h9
        · exact Or.inr ⟨h8, n, j_word hg hW h7 rfl, h6.moved hW.alike⟩) c3 c4 (j_word hg hW c5 rfl) ((va_Nw.of rfl (hg.2.1 _ c6)).warmC hW |>.use rfl) (show T'.heap[q]? = some ce by rw [e1]; exact hce) hcv hcl'
      (hk q hg p e R s m args below meth c B T'.heap ls (locs ++ L) (by rw [e1]; exact hR') hl (fun z hz => by
        rcases List.mem_append.mp hz with h9 | h9
        · exact hL z h9
        · exact hL' z h9) ⟨by omega, by omega, k3, k4⟩) T' rfl X2
    exact ⟨t2, stp.trans a1, b1⟩
/-- an instance method's call in a method with handlers -/
theorem jr_callVH {ci index n b : Nat} {As fs : List Value} (hl : Cond.methodLink μ.1.cls index μ2.1 ∈ lw_tbl) (hm : jMv ci μ2 n) (hn : As.length = n) (hdg : decode μ.2.1 pc = .ok (.invokevirtual index, 3)) (hb : h.1 b = some (.inr (ci, fs))) (hst : (st.map fun v => v.category).sum ≤ 8) (hcon : Con g μ2 d (.ref b :: As) h P2)
    (kk : ∀ v h', P2 (.inl v) h' → J g μ (d + 1) hs P (pc + 3) lv (v.toList ++ st) h') (kx : ∀ E h', P2 (.inr E) h' → ∃ hpc, jCat g μ.1.cls μ.2.2.2.2 pc E hpc ∧ ∀ q : Nat, J g μ (d + 1) hs P hpc lv [.ref q] h') : J g μ (d + 1) hs P pc lv (As.reverse ++ .ref b :: st) h := by
  intro hg p e R s m args below meth c B H ls locs hR hl9 hL hf
  obtain ⟨m1, cn, c1, c2, q, c3, c4⟩ := hm
  have c0 : jCl μ.1.cls index μ2 n := ⟨hl, m1⟩
  have hW := B.2.2.2.2.2.2.2.1
  obtain ⟨f1, f2, f3, f4⟩ := id hf
  obtain ⟨b1, b2, b3, b4⟩ := B.2.2.2.2.2.2.2.2.1
  have hM := hcon hg ⟨Nat.le_refl _, Nat.le_refl _, f3, f4⟩
  have cw : CallW R s args μ.1.cls μ2.1.cls index μ2.1 μ2.2.1 μ2.2.2.1 μ2.2.2.2.1 [jw μ2] (jrm g d h) (jB0 g + 601024 - h.2.1) (7293034 - h.2.2) n := ⟨j_cB hg B c0 cn, j_word hg hW c1 rfl, j_word hg hW c2 rfl⟩
  obtain ⟨cellB, g1, g2, g3⟩ := va_recv (q0 := 0) (j_vaK hg hW) (j_obj hR hb) c3 rfl
  rw [c4] at g3
  exact j_runH hg B hR hl9 hL hf (vx_runV (Ts := []) ⟨B.1, B.2.1, B.2.2.1, B.2.2.2.1, fun w hw => nomatch hw⟩ hM cw ⟨j_blind, ⟨cellB, g1, g2, g3⟩, fun U hU hW9 => ⟨rfl, by rw [hU]; exact hR, State.WarmedH.trans hW hW9⟩⟩ rfl hn hl9.1 rfl (lv_room (pc := pc) (ls := ls) (rest := st) (m := m) hst) hdg ⟨by omega, by omega⟩) kk kx
/-- a static method with handlers -/
def jMh (μ2 : jM) (n : Nat) : Prop := jMe μ2 n ∧ (∃ x y, μ2.2.2.2.2 = x :: y) ∧ Cond.static μ2.1 ∈ lw_tbl
theorem jr_callSX {index n : Nat} {As : List Value} (hl : Cond.methodLink μ.1.cls index μ2.1 ∈ lw_tbl) (hm : jMh μ2 n) (hn : As.length = n) (hh : μ.2.2.2.2 = []) (hdg : decode μ.2.1 pc = .ok (.invokestatic index, 3)) (hst : (st.map fun v => v.category).sum ≤ 8) (hcon : Con g μ2 d As h P2)
    (kk : ∀ v h', P2 (.inl v) h' → J g μ (d + 1) hs P (pc + 3) lv (v.toList ++ st) h') (kx : ∀ E h', P2 (.inr E) h' → P (.inr E) h') : J g μ (d + 1) hs P pc lv (As.reverse ++ st) h := by
  intro hg p e R s m args below meth c B H ls locs hR hl9 hL hf
  obtain ⟨⟨c2, c3, c4, ⟨c5, c6, c7⟩, c8⟩, ⟨x9, y9, c9⟩, c10⟩ := hm
  have hW := B.2.2.2.2.2.2.2.1
  obtain ⟨f1, f2, f3, f4⟩ := id hf
  obtain ⟨b1, b2, b3, b4⟩ := B.2.2.2.2.2.2.2.2.1
  have hM := hcon hg ⟨Nat.le_refl _, Nat.le_refl _, f3, f4⟩
  have hjw : jw μ2 = Cond.codeWith μ2.1 μ2.2.1 μ2.2.2.1 μ2.2.2.2.1 μ2.2.2.2.2 := by unfold jw; rw [c9]
  have hgood : goodWord (jw μ2) = true := by rw [hjw]; rfl
  have cw : vx_CSW R s args μ.1.cls index μ2.1 μ2.2.1 μ2.2.2.1 μ2.2.2.2.1 μ2.2.2.2.2 [jw μ2] (jrm g d h) (jB0 g + 601024 - h.2.1) (7293034 - h.2.2) n := by
    refine ⟨⟨rfl, rfl, by show d + 16 + 1 ≤ R.frames; omega, j_loc b2 c4, fun w hw a' U hU => ?_, by rw [hjw]; exact List.mem_cons_self⟩, by rw [← hjw]; exact j_word hg hW c2 hgood, j_word hg hW c3 rfl, ⟨c5, c6⟩, fun sig hsig => ?_, j_word hg hW hl rfl, j_word hg hW c10 rfl⟩
    · rw [List.mem_singleton.mp hw]
      exact word_at hU (good_of_word hgood) (j_word (args := a') hg hW c2 hgood)
    · rw [hsig] at c7
      exact (Option.some.inj c7).symm
  exact j_run hg B hR hl9 hL hf hh (vx_runSX (Ts := []) ⟨B.1, B.2.1, B.2.2.1, B.2.2.2.1, fun w hw => nomatch hw⟩ hM cw ⟨j_blind, fun U hU hW9 => ⟨rfl, by rw [hU]; exact hR, State.WarmedH.trans hW hW9⟩⟩ rfl hn hl9.1 rfl (lv_room (pc := pc) (ls := ls) (rest := st) (m := m) hst) hdg ⟨by omega, by omega⟩) kk kx
theorem jr_cXi {index n : Nat} {As : List Value} {Q : Int32 → jH → Prop} (hl : Cond.methodLink μ.1.cls index μ2.1 ∈ lw_tbl) (hm : jMh μ2 n) (hn : As.length = n) (hh : μ.2.2.2.2 = []) (hdg : decode μ.2.1 pc = .ok (.invokestatic index, 3)) (hst : (st.map fun v => v.category).sum ≤ 8) (hcon : Con g μ2 d As h (jPi Q (fun E h' => P (.inr E) h'))) (kk : ∀ r h', Q r h' → J g μ (d + 1) hs P (pc + 3) lv (.int r :: st) h') : J g μ (d + 1) hs P pc lv (As.reverse ++ st) h :=
  jr_callSX hl hm hn hh hdg hst hcon (fun v h' hp => by
    match v, hp with
    | (some (.int r)), hp => exact kk r h' hp) (fun E h' hp => hp)
/-- a contract out of its body, with handlers -/
theorem con_ofH {as : List Value} (hp : plainName μ.1.cls = true) (hlen : (lg_sl as).length ≤ μ.2.2.1) (hh : ∃ x y, μ.2.2.2.2 = x :: y) (k : J g μ d h P 0 (lv_args 0 as) [] h) : Con g μ d as h P := by
  intro hg hf
  obtain ⟨x9, y9, c9⟩ := hh
  have hjw : jw μ = Cond.codeWith μ.1 μ.2.1 μ.2.2.1 μ.2.2.2.1 μ.2.2.2.2 := by unfold jw; rw [c9]
  refine vx_ofWH (cc := μ.2.1) (maxL := μ.2.2.1) (ret := μ.2.2.2.1) (hh := μ.2.2.2.2) (ws' := []) hp (by rw [hjw]) ?_
  intro p e s m args below meth c s₁ B hml hv
  obtain ⟨rfl, hR, hW⟩ := hv
  have hl := lv_entry as (n := μ.2.2.1) hlen
  rw [lg_entry_eq]
  obtain ⟨f1, f2, f3, f4⟩ := id hf
  have hbody : jB g μ d h p (headSpec [jw μ] (jrm g d h)).room s m meth c := ⟨B.exec, B.bytes, hml, findClass_of_methodNamed B.named, B.notSynchronized, B.returns, vx_table (x := μ.1) B (atoms_spec (ws := [jw μ]) B.pre _ (by rw [hjw]; exact List.mem_cons_self)), hW, ⟨Nat.le_refl _, Nat.le_refl _, rfl, rfl⟩, hR.2.1, (name_of_methodNamed B.named B.method).1, hR.2.2.2⟩
  have hk := k hg p e (headSpec [jw μ] (jrm g d h)).room s m as.toArray below meth c hbody s.heap _ [] hR hl (fun z hz => nomatch hz) hf
  rw [Nat.sub_self, Nat.sub_self] at hk
  exact hk
end JR9
