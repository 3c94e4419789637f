section JX9
variable {p : Program} {l : Launch} {e : Env} {R : Room} {s : State} {m : MethodId} {args : Array Value} {below : List Frame} {meth : Method} {c : Code} {H : Heap} {locs : List Loc} {cells slots : Nat} {Q : State → Prop}
variable {mc ms : Nat} {free : Addr → Prop} {ls : Array Slot} {rest : List Value}
variable {Qc : Array Value → State → Outcome → State → Prop} {XC : String → State → State → Prop}
theorem jx_throwS {cc : ByteArray} {pc : Nat} (hexec : p.tables.exec = Jvm.exec) (hb : c.code = cc) (hl : l.stackTraces = false) {own cls text : String} {names : List String} {ik is ic mc ms sa : Nat} {A : Nat → Prop}
    (hown : s.vm.findClass own = some m.cls) (hcls : Bundle.fit cls = true) (hnames : ∀ n ∈ names, Bundle.fit n = true)
    (hk : (Cond.classLink own ik cls).before args s = true) (hini : (Cond.initialized cls).before args s = true) (hstr : vk_R own is text sa s) (hat : ∀ w ∈ vx_atS own ic cls names, w.before args s = true)
    (hgood : ∀ w ∈ Cond.classLink own ik cls :: Cond.initialized cls :: vx_atS own ic cls names, vx_ot w = true)
    (hU : vx_Zq Bundle.tN "UNASSIGNED_STACK" Bundle.steD A s s.heap) (hN : vx_Zq Bundle.tN "SUPPRESSED_SENTINEL" Bundle.listD A s s.heap) (hS : va_S A s.heap H locs) (hsize : ls.size = c.maxLocals)
    (d0 : decode cc pc = .ok (.new ik, 3)) (d3 : decode cc (pc + 3) = .ok (.dup, 1)) (d4 : decode cc (pc + 4) = .ok (.ldc is, 2)) (d6 : decode cc (pc + 6) = .ok (.invokespecial ic, 3)) (d9 : decode cc (pc + 9) = .ok (.athrow, 1))
    (hout : ∀ x ∈ c.exceptionTable.toList, covers x (pc + 9) = false)
    (hRframes : names.length + 3 < R.frames) (hRlocals : (rest.map fun v => v.category).sum + (13 * (names.length + 1) + 43) ≤ R.locals) (hRcells : cells + 1 ≤ R.cells) (hRslots : slots + 6 ≤ R.slots) (hlocks : meth.locks = false)
    (hx : ∀ t : State, s.vm.Alike t.vm → H.size ≤ t.heap.size → (∀ q : Nat, q < H.size → t.heap[q]? = H[q]?) → t.heap.size ≤ H.size + 1 → slotSum t.heap ≤ slotSum H + 6 → XC cls s t)
    (hf : ∀ z ∈ locs, free z.base) (hc : cells + 1 ≤ mc) (hs : slots + 6 ≤ ms) :
    W p l e R s m args below meth c H locs cells slots (vx_MQ below Qc XC args s mc ms free) (F0 m pc ls rest) := by
  intro T hT X
  have htr : e.platform.stackTraces = false := (show e.platform.stackTraces = l.stackTraces by rw [X.admits.platform]).trans hl
  have Y := vx_rebase X (R' := { frames := R.frames, locals := R.locals, cells := 1, slots := 6 }) (Nat.le_refl _) (Nat.le_refl _) hRcells hRslots
  obtain ⟨s', hA⟩ : ∃ z, z = (T.setVm s.vm).setFrames (.invoking m args :: below) := ⟨_, rfl⟩
  rw [← hA] at Y
  have hvm : s'.vm = s.vm := by rw [hA]; rfl
  have hhp : s'.heap = H := by rw [hA]; exact hT
  have hW0 : s.WarmedH s'.vm := by rw [hvm]; exact State.WarmedH.refl s
  have hat' : ∀ w ∈ vx_atS own ic cls names, w.before args s' = true := fun w hw => vx_ot_at hW0 hvm.symm (hgood w (List.mem_cons_of_mem _ (List.mem_cons_of_mem _ hw))) (hat w hw)
  have hk' : (Cond.classLink own ik cls).before args s' = true := vx_ot_at hW0 hvm.symm (hgood _ List.mem_cons_self) hk
  have hini' : (Cond.initialized cls).before args s' = true := vx_ot_at hW0 hvm.symm (hgood _ (List.mem_cons_of_mem _ List.mem_cons_self)) hini
  have hU' : vx_Zq Bundle.tN "UNASSIGNED_STACK" Bundle.steD A s' s'.heap := by rw [hhp]; exact vx_Zq.moved hW0.alike (hU.kept hS.2.1)
  have hN' : vx_Zq Bundle.tN "SUPPRESSED_SENTINEL" Bundle.listD A s' s'.heap := by rw [hhp]; exact vx_Zq.moved hW0.alike (hN.kept hS.2.1)
  have h : ∀ w ∈ Bundle.ownAtoms own ic cls names, w.before args s' = true := vx_own hat' (vx_isRefq hU'.1) (vx_isRefq hN'.1) hU'.2.word hN'.2.word
  have hown' : s'.vm.findClass own = some m.cls := by rw [hvm]; exact hown
  have hins : (Cond.instantiable cls 6).before args s' = true := h _ (by simp [Bundle.ownAtoms])
  obtain ⟨vm₁, cX, kX, hfX, hkX, -, -, X₁, st1⟩ := Y.newCold hexec (own := own) (C := cls) (index := ik) (n := 6) hown' hk' hins hini'
    (g := F0 m pc ls rest) rfl (by rw [hb]; exact d0) (Nat.le_refl _) (Nat.le_refl _)
  generalize hT1 : (T.setVm vm₁).pushCell { cls := cX, slots := kX.instanceTypes.map defaultValue, vm := .none } = T1 at X₁ st1
  have hcat : (Value.ref T.heap.size).category = 1 := rfl
  have hcellA : T1.heap[T.heap.size]? = some (freshCell cX kX) := by rw [← hT1]; exact State.heap_pushCell_size _ _
  have d3' : decode c.code (pc + 3) = .ok (.dup, 1) := by rw [hb]; exact d3
  have d4' : decode c.code (pc + 4) = .ok (.ldc is, 2) := by rw [hb]; exact d4
  have hstr' : vk_R own is text sa s' := vk_R.warm hW0 hstr
  obtain ⟨U, hsteps, hrun, hend, hW, hsame, ce, hce, hO⟩ := X₁.ctorThrowS hexec htr (own := own) (cls := cls) (names := names) (ic := ic) hown' hcls hnames h (fun x hx => nomatch hx) hfX hkX hcellA (by rw [hhp, hT]; exact Nat.le_refl _) (msg := .ref sa) rfl
    (g := { method := m, pc := pc + 6, locals := ls, stack := .ref sa :: .ref T.heap.size :: .ref T.heap.size :: rest, locked := none }) rfl hsize rfl rfl (rest := rest) rfl
    (by rw [hb]; exact d6) (by rw [hb]; exact d9) hout hRframes (by simp only [List.map_cons, List.sum_cons, hcat]; omega) hlocks
  obtain ⟨f1, f2⟩ := vx_frame hsame
  rw [hhp] at f1 f2
  have hWs : s.WarmedH U.vm := State.WarmedH.trans hW0 hW
  have hsz9 : U.heap.size ≤ H.size + 1 := by
    have h9 := hsame.2.2.1
    rw [hhp] at h9
    exact h9
  have hsl9 : slotSum U.heap ≤ slotSum H + 6 := by
    have b1 : s'.slotsTrue = true := by
      rw [hA]
      have h9 := X.book
      simp only [State.slotsTrue] at h9 ⊢
      exact h9
    have b2 := (State.slotsTrue_iff _).mp b1
    have b3 := (State.slotsTrue_iff _).mp (State.slotsTrue_of_sameButNew b1 hsame)
    have b4 := hsame.2.2.2.1
    have b5 := hsame.2.2.2.2.1
    have b2' : s'.slotsUsed = slotSum s'.heap := b2
    have b3' : U.slotsUsed = slotSum U.heap := b3
    have b4' : U.slotsUsed = s'.slotsUsed + ((U.heap.toList.drop s'.heap.size).map (·.slots.size)).sum := b4
    have b5' : ((U.heap.toList.drop s'.heap.size).map (·.slots.size)).sum ≤ 6 := b5
    rw [hhp] at b2'
    omega
  have hcl : s.vm.findClass cls = some ce.cls := by
    have h9 := hO.cls
    rw [hvm] at h9
    exact h9
  have hall : s.sameButNew ({ U with vm := s.vm } : State) locs mc ms := by
    subst hA
    obtain ⟨e1, e2⟩ := hsame
    rw [State.setFrames_setFrames] at e1
    have h2 : (T.setVm s.vm).sameButNew ({ U with vm := s.vm } : State) [] (0 + 1) (0 + 6) := ⟨e1, e2⟩
    have h3 := X.same.trans h2
    rw [List.append_nil] at h3
    exact h3.mono hc hs
  refine ⟨U, ?_, .threw T.heap.size, hrun, hend, Or.inr ⟨T.heap.size, rfl, cls, ce, locs, hx U hWs.alike f1 (fun q hq => f2 q hq (fun z hz => nomatch hz)) hsz9 hsl9, hce, hO.vm, hcl, hWs, hall, hf⟩⟩
  refine st1 _ ?_
  show Steps p.tables e below (T1.setTop { method := m, pc := pc + 3, locals := ls, stack := .ref T.heap.size :: rest, locked := none }) _
  jvm_step X₁.here [X₁.here.top, hexec, d3', Value.category]
  exact X₁.ldcString hexec (own := own) (text := text) (index := is) (a := sa) hown' hstr'.1 hstr'.2
    (g := { method := m, pc := pc + 4, locals := ls, stack := .ref T.heap.size :: .ref T.heap.size :: rest, locked := none }) rfl d4' _ hsteps
end JX9
/-- the exceptions that the class throws: the chain of constructors to Throwable's -/
def jchain : String → List String := fun E => match E with
  | "java/lang/IllegalStateException" => ["java/lang/RuntimeException", "java/lang/Exception"]
  | "java/lang/IllegalArgumentException" => ["java/lang/RuntimeException", "java/lang/Exception"]
  | "java/lang/IndexOutOfBoundsException" => ["java/lang/RuntimeException", "java/lang/Exception"]
  | "java/util/NoSuchElementException" => ["java/lang/RuntimeException", "java/lang/Exception"]
  | _ => []
/-- words that the tables alone decide -/
def jdc : Cond → Bool := fun w => match w with
  | .declares _ => true
  | .castable _ _ => true
  | _ => false
/-- a throw's words -/
def jTh (own : String) (ik is ic : Nat) (E text : String) : Prop := Bundle.fit E = true ∧ (∀ n ∈ jchain E, Bundle.fit n = true) ∧ Cond.classLink own ik E ∈ lw_tbl ∧ Cond.initialized E ∈ lw_tbl ∧ (∀ w ∈ vx_atS own ic E (jchain E), w ∈ lw_tbl ∧ (goodWord w = true ∨ jdc w = true)) ∧ (jchain E).length = 2 ∧ Cond.stringRef own is text ∈ lw_tbl
/-- a call's words: method μ2 by the entry 'index' of the class 'own' -/
def jCl (own : String) (index : Nat) (μ2 : jM) (n : Nat) : Prop := Cond.methodLink own index μ2.1 ∈ lw_tbl ∧ jw μ2 ∈ lw_tbl ∧ Cond.initialized μ2.1.cls ∈ lw_tbl ∧ μ2.2.2.1 ≤ 40 ∧
  (μ2.1.cls ≠ "java/lang/invoke/MethodHandle" ∧ μ2.1.cls ≠ "java/lang/invoke/VarHandle" ∧ (parseMethodDescriptor μ2.1.desc).map (fun d => d.parameters.length) = some n) ∧ plainName μ2.1.cls = true
def jCv (own : String) (index ci : Nat) (μ2 : jM) (n : Nat) : Prop := jCl own index μ2 n ∧ μ2.2.2.2.2 = [] ∧ Cond.instanceMethod μ2.1 ∈ lw_tbl ∧ Cond.selects μ2.1.cls μ2.1 μ2.1 ∈ lw_tbl ∧ ∃ q, vwCl[ci]? = some q ∧ q.1 = μ2.1.cls
def jCs (own : String) (index : Nat) (μ2 : jM) (n : Nat) : Prop := jCl own index μ2 n ∧ Cond.static μ2.1 ∈ lw_tbl
theorem jw_in {w : Cond} (i : Nat) (h : tables_1[i]? = some w) : w ∈ lw_tbl := List.mem_append_right _ (List.mem_of_getElem? h)
theorem jw_pr {w : Cond} (i : Nat) (h : (k2_sels lw_privs)[i]? = some w) : w ∈ lw_tbl := List.mem_append_left _ (List.mem_of_getElem? h)
section JR3
variable {g : jG} {μ : jM} {d : Nat} {hs : jH} {P : jO → jH → Prop} {pc : Nat} {lv : List (Nat × Value)} {st : List Value} {h : jH}
theorem jr_ldc {index : Nat} {v : Int32} (hw : Cond.constant μ.1.cls index v ∈ lw_tbl) (hdg : decode μ.2.1 pc = .ok (.ldc index, 2)) (k : J g μ d hs P (pc + 2) lv (.int v :: st) h) : J g μ d hs P pc lv st h :=
  fun hg p e R s m args below meth c B H ls locs hR hl hL hf => lv_ldc B.1 B.2.1 B.2.2.2.1 (j_word hg B.2.2.2.2.2.2.2.1 hw rfl) hdg (k hg p e R s m args below meth c B H ls locs hR hl hL hf)
theorem jr_ldc2 {index : Nat} {v : Int64} (hw : Cond.constantLong μ.1.cls index v ∈ lw_tbl) (hdg : decode μ.2.1 pc = .ok (.ldc2_w index, 3)) (k : J g μ d hs P (pc + 3) lv (.long v :: st) h) : J g μ d hs P pc lv st h :=
  fun hg p e R s m args below meth c B H ls locs hR hl hL hf => lv_ldc2 B.1 B.2.1 B.2.2.2.1 (j_word hg B.2.2.2.2.2.2.2.1 hw rfl) hdg (k hg p e R s m args below meth c B H ls locs hR hl hL hf)
theorem jr_ldcw {index : Nat} {v : Int32} (hw : Cond.constant μ.1.cls index v ∈ lw_tbl) (hdg : decode μ.2.1 pc = .ok (.ldc_w index, 3)) (k : J g μ d hs P (pc + 3) lv (.int v :: st) h) : J g μ d hs P pc lv st h :=
  fun hg p e R s m args below meth c B H ls locs hR hl hL hf => lv_ldcw B.1 B.2.1 B.2.2.2.1 (j_word hg B.2.2.2.2.2.2.2.1 hw rfl) hdg (k hg p e R s m args below meth c B H ls locs hR hl hL hf)
/-- the end, with an int of the method's type -/
theorem jr_iret {v : Int32} {ty : FieldType} (hr : μ.2.2.2.1 = some ty) (hn : narrow ty (.int v) = .int v) (hdg : decode μ.2.1 pc = .ok (.ireturn, 1)) (k : P (.inl (some (.int v))) h) : J g μ d hs P pc lv [.int v] h := by
  intro hg p e R s m args below meth c B H ls locs hR hl hL hf T hT X
  have hsl := j_slots X
  obtain ⟨f1, f2, f3, f4⟩ := id hf
  exact vx_ret (W.widen (by omega) (by omega) (W.zret (ty := ty) B.1 B.2.1 (B.2.2.2.2.2.1.trans hr) hn (fun t ht hW => ⟨_, h, rfl, k, by rw [ht]; exact hR, by rw [ht, ← hT]; exact hsl, hf⟩) hL hdg B.2.2.2.2.1)) T hT X
theorem jr_lret {v : Int64} (hr : μ.2.2.2.1 = some .long) (hdg : decode μ.2.1 pc = .ok (.lreturn, 1)) (k : P (.inl (some (.long v))) h) : J g μ d hs P pc lv [.long v] h := by
  intro hg p e R s m args below meth c B H ls locs hR hl hL hf T hT X
  have hsl := j_slots X
  obtain ⟨f1, f2, f3, f4⟩ := id hf
  exact vx_ret (W.widen (by omega) (by omega) (W.lret B.1 B.2.1 (B.2.2.2.2.2.1.trans hr) (fun t ht hW => ⟨_, h, rfl, k, by rw [ht]; exact hR, by rw [ht, ← hT]; exact hsl, hf⟩) hL hdg B.2.2.2.2.1)) T hT X
theorem jr_vret (hr : μ.2.2.2.1 = none) (hdg : decode μ.2.1 pc = .ok (.return_, 1)) (k : P (.inl none) h) : J g μ d hs P pc lv [] h := by
  intro hg p e R s m args below meth c B H ls locs hR hl hL hf T hT X
  have hsl := j_slots X
  obtain ⟨f1, f2, f3, f4⟩ := id hf
  exact vx_ret (W.widen (by omega) (by omega) (W.vret B.1 B.2.1 (B.2.2.2.2.2.1.trans hr) (fun t ht hW => ⟨_, h, rfl, k, by rw [ht]; exact hR, by rw [ht, ← hT]; exact hsl, hf⟩) hL hdg B.2.2.2.2.1)) T hT X
end JR3
