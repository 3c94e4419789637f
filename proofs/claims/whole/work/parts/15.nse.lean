section JXX
variable {p : Program} {l : Launch} {e : Env} {R : Room} {s : State} {m₀ : MethodId} {args : Array Value} {below : List Frame} {meth : Method} {c : Code} {W : State} {locs : List Loc} {cells slots : Nat}
set_option maxHeartbeats 2000000 in
/-- NoSuchElementException's constructor and the throw behind it (after the library's law of the other classes, its chain begun by the entry 13) -/
theorem jx_ctorX (X : Stand p l e R s m₀ args below meth c W locs cells slots) (hexec : p.tables.exec = Jvm.exec) (htr : e.platform.stackTraces = false) {own cls : String} {names : List String} {ic : Nat}
    (hown : s.vm.findClass own = some m₀.cls) (hcls : Bundle.fit cls = true) (hnames : ∀ n ∈ names, Bundle.fit n = true)
    (h : ∀ a ∈ Bundle.ownAtomsX own ic cls 13 prog_35_method_4_code names, a.before args s = true)
    (hlocs : ∀ x ∈ locs, ∀ cell, s.heap[x.base]? = some cell → cell.vm.isStatics = false)
    {a : Addr} {cX : ClassId} {kX : Class} (hfoundX : s.vm.findClass cls = some cX) (hkX : s.vm.classes[cX]? = some kX) (hcell : W.heap[a]? = some (freshCell cX kX)) (hnew : s.heap.size ≤ a)
    {msg : Value} (hmsg : msg.isRef = true)
    {g : JFrame} (hg : g.method = m₀) (hsize : g.locals.size = c.maxLocals) (hlocked : g.locked = none) (hentered : g.entered = []) {rest : List Value} (hstack : g.stack = msg :: .ref a :: .ref a :: rest)
    (hd6 : decode c.code g.pc = .ok (.invokespecial ic, 3)) (hd9 : decode c.code (g.pc + 3) = .ok (.athrow, 1)) (hout : ∀ x ∈ c.exceptionTable.toList, covers x (g.pc + 3) = false)
    (hRframes : names.length + 3 < R.frames) (hRlocals : 2 * g.monitorRoom + ((Value.ref a :: rest).map fun v => v.category).sum + (13 * (names.length + 1) + 42) ≤ R.locals) (hlocks : meth.locks = false := by first | assumption | exact BodyLoose.notSynchronized (by assumption) | exact Body.notSynchronized (by assumption)) :
    ∃ U : State, Steps p.tables e below (W.setTop g) U ∧ U.status = .running ∧ Ended U below (.threw a) ∧ s.WarmedH U.vm ∧ s.sameButNew ({ U with vm := s.vm } : State) locs cells slots ∧
      ∃ ce, U.heap[a]? = some ce ∧ (s.vm.findClass cls = some ce.cls ∧ ce.vm = .none) := by
  have howns : e.platform.frameOwnsMonitors = true := by rw [X.admits.platform]
  have hfin : e.platform.finalization = false := by rw [X.admits.platform]
  have hpl : e.platform.magicAccessors = ({} : Platform).magicAccessors := by rw [X.admits.platform]
  have a' : ∀ x, x ∈ Bundle.ownAtomsX own ic cls 13 prog_35_method_4_code names → x.holds args s none s [] = true := fun x hx => h x hx
  obtain ⟨T, Z0, L, -, Y⟩ := ThrowableC.of_atoms (args := args) howns hfin hpl (fun x hx => h x (by simp [Bundle.ownAtomsX, hx]))
  obtain ⟨Z, M, LZ, LM, hnZ⟩ := Init0T.ofS_atoms (args := args) hpl L Y (fun x hx => h x (by simp [Bundle.ownAtomsX, hx]))
  obtain ⟨P1, Ps, hlen, L1, hL, hP1m, hlink1, hlink⟩ := Bundle.chainSX (args := args) (ix := 13) (rx := prog_35_method_4_code) hpl hnZ (by decide +kernel) (by decide +kernel) (by decide +kernel) (by decide +kernel) names cls hcls hnames (fun x hx => h x (by simp [Bundle.ownAtomsX, hx]))
              
  have hfound : s.vm.findClass cls = some P1.m.cls := findClass_of_methodNamed hP1m
  cases Option.some.inj (hfoundX.symm.trans hfound)
  obtain ⟨c1, kX', hc1, hk, hord, -, -, hn6⟩ := Cond.instantiable_spec (a' (.instantiable cls 6) (by simp [Bundle.ownAtomsX]))
  cases Option.some.inj (hc1.symm.trans hfound)
  cases Option.some.inj (hkX.symm.trans hk)
  have hsel0 : selectMethod e.platform s.vm P1.m.cls T.fill0 = .method T.fill0 := by
    obtain ⟨c2, r2, m2, q1, q2, q3, q4, -⟩ := Cond.selects_spec (a' (.selects cls Bundle.tFill0 Bundle.tFill0) (by simp [Bundle.ownAtomsX]))
    cases Option.some.inj (q1.symm.trans hfound)
    cases Option.some.inj (q2.symm.trans (State.methodFound?_of_named Y.fill0 (by decide)))
    cases Option.some.inj (q3.symm.trans Y.fill0)
    rw [Launch.admits_selectMethod X.admits]; exact q4
  have hselF : selectMethod e.platform s.vm P1.m.cls T.fill = .method T.fill := by
    obtain ⟨c2, r2, m2, q1, q2, q3, q4, -⟩ := Cond.selects_spec (a' (.selects cls Bundle.tFill Bundle.tFill) (by simp [Bundle.ownAtomsX]))
    cases Option.some.inj (q1.symm.trans hfound)
    cases Option.some.inj (q2.symm.trans (State.methodFound?_of_named Y.fill (by decide)))
    cases Option.some.inj (q3.symm.trans Y.fill)
    rw [Launch.admits_selectMethod X.admits]; exact q4
  obtain ⟨cellS0, hcS0, hiss⟩ := Y.statics
  obtain ⟨u0, hu0⟩ := Cond.staticRefV Y.unassigned L.unassignedStatic L.statics hcS0 hiss (a' (.isRef (.static Bundle.tN "UNASSIGNED_STACK" Bundle.steD)) (by simp [Bundle.ownAtomsX]))
  obtain ⟨sen, hsen⟩ := Cond.staticRefV Y.sentinel L.sentinelStatic L.statics hcS0 hiss (a' (.isRef (.static Bundle.tN "SUPPRESSED_SENTINEL" Bundle.listD)) (by simp [Bundle.ownAtomsX]))
  obtain ⟨ci198, i198, fB, hk198, hg198, ha198, hsB, -, hnB, htB, hffB⟩ := Cond.ownField (t := .object "java/lang/Object") Y.found L.cls (by decide +kernel) (a' (.fieldLink Bundle.tN 198 Bundle.tN "backtrace" "Ljava/lang/Object;") (by simp [Bundle.ownAtomsX])) (a' (.lays Bundle.tN Bundle.tN "backtrace" "Ljava/lang/Object;") (by simp [Bundle.ownAtomsX])) e.platform hpl
  obtain ⟨cellS, hcS', heS, -, hkeep⟩ := X.same.2.2.2.2.2 T.aS cellS0 hcS0
  have hcellS : W.heap[T.aS]? = some cellS := hcS'
  have hout' : ∀ i, (⟨T.aS, i⟩ : Loc) ∉ locs := fun i hmem => by
    have := hlocs _ hmem cellS0 hcS0
    rw [hiss] at this; cases this
  have hknownS : cellS.vm ≠ .unknown := by
    rw [heS]; intro hu
    rw [show cellS0.vm = .unknown from hu] at hiss
    cases hiss
  have hneS : T.aS ≠ a := Nat.ne_of_lt (Nat.lt_of_lt_of_le (Array.getElem?_eq_some_iff.mp hcS0).1 hnew)
  obtain ⟨iM, hffM⟩ := Y.msg
  obtain ⟨tyC, dC, hdC, hdnC⟩ := Cond.laysAt hfound hk Y.cause (a' (.lays cls Bundle.tN "cause" "Ljava/lang/Throwable;") (by simp [Bundle.ownAtomsX]))
  obtain ⟨tyS, dS, hdS, hdnS⟩ := Cond.laysAt hfound hk Y.stack (a' (.lays cls Bundle.tN "stackTrace" Bundle.steD) (by simp [Bundle.ownAtomsX]))
  obtain ⟨tyP, dP, hdP, hdnP⟩ := Cond.laysAt hfound hk Y.supp (a' (.lays cls Bundle.tN "suppressedExceptions" Bundle.listD) (by simp [Bundle.ownAtomsX]))
  obtain ⟨tyM, dM, hdM, hdnM⟩ := Cond.laysAt hfound hk hffM (a' (.lays cls Bundle.tN "detailMessage" "Ljava/lang/String;") (by simp [Bundle.ownAtomsX]))
  obtain ⟨tyB, dB, hdB, hdnB⟩ := Cond.laysAt hfound hk hffB (a' (.lays cls Bundle.tN "backtrace" "Ljava/lang/Object;") (by simp [Bundle.ownAtomsX]))
  have bC := Cond.laysApart hdB hdC hdnB hdnC (by rw [hnB, Y.causeName]; decide)
  have bS := Cond.laysApart hdB hdS hdnB hdnS (by rw [hnB, Y.stackName]; decide)
  have bP := Cond.laysApart hdB hdP hdnB hdnP (by rw [hnB, Y.suppName]; decide)
  have hskip : SkipFacts T e.platform s (fun u => u) u0 ((preparedCellV T.toThrowableT (freshCell P1.m.cls kX) a u0 sen).withEntry W.cur) :=
    ⟨{ ci198 := ci198, i198 := i198, fBack := fB }, ⟨hk198, hg198, ha198, hsB⟩, by
      have := fresh_default (c := P1.m.cls) tyB
      rw [htB] at this
      simpa [preparedCellV, Cell.setSlot, Cell.withEntry, Array.getElem?_setIfInBounds, bC, bS, bP, bC.symm, bS.symm, bP.symm, defaultValue] using this, fun _ _ => rfl⟩
                                     
  obtain ⟨tm, methC, cdC, kC, vm₁, hnC, -, -, -, -, -, -, -, hW₁, st1⟩ := Steps.initColdS (tb := p.tables) (e := e) (below := below) (s := s) (U := W) X.here hexec X.warmed hpl hown (t := Bundle.initS cls) rfl rfl (Bundle.fit_spec hcls).2
    (a' (.methodLink own ic (Bundle.initS cls)) (by simp [Bundle.ownAtomsX])) (h (.instanceMethod (Bundle.initS cls)) (by cases names <;> simp [Bundle.ownAtomsX, Bundle.chainSAtomsX, Bundle.passSAtoms])) (bytes := prog_35_method_4_code) (maxL := 2) (h (.code (Bundle.initS cls) prog_35_method_4_code 2 none) (by cases names <;> simp [Bundle.ownAtomsX, Bundle.chainSAtomsX, Bundle.passSAtoms]))
    (f := g) hg (a := a) (msg := msg) (rest := .ref a :: rest) hstack hd6
  cases Option.some.inj (hnC.symm.trans hP1m)
  have X₁ := X.noted hW₁
                                 
  obtain ⟨vm₂, X₂, st2⟩ := X₁.ctorMessageOffV hexec (g := { g with stack := .ref a :: rest }) hg hsize T L Z LZ M LM (P1 :: Ps)
    (fun P hP => by rcases List.mem_cons.mp hP with rfl | hP; exact L1; exact hL P hP) ⟨hlink1, hlink⟩ (u0 := u0) (sen := sen) (self := a) hmsg (cell := freshCell P1.m.cls kX) (cellS := cellS)
    hcell (fun _ => by simp) (by simp) rfl rfl hsel0 hselF hcellS hneS hknownS (by rw [hkeep _ (hout' _)]; exact hu0) (by rw [hkeep _ (hout' _)]; exact hsen)
    (Takes.of_laid hk hord tyC (by rw [Y.causeType]; rfl)) (Takes.of_laid hk hord tyS (by rw [Y.stackType]; exact fits_refV_array _ u0)) (Takes.of_laid hk hord tyP (by rw [Y.suppType]; exact fits_refV_object _ sen))
    (Takes.of_laid hk hord tyM (by rw [Y.msgType]; exact fits_refV_object _ ⟨msg, hmsg⟩)) Y.objLocals hskip htr [] hd6
    (by simp only [List.length_cons, hlen]; omega) (by simp only [List.length_cons, hlen]; exact hRlocals)
                                    
  obtain ⟨hwalk, hrun, hended, hWU, hsame⟩ := X₂.athrowLeaves hexec (g := { g with stack := .ref a :: rest, pc := g.pc + 3 }) hg hlocked hentered hout (a := a) (rest := rest) rfl hd9
  have hlt : a < ((W.setVm vm₁).setVm vm₂).heap.size := (Array.getElem?_eq_some_iff.mp hcell).1
  have hU := heapAt_setCell_self (s := (W.setVm vm₁).setVm vm₂) (plainBareV T.toThrowableT (freshCell P1.m.cls kX) a u0 sen msg) hlt
  refine ⟨_, st1 _ (fun acts => ?_), hrun, hended, hWU, hsame.weaken (fun y hy hlt' => ?_) (Nat.le_refl _) (Nat.le_refl _), _, hU, ?_⟩
  · rw [doInvoke_state]
    exact st2 _ hwalk
  · rcases List.mem_append.mp hy with h1 | h1
    · exact h1
    · exfalso
      have hb : y.base = a := by
        simp only [List.mem_cons, List.not_mem_nil, or_false] at h1
        rcases h1 with rfl | rfl | rfl | rfl | rfl <;> rfl
      rw [hb] at hlt'
      exact Nat.not_lt.mpr hnew hlt'
  · exact ⟨hfound, rfl⟩
end JXX
section JX9B
variable {p : Program} {l : Launch} {e : Env} {R : Room} {s : State} {m : MethodId} {args : Array Value} {below : List Frame} {meth : Method} {c : Code} {H : Heap} {locs : List Loc} {cells slots : Nat} {Q : State → Prop}
variable {mc ms : Nat} {free : Addr → Prop} {ls : Array Slot} {rest : List Value}
variable {Qc : Array Value → State → Outcome → State → Prop} {XC : String → State → State → Prop}
theorem jx_throwSX {cc : ByteArray} {pc : Nat} (hexec : p.tables.exec = Jvm.exec) (hb : c.code = cc) (hl : l.stackTraces = false) {own cls text : String} {names : List String} {ik is ic mc ms sa : Nat} {A : Nat → Prop}
    (hown : s.vm.findClass own = some m.cls) (hcls : Bundle.fit cls = true) (hnames : ∀ n ∈ names, Bundle.fit n = true)
    (hk : (Cond.classLink own ik cls).before args s = true) (hini : (Cond.initialized cls).before args s = true) (hstr : vk_R own is text sa s) (hat : ∀ w ∈ (Bundle.ownAtomsX own ic cls 13 prog_35_method_4_code names).filter vx_no, w.before args s = true)
    (hgood : ∀ w ∈ Cond.classLink own ik cls :: Cond.initialized cls :: (Bundle.ownAtomsX own ic cls 13 prog_35_method_4_code names).filter vx_no, vx_ot w = true)
    (hU : vx_Zq Bundle.tN "UNASSIGNED_STACK" Bundle.steD A s s.heap) (hN : vx_Zq Bundle.tN "SUPPRESSED_SENTINEL" Bundle.listD A s s.heap) (hS : va_S A s.heap H locs) (hsize : ls.size = c.maxLocals)
    (d0 : decode cc pc = .ok (.new ik, 3)) (d3 : decode cc (pc + 3) = .ok (.dup, 1)) (d4 : decode cc (pc + 4) = .ok (.ldc is, 2)) (d6 : decode cc (pc + 6) = .ok (.invokespecial ic, 3)) (d9 : decode cc (pc + 9) = .ok (.athrow, 1))
    (hout : ∀ x ∈ c.exceptionTable.toList, covers x (pc + 9) = false)
    (hRframes : names.length + 3 < R.frames) (hRlocals : (rest.map fun v => v.category).sum + (13 * (names.length + 1) + 43) ≤ R.locals) (hRcells : cells + 1 ≤ R.cells) (hRslots : slots + 6 ≤ R.slots) (hlocks : meth.locks = false)
    (hx : ∀ t : State, s.vm.Alike t.vm → H.size ≤ t.heap.size → (∀ q : Nat, q < H.size → t.heap[q]? = H[q]?) → t.heap.size ≤ H.size + 1 → slotSum t.heap ≤ slotSum H + 6 → XC cls s t)
    (hf : ∀ z ∈ locs, free z.base) (hc : cells + 1 ≤ mc) (hs : slots + 6 ≤ ms) :
    W p l e R s m args below meth c H locs cells slots (vx_MQ below Qc XC args s mc ms free) (F0 m pc ls rest) := by
  intro T hT X
  have htr : e.platform.stackTraces = false := (show e.platform.stackTraces = l.stackTraces by rw [X.admits.platform]).trans hl
  have Y := vx_rebase X (R' := { frames := R.frames, locals := R.locals, cells := 1, slots := 6 }) (Nat.le_refl _) (Nat.le_refl _) hRcells hRslots
  obtain ⟨s', hA⟩ : ∃ z, z = (T.setVm s.vm).setFrames (.invoking m args :: below) := ⟨_, rfl⟩
  rw [← hA] at Y
  have hvm : s'.vm = s.vm := by rw [hA]; rfl
  have hhp : s'.heap = H := by rw [hA]; exact hT
  have hW0 : s.WarmedH s'.vm := by rw [hvm]; exact State.WarmedH.refl s
  have hat' : ∀ w ∈ (Bundle.ownAtomsX own ic cls 13 prog_35_method_4_code names).filter vx_no, w.before args s' = true := fun w hw => vx_ot_at hW0 hvm.symm (hgood w (List.mem_cons_of_mem _ (List.mem_cons_of_mem _ hw))) (hat w hw)
  have hk' : (Cond.classLink own ik cls).before args s' = true := vx_ot_at hW0 hvm.symm (hgood _ List.mem_cons_self) hk
  have hini' : (Cond.initialized cls).before args s' = true := vx_ot_at hW0 hvm.symm (hgood _ (List.mem_cons_of_mem _ List.mem_cons_self)) hini
  have hU' : vx_Zq Bundle.tN "UNASSIGNED_STACK" Bundle.steD A s' s'.heap := by rw [hhp]; exact vx_Zq.moved hW0.alike (hU.kept hS.2.1)
  have hN' : vx_Zq Bundle.tN "SUPPRESSED_SENTINEL" Bundle.listD A s' s'.heap := by rw [hhp]; exact vx_Zq.moved hW0.alike (hN.kept hS.2.1)
  have h : ∀ w ∈ Bundle.ownAtomsX own ic cls 13 prog_35_method_4_code names, w.before args s' = true := vx_own hat' (vx_isRefq hU'.1) (vx_isRefq hN'.1) hU'.2.word hN'.2.word
  have hown' : s'.vm.findClass own = some m.cls := by rw [hvm]; exact hown
  have hins : (Cond.instantiable cls 6).before args s' = true := h _ (by simp [Bundle.ownAtomsX])
  obtain ⟨vm₁, cX, kX, hfX, hkX, -, -, X₁, st1⟩ := Y.newCold hexec (own := own) (C := cls) (index := ik) (n := 6) hown' hk' hins hini'
    (g := F0 m pc ls rest) rfl (by rw [hb]; exact d0) (Nat.le_refl _) (Nat.le_refl _)
  generalize hT1 : (T.setVm vm₁).pushCell { cls := cX, slots := kX.instanceTypes.map defaultValue, vm := .none } = T1 at X₁ st1
  have hcat : (Value.ref T.heap.size).category = 1 := rfl
  have hcellA : T1.heap[T.heap.size]? = some (freshCell cX kX) := by rw [← hT1]; exact State.heap_pushCell_size _ _
  have d3' : decode c.code (pc + 3) = .ok (.dup, 1) := by rw [hb]; exact d3
  have d4' : decode c.code (pc + 4) = .ok (.ldc is, 2) := by rw [hb]; exact d4
  have hstr' : vk_R own is text sa s' := vk_R.warm hW0 hstr
  obtain ⟨U, hsteps, hrun, hend, hW, hsame, ce, hce, hO⟩ := jx_ctorX X₁ hexec htr (own := own) (cls := cls) (names := names) (ic := ic) hown' hcls hnames h (fun x hx => nomatch hx) hfX hkX hcellA (by rw [hhp, hT]; exact Nat.le_refl _) (msg := .ref sa) rfl
    (g := { method := m, pc := pc + 6, locals := ls, stack := .ref sa :: .ref T.heap.size :: .ref T.heap.size :: rest, locked := none }) rfl hsize rfl rfl (rest := rest) rfl
    (by rw [hb]; exact d6) (by rw [hb]; exact d9) hout hRframes (by simp only [List.map_cons, List.sum_cons, hcat]; omega) hlocks
  obtain ⟨f1, f2⟩ := vx_frame hsame
  rw [hhp] at f1 f2
  have hWs : s.WarmedH U.vm := State.WarmedH.trans hW0 hW
  have hsz9 : U.heap.size ≤ H.size + 1 := by
    have h9 := hsame.2.2.1
    rw [hhp] at h9
    exact h9
  have hsl9 : slotSum U.heap ≤ slotSum H + 6 := by
    have b1 : s'.slotsTrue = true := by
      rw [hA]
      have h9 := X.book
      simp only [State.slotsTrue] at h9 ⊢
      exact h9
    have b2 := (State.slotsTrue_iff _).mp b1
    have b3 := (State.slotsTrue_iff _).mp (State.slotsTrue_of_sameButNew b1 hsame)
    have b4 := hsame.2.2.2.1
    have b5 := hsame.2.2.2.2.1
    have b2' : s'.slotsUsed = slotSum s'.heap := b2
    have b3' : U.slotsUsed = slotSum U.heap := b3
    have b4' : U.slotsUsed = s'.slotsUsed + ((U.heap.toList.drop s'.heap.size).map (·.slots.size)).sum := b4
    have b5' : ((U.heap.toList.drop s'.heap.size).map (·.slots.size)).sum ≤ 6 := b5
    rw [hhp] at b2'
    omega
  have hcl : s.vm.findClass cls = some ce.cls := by
    have h9 := hO.1
    rw [hvm] at h9
    exact h9
  have hall : s.sameButNew ({ U with vm := s.vm } : State) locs mc ms := by
    subst hA
    obtain ⟨e1, e2⟩ := hsame
    rw [State.setFrames_setFrames] at e1
    have h2 : (T.setVm s.vm).sameButNew ({ U with vm := s.vm } : State) [] (0 + 1) (0 + 6) := ⟨e1, e2⟩
    have h3 := X.same.trans h2
    rw [List.append_nil] at h3
    exact h3.mono hc hs
  refine ⟨U, ?_, .threw T.heap.size, hrun, hend, Or.inr ⟨T.heap.size, rfl, cls, ce, locs, hx U hWs.alike f1 (fun q hq => f2 q hq (fun z hz => nomatch hz)) hsz9 hsl9, hce, hO.2, hcl, hWs, hall, hf⟩⟩
  refine st1 _ ?_
  show Steps p.tables e below (T1.setTop { method := m, pc := pc + 3, locals := ls, stack := .ref T.heap.size :: rest, locked := none }) _
  jvm_step X₁.here [X₁.here.top, hexec, d3', Value.category]
  exact X₁.ldcString hexec (own := own) (text := text) (index := is) (a := sa) hown' hstr'.1 hstr'.2
    (g := { method := m, pc := pc + 4, locals := ls, stack := .ref T.heap.size :: .ref T.heap.size :: rest, locked := none }) rfl d4' _ hsteps

theorem jx_throwSXW {cc : ByteArray} {pc : Nat} (hexec : p.tables.exec = Jvm.exec) (hb : c.code = cc) (hl : l.stackTraces = false) {own cls text : String} {names : List String} {ik is ic mc ms sa : Nat} {A : Nat → Prop}
    (hown : s.vm.findClass own = some m.cls) (hcls : Bundle.fit cls = true) (hnames : ∀ n ∈ names, Bundle.fit n = true)
    (hk : (Cond.classLink own ik cls).before args s = true) (hini : (Cond.initialized cls).before args s = true) (hstr : vk_R own is text sa s) (hat : ∀ w ∈ (Bundle.ownAtomsX own ic cls 13 prog_35_method_4_code names).filter vx_no, w.before args s = true)
    (hgood : ∀ w ∈ Cond.classLink own ik cls :: Cond.initialized cls :: (Bundle.ownAtomsX own ic cls 13 prog_35_method_4_code names).filter vx_no, vx_ot w = true)
    (hU : vx_Zq Bundle.tN "UNASSIGNED_STACK" Bundle.steD A s s.heap) (hN : vx_Zq Bundle.tN "SUPPRESSED_SENTINEL" Bundle.listD A s s.heap) (hS : va_S A s.heap H locs) (hsize : ls.size = c.maxLocals)
    (d0 : decode cc pc = .ok (.new ik, 3)) (d3 : decode cc (pc + 3) = .ok (.dup, 1)) (d4 : decode cc (pc + 4) = .ok (.ldc_w is, 3)) (d6 : decode cc (pc + 7) = .ok (.invokespecial ic, 3)) (d9 : decode cc (pc + 10) = .ok (.athrow, 1))
    (hout : ∀ x ∈ c.exceptionTable.toList, covers x (pc + 10) = false)
    (hRframes : names.length + 3 < R.frames) (hRlocals : (rest.map fun v => v.category).sum + (13 * (names.length + 1) + 43) ≤ R.locals) (hRcells : cells + 1 ≤ R.cells) (hRslots : slots + 6 ≤ R.slots) (hlocks : meth.locks = false)
    (hx : ∀ t : State, s.vm.Alike t.vm → H.size ≤ t.heap.size → (∀ q : Nat, q < H.size → t.heap[q]? = H[q]?) → t.heap.size ≤ H.size + 1 → slotSum t.heap ≤ slotSum H + 6 → XC cls s t)
    (hf : ∀ z ∈ locs, free z.base) (hc : cells + 1 ≤ mc) (hs : slots + 6 ≤ ms) :
    W p l e R s m args below meth c H locs cells slots (vx_MQ below Qc XC args s mc ms free) (F0 m pc ls rest) := by
  intro T hT X
  have htr : e.platform.stackTraces = false := (show e.platform.stackTraces = l.stackTraces by rw [X.admits.platform]).trans hl
  have Y := vx_rebase X (R' := { frames := R.frames, locals := R.locals, cells := 1, slots := 6 }) (Nat.le_refl _) (Nat.le_refl _) hRcells hRslots
  obtain ⟨s', hA⟩ : ∃ z, z = (T.setVm s.vm).setFrames (.invoking m args :: below) := ⟨_, rfl⟩
  rw [← hA] at Y
  have hvm : s'.vm = s.vm := by rw [hA]; rfl
  have hhp : s'.heap = H := by rw [hA]; exact hT
  have hW0 : s.WarmedH s'.vm := by rw [hvm]; exact State.WarmedH.refl s
  have hat' : ∀ w ∈ (Bundle.ownAtomsX own ic cls 13 prog_35_method_4_code names).filter vx_no, w.before args s' = true := fun w hw => vx_ot_at hW0 hvm.symm (hgood w (List.mem_cons_of_mem _ (List.mem_cons_of_mem _ hw))) (hat w hw)
  have hk' : (Cond.classLink own ik cls).before args s' = true := vx_ot_at hW0 hvm.symm (hgood _ List.mem_cons_self) hk
  have hini' : (Cond.initialized cls).before args s' = true := vx_ot_at hW0 hvm.symm (hgood _ (List.mem_cons_of_mem _ List.mem_cons_self)) hini
  have hU' : vx_Zq Bundle.tN "UNASSIGNED_STACK" Bundle.steD A s' s'.heap := by rw [hhp]; exact vx_Zq.moved hW0.alike (hU.kept hS.2.1)
  have hN' : vx_Zq Bundle.tN "SUPPRESSED_SENTINEL" Bundle.listD A s' s'.heap := by rw [hhp]; exact vx_Zq.moved hW0.alike (hN.kept hS.2.1)
  have h : ∀ w ∈ Bundle.ownAtomsX own ic cls 13 prog_35_method_4_code names, w.before args s' = true := vx_own hat' (vx_isRefq hU'.1) (vx_isRefq hN'.1) hU'.2.word hN'.2.word
  have hown' : s'.vm.findClass own = some m.cls := by rw [hvm]; exact hown
  have hins : (Cond.instantiable cls 6).before args s' = true := h _ (by simp [Bundle.ownAtomsX])
  obtain ⟨vm₁, cX, kX, hfX, hkX, -, -, X₁, st1⟩ := Y.newCold hexec (own := own) (C := cls) (index := ik) (n := 6) hown' hk' hins hini'
    (g := F0 m pc ls rest) rfl (by rw [hb]; exact d0) (Nat.le_refl _) (Nat.le_refl _)
  generalize hT1 : (T.setVm vm₁).pushCell { cls := cX, slots := kX.instanceTypes.map defaultValue, vm := .none } = T1 at X₁ st1
  have hcat : (Value.ref T.heap.size).category = 1 := rfl
  have hcellA : T1.heap[T.heap.size]? = some (freshCell cX kX) := by rw [← hT1]; exact State.heap_pushCell_size _ _
  have d3' : decode c.code (pc + 3) = .ok (.dup, 1) := by rw [hb]; exact d3
  have d4' : decode c.code (pc + 4) = .ok (.ldc_w is, 3) := by rw [hb]; exact d4
  have hstr' : vk_R own is text sa s' := vk_R.warm hW0 hstr
  obtain ⟨U, hsteps, hrun, hend, hW, hsame, ce, hce, hO⟩ := jx_ctorX X₁ hexec htr (own := own) (cls := cls) (names := names) (ic := ic) hown' hcls hnames h (fun x hx => nomatch hx) hfX hkX hcellA (by rw [hhp, hT]; exact Nat.le_refl _) (msg := .ref sa) rfl
    (g := { method := m, pc := pc + 7, locals := ls, stack := .ref sa :: .ref T.heap.size :: .ref T.heap.size :: rest, locked := none }) rfl hsize rfl rfl (rest := rest) rfl
    (by rw [hb]; exact d6) (by rw [hb]; exact d9) hout hRframes (by simp only [List.map_cons, List.sum_cons, hcat]; omega) hlocks
  obtain ⟨f1, f2⟩ := vx_frame hsame
  rw [hhp] at f1 f2
  have hWs : s.WarmedH U.vm := State.WarmedH.trans hW0 hW
  have hsz9 : U.heap.size ≤ H.size + 1 := by
    have h9 := hsame.2.2.1
    rw [hhp] at h9
    exact h9
  have hsl9 : slotSum U.heap ≤ slotSum H + 6 := by
    have b1 : s'.slotsTrue = true := by
      rw [hA]
      have h9 := X.book
      simp only [State.slotsTrue] at h9 ⊢
      exact h9
    have b2 := (State.slotsTrue_iff _).mp b1
    have b3 := (State.slotsTrue_iff _).mp (State.slotsTrue_of_sameButNew b1 hsame)
    have b4 := hsame.2.2.2.1
    have b5 := hsame.2.2.2.2.1
    have b2' : s'.slotsUsed = slotSum s'.heap := b2
    have b3' : U.slotsUsed = slotSum U.heap := b3
    have b4' : U.slotsUsed = s'.slotsUsed + ((U.heap.toList.drop s'.heap.size).map (·.slots.size)).sum := b4
    have b5' : ((U.heap.toList.drop s'.heap.size).map (·.slots.size)).sum ≤ 6 := b5
    rw [hhp] at b2'
    omega
  have hcl : s.vm.findClass cls = some ce.cls := by
    have h9 := hO.1
    rw [hvm] at h9
    exact h9
  have hall : s.sameButNew ({ U with vm := s.vm } : State) locs mc ms := by
    subst hA
    obtain ⟨e1, e2⟩ := hsame
    rw [State.setFrames_setFrames] at e1
    have h2 : (T.setVm s.vm).sameButNew ({ U with vm := s.vm } : State) [] (0 + 1) (0 + 6) := ⟨e1, e2⟩
    have h3 := X.same.trans h2
    rw [List.append_nil] at h3
    exact h3.mono hc hs
  refine ⟨U, ?_, .threw T.heap.size, hrun, hend, Or.inr ⟨T.heap.size, rfl, cls, ce, locs, hx U hWs.alike f1 (fun q hq => f2 q hq (fun z hz => nomatch hz)) hsz9 hsl9, hce, hO.2, hcl, hWs, hall, hf⟩⟩
  refine st1 _ ?_
  show Steps p.tables e below (T1.setTop { method := m, pc := pc + 3, locals := ls, stack := .ref T.heap.size :: rest, locked := none }) _
  jvm_step X₁.here [X₁.here.top, hexec, d3', Value.category]
  exact X₁.ldcStringW hexec (own := own) (text := text) (index := is) (a := sa) hown' hstr'.1 hstr'.2
    (g := { method := m, pc := pc + 4, locals := ls, stack := .ref T.heap.size :: .ref T.heap.size :: rest, locked := none }) rfl d4' _ hsteps

theorem jx_throwSW {cc : ByteArray} {pc : Nat} (hexec : p.tables.exec = Jvm.exec) (hb : c.code = cc) (hl : l.stackTraces = false) {own cls text : String} {names : List String} {ik is ic mc ms sa : Nat} {A : Nat → Prop}
    (hown : s.vm.findClass own = some m.cls) (hcls : Bundle.fit cls = true) (hnames : ∀ n ∈ names, Bundle.fit n = true)
    (hk : (Cond.classLink own ik cls).before args s = true) (hini : (Cond.initialized cls).before args s = true) (hstr : vk_R own is text sa s) (hat : ∀ w ∈ vx_atS own ic cls names, w.before args s = true)
    (hgood : ∀ w ∈ Cond.classLink own ik cls :: Cond.initialized cls :: vx_atS own ic cls names, vx_ot w = true)
    (hU : vx_Zq Bundle.tN "UNASSIGNED_STACK" Bundle.steD A s s.heap) (hN : vx_Zq Bundle.tN "SUPPRESSED_SENTINEL" Bundle.listD A s s.heap) (hS : va_S A s.heap H locs) (hsize : ls.size = c.maxLocals)
    (d0 : decode cc pc = .ok (.new ik, 3)) (d3 : decode cc (pc + 3) = .ok (.dup, 1)) (d4 : decode cc (pc + 4) = .ok (.ldc_w is, 3)) (d6 : decode cc (pc + 7) = .ok (.invokespecial ic, 3)) (d9 : decode cc (pc + 10) = .ok (.athrow, 1))
    (hout : ∀ x ∈ c.exceptionTable.toList, covers x (pc + 10) = false)
    (hRframes : names.length + 3 < R.frames) (hRlocals : (rest.map fun v => v.category).sum + (13 * (names.length + 1) + 43) ≤ R.locals) (hRcells : cells + 1 ≤ R.cells) (hRslots : slots + 6 ≤ R.slots) (hlocks : meth.locks = false)
    (hx : ∀ t : State, s.vm.Alike t.vm → H.size ≤ t.heap.size → (∀ q : Nat, q < H.size → t.heap[q]? = H[q]?) → t.heap.size ≤ H.size + 1 → slotSum t.heap ≤ slotSum H + 6 → XC cls s t)
    (hf : ∀ z ∈ locs, free z.base) (hc : cells + 1 ≤ mc) (hs : slots + 6 ≤ ms) :
    W p l e R s m args below meth c H locs cells slots (vx_MQ below Qc XC args s mc ms free) (F0 m pc ls rest) := by
  intro T hT X
  have htr : e.platform.stackTraces = false := (show e.platform.stackTraces = l.stackTraces by rw [X.admits.platform]).trans hl
  have Y := vx_rebase X (R' := { frames := R.frames, locals := R.locals, cells := 1, slots := 6 }) (Nat.le_refl _) (Nat.le_refl _) hRcells hRslots
  obtain ⟨s', hA⟩ : ∃ z, z = (T.setVm s.vm).setFrames (.invoking m args :: below) := ⟨_, rfl⟩
  rw [← hA] at Y
  have hvm : s'.vm = s.vm := by rw [hA]; rfl
  have hhp : s'.heap = H := by rw [hA]; exact hT
  have hW0 : s.WarmedH s'.vm := by rw [hvm]; exact State.WarmedH.refl s
  have hat' : ∀ w ∈ vx_atS own ic cls names, w.before args s' = true := fun w hw => vx_ot_at hW0 hvm.symm (hgood w (List.mem_cons_of_mem _ (List.mem_cons_of_mem _ hw))) (hat w hw)
  have hk' : (Cond.classLink own ik cls).before args s' = true := vx_ot_at hW0 hvm.symm (hgood _ List.mem_cons_self) hk
  have hini' : (Cond.initialized cls).before args s' = true := vx_ot_at hW0 hvm.symm (hgood _ (List.mem_cons_of_mem _ List.mem_cons_self)) hini
  have hU' : vx_Zq Bundle.tN "UNASSIGNED_STACK" Bundle.steD A s' s'.heap := by rw [hhp]; exact vx_Zq.moved hW0.alike (hU.kept hS.2.1)
  have hN' : vx_Zq Bundle.tN "SUPPRESSED_SENTINEL" Bundle.listD A s' s'.heap := by rw [hhp]; exact vx_Zq.moved hW0.alike (hN.kept hS.2.1)
  have h : ∀ w ∈ Bundle.ownAtoms own ic cls names, w.before args s' = true := vx_own hat' (vx_isRefq hU'.1) (vx_isRefq hN'.1) hU'.2.word hN'.2.word
  have hown' : s'.vm.findClass own = some m.cls := by rw [hvm]; exact hown
  have hins : (Cond.instantiable cls 6).before args s' = true := h _ (by simp [Bundle.ownAtoms])
  obtain ⟨vm₁, cX, kX, hfX, hkX, -, -, X₁, st1⟩ := Y.newCold hexec (own := own) (C := cls) (index := ik) (n := 6) hown' hk' hins hini'
    (g := F0 m pc ls rest) rfl (by rw [hb]; exact d0) (Nat.le_refl _) (Nat.le_refl _)
  generalize hT1 : (T.setVm vm₁).pushCell { cls := cX, slots := kX.instanceTypes.map defaultValue, vm := .none } = T1 at X₁ st1
  have hcat : (Value.ref T.heap.size).category = 1 := rfl
  have hcellA : T1.heap[T.heap.size]? = some (freshCell cX kX) := by rw [← hT1]; exact State.heap_pushCell_size _ _
  have d3' : decode c.code (pc + 3) = .ok (.dup, 1) := by rw [hb]; exact d3
  have d4' : decode c.code (pc + 4) = .ok (.ldc_w is, 3) := by rw [hb]; exact d4
  have hstr' : vk_R own is text sa s' := vk_R.warm hW0 hstr
  obtain ⟨U, hsteps, hrun, hend, hW, hsame, ce, hce, hO⟩ := X₁.ctorThrowS hexec htr (own := own) (cls := cls) (names := names) (ic := ic) hown' hcls hnames h (fun x hx => nomatch hx) hfX hkX hcellA (by rw [hhp, hT]; exact Nat.le_refl _) (msg := .ref sa) rfl
    (g := { method := m, pc := pc + 7, locals := ls, stack := .ref sa :: .ref T.heap.size :: .ref T.heap.size :: rest, locked := none }) rfl hsize rfl rfl (rest := rest) rfl
    (by rw [hb]; exact d6) (by rw [hb]; exact d9) hout hRframes (by simp only [List.map_cons, List.sum_cons, hcat]; omega) hlocks
  obtain ⟨f1, f2⟩ := vx_frame hsame
  rw [hhp] at f1 f2
  have hWs : s.WarmedH U.vm := State.WarmedH.trans hW0 hW
  have hsz9 : U.heap.size ≤ H.size + 1 := by
    have h9 := hsame.2.2.1
    rw [hhp] at h9
    exact h9
  have hsl9 : slotSum U.heap ≤ slotSum H + 6 := by
    have b1 : s'.slotsTrue = true := by
      rw [hA]
      have h9 := X.book
      simp only [State.slotsTrue] at h9 ⊢
      exact h9
    have b2 := (State.slotsTrue_iff _).mp b1
    have b3 := (State.slotsTrue_iff _).mp (State.slotsTrue_of_sameButNew b1 hsame)
    have b4 := hsame.2.2.2.1
    have b5 := hsame.2.2.2.2.1
    have b2' : s'.slotsUsed = slotSum s'.heap := b2
    have b3' : U.slotsUsed = slotSum U.heap := b3
    have b4' : U.slotsUsed = s'.slotsUsed + ((U.heap.toList.drop s'.heap.size).map (·.slots.size)).sum := b4
    have b5' : ((U.heap.toList.drop s'.heap.size).map (·.slots.size)).sum ≤ 6 := b5
    rw [hhp] at b2'
    omega
  have hcl : s.vm.findClass cls = some ce.cls := by
    have h9 := hO.cls
    rw [hvm] at h9
    exact h9
  have hall : s.sameButNew ({ U with vm := s.vm } : State) locs mc ms := by
    subst hA
    obtain ⟨e1, e2⟩ := hsame
    rw [State.setFrames_setFrames] at e1
    have h2 : (T.setVm s.vm).sameButNew ({ U with vm := s.vm } : State) [] (0 + 1) (0 + 6) := ⟨e1, e2⟩
    have h3 := X.same.trans h2
    rw [List.append_nil] at h3
    exact h3.mono hc hs
  refine ⟨U, ?_, .threw T.heap.size, hrun, hend, Or.inr ⟨T.heap.size, rfl, cls, ce, locs, hx U hWs.alike f1 (fun q hq => f2 q hq (fun z hz => nomatch hz)) hsz9 hsl9, hce, hO.vm, hcl, hWs, hall, hf⟩⟩
  refine st1 _ ?_
  show Steps p.tables e below (T1.setTop { method := m, pc := pc + 3, locals := ls, stack := .ref T.heap.size :: rest, locked := none }) _
  jvm_step X₁.here [X₁.here.top, hexec, d3', Value.category]
  exact X₁.ldcStringW hexec (own := own) (text := text) (index := is) (a := sa) hown' hstr'.1 hstr'.2
    (g := { method := m, pc := pc + 4, locals := ls, stack := .ref T.heap.size :: .ref T.heap.size :: rest, locked := none }) rfl d4' _ hsteps

end JX9B
/-- a throw of a class whose constructor passes on by the entry 13 (NoSuchElementException) -/
def jThX (own : String) (ik is ic : Nat) (E text : String) : Prop := Bundle.fit E = true ∧ (∀ n ∈ jchain E, Bundle.fit n = true) ∧ Cond.classLink own ik E ∈ lw_tbl ∧ Cond.initialized E ∈ lw_tbl ∧ (∀ w ∈ (Bundle.ownAtomsX own ic E 13 prog_35_method_4_code (jchain E)).filter vx_no, w ∈ lw_tbl ∧ (goodWord w = true ∨ jdc w = true)) ∧ (jchain E).length = 2 ∧ Cond.stringRef own is text ∈ lw_tbl
section JR8
variable {g : jG} {μ : jM} {d : Nat} {hs : jH} {P : jO → jH → Prop} {pc : Nat} {lv : List (Nat × Value)} {st : List Value} {h : jH}
/-- throw new E("text") in a method without handlers -/
theorem jr_throwX {own : String} {ik is ic : Nat} {E text : String} (hown : own = μ.1.cls) (hth : jThX own ik is ic E text) (hh : μ.2.2.2.2 = []) (hroom : jroom g h 1 6)
    (hsa : jok g → ∃ sa, vk_R own is text sa g.2.1)
    (d0 : decode μ.2.1 pc = .ok (.new ik, 3)) (d3 : decode μ.2.1 (pc + 3) = .ok (.dup, 1)) (d4 : decode μ.2.1 (pc + 4) = .ok (.ldc is, 2)) (d6 : decode μ.2.1 (pc + 6) = .ok (.invokespecial ic, 3)) (d9 : decode μ.2.1 (pc + 9) = .ok (.athrow, 1))
    (hst : (st.map fun v => v.category).sum ≤ 8)
    (k : ∀ n, h.2.1 ≤ n → n ≤ h.2.1 + 1 → P (.inr E) (h.1, n, h.2.2 + 6)) : J g μ d hs P pc lv st h := by
  subst hown
  intro hg p e R s m args below meth c B H ls locs hR hl hL hf T hT X
  have hsl := j_slots X
  obtain ⟨t1, t2, t3, t4, t5, t6, t7⟩ := hth
  obtain ⟨sa, hstr⟩ := hsa hg
  obtain ⟨f1, f2, f3, f4⟩ := id hf
  obtain ⟨m1, m2⟩ := hroom
  obtain ⟨r1, r2, r3, r4⟩ := hR
  have hW := B.2.2.2.2.2.2.2.1
  obtain ⟨b1, b2, b3, b4⟩ := B.2.2.2.2.2.2.2.2.1
  have hpre := B.2.2.2.2.2.2.2.2.2.2.2
  have hat : ∀ w ∈ (Bundle.ownAtomsX μ.1.cls ic E 13 prog_35_method_4_code (jchain E)).filter vx_no, w.before args s = true := fun w hw => by
    obtain ⟨h1, h2⟩ := t5 w hw
    rcases h2 with h2 | h2
    · exact j_word hg hW h1 h2
    · cases w with
      | declares y => exact (va_Nw.of rfl (hg.2.1 _ h1)).warmD hW |>.use rfl
      | castable y z => exact (va_Nw.of rfl (hg.2.1 _ h1)).warmC hW |>.use rfl
      | _ => cases h2
  have hS : va_S (jF g) s.heap H locs := ⟨by rw [B.2.2.2.2.2.2.2.2.2.1, r2]; exact f1, fun q hq hA => by
    have hq2 : q < jB0 g := Nat.not_le.mp hA
    rw [r4 q hq2, hpre q hq2], hL⟩
  have hkeep : ∀ a : Nat, a < g.2.1.heap.size → ¬ jF g a → s.heap[a]? = g.2.1.heap[a]? := fun a ha _ => hpre a ha
  refine jx_throwSX (A := jF g) (names := jchain E) (cls := E) (text := text) (ik := ik) (is := is) (ic := ic) (sa := sa) B.1 B.2.1 hg.1 B.2.2.2.1 t1 t2 (j_word hg hW t3 rfl) (j_word hg hW t4 rfl) (vk_R.warm hW hstr) hat ?_ (vx_Zq.moved hW.alike (hg.2.2.2.2.1.kept hkeep)) (vx_Zq.moved hW.alike (hg.2.2.2.2.2.1.kept hkeep)) hS (by rw [B.2.2.1]; exact hl.1) d0 d3 d4 d6 d9 ?_ ?_ ?_ (by omega) (by omega) B.2.2.2.2.1 ?_ hL (by omega) (by omega) T hT X
  · intro w hw
    rcases List.mem_cons.mp hw with h9 | h9
    · rw [h9]; rfl
    · rcases List.mem_cons.mp h9 with h9 | h9
      · rw [h9]; rfl
      · obtain ⟨-, h2⟩ := t5 w h9
        unfold vx_ot
        rcases h2 with h2 | h2
        · rw [h2, Bool.or_true]
        · cases w with
          | declares y => rfl
          | castable y z => rfl
          | _ => cases h2
  · intro x hx
    rw [B.2.2.2.2.2.2.1, hh] at hx
    cases hx
  · rw [t6]; omega
  · rw [t6]; omega
  · intro t hvm hz hq hz1 hz2
    refine ⟨(h.1, t.heap.size, h.2.2 + 6), k _ (by rw [← r2]; exact hz) (by rw [← r2]; exact hz1), ⟨fun a x hx => ?_, rfl, by show jB0 g ≤ t.heap.size; omega, fun q hq9 => by rw [hq q (by omega)]; exact r4 q hq9⟩, ?_, ⟨by show hs.2.1 ≤ t.heap.size; omega, by show hs.2.2 ≤ h.2.2 + 6; omega, by show t.heap.size ≤ _; omega, by show h.2.2 + 6 ≤ _; omega⟩⟩
    · have hlt : a < H.size := j_lt ⟨r1, r2, r3, r4⟩ hx
      have h1 := r1 a x hx
      have h0 := hq a hlt
      cases x with
      | inl x => exact ⟨h1.1.kept h0, h1.2⟩
      | inr o =>
        obtain ⟨⟨r, h2, h3⟩, h4⟩ := h1
        exact ⟨⟨r, h2, h3.kept h0⟩, h4⟩
    · show slotSum t.heap ≤ slotSum s.heap + (h.2.2 + 6 - hs.2.2)
      rw [hT] at hsl
      omega
/-- throw new E("text") in a method without handlers -/
theorem jr_throwXW {own : String} {ik is ic : Nat} {E text : String} (hown : own = μ.1.cls) (hth : jThX own ik is ic E text) (hh : μ.2.2.2.2 = []) (hroom : jroom g h 1 6)
    (hsa : jok g → ∃ sa, vk_R own is text sa g.2.1)
    (d0 : decode μ.2.1 pc = .ok (.new ik, 3)) (d3 : decode μ.2.1 (pc + 3) = .ok (.dup, 1)) (d4 : decode μ.2.1 (pc + 4) = .ok (.ldc_w is, 3)) (d6 : decode μ.2.1 (pc + 7) = .ok (.invokespecial ic, 3)) (d9 : decode μ.2.1 (pc + 10) = .ok (.athrow, 1))
    (hst : (st.map fun v => v.category).sum ≤ 8)
    (k : ∀ n, h.2.1 ≤ n → n ≤ h.2.1 + 1 → P (.inr E) (h.1, n, h.2.2 + 6)) : J g μ d hs P pc lv st h := by
  subst hown
  intro hg p e R s m args below meth c B H ls locs hR hl hL hf T hT X
  have hsl := j_slots X
  obtain ⟨t1, t2, t3, t4, t5, t6, t7⟩ := hth
  obtain ⟨sa, hstr⟩ := hsa hg
  obtain ⟨f1, f2, f3, f4⟩ := id hf
  obtain ⟨m1, m2⟩ := hroom
  obtain ⟨r1, r2, r3, r4⟩ := hR
  have hW := B.2.2.2.2.2.2.2.1
  obtain ⟨b1, b2, b3, b4⟩ := B.2.2.2.2.2.2.2.2.1
  have hpre := B.2.2.2.2.2.2.2.2.2.2.2
  have hat : ∀ w ∈ (Bundle.ownAtomsX μ.1.cls ic E 13 prog_35_method_4_code (jchain E)).filter vx_no, w.before args s = true := fun w hw => by
    obtain ⟨h1, h2⟩ := t5 w hw
    rcases h2 with h2 | h2
    · exact j_word hg hW h1 h2
    · cases w with
      | declares y => exact (va_Nw.of rfl (hg.2.1 _ h1)).warmD hW |>.use rfl
      | castable y z => exact (va_Nw.of rfl (hg.2.1 _ h1)).warmC hW |>.use rfl
      | _ => cases h2
  have hS : va_S (jF g) s.heap H locs := ⟨by rw [B.2.2.2.2.2.2.2.2.2.1, r2]; exact f1, fun q hq hA => by
    have hq2 : q < jB0 g := Nat.not_le.mp hA
    rw [r4 q hq2, hpre q hq2], hL⟩
  have hkeep : ∀ a : Nat, a < g.2.1.heap.size → ¬ jF g a → s.heap[a]? = g.2.1.heap[a]? := fun a ha _ => hpre a ha
  refine jx_throwSXW (A := jF g) (names := jchain E) (cls := E) (text := text) (ik := ik) (is := is) (ic := ic) (sa := sa) B.1 B.2.1 hg.1 B.2.2.2.1 t1 t2 (j_word hg hW t3 rfl) (j_word hg hW t4 rfl) (vk_R.warm hW hstr) hat ?_ (vx_Zq.moved hW.alike (hg.2.2.2.2.1.kept hkeep)) (vx_Zq.moved hW.alike (hg.2.2.2.2.2.1.kept hkeep)) hS (by rw [B.2.2.1]; exact hl.1) d0 d3 d4 d6 d9 ?_ ?_ ?_ (by omega) (by omega) B.2.2.2.2.1 ?_ hL (by omega) (by omega) T hT X
  · intro w hw
    rcases List.mem_cons.mp hw with h9 | h9
    · rw [h9]; rfl
    · rcases List.mem_cons.mp h9 with h9 | h9
      · rw [h9]; rfl
      · obtain ⟨-, h2⟩ := t5 w h9
        unfold vx_ot
        rcases h2 with h2 | h2
        · rw [h2, Bool.or_true]
        · cases w with
          | declares y => rfl
          | castable y z => rfl
          | _ => cases h2
  · intro x hx
    rw [B.2.2.2.2.2.2.1, hh] at hx
    cases hx
  · rw [t6]; omega
  · rw [t6]; omega
  · intro t hvm hz hq hz1 hz2
    refine ⟨(h.1, t.heap.size, h.2.2 + 6), k _ (by rw [← r2]; exact hz) (by rw [← r2]; exact hz1), ⟨fun a x hx => ?_, rfl, by show jB0 g ≤ t.heap.size; omega, fun q hq9 => by rw [hq q (by omega)]; exact r4 q hq9⟩, ?_, ⟨by show hs.2.1 ≤ t.heap.size; omega, by show hs.2.2 ≤ h.2.2 + 6; omega, by show t.heap.size ≤ _; omega, by show h.2.2 + 6 ≤ _; omega⟩⟩
    · have hlt : a < H.size := j_lt ⟨r1, r2, r3, r4⟩ hx
      have h1 := r1 a x hx
      have h0 := hq a hlt
      cases x with
      | inl x => exact ⟨h1.1.kept h0, h1.2⟩
      | inr o =>
        obtain ⟨⟨r, h2, h3⟩, h4⟩ := h1
        exact ⟨⟨r, h2, h3.kept h0⟩, h4⟩
    · show slotSum t.heap ≤ slotSum s.heap + (h.2.2 + 6 - hs.2.2)
      rw [hT] at hsl
      omega
/-- throw new E("text") in a method without handlers -/
theorem jr_throwW {own : String} {ik is ic : Nat} {E text : String} (hown : own = μ.1.cls) (hth : jTh own ik is ic E text) (hh : μ.2.2.2.2 = []) (hroom : jroom g h 1 6)
    (hsa : jok g → ∃ sa, vk_R own is text sa g.2.1)
    (d0 : decode μ.2.1 pc = .ok (.new ik, 3)) (d3 : decode μ.2.1 (pc + 3) = .ok (.dup, 1)) (d4 : decode μ.2.1 (pc + 4) = .ok (.ldc_w is, 3)) (d6 : decode μ.2.1 (pc + 7) = .ok (.invokespecial ic, 3)) (d9 : decode μ.2.1 (pc + 10) = .ok (.athrow, 1))
    (hst : (st.map fun v => v.category).sum ≤ 8)
    (k : ∀ n, h.2.1 ≤ n → n ≤ h.2.1 + 1 → P (.inr E) (h.1, n, h.2.2 + 6)) : J g μ d hs P pc lv st h := by
  subst hown
  intro hg p e R s m args below meth c B H ls locs hR hl hL hf T hT X
  have hsl := j_slots X
  obtain ⟨t1, t2, t3, t4, t5, t6, t7⟩ := hth
  obtain ⟨sa, hstr⟩ := hsa hg
  obtain ⟨f1, f2, f3, f4⟩ := id hf
  obtain ⟨m1, m2⟩ := hroom
  obtain ⟨r1, r2, r3, r4⟩ := hR
  have hW := B.2.2.2.2.2.2.2.1
  obtain ⟨b1, b2, b3, b4⟩ := B.2.2.2.2.2.2.2.2.1
  have hpre := B.2.2.2.2.2.2.2.2.2.2.2
  have hat : ∀ w ∈ vx_atS μ.1.cls ic E (jchain E), w.before args s = true := fun w hw => by
    obtain ⟨h1, h2⟩ := t5 w hw
    rcases h2 with h2 | h2
    · exact j_word hg hW h1 h2
    · cases w with
      | declares y => exact (va_Nw.of rfl (hg.2.1 _ h1)).warmD hW |>.use rfl
      | castable y z => exact (va_Nw.of rfl (hg.2.1 _ h1)).warmC hW |>.use rfl
      | _ => cases h2
  have hS : va_S (jF g) s.heap H locs := ⟨by rw [B.2.2.2.2.2.2.2.2.2.1, r2]; exact f1, fun q hq hA => by
    have hq2 : q < jB0 g := Nat.not_le.mp hA
    rw [r4 q hq2, hpre q hq2], hL⟩
  have hkeep : ∀ a : Nat, a < g.2.1.heap.size → ¬ jF g a → s.heap[a]? = g.2.1.heap[a]? := fun a ha _ => hpre a ha
  refine jx_throwSW (A := jF g) (names := jchain E) (cls := E) (text := text) (ik := ik) (is := is) (ic := ic) (sa := sa) B.1 B.2.1 hg.1 B.2.2.2.1 t1 t2 (j_word hg hW t3 rfl) (j_word hg hW t4 rfl) (vk_R.warm hW hstr) hat ?_ (vx_Zq.moved hW.alike (hg.2.2.2.2.1.kept hkeep)) (vx_Zq.moved hW.alike (hg.2.2.2.2.2.1.kept hkeep)) hS (by rw [B.2.2.1]; exact hl.1) d0 d3 d4 d6 d9 ?_ ?_ ?_ (by omega) (by omega) B.2.2.2.2.1 ?_ hL (by omega) (by omega) T hT X
  · intro w hw
    rcases List.mem_cons.mp hw with h9 | h9
    · rw [h9]; rfl
    · rcases List.mem_cons.mp h9 with h9 | h9
      · rw [h9]; rfl
      · obtain ⟨-, h2⟩ := t5 w h9
        unfold vx_ot
        rcases h2 with h2 | h2
        · rw [h2, Bool.or_true]
        · cases w with
          | declares y => rfl
          | castable y z => rfl
          | _ => cases h2
  · intro x hx
    rw [B.2.2.2.2.2.2.1, hh] at hx
    cases hx
  · rw [t6]; omega
  · rw [t6]; omega
  · intro t hvm hz hq hz1 hz2
    refine ⟨(h.1, t.heap.size, h.2.2 + 6), k _ (by rw [← r2]; exact hz) (by rw [← r2]; exact hz1), ⟨fun a x hx => ?_, rfl, by show jB0 g ≤ t.heap.size; omega, fun q hq9 => by rw [hq q (by omega)]; exact r4 q hq9⟩, ?_, ⟨by show hs.2.1 ≤ t.heap.size; omega, by show hs.2.2 ≤ h.2.2 + 6; omega, by show t.heap.size ≤ _; omega, by show h.2.2 + 6 ≤ _; omega⟩⟩
    · have hlt : a < H.size := j_lt ⟨r1, r2, r3, r4⟩ hx
      have h1 := r1 a x hx
      have h0 := hq a hlt
      cases x with
      | inl x => exact ⟨h1.1.kept h0, h1.2⟩
      | inr o =>
        obtain ⟨⟨r, h2, h3⟩, h4⟩ := h1
        exact ⟨⟨r, h2, h3.kept h0⟩, h4⟩
    · show slotSum t.heap ≤ slotSum s.heap + (h.2.2 + 6 - hs.2.2)
      rw [hT] at hsl
      omega
end JR8
theorem jt_X11_180 : jThX RX11 178 180 182 "java/util/NoSuchElementException" "no such house" := ⟨by decide +kernel, by decide +kernel, jw_in 898 (by decide +kernel), jw_in 26 (by decide +kernel), by decide +kernel, rfl, jw_in 907 (by decide +kernel)⟩
theorem jt_X11_402 : jThX RX11 178 402 182 "java/util/NoSuchElementException" "no such tray" := ⟨by decide +kernel, by decide +kernel, jw_in 898 (by decide +kernel), jw_in 26 (by decide +kernel), by decide +kernel, rfl, jw_in 1017 (by decide +kernel)⟩
theorem jt_X11_423 : jThX RX11 178 423 182 "java/util/NoSuchElementException" "no such image" := ⟨by decide +kernel, by decide +kernel, jw_in 898 (by decide +kernel), jw_in 26 (by decide +kernel), by decide +kernel, rfl, jw_in 1405 (by decide +kernel)⟩
