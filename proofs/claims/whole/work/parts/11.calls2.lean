section VXIA
variable {p : Program} {l : Launch} {e : Env} {R : Room} {s : State} {m : MethodId} {args : Array Value} {below : List Frame} {meth : Method} {c : Code} {T : State} {locs : List Loc} {cells slots : Nat}
theorem vx_callI (X : Stand p l e R s m args below meth c T locs cells slots) (hexec : p.tables.exec = Jvm.exec) {own : String} {index : Nat} {y : MethodName} {bytes : ByteArray} {maxL : Nat}
    (hown : s.vm.findClass own = some m.cls) (hy1 : y.name = "<init>") (hlink : (Cond.methodLink own index y).before args s = true) (hinst : (Cond.instanceMethod y).before args s = true)
    (hcode : (Cond.code y bytes maxL none).before args s = true) (hy : y.cls ≠ "java/lang/invoke/MethodHandle" ∧ y.cls ≠ "java/lang/invoke/VarHandle")
    {W9 : Nat} {Pre : Pt → Array Value → Prop} {Post : Pt → Array Value → Option Value → Pt → Prop} {PostX : Pt → Array Value → Addr → Pt → Prop} (hK : vx_Back l R p e below s args y 3 W9 Pre Post PostX)
    {g : JFrame} (hg : g.method = m) (hsize : g.locals.size = c.maxLocals) {a : Addr} {argsL rest : List Value} (hlen : ∀ sig, parseMethodDescriptor y.desc = some sig → argsL.length = sig.parameters.length)
    (hstack : g.stack = argsL.reverse ++ .ref a :: rest) (hW : 2 * g.monitorRoom + (rest.map fun v => v.category).sum ≤ W9) (hdg : decode c.code g.pc = .ok (.invokespecial index, 3))
    (hpre : ∀ vm₁, s.WarmedH vm₁ → Pre ⟨T.setVm vm₁, locs, cells, slots⟩ (Value.ref a :: argsL).toArray) :
    (∃ (v : Option Value) (vm₁ : Vm) (B : Pt), s.WarmedH vm₁ ∧ Stand p l e R s m args below meth c B.U B.locs B.cells B.slots ∧ Post ⟨T.setVm vm₁, locs, cells, slots⟩ (Value.ref a :: argsL).toArray v B ∧
      ∀ target, Steps p.tables e below (B.U.setTop { g with pc := g.pc + 3, stack := v.toList ++ rest }) target → Steps p.tables e below (T.setTop g) target) ∨
    (∃ (q : Addr) (vm₁ : Vm) (B : Pt), s.WarmedH vm₁ ∧ Stand p l e R s m args below meth c B.U B.locs B.cells B.slots ∧ PostX ⟨T.setVm vm₁, locs, cells, slots⟩ (Value.ref a :: argsL).toArray q B ∧
      Steps p.tables e below (T.setTop g) ((B.U.setTop { g with stack := rest }).pushFrame (.throwing q))) := by
  subst hg
  have hpl : e.platform.magicAccessors = ({} : Platform).magicAccessors := by rw [X.admits.platform]
  obtain ⟨mk, methM, cM, kP, vm₁, hnamed, hmethM, hcodeM, -, hlocalsM, -, hkP, -, hW₁, hstep₁⟩ := Steps.initColdArgs (e := e) X.here hexec X.warmed hpl hown hy1 hy hlink hinst hcode (f := g) rfl hlen hstack hdg
  have X₁ := X.noted hW₁
  rcases hK g.method meth c ⟨T.setVm vm₁, locs, cells, slots⟩ { g with stack := rest } (.invokespecial index) mk (Value.ref a :: argsL).toArray X₁ rfl hsize hdg hW (X₁.named hnamed) (hpre vm₁ X₁.warmed) with ⟨v, B, X', hpost, hsteps⟩ | ⟨q, B, X', hpost, hsteps⟩
  · exact Or.inl ⟨v, vm₁, B, X₁.warmed, X', hpost, fun target h => hstep₁ _ fun acts => by rw [doInvoke_state]; exact hsteps.trans h⟩
  · exact Or.inr ⟨q, vm₁, B, X₁.warmed, X', hpost, hstep₁ _ fun acts => by rw [doInvoke_state]; exact hsteps⟩
end VXIA
section VXIB
variable {p : Program} {l : Launch} {e : Env} {R : Room} {s : State} {m : MethodId} {args : Array Value} {below : List Frame} {meth : Method} {c : Code} {H : Heap} {locs : List Loc} {cells slots : Nat}
variable {y : MethodName} {bytes cc : ByteArray} {maxL nL mc ms n index : Nat} {ret : Option FieldType} {ws : List Cond} {rm : Room} {Pc : Array Value → State → Prop} {Qc : Array Value → State → Outcome → State → Prop} {XC : String → State → State → Prop} {free : Addr → Prop} {Ts : List Cond} {own C : String} {b : Addr} {As rest : List Value} {g : JFrame}
theorem vx_runI (S : CallFix p m c cc nL s args Ts own) (hM : vx_Met l y ws rm Pc Qc XC mc ms free) (cw : CallB R s args own index y bytes maxL none ws rm mc ms n ∧ y.name = "<init>" ∧ (Cond.instanceMethod y).before args s = true) (hp : PreS s H Pc (.ref b :: As))
    (hg : g.method = m) (hn : As.length = n) (hsize : g.locals.size = nL) (hstack : g.stack = As.reverse ++ .ref b :: rest) (hW : 2 * g.monitorRoom + (rest.map fun v => v.category).sum ≤ 8) (hdg : decode cc g.pc = .ok (.invokespecial index, 3)) (hf : cells + mc ≤ R.cells ∧ slots + ms ≤ R.slots) :
    vx_Run p l e R s m args below meth c H locs cells slots mc ms g rest (Qc (Value.ref b :: As).toArray) XC free := by
  have hK : vx_Back l R p e below s args y 3 8 (PreOf R mc ms Pc) (PostOf Qc mc ms free) (vx_Post XC mc ms free) := vx_callBack cw.1 hM hp.1
  obtain ⟨⟨-, -, -, -, -, -, hcode, -, hy, hlen, hl⟩, hy1, hin⟩ := cw
  obtain ⟨hx, hb, hml, ho, -⟩ := S
  have hPc := hp.2
  intro T hT X
  rcases vx_callI X hx (bytes := bytes) (maxL := maxL) ho hy1 hl hin hcode hy hK hg (hsize.trans hml.symm) (a := b) (argsL := As) (rest := rest) (fun sig h => hn.trans (hlen sig h)) hstack hW (by rw [hb]; exact hdg)
    (fun vm₁ hW₁ => ⟨hf.1, hf.2, hPc (T.setVm vm₁) hT hW₁⟩) with ⟨v, vm₁, ⟨U', l2, c2, s2⟩, hW₁, X', ⟨g', mk, t, L, e1, e2, hq, h1, hL, h2, h3⟩, st⟩ | ⟨q, vm₁, ⟨U', l2, c2, s2⟩, hW₁, X', ⟨g', mk, t, L, E, ce, e1, e2, hq, hce, hcv, hcl, h1, hL, h2, h3⟩, st⟩
  · dsimp only [Pt.U, Pt.locs, Pt.cells, Pt.slots] at X' e1 e2 h1 h2 h3 st
    subst h1; subst h2; subst h3
    exact Or.inl ⟨v, (T.setVm vm₁).calling g' mk (Value.ref b :: As).toArray, t, U', L, hT, X', hL, e1, e2, hq, st⟩
  · dsimp only [Pt.U, Pt.locs, Pt.cells, Pt.slots] at X' e1 e2 h1 h2 h3 st hcl
    subst h1; subst h2; subst h3
    exact Or.inr ⟨q, (T.setVm vm₁).calling g' mk (Value.ref b :: As).toArray, t, U', L, E, ce, hT, X', hL, e1, e2, hq, hce, hcv, vx_cls hW₁ hcl, st⟩
end VXIB
/-! ===== END ===== -/
/-! ===== BEGIN a private constructor of a nest mate that throws ===== -/
section VXIC
variable {p : Program} {l : Launch} {e : Env} {R : Room} {s : State} {m : MethodId} {args : Array Value} {below : List Frame} {meth : Method} {c : Code} {T : State} {locs : List Loc} {cells slots : Nat}
theorem vx_callIN (X : Stand p l e R s m args below meth c T locs cells slots) (hexec : p.tables.exec = Jvm.exec) {own : String} {index : Nat} {host : String} {y : MethodName} {bytes : ByteArray} {maxL : Nat}
    (hown : s.vm.findClass own = some m.cls) (hy1 : y.name = "<init>") (hlink : (Cond.methodLinkNest own index y host).before args s = true) (hinst : (Cond.instanceMethod y).before args s = true)
    (hcode : (Cond.code y bytes maxL none).before args s = true) (hy : y.cls ≠ "java/lang/invoke/MethodHandle" ∧ y.cls ≠ "java/lang/invoke/VarHandle")
    {W9 : Nat} {Pre : Pt → Array Value → Prop} {Post : Pt → Array Value → Option Value → Pt → Prop} {PostX : Pt → Array Value → Addr → Pt → Prop} (hK : vx_Back l R p e below s args y 3 W9 Pre Post PostX)
    {g : JFrame} (hg : g.method = m) (hsize : g.locals.size = c.maxLocals) {a : Addr} {argsL rest : List Value} (hlen : ∀ sig, parseMethodDescriptor y.desc = some sig → argsL.length = sig.parameters.length)
    (hstack : g.stack = argsL.reverse ++ .ref a :: rest) (hW : 2 * g.monitorRoom + (rest.map fun v => v.category).sum ≤ W9) (hdg : decode c.code g.pc = .ok (.invokespecial index, 3))
    (hpre : ∀ vm₁, s.WarmedH vm₁ → Pre ⟨T.setVm vm₁, locs, cells, slots⟩ (Value.ref a :: argsL).toArray) :
    (∃ (v : Option Value) (vm₁ : Vm) (B : Pt), s.WarmedH vm₁ ∧ Stand p l e R s m args below meth c B.U B.locs B.cells B.slots ∧ Post ⟨T.setVm vm₁, locs, cells, slots⟩ (Value.ref a :: argsL).toArray v B ∧
      ∀ target, Steps p.tables e below (B.U.setTop { g with pc := g.pc + 3, stack := v.toList ++ rest }) target → Steps p.tables e below (T.setTop g) target) ∨
    (∃ (q : Addr) (vm₁ : Vm) (B : Pt), s.WarmedH vm₁ ∧ Stand p l e R s m args below meth c B.U B.locs B.cells B.slots ∧ PostX ⟨T.setVm vm₁, locs, cells, slots⟩ (Value.ref a :: argsL).toArray q B ∧
      Steps p.tables e below (T.setTop g) ((B.U.setTop { g with stack := rest }).pushFrame (.throwing q))) := by
  subst hg
  have hpl : e.platform.magicAccessors = ({} : Platform).magicAccessors := by rw [X.admits.platform]
  obtain ⟨mk, methM, cM, kP, vm₁, hnamed, hmethM, hcodeM, -, hlocalsM, -, hkP, -, hW₁, hstep₁⟩ := Steps.initColdArgsNest (e := e) X.here hexec X.warmed hpl hown hy1 hy hlink hinst hcode (f := g) rfl hlen hstack hdg
  have X₁ := X.noted hW₁
  rcases hK g.method meth c ⟨T.setVm vm₁, locs, cells, slots⟩ { g with stack := rest } (.invokespecial index) mk (Value.ref a :: argsL).toArray X₁ rfl hsize hdg hW (X₁.named hnamed) (hpre vm₁ X₁.warmed) with ⟨v, B, X', hpost, hsteps⟩ | ⟨q, B, X', hpost, hsteps⟩
  · exact Or.inl ⟨v, vm₁, B, X₁.warmed, X', hpost, fun target h => hstep₁ _ fun acts => by rw [doInvoke_state]; exact hsteps.trans h⟩
  · exact Or.inr ⟨q, vm₁, B, X₁.warmed, X', hpost, hstep₁ _ fun acts => by rw [doInvoke_state]; exact hsteps⟩
end VXIC
section VXID
variable {p : Program} {l : Launch} {e : Env} {R : Room} {s : State} {m : MethodId} {args : Array Value} {below : List Frame} {meth : Method} {c : Code} {H : Heap} {locs : List Loc} {cells slots : Nat}
theorem vx_runIN {y : MethodName} {bytes cc : ByteArray} {maxL nL mc ms n index : Nat} {ws : List Cond} {rm : Room} {Pc : Array Value → State → Prop} {Qc : Array Value → State → Outcome → State → Prop} {XC : String → State → State → Prop} {free : Addr → Prop} {Ts : List Cond} {own host : String} {b : Addr} {As rest : List Value} {g : JFrame}
    (S : CallFix p m c cc nL s args Ts own) (hM : vx_Met l y ws rm Pc Qc XC mc ms free) (cw : va_CN R s args own index y host bytes maxL none ws rm mc ms n ∧ y.name = "<init>" ∧ (Cond.instanceMethod y).before args s = true) (hp : PreS s H Pc (.ref b :: As))
    (hg : g.method = m) (hn : As.length = n) (hsize : g.locals.size = nL) (hstack : g.stack = As.reverse ++ .ref b :: rest) (hW : 2 * g.monitorRoom + (rest.map fun v => v.category).sum ≤ 8) (hdg : decode cc g.pc = .ok (.invokespecial index, 3)) (hf : cells + mc ≤ R.cells ∧ slots + ms ≤ R.slots) :
    vx_Run p l e R s m args below meth c H locs cells slots mc ms g rest (Qc (Value.ref b :: As).toArray) XC free := by
  obtain ⟨⟨⟨hrc, hrs, hfr, hlo, hws, hcw⟩, hcode, hini, hy, hlen, hl⟩, hx1, hx2⟩ := cw
  have hK : vx_Back l R p e below s args y 3 8 (PreOf R mc ms Pc) (PostOf Qc mc ms free) (vx_Post XC mc ms free) := vx_back (bytes := bytes) (maxL := maxL) (ret := none) hM hp.1 hrc hrs hfr hlo hws hcw (fun a' U hW => word_at hW (Or.inl (by first | rfl | simp [Cond.onTables, Cond.keeps, Cond.steady])) hini)
  obtain ⟨hx, hb, hml, ho, -⟩ := S
  have hPc := hp.2
  intro T hT X
  rcases vx_callIN X hx (bytes := bytes) (maxL := maxL) ho hx1 hl hx2 hcode hy hK hg (hsize.trans hml.symm) (a := b) (argsL := As) (rest := rest) (fun sig h => hn.trans (hlen sig h)) hstack hW (by rw [hb]; exact hdg)
    (fun vm₁ hW₁ => ⟨hf.1, hf.2, hPc (T.setVm vm₁) hT hW₁⟩) with ⟨v, vm₁, ⟨U', l2, c2, s2⟩, hW₁, X', ⟨g', mk, t, L, e1, e2, hq, h1, hL, h2, h3⟩, st⟩ | ⟨q, vm₁, ⟨U', l2, c2, s2⟩, hW₁, X', ⟨g', mk, t, L, E, ce, e1, e2, hq, hce, hcv, hcl, h1, hL, h2, h3⟩, st⟩
  · dsimp only [Pt.U, Pt.locs, Pt.cells, Pt.slots] at X' e1 e2 h1 h2 h3 st
    subst h1; subst h2; subst h3
    exact Or.inl ⟨v, (T.setVm vm₁).calling g' mk (Value.ref b :: As).toArray, t, U', L, hT, X', hL, e1, e2, hq, st⟩
  · dsimp only [Pt.U, Pt.locs, Pt.cells, Pt.slots] at X' e1 e2 h1 h2 h3 st hcl
    subst h1; subst h2; subst h3
    exact Or.inr ⟨q, (T.setVm vm₁).calling g' mk (Value.ref b :: As).toArray, t, U', L, E, ce, hT, X', hL, e1, e2, hq, hce, hcv, vx_cls hW₁ hcl, st⟩
end VXID
section JR5
variable {g : jG} {μ μ2 : jM} {d : Nat} {hs : jH} {P P2 : jO → jH → Prop} {pc : Nat} {lv : List (Nat × Value)} {st st0 : List Value} {h : jH}
theorem j_blind {as : List Value} : FrameBlind (jPc g as h) := fun _ _ _ _ q => ⟨q.1, q.2.1, q.2.2⟩
/-- behind a call, in a method without handlers -/
theorem j_run {p : Program} {e : Env} {R : Room} {s : State} {m : MethodId} {args : Array Value} {below : List Frame} {meth : Method} {c : Code} {H : Heap} {ls : Array Slot} {locs : List Loc} {a : Array Value} (hg : jok g) (B : jB g μ d hs p R s m meth c) (hR : jR g h H) (hl : lv_has ls μ.2.2.1 lv) (hL : ∀ z ∈ locs, jF g z.base) (hf : jfit g hs h) (hh : μ.2.2.2.2 = [])
    (hrun : vx_Run p g.1 e R s m args below meth c H locs (h.2.1 - hs.2.1) (h.2.2 - hs.2.2) (jB0 g + 601024 - h.2.1) (7293034 - h.2.2) (F0 m pc ls st0) st (jQ g h P2 a) (jX g h P2) (jF g))
    (kk : ∀ v h', P2 (.inl v) h' → J g μ d hs P (pc + 3) lv (v.toList ++ st) h') (kx : ∀ E h', P2 (.inr E) h' → P (.inr E) h') :
    W p g.1 e R s m args below meth c H locs (h.2.1 - hs.2.1) (h.2.2 - hs.2.2) (vx_MQ below (jQ g hs P) (jX g hs P) args s (jB0 g + 601024 - hs.2.1) (7293034 - hs.2.2) (jF g)) (F0 m pc ls st0) := by
  intro T hT X
  have hsl := j_slots X
  obtain ⟨f1, f2, f3, f4⟩ := id hf
  have hsz := B.2.2.2.2.2.2.2.2.2.1
  rcases hrun T hT X with ⟨v, st9, t, T', L, h0, X', hL', e1, e2, ⟨v', h', hv, hP2, hR', hsl', hf'⟩, stp⟩ | ⟨q, st9, t, T', L, E, ce, h0, X', hL', e1, e2, ⟨h', hP2, hR', hsl', hf'⟩, hce, hcv, hcl', stp⟩
  · cases hv
    obtain ⟨k1, k2, k3, k4⟩ := id hf'
    have hs9 : T'.heap.size = h'.2.1 := by rw [e1]; exact hR'.2.1
    rw [h0] at hsl'
    rw [hT] at hsl
    have X2 := j_narrow X' (k := h'.2.1 - hs.2.1) (n := h'.2.2 - hs.2.2) (by omega) (by rw [e1]; omega)
    obtain ⟨t2, a1, b1⟩ := kk v h' hP2 hg p e R s m args below meth c B T'.heap ls (locs ++ L) (by rw [e1]; exact hR') hl (fun z hz => by
      rcases List.mem_append.mp hz with h9 | h9
      · exact hL z h9
      · exact hL' z h9) ⟨by omega, by omega, k3, k4⟩ T' rfl X2
    exact ⟨t2, stp t2 a1, b1⟩
  · obtain ⟨k1, k2, k3, k4⟩ := id hf'
    have hs9 : T'.heap.size = h'.2.1 := by rw [e1]; exact hR'.2.1
    rw [h0] at hsl'
    rw [hT] at hsl
    have X2 := j_narrow X' (k := h'.2.1 - hs.2.1) (n := h'.2.2 - hs.2.2) (by omega) (by rw [e1]; omega)
    obtain ⟨t2, a1, b1⟩ := vx_out (Qc := jQ g hs P) (XC := jX g hs P) (free := jF g) (mc := jB0 g + 601024 - hs.2.1) (ms := 7293034 - hs.2.2) (pc := pc) (ls := ls) (rest := st) (E := E) (ce := ce) (q := q) (fun x hx => by
        rw [B.2.2.2.2.2.2.1, hh] at hx
        cases hx) B.2.2.2.2.1 (show T'.heap[q]? = some ce by rw [e1]; exact hce) hcv hcl'
      (fun t9 ht9 _ => ⟨h', kx E h' hP2, by rw [ht9, e1]; exact hR', by rw [ht9, e1]; omega, ⟨by omega, by omega, k3, k4⟩⟩)
      (fun z hz => by
        rcases List.mem_append.mp hz with h9 | h9
        · exact hL z h9
        · exact hL' z h9) (by omega) (by omega) T' rfl X2
    exact ⟨t2, stp.trans a1, b1⟩
theorem jrm_l : (jrm g d h).locals = 64 * d + 1024 := by
  unfold jrm
  exact Eq.refl _
set_option maxRecDepth 100000 in
theorem j_loc {R : Room} {x : Nat} (b2 : 64 * (d + 1) + 1024 ≤ R.locals) (c4 : x ≤ 40) : 8 + (x + 11) + (jrm g d h).locals ≤ R.locals := by
  rw [jrm_l]
  have h1 : 64 * (d + 1) = 64 * d + 64 := Nat.mul_succ 64 d
  rw [h1] at b2
  generalize 64 * d = z at b2 ⊢
  generalize R.locals = y at b2 ⊢
  omega
theorem j_cB {p : Program} {R : Room} {s : State} {m : MethodId} {args : Array Value} {meth : Method} {c : Code} {index n : Nat} (hg : jok g) (B : jB g μ (d + 1) hs p R s m meth c) (hcl : jCl μ.1.cls index μ2 n) (hh : μ2.2.2.2.2 = []) :
    CallB R s args μ.1.cls index μ2.1 μ2.2.1 μ2.2.2.1 μ2.2.2.2.1 [jw μ2] (jrm g d h) (jB0 g + 601024 - h.2.1) (7293034 - h.2.2) n := by
  obtain ⟨c1, c2, c3, c4, ⟨c5, c6, c7⟩, c8⟩ := hcl
  obtain ⟨b1, b2, b3, b4⟩ := B.2.2.2.2.2.2.2.2.1
  have hW := B.2.2.2.2.2.2.2.1
  have hjw : jw μ2 = Cond.code μ2.1 μ2.2.1 μ2.2.2.1 μ2.2.2.2.1 := by unfold jw; rw [hh]
  have hgood : goodWord (jw μ2) = true := by rw [hjw]; rfl
  refine ⟨rfl, rfl, by show d + 16 + 1 ≤ R.frames; omega, j_loc b2 c4, fun w hw a' U hU => ?_, by rw [hjw]; exact List.mem_cons_self, by rw [← hjw]; exact j_word hg hW c2 hgood, j_word hg hW c3 rfl, ⟨c5, c6⟩, fun sig hsig => ?_, j_word hg hW c1 rfl⟩
  · rw [List.mem_singleton.mp hw]
    exact word_at hU (good_of_word hgood) (j_word (args := a') hg hW c2 hgood)
  · rw [hsig] at c7
    exact (Option.some.inj c7).symm
/-- an instance method's call -/
theorem jr_callV {ci index n b : Nat} {As fs : List Value} (hcl : jCv μ.1.cls index ci μ2 n) (hn : As.length = n) (hh : μ.2.2.2.2 = []) (hdg : decode μ.2.1 pc = .ok (.invokevirtual index, 3)) (hb : h.1 b = some (.inr (ci, fs))) (hst : (st.map fun v => v.category).sum ≤ 8) (hcon : Con g μ2 d (.ref b :: As) h P2)
    (kk : ∀ v h', P2 (.inl v) h' → J g μ (d + 1) hs P (pc + 3) lv (v.toList ++ st) h') (kx : ∀ E h', P2 (.inr E) h' → P (.inr E) h') : J g μ (d + 1) hs P pc lv (As.reverse ++ .ref b :: st) h := by
  intro hg p e R s m args below meth c B H ls locs hR hl hL hf
  obtain ⟨c0, cn, c1, c2, q, c3, c4⟩ := hcl
  have hW := B.2.2.2.2.2.2.2.1
  obtain ⟨f1, f2, f3, f4⟩ := id hf
  obtain ⟨b1, b2, b3, b4⟩ := B.2.2.2.2.2.2.2.2.1
  have hM := hcon hg ⟨Nat.le_refl _, Nat.le_refl _, f3, f4⟩
  have cw : CallW R s args μ.1.cls μ2.1.cls index μ2.1 μ2.2.1 μ2.2.2.1 μ2.2.2.2.1 [jw μ2] (jrm g d h) (jB0 g + 601024 - h.2.1) (7293034 - h.2.2) n := ⟨j_cB hg B c0 cn, j_word hg hW c1 rfl, j_word hg hW c2 rfl⟩
  obtain ⟨cellB, g1, g2, g3⟩ := va_recv (q0 := 0) (j_vaK hg hW) (j_obj hR hb) c3 rfl
  rw [c4] at g3
  exact j_run hg B hR hl hL hf hh (vx_runV (Ts := []) ⟨B.1, B.2.1, B.2.2.1, B.2.2.2.1, fun w hw => nomatch hw⟩ hM cw ⟨j_blind, ⟨cellB, g1, g2, g3⟩, fun U hU hW9 => ⟨rfl, by rw [hU]; exact hR, State.WarmedH.trans hW hW9⟩⟩ rfl hn hl.1 rfl (lv_room (pc := pc) (ls := ls) (rest := st) (m := m) hst) hdg ⟨by omega, by omega⟩) kk kx
theorem jr_callS {index n : Nat} {As : List Value} (hcl : jCs μ.1.cls index μ2 n) (h2 : μ2.2.2.2.2 = []) (hn : As.length = n) (hh : μ.2.2.2.2 = []) (hdg : decode μ.2.1 pc = .ok (.invokestatic index, 3)) (hst : (st.map fun v => v.category).sum ≤ 8) (hcon : Con g μ2 d As h P2)
    (kk : ∀ v h', P2 (.inl v) h' → J g μ (d + 1) hs P (pc + 3) lv (v.toList ++ st) h') (kx : ∀ E h', P2 (.inr E) h' → P (.inr E) h') : J g μ (d + 1) hs P pc lv (As.reverse ++ st) h := by
  intro hg p e R s m args below meth c B H ls locs hR hl hL hf
  obtain ⟨c0, c1⟩ := hcl
  have hW := B.2.2.2.2.2.2.2.1
  obtain ⟨f1, f2, f3, f4⟩ := id hf
  obtain ⟨b1, b2, b3, b4⟩ := B.2.2.2.2.2.2.2.2.1
  have hM := hcon hg ⟨Nat.le_refl _, Nat.le_refl _, f3, f4⟩
  exact j_run hg B hR hl hL hf hh (vx_runS (Ts := []) ⟨B.1, B.2.1, B.2.2.1, B.2.2.2.1, fun w hw => nomatch hw⟩ hM ⟨j_cB hg B c0 h2, j_word hg hW c1 rfl⟩ ⟨j_blind, fun U hU hW9 => ⟨rfl, by rw [hU]; exact hR, State.WarmedH.trans hW hW9⟩⟩ rfl hn hl.1 rfl (lv_room (pc := pc) (ls := ls) (rest := st) (m := m) hst) hdg ⟨by omega, by omega⟩) kk kx
/-- a constructor's call -/
theorem jr_callI {index n b : Nat} {As : List Value} (hcl : jCl μ.1.cls index μ2 n) (h2 : μ2.2.2.2.2 = []) (h3 : μ2.2.2.2.1 = none) (hin : μ2.1.name = "<init>") (hins : Cond.instanceMethod μ2.1 ∈ lw_tbl) (hn : As.length = n) (hh : μ.2.2.2.2 = []) (hdg : decode μ.2.1 pc = .ok (.invokespecial index, 3)) (hst : (st.map fun v => v.category).sum ≤ 8) (hcon : Con g μ2 d (.ref b :: As) h P2)
    (kk : ∀ v h', P2 (.inl v) h' → J g μ (d + 1) hs P (pc + 3) lv (v.toList ++ st) h') (kx : ∀ E h', P2 (.inr E) h' → P (.inr E) h') : J g μ (d + 1) hs P pc lv (As.reverse ++ .ref b :: st) h := by
  intro hg p e R s m args below meth c B H ls locs hR hl hL hf
  have hW := B.2.2.2.2.2.2.2.1
  obtain ⟨f1, f2, f3, f4⟩ := id hf
  obtain ⟨b1, b2, b3, b4⟩ := B.2.2.2.2.2.2.2.2.1
  have hM := hcon hg ⟨Nat.le_refl _, Nat.le_refl _, f3, f4⟩
  have cb := j_cB (h := h) (args := args) hg B hcl h2
  rw [h3] at cb
  exact j_run hg B hR hl hL hf hh (vx_runI (Ts := []) ⟨B.1, B.2.1, B.2.2.1, B.2.2.2.1, fun w hw => nomatch hw⟩ hM ⟨cb, hin, j_word hg hW hins rfl⟩ ⟨j_blind, fun U hU hW9 => ⟨rfl, by rw [hU]; exact hR, State.WarmedH.trans hW hW9⟩⟩ rfl hn hl.1 rfl (lv_room (pc := pc) (ls := ls) (rest := st) (m := m) hst) hdg ⟨by omega, by omega⟩) kk kx
/-- a private constructor of a nest mate -/
def jCn (own : String) (index : Nat) (μ2 : jM) (host : String) (n : Nat) : Prop := Cond.methodLinkNest own index μ2.1 host ∈ lw_tbl ∧ jw μ2 ∈ lw_tbl ∧ Cond.initialized μ2.1.cls ∈ lw_tbl ∧ μ2.2.2.1 ≤ 40 ∧
  (μ2.1.cls ≠ "java/lang/invoke/MethodHandle" ∧ μ2.1.cls ≠ "java/lang/invoke/VarHandle" ∧ (parseMethodDescriptor μ2.1.desc).map (fun d => d.parameters.length) = some n) ∧ μ2.2.2.2.2 = [] ∧ μ2.2.2.2.1 = none ∧ μ2.1.name = "<init>" ∧ Cond.instanceMethod μ2.1 ∈ lw_tbl
theorem jr_callIN {index n b : Nat} {host : String} {As : List Value} (hcl : jCn μ.1.cls index μ2 host n) (hn : As.length = n) (hh : μ.2.2.2.2 = []) (hdg : decode μ.2.1 pc = .ok (.invokespecial index, 3)) (hst : (st.map fun v => v.category).sum ≤ 8) (hcon : Con g μ2 d (.ref b :: As) h P2)
    (kk : ∀ v h', P2 (.inl v) h' → J g μ (d + 1) hs P (pc + 3) lv (v.toList ++ st) h') (kx : ∀ E h', P2 (.inr E) h' → P (.inr E) h') : J g μ (d + 1) hs P pc lv (As.reverse ++ .ref b :: st) h := by
  intro hg p e R s m args below meth c B H ls locs hR hl hL hf
  obtain ⟨c1, c2, c3, c4, ⟨c5, c6, c7⟩, c8, c9, c10, c11⟩ := hcl
  have hW := B.2.2.2.2.2.2.2.1
  obtain ⟨f1, f2, f3, f4⟩ := id hf
  obtain ⟨b1, b2, b3, b4⟩ := B.2.2.2.2.2.2.2.2.1
  have hM := hcon hg ⟨Nat.le_refl _, Nat.le_refl _, f3, f4⟩
  have hjw : jw μ2 = Cond.code μ2.1 μ2.2.1 μ2.2.2.1 none := by unfold jw; rw [c8, c9]
  have hgood : goodWord (jw μ2) = true := by rw [hjw]; rfl
  have hlk : va_Nw (.methodLinkNest μ.1.cls index μ2.1 host) s := (va_Nw.of rfl (hg.2.1 _ c1)).warmM hW
  have cw : va_CN R s args μ.1.cls index μ2.1 host μ2.2.1 μ2.2.2.1 none [jw μ2] (jrm g d h) (jB0 g + 601024 - h.2.1) (7293034 - h.2.2) n := by
    refine ⟨⟨rfl, rfl, by show d + 16 + 1 ≤ R.frames; omega, j_loc b2 c4, fun w hw a' U hU => ?_, by rw [hjw]; exact List.mem_cons_self⟩, by rw [← hjw]; exact j_word hg hW c2 hgood, j_word hg hW c3 rfl, ⟨c5, c6⟩, fun sig hsig => ?_, va_Nw.use rfl hlk⟩
    · rw [List.mem_singleton.mp hw]
      exact word_at hU (good_of_word hgood) (j_word (args := a') hg hW c2 hgood)
    · rw [hsig] at c7
      exact (Option.some.inj c7).symm
  exact j_run hg B hR hl hL hf hh (vx_runIN (Ts := []) ⟨B.1, B.2.1, B.2.2.1, B.2.2.2.1, fun w hw => nomatch hw⟩ hM ⟨cw, c10, j_word hg hW c11 rfl⟩ ⟨j_blind, fun U hU hW9 => ⟨rfl, by rw [hU]; exact hR, State.WarmedH.trans hW hW9⟩⟩ rfl hn hl.1 rfl (lv_room (pc := pc) (ls := ls) (rest := st) (m := m) hst) hdg ⟨by omega, by omega⟩) kk kx
end JR5
