/-! THE JUDGEMENT J: a goal of one program point without the machine's own names. A heap is a partial map from addresses to cells (jH). -/
abbrev jH : Type := (Nat → Option va_E) × Nat × Nat
abbrev jO : Type := Option Value ⊕ String
abbrev jM : Type := MethodName × ByteArray × Nat × Option FieldType × List (Nat × Nat × Nat × Nat)
/-- launch, the law's entry state, the script's address, classes, array classes, the addresses of the text constants, of NO_LAW -/
abbrev jG : Type := Launch × State × Nat × va_G × (Nat → ClassId) × (Nat → Nat) × Nat
/-- the text constants: class, entry, text, bytes -/
def jStr : List (String × Nat × String × List Int32) := [
  ("DebtStreet", 89, "the tape has not so many bytes", [116, 104, 101, 32, 116, 97, 112, 101, 32, 104, 97, 115, 32, 110, 111, 116, 32, 115, 111, 32, 109, 97, 110, 121, 32, 98, 121, 116, 101, 115]),
  ("DebtStreet$Tokens", 60, "debt house quarter cash earns spends own street ring row owes hedge empty pays grows takes limit not and or ", [100, 101, 98, 116, 32, 104, 111, 117, 115, 101, 32, 113, 117, 97, 114, 116, 101, 114, 32, 99, 97, 115, 104, 32, 101, 97, 114, 110, 115, 32, 115, 112, 101, 110, 100, 115, 32, 111, 119, 110, 32, 115, 116, 114, 101, 101, 116, 32, 114, 105, 110, 103, 32, 114, 111, 119, 32, 111, 119, 101, 115, 32, 104, 101, 100, 103, 101, 32, 101, 109, 112, 116, 121, 32, 112, 97, 121, 115, 32, 103, 114, 111, 119, 115, 32, 116, 97, 107, 101, 115, 32, 108, 105, 109, 105, 116, 32, 110, 111, 116, 32, 97, 110, 100, 32, 111, 114, 32]),
  ("DebtStreet$Tokens", 52, ";:+-*()[]=<>", [59, 58, 43, 45, 42, 40, 41, 91, 93, 61, 60, 62]),
  ("DebtStreet", 180, "no such house", [110, 111, 32, 115, 117, 99, 104, 32, 104, 111, 117, 115, 101]),
  ("DebtStreet", 138, "what is 0 to 2", [119, 104, 97, 116, 32, 105, 115, 32, 48, 32, 116, 111, 32, 50]),
  ("DebtStreet", 152, "what is 0 to 3", [119, 104, 97, 116, 32, 105, 115, 32, 48, 32, 116, 111, 32, 51]),
  ("DebtStreet", 188, "the household is gone", [116, 104, 101, 32, 104, 111, 117, 115, 101, 104, 111, 108, 100, 32, 105, 115, 32, 103, 111, 110, 101]),
  ("DebtStreet", 191, "a number is out of its bounds", [97, 32, 110, 117, 109, 98, 101, 114, 32, 105, 115, 32, 111, 117, 116, 32, 111, 102, 32, 105, 116, 115, 32, 98, 111, 117, 110, 100, 115]),
  ("DebtStreet", 227, "there are not so many deeds", [116, 104, 101, 114, 101, 32, 97, 114, 101, 32, 110, 111, 116, 32, 115, 111, 32, 109, 97, 110, 121, 32, 100, 101, 101, 100, 115]),
  ("DebtStreet", 402, "no such tray", [110, 111, 32, 115, 117, 99, 104, 32, 116, 114, 97, 121]),
  ("DebtStreet", 408, "the tray is missing", [116, 104, 101, 32, 116, 114, 97, 121, 32, 105, 115, 32, 109, 105, 115, 115, 105, 110, 103]),
  ("DebtStreet", 381, "not 1 to 12 numbers", [110, 111, 116, 32, 49, 32, 116, 111, 32, 49, 50, 32, 110, 117, 109, 98, 101, 114, 115]),
  ("DebtStreet", 385, "a number that can't be seen", [97, 32, 110, 117, 109, 98, 101, 114, 32, 116, 104, 97, 116, 32, 99, 97, 110, 39, 116, 32, 98, 101, 32, 115, 101, 101, 110]),
  ("DebtStreet", 370, "k is below 0", [107, 32, 105, 115, 32, 98, 101, 108, 111, 119, 32, 48]),
  ("DebtStreet", 392, "no such place", [110, 111, 32, 115, 117, 99, 104, 32, 112, 108, 97, 99, 101]),
  ("DebtStreet", 423, "no such image", [110, 111, 32, 115, 117, 99, 104, 32, 105, 109, 97, 103, 101]),
  ("DebtStreet", 421, "no image was made", [110, 111, 32, 105, 109, 97, 103, 101, 32, 119, 97, 115, 32, 109, 97, 100, 101]),
  ("DebtStreetModel", 237, "street", [115, 116, 114, 101, 101, 116]),
  ("DebtStreetModel", 239, "ring", [114, 105, 110, 103]),
  ("DebtStreetModel", 241, "row", [114, 111, 119]),
  ("DebtStreetModel", 182, "house", [104, 111, 117, 115, 101]),
  ("DebtStreetModel", 192, "spends", [115, 112, 101, 110, 100, 115]),
  ("DebtStreetModel", 186, "cash", [99, 97, 115, 104]),
  ("DebtStreetModel", 210, "owes", [111, 119, 101, 115]),
  ("DebtStreetModel", 212, "hedge", [104, 101, 100, 103, 101]),
  ("DebtStreetModel", 214, "empty", [101, 109, 112, 116, 121]),
  ("DebtStreetModel", 219, "limit", [108, 105, 109, 105, 116]),
  ("DebtStreetModel", 184, "quarter", [113, 117, 97, 114, 116, 101, 114]),
  ("DebtStreetModel", 221, "pays", [112, 97, 121, 115]),
  ("DebtStreetModel", 180, "debt", [100, 101, 98, 116]),
  ("DebtStreetModel", 188, "own", [111, 119, 110]),
  ("DebtStreetModel", 190, "earns", [101, 97, 114, 110, 115]),
  ("DebtStreetModel", 227, "grows", [103, 114, 111, 119, 115]),
  ("DebtStreetModel", 229, "takes", [116, 97, 107, 101, 115]),
  ("DebtStreetModel", 160, "not", [110, 111, 116]),
  ("DebtStreetModel", 158, "and", [97, 110, 100]),
  ("DebtStreetModel", 150, "or", [111, 114])]
def gS (g : jG) : Nat → Nat := g.2.2.2.2.2.1
def jB0 (g : jG) : Nat := g.2.1.heap.size
def jTy : Nat → Option FieldType := fun k => match k with
  | 0 => some .int
  | 1 => some .byte
  | 2 => some .boolean
  | 3 => some .long
  | 4 => some (.object "DebtStreet$Street")
  | 5 => some (.object "DebtStreet$Image")
  | 6 => some (.object "DebtStreet$Tray")
  | 7 => some (.array .int)
  | 10 => some .int
  | 11 => some .int
  | _ => none
def jok (g : jG) : Prop :=
  g.1.stackTraces = false ∧ (∀ w ∈ lw_tbl, w.before #[Value.ref g.2.2.1] g.2.1 = true) ∧ va_K g.2.2.2.1 vwCl [] g.2.1 ∧
  (∀ k ty, jTy k = some ty → ArrOfT g.2.1 (g.2.2.2.2.1 k) ty ∧ va_RA g.2.1 (g.2.2.2.2.1 k) ty) ∧
  vx_Zq Bundle.tN "UNASSIGNED_STACK" Bundle.steD (fun q => jB0 g ≤ q) g.2.1 g.2.1.heap ∧ vx_Zq Bundle.tN "SUPPRESSED_SENTINEL" Bundle.listD (fun q => jB0 g ≤ q) g.2.1 g.2.1.heap ∧
  va_Z "DebtStreet" "NO_LAW" "[I" (.ref g.2.2.2.2.2.2) (fun q => jB0 g ≤ q) g.2.1 g.2.1.heap ∧
  (∀ (k : Nat) (q : String × Nat × String × List Int32), jStr[k]? = some q → vk_R q.1 q.2.1 q.2.2.1 (gS g k) g.2.1 ∧ va_O "java/lang/String" (gS g k) (fun q => jB0 g ≤ q) g.2.1 g.2.1.heap ∧
    va_OF "java/lang/String" "coder" "B" (.int 0) (gS g k) (fun q => jB0 g ≤ q) g.2.1 g.2.1.heap ∧ ∃ v : Nat, va_OF "java/lang/String" "value" "[B" (.ref v) (gS g k) (fun q => jB0 g ≤ q) g.2.1 g.2.1.heap ∧
    va_T .byte v q.2.2.2.length (fun j => .int (q.2.2.2.getD j 0)) (fun q => jB0 g ≤ q) g.2.1 g.2.1.heap) ∧
  va_Z "java/lang/String" "COMPACT_STRINGS" "Z" (.int 1) (fun q => jB0 g ≤ q) g.2.1 g.2.1.heap ∧
  va_Zq "jdk/internal/util/Preconditions" "SIOOBE_FORMATTER" "Ljava/util/function/BiFunction;" (fun q => jB0 g ≤ q) g.2.1 g.2.1.heap
/-- an int array that was there before: what it holds, not its cell -/
def jold (g : jG) (H : Heap) (a : Nat) (x : vp_A) : Prop := match x.2 with
  | .inl f => va_X a x.1 f g.2.1 H
  | _ => False
def jcl (g : jG) (H : Heap) (a t : Nat) (x : vp_A) : Prop := (t < 10 → H[a]? = some (vp_cell (g.2.2.2.2.1 t) x)) ∧ (10 ≤ t → jold g H a x)
theorem jold.kept {g : jG} {H H1 : Heap} {a : Nat} {x : vp_A} (h : jold g H a x) (e : H1[a]? = H[a]?) : jold g H1 a x := by
  obtain ⟨n, y⟩ := x
  cases y with
  | inl f => exact va_X.kept (L := n) (xs := f) h e
  | inr y => exact (show False from h).elim
theorem jold.ex {g : jG} {H : Heap} {a : Nat} {x : vp_A} (h : jold g H a x) : ∃ cell : Cell, H[a]? = some cell := by
  obtain ⟨n, y⟩ := x
  cases y with
  | inl f =>
    obtain ⟨scr, h1, -⟩ := (show va_X a n f g.2.1 H from h)
    exact ⟨scr, h1⟩
  | inr y => exact (show False from h).elim
theorem jcl_lo {g : jG} {H : Heap} {a t : Nat} {x : vp_A} (ht : t < 10) (h : H[a]? = some (vp_cell (g.2.2.2.2.1 t) x)) : jcl g H a t x := ⟨fun _ => h, fun q => absurd ht (Nat.not_lt.mpr q)⟩
theorem jcl.kept {g : jG} {H H1 : Heap} {a t : Nat} {x : vp_A} (h : jcl g H a t x) (e : H1[a]? = H[a]?) : jcl g H1 a t x := ⟨fun q => e.trans (h.1 q), fun q => (h.2 q).kept e⟩
def jat (g : jG) (H : Heap) (a : Nat) (e : va_E) : Prop := match e with
  | .inl x => jcl g H a x.1 x.2 ∧ (10 ≤ x.1 ∨ jB0 g ≤ a)
  | .inr o => (∃ r : vw_C, vwCl[o.1]? = some r ∧ t_OB a (g.2.2.2.1.1 o.1) r.2.2 (g.2.2.2.1.2 o.1) H (vp_V o.2)) ∧ jB0 g ≤ a
def jR (g : jG) (h : jH) (H : Heap) : Prop :=
  (∀ a e, h.1 a = some e → jat g H a e) ∧ H.size = h.2.1 ∧ jB0 g ≤ h.2.1 ∧ ∀ q, q < jB0 g → H[q]? = g.2.1.heap[q]?
def jfit (g : jG) (hs h : jH) : Prop := hs.2.1 ≤ h.2.1 ∧ hs.2.2 ≤ h.2.2 ∧ h.2.1 ≤ jB0 g + 601024 ∧ h.2.2 ≤ 7293034
def jroom (g : jG) (h : jH) (k n : Nat) : Prop := h.2.1 + k ≤ jB0 g + 601024 ∧ h.2.2 + n ≤ 7293034
def jB (g : jG) (μ : jM) (d : Nat) (hs : jH) (p : Program) (R : Room) (s : State) (m : MethodId) (meth : Method) (c : Code) : Prop :=
  p.tables.exec = Jvm.exec ∧ c.code = μ.2.1 ∧ c.maxLocals = μ.2.2.1 ∧ s.vm.findClass μ.1.cls = some m.cls ∧ meth.locks = false ∧ meth.sig.returnType = μ.2.2.2.1 ∧
  c.exceptionTable.toList = tableOf μ.2.2.2.2 ∧ g.2.1.WarmedH s.vm ∧
  (d + 16 ≤ R.frames ∧ 64 * d + 1024 ≤ R.locals ∧ R.cells = jB0 g + 601024 - hs.2.1 ∧ R.slots = 7293034 - hs.2.2) ∧ s.heap.size = hs.2.1 ∧ meth.name = μ.1.name ∧
  ∀ q, q < jB0 g → s.heap[q]? = g.2.1.heap[q]?
def jQ (g : jG) (hs : jH) (P : jO → jH → Prop) : Array Value → State → Outcome → State → Prop := fun _ st o t =>
  ∃ (v : Option Value) (h' : jH), o = .returned v ∧ P (.inl v) h' ∧ jR g h' t.heap ∧ slotSum t.heap ≤ slotSum st.heap + (h'.2.2 - hs.2.2) ∧ jfit g hs h'
def jX (g : jG) (hs : jH) (P : jO → jH → Prop) : String → State → State → Prop := fun E st t =>
  ∃ h' : jH, P (.inr E) h' ∧ jR g h' t.heap ∧ slotSum t.heap ≤ slotSum st.heap + (h'.2.2 - hs.2.2) ∧ jfit g hs h'
def jF (g : jG) : Nat → Prop := fun q => jB0 g ≤ q
def J (g : jG) (μ : jM) (d : Nat) (hs : jH) (P : jO → jH → Prop) (pc : Nat) (lv : List (Nat × Value)) (st : List Value) (h : jH) : Prop :=
  jok g → ∀ (p : Program) (e : Env) (R : Room) (s : State) (m : MethodId) (args : Array Value) (below : List Frame) (meth : Method) (c : Code), jB g μ d hs p R s m meth c →
    ∀ (H : Heap) (ls : Array Slot) (locs : List Loc), jR g h H → lv_has ls μ.2.2.1 lv → (∀ z ∈ locs, jF g z.base) → jfit g hs h →
      W p g.1 e R s m args below meth c H locs (h.2.1 - hs.2.1) (h.2.2 - hs.2.2) (vx_MQ below (jQ g hs P) (jX g hs P) args s (jB0 g + 601024 - hs.2.1) (7293034 - hs.2.2) (jF g)) (F0 m pc ls st)
def jPc (g : jG) (as : List Value) (h : jH) : Array Value → State → Prop := fun v U => v = as.toArray ∧ jR g h U.heap ∧ g.2.1.WarmedH U.vm
def jw (μ : jM) : Cond := match μ.2.2.2.2 with
  | [] => .code μ.1 μ.2.1 μ.2.2.1 μ.2.2.2.1
  | hh => .codeWith μ.1 μ.2.1 μ.2.2.1 μ.2.2.2.1 hh
def jrm (g : jG) (d : Nat) (h : jH) : Room := { frames := d + 16, cells := jB0 g + 601024 - h.2.1, slots := 7293034 - h.2.2, locals := 64 * d + 1024 }
def Con (g : jG) (μ : jM) (d : Nat) (as : List Value) (h : jH) (P : jO → jH → Prop) : Prop :=
  jok g → jfit g h h → vx_Met g.1 μ.1 [jw μ] (jrm g d h) (jPc g as h) (jQ g h P) (jX g h P) (jB0 g + 601024 - h.2.1) (7293034 - h.2.2) (jF g)
/-- what a call ends with: an int, a long, nothing, a reference, a reference or null -/
def jPi (Q : Int32 → jH → Prop) (X : String → jH → Prop) : jO → jH → Prop := fun o h => match o with
  | .inl (some (.int r)) => Q r h
  | .inr E => X E h
  | _ => False
def jPl (Q : Int64 → jH → Prop) (X : String → jH → Prop) : jO → jH → Prop := fun o h => match o with
  | .inl (some (.long r)) => Q r h
  | .inr E => X E h
  | _ => False
def jPv (Q : jH → Prop) (X : String → jH → Prop) : jO → jH → Prop := fun o h => match o with
  | .inl none => Q h
  | .inr E => X E h
  | _ => False
def jPr (Q : Nat → jH → Prop) (X : String → jH → Prop) : jO → jH → Prop := fun o h => match o with
  | .inl (some (.ref r)) => Q r h
  | .inr E => X E h
  | _ => False
def jset (h : jH) (a : Nat) (e : va_E) : jH := (fun q => if q = a then some e else h.1 q, h.2)
def jnew (h : jH) (e : va_E) (n : Nat) : jH := (fun q => if q = h.2.1 then some e else h.1 q, h.2.1 + 1, h.2.2 + n)
theorem j_word {g : jG} {s : State} {args : Array Value} {w : Cond} (hg : jok g) (hW : g.2.1.WarmedH s.vm) (hw : w ∈ lw_tbl) (hgood : goodWord w = true) : w.before args s = true := word_at hW (good_of_word hgood) (hg.2.1 w hw)
theorem j_vaK {g : jG} {s : State} (hg : jok g) (hW : g.2.1.WarmedH s.vm) : va_K g.2.2.2.1 vwCl [] s := hg.2.2.1.moved hW.alike
theorem j_arr {g : jG} {s : State} (hg : jok g) (hW : g.2.1.WarmedH s.vm) {k : Nat} {ty : FieldType} (h : jTy k = some ty) : ArrOfT s (g.2.2.2.2.1 k) ty ∧ va_RA s (g.2.2.2.2.1 k) ty :=
  ⟨arrOfT_moved hW.alike (hg.2.2.2.1 k ty h).1, (hg.2.2.2.1 k ty h).2.moved hW.alike⟩
theorem j_lt {g : jG} {h : jH} {H : Heap} (hR : jR g h H) {a : Nat} {e : va_E} (ha : h.1 a = some e) : a < H.size := by
  have h1 := hR.1 a e ha
  cases e with
  | inl x =>
    by_cases q : x.1 < 10
    · exact (Array.getElem?_eq_some_iff.mp (h1.1.1 q)).1
    · obtain ⟨cell, h2⟩ := (h1.1.2 (Nat.not_lt.mp q)).ex
      exact (Array.getElem?_eq_some_iff.mp h2).1
  | inr o =>
    obtain ⟨⟨r, -, cell, h2, -⟩, -⟩ := h1
    exact (Array.getElem?_eq_some_iff.mp h2).1
/-- one cell of the heap, as the kit's rows take it -/
theorem j_obj {g : jG} {h : jH} {H : Heap} (hR : jR g h H) {a ci : Nat} {fs : List Value} (ha : h.1 a = some (.inr (ci, fs))) : va_P g.2.2.2.1 vwCl [(a, .inr (ci, fs))] H := by
  intro k q hk
  have hz : k < 1 := (List.getElem?_eq_some_iff.mp hk).1
  rw [show k = 0 by omega] at hk
  cases hk
  exact (hR.1 a _ ha).1
theorem j_cell {g : jG} {h : jH} {H : Heap} (hR : jR g h H) {a t : Nat} {x : vp_A} (ha : h.1 a = some (.inl (t, x))) (ht : t < 10 := by decide) : va_P g.2.2.2.1 vwCl [(a, .inl (g.2.2.2.2.1 t, x))] H := by
  intro k q hk
  have hz : k < 1 := (List.getElem?_eq_some_iff.mp hk).1
  rw [show k = 0 by omega] at hk
  cases hk
  exact (hR.1 a _ ha).1.1 ht
theorem j_tys {g : jG} {s : State} (hg : jok g) (hW : g.2.1.WarmedH s.vm) {k : Nat} {ty : FieldType} (h : jTy k = some ty) : va_K g.2.2.2.1 vwCl [(g.2.2.2.2.1 k, ty)] s := by
  refine ⟨(j_vaK hg hW).1, fun i q hi => ?_⟩
  have hz : i < 1 := (List.getElem?_eq_some_iff.mp hi).1
  rw [show i = 0 by omega] at hi
  cases hi
  exact j_arr hg hW h
/-- a cell is written -/
theorem jR_set {g : jG} {h : jH} {H H1 : Heap} {a : Nat} {e0 e : va_E} (hR : jR g h H) (ha : h.1 a = some e0) (hB : jB0 g ≤ a) (hz : H1.size = H.size) (oq : ∀ q : Nat, q ≠ a → H1[q]? = H[q]?) (he : jat g H1 a e) : jR g (jset h a e) H1 := by
  obtain ⟨r1, r2, r3, r4⟩ := hR
  refine ⟨fun q e' hq => ?_, hz.trans r2, r3, fun q hq => by rw [oq q (by omega)]; exact r4 q hq⟩
  by_cases hqa : q = a
  · subst hqa
    simp only [jset, if_true] at hq
    cases hq
    exact he
  · simp only [jset, hqa, if_false] at hq
    have h1 := r1 q e' hq
    cases e' with
    | inl x => exact ⟨h1.1.kept (oq q hqa), h1.2⟩
    | inr o =>
      obtain ⟨⟨r, h2, h3⟩, h4⟩ := h1
      exact ⟨⟨r, h2, h3.kept (oq q hqa)⟩, h4⟩
/-- a cell is made -/
theorem jR_new {g : jG} {h : jH} {H H1 : Heap} {e : va_E} {n : Nat} (hR : jR g h H) (hz : H1.size = H.size + 1) (oq : ∀ q : Nat, q < H.size → H1[q]? = H[q]?) (he : jat g H1 H.size e) : jR g (jnew h e n) H1 := by
  have hlt : ∀ q e', h.1 q = some e' → q < H.size := fun q e' hq => j_lt hR hq
  obtain ⟨r1, r2, r3, r4⟩ := hR
  refine ⟨fun q e' hq => ?_, by show H1.size = h.2.1 + 1; omega, by show jB0 g ≤ h.2.1 + 1; omega, fun q hq => by rw [oq q (by omega)]; exact r4 q hq⟩
  by_cases hqa : q = h.2.1
  · subst hqa
    simp only [jnew, if_true] at hq
    cases hq
    rw [← r2]
    exact he
  · simp only [jnew, hqa, if_false] at hq
    have h1 := r1 q e' hq
    have h0 := oq q (hlt q e' hq)
    cases e' with
    | inl x => exact ⟨h1.1.kept h0, h1.2⟩
    | inr o =>
      obtain ⟨⟨r, h2, h3⟩, h4⟩ := h1
      exact ⟨⟨r, h2, h3.kept h0⟩, h4⟩
section JST
variable {p : Program} {l : Launch} {e : Env} {R : Room} {s : State} {m : MethodId} {args : Array Value} {below : List Frame} {meth : Method} {c : Code} {T : State} {locs : List Loc} {cells slots : Nat}
theorem j_bookS (X : Stand p l e R s m args below meth c T locs cells slots) : s.slotsUsed = slotSum s.heap := by
  have h0 : s.slotsTrue = true := by
    have h := X.room
    simp only [State.hasRoom, Bool.and_eq_true] at h
    exact h.2
  exact (State.slotsTrue_iff s).mp h0
theorem j_bookT (X : Stand p l e R s m args below meth c T locs cells slots) : T.slotsUsed = slotSum T.heap := (State.slotsTrue_iff T).mp X.book
theorem j_slots (X : Stand p l e R s m args below meth c T locs cells slots) : slotSum T.heap ≤ slotSum s.heap + slots := by
  have h1 := j_bookS X
  have h2 := j_bookT X
  have h3 := X.used
  omega
theorem j_narrow (X : Stand p l e R s m args below meth c T locs cells slots) {k n : Nat} (h1 : T.heap.size ≤ s.heap.size + k) (h2 : slotSum T.heap ≤ slotSum s.heap + n) : Stand p l e R s m args below meth c T locs k n := by
  have b1 := j_bookS X
  have b2 := j_bookT X
  obtain ⟨e1, e2, e3, e4, e5, e6⟩ := X.same
  refine { X with same := ⟨e1, e2, h1, e4, ?_, e6⟩ }
  have e4' : T.slotsUsed = s.slotsUsed + ((T.heap.toList.drop s.heap.size).map (·.slots.size)).sum := e4
  show ((T.heap.toList.drop s.heap.size).map (·.slots.size)).sum ≤ n
  omega
end JST
