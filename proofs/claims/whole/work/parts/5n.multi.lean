/-! A grid is made: one outer row and its inner ones -/
theorem jR_seg {g : jG} {h : jH} {H H1 : Heap} {L : List va_E} {s : Nat} (hR : jR g h H) (hz : H1.size = H.size + L.length) (oq : ∀ q : Nat, q < H.size → H1[q]? = H[q]?) (he : ∀ i e, L[i]? = some e → jat g H1 (H.size + i) e) : jR g (seg h h.2.1 L s) H1 := by
  have hlt : ∀ q e', h.1 q = some e' → q < H.size := fun q e' hq => j_lt hR hq
  obtain ⟨r1, r2, r3, r4⟩ := hR
  refine ⟨fun q e' hq => ?_, by show H1.size = h.2.1 + L.length; omega, by show jB0 g ≤ h.2.1 + L.length; omega, fun q hq => by rw [oq q (by omega)]; exact r4 q hq⟩
  by_cases hqa : h.2.1 ≤ q ∧ q < h.2.1 + L.length
  · replace hq : L[q - h.2.1]? = some e' := by
      rw [← hq]
      exact (if_pos hqa).symm
    have := he _ _ hq
    rw [show H.size + (q - h.2.1) = q from by omega] at this
    exact this
  · replace hq : h.1 q = some e' := by
      rw [← hq]
      exact (if_neg hqa).symm
    have h1 := r1 q e' hq
    have hqs := hlt q e' hq
    cases e' with
    | inl x => exact ⟨h1.1.kept (oq q hqs), h1.2⟩
    | inr o =>
      obtain ⟨⟨r, h2, h3⟩, h4⟩ := h1
      exact ⟨⟨r, h2, h3.kept (oq q hqs)⟩, h4⟩
section MUL
variable {p : Program} {l : Launch} {e : Env} {R : Room} {s : State} {m : MethodId} {args : Array Value} {below : List Frame} {meth : Method} {c : Code} {H : Heap} {locs : List Loc} {cells slots : Nat} {Q : State → Prop}
theorem W_multi {cc : ByteArray} (hexec : p.tables.exec = Jvm.exec) (hb : c.code = cc) {own : String} (hown : s.vm.findClass own = some m.cls) {index : Nat} (hclink : (Cond.classLink own index "[[I").before args s = true) (hover : (Cond.arrayOver (.array .int)).before args s = true) (harr : (Cond.arrayClass .int).before args s = true)
    {g : JFrame} (hg : g.method = m) (hdg : decode cc g.pc = .ok (.multianewarray index 2, 4)) {rest : List Value} (hstack : g.stack = .int 693 :: .int 7 :: rest) (hcells : cells + 8 ≤ R.cells) (hslots : slots + 4858 ≤ R.slots)
    (kk : ∀ (H' : Heap) (cA comp : ClassId), s.vm.findClass "[[I" = some cA → s.vm.findClass "[I" = some comp → H'.size = H.size + 8 → (∀ q, q < H.size → H'[q]? = H[q]?) → H'[H.size]? = some (arrV cA 7 (fun j => .ref (H.size + 1 + j))) → (∀ j, j < 7 → H'[H.size + 1 + j]? = some (arrV comp 693 (fun _ => .int 0))) →
      W p l e R s m args below meth c H' locs (cells + 8) (slots + 4858) Q { g with pc := g.pc + 4, stack := .ref H.size :: rest }) : W p l e R s m args below meth c H locs cells slots Q g := by
  intro T hT X
  subst hT; subst hb
  have n7 : (7 : Int32).toNatClampNeg = 7 := by decide
  have n693 : (693 : Int32).toNatClampNeg = 693 := by decide
  obtain ⟨vm₁, cA, comp, hW, hfA, hfC, hO, hI, X1, st⟩ := X.multianewarray2F hexec (own := own) (index := index) (ty := .int) hown hclink hover harr hg hdg hstack (by decide) (by decide) (by rw [n7]; decide) (by rw [n693]; decide) (by rw [n693]; decide) rfl rfl (by rw [n7]; omega) (by rw [n7, n693]; omega)
  rw [n7, n693] at X1 st
  obtain ⟨f1, f2, f3, f4⟩ := Jvm.Free.Multi.fill_facts (T.setVm vm₁) cA comp 7 693 (defaultValue .int) 7
  have fo := fun (a : Addr) (ha : a < T.heap.size) => Jvm.Free.Multi.fill_old (T.setVm vm₁) cA comp 7 693 (defaultValue .int) (a := a) ha 7
  have fi := fun (j : Nat) (hj : j < 7) => Jvm.Free.Multi.fill_inner (T.setVm vm₁) cA comp 7 693 (defaultValue .int) 7 j hj
  obtain ⟨o1, o2, o3⟩ := Jvm.Free.Multi.outerC_facts cA 7 T.heap.size 7
  have os := fun (j : Nat) (hj : j < 7) => Jvm.Free.Multi.outerC_slot cA 7 T.heap.size 7 j hj
  have eo : Jvm.Free.Multi.outerC cA 7 T.heap.size 7 = arrV cA 7 (fun j => .ref (T.heap.size + 1 + j)) := by
    have es : (Jvm.Free.Multi.outerC cA 7 T.heap.size 7).slots = (arrV cA 7 (fun j => .ref (T.heap.size + 1 + j))).slots := by
      apply Array.ext'
      apply List.ext_getElem?
      intro j
      rw [Array.getElem?_toList, Array.getElem?_toList]
      by_cases hj : j < 7
      · rw [os j hj, if_pos hj]
        simp [arrV, hj]
      · rw [Array.getElem?_eq_none (by omega), Array.getElem?_eq_none (by rw [arrV_size]; omega)]
    have om : ∀ i, (Jvm.Free.Multi.outerC cA 7 T.heap.size i).monitor = (arrV cA 7 (fun j => .ref (T.heap.size + 1 + j))).monitor ∧ (Jvm.Free.Multi.outerC cA 7 T.heap.size i).hash = (arrV cA 7 (fun j => .ref (T.heap.size + 1 + j))).hash := by
      intro i
      induction i with
      | zero => exact ⟨rfl, rfl⟩
      | succ i ih => exact ⟨by simp only [Jvm.Free.Multi.outerC, Cell.setSlot]; exact ih.1, by simp only [Jvm.Free.Multi.outerC, Cell.setSlot]; exact ih.2⟩
    obtain ⟨om1, om2⟩ := om 7
    revert o1 o2 es om1 om2
    cases Jvm.Free.Multi.outerC cA 7 T.heap.size 7
    intro a b c d e
    unfold arrV at *
    dsimp only at a b c d e
    subst a b c d e
    rfl
  have ei : Jvm.Free.Multi.innerC comp 693 (defaultValue .int) = arrV comp 693 (fun _ => .int 0) := by
    exact (arrV_new comp 693 (.int 0))
  obtain ⟨t, a1, b1⟩ := kk _ cA comp hfA hfC (by rw [f1]; show T.heap.size + 1 + 7 = _; omega) (fun q hq => fo q hq) (by rw [← eo]; exact f2) (fun j hj => by rw [← ei]; exact fi j hj) _ rfl (X1.more (by omega) (by omega))
  exact ⟨t, st t a1, b1⟩
end MUL
section MUJ
variable {g : jG} {μ : jM} {d : Nat} {hs : jH} {P : jO → jH → Prop} {pc : Nat} {lv : List (Nat × Value)} {st : List Value} {h : jH}
def layGrid (e : Nat) : List va_E := [drefs e, zrow 693, zrow 693, zrow 693, zrow 693, zrow 693, zrow 693, zrow 693]
theorem jr_multi {index e : Nat} (hcl : Cond.classLink μ.1.cls index "[[I" ∈ lw_tbl) (hao : Cond.arrayOver (.array .int) ∈ lw_tbl) (he : h.2.1 = e + 2) (hroom : jroom g h 8 4858) (hdg : decode μ.2.1 pc = .ok (.multianewarray index 2, 4))
    (k : J g μ d hs P (pc + 4) lv (.ref h.2.1 :: st) (seg h h.2.1 (layGrid e) 4858)) : J g μ d hs P pc lv (.int 693 :: .int 7 :: st) h := by
  intro hg p ev R s m args below meth c B H ls locs hR hl hL hf
  obtain ⟨f1, f2, f3, f4⟩ := hf
  obtain ⟨m1, m2⟩ := hroom
  obtain ⟨-, -, b3, b4⟩ := B.2.2.2.2.2.2.2.2.1
  have hsz : H.size = h.2.1 := hR.2.1
  have hW := B.2.2.2.2.2.2.2.1
  have hao9 : (Cond.arrayOver (.array .int)).before args s = true := Jvm.Stand.arrayOver_alikeB hW.alike (hg.2.1 _ hao)
  refine W_multi B.1 B.2.1 B.2.2.2.1 (j_word hg hW hcl rfl) hao9 (j_word hg hW kw_arr_int rfl) rfl hdg rfl (by omega) (by omega) fun H1 cA comp q1 q2 z1 o1 a1 a2 => ?_
  have hcA : g.2.2.2.2.1 7 = cA := Option.some.inj (((j_arr hg hW (show jTy 7 = some (.array .int) from rfl)).2).symm.trans q1)
  have hcI : g.2.2.2.2.1 0 = comp := Option.some.inj (((j_arr hg hW (show jTy 0 = some .int from rfl)).2).symm.trans q2)
  have hb0 := hR.2.2.1
  have inner : ∀ j, j < 7 → jat g H1 (H.size + (j + 1)) (zrow 693) := by
    intro j hj
    refine ⟨jcl_lo (Nat.le_of_ble_eq_true rfl) ?_, Or.inr (by omega)⟩
    have := a2 j hj
    rw [show H.size + 1 + j = H.size + (j + 1) from by omega] at this
    rw [this, ← hcI]
    rfl
  have hR1 : jR g (seg h h.2.1 (layGrid e) 4858) H1 := by
    refine jR_seg hR z1 o1 (fun i x hx => ?_)
    rcases i with _ | i
    · have : x = drefs e := by simpa [layGrid] using hx.symm
      subst this
      refine ⟨jcl_lo (Nat.le_of_ble_eq_true rfl) ?_, Or.inr (by omega)⟩
      show H1[H.size + 0]? = _
      rw [Nat.add_zero, a1, ← hcA]
      show _ = some (arrV (g.2.2.2.2.1 7) 7 (fun j => va_rf (if j < 7 then some (e + (3 + j)) else none)))
      congr 1
      unfold arrV
      congr 1
      congr 1
      funext j
      show Value.ref (H.size + 1 + j.val) = va_rf (if j.val < 7 then some (e + (3 + j.val)) else none)
      rw [if_pos j.2]
      show Value.ref (H.size + 1 + j.val) = Value.ref (e + (3 + j.val))
      have ej : H.size + 1 + j.val = e + (3 + j.val) := by omega
      rw [ej]
    · have hi : i < 7 := by
        have := (List.getElem?_eq_some_iff.mp hx).1
        simp [layGrid] at this
        omega
      have hxx : x = zrow 693 := by
        have h7 : i = 0 ∨ i = 1 ∨ i = 2 ∨ i = 3 ∨ i = 4 ∨ i = 5 ∨ i = 6 := by omega
        rcases h7 with rfl | rfl | rfl | rfl | rfl | rfl | rfl <;> exact (Option.some.inj hx).symm
      subst hxx
      exact inner i hi
  have hk := k hg p ev R s m args below meth c B H1 ls locs hR1 hl hL ⟨by show hs.2.1 ≤ h.2.1 + 8; omega, by show hs.2.2 ≤ h.2.2 + 4858; omega, by show h.2.1 + 8 ≤ _; omega, by show h.2.2 + 4858 ≤ _; omega⟩
  have e1 : (seg h h.2.1 (layGrid e) 4858).2.1 - hs.2.1 = h.2.1 - hs.2.1 + 8 := by show h.2.1 + 8 - hs.2.1 = _; omega
  have e2 : (seg h h.2.1 (layGrid e) 4858).2.2 - hs.2.2 = h.2.2 - hs.2.2 + 4858 := by show h.2.2 + 4858 - hs.2.2 = _; omega
  rw [e1, e2] at hk
  rw [hsz]
  exact hk
end MUJ
theorem jp_X1_17 : jFp RX1 17 1 2 (.array (.array .int)) true := ⟨RX1, TX1, 3, tyX1, rfl, jin1, by decide, jw_in 378 (by decide +kernel), tyX1_ok, nmX1, tyX1_ok 2 (by decide), rfl, rfl⟩
def layDoors (e : Nat) : List va_E := .inr (1, [.ref (e + 1), .int 0, .ref (e + 2)]) :: zrow 693 :: layGrid e
theorem layDoors_len (e : Nat) : (layDoors e).length = 10 := rfl
set_option maxRecDepth 20000 in
theorem c_initDoors {g : jG} {d : Nat} {h : jH} {a s : Nat} {L : List va_E} (R : a + L.length + 10 ≤ jB0 g + 601024 ∧ h.2.2 + s + 5551 ≤ 7293034) : Con g mX1_init (d + 1) [.ref (a + L.length)] (seg h a (L ++ [.inr (1, [.null, .int 0, .null])]) s) (jPv (fun h' => h' = seg h a (L ++ layDoors (a + L.length)) (s + 5551)) no2) := by
  obtain ⟨r1, r2⟩ := R
  refine con_of km_X1_init.1.2.2.2.2 (Nat.le_of_ble_eq_true rfl) rfl ?_
  show J g mX1_init (d + 1) _ _ 0 [(0, .ref (a + L.length))] [] _
  refine jr_aload_n 0 dX1_init_0 rfl rfl ?_
  refine jr_objInit jl_X1_3 dX1_init_1 (Nat.le_of_ble_eq_true rfl) ?_
  refine jr_aload_n 0 dX1_init_4 rfl rfl ?_
  refine jr_sipush (v := 693) dX1_init_5 (by decide) ?_
  refine jr_new_int (N := 693) rfl (by decide) ⟨by rw [seg_sz]; simp; omega, by rw [seg_sz]; simp; omega⟩ dX1_init_8 (fun q1 h1 e1 f1 => ?_)
  rw [seg_new] at f1
  subst f1
  rw [seg_sz] at e1
  simp only [List.length_append, List.length_cons, List.length_nil] at e1
  subst e1
  refine jr_putFE jp_X1_9 (fun C T N hc => by cases hc; rfl) rfl dX1_init_10 (seg_at0 _ _ _ _ _ _) (Nat.le_of_ble_eq_true rfl) rfl rfl (fun h1 f1 => ?_)
  replace f1 := f1.trans (seg_set0 _ _ _ _ _ _ _)
  subst f1
  refine jr_aload_n 0 dX1_init_13 rfl rfl ?_
  refine jr_bipush (v := 7) dX1_init_14 (by decide) ?_
  refine jr_sipush (v := 693) dX1_init_16 (by decide) ?_
  refine jr_multi (index := 15) (e := a + L.length) (jw_in 372 (by decide +kernel)) (jw_in 373 (by decide +kernel)) (by show a + (L ++ [_, _]).length = _; simp only [List.length_append, List.length_cons, List.length_nil]; omega) ⟨by show a + (L ++ [_, _]).length + 8 ≤ _; simp only [List.length_append, List.length_cons, List.length_nil]; omega, by rw [seg_sz]; dsimp only; omega⟩ dX1_init_19 ?_
  have es : ∀ (L1 L2 : List va_E) (s1 s2 : Nat), seg (seg h a L1 s1) (seg h a L1 s1).2.1 L2 s2 = seg h a (L1 ++ L2) (s1 + s2) := by
    intro L1 L2 s1 s2
    refine Prod.ext (funext fun q => ?_) (Prod.ext ?_ ?_)
    · show (if a + L1.length ≤ q ∧ q < a + L1.length + L2.length then L2[q - (a + L1.length)]? else if a ≤ q ∧ q < a + L1.length then L1[q - a]? else h.1 q) = (if a ≤ q ∧ q < a + (L1 ++ L2).length then (L1 ++ L2)[q - a]? else h.1 q)
      rw [List.length_append]
      by_cases c1 : a + L1.length ≤ q ∧ q < a + L1.length + L2.length
      · rw [if_pos c1, if_pos (by omega), List.getElem?_append_right (by omega)]
        congr 1
        omega
      · rw [if_neg c1]
        by_cases c2 : a ≤ q ∧ q < a + L1.length
        · rw [if_pos c2, if_pos (by omega), List.getElem?_append_left (by omega)]
        · rw [if_neg c2, if_neg (by omega)]
    · show a + L1.length + L2.length = a + (L1 ++ L2).length
      rw [List.length_append]; omega
    · show h.2.2 + s1 + s2 = h.2.2 + (s1 + s2)
      omega
  rw [es, List.append_assoc, List.cons_append]
  refine jr_putFE jp_X1_17 (fun C T N hc => by cases hc; rfl) rfl dX1_init_23 (seg_at0 _ _ _ _ _ _) (Nat.le_of_ble_eq_true rfl) rfl rfl (fun h1 f1 => ?_)
  replace f1 := f1.trans (seg_set0 _ _ _ _ _ _ _)
  subst f1
  refine jr_vret rfl dX1_init_26 ?_
  show seg _ _ _ _ = _
  simp only [seg_sz, List.length_append, List.length_cons, List.length_nil]
  rfl
