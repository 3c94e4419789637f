section JR4
variable {g : jG} {μ : jM} {d : Nat} {hs : jH} {P : jO → jH → Prop} {pc : Nat} {lv : List (Nat × Value)} {st : List Value} {h : jH}
theorem jr_aret {a : Nat} {rt : FieldType} (hr : μ.2.2.2.1 = some rt) (hrt : (∃ n, rt = .object n) ∨ ∃ t, rt = .array t) (hdg : decode μ.2.1 pc = .ok (.areturn, 1)) (k : P (.inl (some (.ref a))) h) : J g μ d hs P pc lv [.ref a] h := by
  intro hg p e R s m args below meth c B H ls locs hR hl hL hf T hT X
  have hsl := j_slots X
  obtain ⟨f1, f2, f3, f4⟩ := id hf
  exact vx_ret (W.widen (by omega) (by omega) (W.aret (rt := rt) B.1 B.2.1 (B.2.2.2.2.2.1.trans hr) hrt (Or.inr ⟨a, rfl⟩) (fun t ht hW => ⟨_, h, rfl, k, by rw [ht]; exact hR, by rw [ht, ← hT]; exact hsl, hf⟩) hL hdg B.2.2.2.2.1)) T hT X
/-- throw new E("text") in a method without handlers -/
theorem jr_throw {own : String} {ik is ic : Nat} {E text : String} (hown : own = μ.1.cls) (hth : jTh own ik is ic E text) (hh : μ.2.2.2.2 = []) (hroom : jroom g h 1 6)
    (hsa : jok g → ∃ sa, vk_R own is text sa g.2.1)
    (d0 : decode μ.2.1 pc = .ok (.new ik, 3)) (d3 : decode μ.2.1 (pc + 3) = .ok (.dup, 1)) (d4 : decode μ.2.1 (pc + 4) = .ok (.ldc is, 2)) (d6 : decode μ.2.1 (pc + 6) = .ok (.invokespecial ic, 3)) (d9 : decode μ.2.1 (pc + 9) = .ok (.athrow, 1))
    (hst : (st.map fun v => v.category).sum ≤ 8)
    (k : ∀ n, h.2.1 ≤ n → n ≤ h.2.1 + 1 → P (.inr E) (h.1, n, h.2.2 + 6)) : J g μ d hs P pc lv st h := by
  subst hown
  intro hg p e R s m args below meth c B H ls locs hR hl hL hf T hT X
  have hsl := j_slots X
  obtain ⟨t1, t2, t3, t4, t5, t6, t7⟩ := hth
  obtain ⟨sa, hstr⟩ := hsa hg
  obtain ⟨f1, f2, f3, f4⟩ := id hf
  obtain ⟨m1, m2⟩ := hroom
  obtain ⟨r1, r2, r3, r4⟩ := hR
  have hW := B.2.2.2.2.2.2.2.1
  obtain ⟨b1, b2, b3, b4⟩ := B.2.2.2.2.2.2.2.2.1
  have hpre := B.2.2.2.2.2.2.2.2.2.2.2
  have hat : ∀ w ∈ vx_atS μ.1.cls ic E (jchain E), w.before args s = true := fun w hw => by
    obtain ⟨h1, h2⟩ := t5 w hw
    rcases h2 with h2 | h2
    · exact j_word hg hW h1 h2
    · cases w with
      | declares y => exact (va_Nw.of rfl (hg.2.1 _ h1)).warmD hW |>.use rfl
      | castable y z => exact (va_Nw.of rfl (hg.2.1 _ h1)).warmC hW |>.use rfl
      | _ => cases h2
  have hS : va_S (jF g) s.heap H locs := ⟨by rw [B.2.2.2.2.2.2.2.2.2.1, r2]; exact f1, fun q hq hA => by
    have hq2 : q < jB0 g := Nat.not_le.mp hA
    rw [r4 q hq2, hpre q hq2], hL⟩
  have hkeep : ∀ a : Nat, a < g.2.1.heap.size → ¬ jF g a → s.heap[a]? = g.2.1.heap[a]? := fun a ha _ => hpre a ha
  refine jx_throwS (A := jF g) (names := jchain E) (cls := E) (text := text) (ik := ik) (is := is) (ic := ic) (sa := sa) B.1 B.2.1 hg.1 B.2.2.2.1 t1 t2 (j_word hg hW t3 rfl) (j_word hg hW t4 rfl) (vk_R.warm hW hstr) hat ?_ (vx_Zq.moved hW.alike (hg.2.2.2.2.1.kept hkeep)) (vx_Zq.moved hW.alike (hg.2.2.2.2.2.1.kept hkeep)) hS (by rw [B.2.2.1]; exact hl.1) d0 d3 d4 d6 d9 ?_ ?_ ?_ (by omega) (by omega) B.2.2.2.2.1 ?_ hL (by omega) (by omega) T hT X
  · intro w hw
    rcases List.mem_cons.mp hw with h9 | h9
    · rw [h9]; rfl
    · rcases List.mem_cons.mp h9 with h9 | h9
      · rw [h9]; rfl
      · obtain ⟨-, h2⟩ := t5 w h9
        unfold vx_ot
        rcases h2 with h2 | h2
        · rw [h2, Bool.or_true]
        · cases w with
          | declares y => rfl
          | castable y z => rfl
          | _ => cases h2
  · intro x hx
    rw [B.2.2.2.2.2.2.1, hh] at hx
    cases hx
  · rw [t6]; omega
  · rw [t6]; omega
  · intro t hvm hz hq hz1 hz2
    refine ⟨(h.1, t.heap.size, h.2.2 + 6), k _ (by rw [← r2]; exact hz) (by rw [← r2]; exact hz1), ⟨fun a x hx => ?_, rfl, by show jB0 g ≤ t.heap.size; omega, fun q hq9 => by rw [hq q (by omega)]; exact r4 q hq9⟩, ?_, ⟨by show hs.2.1 ≤ t.heap.size; omega, by show hs.2.2 ≤ h.2.2 + 6; omega, by show t.heap.size ≤ _; omega, by show h.2.2 + 6 ≤ _; omega⟩⟩
    · have hlt : a < H.size := j_lt ⟨r1, r2, r3, r4⟩ hx
      have h1 := r1 a x hx
      have h0 := hq a hlt
      cases x with
      | inl x => exact ⟨h1.1.kept h0, h1.2⟩
      | inr o =>
        obtain ⟨⟨r, h2, h3⟩, h4⟩ := h1
        exact ⟨⟨r, h2, h3.kept h0⟩, h4⟩
    · show slotSum t.heap ≤ slotSum s.heap + (h.2.2 + 6 - hs.2.2)
      rw [hT] at hsl
      omega
/-- a contract out of its body -/
theorem con_of {as : List Value} (hp : plainName μ.1.cls = true) (hlen : (lg_sl as).length ≤ μ.2.2.1) (hh : μ.2.2.2.2 = []) (k : J g μ d h P 0 (lv_args 0 as) [] h) : Con g μ d as h P := by
  intro hg hf
  have hjw : jw μ = Cond.code μ.1 μ.2.1 μ.2.2.1 μ.2.2.2.1 := by unfold jw; rw [hh]
  refine vx_ofW (cc := μ.2.1) (maxL := μ.2.2.1) (ret := μ.2.2.2.1) (ws' := []) hp (by rw [hjw]) ?_
  intro p e s m args below meth c s₁ B hml ht hv
  obtain ⟨rfl, hR, hW⟩ := hv
  have hl := lv_entry as (n := μ.2.2.1) hlen
  rw [lg_entry_eq]
  obtain ⟨f1, f2, f3, f4⟩ := id hf
  have hbody : jB g μ d h p (headSpec [jw μ] (jrm g d h)).room s m meth c := ⟨B.exec, B.bytes, hml, findClass_of_methodNamed B.named, B.notSynchronized, B.returns, by rw [hh]; exact List.eq_nil_iff_forall_not_mem.mpr (fun x hx => ht x hx), hW, ⟨Nat.le_refl _, Nat.le_refl _, rfl, rfl⟩, hR.2.1, (name_of_methodNamed B.named B.method).1, hR.2.2.2⟩
  have hk := k hg p e (headSpec [jw μ] (jrm g d h)).room s m as.toArray below meth c hbody s.heap _ [] hR hl (fun z hz => nomatch hz) hf
  rw [Nat.sub_self, Nat.sub_self] at hk
  exact hk
theorem Con.mono {as : List Value} {P' : jO → jH → Prop} (c : Con g μ d as h P) (hm : ∀ o h', P o h' → P' o h') : Con g μ d as h P' := by
  intro hg hf p e ha hc hk s m args below h1 h2 h3 h4
  obtain ⟨n, o, w1, w2, w3, hq⟩ := c hg hf p e ha hc hk s m args below h1 h2 h3 h4
  refine ⟨n, o, w1, w2, w3, ?_⟩
  rcases hq with ⟨⟨v, h', e1, e2, e3⟩, fr⟩ | ⟨q, e0, E, ce, L, ⟨h', e2, e3⟩, rest⟩
  · exact Or.inl ⟨⟨v, h', e1, hm _ _ e2, e3⟩, fr⟩
  · exact Or.inr ⟨q, e0, E, ce, L, ⟨h', hm _ _ e2, e3⟩, rest⟩
theorem Con.pi {as : List Value} {Q Q' : Int32 → jH → Prop} {X X' : String → jH → Prop} (c : Con g μ d as h (jPi Q X)) (hm : ∀ r h', Q r h' → Q' r h') (hx : ∀ E h', X E h' → X' E h') : Con g μ d as h (jPi Q' X') := c.mono (fun o h' hp => by
  match o, hp with
  | .inl (some (.int r)), hp => exact hm r h' hp
  | .inr E, hp => exact hx E h' hp)
theorem Con.pl {as : List Value} {Q Q' : Int64 → jH → Prop} {X X' : String → jH → Prop} (c : Con g μ d as h (jPl Q X)) (hm : ∀ r h', Q r h' → Q' r h') (hx : ∀ E h', X E h' → X' E h') : Con g μ d as h (jPl Q' X') := c.mono (fun o h' hp => by
  match o, hp with
  | .inl (some (.long r)), hp => exact hm r h' hp
  | .inr E, hp => exact hx E h' hp)
theorem Con.pr {as : List Value} {Q Q' : Nat → jH → Prop} {X X' : String → jH → Prop} (c : Con g μ d as h (jPr Q X)) (hm : ∀ r h', Q r h' → Q' r h') (hx : ∀ E h', X E h' → X' E h') : Con g μ d as h (jPr Q' X') := c.mono (fun o h' hp => by
  match o, hp with
  | .inl (some (.ref r)), hp => exact hm r h' hp
  | .inr E, hp => exact hx E h' hp)
theorem Con.pv {as : List Value} {Q Q' : jH → Prop} {X X' : String → jH → Prop} (c : Con g μ d as h (jPv Q X)) (hm : ∀ h', Q h' → Q' h') (hx : ∀ E h', X E h' → X' E h') : Con g μ d as h (jPv Q' X') := c.mono (fun o h' hp => by
  match o, hp with
  | .inl none, hp => exact hm h' hp
  | .inr E, hp => exact hx E h' hp)
end JR4
