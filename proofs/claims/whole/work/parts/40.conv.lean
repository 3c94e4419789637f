/-! Heaps that say the same of the machine, or less -/
def ceq (e0 e : va_E) : Prop := match e0, e with
  | .inl x, .inl y => x.1 = y.1 ∧ (∀ c, vp_cell c x.2 = vp_cell c y.2) ∧ (10 ≤ x.1 → x.2 = y.2)
  | .inr o, .inr o' => o = o'
  | _, _ => False
theorem ceq_rf (e : va_E) : ceq e e := by cases e with
  | inl x => exact ⟨rfl, fun _ => rfl, fun _ => rfl⟩
  | inr o => exact rfl
/-- h' says no more than h -/
def jeq (h h' : jH) : Prop := h.2 = h'.2 ∧ ∀ a e, h'.1 a = some e → ∃ e0, h.1 a = some e0 ∧ ceq e0 e
theorem jeq_rf (h : jH) : jeq h h := ⟨rfl, fun a e he => ⟨e, he, ceq_rf e⟩⟩
theorem jR_eq {g : jG} {h h' : jH} {H : Heap} (e : jeq h h') (hR : jR g h H) : jR g h' H := by
  obtain ⟨e1, e2⟩ := e
  obtain ⟨r1, r2, r3, r4⟩ := hR
  refine ⟨fun a x hx => ?_, by rw [← e1]; exact r2, by rw [← e1]; exact r3, r4⟩
  obtain ⟨x0, h1, h2⟩ := e2 a x hx
  have h3 := r1 a x0 h1
  cases x0 with
  | inl y =>
    cases x with
    | inl z =>
      obtain ⟨h4, h5, h6⟩ := h2
      obtain ⟨⟨h7, h8⟩, h9⟩ := h3
      refine ⟨⟨fun q => ?_, fun q => ?_⟩, by rw [← h4]; exact h9⟩
      · rw [← h4] at q ⊢
        rw [h7 q, h5]
      · rw [← h4] at q
        rw [← h6 q]
        exact h8 q
    | inr o => exact h2.elim
  | inr y =>
    cases x with
    | inl z => exact h2.elim
    | inr o =>
      have h4 : y = o := h2
      subst h4
      exact h3
theorem vp_cell_ci (c : ClassId) {n : Nat} {f f' : Nat → Int32} (h : ∀ j, j < n → f j = f' j) : vp_cell c (n, .inl f) = vp_cell c (n, .inl f') := by
  rw [vp_cell_i, vp_cell_i]
  unfold arrV
  congr 1
  apply Array.ext
  · simp
  · intro j h1 h2
    simp at h1
    simp [h j h1]
theorem vp_cell_cl (c : ClassId) {n : Nat} {f f' : Nat → Int64} (h : ∀ j, j < n → f j = f' j) : vp_cell c (n, .inr (.inl f)) = vp_cell c (n, .inr (.inl f')) := by
  rw [vp_cell_l, vp_cell_l]
  unfold arrV
  congr 1
  apply Array.ext
  · simp
  · intro j h1 h2
    simp at h1
    simp [h j h1]
section JCV
variable {g : jG} {μ : jM} {d : Nat} {hs : jH} {P : jO → jH → Prop} {pc : Nat} {lv : List (Nat × Value)} {st : List Value} {h h' : jH}
theorem J.conv (e : jeq h h') (k : J g μ d hs P pc lv st h') : J g μ d hs P pc lv st h := by
  intro hg p e9 R s m args below meth c B H ls locs hR hl hL hf
  have hk := k hg p e9 R s m args below meth c B H ls locs (jR_eq e hR) hl hL (by unfold jfit; rw [← e.1]; exact hf)
  rw [← e.1] at hk
  exact hk
theorem Con.posteq {as : List Value} {P' : jO → jH → Prop} (c : Con g μ d as h P) (hm : ∀ o h1, P o h1 → ∃ h2, jeq h1 h2 ∧ P' o h2) : Con g μ d as h P' := by
  intro hg hf p e ha hc hk s m args below h1 h2 h3 h4
  obtain ⟨n, o, w1, w2, w3, hq⟩ := c hg hf p e ha hc hk s m args below h1 h2 h3 h4
  refine ⟨n, o, w1, w2, w3, ?_⟩
  rcases hq with ⟨⟨v, h', e1, e2, e3, e4, e5⟩, fr⟩ | ⟨q, e0, E, ce, L, ⟨h', e2, e3, e4, e5⟩, rest⟩
  · obtain ⟨h9, q1, q2⟩ := hm _ _ e2
    exact Or.inl ⟨⟨v, h9, e1, q2, jR_eq q1 e3, by rw [← q1.1]; exact e4, by unfold jfit; rw [← q1.1]; exact e5⟩, fr⟩
  · obtain ⟨h9, q1, q2⟩ := hm _ _ e2
    exact Or.inr ⟨q, e0, E, ce, L, ⟨h9, q2, jR_eq q1 e3, by rw [← q1.1]; exact e4, by unfold jfit; rw [← q1.1]; exact e5⟩, rest⟩
theorem Con.pre {as : List Value} (e : jeq h h') (c : Con g μ d as h' P) : Con g μ d as h P := by
  intro hg hf
  have hc := c hg (by unfold jfit; rw [← e.1]; exact hf)
  intro p e9 ha hch hk s m args below h1 h2 h3 h4
  have h2' : (headSpec [jw μ] (jrm g d h')).appliesLoose μ.1 e9.platform s = true := by
    have e8 : jrm g d h = jrm g d h' := by unfold jrm; rw [e.1]
    rw [← e8]
    exact h2
  obtain ⟨n, o, w1, w2, w3, hq⟩ := hc p e9 ha hch hk s m args below h1 h2' ⟨h3.1, jR_eq e h3.2.1, h3.2.2⟩ h4
  refine ⟨n, o, w1, w2, w3, ?_⟩
  unfold jQ jX jfit at hq ⊢
  rw [← e.1] at hq
  exact hq
end JCV
