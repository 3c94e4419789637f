/-! What a text tells keeps the bounds -/
def sm9 (x : Int32) : Prop := 0 ≤ x.toInt ∧ x.toInt ≤ 999
def aOK (σ : St) : Prop := (∃ m, m ≤ 7 ∧ σ.1 0 = nI m) ∧ σ.1 1 = 0 ∧ can σ ∧ ∀ i, (σ.2 3 i = 0 ∨ σ.2 3 i = 1) ∧ ∀ r, ¬ r = 3 → sm9 (σ.2 r i)
section VTX
variable {K N : Nat → Int32} {σ σ' : St} {A A' : Ab} {n p q k : Nat} {v most : Int32}
theorem sm9_0 : sm9 0 := by unfold sm9; rw [z0]; omega
theorem sm9_n {j : Nat} (h : j < 1000) : sm9 (nI j) := by unfold sm9; rw [nI_toInt (by omega)]; omega
theorem pgo_r {α β : Type} {r : Pr α} {f : α → Nat → Pr β} {x : β × Nat} (e : pgo r f = .inr x) : ∃ y, r = .inr y ∧ f y.1 y.2 = .inr x := by
  cases r with
  | inl z => exact (Sum.inl_ne_inr e).elim
  | inr y => exact ⟨y, rfl, e⟩
theorem ok_num (hN : ∀ p, K p = 2 → ∃ j, j < 1000 ∧ N p = nI j) {x : Int32 × Nat} (e : aNum K N most p = .inr x) : sm9 x.1 := by
  unfold aNum at e
  by_cases c : K p = 2
  · rw [if_pos c] at e
    by_cases c2 : most < N p
    · rw [if_pos c2] at e; exact (Sum.inl_ne_inr e).elim
    · rw [if_neg c2] at e
      obtain ⟨j, hj, ej⟩ := hN p c
      rw [← Sum.inr.inj e]
      show sm9 (N p)
      rw [ej]; exact sm9_n hj
  · rw [if_neg c] at e; exact (Sum.inl_ne_inr e).elim
theorem aOK.set (x : aOK σ) {r a : Nat} {v : Int32} (hr : r < 6) (h3 : ¬ r = 3) (ha : a < 7) (hv : sm9 v) : aOK (setR σ r (upd (σ.2 r) a v)) := by
  obtain ⟨x1, x2, x3, x4⟩ := x
  refine ⟨x1, x2, can_setR x3 hr (upd_0 ha (x3.2.1 r)), fun i => ⟨?_, fun r' hr' => ?_⟩⟩
  · show (if 3 = r then _ else σ.2 3) i = 0 ∨ (if 3 = r then _ else σ.2 3) i = 1
    rw [if_neg (fun z => h3 z.symm)]
    exact (x4 i).1
  · show sm9 ((if r' = r then upd (σ.2 r) a v else σ.2 r') i)
    by_cases c : r' = r
    · rw [if_pos c]
      unfold upd
      split
      · exact hv
      · exact (x4 i).2 r h3
    · rw [if_neg c]; exact (x4 i).2 r' hr'
theorem aOK.ruin (x : aOK σ) {a : Nat} (ha : a < 7) : aOK (setR σ 3 (upd (σ.2 3) a 1)) := by
  obtain ⟨x1, x2, x3, x4⟩ := x
  refine ⟨x1, x2, can_setR x3 (by decide) (upd_0 ha (x3.2.1 3)), fun i => ⟨?_, fun r' hr' => ?_⟩⟩
  · show upd (σ.2 3) a 1 i = 0 ∨ upd (σ.2 3) a 1 i = 1
    unfold upd
    split
    · exact Or.inr rfl
    · exact (x4 i).1
  · show sm9 ((if r' = 3 then _ else σ.2 r') i)
    rw [if_neg hr']; exact (x4 i).2 r' hr'
theorem flRow_b (t : Int32) : flRow t < 6 ∧ ¬ flRow t = 3 := by
  unfold flRow
  split
  · decide
  · split <;> decide
theorem ok_flg (hN : ∀ p, K p = 2 → ∃ j, j < 1000 ∧ N p = nI j) (hn : n < 7) : ∀ m σ p x, aOK σ → aFlg K N n m σ p = .inr x → aOK x.1 ∧ x.1.1 = σ.1
  | 0, σ, p, x, h, e => by rw [← Sum.inr.inj e]; exact ⟨h, rfl⟩
  | m + 1, σ, p, x, h, e => by
    unfold aFlg at e
    by_cases c : K p = 140
    · rw [if_pos c] at e
      exact ok_flg hN hn m (setR σ 3 (upd (σ.2 3) n 1)) _ _ (h.ruin hn) e
    rw [if_neg c] at e
    by_cases c2 : K p = 131 ∨ K p = 138 ∨ K p = 139
    · rw [if_pos c2] at e
      obtain ⟨y, e1, e2⟩ := pgo_r e
      exact ok_flg hN hn m (setR σ (flRow (K p)) (upd (σ.2 (flRow (K p))) n y.1)) _ _ (h.set (flRow_b _).1 (flRow_b _).2 hn (ok_num hN e1)) e2
    · rw [if_neg c2] at e
      rw [← Sum.inr.inj e]; exact ⟨h, rfl⟩
theorem aOK.home (x : aOK σ) (hn : n < 7) (e : σ.1 0 = nI n) : aOK (homeZ σ n) := by
  have key : ∀ τ : St, aOK τ → τ.1 0 = nI n → aOK (setI τ 0 (σ.1 0 + 1)) := by
    intro τ h ht
    obtain ⟨x1, x2, x3, x4⟩ := h
    refine ⟨⟨n + 1, by omega, ?_⟩, x2, can_setI x3 (by decide), x4⟩
    show σ.1 0 + 1 = _
    rw [e, nI_1]
  unfold homeZ
  by_cases c : σ.2 3 n = 1
  · rw [if_pos c]
    exact key _ (x.set (by decide) (by decide) hn sm9_0) e
  · rw [if_neg c]
    exact key _ x e
theorem ok_home (hN : ∀ p, K p = 2 → ∃ j, j < 1000 ∧ N p = nI j) (h : aOK σ) {x : St × Nat} (e : aHome K N σ (ix (σ.1 0)) p = .inr x) : aOK x.1 := by
  obtain ⟨m, m7, em⟩ := h.1
  have e0 : ix (σ.1 0) = m := by rw [em]; exact ix_nI (by omega)
  rw [e0] at e
  unfold aHome at e
  by_cases c : m = 7
  · rw [if_pos c] at e; exact (Sum.inl_ne_inr e).elim
  rw [if_neg c] at e
  obtain ⟨y, e1, e2⟩ := pgo_r e
  have e2 : (if K y.2 = 133 then _ else _) = _ := e2
  by_cases c2 : K y.2 = 133
  · rw [if_pos c2] at e2
    obtain ⟨z, e3, e4⟩ := pgo_r e2
    obtain ⟨w, e5, e6⟩ := pgo_r e4
    have h2 : aOK (setR (setR σ 0 (upd (σ.2 0) m y.1)) 1 (upd (σ.2 1) m z.1)) := (h.set (r := 0) (by decide) (by decide) (by omega) (ok_num hN e1)).set (r := 1) (by decide) (by decide) (by omega) (ok_num hN e3)
    obtain ⟨h3, h4⟩ := ok_flg hN (by omega) _ _ _ _ h2 e5
    rw [← Sum.inr.inj e6]
    exact h3.home (by omega) ((congrFun h4 0).trans em)
  · rw [if_neg c2] at e2; exact (Sum.inl_ne_inr e2).elim
theorem ok_line (hN : ∀ p, K p = 2 → ∃ j, j < 1000 ∧ N p = nI j) (h : aOK A.2.2) {x : Ab × Nat} (e : aLine K N A (abN A) p = .inr x) : aOK x.1.2.2 ∧ x.1.1.1 = A.1.1 := by
  have lw : ∀ k, aLw K N k A p = .inr x → aOK x.1.2.2 ∧ x.1.1.1 = A.1.1 := by
    intro k e
    unfold aLw at e
    by_cases c : K (p + 1) = 58
    · rw [if_pos c] at e
      obtain ⟨y, e1, e2⟩ := pgo_r e
      rw [← Sum.inr.inj e2]
      exact ⟨h, rfl⟩
    · rw [if_neg c] at e; exact (Sum.inl_ne_inr e).elim
  unfold aLine at e
  by_cases c : K p = 129
  · rw [if_pos c] at e
    obtain ⟨y, e1, e2⟩ := pgo_r e
    rw [← Sum.inr.inj e2]
    exact ⟨ok_home hN h e1, rfl⟩
  rw [if_neg c] at e
  by_cases c : K p = 130
  · rw [if_pos c] at e
    obtain ⟨y, e1, e2⟩ := pgo_r e
    rw [← Sum.inr.inj e2]
    exact ⟨⟨h.1, h.2.1, can_setI h.2.2.1 (by decide), h.2.2.2⟩, rfl⟩
  rw [if_neg c] at e
  by_cases c : K p = 141
  · rw [if_pos c] at e; exact lw 0 e
  rw [if_neg c] at e
  by_cases c : K p = 142
  · rw [if_pos c] at e; exact lw 1 e
  rw [if_neg c] at e
  by_cases c : K p = 143
  · rw [if_pos c] at e; exact lw 2 e
  rw [if_neg c] at e
  by_cases c : K p = 144
  · rw [if_pos c] at e
    obtain ⟨y, e1, e2⟩ := pgo_r e
    rw [← Sum.inr.inj e2]
    exact ⟨h, rfl⟩
  · rw [if_neg c] at e; exact (Sum.inl_ne_inr e).elim
theorem ok_rest (hN : ∀ p, K p = 2 → ∃ j, j < 1000 ∧ N p = nI j) : ∀ m A p x, aOK A.2.2 → aRest K N m A p = .inr x → aOK x.1.2.2 ∧ x.1.1.1 = A.1.1
  | 0, A, p, x, h, e => by rw [← Sum.inr.inj e]; exact ⟨h, rfl⟩
  | m + 1, A, p, x, h, e => by
    unfold aRest at e
    by_cases c : K p = 0
    · rw [if_pos c] at e
      rw [← Sum.inr.inj e]; exact ⟨h, rfl⟩
    rw [if_neg c] at e
    obtain ⟨y, e1, e2⟩ := pgo_r e
    obtain ⟨h1, h2⟩ := ok_line hN h e1
    have e2 : (if K y.2 = 59 then _ else _) = _ := e2
    by_cases c2 : K y.2 = 59
    · rw [if_pos c2] at e2
      obtain ⟨h3, h4⟩ := ok_rest hN m (abRow y.1) _ _ h1 e2
      exact ⟨h3, h4.trans h2⟩
    · rw [if_neg c2] at e2; exact (Sum.inl_ne_inr e2).elim
theorem ok_read (hN : ∀ p, K p = 2 → ∃ j, j < 1000 ∧ N p = nI j) {x : Ab × Nat} (e : aRead K N = .inr x) : aOK x.1.2.2 ∧ (x.1.1.1 = 0 ∨ x.1.1.1 = 1) := by
  unfold aRead at e
  by_cases c : K 0 = 135
  · rw [if_pos c] at e
    by_cases c1 : K 1 = 136 ∨ K 1 = 137
    · rw [if_pos c1] at e
      by_cases c2 : K 2 = 59
      · rw [if_pos c2] at e
        have h0 : aOK (abBeg (if K 1 = 136 then 1 else 0)).2.2 := ⟨⟨0, by decide, rfl⟩, rfl, ⟨fun _ _ => rfl, fun _ _ _ => rfl, fun _ _ _ => rfl⟩, fun i => ⟨Or.inl rfl, fun _ _ => sm9_0⟩⟩
        obtain ⟨h1, h2⟩ := ok_rest hN 900 _ _ _ h0 e
        refine ⟨h1, ?_⟩
        rw [h2]
        show (if K 1 = 136 then (1 : Int32) else 0) = 0 ∨ (if K 1 = 136 then (1 : Int32) else 0) = 1
        split
        · exact Or.inr rfl
        · exact Or.inl rfl
      · rw [if_neg c2] at e; exact (Sum.inl_ne_inr e).elim
    · rw [if_neg c1] at e; exact (Sum.inl_ne_inr e).elim
  · rw [if_neg c] at e; exact (Sum.inl_ne_inr e).elim
theorem sm9.r {x : Int32} (h : sm9 x) : rng x := ⟨h.1, by have := h.2; omega⟩
theorem aOK.B (x : aOK σ) : stB σ ∧ can σ ∧ dB σ := by
  obtain ⟨⟨m, m7, em⟩, x2, x3, x4⟩ := x
  have S : sok σ := by
    unfold sok sN
    rw [em, show (nI m).toNatClampNeg = m from nI_clamp (by omega)]
    exact ⟨rfl, m7⟩
  have B : stB σ := ⟨S, fun i _ => ⟨(x4 i).1, ((x4 i).2 0 (by decide)).r, ((x4 i).2 1 (by decide)).r, ((x4 i).2 2 (by decide)).r, ((x4 i).2 4 (by decide)).r⟩, by rw [x2]; exact rng_0⟩
  exact ⟨B, x3, B, fun i _ => ((x4 i).2 4 (by decide)).2⟩
end VTX
