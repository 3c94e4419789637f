/-! Images agree -/
section VIM
variable {g : jG} {d : Nat} {h : jH} {m : Nat} {μ ν : MW} {ω ω' : CW} {i k n w : Int32} {σ τ : St} {ξ ζ : Hs} {T : Td} {K K' : Nat → Int32} {τ' : To} {top : Nat}
theorem stR.far (x : stR K τ' σ ξ) (e : ∀ z, z < 3240 → K' z = K z) (O : hok ξ) : stR K' τ' σ ξ := by
  obtain ⟨⟨⟨e0, e2, e3, l1, l2, l3⟩, b⟩, s, hh⟩ := x
  refine ⟨⟨⟨(e 0 (by omega)).trans e0, ⟨(e 2 (by omega)).trans e2.1, e2.2⟩, (e 3 (by omega)).trans e3, l1.of (e 4 (by omega)) (fun j _ => e _ (by omega)), l2.of (e 5 (by omega)) (fun j _ => e _ (by omega)), l3.of (e 6 (by omega)) (fun j _ => e _ (by omega))⟩, fun i hi => (e _ (by omega)).trans (b i hi)⟩, ⟨(e 1 (by omega)).trans s.1, (e 50 (by omega)).trans s.2.1, (e 51 (by omega)).trans s.2.2.1, fun r i hr hi => (e _ (by omega)).trans (s.2.2.2 r i hr hi)⟩, (e 7 (by omega)).trans hh.1, fun j hj i hi => (e _ (by have := O.2.1; omega)).trans (hh.2 j hj i hi)⟩
theorem hTake_v (O : hok ξ) (Z : hok ζ) {j : Nat} (hj : j < hN ζ) : hv (hTake ξ ζ) j = hv ζ j := htk_v O Z (hN ζ) Z.2.1 j hj
theorem hTake_ok (O : hok ξ) (Z : hok ζ) : hok (hTake ξ ζ) := ⟨Z.1, Z.2.1, O.2.2⟩
theorem stR.take (x : stR K τ' σ ζ) (O : hok ξ) (Z : hok ζ) : stR K τ' σ (hTake ξ ζ) := ⟨x.1, x.2.1, x.2.2.1, fun j hj i hi => by
  rw [hTake_v O Z hj]
  exact x.2.2.2 j hj i hi⟩
theorem stI.take (x : stI τ' σ ζ) (O : hok ξ) : stI τ' σ (hTake ξ ζ) := by
  have Z := x.2.1
  refine ⟨x.1, hTake_ok O Z, fun j hj => ?_, fun j hj => ?_⟩
  · rw [hTake_v O Z hj]; exact x.2.2.1 j hj
  · rw [hTake_v O Z hj]; exact x.2.2.2 j hj
theorem Rel.thr {v : Int32} (x : Rel ω μ) : Rel ω (mI μ 4 v) := x
theorem v_image (x : Rel ω μ) : Con g mX12_image (d + 40) [.ref m, .int i] (mw h m μ) (wPv h m (agA [nse] (fImage ω i).1 (fImage ω i).2 ())) := by
  refine (m_image (d := d + 38) (μ := μ) (i := i)).pv (fun h' q => ?_) (fun E h' f => f)
  obtain ⟨ν, q1, q2⟩ := q
  refine ⟨ν, ?_, q2⟩
  unfold fImage
  rcases q1 with ⟨c, rfl⟩ | ⟨c, p1, p4, p2, pa, pb, pc⟩
  · rw [if_pos c]
    exact ⟨(mI_at (μ := μ) 4 1).trans cod_i.symm, fun v hv => rfl, x⟩
  · rw [if_neg (by rw [c]; exact fun f => Bool.noConfusion f)]
    refine ⟨p4, fun v hv => rfl, ?_⟩
    obtain ⟨-, i3⟩ := grOk_ix c
    have e1 : kn ν = kn μ := pa 1 (by decide) (by decide)
    have OG := (x.2.2.1 _ i3).2
    refine ⟨⟨by rw [e1]; exact x.1.1, x.1.2⟩, ⟨x.2.1.1.of (pa 15 (by decide) (by decide)) (pa 16 (by decide) (by decide)) p2, x.2.1.2⟩, fun j hj => ?_, ⟨?_, (p1 14 (by decide)).trans x.2.2.2.1.2.1, (p1 15 (by decide)).trans x.2.2.2.1.2.2⟩, x.2.2.2.2⟩
    · show imR ν j (if j = ix i then _ else _) ∧ hok (if j = ix i then _ else _ : Option To × St × Hs).2.2
      by_cases cj : j = ix i
      · rw [if_pos cj]
        subst cj
        refine ⟨⟨?_, ⟨kn μ, fun z hz => ?_, x.1.1.take OG x.1.2.2.1⟩, x.1.2.take OG⟩, hTake_ok OG x.1.2.2.1⟩
        · rw [pb]
          unfold upd
          rw [if_pos rfl]
        · rw [pc, if_pos (by omega), Nat.add_sub_cancel_left]
      · rw [if_neg cj]
        obtain ⟨y, yo⟩ := x.2.2.1 j hj
        refine ⟨?_, yo⟩
        have e4 : ν.2.1 4 j = μ.2.1 4 j := by
          rw [pb]
          unfold upd
          rw [if_neg cj]
        unfold imR at y ⊢
        rw [e4]
        cases hx : (wG ω j).1 with
        | none =>
          have hx' : (ω.2.2.2.2.2.2.2.1 j).1 = none := hx
          rw [hx'] at y
          exact y
        | some τ =>
          have hx' : (ω.2.2.2.2.2.2.2.1 j).1 = some τ := hx
          rw [hx'] at y
          obtain ⟨y1, ⟨K, y2, y3⟩, y4⟩ := y
          refine ⟨y1, ⟨K, fun z hz => ?_, y3⟩, y4⟩
          rw [pc, if_neg (by omega)]
          exact y2 z hz
    · exact tpR.of (ω := ω) (μ := μ) x.2.2.2.1.1 (pa 5 (by decide) (by decide)) (p1 6 (by decide))
theorem v_restore (x : Rel ω μ) : Con g mX12_restore (d + 40) [.ref m, .int i] (mw h m μ) (wPv h m (agA [nse, ise] (fRestore ω i).1 (fRestore ω i).2 ())) := by
  refine (m_restore (d := d + 38) (μ := μ) (i := i)).pv (fun h' q => ?_) (fun E h' f => f)
  obtain ⟨ν, q1, q2⟩ := q
  refine ⟨ν, ?_, q2⟩
  unfold fRestore
  rcases q1 with ⟨c, rfl⟩ | ⟨c, c2, rfl⟩ | ⟨c, c2, p1, p4, p2, pa, pc⟩
  · rw [if_pos c]
    exact ⟨(mI_at (μ := μ) 4 1).trans cod_i.symm, fun v hv => rfl, x⟩
  · rw [if_neg (by rw [c]; exact fun f => Bool.noConfusion f)]
    obtain ⟨-, i3⟩ := grOk_ix c
    have y := (x.2.2.1 _ i3).1
    unfold imR at y
    cases hx : (wG ω (ix i)).1 with
    | none => exact ⟨(mI_at (μ := μ) 4 2).trans ((cod_n (fun f => ne_nis f.symm)).trans cod_i).symm, fun v hv => rfl, x⟩
    | some τ =>
      have hx' : (ω.2.2.2.2.2.2.2.1 (ix i)).1 = some τ := hx
      rw [hx'] at y
      exact absurd (y.1.symm.trans c2) (by decide)
  · rw [if_neg (by rw [c]; exact fun f => Bool.noConfusion f)]
    obtain ⟨-, i3⟩ := grOk_ix c
    obtain ⟨y, yo⟩ := x.2.2.1 _ i3
    unfold imR at y
    cases hx : (wG ω (ix i)).1 with
    | none =>
      have hx' : (ω.2.2.2.2.2.2.2.1 (ix i)).1 = none := hx
      rw [hx'] at y
      exact absurd y c2
    | some τ =>
      have hx' : (ω.2.2.2.2.2.2.2.1 (ix i)).1 = some τ := hx
      rw [hx'] at y
      obtain ⟨y1, ⟨K, y2, y3⟩, y4⟩ := y
      refine ⟨p4, fun v hv => rfl, ⟨(y3.take x.1.2.2.1 yo).far (fun z hz => ?_) (hTake_ok x.1.2.2.1 yo), y4.take x.1.2.2.1⟩, ⟨x.2.1.1.of (pa 15 (by decide)) (pa 16 (by decide)) p2, x.2.1.2⟩, fun j hj => ⟨(x.2.2.1 j hj).1.of (pa 3 (by decide)) (pa 4 (by decide)), (x.2.2.1 j hj).2⟩, ⟨?_, (p1 14 (by decide)).trans x.2.2.2.1.2.1, (p1 15 (by decide)).trans x.2.2.2.1.2.2⟩, x.2.2.2.2⟩
      · rw [pc, if_pos hz]
        exact y2 z hz
      · exact tpR.of (ω := ω) (μ := μ) x.2.2.2.1.1 (pa 5 (by decide)) (p1 6 (by decide))
/-- the kept search by images -/
theorem KO.sub (x : KO ω top) (e : ∀ τ, isTold ω' τ → isTold ω τ) (eO : wO ω' = wO ω) : KO ω' top := by
  refine ⟨fun τ hτ => x.1 τ (e τ hτ), fun τ τ' h1 h2 => x.2.1 τ τ' (e τ h1) (e τ' h2), fun t ht => ?_⟩
  rw [eO] at ht ⊢
  obtain ⟨T0, a, b, c⟩ := x.2.2 t ht
  exact ⟨T0, a, b, fun τ hτ => c τ (e τ hτ)⟩
theorem k_image (x : KO ω top) : KO (fImage ω i).2 top := by
  unfold fImage
  split
  · exact x
  · refine x.sub (fun τ hτ => ?_) rfl
    rcases hτ with c | ⟨j, hj, c⟩
    · exact Or.inl c
    · have c' : (if j = ix i then (some (wT ω), wS ω, hTake (wG ω (ix i)).2.2 (wH ω)) else wG ω j : Option To × St × Hs).1 = some τ := c
      by_cases cj : j = ix i
      · rw [if_pos cj] at c'
        exact Or.inl (Option.some.inj c').symm
      · rw [if_neg cj] at c'
        exact Or.inr ⟨j, hj, c'⟩
theorem k_restore (x : KO ω top) : KO (fRestore ω i).2 top := by
  unfold fRestore
  by_cases c : grOk i = false
  · rw [if_pos c]; exact x
  · rw [if_neg c]
    have c1 : grOk i = true := by revert c; cases grOk i <;> simp
    obtain ⟨-, i3⟩ := grOk_ix c1
    cases hx : (wG ω (ix i)).1 with
    | none => exact x
    | some τ0 =>
      refine x.sub (fun τ hτ => ?_) rfl
      rcases hτ with c | ⟨j, hj, c⟩
      · exact Or.inr ⟨_, i3, hx.trans (congrArg some c.symm)⟩
      · exact Or.inr ⟨j, hj, c⟩
end VIM
