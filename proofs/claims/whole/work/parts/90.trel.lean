/-! What the class's world and the reference's have in common -/
def stR (K : Nat → Int32) (τ : To) (σ : St) (ξ : Hs) : Prop := (encT K τ.2.1 ∧ encB K τ.2.2) ∧ encS K σ ∧ encH K ξ
def stI (τ : To) (σ : St) (ξ : Hs) : Prop := ((stB σ ∧ can σ) ∧ dB τ.2.2 ∧ τ.2.2.1 0 = σ.1 0) ∧ hok ξ ∧ hB ξ σ ∧ ∀ j, j < hN ξ → can (hv ξ j)
def imR (μ : MW) (i : Nat) (x : Option To × St × Hs) : Prop := match x.1 with
  | none => μ.2.1 4 i = 0
  | some τ => μ.2.1 4 i = 1 ∧ (∃ K, (∀ z, z < 3240 → μ.2.1 3 (3240 * i + z) = K z) ∧ stR K τ x.2.1 x.2.2) ∧ stI τ x.2.1 x.2.2
def tpR (ω : CW) (μ : MW) : Prop := ∃ L, (wI ω 0 = nI L ∧ L ≤ 900) ∧ μ.1 6 = nI L ∧ byt (wTape ω) ∧ ∀ j, j < L → μ.2.1 5 j = wTape ω j &&& 255
def Rel (ω : CW) (μ : MW) : Prop := (stR (kn μ) (wT ω) (wS ω) (wH ω) ∧ stI (wT ω) (wS ω) (wH ω)) ∧ (tysAt μ (wY ω) ∧ tysOk (wY ω) ∧ srtOk (wY ω)) ∧ (∀ i, i < 3 → imR μ i (wG ω i) ∧ hok (wG ω i).2.2) ∧ (tpR ω μ ∧ μ.1 14 = wI ω 1 ∧ μ.1 15 = wI ω 2) ∧ HNum (wZ ω) ∧ p7 (wO ω).2.2.2.1
/-- an answer of the reference that agrees -/
def agA {α : Type} (xs : List String) (A : An α) (ω' : CW) : α → MW → Prop := fun r ν => ν.1 4 = cod xs A ∧ (∀ v, A = .inr v → r = v) ∧ Rel ω' ν
section TRE
variable {g : jG} {d : Nat} {h : jH} {m : Nat} {μ ν : MW} {ω ω' : CW} {σ τ : St} {ξ : Hs} {K K' : Nat → Int32} {T : Td} {α : Type} {xs : List String} {A : An α} {r : α} {Y : Nat → Ty} {i k n : Int32} {τ' : To}
theorem Rel.self (x : Rel ω μ) : mS μ (wS ω) = μ := by
  show mA μ 1 (kS (kn μ) (wS ω)) = μ
  rw [kS_enc x.1.1.2.1, mA_kn]
theorem imR.of {x : Option To × St × Hs} {j : Nat} (y : imR μ j x) (e3 : ν.2.1 3 = μ.2.1 3) (e4 : ν.2.1 4 = μ.2.1 4) : imR ν j x := by
  unfold imR at *
  rw [e3, e4]
  exact y
theorem tpR.of (y : tpR ω μ) (e5 : ν.2.1 5 = μ.2.1 5) (e6 : ν.1 6 = μ.1 6) : tpR ω ν := by
  obtain ⟨L, a, b, c, d⟩ := y
  exact ⟨L, a, e6.trans b, c, fun j hj => by rw [e5]; exact d j hj⟩
theorem Rel.scr (x : Rel ω μ) (s : scr ω ω') : Rel ω' μ := by
  obtain ⟨s1, s2, s3, s4, s5, s6, s7, s8, s9⟩ := s
  unfold Rel tpR at *
  rw [s1, s2, s3, s4, s5, s6, s7, s8, s9]
  exact x
/-- the reference's world changes its street and history alone, and scratch -/
theorem Rel.mv (x : Rel ω μ) {ξ' : Hs} {σ' : St} (hI : stI (wT ω) σ' ξ') (hK : stR (kn ν) (wT ω) σ' ξ') (hy : tysAt ν (wY ω)) (e3 : ν.2.1 3 = μ.2.1 3) (e4 : ν.2.1 4 = μ.2.1 4) (e5 : ν.2.1 5 = μ.2.1 5) (i6 : ν.1 6 = μ.1 6) (i14 : ν.1 14 = μ.1 14) (i15 : ν.1 15 = μ.1 15) : Rel (pS (pH ω ξ') σ') ν :=
  ⟨⟨hK, hI⟩, ⟨hy, x.2.1.2⟩, fun i hi => ⟨(x.2.2.1 i hi).1.of e3 e4, (x.2.2.1 i hi).2⟩, ⟨tpR.of x.2.2.2.1.1 e5 i6, i14.trans x.2.2.2.1.2.1, i15.trans x.2.2.2.1.2.2⟩, x.2.2.2.2.1, x.2.2.2.2.2⟩
theorem stR.f (x : stR K τ' σ ξ) (f : kfr K K') {σ' : St} {ξ' : Hs} (hH : encH K' ξ') : stR (kS K' σ') τ' σ' ξ' := by
  obtain ⟨⟨a, b⟩, -, -⟩ := x
  refine ⟨⟨encT_kS (f.e a), fun i hi => ?_⟩, enc_kS, (kS_ot (τ := σ') (by omega)).trans hH.1, fun j hj i hi => ?_⟩
  · rw [kS_ot (by omega), f _ (by omega)]
    exact b i hi
  · rw [kS_ot (by omega)]
    exact hH.2 j hj i hi
theorem ms.fr {a b : MW} (x : ms a b) : (b.2.1 3 = a.2.1 3 ∧ b.2.1 4 = a.2.1 4 ∧ b.2.1 5 = a.2.1 5) ∧ b.1 6 = a.1 6 ∧ b.1 14 = a.1 14 ∧ b.1 15 = a.1 15 := ⟨⟨x.2.2 3 (by decide), x.2.2 4 (by decide), x.2.2 5 (by decide)⟩, x.1 6 (by decide), x.1 14 (by decide), x.1 15 (by decide)⟩
/-- an ask -/
theorem Rel.ans (x : Rel ω μ) (y : mAns μ (wS ω) xs A r ν) : agA xs A ω r ν := by
  obtain ⟨μ', q, q4, qv, rfl⟩ := y
  refine ⟨q4, qv, ?_⟩
  obtain ⟨⟨f3, f4, f5⟩, f6, f14, f15⟩ := ms.fr q
  have k : kn μ' = kn μ := q.kk
  have z := Rel.mv (ν := mS μ' (wS ω)) x x.1.2 (by
    show stR (kS (kn μ') (wS ω)) _ _ _
    rw [k]
    exact x.1.1.f kfr.rf x.1.1.2.2) (q.ty x.2.1.1).s f3 f4 f5 f6 f14 f15
  exact z
/-- a deed -/
theorem Rel.res (x : Rel ω μ) {σ' : St} {ξ' : Hs} (hI : stI (wT ω) σ' ξ') (y : mRes μ ξ' σ' xs A r ν) : agA xs A (pS (pH ω ξ') σ') r ν := by
  obtain ⟨K', k1, k2, μ', q, q4, qv, rfl⟩ := y
  refine ⟨q4, qv, ?_⟩
  obtain ⟨⟨f3, f4, f5⟩, f6, f14, f15⟩ := ms.fr q
  have k : kn μ' = K' := q.kk
  exact Rel.mv (ν := mS μ' σ') x hI (by
    show stR (kS (kn μ') σ') _ _ _
    rw [k]
    exact x.1.1.f k1 k2) (ms.ty q (x.2.1.1.of rfl rfl rfl)).s f3 f4 f5 f6 f14 f15
/-- a tray -/
theorem Rel.tys (x : Rel ω μ) {Y' : Nat → Ty} (h1 : tysOk Y') (h2 : srtOk Y') (hω : wY ω' = Y') (ho : wTape ω' = wTape ω ∧ wI ω' = wI ω ∧ wT ω' = wT ω ∧ wS ω' = wS ω ∧ wH ω' = wH ω ∧ wG ω' = wG ω ∧ wZ ω' = wZ ω ∧ wO ω' = wO ω) (y : mTys μ (wS ω) Y' xs A r ν) : agA xs A ω' r ν := by
  obtain ⟨μ', q, q2, q4, qv, rfl⟩ := y
  refine ⟨q4, qv, ?_⟩
  have k : kn μ' = kn μ := q.kk
  obtain ⟨s1, s2, s3, s4, s5, s6, s8, s9⟩ := ho
  have e1 : tpR ω' (mS μ' (wS ω)) := by
    have := tpR.of (ν := mS μ' (wS ω)) x.2.2.2.1.1 (q.2 5 (by decide)) (q.1 6 (by decide))
    unfold tpR at *
    rw [s1, s2]
    exact this
  unfold Rel
  rw [s2, s3, s4, s5, s6, s8, s9, hω]
  refine ⟨⟨?_, x.1.2⟩, ⟨q2.s, h1, h2⟩, fun i hi => ⟨(x.2.2.1 i hi).1.of (q.2 3 (by decide)) (q.2 4 (by decide)), (x.2.2.1 i hi).2⟩, ⟨e1, (q.1 14 (by decide)).trans x.2.2.2.1.2.1, (q.1 15 (by decide)).trans x.2.2.2.1.2.2⟩, x.2.2.2.2.1, x.2.2.2.2.2⟩
  show stR (kS (kn μ') (wS ω)) _ _ _
  rw [k]
  exact x.1.1.f kfr.rf x.1.1.2.2
end TRE
