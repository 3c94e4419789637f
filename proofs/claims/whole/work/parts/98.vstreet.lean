/-! A street read agrees -/
section VSR
variable {g : jG} {d : Nat} {h : jH} {m : Nat} {μ ν : MW} {ω ω' : CW} {i k n w r : Int32} {L top t q : Nat} {T : Td} {A : Ab} {K N b : Nat → Int32} {e : Nat} {G K' : Nat → Int32} {υ' : Vs} {ζ' : Zs}
theorem wq_nil {k : Nat} {ex : Ex} {c : List Int32} (h : mco k 64 c ex) (q : Nat → Int32) : mEv q c [] = some [lawV ex (wq k q)] := h.2 q [] (by simp only [List.length_nil]; omega)
theorem mlA.law {k : Nat} {o : Option Ex} (x : mlA G k o) (e4 : K' (4 + k) = G (4 + k)) (e : ∀ j, j < 900 → K' (536 + 900 * k + j) = G (536 + 900 * k + j)) : mLaw K' k (4 + k) (536 + 900 * k) (o.map lawV) := by
  cases o with
  | none => exact e4.trans x
  | some ex =>
    obtain ⟨c, c0, ⟨c1, c2, c3⟩, c4⟩ := x
    refine ⟨c, c0, ⟨e4.trans c1, c2, fun j hj => ?_⟩, fun q => wq_nil c4 q⟩
    rw [e j (by omega)]
    exact c3 j hj
theorem st_ok (x : Rel ω μ) (y : SX K N b e μ (.inr (A, q)) r ν) (hA : aOK A.2.2 ∧ (A.1.1 = 0 ∨ A.1.1 = 1)) (hz : HNum ζ') (hT : T.1 = A.1) (hL : T.2.2 = (A.2.1.1.map lawV, A.2.1.2.1.map lawV, A.2.1.2.2.map lawV)) : Rel (pH (pS (pT (pI (pI (pI (pV (pZ ω ζ') υ') 0 0) 1 0) 2 (-1)) (t, T, A.2.2)) A.2.2) (0, (wH ω).2)) ν := by
  obtain ⟨qs, ⟨-, n6⟩, -, ⟨n14, n15⟩, G, ⟨⟨⟨g0, g2⟩, g3, g7⟩, ⟨gs, -, -⟩, l0, l1, l2⟩, ek⟩ := y
  obtain ⟨B, C, D⟩ := hA.1.B
  have lo : ∀ z, z < 52 → kn ν z = G z := fun z hz => by rw [ek, if_neg (by omega), if_pos (by omega)]
  have hi : ∀ z, 96 ≤ z → z < 3240 → kn ν z = G z := fun z h1 h2 => by rw [ek, if_neg (by omega), if_pos (by omega)]
  have h0 : hN (0, (wH ω).2) = 0 := rfl
  have eS : encS (kn ν) A.2.2 := ⟨(lo 1 (by decide)).trans gs.1, (lo 50 (by decide)).trans gs.2.1, (lo 51 (by decide)).trans gs.2.2.1, fun r i hr hi => (lo _ (by omega)).trans (gs.2.2.2 r i hr hi)⟩
  refine ⟨⟨⟨⟨?_, ?_⟩, eS, (lo 7 (by decide)).trans g7, fun j hj => absurd hj (Nat.not_lt_zero j)⟩, ⟨⟨B, C⟩, D, rfl⟩, ⟨rfl, Nat.zero_le _, x.1.2.2.1.2.2⟩, fun j hj => absurd hj (Nat.not_lt_zero j), fun j hj => absurd hj (Nat.not_lt_zero j)⟩, ⟨dif.ty qs (by decide) (by decide) x.2.1.1, x.2.1.2⟩, fun i hi => ⟨(x.2.2.1 i hi).1.of (qs.2.2 3 (by decide)) (qs.2.2 4 (by decide)), (x.2.2.1 i hi).2⟩, ⟨?_, n14, n15⟩, hz, x.2.2.2.2.2⟩
  · show encT (kn ν) T
    refine ⟨?_, ⟨?_, ?_⟩, ?_, ?_, ?_, ?_⟩
    · rw [hT]; exact (lo 0 (by decide)).trans g0
    · rw [hT]; exact (lo 2 (by decide)).trans g2
    · rw [hT]; exact hA.2
    · rw [hT]; exact (lo 3 (by decide)).trans g3
    · rw [hL]; exact l0.law (k := 0) (lo 4 (by decide)) (fun j hj => hi _ (by omega) (by omega))
    · rw [hL]; exact l1.law (k := 1) (lo 5 (by decide)) (fun j hj => hi _ (by omega) (by omega))
    · rw [hL]; exact l2.law (k := 2) (lo 6 (by decide)) (fun j hj => hi _ (by omega) (by omega))
  · show encB (kn ν) A.2.2
    intro i hi
    rw [ek, if_pos (by omega), show 52 + i - 44 = 8 + i by omega]
    have e1 : kS G A.2.2 = G := kS_enc gs
    rw [← e1]
    exact kS_44 hi
  · obtain ⟨L', -, -, a4, -⟩ := x.2.2.2.1.1
    exact ⟨0, ⟨rfl, by decide⟩, n6, a4, fun j hj => absurd hj (Nat.not_lt_zero j)⟩
theorem st_bad (x : Rel ω μ) {y : Int32 × Nat} (z : SX K N b e μ (.inl y) r ν) (hz : HNum ζ') {f1 f2 : Int32} (e1 : f1 = if K y.2 = 1 then 1 else y.1) (e2 : f2 = nI (tkS b e y.2)) : Rel (pI (pI (pI (pV (pZ ω ζ') υ') 0 0) 1 f1) 2 f2) ν := by
  obtain ⟨qs, ⟨-, n6⟩, -, ⟨n14, n15⟩, ek⟩ := z
  subst e1
  subst e2
  refine ⟨⟨by rw [ek]; exact x.1.1, x.1.2⟩, ⟨dif.ty qs (by decide) (by decide) x.2.1.1, x.2.1.2⟩, fun i hi => ⟨(x.2.2.1 i hi).1.of (qs.2.2 3 (by decide)) (qs.2.2 4 (by decide)), (x.2.2.1 i hi).2⟩, ⟨?_, n14, n15⟩, hz, x.2.2.2.2.2⟩
  obtain ⟨L', -, -, a4, -⟩ := x.2.2.2.1.1
  exact ⟨0, ⟨rfl, by decide⟩, n6, a4, fun j hj => absurd hj (Nat.not_lt_zero j)⟩
/-- where the class's tokens are -/
abbrev cuZ (ω : CW) (n : Int32) : Zs := cutF (wTape ω) (ix n) (wZ ω)
def vSt (ω : CW) (n : Int32) (r : Int32) (ν : MW) : Prop := match aRead ((cuZ ω n).2 0) ((cuZ ω n).2 1) with
  | .inl y => y.2 < ix (cuZ ω n).1 → (r = -10 - (if (cuZ ω n).2 0 y.2 = 1 then 1 else y.1)) ∧ ∀ υ' ζ', HNum ζ' → Rel (pI (pI (pI (pV (pZ ω ζ') υ') 0 0) 1 (if (cuZ ω n).2 0 y.2 = 1 then 1 else y.1)) 2 ((cuZ ω n).2 2 y.2)) ν
  | .inr y => r = y.1.1.2.1 ∧ ∀ υ' ζ' t T, HNum ζ' → T.1 = y.1.1 → T.2.2 = (y.1.2.1.1.map lawV, y.1.2.1.2.1.map lawV, y.1.2.1.2.2.map lawV) → Rel (pH (pS (pT (pI (pI (pI (pV (pZ ω ζ') υ') 0 0) 1 0) 2 (-1)) (t, T, y.1.2.2)) y.1.2.2) (0, (wH ω).2)) ν
theorem v_street (x : Rel ω μ) : Con g mX12_street (d + 40) [.ref m, .int n] (mw h m μ) (wPi h m (fun r ν => ((n < 0 ∨ wI ω 0 < n) ∧ ν.1 4 = 1 ∧ Rel ω ν) ∨ ((¬ n < 0 ∧ ¬ wI ω 0 < n) ∧ ν.1 4 = 0 ∧ vSt ω n r ν))) := by
  obtain ⟨L, ⟨a1, a2⟩, a3, a4, a5⟩ := x.2.2.2.1.1
  have c0 : inN n 0 (nI L) = true ↔ (¬ n < 0 ∧ ¬ wI ω 0 < n) := by
    unfold inN
    rw [a1]
    exact decide_eq_true_iff
  have hT : inN n 0 (nI L) = true → TT ((cuZ ω n).2 0) ((cuZ ω n).2 1) (ix (cuZ ω n).1) (wTape ω) (ix n) ∧ ∀ q, q < ix (cuZ ω n).1 → (cuZ ω n).2 2 q = nI (tkS (wTape ω) (ix n) q) := fun c => by
    obtain ⟨-, -, ie⟩ := inN_nI (a := 0) (b := L) (by decide) (by omega) c
    exact cut_TT (by omega) x.2.2.2.2.1
  refine (m_street (d := d + 7) (μ := μ) (x1 := n) (K := (cuZ ω n).2 0) (N := (cuZ ω n).2 1) (n := ix (cuZ ω n).1) a4 a5 a2 a3 (fun c => (hT c).1)).pi (fun r h' z => ?_) (fun E h' f => f)
  obtain ⟨ν, z1, z2⟩ := z
  refine ⟨ν, ?_, z2⟩
  rcases z1 with ⟨c, rfl, rfl⟩ | ⟨c, y⟩
  · refine Or.inl ⟨?_, mI_at (μ := mI μ 4 0) 4 1, x⟩
    by_cases c1 : n < 0
    · exact Or.inl c1
    · by_cases c2 : wI ω 0 < n
      · exact Or.inr c2
      · rw [c0.mpr ⟨c1, c2⟩] at c
        exact Bool.noConfusion c
  · refine Or.inr ⟨c0.mp c, y.2.1.1, ?_⟩
    obtain ⟨X, P⟩ := hT c
    unfold vSt
    have hO := fun z => ok_read (K := (cuZ ω n).2 0) (N := (cuZ ω n).2 1) X.2.2 (x := z)
    revert y hO
    cases aRead ((cuZ ω n).2 0) ((cuZ ω n).2 1) with
    | inl z => exact fun y _ hq => ⟨y.2.2.1, fun υ' ζ' hz => st_bad x y hz rfl (P _ hq)⟩
    | inr z => exact fun y hO => ⟨y.2.2.1, fun υ' ζ' t T hz h1 h2 => st_ok (q := z.2) x y (hO z rfl) hz h1 h2⟩
theorem k_street {T : Td} {A : Ab} (x : KO ω top) {top' : Nat} (h' : top + 8 ≤ top') : KO (pH (pS (pT (pI (pI (pI (pV (pZ ω ζ') υ') 0 0) 1 0) 2 (-1)) (top, T, A.2.2)) A.2.2) (0, (wH ω).2)) top' := by
  have img : ∀ {τ i}, i < 3 → (wG ω i).1 = some τ → isTold ω τ := fun hi c => Or.inr ⟨_, hi, c⟩
  refine ⟨fun τ hτ => ?_, fun τ τ' h1 h2 e => ?_, fun t ht => ?_⟩
  · rcases hτ with c | ⟨i, hi, c⟩
    · rw [c]; show top < top'; omega
    · have := x.1 τ (img hi c); omega
  · rcases h1 with c1 | ⟨i, hi, c1⟩
    · rcases h2 with c2 | ⟨j, hj, c2⟩
      · rw [c1, c2]
      · have := x.1 τ' (img hj c2)
        rw [← e, c1] at this
        exact absurd this (Nat.lt_irrefl top)
    · rcases h2 with c2 | ⟨j, hj, c2⟩
      · have := x.1 τ (img hi c1)
        rw [e, c2] at this
        exact absurd this (Nat.lt_irrefl top)
      · exact x.2.1 τ τ' (img hi c1) (img hj c2) e
  · obtain ⟨T0, h1, h2, h3⟩ := x.2.2 t ht
    refine ⟨T0, by omega, h2, fun τ hτ e => ?_⟩
    rcases hτ with c | ⟨i, hi, c⟩
    · rw [c] at e
      have e : top = t := e
      omega
    · exact h3 τ (img hi c) e
end VSR
