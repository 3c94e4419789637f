/-! The reference reads a whole line -/
section MLB
variable {g : jG} {d : Nat} {h hs : jH} {m : Nat} {μ ν : MW} {i w : Int32} {b : Nat → Int32} {e n p k L D E j q : Nat} {K N : Nat → Int32} {G G' : Nat → Int32} {σ σ' : St} {A : Ab} {v : Int32}
theorem wln : wcode 26 = 144 ∧ wcode 27 = 130 ∧ wcode 28 = 141 ∧ wcode 32 = 142 ∧ wcode 33 = 143 ∧ wcode 20 = 129 := by decide
theorem tl_home (x : tlA G A) (hq : abN A < 7) (H : HG G A.2.2 (abN A) σ' G') : tlA G' (abSt A σ') := by
  obtain ⟨⟨⟨a0, a2⟩, a3, a7⟩, ⟨aS, aF, aZ⟩, l0, l1, l2⟩ := x
  obtain ⟨h1, h2, ⟨h3, -, -⟩, h4⟩ := H
  have eN : abN (abSt A σ') = abN A + 1 := by
    show ix (σ'.1 0) = _
    rw [h3]; exact ix_nI (by omega)
  refine ⟨⟨⟨(h2 0 (by omega)).trans a0, (h2 2 (by omega)).trans a2⟩, (h2 3 (by omega)).trans a3, (h2 7 (by omega)).trans a7⟩, ⟨h1, ⟨abN A + 1, by omega, h3⟩, fun r i hi => ?_⟩, l0.of (fun z hz => h2 z (by omega)), l1.of (fun z hz => h2 z (by omega)), l2.of (fun z hz => h2 z (by omega))⟩
  rw [eN] at hi
  exact (h4 r i hi).trans (aZ r i (by omega))
theorem tl_quart (x : tlA G A) : tlA (upd G 51 v) (abSt A (setI A.2.2 2 v)) := by
  obtain ⟨⟨⟨a0, a2⟩, a3, a7⟩, ⟨aS, aF, aZ⟩, l0, l1, l2⟩ := x
  have f : ∀ z, ¬ z = 51 → upd G 51 v z = G z := fun z hz => if_neg hz
  refine ⟨⟨⟨(f 0 (by decide)).trans a0, (f 2 (by decide)).trans a2⟩, (f 3 (by decide)).trans a3, (f 7 (by decide)).trans a7⟩, ⟨⟨(f 1 (by decide)).trans aS.1, (f 50 (by decide)).trans aS.2.1, if_pos rfl, fun r i hr hi => (f _ (by omega)).trans (aS.2.2.2 r i hr hi)⟩, aF, aZ⟩, l0.of (fun z hz => f z (by omega)), l1.of (fun z hz => f z (by omega)), l2.of (fun z hz => f z (by omega))⟩
theorem tl_limit (x : tlA G A) : tlA (upd G 3 v) (abLim A v) := by
  obtain ⟨⟨⟨a0, a2⟩, a3, a7⟩, ⟨aS, aF, aZ⟩, l0, l1, l2⟩ := x
  have f : ∀ z, ¬ z = 3 → upd G 3 v z = G z := fun z hz => if_neg hz
  exact ⟨⟨⟨(f 0 (by decide)).trans a0, (f 2 (by decide)).trans a2⟩, if_pos rfl, (f 7 (by decide)).trans a7⟩, ⟨⟨(f 1 (by decide)).trans aS.1, (f 50 (by decide)).trans aS.2.1, (f 51 (by decide)).trans aS.2.2.1, fun r i hr hi => (f _ (by omega)).trans (aS.2.2.2 r i hr hi)⟩, aF, aZ⟩, l0.of (fun z hz => f z (by omega)), l1.of (fun z hz => f z (by omega)), l2.of (fun z hz => f z (by omega))⟩
theorem ml_new {c : List Int32} {ex : Ex} (hc : c.length ≤ 900) (x : mco k 64 c ex) : mlA (apd (upd G (4 + k) 0) k 0 c) k (some ex) := by
  have c0 : 0 < c.length := by
    cases c with
    | nil =>
      have := x.2 (fun _ => 0) [] (by simp)
      exact absurd (Option.some.inj this) (by simp)
    | cons a r => exact Nat.succ_pos _
  refine ⟨c, c0, ⟨?_, hc, fun j hj => ?_⟩, x⟩
  · exact (if_pos rfl).trans (by rw [Nat.zero_add])
  · unfold apd
    rw [if_neg (by omega), if_pos (by omega), show 536 + 900 * k + j - (536 + 900 * k + 0) = j by omega, gD_at hj, List.getElem?_eq_getElem hj]
theorem tl_law {c : List Int32} {ex : Ex} (hk : k < 3) (x : tlA G A) (hc : c.length ≤ 900) (mc : mco k 64 c ex) : tlA (apd (upd G (4 + k) 0) k 0 c) (abLaw A k ex) := by
  obtain ⟨⟨⟨a0, a2⟩, a3, a7⟩, ⟨aS, aF, aZ⟩, l0, l1, l2⟩ := x
  have f : ∀ z, (z < 4 ∨ (6 < z ∧ z < 536)) → apd (upd G (4 + k) 0) k 0 c z = G z := fun z hz => by
    unfold apd upd
    rw [if_neg (by omega), if_neg (by omega), if_neg (by omega)]
  have fk : ∀ k', k' < 3 → ¬ k' = k → ∀ z, (z = 4 + k' ∨ (536 + 900 * k' ≤ z ∧ z < 536 + 900 * k' + 900)) → apd (upd G (4 + k) 0) k 0 c z = G z := fun k' hk' hn z hz => by
    unfold apd upd
    rw [if_neg (by omega), if_neg (by omega), if_neg (by omega)]
  have new := ml_new (G := G) hc mc
  refine ⟨⟨⟨(f 0 (by decide)).trans a0, (f 2 (by decide)).trans a2⟩, (f 3 (by decide)).trans a3, (f 7 (by decide)).trans a7⟩, ⟨⟨(f 1 (by decide)).trans aS.1, (f 50 (by decide)).trans aS.2.1, (f 51 (by decide)).trans aS.2.2.1, fun r i hr hi => (f _ (by omega)).trans (aS.2.2.2 r i hr hi)⟩, aF, aZ⟩, ?_⟩
  rcases (by omega : k = 0 ∨ k = 1 ∨ k = 2) with rfl | rfl | rfl
  · exact ⟨new, l1.of (fk 1 (by decide) (by decide)), l2.of (fk 2 (by decide) (by decide))⟩
  · exact ⟨l0.of (fk 0 (by decide) (by decide)), new, l2.of (fk 2 (by decide) (by decide))⟩
  · exact ⟨l0.of (fk 0 (by decide) (by decide)), l1.of (fk 1 (by decide) (by decide)), new⟩
/-- a line's sum or truth -/
theorem m_lawOn (hk : k < 3) (t : tape μ b e) (X : TT K N n b e) (hp : p < n) (a : atP K N b e μ p) (l : lwS μ k 0) (e16 : μ.1 16 = 0) : (k < 2 → Con g mX12_readSum (d + 31) [.ref m] (mw h m μ) (wPv h m (RX K N b e n k 64 false μ p 0 (aLaw K N k p)))) ∧ (k = 2 → Con g mX12_readTruth (d + 31) [.ref m] (mw h m μ) (wPv h m (RX K N b e n k 64 false μ p 0 (aLaw K N k p)))) := by
  refine ⟨fun h2 => ?_, fun h2 => ?_⟩
  · have ea : aLaw K N k p = aSum K N k (aParK K N k 6) p := by
      unfold aLaw
      rw [if_neg (by omega)]
    rw [ea]
    exact (sumA (g := g) (h := h) (m := m) hk X 6 (Nat.le_refl _) (d + 3) μ p 0 t hp a l (Nat.zero_le _) e16).pv (fun h' q => by
      obtain ⟨ν, q1, q2⟩ := q
      exact ⟨ν, q1.up (by decide), q2⟩) (fun E h' f => f)
  · subst h2
    have ea : aLaw K N 2 p = aTru K N 2 (aBr K N 2 6) 6 p := by
      unfold aLaw
      rw [if_pos rfl]
    rw [ea]
    exact (((truthA (g := g) (h := h) (m := m) hk X 6 (Nat.le_refl _) d).2) μ p 0 t hp a l (Nat.zero_le _) e16).pv (fun h' q => by
      obtain ⟨ν, q1, q2⟩ := q
      refine ⟨ν, ?_, q2⟩
      have q1 := q1.up (E := 64) (by decide)
      cases hh : aTru K N 2 (aBr K N 2 6) 6 p with
      | inl x => rw [hh] at q1; exact q1
      | inr x =>
        rw [hh] at q1
        obtain ⟨x1, x2, c, ⟨x3, x4⟩, x5⟩ := q1
        exact ⟨x1, x2, c, ⟨x3, fun f => absurd f (by decide)⟩, x5⟩) (fun E h' f => f)
theorem m_readLine (t : tape μ b e) (X : TT K N n b e) (hp : p < n) (a : atP K N b e μ p) (x : tlA (μ.2.1 2) A) (e16 : μ.1 16 = 0) : Con g mX12_readLine (d + 32) [.ref m] (mw h m μ) (wPv h m (LX K N b e n μ p (pgo (aLine K N A (abN A) p) (fun A' q => if K q = 59 then .inr (abRow A', q + 1) else .inl (2, q))))) := by
  obtain ⟨w26, w27, w28, w32, w33, w20⟩ := wln
  have h9 := X.1.1.2
  obtain ⟨eN, N7⟩ := few.n x.2.1.2.1
  have stop : ∀ {hs} {a1 : Pr Ab} {ν : MW}, aLine K N A (abN A) p = a1 → pe μ ν → (match a1 with
    | .inl z => Bd K b e ν z.1 z.2
    | .inr z => (atP K N b e ν z.2 ∧ (p < z.2 ∧ z.2 < n) ∧ ν.1 16 = 0) ∧ tlA (ν.2.1 2) z.1) → J g mX12_readLine (d + 32) hs (wPv h m (LX K N b e n μ p (pgo (aLine K N A (abN A) p) (fun A' q => if K q = 59 then .inr (abRow A', q + 1) else .inl (2, q))))) 147 [(0, .ref m)] [] (mw h m ν) := by
    intro hs a1 ν ha h1 h2
    rw [ha]
    cases a1 with
    | inl z =>
      refine wX12_readLine_147 ⟨_, m_readStop_b (d := d + 27) (Bd.ne h2), fun ν2 y => ?_⟩
      subst y
      exact ⟨_, ⟨h1, h2⟩, rfl⟩
    | inr z =>
      obtain ⟨⟨y1, ⟨y2, y3⟩, y4⟩, y5⟩ := h2
      refine wX12_readLine_147 ⟨_, m_readStop (d := d + 27) (pe.ta h1 t) X y3 y1, fun ν2 y => ?_⟩
      obtain ⟨y6, y7⟩ := y
      rcases y7 with ⟨k1, k2, k3, k4, k5⟩ | ⟨k1, k2⟩
      · rw [show pgo (.inr z : Pr Ab) (fun A' q => if K q = 59 then (.inr (abRow A', q + 1) : Pr Ab) else .inl (2, q)) = .inr (abRow z.1, z.2 + 1) from if_pos k1]
        refine ⟨_, ⟨dif.tr h1 y6, ⟨k3, ⟨by show p < z.2 + 1; omega, k2⟩, k4.trans y4⟩, ?_⟩, rfl⟩
        rw [k5]
        exact tl_row y5
      · rw [show pgo (.inr z : Pr Ab) (fun A' q => if K q = 59 then (.inr (abRow A', q + 1) : Pr Ab) else .inl (2, q)) = .inl (2, z.2) from if_neg k1]
        exact ⟨_, ⟨dif.tr h1 y6, k2⟩, rfl⟩
  have T : ∀ q, q < 37 → 17 ≤ q → Con g mX12_took (d + 31) [.ref m, .ref (gS g q)] (mw h m μ) (wPi h m (fun r ν => (K p = wcode q ∧ r = 1 ∧ pc μ ν ∧ p + 1 < n ∧ atP K N b e ν (p + 1)) ∨ (¬ K p = wcode q ∧ r = 0 ∧ ν = μ))) := fun q h1 h2 => m_took (d := d + 25) t X hp a h1 h2
  -- a law's line
  have law : ∀ {hs} (k : Nat), k < 3 → aLine K N A (abN A) p = aLw K N k A p → ∀ {ν1 : MW}, pc μ ν1 → p + 1 < n → atP K N b e ν1 (p + 1) → ∃ Q54 : MW → Prop, Con g mX12_beginsLaw (d + 31) [.ref m, .int (nI (4 + k)), .int (nI (536 + 900 * k))] (mw h m ν1) (wPv h m Q54) ∧ ∀ ν2, Q54 ν2 → (k < 2 → ∃ Q : MW → Prop, Con g mX12_readSum (d + 31) [.ref m] (mw h m ν2) (wPv h m Q) ∧ ∀ ν3, Q ν3 → J g mX12_readLine (d + 32) hs (wPv h m (LX K N b e n μ p (pgo (aLine K N A (abN A) p) (fun A' q => if K q = 59 then .inr (abRow A', q + 1) else .inl (2, q))))) 147 [(0, .ref m)] [] (mw h m ν3)) ∧ (k = 2 → ∃ Q : MW → Prop, Con g mX12_readTruth (d + 31) [.ref m] (mw h m ν2) (wPv h m Q) ∧ ∀ ν3, Q ν3 → J g mX12_readLine (d + 32) hs (wPv h m (LX K N b e n μ p (pgo (aLine K N A (abN A) p) (fun A' q => if K q = 59 then .inr (abRow A', q + 1) else .inl (2, q))))) 147 [(0, .ref m)] [] (mw h m ν3)) := by
    intro hs k hk ea ν1 z1 z2 z3
    refine ⟨_, m_beginsLaw (d := d + 27) hk (pd.ta z1.dd t) X z2 z3, fun ν2 y => ?_⟩
    obtain ⟨y1, y2⟩ := y
    have pe2 : pe μ ν2 := dif.tr z1.dd.ee y1
    rcases y2 with ⟨k1, k2, k3, k4, k5, k6⟩ | ⟨k1, k2⟩
    · have ea : aLine K N A (abN A) p = pgo (aLaw K N k (p + 2)) (fun e q => .inr (abLaw A k e, q)) := ea.trans (if_pos k1)
      have e0 : ν2.1 16 = 0 := k4.trans ((z1.1 16 (by decide)).trans e16)
      have C := m_lawOn (g := g) (d := d) (h := h) (m := m) hk (pe.ta pe2 t) X k2 k3 k5 e0
      have fin : ∀ ν3, RX K N b e n k 64 false ν2 (p + 2) 0 (aLaw K N k (p + 2)) ν3 → J g mX12_readLine (d + 32) hs (wPv h m (LX K N b e n μ p (pgo (aLine K N A (abN A) p) (fun A' q => if K q = 59 then .inr (abRow A', q + 1) else .inl (2, q))))) 147 [(0, .ref m)] [] (mw h m ν3) := by
        intro ν3 R
        cases hh : aLaw K N k (p + 2) with
        | inl z =>
          rw [hh] at R ea
          exact stop (a1 := .inl z) ea (dif.tr pe2 R.1.ee) R.2
        | inr z =>
          rw [hh] at R ea
          obtain ⟨r1, ⟨r2, ⟨r3, r4⟩, r5⟩, c, ⟨r6, -⟩, r7, r8⟩ := R
          refine stop (a1 := .inr (abLaw A k z.1, z.2)) ea (dif.tr pe2 r1.ee) ⟨⟨r2, ⟨by show p < z.2; omega, r4⟩, r5.trans e0⟩, ?_⟩
          rw [r8, k6, z1.2.2 2 (by decide)]
          exact tl_law hk x (by omega) r6
      exact ⟨fun h2 => ⟨_, C.1 h2, fin⟩, fun h2 => ⟨_, C.2 h2, fin⟩⟩
    · have ea : aLine K N A (abN A) p = .inl (2, p + 1) := ea.trans (if_neg k1)
      refine ⟨fun h2 => ⟨_, sumB (dd := d + 28) ν2 k2.ne, fun ν3 y => ?_⟩, fun h2 => ⟨_, truthB (dd := d + 23) ν2 k2.ne, fun ν3 y => ?_⟩⟩
      · subst y
        exact stop (a1 := .inl (2, p + 1)) ea pe2 k2
      · subst y
        exact stop (a1 := .inl (2, p + 1)) ea pe2 k2
  refine con_of km_X12_readLine.1.2.2.2.2 (Nat.le_of_ble_eq_true rfl) rfl (wX12_readLine_0 ⟨_, m_isWordP (d := d + 26) (k := 20) t X hp a (by decide) (by decide), fun f0 => ?_, fun f0 => ?_⟩)
  · have f0 := of_decide_eq_false (bI0 f0)
    rw [w20] at f0
    refine ⟨_, T 26 (by decide) (by decide), fun r ν1 z => ?_⟩
    rw [w26] at z
    rcases z with ⟨k1, z1, z2, z3, z4⟩ | ⟨n1, z1, z2⟩
    · subst z1
      have ea : aLine K N A (abN A) p = pgo (aNum K N 999 (p + 1)) (fun v q => .inr (abLim A v, q)) := by
        unfold aLine
        rw [if_neg f0, if_neg (by rw [k1]; decide), if_neg (by rw [k1]; decide), if_neg (by rw [k1]; decide), if_neg (by rw [k1]; decide), if_pos k1]
      refine ⟨fun f => absurd f (by decide), fun _ => ⟨_, m_number (d := d + 28) (most := 999) (by decide) (pd.ta z2.dd t) X z3 z4, fun r2 ν2 y => ?_⟩⟩
      obtain ⟨y1, y2⟩ := y
      have pe2 : pe μ (mA ν2 2 (upd (ν2.2.1 2) 3 r2)) := dif.tr (dif.tr z2.dd.ee y1.dd.ee) (dif_A (j := 2) (by decide) _)
      change match aNum K N 999 (p + 1) with
        | .inl (k, q) => Bd K b e ν2 k q ∧ r2 = 0
        | .inr (v, q) => atP K N b e ν2 q ∧ r2 = v ∧ q = p + 1 + 1 ∧ q < n at y2
      cases hA : aNum K N 999 (p + 1) with
      | inl s =>
        rw [hA] at y2 ea
        exact stop (a1 := .inl s) ea pe2 y2.1
      | inr s =>
        rw [hA] at y2 ea
        obtain ⟨y4, y5, y6, y7⟩ := y2
        have y6 : s.2 = p + 1 + 1 := y6
        subst y5
        refine stop (a1 := .inr (abLim A s.1, s.2)) ea pe2 ⟨⟨y4, ⟨by show p < s.2; omega, y7⟩, (y1.1 16 (by decide)).trans ((z2.1 16 (by decide)).trans e16)⟩, ?_⟩
        show tlA (upd (ν2.2.1 2) 3 s.1) _
        rw [y1.2.2 2 (by decide), z2.2.2 2 (by decide)]
        exact tl_limit x
    · subst z1
      obtain rfl := z2.symm
      refine ⟨fun _ => ⟨_, T 27 (by decide) (by decide), fun r ν1 z => ?_⟩, fun f => absurd rfl f⟩
      rw [w27] at z
      rcases z with ⟨k1, z1, z2, z3, z4⟩ | ⟨n2, z1, z2⟩
      · subst z1
        have ea : aLine K N A (abN A) p = pgo (aNum K N 999 (p + 1)) (fun v q => .inr (abSt A (setI A.2.2 2 v), q)) := by
          unfold aLine
          rw [if_neg f0, if_pos k1]
        refine ⟨fun f => absurd f (by decide), fun _ => ⟨_, m_number (d := d + 28) (most := 999) (by decide) (pd.ta z2.dd t) X z3 z4, fun r2 ν2 y => ?_⟩⟩
        obtain ⟨y1, y2⟩ := y
        have pe2 : pe μ (mA ν2 2 (upd (ν2.2.1 2) 51 r2)) := dif.tr (dif.tr z2.dd.ee y1.dd.ee) (dif_A (j := 2) (by decide) _)
        change match aNum K N 999 (p + 1) with
          | .inl (k, q) => Bd K b e ν2 k q ∧ r2 = 0
          | .inr (v, q) => atP K N b e ν2 q ∧ r2 = v ∧ q = p + 1 + 1 ∧ q < n at y2
        cases hA : aNum K N 999 (p + 1) with
        | inl s =>
          rw [hA] at y2 ea
          exact stop (a1 := .inl s) ea pe2 y2.1
        | inr s =>
          rw [hA] at y2 ea
          obtain ⟨y4, y5, y6, y7⟩ := y2
          have y6 : s.2 = p + 1 + 1 := y6
          subst y5
          refine stop (a1 := .inr (abSt A (setI A.2.2 2 s.1), s.2)) ea pe2 ⟨⟨y4, ⟨by show p < s.2; omega, y7⟩, (y1.1 16 (by decide)).trans ((z2.1 16 (by decide)).trans e16)⟩, ?_⟩
          show tlA (upd (ν2.2.1 2) 51 s.1) _
          rw [y1.2.2 2 (by decide), z2.2.2 2 (by decide)]
          exact tl_quart x
      · subst z1
        obtain rfl := z2.symm
        refine ⟨fun _ => ⟨_, T 28 (by decide) (by decide), fun r ν1 z => ?_⟩, fun f => absurd rfl f⟩
        rw [w28] at z
        rcases z with ⟨k1, z1, z2, z3, z4⟩ | ⟨n3, z1, z2⟩
        · subst z1
          refine ⟨fun f => absurd f (by decide), fun _ => ?_⟩
          obtain ⟨Q, C, F⟩ := law (hs := mw h m μ) 0 (by decide) (by unfold aLine; rw [if_neg f0, if_neg (by rw [k1]; decide), if_pos k1]) z2 z3 z4
          exact ⟨Q, C, fun ν2 y => (F ν2 y).1 (by decide)⟩
        · subst z1
          obtain rfl := z2.symm
          refine ⟨fun _ => ⟨_, T 32 (by decide) (by decide), fun r ν1 z => ?_⟩, fun f => absurd rfl f⟩
          rw [w32] at z
          rcases z with ⟨k1, z1, z2, z3, z4⟩ | ⟨n4, z1, z2⟩
          · subst z1
            refine ⟨fun f => absurd f (by decide), fun _ => ?_⟩
            obtain ⟨Q, C, F⟩ := law (hs := mw h m μ) 1 (by decide) (by unfold aLine; rw [if_neg f0, if_neg (by rw [k1]; decide), if_neg (by rw [k1]; decide), if_pos k1]) z2 z3 z4
            exact ⟨Q, C, fun ν2 y => (F ν2 y).1 (by decide)⟩
          · subst z1
            obtain rfl := z2.symm
            refine ⟨fun _ => ⟨_, T 33 (by decide) (by decide), fun r ν1 z => ?_⟩, fun f => absurd rfl f⟩
            rw [w33] at z
            rcases z with ⟨k1, z1, z2, z3, z4⟩ | ⟨n5, z1, z2⟩
            · subst z1
              refine ⟨fun f => absurd f (by decide), fun _ => ?_⟩
              obtain ⟨Q, C, F⟩ := law (hs := mw h m μ) 2 (by decide) (by unfold aLine; rw [if_neg f0, if_neg (by rw [k1]; decide), if_neg (by rw [k1]; decide), if_neg (by rw [k1]; decide), if_pos k1]) z2 z3 z4
              exact ⟨Q, C, fun ν2 y => (F ν2 y).2 rfl⟩
            · subst z1
              obtain rfl := z2.symm
              refine ⟨fun _ => ⟨_, m_blames (d := d + 30) (k := 2) a (by decide), fun ν2 y => ?_⟩, fun f => absurd rfl f⟩
              have ea : aLine K N A (abN A) p = .inl (2, p) := by
                unfold aLine
                rw [if_neg f0, if_neg n2, if_neg n3, if_neg n4, if_neg n5, if_neg n1]
              exact stop (a1 := .inl (2, p)) ea y.1.dd.ee y.2
  · have f0 := of_decide_eq_true (bI1 f0)
    rw [w20] at f0
    have fz : ¬ K p = 0 := by rw [f0]; decide
    have ea : aLine K N A (abN A) p = pgo (aHome K N A.2.2 (abN A) p) (fun σ q => .inr (abSt A σ, q)) := by
      unfold aLine
      rw [if_pos f0]
    refine ⟨_, m_readHouse (d := d + 23) (q := abN A) (σ := A.2.2) t X hp a fz N7 x.2.1.1 eN (fun r _ => x.2.1.2.2 r (abN A) (Nat.le_refl _)), fun ν2 H => ?_⟩
    obtain ⟨h1, h2⟩ := H
    cases hh : aHome K N A.2.2 (abN A) p with
    | inl s =>
      rw [hh] at h2 ea
      exact stop (a1 := .inl s) ea h1.ee h2
    | inr s =>
      rw [hh] at h2 ea
      obtain ⟨⟨y1, y2, y3⟩, y4⟩ := h2
      have N6 : abN A < 7 := by
        by_cases q : abN A = 7
        · have : aHome K N A.2.2 (abN A) p = .inl (4, p) := if_pos q
          rw [this] at hh
          cases hh
        · omega
      exact stop (a1 := .inr (abSt A s.1, s.2)) ea h1.ee ⟨⟨y1, y2, y3.trans e16⟩, tl_home x N6 y4⟩
end MLB
