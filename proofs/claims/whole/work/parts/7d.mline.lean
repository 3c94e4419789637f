/-! The reference reads a line -/
abbrev pe (μ ν : MW) : Prop := dif [8, 9, 10, 11, 12, 13, 16, 17, 18] [2] μ ν
/-- a law as it lies -/
def mlA (G : Nat → Int32) (k : Nat) (L : Option Ex) : Prop := match L with
  | none => G (4 + k) = 0
  | some ex => ∃ c : List Int32, 0 < c.length ∧ mCode G (4 + k) (536 + 900 * k) c ∧ mco k 64 c ex
/-- what was told lies -/
def tlA (G : Nat → Int32) (A : Ab) : Prop := ((G 0 = A.1.2.1 ∧ G 2 = A.1.1) ∧ G 3 = A.1.2.2 ∧ G 7 = 0) ∧ (encS G A.2.2 ∧ few A ∧ ∀ r i, abN A ≤ i → A.2.2.2 r i = 0) ∧ mlA G 0 A.2.1.1 ∧ mlA G 1 A.2.1.2.1 ∧ mlA G 2 A.2.1.2.2
def LX (K N : Nat → Int32) (b : Nat → Int32) (e n : Nat) (μ : MW) (p : Nat) (a : Pr Ab) (ν : MW) : Prop := pe μ ν ∧ match a with
  | .inl x => Bd K b e ν x.1 x.2
  | .inr x => (atP K N b e ν x.2 ∧ (p < x.2 ∧ x.2 < n) ∧ ν.1 16 = 0) ∧ tlA (ν.2.1 2) x.1
section MLN
variable {g : jG} {d : Nat} {h hs : jH} {m : Nat} {μ ν : MW} {i w : Int32} {b : Nat → Int32} {e n p k L D E j q : Nat} {K N : Nat → Int32} {G G' : Nat → Int32} {σ : St} {A : Ab}
theorem pd.ee (x : pd μ ν) : pe μ ν := x.up (by decide) (by decide)
theorem pe.ta (x : pe μ ν) (t : tape μ b e) : tape ν b e := ⟨⟨(x.1 7 (by decide)).trans t.1.1, t.1.2⟩, t.2.1, fun j hj => by rw [x.2.2 5 (by decide)]; exact t.2.2 j hj⟩
theorem mlA.of {L : Option Ex} (x : mlA G k L) (e : ∀ z, (z = 4 + k ∨ (536 + 900 * k ≤ z ∧ z < 536 + 900 * k + 900)) → G' z = G z) : mlA G' k L := by
  cases L with
  | none => exact (e (4 + k) (Or.inl rfl)).trans x
  | some ex =>
    obtain ⟨c, c0, ⟨c1, c2, c3⟩, c4⟩ := x
    exact ⟨c, c0, ⟨(e (4 + k) (Or.inl rfl)).trans c1, c2, fun j hj => by rw [e _ (Or.inr (by omega))]; exact c3 j hj⟩, c4⟩
/-! a house -/
theorem m_readHouse (t : tape μ b e) (X : TT K N n b e) (hp : p < n) (a : atP K N b e μ p) (c : ¬ K p = 0) (hq : q ≤ 7) (E0 : encS (μ.2.1 2) σ) (e1 : σ.1 0 = nI q) (Z : zRow σ q) : Con g mX12_readHouse (d + 8) [.ref m] (mw h m μ) (wPv h m (HX K N b e n μ p (HG (μ.2.1 2) σ q) (aHome K N σ q p))) := by
  obtain ⟨-, w21, -⟩ := whs
  have g1 : μ.2.1 2 1 = nI q := E0.1.trans e1
  have g7 : μ.2.1 2 1 = 7 ↔ q = 7 := by
    rw [g1]
    constructor
    · intro f
      have := congrArg Int32.toInt f
      rw [nI_toInt (by omega), show (7 : Int32).toInt = 7 from rfl] at this
      omega
    · intro f; rw [f]; rfl
  have bad27 : ∀ {hs} {A : Pr St} {x : Int32 × Nat} {ν : MW}, A = .inl x → pd μ ν → Bd K b e ν x.1 x.2 → J g mX12_readHouse (d + 8) hs (wPv h m (HX K N b e n μ p (HG (μ.2.1 2) σ q) A)) 27 [(0, .ref m)] [] (mw h m ν) := by
    intro hs A x ν hA h1 h2
    refine wX12_readHouse_27 ⟨_, m_number_b (d := d + 4) h2.ne, fun r ν1 z => ?_⟩
    obtain ⟨rfl, rfl⟩ := z
    refine ⟨_, m_mustWord_b (d := d) (by decide) h2.ne, fun ν2 z => ?_⟩
    subst z
    refine ⟨_, m_number_b (d := d + 4) h2.ne, fun r ν3 z => ?_⟩
    obtain ⟨rfl, rfl⟩ := z
    subst hA
    exact hou_bad76 (d := d + 7) h2.ne ⟨_, ⟨h1, h2⟩, rfl⟩
  refine con_of km_X12_readHouse.1.2.2.2.2 (Nat.le_of_ble_eq_true rfl) rfl (wX12_readHouse_0 ⟨fun f => ?_, fun f => ?_⟩)
  · have ea : aHome K N σ q p = .inl (4, p) := if_pos (g7.mp f)
    refine ⟨_, m_blames (d := d + 6) (k := 4) a (by decide), fun ν1 z => ?_⟩
    exact wX12_readHouse_16 ⟨fun f => absurd f z.2.ne, fun _ => bad27 ea z.1.dd z.2⟩
  · have hq7 : ¬ q = 7 := fun z => f (g7.mpr z)
    have ea : aHome K N σ q p = pgo (aNum K N 99 (p + 1)) (fun v q1 => if K q1 = 133 then pgo (aNum K N 99 (q1 + 1)) (fun u r => pgo (aFlg K N q 900 (setR (setR σ 0 (upd (σ.2 0) q v)) 1 (upd (σ.2 1) q u)) r) (fun σ' s => .inr (homeZ σ' q, s))) else .inl (2, q1)) := if_neg hq7
    refine wX12_readHouse_16 ⟨fun _ => ⟨_, m_goOn (d := d + 5) t X hp c a, fun ν1 z1 => ?_⟩, fun z => absurd a.2.2.2 z⟩
    have hp1 : p + 1 < n := X.nx hp c
    have t1 : tape ν1 b e := pd.ta z1.1.dd t
    refine wX12_readHouse_27 ⟨_, m_number (d := d + 4) (most := 99) (by decide) t1 X hp1 z1.2, fun r1 ν2 z2 => ?_⟩
    obtain ⟨y1, y2⟩ := z2
    have pd2 : pd μ ν2 := dif.tr z1.1.dd y1.dd
    have eg : ν1.2.1 2 1 = nI q := by rw [z1.1.2.2 2 (by decide)]; exact g1
    change match aNum K N 99 (p + 1) with
      | .inl (k, q) => Bd K b e ν2 k q ∧ r1 = 0
      | .inr (v, q) => atP K N b e ν2 q ∧ r1 = v ∧ q = p + 1 + 1 ∧ q < n at y2
    rw [eg, jm6 q (by omega)]
    cases hA : aNum K N 99 (p + 1) with
    | inl s =>
      rw [hA] at y2 ea
      have ea : aHome K N σ q p = .inl s := ea
      refine ⟨_, m_mustWord_b (d := d) (by decide) y2.1.ne, fun ν3 z => ?_⟩
      subst z
      refine ⟨_, m_number_b (d := d + 4) y2.1.ne, fun r ν4 z => ?_⟩
      obtain ⟨rfl, rfl⟩ := z
      rw [ea]
      exact hou_bad76 (d := d + 7) y2.1.ne ⟨_, ⟨pd2, y2.1⟩, rfl⟩
    | inr s =>
      rw [hA] at y2 ea
      obtain ⟨y4, y5, y6, y7⟩ := y2
      have y6 : s.2 = p + 1 + 1 := y6
      have y7 : s.2 < n := y7
      subst y5
      have t2 : tape ν2 b e := pd.ta pd2 t
      refine ⟨_, m_mustWord (d := d) (k := 21) t2 X y7 y4 (by decide) (by decide), fun ν3 z3 => ?_⟩
      rw [w21] at z3
      obtain ⟨z4, z5⟩ := z3
      have pd3 : pd μ ν3 := dif.tr pd2 z4.dd
      rcases z5 with ⟨k1, k2, k3⟩ | ⟨k1, k2⟩
      · have ea : aHome K N σ q p = pgo (aNum K N 99 (s.2 + 1)) (fun u r => pgo (aFlg K N q 900 (setR (setR σ 0 (upd (σ.2 0) q s.1)) 1 (upd (σ.2 1) q u)) r) (fun σ' s => .inr (homeZ σ' q, s))) := ea.trans (if_pos k1)
        refine ⟨_, m_number (d := d + 4) (most := 99) (by decide) (pd.ta pd3 t) X k2 k3, fun r2 ν4 z6 => ?_⟩
        obtain ⟨x1, x2⟩ := z6
        have pd4 : pd μ ν4 := dif.tr pd3 x1.dd
        change match aNum K N 99 (s.2 + 1) with
          | .inl (k, q) => Bd K b e ν4 k q ∧ r2 = 0
          | .inr (v, q) => atP K N b e ν4 q ∧ r2 = v ∧ q = s.2 + 1 + 1 ∧ q < n at x2
        cases hB : aNum K N 99 (s.2 + 1) with
        | inl s2 =>
          rw [hB] at x2 ea
          have ea : aHome K N σ q p = .inl s2 := ea
          rw [ea]
          exact hou_bad76 (d := d + 7) x2.1.ne ⟨_, ⟨pd4, x2.1⟩, rfl⟩
        | inr s2 =>
          rw [hB] at x2 ea
          obtain ⟨x4, x5, x6, x7⟩ := x2
          have x6 : s2.2 = s.2 + 1 + 1 := x6
          have x7 : s2.2 < n := x7
          subst x5
          have ea : aHome K N σ q p = pgo (aFlg K N q 900 (setR (setR σ 0 (upd (σ.2 0) q s.1)) 1 (upd (σ.2 1) q s2.1)) s2.2) (fun σ' s => .inr (homeZ σ' q, s)) := ea
          rw [ea, fgS_0 Z]
          have h9 := X.1.1.2
          exact hou_76 (d := d + 1) t X (by omega) E0 e1 900 s2.2 0 0 0 0 ν4 (by omega) x7 (by omega) x4 pd4 ((x1.2.2 2 (by decide)).trans ((z4.2.2 2 (by decide)).trans ((y1.2.2 2 (by decide)).trans (z1.1.2.2 2 (by decide))))) ((x1.1 16 (by decide)).trans ((z4.1 16 (by decide)).trans ((y1.1 16 (by decide)).trans (z1.1.1 16 (by decide)))))
      · have ea : aHome K N σ q p = .inl (2, s.2) := ea.trans (if_neg k1)
        refine ⟨_, m_number_b (d := d + 4) k2.ne, fun r ν4 z => ?_⟩
        obtain ⟨rfl, rfl⟩ := z
        rw [ea]
        exact hou_bad76 (d := d + 7) k2.ne ⟨_, ⟨pd3, k2⟩, rfl⟩
/-! the end of a line -/
theorem tl_row (x : tlA G A) : tlA (upd G 0 (G 0 + 1)) (abRow A) := by
  obtain ⟨⟨⟨a0, a2⟩, a3, a7⟩, ⟨aS, aF, aZ⟩, l0, l1, l2⟩ := x
  have f : ∀ z, ¬ z = 0 → upd G 0 (G 0 + 1) z = G z := fun z hz => if_neg hz
  refine ⟨⟨⟨?_, (f 2 (by decide)).trans a2⟩, (f 3 (by decide)).trans a3, (f 7 (by decide)).trans a7⟩, ⟨⟨(f 1 (by decide)).trans aS.1, (f 50 (by decide)).trans aS.2.1, (f 51 (by decide)).trans aS.2.2.1, fun r i hr hi => (f _ (by omega)).trans (aS.2.2.2 r i hr hi)⟩, aF, aZ⟩, l0.of (fun z hz => f z (by omega)), l1.of (fun z hz => f z (by omega)), l2.of (fun z hz => f z (by omega))⟩
  show (if (0 : Nat) = 0 then G 0 + 1 else _) = A.1.2.1 + 1
  rw [if_pos rfl, a0]
theorem m_readStop_b (a : ¬ μ.1 12 = 0) : Con g mX12_readStop (d + 4) [.ref m] (mw h m μ) (wPv h m (fun ν => ν = μ)) :=
  con_of km_X12_readStop.1.2.2.2.2 (Nat.le_of_ble_eq_true rfl) rfl (wX12_readStop_0 ⟨_, m_mustSign_b (d := d) a, fun ν z => by
    subst z
    exact ⟨fun f => absurd f a, fun _ => ⟨_, rfl, rfl⟩⟩⟩)
theorem m_readStop (t : tape μ b e) (X : TT K N n b e) (hp : p < n) (a : atP K N b e μ p) : Con g mX12_readStop (d + 4) [.ref m] (mw h m μ) (wPv h m (fun ν => pe μ ν ∧ ((K p = 59 ∧ p + 1 < n ∧ atP K N b e ν (p + 1) ∧ ν.1 16 = μ.1 16 ∧ ν.2.1 2 = upd (μ.2.1 2) 0 (μ.2.1 2 0 + 1)) ∨ (¬ K p = 59 ∧ Bd K b e ν 2 p)))) := by
  refine con_of km_X12_readStop.1.2.2.2.2 (Nat.le_of_ble_eq_true rfl) rfl (wX12_readStop_0 ⟨_, m_mustSign (d := d) (c := 59) t X hp a (by decide) (by decide) (by decide) (by decide), fun ν z => ?_⟩)
  obtain ⟨z1, z2⟩ := z
  rcases z2 with ⟨k1, k2, k3⟩ | ⟨k1, k2⟩
  · refine ⟨fun _ => ⟨_, ⟨dif.tr z1.dd.ee (dif_A (j := 2) (by decide) _), Or.inl ⟨k1, k2, k3, z1.1 16 (by decide), ?_⟩⟩, rfl⟩, fun f => absurd k3.2.2.2 f⟩
    show upd (ν.2.1 2) 0 (ν.2.1 2 0 + 1) = _
    rw [z1.2.2 2 (by decide)]
  · exact ⟨fun f => absurd f k2.ne, fun _ => ⟨_, ⟨z1.dd.ee, Or.inr ⟨k1, k2⟩⟩, rfl⟩⟩
/-! a law begins -/
theorem m_beginsLaw (hk : k < 3) (t : tape μ b e) (X : TT K N n b e) (hp : p < n) (a : atP K N b e μ p) : Con g mX12_beginsLaw (d + 4) [.ref m, .int (nI (4 + k)), .int (nI (536 + 900 * k))] (mw h m μ) (wPv h m (fun ν => pe μ ν ∧ ((K p = 58 ∧ p + 1 < n ∧ atP K N b e ν (p + 1) ∧ ν.1 16 = μ.1 16 ∧ lwS ν k 0 ∧ ν.2.1 2 = upd (μ.2.1 2) (4 + k) 0) ∨ (¬ K p = 58 ∧ Bd K b e ν 2 p)))) := by
  refine con_of km_X12_beginsLaw.1.2.2.2.2 (Nat.le_of_ble_eq_true rfl) rfl (wX12_beginsLaw_0 ⟨mk3240 (by omega), ?_⟩)
  rw [ix_nI (by omega)]
  have q0 : pe μ (mA (mI (mI μ 17 (nI (4 + k))) 18 (nI (536 + 900 * k))) 2 (upd (μ.2.1 2) (4 + k) 0)) := dif.tr (dif_I (k := 17) (by decide) _) (dif.tr (dif_I (k := 18) (by decide) _) (dif_A (j := 2) (by decide) _))
  refine ⟨_, m_mustSign (d := d) (c := 58) (μ := mA (mI (mI μ 17 (nI (4 + k))) 18 (nI (536 + 900 * k))) 2 (upd (μ.2.1 2) (4 + k) 0)) (pe.ta q0 t) X hp a (by decide) (by decide) (by decide) (by decide), fun ν z => ?_⟩
  obtain ⟨z1, z2⟩ := z
  have g2 : ν.2.1 2 = upd (μ.2.1 2) (4 + k) 0 := z1.2.2 2 (by decide)
  rcases z2 with ⟨k1, k2, k3⟩ | ⟨k1, k2⟩
  · exact ⟨_, ⟨dif.tr q0 z1.dd.ee, Or.inl ⟨k1, k2, k3, z1.1 16 (by decide), ⟨⟨z1.1 17 (by decide), z1.1 18 (by decide)⟩, by rw [g2]; exact if_pos rfl⟩, g2⟩⟩, rfl⟩
  · exact ⟨_, ⟨dif.tr q0 z1.dd.ee, Or.inr ⟨k1, k2⟩⟩, rfl⟩
end MLN
