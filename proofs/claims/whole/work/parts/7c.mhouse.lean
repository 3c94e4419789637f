/-! The reference reads a whole house -/
def HG (G : Nat → Int32) (σ : St) (q : Nat) (σ' : St) (G' : Nat → Int32) : Prop := encS G' σ' ∧ (∀ z, (z = 0 ∨ (2 ≤ z ∧ z < 8) ∨ 50 ≤ z) → G' z = G z) ∧ (σ'.1 0 = nI (q + 1) ∧ σ'.1 1 = σ.1 1 ∧ σ'.1 2 = σ.1 2) ∧ ∀ r i, q + 1 ≤ i → σ'.2 r i = σ.2 r i
section MHH
variable {g : jG} {d : Nat} {h hs : jH} {m : Nat} {μ ν : MW} {i w : Int32} {b : Nat → Int32} {e n p k L D E j q : Nat} {K N : Nat → Int32} {G : Nat → Int32} {σ : St} {v u c o x y : Int32}
theorem whs : wcode 20 = 129 ∧ wcode 21 = 133 ∧ wcode 22 = 131 ∧ wcode 23 = 138 ∧ wcode 24 = 139 ∧ wcode 25 = 140 := by decide
theorem jm6 : ∀ q, q < 7 → jmin 6 (nI q) = nI q := by decide
theorem HG_home (E0 : encS G σ) (hq : q < 7) (e1 : σ.1 0 = nI q) : HG G σ q (homeZ (fgS σ q v u c o x y) q) (wrH G q v u c o x y) := by
  refine ⟨wrH_enc E0 hq, fun z hz => wrH_ot hz hq, ?_, fun r i hi => ?_⟩
  · rw [homeZ_f]
    refine ⟨?_, rfl, rfl⟩
    show σ.1 0 + 1 = _
    rw [e1, nI_1]
  · rw [homeZ_f]
    show (if i = q then _ else σ.2 r i) = σ.2 r i
    rw [if_neg (by omega)]
theorem hou_76 (t : tape μ b e) (X : TT K N n b e) (hq : q < 7) (E0 : encS (μ.2.1 2) σ) (e1 : σ.1 0 = nI q) : ∀ f r c o x y ν, n ≤ r + f → r < n → p < r → atP K N b e ν r → pd μ ν → ν.2.1 2 = μ.2.1 2 → ν.1 16 = μ.1 16 → J g mX12_readHouse (d + 7) hs (wPv h m (HX K N b e n μ p (HG (μ.2.1 2) σ q) (pgo (aFlg K N q f (fgS σ q v u c o x y) r) (fun σ' s => .inr (homeZ σ' q, s))))) 76 [(0, .ref m), (1, .int (nI q)), (2, .int v), (3, .int u), (4, .int c), (5, .int o), (6, .int x), (7, .int y), (8, .int 1)] [] (mw h m ν) := by
  obtain ⟨-, w21, w22, w23, w24, w25⟩ := whs
  intro f
  induction f with
  | zero => intro r c o x y ν hf hr; omega
  | succ f ih =>
    intro r c o x y ν hf hr hp a pdv e2 e16
    have td : ∀ {ν2}, pd ν ν2 → tape ν2 b e := fun z => pd.ta (dif.tr pdv z) t
    have a12 : ν.1 12 = 0 := a.2.2.2
    -- a number for a flag
    have num : ∀ {ν1 : MW} {k0 : Nat} {most : Nat} {hs2} (row : Nat), hs2 = hs → most < 1000 → pc ν ν1 → r + 1 < n → atP K N b e ν1 (r + 1) → (∀ c2 o2 x2 y2 z, ((row = 2 ∧ c2 = z ∧ o2 = o ∧ x2 = x) ∨ (row = 4 ∧ c2 = c ∧ o2 = z ∧ x2 = x) ∨ (row = 5 ∧ c2 = c ∧ o2 = o ∧ x2 = z)) → y2 = y → setR (fgS σ q v u c o x y) row (upd ((fgS σ q v u c o x y).2 row) q z) = fgS σ q v u c2 o2 x2 y2) := by
      intro ν1 k0 most hs2 row _ _ _ _ _ c2 o2 x2 y2 z hz hy
      subst hy
      rcases hz with ⟨rfl, rfl, rfl, rfl⟩ | ⟨rfl, rfl, rfl, rfl⟩ | ⟨rfl, rfl, rfl, rfl⟩
      · exact fgS_2
      · exact fgS_4
      · exact fgS_5
    have aF : aFlg K N q (f + 1) (fgS σ q v u c o x y) r = if K r = 140 then aFlg K N q f (setR (fgS σ q v u c o x y) 3 (upd ((fgS σ q v u c o x y).2 3) q 1)) (r + 1) else if K r = 131 ∨ K r = 138 ∨ K r = 139 then pgo (aNum K N (if K r = 139 then 20 else 999) (r + 1)) (fun v' q' => aFlg K N q f (setR (fgS σ q v u c o x y) (flRow (K r)) (upd ((fgS σ q v u c o x y).2 (flRow (K r))) q v')) q') else .inr (fgS σ q v u c o x y, r) := rfl
    rw [aF]
    refine wX12_readHouse_76 ⟨fun _ => ⟨fun z => absurd z (by decide), fun _ => ⟨_, m_took (d := d) (k := 22) (td (dif.rf ν)) X hr a (by decide) (by decide), fun r1 ν1 z => ?_⟩⟩, fun z => absurd a12 z⟩
    rw [w22] at z
    rcases z with ⟨k1, z1, z2, z3, z4⟩ | ⟨k1, z1, z2⟩
    · subst z1
      refine ⟨fun z => absurd z (by decide), fun _ => ⟨_, m_number (d := d + 3) (most := 999) (by decide) (td z2.dd) X z3 z4, fun r2 ν2 y2 => ?_⟩⟩
      rw [if_neg (by rw [k1]; decide), if_pos (Or.inl k1), if_neg (show ¬ K r = 139 by rw [k1]; decide), show flRow (K r) = 2 by rw [k1]; rfl]
      obtain ⟨y1, y3⟩ := y2
      have pd2 : pd μ ν2 := dif.tr (dif.tr pdv z2.dd) y1.dd
      change match aNum K N 999 (r + 1) with
        | .inl (k, q) => Bd K b e ν2 k q ∧ r2 = 0
        | .inr (v, q) => atP K N b e ν2 q ∧ r2 = v ∧ q = r + 1 + 1 ∧ q < n at y3
      cases hA : aNum K N 999 (r + 1) with
      | inl s =>
        rw [hA] at y3
        exact hou_bad76 y3.1.ne ⟨_, ⟨pd2, y3.1⟩, rfl⟩
      | inr s =>
        rw [hA] at y3
        obtain ⟨y4, y5, y6, y7⟩ := y3
        have y6 : s.2 = r + 1 + 1 := y6
        have y7 : s.2 < n := y7
        subst y5
        show J g mX12_readHouse (d + 7) hs (wPv h m (HX K N b e n μ p (HG (μ.2.1 2) σ q) (pgo (aFlg K N q f (setR (fgS σ q v u c o x y) 2 (upd ((fgS σ q v u c o x y).2 2) q s.1)) s.2) (fun σ' s => .inr (homeZ σ' q, s))))) 76 _ [] _
        rw [fgS_2]
        exact ih s.2 s.1 o x y ν2 (by omega) y7 (by omega) y4 pd2 ((y1.2.2 2 (by decide)).trans ((z2.2.2 2 (by decide)).trans e2)) ((y1.1 16 (by decide)).trans ((z2.1 16 (by decide)).trans e16))
    · subst z1
      subst z2
      refine ⟨fun _ => ⟨_, m_took (d := d) (k := 23) (td (dif.rf _)) X hr a (by decide) (by decide), fun r1 ν1 z => ?_⟩, fun z => absurd rfl z⟩
      rw [w23] at z
      rcases z with ⟨k2, z1, z2, z3, z4⟩ | ⟨k2, z1, z2⟩
      · subst z1
        refine ⟨fun z => absurd z (by decide), fun _ => ⟨_, m_number (d := d + 3) (most := 999) (by decide) (td z2.dd) X z3 z4, fun r2 ν2 y2 => ?_⟩⟩
        rw [if_neg (by rw [k2]; decide), if_pos (Or.inr (Or.inl k2)), if_neg (show ¬ K r = 139 by rw [k2]; decide), show flRow (K r) = 4 by rw [k2]; rfl]
        obtain ⟨y1, y3⟩ := y2
        have pd2 : pd μ ν2 := dif.tr (dif.tr pdv z2.dd) y1.dd
        change match aNum K N 999 (r + 1) with
          | .inl (k, q) => Bd K b e ν2 k q ∧ r2 = 0
          | .inr (v, q) => atP K N b e ν2 q ∧ r2 = v ∧ q = r + 1 + 1 ∧ q < n at y3
        cases hA : aNum K N 999 (r + 1) with
        | inl s =>
          rw [hA] at y3
          exact hou_bad76 y3.1.ne ⟨_, ⟨pd2, y3.1⟩, rfl⟩
        | inr s =>
          rw [hA] at y3
          obtain ⟨y4, y5, y6, y7⟩ := y3
          have y6 : s.2 = r + 1 + 1 := y6
          have y7 : s.2 < n := y7
          subst y5
          show J g mX12_readHouse (d + 7) hs (wPv h m (HX K N b e n μ p (HG (μ.2.1 2) σ q) (pgo (aFlg K N q f (setR (fgS σ q v u c o x y) 4 (upd ((fgS σ q v u c o x y).2 4) q s.1)) s.2) (fun σ' s => .inr (homeZ σ' q, s))))) 76 _ [] _
          rw [fgS_4]
          exact ih s.2 c s.1 x y ν2 (by omega) y7 (by omega) y4 pd2 ((y1.2.2 2 (by decide)).trans ((z2.2.2 2 (by decide)).trans e2)) ((y1.1 16 (by decide)).trans ((z2.1 16 (by decide)).trans e16))
      · subst z1
        subst z2
        refine ⟨fun _ => ⟨_, m_took (d := d) (k := 24) (td (dif.rf _)) X hr a (by decide) (by decide), fun r1 ν1 z => ?_⟩, fun z => absurd rfl z⟩
        rw [w24] at z
        rcases z with ⟨k3, z1, z2, z3, z4⟩ | ⟨k3, z1, z2⟩
        · subst z1
          refine ⟨fun z => absurd z (by decide), fun _ => ⟨_, m_number (d := d + 3) (most := 20) (by decide) (td z2.dd) X z3 z4, fun r2 ν2 y2 => ?_⟩⟩
          rw [if_neg (by rw [k3]; decide), if_pos (Or.inr (Or.inr k3)), if_pos k3, show flRow (K r) = 5 by rw [k3]; rfl]
          obtain ⟨y1, y3⟩ := y2
          have pd2 : pd μ ν2 := dif.tr (dif.tr pdv z2.dd) y1.dd
          change match aNum K N 20 (r + 1) with
            | .inl (k, q) => Bd K b e ν2 k q ∧ r2 = 0
            | .inr (v, q) => atP K N b e ν2 q ∧ r2 = v ∧ q = r + 1 + 1 ∧ q < n at y3
          cases hA : aNum K N 20 (r + 1) with
          | inl s =>
            rw [hA] at y3
            exact hou_bad76 y3.1.ne ⟨_, ⟨pd2, y3.1⟩, rfl⟩
          | inr s =>
            rw [hA] at y3
            obtain ⟨y4, y5, y6, y7⟩ := y3
            have y6 : s.2 = r + 1 + 1 := y6
            have y7 : s.2 < n := y7
            subst y5
            show J g mX12_readHouse (d + 7) hs (wPv h m (HX K N b e n μ p (HG (μ.2.1 2) σ q) (pgo (aFlg K N q f (setR (fgS σ q v u c o x y) 5 (upd ((fgS σ q v u c o x y).2 5) q s.1)) s.2) (fun σ' s => .inr (homeZ σ' q, s))))) 76 _ [] _
            rw [fgS_5]
            exact ih s.2 c o s.1 y ν2 (by omega) y7 (by omega) y4 pd2 ((y1.2.2 2 (by decide)).trans ((z2.2.2 2 (by decide)).trans e2)) ((y1.1 16 (by decide)).trans ((z2.1 16 (by decide)).trans e16))
        · subst z1
          subst z2
          refine ⟨fun _ => ⟨_, m_took (d := d) (k := 25) (td (dif.rf _)) X hr a (by decide) (by decide), fun r1 ν1 z => ?_⟩, fun z => absurd rfl z⟩
          rw [w25] at z
          rcases z with ⟨k4, z1, z2, z3, z4⟩ | ⟨k4, z1, z2⟩
          · subst z1
            refine ⟨fun z => absurd z (by decide), fun _ => ?_⟩
            rw [if_pos k4, fgS_3]
            exact ih (r + 1) c o x 1 ν1 (by omega) z3 (by omega) z4 (dif.tr pdv z2.dd) ((z2.2.2 2 (by decide)).trans e2) ((z2.1 16 (by decide)).trans e16)
          · subst z1
            subst z2
            refine ⟨fun _ => ?_, fun z => absurd rfl z⟩
            rw [if_neg k4, if_neg (fun z => z.elim k1 (fun z => z.elim k2 k3))]
            refine wX12_readHouse_76 ⟨fun _ => ⟨fun _ => hou_174 (d := d + 6) hq a12 ⟨_, ⟨dif.tr pdv pd_A, ⟨a, ⟨hp, hr⟩, e16⟩, ?_⟩, rfl⟩, fun z => absurd rfl z⟩, fun z => absurd a12 z⟩
            show HG _ σ q _ (wrH (_) q v u c o x y)
            rw [e2]
            exact HG_home E0 hq e1
end MHH
