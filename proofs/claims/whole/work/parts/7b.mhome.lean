/-! The reference reads a house -/
/-- a house as it is told so far -/
def fgS (σ : St) (q : Nat) (v u c o x y : Int32) : St := (σ.1, fun r i => if i = q then (if r = 0 then v else if r = 1 then u else if r = 2 then c else if r = 3 then y else if r = 4 then o else if r = 5 then x else σ.2 r i) else σ.2 r i)
/-- the number of a house's flags' rows -/
def zRow (σ : St) (q : Nat) : Prop := ∀ r, r < 6 → σ.2 r q = 0
def wrH (G : Nat → Int32) (q : Nat) (v u c o x y : Int32) : Nat → Int32 := fun z => if z = 1 then G 1 + 1 else if z = 43 + q then x else if z = 36 + q then o else if z = 29 + q then y else if z = 22 + q then (if y = 1 then 0 else c) else if z = 15 + q then u else if z = 8 + q then v else G z
/-- what a reading of a house leaves -/
def HX (K N : Nat → Int32) (b : Nat → Int32) (e n : Nat) (μ : MW) (p : Nat) (G : St → (Nat → Int32) → Prop) (a : Pr St) (ν : MW) : Prop := pd μ ν ∧ match a with
  | .inl x => Bd K b e ν x.1 x.2
  | .inr x => (atP K N b e ν x.2 ∧ (p < x.2 ∧ x.2 < n) ∧ ν.1 16 = μ.1 16) ∧ G x.1 (ν.2.1 2)
section MHM
variable {g : jG} {d : Nat} {h hs : jH} {m : Nat} {μ ν : MW} {i w : Int32} {b : Nat → Int32} {e n p k L D E j q : Nat} {K N : Nat → Int32} {G : Nat → Int32} {σ : St} {v u c o x y : Int32}
theorem fgS_0 (Z : zRow σ q) : setR (setR σ 0 (upd (σ.2 0) q v)) 1 (upd (σ.2 1) q u) = fgS σ q v u 0 0 0 0 := by
  refine Prod.ext rfl (funext fun r => funext fun i => ?_)
  show (if r = 1 then upd (σ.2 1) q u else if r = 0 then upd (σ.2 0) q v else σ.2 r) i = (if i = q then _ else _)
  by_cases ci : i = q
  · subst ci
    rw [if_pos rfl]
    by_cases c1 : r = 1
    · subst c1
      rw [if_pos rfl, if_neg (by decide), if_pos rfl]
      exact if_pos rfl
    · rw [if_neg c1]
      by_cases c0 : r = 0
      · subst c0
        rw [if_pos rfl, if_pos rfl]
        exact if_pos rfl
      · rw [if_neg c0, if_neg c0, if_neg c1]
        by_cases c2 : r = 2
        · rw [if_pos c2, c2]; exact Z 2 (by decide)
        · rw [if_neg c2]
          by_cases c3 : r = 3
          · rw [if_pos c3, c3]; exact Z 3 (by decide)
          · rw [if_neg c3]
            by_cases c4 : r = 4
            · rw [if_pos c4, c4]; exact Z 4 (by decide)
            · rw [if_neg c4]
              by_cases c5 : r = 5
              · rw [if_pos c5, c5]; exact Z 5 (by decide)
              · rw [if_neg c5]
  · rw [if_neg ci]
    by_cases c1 : r = 1
    · subst c1
      rw [if_pos rfl]
      exact if_neg ci
    · rw [if_neg c1]
      by_cases c0 : r = 0
      · subst c0
        rw [if_pos rfl]
        exact if_neg ci
      · rw [if_neg c0]
theorem fgS_r {r' : Nat} {z : Int32} {τ : St} (e1 : τ.1 = σ.1) (e2 : ∀ r i, τ.2 r i = if i = q ∧ r = r' then z else (fgS σ q v u c o x y).2 r i) : setR (fgS σ q v u c o x y) r' (upd ((fgS σ q v u c o x y).2 r') q z) = τ := by
  refine Prod.ext e1.symm (funext fun r => funext fun i => ?_)
  rw [e2]
  show (if r = r' then upd _ q z else _) i = _
  by_cases cr : r = r'
  · subst cr
    rw [if_pos rfl]
    unfold upd
    by_cases ci : i = q
    · rw [if_pos ci, if_pos ⟨ci, rfl⟩]
    · rw [if_neg ci, if_neg (fun f => ci f.1)]
  · rw [if_neg cr, if_neg (fun f => cr f.2)]
theorem fgS_2 {z : Int32} : setR (fgS σ q v u c o x y) 2 (upd ((fgS σ q v u c o x y).2 2) q z) = fgS σ q v u z o x y := fgS_r rfl (fun r i => by
  unfold fgS
  by_cases ci : i = q <;> by_cases cr : r = 2
  · subst cr; simp [ci]
  · simp [ci, cr]
  · simp [ci]
  · simp [ci])
theorem fgS_3 {z : Int32} : setR (fgS σ q v u c o x y) 3 (upd ((fgS σ q v u c o x y).2 3) q z) = fgS σ q v u c o x z := fgS_r rfl (fun r i => by
  unfold fgS
  by_cases ci : i = q <;> by_cases cr : r = 3
  · subst cr; simp [ci]
  · simp [ci, cr]
  · simp [ci]
  · simp [ci])
theorem fgS_4 {z : Int32} : setR (fgS σ q v u c o x y) 4 (upd ((fgS σ q v u c o x y).2 4) q z) = fgS σ q v u c z x y := fgS_r rfl (fun r i => by
  unfold fgS
  by_cases ci : i = q <;> by_cases cr : r = 4
  · subst cr; simp [ci]
  · simp [ci, cr]
  · simp [ci]
  · simp [ci])
theorem fgS_5 {z : Int32} : setR (fgS σ q v u c o x y) 5 (upd ((fgS σ q v u c o x y).2 5) q z) = fgS σ q v u c o z y := fgS_r rfl (fun r i => by
  unfold fgS
  by_cases ci : i = q <;> by_cases cr : r = 5
  · subst cr; simp [ci]
  · simp [ci, cr]
  · simp [ci]
  · simp [ci])
theorem homeZ_f : homeZ (fgS σ q v u c o x y) q = setI (fgS σ q v u (if y = 1 then 0 else c) o x y) 0 (σ.1 0 + 1) := by
  unfold homeZ
  have e3 : (fgS σ q v u c o x y).2 3 q = y := by unfold fgS; simp
  rw [e3]
  by_cases c1 : y = 1
  · rw [if_pos c1, if_pos c1, fgS_2]
    rfl
  · rw [if_neg c1, if_neg c1]
    rfl
theorem wrH_enc (E0 : encS G σ) (hq : q < 7) : encS (wrH G q v u c o x y) (homeZ (fgS σ q v u c o x y) q) := by
  obtain ⟨e1, e50, e51, er⟩ := E0
  rw [homeZ_f]
  refine ⟨?_, ?_, ?_, fun r i hr hi => ?_⟩
  · show wrH G q v u c o x y 1 = σ.1 0 + 1
    unfold wrH
    rw [if_pos rfl, e1]
  · unfold wrH
    rw [if_neg (by omega), if_neg (by omega), if_neg (by omega), if_neg (by omega), if_neg (by omega), if_neg (by omega), if_neg (by omega), e50]
    rfl
  · unfold wrH
    rw [if_neg (by omega), if_neg (by omega), if_neg (by omega), if_neg (by omega), if_neg (by omega), if_neg (by omega), if_neg (by omega), e51]
    rfl
  · show wrH G q v u c o x y (8 + (7 * r + i)) = (if i = q then (if r = 0 then v else if r = 1 then u else if r = 2 then (if y = 1 then 0 else c) else if r = 3 then y else if r = 4 then o else if r = 5 then x else σ.2 r i) else σ.2 r i)
    unfold wrH
    by_cases ci : i = q
    · subst ci
      rw [if_pos rfl, if_neg (by omega)]
      rcases (by omega : r = 0 ∨ r = 1 ∨ r = 2 ∨ r = 3 ∨ r = 4 ∨ r = 5) with rfl | rfl | rfl | rfl | rfl | rfl
      · rw [if_neg (by omega), if_neg (by omega), if_neg (by omega), if_neg (by omega), if_neg (by omega), if_pos (by omega), if_pos rfl]
      · rw [if_neg (by omega), if_neg (by omega), if_neg (by omega), if_neg (by omega), if_pos (by omega), if_neg (by decide), if_pos rfl]
      · rw [if_neg (by omega), if_neg (by omega), if_neg (by omega), if_pos (by omega)]
        rfl
      · rw [if_neg (by omega), if_neg (by omega), if_pos (by omega), if_neg (by decide), if_neg (by decide), if_neg (by decide), if_pos rfl]
      · rw [if_neg (by omega), if_pos (by omega), if_neg (by decide), if_neg (by decide), if_neg (by decide), if_neg (by decide), if_pos rfl]
      · rw [if_pos (by omega), if_neg (by decide), if_neg (by decide), if_neg (by decide), if_neg (by decide), if_neg (by decide), if_pos rfl]
    · rw [if_neg ci, if_neg (by omega), if_neg (by omega), if_neg (by omega), if_neg (by omega), if_neg (by omega), if_neg (by omega), if_neg (by omega)]
      exact er r i hr hi
theorem wrH_ot {z : Nat} (hz : z = 0 ∨ (2 ≤ z ∧ z < 8) ∨ 50 ≤ z) (hq : q < 7) : wrH G q v u c o x y z = G z := by
  unfold wrH
  rw [if_neg (by omega), if_neg (by omega), if_neg (by omega), if_neg (by omega), if_neg (by omega), if_neg (by omega), if_neg (by omega)]
/-! the house is laid -/
theorem hou_174 {P : jO → jH → Prop} (hq : q < 7) (a : μ.1 12 = 0) (next : P (.inl none) (mw h m (mA μ 2 (wrH (μ.2.1 2) q v u c o x y)))) : J g mX12_readHouse (d + 1) hs P 174 [(0, .ref m), (1, .int (nI q)), (2, .int v), (3, .int u), (4, .int c), (5, .int o), (6, .int x), (7, .int y)] [] (mw h m μ) := by
  have e8 : ix ((8 : Int32) + nI q) = 8 + q := kx (b := 8) (by omega)
  have e15 : ix ((15 : Int32) + nI q) = 15 + q := kx (b := 15) (by omega)
  have e29 : ix ((29 : Int32) + nI q) = 29 + q := kx (b := 29) (by omega)
  have e36 : ix ((36 : Int32) + nI q) = 36 + q := kx (b := 36) (by omega)
  have e43 : ix ((43 : Int32) + nI q) = 43 + q := kx (b := 43) (by omega)
  have e22 : ix ((22 : Int32) + nI q) = 22 + q := kx (b := 22) (by omega)
  have last : ∀ s, s = (if y = 1 then 0 else c) → J g mX12_readHouse (d + 1) hs P 222 [(0, .ref m), (1, .int (nI q)), (5, .int o), (6, .int x), (7, .int y)] [.int s, .int (22 + nI q), .ref (m + 2)] (mw h m (mA μ 2 (upd (upd (μ.2.1 2) (8 + q) v) (15 + q) u))) := by
    intro s hs2
    subst hs2
    refine wX12_readHouse_222 ⟨kin (b := 22) (by omega), kin (b := 29) (by omega), kin (b := 36) (by omega), kin (b := 43) (by omega), ?_⟩
    rw [e22, e29, e36, e43, mA_mA, mA_mA, mA_mA, mA_mA, mA_mA]
    have ef : upd (upd (upd (upd (upd (upd (upd (μ.2.1 2) (8 + q) v) (15 + q) u) (22 + q) (if y = 1 then 0 else c)) (29 + q) y) (36 + q) o) (43 + q) x) 1 (upd (upd (upd (upd (upd (upd (μ.2.1 2) (8 + q) v) (15 + q) u) (22 + q) (if y = 1 then 0 else c)) (29 + q) y) (36 + q) o) (43 + q) x 1 + 1) = wrH (μ.2.1 2) q v u c o x y := by
      funext z
      have e1 : upd (upd (upd (upd (upd (upd (μ.2.1 2) (8 + q) v) (15 + q) u) (22 + q) (if y = 1 then 0 else c)) (29 + q) y) (36 + q) o) (43 + q) x 1 = μ.2.1 2 1 := by
        show (if (1 : Nat) = 43 + q then x else if (1 : Nat) = 36 + q then o else if (1 : Nat) = 29 + q then y else if (1 : Nat) = 22 + q then (if y = 1 then 0 else c) else if (1 : Nat) = 15 + q then u else if (1 : Nat) = 8 + q then v else μ.2.1 2 1) = _
        rw [if_neg (by omega), if_neg (by omega), if_neg (by omega), if_neg (by omega), if_neg (by omega), if_neg (by omega)]
      rw [e1]
      rfl
    have z := next
    rw [← ef] at z
    exact z
  refine wX12_readHouse_174 ⟨fun _ => ⟨kin (b := 8) (by omega), kin (b := 15) (by omega), fun f => ?_, fun f => ?_⟩, fun f => absurd a f⟩
  · rw [e8, e15, mA_mA]
    exact last 0 (if_pos f).symm
  · rw [e8, e15, mA_mA]
    exact last c (if_neg f).symm
theorem hou_bad {P : jO → jH → Prop} {x1 : Int32} (a : ¬ μ.1 12 = 0) (next : P (.inl none) (mw h m μ)) : J g mX12_readHouse (d + 1) hs P 174 [(0, .ref m), (1, .int x1), (2, .int v), (3, .int u), (4, .int c), (5, .int o), (6, .int x), (7, .int y)] [] (mw h m μ) :=
  wX12_readHouse_174 ⟨fun f => absurd f a, fun _ => next⟩
theorem hou_bad76 {P : jO → jH → Prop} {x1 x8 : Int32} (a : ¬ μ.1 12 = 0) (next : P (.inl none) (mw h m μ)) : J g mX12_readHouse (d + 1) hs P 76 [(0, .ref m), (1, .int x1), (2, .int v), (3, .int u), (4, .int c), (5, .int o), (6, .int x), (7, .int y), (8, .int x8)] [] (mw h m μ) :=
  wX12_readHouse_76 ⟨fun f => absurd f a, fun _ => hou_bad a next⟩
end MHM
