/-! The class's world: one row of cells from its object on -/
abbrev Rg : Type := List (Nat × (Nat → va_E))
def pick : Rg → Nat → va_E
  | [], _ => .inr (0, [])
  | x :: L, j => if j < x.1 then x.2 j else pick L (j - x.1)
def offs : Rg → Nat → Nat
  | [], _ => 0
  | _ :: _, 0 => 0
  | x :: L, i + 1 => x.1 + offs L i
theorem pick_set {n : Nat} {c c0 : Nat → va_E} : ∀ (L : Rg) (i : Nat), L[i]? = some (n, c0) → ∀ j, pick (L.set i (n, c)) j = if offs L i ≤ j ∧ j < offs L i + n then c (j - offs L i) else pick L j := by
  intro L
  induction L with
  | nil => intro i h; simp at h
  | cons x L ih =>
    intro i h j
    cases i with
    | zero =>
      have h' : x = (n, c0) := by simpa using h
      subst h'
      show (if j < n then c j else pick L (j - n)) = if 0 ≤ j ∧ j < 0 + n then c (j - 0) else if j < n then c0 j else pick L (j - n)
      by_cases hj : j < n
      · rw [if_pos hj, if_pos ⟨Nat.zero_le _, by omega⟩, Nat.sub_zero]
      · rw [if_neg hj, if_neg (by omega), if_neg hj]
    | succ i =>
      have h' : L[i]? = some (n, c0) := by simpa using h
      show (if j < x.1 then x.2 j else pick (L.set i (n, c)) (j - x.1)) = if x.1 + offs L i ≤ j ∧ j < x.1 + offs L i + n then c (j - (x.1 + offs L i)) else if j < x.1 then x.2 j else pick L (j - x.1)
      by_cases hj : j < x.1
      · rw [if_pos hj, if_neg (by omega), if_pos hj]
      · rw [if_neg hj, ih i h' (j - x.1), if_neg hj]
        by_cases hk : offs L i ≤ j - x.1 ∧ j - x.1 < offs L i + n
        · rw [if_pos hk, if_pos (by omega), Nat.sub_sub]
        · rw [if_neg hk, if_neg (by omega)]
theorem pick_at {n : Nat} {c0 : Nat → va_E} : ∀ (L : Rg) (i : Nat), L[i]? = some (n, c0) → ∀ k, k < n → pick L (offs L i + k) = c0 k := by
  intro L
  induction L with
  | nil => intro i h; simp at h
  | cons x L ih =>
    intro i h k hk
    cases i with
    | zero =>
      have h' : x = (n, c0) := by simpa using h
      subst h'
      show (if 0 + k < n then c0 (0 + k) else _) = _
      rw [Nat.zero_add, if_pos hk]
    | succ i =>
      have h' : L[i]? = some (n, c0) := by simpa using h
      show (if x.1 + offs L i + k < x.1 then _ else pick L (x.1 + offs L i + k - x.1)) = _
      rw [if_neg (by omega), show x.1 + offs L i + k - x.1 = offs L i + k from by omega]
      exact ih i h' k hk
theorem ov_pick {h : jH} {o N n off : Nat} {L L' : Rg} {c c0 : Nat → va_E} (i : Nat) (H : L[i]? = some (n, c0)) (ho : offs L i = off) (hN : off + n ≤ N) (e : L.set i (n, c) = L') : ov (ov h o N (pick L)) (o + off) n c = ov h o N (pick L') := by
  subst e ho
  refine Prod.ext (funext fun q => ?_) rfl
  by_cases h1 : o + offs L i ≤ q ∧ q < o + offs L i + n
  · have h2 : o ≤ q ∧ q < o + N := by omega
    have h3 : offs L i ≤ q - o ∧ q - o < offs L i + n := by omega
    simp only [ov]
    rw [if_pos h1, if_pos h2, pick_set L i H, if_pos h3]
    congr 2
    omega
  · by_cases h2 : o ≤ q ∧ q < o + N
    · have h3 : ¬ (offs L i ≤ q - o ∧ q - o < offs L i + n) := by omega
      simp only [ov]
      rw [if_neg h1, if_pos h2, if_pos h2, pick_set L i H, if_neg h3]
    · simp only [ov]
      rw [if_neg h1, if_neg h2, if_neg h2]
theorem jset_ov (h : jH) (a : Nat) (e : va_E) : jset h a e = ov h a 1 (fun _ => e) := by
  refine Prod.ext (funext fun q => ?_) rfl
  by_cases h1 : q = a
  · subst h1
    simp only [jset, ov, if_true]
    rw [if_pos (by omega)]
  · simp only [jset, ov, h1, if_false]
    rw [if_neg (by omega)]
/-- a told: where it lies, what it says, its street at the start -/
abbrev To : Type := Nat × Td × St
abbrev CW : Type := (Nat → Int32) × (Nat → Int32) × Vs × Zs × To × St × Hs × (Nat → Option To × St × Hs) × (Nat → Ty) × Ks × St × Os × Ds
abbrev wTape (ω : CW) : Nat → Int32 := ω.1
/-- 0 the tape's length, 1 the fault's kind, 2 its place, 3 what is drawn -/
abbrev wI (ω : CW) : Nat → Int32 := ω.2.1
abbrev wV (ω : CW) : Vs := ω.2.2.1
abbrev wZ (ω : CW) : Zs := ω.2.2.2.1
abbrev wT (ω : CW) : To := ω.2.2.2.2.1
abbrev wS (ω : CW) : St := ω.2.2.2.2.2.1
abbrev wH (ω : CW) : Hs := ω.2.2.2.2.2.2.1
abbrev wG (ω : CW) : Nat → Option To × St × Hs := ω.2.2.2.2.2.2.2.1
abbrev wY (ω : CW) : Nat → Ty := ω.2.2.2.2.2.2.2.2.1
abbrev wK (ω : CW) : Ks := ω.2.2.2.2.2.2.2.2.2.1
abbrev wA (ω : CW) : St := ω.2.2.2.2.2.2.2.2.2.2.1
abbrev wO (ω : CW) : Os := ω.2.2.2.2.2.2.2.2.2.2.2.1
abbrev wD (ω : CW) : Ds := ω.2.2.2.2.2.2.2.2.2.2.2.2
def pTape (ω : CW) (x : Nat → Int32) : CW := (x, ω.2)
def pI (ω : CW) (k : Nat) (v : Int32) : CW := (ω.1, fun i => if i = k then v else ω.2.1 i, ω.2.2)
def pV (ω : CW) (x : Vs) : CW := (ω.1, ω.2.1, x, ω.2.2.2)
def pZ (ω : CW) (x : Zs) : CW := (ω.1, ω.2.1, ω.2.2.1, x, ω.2.2.2.2)
def pT (ω : CW) (x : To) : CW := (ω.1, ω.2.1, ω.2.2.1, ω.2.2.2.1, x, ω.2.2.2.2.2)
def pS (ω : CW) (x : St) : CW := (ω.1, ω.2.1, ω.2.2.1, ω.2.2.2.1, ω.2.2.2.2.1, x, ω.2.2.2.2.2.2)
def pH (ω : CW) (x : Hs) : CW := (ω.1, ω.2.1, ω.2.2.1, ω.2.2.2.1, ω.2.2.2.2.1, ω.2.2.2.2.2.1, x, ω.2.2.2.2.2.2.2)
def pG (ω : CW) (i : Nat) (x : Option To × St × Hs) : CW := (ω.1, ω.2.1, ω.2.2.1, ω.2.2.2.1, ω.2.2.2.2.1, ω.2.2.2.2.2.1, ω.2.2.2.2.2.2.1, fun j => if j = i then x else ω.2.2.2.2.2.2.2.1 j, ω.2.2.2.2.2.2.2.2)
def pY (ω : CW) (i : Nat) (x : Ty) : CW := (ω.1, ω.2.1, ω.2.2.1, ω.2.2.2.1, ω.2.2.2.2.1, ω.2.2.2.2.2.1, ω.2.2.2.2.2.2.1, ω.2.2.2.2.2.2.2.1, fun j => if j = i then x else ω.2.2.2.2.2.2.2.2.1 j, ω.2.2.2.2.2.2.2.2.2)
def pK (ω : CW) (x : Ks) : CW := (ω.1, ω.2.1, ω.2.2.1, ω.2.2.2.1, ω.2.2.2.2.1, ω.2.2.2.2.2.1, ω.2.2.2.2.2.2.1, ω.2.2.2.2.2.2.2.1, ω.2.2.2.2.2.2.2.2.1, x, ω.2.2.2.2.2.2.2.2.2.2)
def pA (ω : CW) (x : St) : CW := (ω.1, ω.2.1, ω.2.2.1, ω.2.2.2.1, ω.2.2.2.2.1, ω.2.2.2.2.2.1, ω.2.2.2.2.2.2.1, ω.2.2.2.2.2.2.2.1, ω.2.2.2.2.2.2.2.2.1, ω.2.2.2.2.2.2.2.2.2.1, x, ω.2.2.2.2.2.2.2.2.2.2.2)
def pO (ω : CW) (x : Os) : CW := (ω.1, ω.2.1, ω.2.2.1, ω.2.2.2.1, ω.2.2.2.2.1, ω.2.2.2.2.2.1, ω.2.2.2.2.2.2.1, ω.2.2.2.2.2.2.2.1, ω.2.2.2.2.2.2.2.2.1, ω.2.2.2.2.2.2.2.2.2.1, ω.2.2.2.2.2.2.2.2.2.2.1, x, ω.2.2.2.2.2.2.2.2.2.2.2.2)
def pD (ω : CW) (x : Ds) : CW := (ω.1, ω.2.1, ω.2.2.1, ω.2.2.2.1, ω.2.2.2.2.1, ω.2.2.2.2.2.1, ω.2.2.2.2.2.2.1, ω.2.2.2.2.2.2.2.1, ω.2.2.2.2.2.2.2.2.1, ω.2.2.2.2.2.2.2.2.2.1, ω.2.2.2.2.2.2.2.2.2.2.1, ω.2.2.2.2.2.2.2.2.2.2.2.1, x)
def wobj (o : Nat) (ω : CW) : va_E := .inr (11, [.ref (o + 1), .int (wI ω 0), .int (wI ω 1), .int (wI ω 2), .ref (o + 10), .ref (wT ω).1, .ref (o + 24), .ref (o + 31), .ref (o + 103), .ref (o + 344), .ref (o + 353), .ref (o + 376), .ref (o + 386), .int (wI ω 3)])
def tcells (g : jG) (b j : Nat) : va_E := (layTold g b).getD j (.inr (0, []))
def gobj (b : Nat) (t : Option To) : va_E := .inr (3, [oref (t.map Prod.fst), .ref (b + 1), .ref (b + 8)])
def grefs (o : Nat) : va_E := .inl (5, (3, .inr (.inr (.inr (.inr (fun j => if j < 3 then some (o + (104 + 80 * j)) else none))))))
def yrefs (o : Nat) : va_E := .inl (6, (4, .inr (.inr (.inr (.inr (fun j => if j < 4 then some (o + (345 + 2 * j)) else none))))))
def ycl (y : Nat) (θ : Ty) (j : Nat) : va_E := if j = 0 then yobj y θ else yrow θ.2.2
def regs (g : jG) (o : Nat) (ω : CW) : Rg := [(1, fun _ => wobj o ω), (1, fun _ => .inl (1, (900, .inl (wTape ω)))), (8, tcells g (o + 2)), (1, fun _ => vobj (o + 10) (wV ω)), (8, tcells g (o + 11)), (4, zcell (o + 19) (wZ ω)), (1, fun _ => rowL 900 (wV ω).2.2), (7, scell (o + 24) (wS ω)), (72, hcell (o + 31) (wH ω)), (1, fun _ => grefs o),
  (1, fun _ => gobj (o + 104) (wG ω 0).1), (7, scell (o + 105) (wG ω 0).2.1), (72, hcell (o + 112) (wG ω 0).2.2), (1, fun _ => gobj (o + 184) (wG ω 1).1), (7, scell (o + 185) (wG ω 1).2.1), (72, hcell (o + 192) (wG ω 1).2.2), (1, fun _ => gobj (o + 264) (wG ω 2).1), (7, scell (o + 265) (wG ω 2).2.1), (72, hcell (o + 272) (wG ω 2).2.2),
  (1, fun _ => yrefs o), (2, ycl (o + 345) (wY ω 0)), (2, ycl (o + 347) (wY ω 1)), (2, ycl (o + 349) (wY ω 2)), (2, ycl (o + 351) (wY ω 3)), (8, kcell (o + 353) (wK ω)), (7, scell (o + 361) (wA ω)), (8, tcells g (o + 368)), (10, ocell (o + 376) (wO ω)), (10, dcell (o + 386) (wD ω))]
def cw (g : jG) (h : jH) (o : Nat) (ω : CW) : jH := ov h o 396 (pick (regs g o ω))
def wLens : List Nat := [1, 1, 8, 1, 8, 4, 1, 7, 72, 1, 1, 7, 72, 1, 7, 72, 1, 7, 72, 1, 2, 2, 2, 2, 8, 7, 8, 10, 10]
def offN : List Nat → Nat → Nat
  | [], _ => 0
  | _ :: _, 0 => 0
  | x :: L, i + 1 => x + offN L i
theorem offs_N : ∀ (L : Rg) (i : Nat), offs L i = offN (L.map Prod.fst) i := by
  intro L
  induction L with
  | nil => intro i; rfl
  | cons x L ih =>
    intro i
    cases i with
    | zero => rfl
    | succ i => show x.1 + offs L i = x.1 + offN (L.map Prod.fst) i; rw [ih]
theorem regs_len (g : jG) (o : Nat) (ω : CW) : (regs g o ω).map Prod.fst = wLens := rfl
section CWS
variable {g : jG} {h : jH} {o : Nat} {ω : CW}
theorem cw_out {q : Nat} (hq : ¬ (o ≤ q ∧ q < o + 396)) : (cw g h o ω).1 q = h.1 q := ov_out hq
theorem cw_sz : (cw g h o ω).2 = h.2 := rfl
theorem regs_off (i : Nat) : offs (regs g o ω) i = offN wLens i := (offs_N _ i).trans (congrArg (fun L => offN L i) (regs_len g o ω))
theorem cw_at {n : Nat} {c : Nat → va_E} (i : Nat) (H : (regs g o ω)[i]? = some (n, c)) (off : Nat) (ho : offN wLens i = off) (hN : off + n ≤ 396) {k : Nat} (hk : k < n) : (cw g h o ω).1 (o + (off + k)) = some (c k) := by
  have ho' := (regs_off (g := g) (o := o) (ω := ω) i).trans ho
  subst ho'
  exact (ov_at _ _ _ _ (by omega)).trans (congrArg some (pick_at _ i H k hk))
theorem cw_upd {ω' : CW} {n : Nat} {c c0 : Nat → va_E} (i : Nat) (H : (regs g o ω)[i]? = some (n, c0)) (off : Nat) (ho : offN wLens i = off) (hN : off + n ≤ 396) (e : (regs g o ω).set i (n, c) = regs g o ω') : ov (cw g h o ω) (o + off) n c = cw g h o ω' :=
  ov_pick i H ((regs_off i).trans ho) hN e
theorem cw_o : (cw g h o ω).1 o = some (wobj o ω) := cw_at 0 rfl 0 (by decide) (by decide) (k := 0) (by decide)
theorem cw_tape : (cw g h o ω).1 (o + 1) = some (.inl (1, (900, .inl (wTape ω)))) := cw_at 1 rfl 1 (by decide) (by decide) (k := 0) (by decide)
theorem cw_gr : (cw g h o ω).1 (o + 103) = some (grefs o) := cw_at 9 rfl 103 (by decide) (by decide) (k := 0) (by decide)
theorem cw_yr : (cw g h o ω).1 (o + 344) = some (yrefs o) := cw_at 19 rfl 344 (by decide) (by decide) (k := 0) (by decide)
theorem cw_pObj (ω' : CW) (e : (regs g o ω).set 0 (1, fun _ => wobj o ω') = regs g o ω') : jset (cw g h o ω) o (wobj o ω') = cw g h o ω' := (jset_ov _ _ _).trans (cw_upd 0 rfl 0 (by decide) (by decide) e)
theorem cw_pTape (x : Nat → Int32) : jset (cw g h o ω) (o + 1) (.inl (1, (900, .inl x))) = cw g h o (pTape ω x) := (jset_ov _ _ _).trans (cw_upd 1 rfl 1 (by decide) (by decide) rfl)
theorem cw_pZ (x : Zs) : zput (cw g h o ω) (o + 19) x = cw g h o (pZ ω x) := cw_upd 5 rfl 19 (by decide) (by decide) rfl
theorem cw_pS (x : St) : sput (cw g h o ω) (o + 24) x = cw g h o (pS ω x) := cw_upd 7 rfl 24 (by decide) (by decide) rfl
theorem cw_pH (x : Hs) : hput (cw g h o ω) (o + 31) x = cw g h o (pH ω x) := cw_upd 8 rfl 31 (by decide) (by decide) rfl
theorem cw_pK (x : Ks) : kput (cw g h o ω) (o + 353) x = cw g h o (pK ω x) := cw_upd 24 rfl 353 (by decide) (by decide) rfl
theorem cw_pA (x : St) : sput (cw g h o ω) (o + 361) x = cw g h o (pA ω x) := cw_upd 25 rfl 361 (by decide) (by decide) rfl
theorem cw_pO (x : Os) : oput (cw g h o ω) (o + 376) x = cw g h o (pO ω x) := cw_upd 27 rfl 376 (by decide) (by decide) rfl
theorem cw_pD (x : Ds) : dput (cw g h o ω) (o + 386) x = cw g h o (pD ω x) := cw_upd 28 rfl 386 (by decide) (by decide) rfl
theorem cw_pY {i : Nat} (hi : i < 4) (x : Ty) : yput (cw g h o ω) (o + (345 + 2 * i)) x = cw g h o (pY ω i x) := by
  have h4 : i = 0 ∨ i = 1 ∨ i = 2 ∨ i = 3 := by omega
  rcases h4 with rfl | rfl | rfl | rfl
  · exact cw_upd 20 rfl 345 (by decide) (by decide) rfl
  · exact cw_upd 21 rfl 347 (by decide) (by decide) rfl
  · exact cw_upd 22 rfl 349 (by decide) (by decide) rfl
  · exact cw_upd 23 rfl 351 (by decide) (by decide) rfl
theorem cw_pGo {i : Nat} (hi : i < 3) (t : Option To) : jset (cw g h o ω) (o + (104 + 80 * i)) (gobj (o + (104 + 80 * i)) t) = cw g h o (pG ω i (t, (wG ω i).2)) := by
  have h3 : i = 0 ∨ i = 1 ∨ i = 2 := by omega
  rcases h3 with rfl | rfl | rfl
  · exact (jset_ov _ _ _).trans (cw_upd 10 rfl 104 (by decide) (by decide) rfl)
  · exact (jset_ov _ _ _).trans (cw_upd 13 rfl 184 (by decide) (by decide) rfl)
  · exact (jset_ov _ _ _).trans (cw_upd 16 rfl 264 (by decide) (by decide) rfl)
theorem cw_pGs {i : Nat} (hi : i < 3) (x : St) : sput (cw g h o ω) (o + (105 + 80 * i)) x = cw g h o (pG ω i ((wG ω i).1, x, (wG ω i).2.2)) := by
  have h3 : i = 0 ∨ i = 1 ∨ i = 2 := by omega
  rcases h3 with rfl | rfl | rfl
  · exact cw_upd 11 rfl 105 (by decide) (by decide) rfl
  · exact cw_upd 14 rfl 185 (by decide) (by decide) rfl
  · exact cw_upd 17 rfl 265 (by decide) (by decide) rfl
theorem cw_pGh {i : Nat} (hi : i < 3) (x : Hs) : hput (cw g h o ω) (o + (112 + 80 * i)) x = cw g h o (pG ω i ((wG ω i).1, (wG ω i).2.1, x)) := by
  have h3 : i = 0 ∨ i = 1 ∨ i = 2 := by omega
  rcases h3 with rfl | rfl | rfl
  · exact cw_upd 12 rfl 112 (by decide) (by decide) rfl
  · exact cw_upd 15 rfl 192 (by decide) (by decide) rfl
  · exact cw_upd 18 rfl 272 (by decide) (by decide) rfl
theorem cw_pV (x : Vs) : vput (cw g h o ω) (o + 10) x = cw g h o (pV ω x) := by
  unfold vput
  rw [jset_ov (cw g h o ω)]
  have h1 : ov (cw g h o ω) (o + 10) 1 (fun _ => vobj (o + 10) x) = cw g h o (ω.1, ω.2.1, (x.1, x.2.1, (wV ω).2.2), ω.2.2.2) := cw_upd 3 rfl 10 (by decide) (by decide) rfl
  rw [h1, jset_ov]
  exact cw_upd 6 rfl 23 (by decide) (by decide) rfl
/-- what a component says -/
theorem cw_S : SAt (cw g h o ω) (o + 24) (wS ω) := by
  have e : cw g h o ω = sput (cw g h o ω) (o + 24) (wS ω) := (cw_pS (ω := ω) (wS ω)).symm
  rw [e]; exact sput_SAt _ _ _
theorem cw_A : SAt (cw g h o ω) (o + 361) (wA ω) := by
  have e : cw g h o ω = sput (cw g h o ω) (o + 361) (wA ω) := (cw_pA (ω := ω) (wA ω)).symm
  rw [e]; exact sput_SAt _ _ _
/-- nothing but what lies in the world can differ -/
theorem cw_same {ω' : CW} {q : Nat} (hq : q < o ∨ (o + 2 ≤ q ∧ q < o + 10) ∨ o + 396 ≤ q) : (cw g h o ω').1 q = (cw g h o ω).1 q := by
  rcases hq with hq | hq | hq
  · rw [cw_out (by omega), cw_out (by omega)]
  · obtain ⟨k, rfl⟩ : ∃ k, q = o + (2 + k) := ⟨q - (o + 2), by omega⟩
    exact (cw_at (c := tcells g (o + 2)) 2 rfl 2 (by decide) (by decide) (by omega)).trans (cw_at (c := tcells g (o + 2)) 2 rfl 2 (by decide) (by decide) (by omega)).symm
  · rw [cw_out (by omega), cw_out (by omega)]
end CWS
