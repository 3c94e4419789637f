/-! The law's world: the class's object at o, the reference's at o + 396, the long array at o + 414 -/
abbrev outc (f : Nat → Int64) : va_E := .inl (3, (1, .inr (.inl f)))
def lh (g : jG) (H : jH) (o : Nat) (ω : CW) (μ : MW) : jH := cw g (mw H (o + 396) μ) o ω
/-- what lies below -/
def HB (g : jG) (L : Nat) (xs : Nat → Int32) (o : Nat) (H : jH) : Prop := H.1 g.2.2.1 = some (.inl (11, (L, .inl xs))) ∧ LawAt H g.2.2.2.2.2.2 0 none ∧ (∃ f, H.1 (o + 414) = some (outc f)) ∧ (g.2.2.1 < o ∧ g.2.2.2.2.2.2 < o) ∧ o + 415 ≤ H.2.1
/-- a told lies there, whatever else changes -/
def TOK (g : jG) (o : Nat) (H : jH) (τ : To) : Prop := ∀ (H' : jH) (ω' : CW), (∀ q, q < H.2.1 → ¬ (o ≤ q ∧ q < o + 415) → H'.1 q = H.1 q) → toAt (cw g H' o ω') o τ
def HXt (o : Nat) (H H1 : jH) : Prop := (∀ q, q < H.2.1 → ¬ (o ≤ q ∧ q < o + 415) → H1.1 q = H.1 q) ∧ (H.2.1 ≤ H1.2.1 ∧ H1.2.1 ≤ H.2.1 + 309) ∧ H.2.2 ≤ H1.2.2 ∧ H1.2.2 ≤ H.2.2 + 959
def LI (g : jG) (L : Nat) (xs : Nat → Int32) (o j : Nat) (H : jH) (ω : CW) (μ : MW) : Prop := HB g L xs o H ∧ Rel ω μ ∧ (KO ω H.2.1 ∧ ∀ τ, isTold ω τ → TOK g o H τ) ∧ (H.2.1 ≤ jB0 g + 415 + 309 * j ∧ H.2.2 ≤ 36000 + 959 * j) ∧ j < 512
/-- what a call of the class leaves, told by the law's own method: which exception (0: none), and the answer in the long array -/
def CR {α : Type} (g : jG) (L : Nat) (xs : Nat → Int32) (o : Nat) (H : jH) (μ : MW) (es : List String) (D : α → jH → Prop) (Z : An α → CW → Prop) : Int32 → jH → Prop := fun k h' => ∃ A ω', Z A ω' ∧ k = cod es A ∧ ∃ H1 ω1, scr ω' ω1 ∧ HXt o H H1 ∧ HB g L xs o H1 ∧ h' = lh g H1 o ω1 μ ∧ ∀ v, A = .inr v → D v H1
def outD {α : Type} (o : Nat) (conv : α → Int64) : α → jH → Prop := fun v H1 => ∃ f, H1.1 (o + 414) = some (outc f) ∧ f 0 = conv v
section LWD
variable {g : jG} {H H1 H2 h' : jH} {o L j q : Nat} {xs : Nat → Int32} {ω ω' : CW} {μ ν : MW} {τ : To} {α : Type} {es : List String} {k : Int32}
theorem lh_m : lh g H o ω μ = mw (cw g H o ω) (o + 396) μ := ov_comm (Or.inr (Nat.le_refl _))
theorem lh_out (hq : q < o ∨ o + 414 ≤ q) : (lh g H o ω μ).1 q = H.1 q := (cw_out (by omega)).trans (ov_out (by omega))
theorem lh_set (hq : q < o ∨ o + 414 ≤ q) (e : va_E) : jset (lh g H o ω μ) q e = lh g (jset H q e) o ω μ :=
  (ov_jset (by omega) e).trans (congrArg (fun h => cw g h o ω) (ov_jset (by omega) e))
theorem HXt.rf : HXt o H H := ⟨fun _ _ _ => rfl, ⟨Nat.le_refl _, Nat.le_add_right _ _⟩, Nat.le_refl _, Nat.le_add_right _ _⟩
theorem TOK.ext (T : TOK g o H τ) (x : HXt o H H1) : TOK g o H1 τ := fun H' ω' e => T H' ω' (fun q h1 h2 => (e q (by have := x.2.1.1; omega) h2).trans (x.1 q h1 h2))
theorem TOK.at (T : TOK g o H τ) : toAt (cw g (mw H (o + 396) μ) o ω) o τ := T _ _ (fun q _ h2 => ov_out (by omega))
theorem HB.ext (B : HB g L xs o H) (x : HXt o H H1) {f : Nat → Int64} (e : H1.1 (o + 414) = some (outc f)) : HB g L xs o H1 := by
  obtain ⟨b1, b2, b3, b4, b5⟩ := B
  have h1 := x.2.1.1
  exact ⟨(x.1 _ (by omega) (by omega)).trans b1, LawAt.of (L := none) b2 (x.1 _ (by omega) (by omega)), ⟨f, e⟩, b4, by omega⟩
theorem HXt.set {e : va_E} : HXt o H (jset H (o + 414) e) := ⟨fun q h1 h2 => jset_ne (by omega), ⟨Nat.le_refl _, Nat.le_add_right _ _⟩, Nat.le_refl _, Nat.le_add_right _ _⟩
theorem HXt.grow {n : Nat} (h1 : H.2.1 ≤ n) (h2 : n ≤ H.2.1 + 1) : HXt o H (H.1, n, H.2.2 + 6) := ⟨fun q _ _ => rfl, ⟨h1, by show n ≤ _; omega⟩, by show H.2.2 ≤ H.2.2 + 6; omega, by show H.2.2 + 6 ≤ H.2.2 + 959; omega⟩
set_option maxRecDepth 20000 in
theorem LI.Rm (I : LI g L xs o j H ω μ) {ν : MW} : jroom g (mw H (o + 396) ν) 1 6 := by
  obtain ⟨-, -, -, ⟨h1, h2⟩, h3⟩ := I
  exact ⟨by show H.2.1 + 1 ≤ _; omega, by show H.2.2 + 6 ≤ _; omega⟩
theorem LI.So (I : LI g L xs o j H ω μ) : sok (wS ω) := I.2.1.1.2.1.1.1.1
theorem LI.Ho (I : LI g L xs o j H ω μ) : hok (wH ω) := I.2.1.1.2.2.1
theorem LI.Tk (I : LI g L xs o j H ω μ) {ν : MW} : toAt (cw g (mw H (o + 396) ν) o ω) o (wT ω) := (I.2.2.1.2 _ (Or.inl rfl)).at
theorem LI.Ys (I : LI g L xs o j H ω μ) : trs ω := I.2.1.2.1.2.1
theorem LI.Hb (I : LI g L xs o j H ω μ) : (wT ω).2.2.1 0 = (wS ω).1 0 := I.2.1.1.2.1.2.2
theorem LI.P7 (I : LI g L xs o j H ω μ) : p7 (wO ω).2.2.2.1 := I.2.1.2.2.2.2.2
theorem LI.Gh (I : LI g L xs o j H ω μ) : ∀ i, i < 3 → hok (wG ω i).2.2 := fun i hi => (I.2.1.2.2.1 i hi).2
/-- the long array is there after a call -/
theorem fin_out (B : HB g L xs o H) {ω0 : CW} {h' : jH} (f : fin g (mw H (o + 396) μ) o ω0 h') : ∃ f : Nat → Int64, h'.1 (o + 414) = some (.inl (3, (1, .inr (.inl f)))) := by
  obtain ⟨ω1, -, rfl⟩ := f
  obtain ⟨f, e⟩ := B.2.2.1
  exact ⟨f, (lh_out (g := g) (H := H) (ω := ω1) (μ := μ) (Or.inr (Nat.le_refl _))).trans e⟩
theorem fin_lh {n s : Nat} {ω0 : CW} (f : fin g ((mw H (o + 396) μ).1, n, s) o ω0 h') : ∃ ω1, scr ω0 ω1 ∧ h' = lh g (H.1, n, s) o ω1 μ := f
/-- one answer, one world -/
def one {α : Type} (R : An α × CW) : An α → CW → Prop := fun A ω' => A = R.1 ∧ ω' = R.2
theorem cr_of {conv : α → Int64} {R : An α × CW} (B : HB g L xs o H) (y : wrQ es (o + 414) conv (fun r h' => R.1 = .inr r ∧ fin g (mw H (o + 396) μ) o R.2 h') (ansX g (mw H (o + 396) μ) o R) k h') : CR g L xs o H μ es (outD o conv) (one R) k h' := by
  rcases y with ⟨rfl, v, h1, ⟨e, ω1, s, rfl⟩, f, ef, rfl⟩ | ⟨E, ⟨e, n, n1, n2, f⟩, rfl⟩
  · have e1 := jset_at H (o + 414) (outc (vp_updL f 0 (conv v)))
    refine ⟨_, _, ⟨rfl, rfl⟩, by rw [e]; rfl, _, ω1, s, HXt.set, B.ext HXt.set e1, lh_set (Or.inr (Nat.le_refl _)) _, fun v' hv => ⟨_, e1, ?_⟩⟩
    rw [Sum.inr.inj (hv.symm.trans e)]
    exact if_pos rfl
  · obtain ⟨ω1, s, rfl⟩ := fin_lh f
    obtain ⟨f0, e0⟩ := B.2.2.1
    have X : HXt o H (H.1, n, H.2.2 + 6) := HXt.grow n1 n2
    exact ⟨_, _, ⟨rfl, rfl⟩, by rw [e]; rfl, _, ω1, s, X, B.ext X e0, rfl, fun v hv => by rw [e] at hv; cases hv⟩
theorem cr_ofV {R : An Unit × CW} (B : HB g L xs o H) (y : wrV es (fun h' => R.1 = .inr () ∧ fin g (mw H (o + 396) μ) o R.2 h') (ansX g (mw H (o + 396) μ) o R) k h') : CR g L xs o H μ es (fun _ _ => True) (one R) k h' := by
  obtain ⟨f0, e0⟩ := B.2.2.1
  rcases y with ⟨rfl, e, ω1, s, rfl⟩ | ⟨E, ⟨e, n, n1, n2, f⟩, rfl⟩
  · exact ⟨_, _, ⟨rfl, rfl⟩, by rw [e]; rfl, _, ω1, s, HXt.rf, B, rfl, fun _ _ => trivial⟩
  · obtain ⟨ω1, s, rfl⟩ := fin_lh f
    have X : HXt o H (H.1, n, H.2.2 + 6) := HXt.grow n1 n2
    exact ⟨_, _, ⟨rfl, rfl⟩, by rw [e]; rfl, _, ω1, s, X, B.ext X e0, rfl, fun _ _ => trivial⟩
/-- a call without a handler -/
theorem cr_ofN {R : An α × CW} {v : α} (B : HB g L xs o H) (y : R.1 = .inr v ∧ fin g (mw H (o + 396) μ) o R.2 h') : ∃ ω1, scr R.2 ω1 ∧ h' = lh g H o ω1 μ := fin_lh (n := H.2.1) (s := H.2.2) y.2
/-- what is told, kept told and searched stays -/
def kpx (ω ω' : CW) : Prop := (∀ top, KO ω top → KO ω' top) ∧ ∀ τ, isTold ω' τ → isTold ω τ
theorem kpx.rf : kpx ω ω := ⟨fun _ h => h, fun _ h => h⟩
theorem kpx.tr {a b c : CW} (x : kpx a b) (y : kpx b c) : kpx a c := ⟨fun t h => y.1 t (x.1 t h), fun t h => x.2 t (y.2 t h)⟩
theorem kpx.of (eT : wT ω' = wT ω) (eG : wG ω' = wG ω) (eO : wO ω' = wO ω) : kpx ω ω' := by
  refine ⟨fun t h => h.like eT (fun i _ => by rw [eG]) eO, fun τ h => ?_⟩
  rcases h with h | ⟨i, hi, h⟩
  · exact Or.inl (h.trans eT)
  · exact Or.inr ⟨i, hi, by rw [← eG]; exact h⟩
theorem kpx.scr (s : scr ω ω') : kpx ω ω' := kpx.of s.2.2.1 s.2.2.2.2.2.1 s.2.2.2.2.2.2.2.2
/-- the state behind n calls -/
def LNx (g : jG) (L : Nat) (xs : Nat → Int32) (o n : Nat) (H : jH) (ω : CW) (μ : MW) : Prop := HB g L xs o H ∧ Rel ω μ ∧ (KO ω H.2.1 ∧ ∀ τ, isTold ω τ → TOK g o H τ) ∧ H.2.1 ≤ jB0 g + 415 + 309 * n ∧ H.2.2 ≤ 36000 + 959 * n
theorem LNx.go (x : LNx g L xs o j H ω μ) (h : j < 512) : LI g L xs o j H ω μ := ⟨x.1, x.2.1, x.2.2.1, x.2.2.2, h⟩
set_option maxRecDepth 20000 in
theorem LI.next (I : LI g L xs o j H ω μ) (K : KO ω' H.2.1) (T : ∀ τ, isTold ω' τ → isTold ω τ) (x : HXt o H H1) (B : HB g L xs o H1) {ω1 : CW} (s : scr ω' ω1) (R : Rel ω' ν) : LNx g L xs o (j + 1) H1 ω1 ν := by
  obtain ⟨-, -, ⟨-, i2⟩, ⟨i3, i4⟩, -⟩ := I
  have K1 := kpx.scr s
  obtain ⟨x1, ⟨x2, x3⟩, x4, x5⟩ := id x
  exact ⟨B, R.scr s, ⟨(K1.1 _ K).tops x2, fun τ hτ => (i2 τ (T τ (K1.2 τ hτ))).ext x⟩, by omega, by omega⟩
theorem LI.nextk (I : LI g L xs o j H ω μ) (K : kpx ω ω') (x : HXt o H H1) (B : HB g L xs o H1) {ω1 : CW} (s : scr ω' ω1) (R : Rel ω' ν) : LNx g L xs o (j + 1) H1 ω1 ν := I.next (K.1 _ I.2.2.1.1) K.2 x B s R
theorem HB.sc (B : HB g L xs o H) : (lh g H o ω μ).1 g.2.2.1 = some (.inl (11, (L, .inl xs))) := (lh_out (Or.inl B.2.2.2.1.1)).trans B.1
end LWD
