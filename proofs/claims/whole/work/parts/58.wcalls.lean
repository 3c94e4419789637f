/-! What the class's parts do, said of its world -/
def toAt (H : jH) (o : Nat) (τ : To) : Prop := TAt H τ.1 τ.2.1 ∧ SAt H (τ.1 + 1) τ.2.2 ∧ sok τ.2.2 ∧ (τ.1 = o + 2 ∨ o + 396 ≤ τ.1) ∧ (τ.2.1.2.1.1 < o ∨ o + 396 ≤ τ.2.1.2.1.1) ∧ (τ.2.1.2.1.2.1 < o ∨ o + 396 ≤ τ.2.1.2.1.2.1) ∧ (τ.2.1.2.1.2.2 < o ∨ o + 396 ≤ τ.2.1.2.1.2.2)
/-- the same but for what is only for a while -/
def scr (ω ω' : CW) : Prop := wTape ω' = wTape ω ∧ wI ω' = wI ω ∧ wT ω' = wT ω ∧ wS ω' = wS ω ∧ wH ω' = wH ω ∧ wG ω' = wG ω ∧ wY ω' = wY ω ∧ wZ ω' = wZ ω ∧ wO ω' = wO ω
def fin (g : jG) (h : jH) (o : Nat) (ω : CW) (h' : jH) : Prop := ∃ ω', scr ω ω' ∧ h' = cw g h o ω'
def nse : String := "java/util/NoSuchElementException"
def iae : String := "java/lang/IllegalArgumentException"
def ise : String := "java/lang/IllegalStateException"
def iob : String := "java/lang/IndexOutOfBoundsException"
/-- thrown: nothing but a little room is gone -/
def thx (g : jG) (h : jH) (o : Nat) (ω : CW) (E0 : String) (E : String) (h' : jH) : Prop := E = E0 ∧ ∃ n, h.2.1 ≤ n ∧ n ≤ h.2.1 + 1 ∧ fin g (h.1, n, h.2.2 + 6) o ω h'
abbrev An (α : Type) : Type := String ⊕ α
def ansX {α : Type} (g : jG) (h : jH) (o : Nat) (R : An α × CW) (E : String) (h' : jH) : Prop := R.1 = .inl E ∧ ∃ n, h.2.1 ≤ n ∧ n ≤ h.2.1 + 1 ∧ fin g (h.1, n, h.2.2 + 6) o R.2 h'
def ansI (g : jG) (h : jH) (o : Nat) (R : An Int32 × CW) : jO → jH → Prop := jPi (fun r h' => R.1 = .inr r ∧ fin g h o R.2 h') (ansX g h o R)
def ansL (g : jG) (h : jH) (o : Nat) (R : An Int64 × CW) : jO → jH → Prop := jPl (fun r h' => R.1 = .inr r ∧ fin g h o R.2 h') (ansX g h o R)
def ansV (g : jG) (h : jH) (o : Nat) (R : An Unit × CW) : jO → jH → Prop := jPv (fun h' => R.1 = .inr () ∧ fin g h o R.2 h') (ansX g h o R)
theorem scr.rf (ω : CW) : scr ω ω := ⟨rfl, rfl, rfl, rfl, rfl, rfl, rfl, rfl, rfl⟩
theorem scr.tr {a b c : CW} (x : scr a b) (y : scr b c) : scr a c := ⟨y.1.trans x.1, y.2.1.trans x.2.1, y.2.2.1.trans x.2.2.1, y.2.2.2.1.trans x.2.2.2.1, y.2.2.2.2.1.trans x.2.2.2.2.1, y.2.2.2.2.2.1.trans x.2.2.2.2.2.1, y.2.2.2.2.2.2.1.trans x.2.2.2.2.2.2.1, y.2.2.2.2.2.2.2.1.trans x.2.2.2.2.2.2.2.1, y.2.2.2.2.2.2.2.2.trans x.2.2.2.2.2.2.2.2⟩
theorem scr_K (ω : CW) (x : Ks) : scr ω (pK ω x) := scr.rf ω
theorem scr_A (ω : CW) (x : St) : scr ω (pA ω x) := scr.rf ω
theorem scr_D (ω : CW) (x : Ds) : scr ω (pD ω x) := scr.rf ω
section WCL
variable {g : jG} {d : Nat} {h : jH} {o : Nat} {ω : CW} {i k n : Int32}
theorem fin.rf : fin g h o ω (cw g h o ω) := ⟨ω, scr.rf ω, rfl⟩
theorem fin.of {ω' : CW} (s : scr ω ω') : fin g h o ω (cw g h o ω') := ⟨ω', s, rfl⟩
theorem thx_rf {n : Nat} {E0 : String} (h1 : h.2.1 ≤ n) (h2 : n ≤ h.2.1 + 1) : thx g h o ω E0 E0 (cw g (h.1, n, h.2.2 + 6) o ω) := ⟨rfl, n, h1, h2, fin.rf⟩
theorem jthr_cw {E : String} {P : jO → jH → Prop} (R : jroom g h 1 6) (k : ∀ n, h.2.1 ≤ n → n ≤ h.2.1 + 1 → P (.inr E) (cw g (h.1, n, h.2.2 + 6) o ω)) : jthr g (cw g h o ω) E P := ⟨R, k⟩
theorem thx.ans {α : Type} {ω0 : CW} {R : An α × CW} {E0 E : String} {h' : jH} (H : thx g h o ω0 E0 E h') (e : R.1 = .inl E0) (s : scr R.2 ω0) : ansX g h o R E h' := by
  obtain ⟨rfl, n, h1, h2, ω', s', e'⟩ := H
  exact ⟨e, n, h1, h2, ω', s.tr s', e'⟩
theorem toAt.mv {ω' : CW} {τ : To} (H : toAt (cw g h o ω) o τ) : toAt (cw g h o ω') o τ := by
  obtain ⟨h1, h2, h3, h4, h5, h6, h7⟩ := H
  refine ⟨⟨(cw_same ?_).trans h1.1, h1.2.1.of (cw_same ?_), h1.2.2.1.of (cw_same ?_), h1.2.2.2.of (cw_same ?_)⟩, h2.of (fun q a b => cw_same ?_), h3, h4, h5, h6, h7⟩ <;> omega
theorem toAt.far {H : jH} {τ : To} (T : toAt H o τ) {b n : Nat} (h1 : o + 10 ≤ b) (h2 : b + n ≤ o + 396) : TFar τ.1 τ.2.1 b n := by
  obtain ⟨-, -, -, h4, h5, h6, h7⟩ := T
  refine ⟨?_, ?_, ?_, ?_⟩ <;> omega
theorem w_wk {σ : St} {κ : Ks} : wk (cw g h o ω) (o + 24) (o + 353) σ κ = cw g h o (pK (pS ω σ) κ) := by
  unfold wk; rw [cw_pS, cw_pK]
theorem w_wkA {α : St} {κ : Ks} : wk (cw g h o ω) (o + 353 + 8) (o + 353) α κ = cw g h o (pK (pA ω α) κ) := by
  show wk (cw g h o ω) (o + 361) (o + 353) α κ = _
  unfold wk; rw [cw_pA, cw_pK]
theorem w_has (S : sok (wS ω)) : Con g mX6_has (d + 1) [.ref (o + 24), .int i] (cw g h o ω) (jPi (fun r h' => r = bI (sHas (wS ω) i) ∧ h' = cw g h o ω) no2) := c_has cw_S S
theorem w_isGone (S : sok (wS ω)) : Con g mX6_isGone (d + 2) [.ref (o + 24), .int i] (cw g h o ω) (jPi (fun r h' => r = bI (sGone (wS ω) i) ∧ h' = cw g h o ω) no2) := c_isGone cw_S S
theorem w_next {τ : To} (T : toAt (cw g h o ω) o τ) : Con g mX9_next (d + 1) [.ref τ.1, .int i, .int n] (cw g h o ω) (jPi (fun r h' => r = nxt τ.2.1 i n ∧ h' = cw g h o ω) no2) := c_next T.1
theorem w_payment (S : sok (wS ω)) (T : toAt (cw g h o ω) o (wT ω)) : Con g mX0_payment (d + 3) [.ref (o + 353), .ref (wT ω).1, .ref (o + 24), .int i, .int k, .int n] (cw g h o ω) (jPi (fun r h' => r = pay (wT ω).2.1 (wS ω) i k n ∧ ∃ κ', h' = cw g h o (pK ω κ')) no2) := by
  have C := c_payment (g := g) (d := d) (h := cw g h o ω) (s := o + 24) (c := o + 353) (κ := wK ω) (i := i) (cash := k) (debt := n) S (Or.inl (by omega)) T.1 (T.far (by omega) (by omega)) (T.far (by omega) (by omega))
  rw [w_wk] at C
  exact C.pi (fun r h' ⟨e, κ', _, e'⟩ => ⟨e, κ', e'.trans w_wk⟩) (fun E h' f => f)
theorem w_growth (T : toAt (cw g h o ω) o (wT ω)) : Con g mX0_growth (d + 3) [.ref (o + 353), .ref (wT ω).1, .ref (o + 24), .int i, .int n] (cw g h o ω) (jPi (fun r h' => r = grow (wT ω).2.1 (wS ω) i n ∧ ∃ κ', h' = cw g h o (pK ω κ')) no2) := by
  have C := c_growth (g := g) (d := d) (h := cw g h o ω) (s := o + 24) (c := o + 353) (σ := wS ω) (κ := wK ω) (i := i) (debt := n) (Or.inl (by omega)) T.1 (T.far (by omega) (by omega)) (T.far (by omega) (by omega))
  rw [w_wk] at C
  exact C.pi (fun r h' ⟨e, κ', _, e'⟩ => ⟨e, κ', e'.trans w_wk⟩) (fun E h' f => f)
theorem w_taking (S : sok (wS ω)) (T : toAt (cw g h o ω) o (wT ω)) : Con g mX0_taking (d + 3) [.ref (o + 353), .ref (wT ω).1, .ref (o + 24), .int i, .int n] (cw g h o ω) (jPi (fun r h' => r = bI (take (wT ω).2.1 (wS ω) i n) ∧ ∃ κ', h' = cw g h o (pK ω κ')) no2) := by
  have C := c_taking (g := g) (d := d) (h := cw g h o ω) (s := o + 24) (c := o + 353) (κ := wK ω) (i := i) (debt := n) S (Or.inl (by omega)) T.1 (T.far (by omega) (by omega)) (T.far (by omega) (by omega))
  rw [w_wk] at C
  exact C.pi (fun r h' ⟨e, κ', _, e'⟩ => ⟨e, κ', e'.trans w_wk⟩) (fun E h' f => f)
theorem w_pass (S : sok (wS ω)) (T : toAt (cw g h o ω) o (wT ω)) : Con g mX0_pass (d + 5) [.ref (o + 353), .ref (wT ω).1, .ref (o + 24), .int n] (cw g h o ω) (jPv (fun h' => ∃ κ', kgar (kpas (wT ω).2.1 n (wS ω) (wK ω)) κ' ∧ h' = cw g h o (pK (pS ω (pas (wT ω).2.1 n (wS ω))) κ')) no2) := by
  have C := c_pass (g := g) (d := d) (h := cw g h o ω) (s := o + 24) (c := o + 353) (κ := wK ω) (lim := n) S (Or.inl (by omega)) T.1 (T.far (by omega) (by omega)) (T.far (by omega) (by omega))
  rw [w_wk] at C
  exact C.pv (fun h' ⟨κ', e, e'⟩ => ⟨κ', e, e'.trans w_wk⟩) (fun E h' f => f)
theorem w_passA (S : sok (wA ω)) (T : toAt (cw g h o ω) o (wT ω)) : Con g mX0_pass (d + 5) [.ref (o + 353), .ref (wT ω).1, .ref (o + 361), .int n] (cw g h o ω) (jPv (fun h' => ∃ κ', kgar (kpas (wT ω).2.1 n (wA ω) (wK ω)) κ' ∧ h' = cw g h o (pK (pA ω (pas (wT ω).2.1 n (wA ω))) κ')) no2) := by
  have C := c_pass (g := g) (d := d) (h := cw g h o ω) (s := o + 353 + 8) (c := o + 353) (κ := wK ω) (lim := n) S (Or.inr (by omega)) T.1 (T.far (by omega) (by omega)) (T.far (by omega) (by omega))
  rw [w_wkA] at C
  exact C.pv (fun h' ⟨κ', e, e'⟩ => ⟨κ', e, e'.trans w_wkA⟩) (fun E h' f => f)
theorem w_from : Con g mX0_from (d + 2) [.ref (o + 353), .ref (wT ω).1, .ref (o + 24)] (cw g h o ω) (jPr (fun r h' => r = o + 361 ∧ h' = cw g h o (pK (pA ω (wS ω)) (kT (wK ω) (wT ω).1))) no2) := by
  have C := c_from (g := g) (d := d) (h := cw g h o ω) (b := o + 24) (c := o + 353) (α := wA ω) (κ := wK ω) (t := (wT ω).1) cw_S (Or.inl (by omega))
  rw [w_wkA] at C
  exact C.pr (fun r h' ⟨e, e'⟩ => ⟨e, e'.trans w_wkA⟩) (fun E h' f => f)
theorem w_losses {m : Nat} (S : sok (wA ω)) (T : toAt (cw g h o ω) o (wT ω)) (hm : m < 2 ^ 31) (ht : (wK ω).2.2.2 = (wT ω).1) : Con g mX0_losses (d + 6) [.ref (o + 353), .int (nI m), .int k] (cw g h o ω) (jPi (fun r h' => r = lostN (wT ω).2.1 (wT ω).2.1.1.2.2 (wA ω) (losI (wT ω).2.1 (wT ω).2.1.1.2.2 (wA ω) k m 0) ∧ ∃ α' κ', kold (wK ω) κ' ∧ h' = cw g h o (pK (pA ω α') κ')) no2) := by
  have C := c_losses (g := g) (d := d) (h := cw g h o ω) (c := o + 353) (κ := wK ω) (x2 := k) S T.1 (T.far (by omega) (by omega)) hm ht
  rw [w_wkA] at C
  exact C.pi (fun r h' ⟨e, κ', e1, e'⟩ => ⟨e, _, κ', e1, e'.trans w_wkA⟩) (fun E h' f => f)
theorem w_ruins {m : Nat} (S : sok (wA ω)) (T : toAt (cw g h o ω) o (wT ω)) (hm : m < 2 ^ 31) (ht : (wK ω).2.2.2 = (wT ω).1) : Con g mX0_ruins (d + 6) [.ref (o + 353), .int i, .int (nI m)] (cw g h o ω) (jPi (fun r h' => r = bI (sGone (pasN (wT ω).2.1 (wT ω).2.1.1.2.2 (wA ω) (ruI (wT ω).2.1 (wT ω).2.1.1.2.2 (wA ω) i m 0)) i) ∧ ∃ α' κ', kold (wK ω) κ' ∧ h' = cw g h o (pK (pA ω α') κ')) no2) := by
  have C := c_ruins (g := g) (d := d) (h := cw g h o ω) (c := o + 353) (κ := wK ω) (x1 := i) S T.1 (T.far (by omega) (by omega)) hm ht
  rw [w_wkA] at C
  exact C.pi (fun r h' ⟨e, κ', e1, e'⟩ => ⟨e, _, κ', e1, e'.trans w_wkA⟩) (fun E h' f => f)
theorem w_addBurdens {m : Nat} (S : sok (wA ω)) (T : toAt (cw g h o ω) o (wT ω)) (hm : m < 2 ^ 31) (ht : (wK ω).2.2.2 = (wT ω).1) : Con g mX0_addBurdens (d + 6) [.ref (o + 353), .int (nI m)] (cw g h o ω) (jPv (fun h' => ∃ α' κ', κ'.2.2.2 = (wT ω).1 ∧ κ'.2.2.1 0 = burN (wT ω).2.1 (wT ω).2.1.1.2.2 (wA ω) m ∧ κ'.2.2.1 1 = (wK ω).2.2.1 1 ∧ h' = cw g h o (pK (pA ω α') κ')) no2) := by
  have C := c_addBurdens (g := g) (d := d) (h := cw g h o ω) (c := o + 353) (κ := wK ω) S T.1 (T.far (by omega) (by omega)) hm ht
  rw [w_wkA] at C
  exact C.pv (fun h' ⟨κ', e1, e2, e3, e'⟩ => ⟨_, κ', e1, e2, e3, e'.trans w_wkA⟩) (fun E h' f => f)
theorem w_keepBurdens : Con g mX0_keepBurdens (d + 1) [.ref (o + 353)] (cw g h o ω) (jPv (fun h' => h' = cw g h o (pK ω (kL (wK ω) 1 (fstL 7 ((wK ω).2.2.1 0) ((wK ω).2.2.1 1))))) no2) := by
  have C := c_keepBurdens (g := g) (d := d) (h := cw g h o ω) (c := o + 353) (α := wA ω) (κ := wK ω)
  rw [w_wkA] at C
  exact C.pv (fun h' e' => e'.trans w_wkA) (fun E h' f => f)
theorem w_remember (O : hok (wH ω)) : Con g mX2_remember (d + 2) [.ref (o + 31), .ref (o + 24)] (cw g h o ω) (jPv (fun h' => h' = cw g h o (pH ω (hpush (wH ω) (wS ω)))) no2) := by
  have C := c_remember (g := g) (d := d) (h := cw g h o ω) (b := o + 31) (s := o + 24) O cw_S (Or.inl (by omega))
  rw [cw_pH] at C
  exact C.pv (fun h' e' => e'.trans (cw_pH _)) (fun E h' f => f)
theorem w_goBack {m : Nat} (O : hok (wH ω)) (h0 : 0 < m) (hm : m ≤ hN (wH ω)) : Con g mX2_goBack (d + 2) [.ref (o + 31), .int (nI m), .ref (o + 24)] (cw g h o ω) (jPv (fun h' => h' = cw g h o (pS (pH ω (nI (hN (wH ω) - m), (wH ω).2)) (hv (wH ω) (hN (wH ω) - m)))) no2) := by
  have C := c_goBack (g := g) (d := d) (h := cw g h o ω) (b := o + 31) (s := o + 24) (n := m) O cw_S (Or.inl (by omega)) h0 hm
  rw [cw_pH] at C
  refine C.pv (fun h' e' => e'.trans ?_) (fun E h' f => f)
  rw [cw_pH, cw_pS]
theorem w_exchange (S : sok (wS ω)) : Con g mX6_exchange (d + 2) [.ref (o + 24), .int i, .int k] (cw g h o ω) (jPv (fun h' => h' = cw g h o (pS ω (sExch (wS ω) i k))) no2) := by
  have C := c_exchange (g := g) (d := d) (h := cw g h o ω) (a := o + 24) (i := i) (k := k) S
  rw [cw_pS] at C
  exact C.pv (fun h' e' => e'.trans (cw_pS _)) (fun E h' f => f)
theorem w_exchangeA (S : sok (wA ω)) : Con g mX6_exchange (d + 2) [.ref (o + 361), .int i, .int k] (cw g h o ω) (jPv (fun h' => h' = cw g h o (pA ω (sExch (wA ω) i k))) no2) := by
  have C := c_exchange (g := g) (d := d) (h := cw g h o ω) (a := o + 361) (i := i) (k := k) S
  rw [cw_pA] at C
  exact C.pv (fun h' e' => e'.trans (cw_pA _)) (fun E h' f => f)
theorem w_ruinA (S : sok (wA ω)) : Con g mX6_ruin (d + 2) [.ref (o + 361), .int i] (cw g h o ω) (jPv (fun h' => h' = cw g h o (pA ω (sRuin (wA ω) i))) no2) := by
  have C := c_ruin (g := g) (d := d) (h := cw g h o ω) (a := o + 361) (i := i) S
  rw [cw_pA] at C
  exact C.pv (fun h' e' => e'.trans (cw_pA _)) (fun E h' f => f)
theorem w_give (S : sok (wS ω)) : Con g mX6_give (d + 2) [.ref (o + 24), .int i, .int k, .int n] (cw g h o ω) (jPv (fun h' => h' = cw g h o (pS ω (sGive (wS ω) i k n))) no2) := by
  have C := c_give (g := g) (d := d) (h := cw g h o ω) (a := o + 24) (i := i) (k := k) (n := n) S
  rw [cw_pS] at C
  exact C.pv (fun h' e' => e'.trans (cw_pS _)) (fun E h' f => f)
theorem w_payBack (S : sok (wS ω)) : Con g mX6_payBack (d + 2) [.ref (o + 24), .int i, .int n] (cw g h o ω) (jPi (fun r h' => h' = cw g h o (pS ω (sPay (wS ω) i n)) ∧ r = (if sHas (wS ω) i = true then sPaid (wS ω) i n else 0)) no2) := by
  have C := c_payBack (g := g) (d := d) (h := cw g h o ω) (a := o + 24) (i := i) (n := n) S
  rw [cw_pS] at C
  exact C.pi (fun r h' e' => ⟨e'.1.trans (cw_pS _), e'.2⟩) (fun E h' f => f)
theorem w_takeOver {b : Nat} {τ : St} (H : SAt (cw g h o ω) b τ) (hd : o + 24 + 7 ≤ b ∨ b + 7 ≤ o + 24) : Con g mX6_takeOver (d + 1) [.ref (o + 24), .ref b] (cw g h o ω) (jPv (fun h' => h' = cw g h o (pS ω τ)) no2) :=
  (c_takeOver (g := g) (d := d) H hd cw_S).pv (fun h' e' => e'.trans (cw_pS _)) (fun E h' f => f)
end WCL
