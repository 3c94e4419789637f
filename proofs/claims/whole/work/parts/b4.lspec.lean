/-! Orders, feed and street in the law's world -/
section LSP
variable {g : jG} {H H1 hb h' : jH} {o L j t N : Nat} {xs : Nat → Int32} {ω ω' ω1 : CW} {μ ν : MW} {i k n w : Int32} {E0 : Option String} {all : Int32} {val : Os → Int32} {T : Td} {S : St}
theorem fi_a {α : Type} {es : List String} {A : An α} {r : α} {conv : α → Int64} (hes : es.length < 50) (ek : k = cod es A) (q : agA es A ω' r ν) (D : ∀ v, A = .inr v → outD o conv v H1) : ν.1 4 = k ∧ (k = 0 → ∃ f, H1.1 (o + 414) = some (outc f) ∧ f 0 = conv r) := by
  refine ⟨q.1.trans ek.symm, fun c => ?_⟩
  obtain ⟨v, hv⟩ := cod_0 hes (ek.symm.trans c)
  obtain ⟨f, h1, h2⟩ := D v hv
  exact ⟨f, h1, h2.trans (congrArg conv (q.2.1 v hv).symm)⟩
theorem Con.nx {X : jM} {d : Nat} {As : List Value} {h : jH} {Q : Int32 → jH → Prop} {Y : String → jH → Prop} (C : Con g X d As h (jPi Q no2)) : Con g X d As h (jPi Q Y) := C.pi (fun _ _ q => q) (fun _ _ f => f.elim)
def Zo (ω : CW) (N : Nat) (all : Int32) (E0 : Option String) (val : Os → Int32) : An Int32 → CW → Prop := fun A ω' => (A = .inl iae ∧ ω' = ω ∧ E0 = some iae) ∨ (E0 = none ∧ ∃ os, srRes ω N all os ∧ A = .inr (val os) ∧ ω' = pO ω os)
theorem cr_ofO {conv : Int32 → Int64} (B : HB g L xs o H) (hE : ∀ E, E0 = some E → E = iae) (y : wrQ [iae] (o + 414) conv (fun r h' => E0 = none ∧ ∃ os, srRes ω N all os ∧ r = val os ∧ fin g (mw H (o + 396) μ) o (pO ω os) h') (fun E h' => E0 = some E ∧ ∃ n, (mw H (o + 396) μ).2.1 ≤ n ∧ n ≤ (mw H (o + 396) μ).2.1 + 1 ∧ fin g ((mw H (o + 396) μ).1, n, (mw H (o + 396) μ).2.2 + 6) o ω h') k h') : CR g L xs o H μ [iae] (outD o conv) (Zo ω N all E0 val) k h' := by
  rcases y with ⟨rfl, v, h1, ⟨e, os, sr, rfl, ω1, s, rfl⟩, f, ef, rfl⟩ | ⟨E, ⟨e, n, n1, n2, f⟩, rfl⟩
  · have e1 := jset_at H (o + 414) (outc (vp_updL f 0 (conv (val os))))
    refine ⟨.inr (val os), pO ω os, Or.inr ⟨e, os, sr, rfl, rfl⟩, rfl, _, ω1, s, HXt.set, B.ext HXt.set e1, lh_set (Or.inr (Nat.le_refl _)) _, fun v' hv => ⟨_, e1, ?_⟩⟩
    rw [← Sum.inr.inj hv]
    exact if_pos rfl
  · obtain ⟨ω1, s, rfl⟩ := fin_lh f
    obtain ⟨f0, e0⟩ := B.2.2.1
    have X : HXt o H (H.1, n, H.2.2 + 6) := HXt.grow n1 n2
    have eE := hE E e
    subst eE
    exact ⟨.inl iae, ω, Or.inl ⟨rfl, rfl, e⟩, rfl, _, ω1, s, X, B.ext X e0, rfl, fun v hv => by cases hv⟩
theorem ord_1 {E : String} (h : (if inN n 1 20 = false then some iae else none : Option String) = some E) : E = iae := by
  split at h
  · exact (Option.some.inj h).symm
  · cases h
theorem ord_2 {E : String} (h : whyOrd n w = some E) : E = iae := by
  unfold whyOrd at h
  (repeat' split at h) <;> first | exact (Option.some.inj h).symm | cases h
theorem cc_orders (hN : jnc g) (I : LI g L xs o j H ω μ) : Con g mL_orders 120 [.ref o, .int n, .ref (o + 414)] (lh g H o ω μ) (jPi (CR g L xs o H μ [iae] (outD o (fun r : Int32 => r.toInt64)) (Zo ω (ix n) 1 (if inN n 1 20 = false then some iae else none) (fun os => os.1 1))) no2) :=
  (l_orders (d := 119) (a := o + 414) hN cw_o (w_orders (d := 111) (h := mw H (o + 396) μ) (n := n) I.Rm I.So I.Tk I.P7) (fun r h' q => by
    obtain ⟨-, os, -, -, f⟩ := q
    exact fin_out I.1 f) (fun E h' q => ord_1 q.1)).pi (fun k h' y => cr_ofO I.1 (fun E e => ord_1 e) y) (fun E h' f => f)
theorem cc_order (hN : jnc g) (I : LI g L xs o j H ω μ) : Con g mL_order 120 [.ref o, .int n, .int w, .ref (o + 414)] (lh g H o ω μ) (jPi (CR g L xs o H μ [iae] (outD o (fun r : Int32 => r.toInt64)) (Zo ω (ix n) 0 (whyOrd n w) (valOrd ω w))) no2) :=
  (l_order (d := 119) (a := o + 414) hN cw_o (w_order (d := 111) (h := mw H (o + 396) μ) (n := n) (w := w) I.Rm I.So I.Tk I.P7) (fun r h' q => by
    obtain ⟨-, os, -, -, f⟩ := q
    exact fin_out I.1 f) (fun E h' q => ord_2 q.1)).pi (fun k h' y => cr_ofO I.1 (fun E e => ord_2 e) y) (fun E h' f => f)
/-- orders: the reference says the same -/
theorem ag_orders {r : Int32} {A : An Int32} {b : Nat → Int32} (K : KO ω t) (z : Zo ω (ix n) 1 (if inN n 1 20 = false then some iae else none) (fun os => os.1 1) A ω') (q : agA [iae] (hOrders (tT ω) (wS ω) b n) ω r ν) : agA [iae] A ω' r ν ∧ KO ω' t ∧ ∀ τ, isTold ω' τ → isTold ω τ := by
  rcases z with ⟨rfl, rfl, e⟩ | ⟨e, os, sr, rfl, rfl⟩
  · have c : inN n 1 20 = false := by
      by_cases c : inN n 1 20 = false
      · exact c
      · rw [if_neg c] at e; cases e
    unfold hOrders at q
    rw [if_pos c] at q
    exact ⟨q, K, fun _ h => h⟩
  · have c : inN n 1 20 = true := by
      by_cases c : inN n 1 20 = false
      · rw [if_pos c] at e; cases e
      · revert c; cases inN n 1 20 <;> simp
    obtain ⟨h1, h2, h3⟩ := o_orders (b := b) q.2.2 K c sr
    exact ⟨⟨by rw [q.1, h1], fun v hv => q.2.1 v (h1.trans hv), h2⟩, h3, fun _ h => h⟩
theorem ag_order {r : Int32} {A : An Int32} {b : Nat → Int32} (K : KO ω t) (z : Zo ω (ix n) 0 (whyOrd n w) (valOrd ω w) A ω') (q : agA [iae] (hOrder (tT ω) (wS ω) b n w) ω r ν) : agA [iae] A ω' r ν ∧ KO ω' t ∧ ∀ τ, isTold ω' τ → isTold ω τ := by
  rcases z with ⟨rfl, rfl, e⟩ | ⟨e, os, sr, rfl, rfl⟩
  · have c : hOrder (tT ω') (wS ω') b n w = .inl iae := by
      unfold whyOrd at e
      unfold hOrder
      by_cases c1 : inN n 1 20 = false
      · rw [if_pos c1]
      · rw [if_neg c1] at e ⊢
        by_cases c2 : w = 0
        · rw [if_pos c2] at e; cases e
        · rw [if_neg c2] at e ⊢
          by_cases c3 : inN w 10 16 = false
          · rw [if_pos c3]
          · rw [if_neg c3] at e; cases e
    rw [c] at q
    exact ⟨q, K, fun _ h => h⟩
  · obtain ⟨h1, h2, h3⟩ := o_order (b := b) q.2.2 K e sr
    exact ⟨⟨by rw [q.1, h1], fun v hv => q.2.1 v (h1.trans hv), h2⟩, h3, fun _ h => h⟩
/-- the tape's length -/
theorem LI.tape (I : LI g L xs o j H ω μ) : ∃ e, wI ω 0 = nI e ∧ e ≤ 900 := by
  obtain ⟨e, h, -⟩ := I.2.1.2.2.2.1.1
  exact ⟨e, h⟩
theorem nx_feed {e : Nat} {a b c d f : Int32} {E : String} (h : (fFeed ω e a b c d f).1 = .inl E) : False := by
  unfold fFeed at h
  (repeat' split at h) <;> exact (Sum.inr_ne_inl h).elim
theorem kx_feed {e : Nat} {a b c d f : Int32} : kpx ω (fFeed ω e a b c d f).2 := by
  unfold fFeed
  split
  · exact kpx.rf
  · exact kpx.of rfl rfl rfl
theorem cc_feed (I : LI g L xs o j H ω μ) {e : Nat} (eL : wI ω 0 = nI e) (he : e ≤ 900) {a b c d f : Int32} : Con g mX11_feed 120 [.ref o, .int a, .int b, .int c, .int d, .int f] (lh g H o ω μ) (jPi (fun r h' => (fFeed ω e a b c d f).1 = .inr r ∧ ∃ ω1, scr (fFeed ω e a b c d f).2 ω1 ∧ h' = lh g H o ω1 μ) no2) :=
  (w_feed (d := 118) (h := mw H (o + 396) μ) eL he).pi (fun r h' y => ⟨y.1, fin_lh (n := H.2.1) (s := H.2.2) y.2⟩) (fun E h' y => (nx_feed y.1).elim)
/-! street -/
theorem mw_self {m : Nat} (e : ∀ q, m ≤ q → q < m + 18 → hb.1 q = (mw H m μ).1 q) : mw hb m μ = hb := by
  refine Prod.ext (funext fun q => ?_) rfl
  show (if m ≤ q ∧ q < m + 18 then some (mcell m μ (q - m)) else hb.1 q) = hb.1 q
  by_cases c : m ≤ q ∧ q < m + 18
  · rw [if_pos c]
    refine Eq.trans ?_ (e q c.1 c.2).symm
    show _ = (if m ≤ q ∧ q < m + 18 then some (mcell m μ (q - m)) else H.1 q)
    rw [if_pos c]
  · rw [if_neg c]
theorem TOK.new {ωn : CW} (ta : toAt (cw g hb o ωn) o (t, T, S)) (h1 : o + 415 ≤ t) (h2 : t + 8 ≤ hb.2.1) (l1 : lwIn o t T.2.1.1 hb.2.1) (l2 : lwIn o t T.2.1.2.1 hb.2.1) (l3 : lwIn o t T.2.1.2.2 hb.2.1) : TOK g o hb (t, T, S) := by
  intro H' ω' e
  obtain ⟨⟨a1, a2, a3, a4⟩, b1, b2, b3, b4, b5, b6⟩ := ta
  have ex : ∀ q, q < hb.2.1 → (q < o ∨ o + 415 ≤ q) → (cw g H' o ω').1 q = (cw g hb o ωn).1 q := fun q h3 h4 => (cw_out (by omega)).trans ((e q h3 (by omega)).trans (cw_out (by omega)).symm)
  obtain ⟨p1, p2⟩ := l1
  obtain ⟨p3, p4⟩ := l2
  obtain ⟨p5, p6⟩ := l3
  have r1 : T.2.1.1 < o ∨ o + 415 ≤ T.2.1.1 := by omega
  have r2 : T.2.1.2.1 < o ∨ o + 415 ≤ T.2.1.2.1 := by omega
  have r3 : T.2.1.2.2 < o ∨ o + 415 ≤ T.2.1.2.2 := by omega
  exact ⟨⟨(ex t (by omega) (Or.inr h1)).trans a1, a2.of (ex _ p2 r1), a3.of (ex _ p4 r2), a4.of (ex _ p6 r3)⟩, b1.of (fun q h3 h4 => ex q (by dsimp only at h4; omega) (by dsimp only at h3; omega)), b2, b3, b4, b5, b6⟩
def stQ (g : jG) (h : jH) (o : Nat) (ω : CW) (n : Int32) : Int32 → jH → Prop := fun r h' => (¬ n < 0 ∧ ¬ wI ω 0 < n) ∧ match aRead ((cutF (wTape ω) (ix n) (wZ ω)).2 0) ((cutF (wTape ω) (ix n) (wZ ω)).2 1) with
      | .inl (k, q) => q < ix (cutF (wTape ω) (ix n) (wZ ω)).1 ∧ StBad g h o ω (if (cutF (wTape ω) (ix n) (wZ ω)).2 0 q = 1 then 1 else k) ((cutF (wTape ω) (ix n) (wZ ω)).2 2 q) r h'
      | .inr (A, _) => StOk g h o ω A r h'
/-- what both have: the class's world over a base that keeps what lay there -/
theorem stQ.fr {r : Int32} (y : stQ g (mw H (o + 396) μ) o ω n r h') : ∃ hb ωb, frameS (mw H (o + 396) μ) hb o ∧ h' = cw g hb o ωb := by
  obtain ⟨-, y⟩ := y
  revert y
  cases aRead ((cutF (wTape ω) (ix n) (wZ ω)).2 0) ((cutF (wTape ω) (ix n) (wZ ω)).2 1) with
  | inl z =>
    rintro ⟨-, hb, υ', ζ', -, f, -, e⟩
    exact ⟨hb, _, f, e⟩
  | inr z =>
    rintro ⟨hb, υ', ζ', T, -, f, -, -, -, -, -, -, -, e⟩
    exact ⟨hb, _, f, e⟩
theorem fr_out (B : HB g L xs o H) (f : frameS (mw H (o + 396) μ) hb o) {q : Nat} (hq : q < H.2.1) (hq2 : ¬ (o ≤ q ∧ q < o + 414)) : hb.1 q = H.1 q := (f.1 q hq (by omega)).trans (ov_out (by omega))
theorem fr_lh (B : HB g L xs o H) (f : frameS (mw H (o + 396) μ) hb o) : cw g hb o ω = lh g hb o ω μ := by
  unfold lh
  have b5 := B.2.2.2.2
  rw [mw_self (H := H) (fun q h1 h2 => f.1 q (by show q < H.2.1; omega) (by omega))]
theorem fr_hx (B : HB g L xs o H) (f : frameS (mw H (o + 396) μ) hb o) (e : va_E) : HXt o H (jset hb (o + 414) e) :=
  ⟨fun q h1 h2 => (jset_ne (by omega)).trans (fr_out B f h1 (by omega)), ⟨f.2.1, f.2.2.1⟩, f.2.2.2.1, f.2.2.2.2⟩
set_option maxRecDepth 20000 in
theorem cc_street (hN : jnc g) (I : LI g L xs o j H ω μ) : Con g mL_street 120 [.ref o, .int n, .ref (o + 414)] (lh g H o ω μ) (jPi (wrQ [iae] (o + 414) (fun r : Int32 => r.toInt64) (stQ g (mw H (o + 396) μ) o ω n) (fun E h' => (n < 0 ∨ wI ω 0 < n) ∧ thx g (mw H (o + 396) μ) o ω iae E h')) no2) := by
  obtain ⟨e, eL, he⟩ := I.tape
  have b5 := I.1.2.2.2.2
  obtain ⟨s1, s2⟩ := I.2.2.2.1
  have j5 := I.2.2.2.2
  obtain ⟨-, -, -, a4, -⟩ := I.2.1.2.2.2.1.1
  refine l_street (d := 119) (a := o + 414) hN cw_o (w_street (d := 25) (h := mw H (o + 396) μ) (n := n) eL he a4 I.2.1.2.2.2.2.1 (by show o + 396 ≤ H.2.1; omega) I.1.2.2.2.1.2 (LawAt.of (L := none) I.1.2.1 (ov_out (by have := I.1.2.2.2.1.2; omega))) ⟨by show H.2.1 + 909 ≤ _; omega, by show H.2.2 + 959 ≤ _; omega⟩) (fun r h' q => ?_) (fun E h' q => q.2.1)
  obtain ⟨hb, ωb, f, e1⟩ := stQ.fr q
  obtain ⟨f0, e0⟩ := I.1.2.2.1
  subst e1
  exact ⟨f0, (cw_out (by omega)).trans ((fr_out I.1 f (by omega) (by omega)).trans e0)⟩
set_option maxRecDepth 20000 in
/-- what street leaves, both told -/
theorem st_next (I : LI g L xs o j H ω μ) (y : wrQ [iae] (o + 414) (fun r : Int32 => r.toInt64) (stQ g (mw H (o + 396) μ) o ω n) (fun E h' => (n < 0 ∨ wI ω 0 < n) ∧ thx g (mw H (o + 396) μ) o ω iae E h') k h') : ∃ H1 ω1, h' = lh g H1 o ω1 μ ∧ HB g L xs o H1 ∧
    ∀ r ν, (((n < 0 ∨ wI ω 0 < n) ∧ ν.1 4 = 1 ∧ Rel ω ν) ∨ ((¬ n < 0 ∧ ¬ wI ω 0 < n) ∧ ν.1 4 = 0 ∧ vSt ω n r ν)) → ν.1 4 = k ∧ (k = 0 → ∃ f, H1.1 (o + 414) = some (outc f) ∧ f 0 = r.toInt64) ∧ LNx g L xs o (j + 1) H1 ω1 ν := by
  rcases y with ⟨rfl, v, h1, yq, f, ef, rfl⟩ | ⟨E, ⟨c, rfl, n', n1, n2, f⟩, rfl⟩
  · obtain ⟨c, y⟩ := yq
    have cx : ∀ {p : Prop}, (n < 0 ∨ wI ω 0 < n) → p := fun z => (z.elim c.1 c.2).elim
    have key : ∀ hb ωb, frameS (mw H (o + 396) μ) hb o → h1 = cw g hb o ωb → ∃ H1, jset h1 (o + 414) (.inl (3, (1, .inr (.inl (vp_updL f 0 v.toInt64))))) = lh g H1 o ωb μ ∧ HXt o H H1 ∧ HB g L xs o H1 ∧ HXt o hb H1 ∧ H1.2 = hb.2 ∧ ∃ f, H1.1 (o + 414) = some (outc f) ∧ f 0 = v.toInt64 := by
      intro hb ωb fr e
      have e1 := jset_at hb (o + 414) (outc (vp_updL f 0 v.toInt64))
      have X := fr_hx I.1 fr (outc (vp_updL f 0 v.toInt64))
      refine ⟨jset hb (o + 414) (outc (vp_updL f 0 v.toInt64)), ?_, X, I.1.ext X e1, HXt.set, rfl, _, e1, if_pos rfl⟩
      rw [e, fr_lh I.1 fr]
      exact lh_set (Or.inr (Nat.le_refl _)) _
    revert y
    have vs : ∀ r ν, vSt ω n r ν = (match aRead ((cutF (wTape ω) (ix n) (wZ ω)).2 0) ((cutF (wTape ω) (ix n) (wZ ω)).2 1) with
      | .inl y => y.2 < ix (cuZ ω n).1 → (r = -10 - (if (cuZ ω n).2 0 y.2 = 1 then 1 else y.1)) ∧ ∀ υ' ζ', HNum ζ' → Rel (pI (pI (pI (pV (pZ ω ζ') υ') 0 0) 1 (if (cuZ ω n).2 0 y.2 = 1 then 1 else y.1)) 2 ((cuZ ω n).2 2 y.2)) ν
      | .inr y => r = y.1.1.2.1 ∧ ∀ υ' ζ' t T, HNum ζ' → T.1 = y.1.1 → T.2.2 = (y.1.2.1.1.map lawV, y.1.2.1.2.1.map lawV, y.1.2.1.2.2.map lawV) → Rel (pH (pS (pT (pI (pI (pI (pV (pZ ω ζ') υ') 0 0) 1 0) 2 (-1)) (t, T, y.1.2.2)) y.1.2.2) (0, (wH ω).2)) ν) := fun r ν => rfl
    simp only [vs]
    cases aRead ((cutF (wTape ω) (ix n) (wZ ω)).2 0) ((cutF (wTape ω) (ix n) (wZ ω)).2 1) with
    | inl z =>
      rintro ⟨hq, hb, υ', ζ', hz, fr, rfl, e⟩
      obtain ⟨H1, a1, X, B, -, -, f1, a2, a3⟩ := key hb _ fr e
      refine ⟨H1, _, a1, B, fun r ν m => ?_⟩
      rcases m with ⟨c', -⟩ | ⟨-, m1, m2⟩
      · exact cx c'
      · obtain ⟨m3, m4⟩ := m2 hq
        have N : ∀ ω', kpx ω ω' → Rel ω' ν → LNx g L xs o (j + 1) H1 ω' ν := fun ω' k R => I.nextk k X B (scr.rf ω') R
        exact ⟨m1, fun _ => ⟨f1, a2, by rw [a3, m3]⟩, N _ (kpx.of rfl rfl rfl) (m4 υ' ζ' hz)⟩
    | inr z =>
      rintro ⟨hb, υ', ζ', T, hz, fr, rfl, t1, t2, -, ta, t8, ⟨l1, l2, l3⟩, e⟩
      obtain ⟨H1, a1, X, B, X2, e2, f1, a2, a3⟩ := key hb _ fr e
      refine ⟨H1, _, a1, B, fun r ν m => ?_⟩
      rcases m with ⟨c', -⟩ | ⟨-, m1, m3, m4⟩
      · exact cx c'
      · refine ⟨m1, fun _ => ⟨f1, a2, by rw [a3, m3]⟩, B, m4 υ' ζ' H.2.1 T hz t1 t2, ⟨?_, fun τ hτ => ?_⟩, ?_⟩
        · exact k_street I.2.2.1.1 (by rw [e2]; exact t8)
        · rcases hτ with hτ | ⟨i, hi, hτ⟩
          · rw [hτ]
            have b5 := I.1.2.2.2.2
            rw [e] at ta
            exact (TOK.new ta b5 t8 l1 l2 l3).ext X2
          · exact (I.2.2.1.2 τ (Or.inr ⟨i, hi, hτ⟩)).ext X
        · obtain ⟨-, ⟨x2, x3⟩, x4, x5⟩ := X
          obtain ⟨s1, s2⟩ := I.2.2.2.1
          exact ⟨by omega, by omega⟩
  · obtain ⟨ω1, s, rfl⟩ := fin_lh f
    obtain ⟨f0, e0⟩ := I.1.2.2.1
    have X : HXt o H (H.1, n', H.2.2 + 6) := HXt.grow n1 n2
    refine ⟨_, ω1, rfl, I.1.ext X e0, fun r ν m => ?_⟩
    rcases m with ⟨-, m1, m2⟩ | ⟨c', -⟩
    · exact ⟨m1, fun z => absurd z (by rw [cod_i]; decide), I.nextk kpx.rf X (I.1.ext X e0) s m2⟩
    · exact (c.elim c'.1 c'.2).elim
end LSP
