section CMd
variable {g : jG} {d : Nat} {h : jH} {o : Nat} {ω : CW} {α : St} {κ : Ks} {i k n : Int32}
theorem cw_own {H : jH} (e : ∀ q, o ≤ q → q < o + 396 → H.1 q = (cw g h o ω).1 q) : H = cw g H o ω := by
  refine Prod.ext (funext fun q => ?_) rfl
  by_cases hq : o ≤ q ∧ q < o + 396
  · refine (e q hq.1 hq.2).trans ?_
    show (if o ≤ q ∧ q < o + 396 then some (pick (regs g o ω) (q - o)) else h.1 q) = (if o ≤ q ∧ q < o + 396 then some (pick (regs g o ω) (q - o)) else H.1 q)
    rw [if_pos hq, if_pos hq]
  · exact (cw_out hq).symm
/-- a street as it comes in: what a text tells, and where it lies -/
def frameS (h hb : jH) (o : Nat) : Prop := (∀ q, q < h.2.1 → ¬ (o ≤ q ∧ q < o + 396) → hb.1 q = h.1 q) ∧ h.2.1 ≤ hb.2.1 ∧ hb.2.1 ≤ h.2.1 + 309 ∧ h.2.2 ≤ hb.2.2 ∧ hb.2.2 ≤ h.2.2 + 959
/-- where a new told's law may lie -/
def lwIn (o t p top : Nat) : Prop := (p < o ∨ t + 8 ≤ p) ∧ p < top
def StBad (g : jG) (h : jH) (o : Nat) (ω : CW) (fk fp : Int32) (r : Int32) (h' : jH) : Prop := ∃ hb υ' ζ', HNum ζ' ∧ frameS h hb o ∧ r = -10 - fk ∧ h' = cw g hb o (pI (pI (pI (pV (pZ ω ζ') υ') 0 0) 1 fk) 2 fp)
def StOk (g : jG) (h : jH) (o : Nat) (ω : CW) (A : Ab) (r : Int32) (h' : jH) : Prop := ∃ hb υ' ζ' T, HNum ζ' ∧ frameS h hb o ∧ r = A.1.2.1 ∧ T.1 = A.1 ∧ T.2.2 = (A.2.1.1.map lawV, A.2.1.2.1.map lawV, A.2.1.2.2.map lawV) ∧ few A ∧ toAt h' o (h.2.1, T, A.2.2) ∧ h.2.1 + 8 ≤ hb.2.1 ∧ (lwIn o h.2.1 T.2.1.1 hb.2.1 ∧ lwIn o h.2.1 T.2.1.2.1 hb.2.1 ∧ lwIn o h.2.1 T.2.1.2.2 hb.2.1) ∧
  h' = cw g hb o (pH (pS (pT (pI (pI (pI (pV (pZ ω ζ') υ') 0 0) 1 0) 2 (-1)) (h.2.1, T, A.2.2)) A.2.2) (0, (wH ω).2))
theorem few_sok {A : Ab} (F : few A) : sok A.2.2 := by
  obtain ⟨m, h1, h2⟩ := F
  unfold sok sN
  rw [h2, show (nI m).toNatClampNeg = m from nI_clamp (by omega)]
  exact ⟨rfl, h1⟩
theorem w_street {L : Nat} (eL : wI ω 0 = nI L) (hL : L ≤ 900) (hby : byt (wTape ω)) (HN : HNum (wZ ω)) (ho : o + 396 ≤ h.2.1) (hNO : g.2.2.2.2.2.2 < o) (NL : LawAt h g.2.2.2.2.2.2 0 none) (R : h.2.1 + 909 ≤ jB0 g + 601024 ∧ h.2.2 + 959 ≤ 7293034) :
    Con g mX11_street (d + 94) [.ref o, .int n] (cw g h o ω) (jPi (fun r h' => (¬ n < 0 ∧ ¬ wI ω 0 < n) ∧ match aRead ((cutF (wTape ω) (ix n) (wZ ω)).2 0) ((cutF (wTape ω) (ix n) (wZ ω)).2 1) with
      | .inl (k, q) => q < ix (cutF (wTape ω) (ix n) (wZ ω)).1 ∧ StBad g h o ω (if (cutF (wTape ω) (ix n) (wZ ω)).2 0 q = 1 then 1 else k) ((cutF (wTape ω) (ix n) (wZ ω)).2 2 q) r h'
      | .inr (A, _) => StOk g h o ω A r h') (fun E h' => (n < 0 ∨ wI ω 0 < n) ∧ thx g h o ω iae E h')) := by
  have R6 : jroom g h 1 6 := ⟨by omega, by omega⟩
  refine con_of plD (Nat.le_of_ble_eq_true rfl) rfl (bX11_street_0 ⟨fun q => bX11_street_12 (jthr_cw R6 (fun n h1 h2 => ⟨Or.inl q, thx_rf h1 h2⟩)), fun q1 => ⟨_, cw_o, _, rfl, fun q => bX11_street_12 (jthr_cw R6 (fun n h1 h2 => ⟨Or.inr q, thx_rf h1 h2⟩)), fun q2 => ⟨_, cw_o, _, rfl, _, cw_o, _, rfl, _, cw_at 3 rfl 10 (by decide) (by decide) (k := 0) (by decide), ?_⟩⟩⟩)
  obtain ⟨e, he, en⟩ := nI_of q1
  subst en
  have q2' : ¬ wI ω 0 < nI e := q2
  have heL : e ≤ L := by
    rw [eL] at q2'
    by_cases c : e ≤ L
    · exact c
    · exact absurd (nI_lt (by omega) he) q2'
  rw [ix_nI he]
  obtain ⟨HZ', n', hT⟩ := cutF_tok (wTape ω) (e := e) (by omega) HN
  have self : cw g h o ω = vput (zput (cw g h o ω) (o + 10 + 9) (wZ ω)) (o + 10) (wV ω) := by
    show cw g h o ω = vput (zput (cw g h o ω) (o + 19) (wZ ω)) (o + 10) (wV ω)
    rw [cw_pZ, cw_pV]
    rfl
  have NLc : LawAt (cw g h o ω) g.2.2.2.2.2.2 0 none := LawAt.of (L := none) NL (cw_out (by omega))
  obtain ⟨n2, hT2, C⟩ := c_read (g := g) (d := d) (h := cw g h o ω) (w := o + 10) (r := o + 1) (N := 900) (e := e) (ζ := wZ ω) (υ := wV ω) (b := wTape ω) cw_tape (by omega) (by show o + 1 < h.2.1; omega) (by decide) (by omega) (by omega) hby HN (by show o + 10 + 14 ≤ h.2.1; omega) (by show _ < h.2.1; omega) (by omega) NLc R
  rw [← self] at C
  generalize hζ : cutF (wTape ω) e (wZ ω) = ζ' at *
  have n901 := hT2.2.2.1
  refine C.pi (fun r h' hr => ?_) (fun E h' f => f.elim)
  obtain ⟨hb, υ', σ', eh, LFh, b1, b2, et, hm⟩ := hr
  have tz : (cw g h o ω).2.1 = h.2.1 := rfl
  have sz : (zput (seg (cw g h o ω) (cw g h o ω).2.1 (layTold g (cw g h o ω).2.1) 58) (o + 10 + 9) ζ').2 = (h.2.1 + 8, h.2.2 + 58) := rfl
  obtain ⟨L1, L2, L3⟩ := LFh
  rw [sz] at L2 L3 b1 b2
  dsimp only at L2 L3 b1 b2
  have low : ∀ q, q < h.2.1 → ¬ q = o + 10 → ¬ q = o + 23 → h'.1 q = (zput (cw g h o ω) (o + 19) ζ').1 q := by
    intro q hq a1 a2
    rw [eh, ws_out a1 (by omega) (by rw [tz]; omega), L1 q (by rw [sz]; show q < h.2.1 + 8; omega) (by rw [tz]; omega)]
    by_cases hz : o + 19 ≤ q ∧ q < o + 19 + 4
    · show (ov _ (o + 19) 4 _).1 q = (ov _ (o + 19) 4 _).1 q
      simp only [ov]
      rw [if_pos hz, if_pos hz]
    · refine (ov_out (by omega)).trans (Eq.trans ?_ (ov_out (by omega)).symm)
      exact seg_out (by rw [tz]; omega)
  have sz' : h'.2 = hb.2 := by rw [eh]; rfl
  have own : h' = cw g h' o (pV (pZ ω ζ') υ') := by
    refine cw_own (h := h) (fun q a b => ?_)
    have e2 : cw g h o (pV (pZ ω ζ') υ') = vput (zput (cw g h o ω) (o + 19) ζ') (o + 10) υ' := by rw [cw_pZ, cw_pV]
    rw [e2]
    by_cases c1 : q = o + 10
    · subst c1
      rw [eh]
      exact vput_0.trans vput_0.symm
    · by_cases c2 : q = o + 23
      · subst c2
        rw [eh]
        exact (vput_c (w := o + 10)).trans (vput_c (w := o + 10)).symm
      · rw [low q (by omega) c1 c2]
        exact (vput_ne c1 (by omega)).symm
  have FR : frameS h h' o := by
    refine ⟨fun q a b => ?_, by rw [sz']; omega, by rw [sz']; omega, by rw [sz']; omega, by rw [sz']; omega⟩
    rw [low q a (by omega) (by omega), show (zput (cw g h o ω) (o + 19) ζ').1 q = (cw g h o ω).1 q from ov_out (by omega)]
    exact cw_out b
  have ST : SAt h' (h.2.1 + 1) σ' := by
    rw [eh]
    exact ws_S (s := h.2.1 + 1) (w := o + 10) (Or.inr (by omega))
  have high : ∀ {ω' : CW} {q : Nat}, o + 396 ≤ q → (cw g h' o ω').1 q = h'.1 q := fun hq => cw_out (by omega)
  clear C
  rw [own]
  generalize hω1 : pV (pZ ω ζ') υ' = ω1 at *
  have v0 : wV ω1 = υ' := by rw [← hω1]; rfl
  refine ⟨_, cw_o, by simp, fun h1 p1 => ?_⟩
  replace p1 := p1.trans (cw_pObj (pI ω1 0 0) rfl)
  subst p1
  refine ⟨_, cw_o, _, rfl, _, cw_at 3 rfl 10 (by decide) (by decide) (k := 0) (by decide), _, rfl, _, cw_o, by simp, fun h1 p1 => ?_⟩
  replace p1 := p1.trans (cw_pObj (pI (pI ω1 0 0) 1 ((wV ω1).1 0)) rfl)
  subst p1
  refine ⟨_, cw_o, _, rfl, _, cw_at 3 rfl 10 (by decide) (by decide) (k := 0) (by decide), _, rfl, _, cw_o, by simp, fun h1 p1 => ?_⟩
  replace p1 := p1.trans (cw_pObj (pI (pI (pI ω1 0 0) 1 ((wV ω1).1 0)) 2 ((wV ω1).1 1)) rfl)
  subst p1
  rw [v0]
  revert hm
  cases aRead (ζ'.2 0) (ζ'.2 1) with
  | inl kq =>
    obtain ⟨kd, q⟩ := kq
    rintro ⟨rfl, m1, m2, m3⟩
    rw [m2, m3]
    have hq : q < ix ζ'.1 := by rw [hT2.1, ix_nI (by omega)]; exact m1
    refine ⟨fun _ => ⟨_, cw_o, _, rfl, ⟨q1, q2⟩, hq, h', υ', ζ', HZ', FR, rfl, ?_⟩, fun c => absurd rfl c⟩
    rw [hω1]
  | inr Aq =>
    obtain ⟨A, q⟩ := Aq
    rintro ⟨rfl, m1, m2, ⟨T, T1, T2, T3, T4, T5, T6⟩, rfl, m5⟩
    rw [m1, m2]
    have bnd : ∀ p, lawIn g h.2.1 hb p → (p < o ∨ o + 396 ≤ p) ∧ lwIn o h.2.1 p hb.2.1 ∧ h'.1 p = hb.1 p := by
      intro p hp
      have hp' : p < o ∨ (h.2.1 + 8 ≤ p ∧ p < hb.2.1) := by
        rcases hp with c | c
        · left; omega
        · right; exact c
      refine ⟨by omega, ⟨by omega, by omega⟩, ?_⟩
      rw [eh]
      exact ws_out (by omega) (by omega) (by rw [tz]; omega)
    have ht' : h'.1 h.2.1 = hb.1 h.2.1 := by
      rw [eh]
      exact ws_out (by omega) (by omega) (by rw [tz]; omega)
    obtain ⟨f1, f2, f3⟩ := bnd _ T4
    obtain ⟨g1, g2, g3⟩ := bnd _ T5
    obtain ⟨i1, i2, i3⟩ := bnd _ T6
    have TO : ∀ ω', toAt (cw g h' o ω') o (h.2.1, T, A.2.2) := by
      intro ω'
      have Th : TAt h' h.2.1 T := ⟨ht'.trans T1.1, T1.2.1.of f3, T1.2.2.1.of g3, T1.2.2.2.of i3⟩
      have out : ∀ p, (p < o ∨ o + 396 ≤ p) → (cw g h' o ω').1 p = h'.1 p := fun p hp => cw_out (by omega)
      exact ⟨⟨(high ho).trans Th.1, Th.2.1.of (out _ f1), Th.2.2.1.of (out _ g1), Th.2.2.2.of (out _ i1)⟩, ST.of (fun q a b => high (by omega)), few_sok m5, Or.inr ho, f1, g1, i1⟩
    refine ⟨fun c => absurd c (by decide), fun _ => ?_⟩
    have et' : (wV ω1).2.1 = h.2.1 := by rw [v0]; exact et
    refine ⟨_, cw_o, _, rfl, _, cw_at 3 rfl 10 (by decide) (by decide) (k := 0) (by decide), _, congrArg (fun z => some (Value.ref z)) et', _, cw_o, by simp, fun h1 p1 => ?_⟩
    replace p1 := p1.trans (cw_pObj (pT (pI (pI (pI ω1 0 0) 1 0) 2 (-1)) (h.2.1, T, A.2.2)) rfl)
    subst p1
    refine ⟨_, cw_o, _, rfl, _, cw_o, _, rfl, _, (TO _).1.1, _, rfl, _, cw_S.1, ?_⟩
    refine (w_takeOver (ω := pT (pI (pI (pI ω1 0 0) 1 0) 2 (-1)) (h.2.1, T, A.2.2)) (TO _).2.1 (Or.inl (by show _ ≤ h.2.1 + 1; omega))).pv (fun h'' hr => ?_) (fun E h' f => f.elim)
    subst hr
    refine ⟨_, cw_o, _, rfl, _, cw_h, by simp [hobj], fun h1 p1 => ?_⟩
    have self2 : cw g h' o (pS (pT (pI (pI (pI ω1 0 0) 1 0) 2 (-1)) (h.2.1, T, A.2.2)) A.2.2) = hput (cw g h' o (pS (pT (pI (pI (pI ω1 0 0) 1 0) 2 (-1)) (h.2.1, T, A.2.2)) A.2.2)) (o + 31) (wH ω1) := (cw_pH (ω := pS (pT (pI (pI (pI ω1 0 0) 1 0) 2 (-1)) (h.2.1, T, A.2.2)) A.2.2) (wH ω1)).symm
    have p2 : h1 = cw g h' o (pH (pS (pT (pI (pI (pI ω1 0 0) 1 0) 2 (-1)) (h.2.1, T, A.2.2)) A.2.2) (0, (wH ω1).2)) := by
      refine p1.trans (Eq.trans (congrArg (fun H => jset H (o + 31) (hobj (o + 31) 0)) self2) ?_)
      exact (hput_o 0).trans (cw_pH _)
    subst p2
    refine ⟨_, cw_o, _, rfl, _, (TO _).1.1, _, rfl, ⟨q1, q2⟩, h', υ', ζ', T, HZ', FR, by rw [T2], T2, T3, m5, TO _, by rw [sz']; omega, by rw [sz']; exact ⟨f2, g2, i2⟩, ?_⟩
    rw [← hω1]
    rfl
def fCount (ω : CW) (i : Int32) : Int32 := if i = 0 then (tT ω).1.2.1 else if i = 1 then (wS ω).1 0 else if i = 2 then sumN ((wS ω).2 3) (sN (wS ω)) else if i = 3 then sumN ((wS ω).2 4) (sN (wS ω)) else if i = 4 then sumN ((wS ω).2 2) (sN (wS ω))
  else if i = 5 then (wS ω).1 1 else if i = 6 then tL ω else if i = 7 then (wS ω).1 2 else if i = 8 then (if (tT ω).1.1 = 0 then 0 else 1) else if i = 9 then (wH ω).1 else if i = 10 then wI ω 0 else -1
theorem w_count (S : sok (wS ω)) (T : toAt (cw g h o ω) o (wT ω)) : Con g mX11_count (d + 2) [.ref o, .int i] (cw g h o ω) (ansI g h o (.inr (fCount ω i), ω)) := by
  have sm : ∀ {r : Nat} {f : Nat → Int32} {v : Int32}, (cw g h o ω).1 r = some (srow f) → sumN f (sN (wS ω)) = v → fCount ω i = v → Con g mX6_sum (d + 1) [.ref (o + 24), .ref r] (cw g h o ω) (jPi (fun x h' => ansI g h o (.inr (fCount ω i), ω) (.inl (some (.int x))) h') (ansX g h o (.inr (fCount ω i), ω))) := by
    intro r f v hr e1 e2
    refine (c_sum cw_S.1 S hr).pi (fun x h' hx => ?_) (fun E h' f => f.elim)
    obtain ⟨rfl, rfl⟩ := hx
    exact ⟨congrArg Sum.inr (e2.trans e1.symm), fin.rf⟩
  have c0 : fCount ω i = _ := rfl
  unfold fCount at c0
  refine con_of plD (Nat.le_of_ble_eq_true rfl) rfl (bX11_count_0 ⟨fun q => ⟨_, cw_o, _, rfl, _, T.1.1, _, rfl, congrArg Sum.inr (if_pos q), fin.rf⟩, fun q0 => ?_⟩)
  have c1 := c0.trans (if_neg q0)
  refine ⟨fun q => ⟨_, cw_o, _, rfl, _, cw_S.1, _, rfl, congrArg Sum.inr (c1.trans (if_pos q)), fin.rf⟩, fun q1 => ?_⟩
  have c2 := c1.trans (if_neg q1)
  refine ⟨fun q => ⟨_, cw_o, _, rfl, _, cw_o, _, rfl, _, cw_S.1, _, rfl, _, cw_S.1, sm cw_S.2.2.2.2.1 rfl (c2.trans (if_pos q))⟩, fun q2 => ?_⟩
  have c3 := c2.trans (if_neg q2)
  refine ⟨fun q => ⟨_, cw_o, _, rfl, _, cw_o, _, rfl, _, cw_S.1, _, rfl, _, cw_S.1, sm cw_S.2.2.2.2.2.1 rfl (c3.trans (if_pos q))⟩, fun q3 => ?_⟩
  have c4 := c3.trans (if_neg q3)
  refine ⟨fun q => ⟨_, cw_o, _, rfl, _, cw_o, _, rfl, _, cw_S.1, _, rfl, _, cw_S.1, sm cw_S.2.2.2.1 rfl (c4.trans (if_pos q))⟩, fun q4 => ?_⟩
  have c5 := c4.trans (if_neg q4)
  refine ⟨fun q => ⟨_, cw_o, _, rfl, _, cw_S.1, _, rfl, congrArg Sum.inr (c5.trans (if_pos q)), fin.rf⟩, fun q5 => ?_⟩
  have c6 := c5.trans (if_neg q5)
  refine ⟨fun q => ⟨_, cw_o, _, rfl, _, T.1.1, _, rfl, congrArg Sum.inr (c6.trans (if_pos q)), fin.rf⟩, fun q6 => ?_⟩
  have c7 := c6.trans (if_neg q6)
  refine ⟨fun q => ⟨_, cw_o, _, rfl, _, cw_S.1, _, rfl, congrArg Sum.inr (c7.trans (if_pos q)), fin.rf⟩, fun q7 => ?_⟩
  have c8 := c7.trans (if_neg q7)
  refine ⟨fun q => ⟨_, cw_o, _, rfl, _, T.1.1, _, rfl, fun r => ⟨congrArg Sum.inr (c8.trans ((if_pos q).trans (if_pos r))), fin.rf⟩, fun r => ⟨congrArg Sum.inr (c8.trans ((if_pos q).trans (if_neg r))), fin.rf⟩⟩, fun q8 => ?_⟩
  have c9 := c8.trans (if_neg q8)
  refine ⟨fun q => ⟨_, cw_o, _, rfl, _, cw_h, _, rfl, congrArg Sum.inr (c9.trans (if_pos q)), fin.rf⟩, fun q9 => ?_⟩
  have ca := c9.trans (if_neg q9)
  exact ⟨fun q => ⟨_, cw_o, _, rfl, congrArg Sum.inr (ca.trans (if_pos q)), fin.rf⟩, fun qa => ⟨congrArg Sum.inr (ca.trans (if_neg qa)), fin.rf⟩⟩
end CMd
