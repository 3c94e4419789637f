/-! The class's methods: perform, year, judge -/
def perL (f : Nat → Int64) : Nat → Nat → CW → Int32 × CW
  | 0, j, ω => (nI j, ω)
  | m + 1, j, ω => if (fCould ω (f j)).1 = true then perL f m (j + 1) (fCould ω (f j)).2 else (nI j, (fCould ω (f j)).2)
def fPerform (ω : CW) (i : Int32) : An Int32 × CW := match whyTr ω i with
  | some E => (.inl E, ω)
  | none => (.inr (perL (wY ω (ix i)).2.2 (ix (wY ω (ix i)).1) 0 ω).1, (perL (wY ω (ix i)).2.2 (ix (wY ω (ix i)).1) 0 ω).2)
def drw (x : Int32) : Int32 := 1103515245 * x + 12345
def drv (x m : Int32) : Int32 := if m < 1 then 0 else ((x.toUInt32 >>> ((16 : Int32).toUInt32 &&& Int32.toUInt32 31)).toInt32 - (x.toUInt32 >>> ((16 : Int32).toUInt32 &&& Int32.toUInt32 31)).toInt32 / m * m)
def drD (n x : Int32) : Int32 × Int32 := if drv (drw x) 6 < 2 then (-1, drw x) else if n = 0 then (0, drw x)
  else if drv (drw x) 6 = 2 then (drv (drw (drw x)) n * 10 + drv (drw (drw (drw x))) n, drw (drw (drw x)))
  else if drv (drw x) 6 = 3 then (100 + drv (drw (drw x)) n, drw (drw x))
  else if drv (drw x) 6 = 4 then (200 + drv (drw (drw x)) n, drw (drw x))
  else (300 + drv (drw (drw x)) n * 10 + drv (drw (drw (drw x))) n, drw (drw (drw x)))
def yrStep (ω : CW) : Bool × CW := fCould (pI ω 3 (drD ((wS ω).1 0) (wI ω 3)).2) (drD ((wS ω).1 0) (wI ω 3)).1.toInt64
def yrL : Nat → Int32 → CW → Int32 × CW
  | 0, c, ω => (c, ω)
  | m + 1, c, ω => yrL m (if (yrStep ω).1 = true then c + 1 else c) (yrStep ω).2
def fYear (ω : CW) (s n : Int32) : An Int32 × CW := if inN n 1 30 = false then (.inl iae, ω) else (.inr (yrL (ix n) 0 (pI ω 3 s)).1, (yrL (ix n) 0 (pI ω 3 s)).2)
def judL (T : Td) (lim : Int32) (f : Nat → Int64) : Nat → Nat → St → Int32 × Int32 × St
  | 0, _, α => (-1, 0, α)
  | m + 1, j, α => if whyF α (f j) = 0 then judL T lim f m (j + 1) (carF T lim α (f j)) else (nI j, whyF α (f j), α)
def judV (r : Int32 × Int32 × St) (w : Int32) : Int32 := if w = 0 then r.1 else if w = 1 then r.2.1 else if w = 2 then sumN (r.2.2.2 4) (sN r.2.2) else r.2.2.1 2
def fJudge (ω : CW) (i w : Int32) : An Int32 := match whyTr ω i with
  | some E => .inl E
  | none => if inN w 0 3 = false then .inl iae else .inr (judV (judL (tT ω) (tL ω) (wY ω (ix i)).2.2 (ix (wY ω (ix i)).1) 0 (wS ω)) w)
/-- what a deed keeps -/
theorem could_keep {ω : CW} {v : Int64} (S : sok (wS ω)) (O : hok (wH ω)) : sok (wS (fCould ω v).2) ∧ hok (wH (fCould ω v).2) ∧ wT (fCould ω v).2 = wT ω ∧ wY (fCould ω v).2 = wY ω := by
  unfold fCould
  split
  · exact ⟨sok_0 carF_1 S, hpush_ok O _, rfl, rfl⟩
  · exact ⟨S, O, rfl, rfl⟩
section CMb
variable {g : jG} {d : Nat} {h : jH} {o : Nat} {ω : CW} {α : St} {κ : Ks} {i k n : Int32}
theorem perform_loop {ω0 : CW} (T : toAt (cw g h o ω0) o (wT ω0)) {t M : Nat} (ht : t < 4) (hM : M ≤ 30) (eM : (wY ω0 t).1 = nI M) {R : Int32 × CW} {hs : jH} : ∀ m j ω κ, M = j + m → sok (wS ω) → hok (wH ω) → wT ω = wT ω0 → wY ω = wY ω0 → perL (wY ω0 t).2.2 m j ω = R →
    J g mX11_perform (d + 8) hs (ansI g h o (.inr R.1, R.2)) 8 [(0, .ref o), (2, .ref (o + (345 + 2 * t))), (3, .int (nI j))] [] (cw g h o (pK ω κ)) := by
  intro m
  induction m with
  | zero =>
    intro j ω κ hj S O eT eY e
    have : j = M := by omega
    subst this
    have Yc := (cw_Y (g := g) (h := h) (o := o) (ω := pK ω κ) ht).1
    rw [show wY (pK ω κ) t = wY ω0 t from congrFun eY t] at Yc
    refine bX11_perform_8 ⟨_, Yc, _, rfl, fun c => ?_, fun _ => ⟨_, Yc, _, rfl, ?_⟩⟩
    · have c' : nI j < (wY ω0 t).1 := c
      rw [eM] at c'
      exact absurd c' (nI_nlt (Nat.le_refl _) (by omega))
    · rw [← e]
      exact ⟨congrArg Sum.inr eM.symm, fin.of (scr_K _ _)⟩
  | succ m ih =>
    intro j ω κ hj S O eT eY e
    have Y := cw_Y (g := g) (h := h) (o := o) (ω := pK ω κ) ht
    rw [show wY (pK ω κ) t = wY ω0 t from congrFun eY t] at Y
    have hjM : nI j < (wY ω0 t).1 := by rw [eM]; exact nI_lt (by omega) (by omega)
    refine bX11_perform_8 ⟨_, Y.1, _, rfl, fun _ => ⟨_, Y.1, ?_⟩, fun c => absurd hjM c⟩
    refine (c_at Y).pl (fun r h' hr => ?_) (fun E h' f => f.elim)
    obtain ⟨hr, rfl⟩ := hr
    have er := hr (vp_in_nI (by omega) (by decide))
    rw [ix_nI (n := j) (by omega)] at er
    subst er
    refine ⟨_, cw_o, ?_⟩
    have T' : toAt (cw g h o ω) o (wT ω) := by rw [eT]; exact T.mv
    refine (n_couldDo (ω := ω) (κ := κ) S O T').pi (fun r h' hr => ?_) (fun E h' f => f.elim)
    obtain ⟨rfl, κ', rfl⟩ := hr
    have K := could_keep (v := (wY ω0 t).2.2 j) S O
    refine ⟨fun q => ?_, fun q => ?_⟩
    · have e1 : perL (wY ω0 t).2.2 (m + 1) j ω = (nI j, (fCould ω ((wY ω0 t).2.2 j)).2) := if_neg (by rw [(bI_0 rfl).1.mp q]; decide)
      rw [← e, e1]
      exact ⟨rfl, fin.of (scr_K _ _)⟩
    · have e1 : perL (wY ω0 t).2.2 (m + 1) j ω = perL (wY ω0 t).2.2 m (j + 1) (fCould ω ((wY ω0 t).2.2 j)).2 := if_pos ((bI_0 rfl).2.mp q)
      rw [nI_1]
      exact ih (j + 1) _ κ' (by omega) K.1 K.2.1 (K.2.2.1.trans eT) (K.2.2.2.trans eY) (e1.symm.trans e)
theorem w_perform (R : jroom g h 1 6) (S : sok (wS ω)) (O : hok (wH ω)) (T : toAt (cw g h o ω) o (wT ω)) (Y : trs ω) : Con g mX11_perform (d + 8) [.ref o, .int i] (cw g h o ω) (ansI g h o (fPerform ω i)) := by
  refine con_of plD (Nat.le_of_ble_eq_true rfl) rfl (bX11_perform_0 ⟨_, cw_o, ?_⟩)
  refine (w_trayAt R).pr (fun r h' hr => ?_) (fun E h' f => f.2.ans (R := fPerform ω i) (by unfold fPerform; rw [f.1]) (by unfold fPerform; rw [f.1]; exact scr.rf _))
  obtain ⟨hw, hi, rfl, rfl⟩ := hr
  obtain ⟨ei, i4⟩ := trOk_ix hi
  obtain ⟨M, hM, eM⟩ := Y (ix i) i4
  have e1 : fPerform ω i = (.inr (perL (wY ω (ix i)).2.2 (ix (wY ω (ix i)).1) 0 ω).1, (perL (wY ω (ix i)).2.2 (ix (wY ω (ix i)).1) 0 ω).2) := by unfold fPerform; rw [hw]
  rw [e1, eM, ix_nI (n := M) (by omega)]
  exact perform_loop (ω0 := ω) T i4 hM eM M 0 ω (wK ω) (Nat.zero_add _).symm S O rfl rfl rfl
/-! the year -/
theorem n_draw {m : Int32} : Con g mX11_draw (d + 1) [.ref o, .int m] (cw g h o ω) (jPi (fun r h' => r = drv (drw (wI ω 3)) m ∧ h' = cw g h o (pI ω 3 (drw (wI ω 3)))) no2) := by
  refine con_of km_X11_draw.1.2.2.2.2 (Nat.le_of_ble_eq_true rfl) rfl (bX11_draw_0 ⟨_, cw_o, _, rfl, _, cw_o, by simp, fun h1 q1 => ?_⟩)
  replace q1 := q1.trans (cw_pObj (pI ω 3 (drw (wI ω 3))) rfl)
  subst q1
  refine ⟨fun q => ⟨(if_pos q).symm, rfl⟩, fun q => ⟨_, cw_o, _, rfl, fun c => ?_, (if_neg q).symm, rfl⟩⟩
  subst c
  exact q (by decide)
theorem n_drawDeed : Con g mX11_drawDeed (d + 2) [.ref o] (cw g h o ω) (jPi (fun r h' => r = (drD ((wS ω).1 0) (wI ω 3)).1 ∧ h' = cw g h o (pI ω 3 (drD ((wS ω).1 0) (wI ω 3)).2)) no2) := by
  have pp : ∀ x y, pI (pI ω 3 x) 3 y = pI ω 3 y := by
    intro x y
    unfold pI
    refine congrArg (fun f => (ω.1, f, ω.2.2)) (funext fun j => ?_)
    show (if j = 3 then y else if j = 3 then x else ω.2.1 j) = _
    by_cases hj : j = 3
    · rw [if_pos hj, if_pos hj]
    · rw [if_neg hj, if_neg hj, if_neg hj]
  refine con_of km_X11_drawDeed.1.2.2.2.2 (Nat.le_of_ble_eq_true rfl) rfl (bX11_drawDeed_0 ⟨_, cw_o, ?_⟩)
  refine n_draw.pi (fun r h' hr => ?_) (fun E h' f => f.elim)
  obtain ⟨rfl, rfl⟩ := hr
  refine ⟨fun q => ?_, fun q1 => ⟨_, cw_o, _, rfl, _, cw_S.1, _, rfl, fun q => ?_, fun q2 => ⟨_, cw_o, _, rfl, _, cw_S.1, _, rfl, _, cw_o, ?_⟩⟩⟩
  · rw [show drD ((wS ω).1 0) (wI ω 3) = (-1, drw (wI ω 3)) from if_pos q]
    exact ⟨rfl, rfl⟩
  · rw [show drD ((wS ω).1 0) (wI ω 3) = (0, drw (wI ω 3)) from (if_neg q1).trans (if_pos q)]
    exact ⟨rfl, rfl⟩
  have e2 : drD ((wS ω).1 0) (wI ω 3) = _ := (if_neg q1).trans (if_neg q2)
  refine (n_draw (ω := pI ω 3 (drw (wI ω 3)))).pi (fun r h' hr => ?_) (fun E h' f => f.elim)
  obtain ⟨rfl, rfl⟩ := hr
  rw [pp]
  refine ⟨fun q => ⟨_, cw_o, _, rfl, _, cw_S.1, _, rfl, _, cw_o, ?_⟩, fun q3 => ⟨fun q => ?_, fun q4 => ⟨fun q => ?_, fun q5 => ⟨_, cw_o, _, rfl, _, cw_S.1, _, rfl, _, cw_o, ?_⟩⟩⟩⟩
  · refine (n_draw (ω := pI ω 3 (drw (drw (wI ω 3))))).pi (fun r h' hr => ?_) (fun E h' f => f.elim)
    obtain ⟨rfl, rfl⟩ := hr
    rw [pp, e2, if_pos q]
    exact ⟨rfl, rfl⟩
  · rw [e2, if_neg q3, if_pos q]
    exact ⟨rfl, rfl⟩
  · rw [e2, if_neg q3, if_neg q4, if_pos q]
    exact ⟨rfl, rfl⟩
  · refine (n_draw (ω := pI ω 3 (drw (drw (wI ω 3))))).pi (fun r h' hr => ?_) (fun E h' f => f.elim)
    obtain ⟨rfl, rfl⟩ := hr
    rw [pp, e2, if_neg q3, if_neg q4, if_neg q5]
    exact ⟨rfl, rfl⟩
theorem year_loop {ω0 : CW} (T : toAt (cw g h o ω0) o (wT ω0)) {N : Nat} (hN : N < 2 ^ 31) {R : Int32 × CW} {hs : jH} : ∀ m j c ω κ, N = j + m → sok (wS ω) → hok (wH ω) → wT ω = wT ω0 → yrL m c ω = R →
    J g mX11_year (d + 8) hs (ansI g h o (.inr R.1, R.2)) 18 [(0, .ref o), (2, .int (nI N)), (3, .int c), (4, .int (nI j))] [] (cw g h o (pK ω κ)) := by
  intro m
  induction m with
  | zero =>
    intro j c ω κ hj S O eT e
    refine bX11_year_18 ⟨fun c => absurd c (nI_nlt (by omega) (by omega)), fun _ => ?_⟩
    rw [← e]
    exact ⟨rfl, fin.of (scr_K _ _)⟩
  | succ m ih =>
    intro j c ω κ hj S O eT e
    refine bX11_year_18 ⟨fun _ => ⟨_, cw_o, ?_⟩, fun c => absurd (nI_lt (by omega) hN) c⟩
    refine (n_drawDeed (ω := pK ω κ)).pi (fun r h' hr => ?_) (fun E h' f => f.elim)
    obtain ⟨rfl, rfl⟩ := hr
    refine ⟨_, cw_o, ?_⟩
    have T' : toAt (cw g h o (pI ω 3 (drD ((wS ω).1 0) (wI ω 3)).2)) o (wT (pI ω 3 (drD ((wS ω).1 0) (wI ω 3)).2)) := by
      show toAt _ o (wT ω)
      rw [eT]; exact T.mv
    refine (n_couldDo (ω := pI ω 3 (drD ((wS ω).1 0) (wI ω 3)).2) (κ := κ) (v := (drD ((wS ω).1 0) (wI ω 3)).1.toInt64) S O T').pi (fun r h' hr => ?_) (fun E h' f => f.elim)
    obtain ⟨rfl, κ', rfl⟩ := hr
    have K := could_keep (ω := pI ω 3 (drD ((wS ω).1 0) (wI ω 3)).2) (v := (drD ((wS ω).1 0) (wI ω 3)).1.toInt64) S O
    rw [nI_1]
    refine ⟨fun q => ih (j + 1) _ _ κ' (by omega) K.1 K.2.1 (K.2.2.1.trans eT) (Eq.trans ?_ e), fun q => ih (j + 1) _ _ κ' (by omega) K.1 K.2.1 (K.2.2.1.trans eT) (Eq.trans ?_ e)⟩
    · have q' : (yrStep ω).1 = false := (bI_0 rfl).1.mp q
      rw [show yrL (m + 1) c ω = yrL m (if (yrStep ω).1 = true then c + 1 else c) (yrStep ω).2 from rfl, q']
      rfl
    · have q' : (yrStep ω).1 = true := (bI_0 rfl).2.mp q
      rw [show yrL (m + 1) c ω = yrL m (if (yrStep ω).1 = true then c + 1 else c) (yrStep ω).2 from rfl, q']
      rfl
theorem w_year {s : Int32} (R : jroom g h 1 6) (S : sok (wS ω)) (O : hok (wH ω)) (T : toAt (cw g h o ω) o (wT ω)) : Con g mX11_year (d + 8) [.ref o, .int s, .int n] (cw g h o ω) (ansI g h o (fYear ω s n)) := by
  refine con_of plD (Nat.le_of_ble_eq_true rfl) rfl (bX11_year_0 ⟨_, cw_o, ?_⟩)
  refine (w_checkWithin R).pv (fun h' hr => ?_) (fun E h' f => f.2.ans (R := fYear ω s n) (by unfold fYear; rw [if_pos f.1]) (by unfold fYear; rw [if_pos f.1]; exact scr.rf _))
  obtain ⟨hn, rfl⟩ := hr
  obtain ⟨en, n1, n2⟩ := inN_nI (a := 1) (b := 30) (by omega) (by omega) hn
  have e1 : fYear ω s n = (.inr (yrL (ix n) 0 (pI ω 3 s)).1, (yrL (ix n) 0 (pI ω 3 s)).2) := if_neg (by rw [hn]; decide)
  rw [e1]
  refine ⟨_, cw_o, by simp, fun h1 q1 => ?_⟩
  replace q1 := q1.trans (cw_pObj (pI ω 3 s) rfl)
  subst q1
  have key := year_loop (g := g) (d := d) (h := h) (o := o) (ω0 := ω) (hs := cw g h o ω) T (N := ix n) (by omega) (ix n) 0 0 (pI ω 3 s) (wK ω) (Nat.zero_add _).symm S O rfl rfl
  rw [← en] at key
  exact key
/-! judge -/
theorem judge_97 {r : Int32 × Int32 × St} {w : Int32} {R : An Int32} (Sα : sok r.2.2) (e : .inr (judV r w) = R) {hs : jH} : J g mX11_judge (d + 8) hs (ansI g h o (R, ω)) 97 [(2, .int w), (4, .ref (o + 361)), (5, .int r.1), (6, .int r.2.1)] [] (cw g h o (ak ω r.2.2 κ)) := by
  subst e
  refine bX11_judge_97 ⟨fun q => ⟨congrArg Sum.inr (if_pos q), fin.of scr_ak⟩, fun q1 => ⟨fun q => ⟨congrArg Sum.inr ((if_neg q1).trans (if_pos q)), fin.of scr_ak⟩, fun q2 => ⟨fun q => ⟨_, ak_A.1, _, rfl, _, ak_A.1, ?_⟩, fun q => ⟨_, ak_A.1, _, rfl, congrArg Sum.inr ((if_neg q1).trans ((if_neg q2).trans (if_neg q))), fin.of scr_ak⟩⟩⟩⟩
  refine (c_sum ak_A.1 Sα ak_A.2.2.2.2.2.1).pi (fun v h' hr => ?_) (fun E h' f => f.elim)
  obtain ⟨rfl, rfl⟩ := hr
  exact ⟨congrArg Sum.inr ((if_neg q1).trans ((if_neg q2).trans (if_pos q))), fin.of scr_ak⟩
theorem judge_loop (T : toAt (cw g h o ω) o (wT ω)) {t M : Nat} (ht : t < 4) (hM : M ≤ 30) (eM : (wY ω t).1 = nI M) {w : Int32} {R : An Int32} {hs : jH} : ∀ m j α κ, M = j + m → sok α → .inr (judV (judL (tT ω) (tL ω) (wY ω t).2.2 m j α) w) = R →
    J g mX11_judge (d + 8) hs (ansI g h o (R, ω)) 39 [(0, .ref o), (2, .int w), (3, .ref (o + (345 + 2 * t))), (4, .ref (o + 361)), (5, .int (-1)), (6, .int 0), (7, .int (nI j))] [] (cw g h o (ak ω α κ)) := by
  intro m
  induction m with
  | zero =>
    intro j α κ hj Sα e
    have : j = M := by omega
    subst this
    refine bX11_judge_39 ⟨_, (cw_Y (ω := ak ω α κ) ht).1, _, rfl, fun c => ?_, fun _ => judge_97 (r := (-1, 0, α)) Sα e⟩
    have c' : nI j < (wY ω t).1 := c
    rw [eM] at c'
    exact absurd c' (nI_nlt (Nat.le_refl _) (by omega))
  | succ m ih =>
    intro j α κ hj Sα e
    have Y : YAt (cw g h o (ak ω α κ)) (o + (345 + 2 * t)) (wY ω t) := cw_Y (ω := ak ω α κ) ht
    have hjM : nI j < (wY ω t).1 := by rw [eM]; exact nI_lt (by omega) (by omega)
    have hin : vp_in (nI j) 30 := vp_in_nI (by omega) (by decide)
    refine bX11_judge_39 ⟨_, Y.1, _, rfl, fun _ => ⟨fun _ => ⟨_, Y.1, ?_⟩, fun c => absurd rfl c⟩, fun c => absurd hjM c⟩
    refine (c_at Y).pl (fun r h' hr => ?_) (fun E h' f => f.elim)
    obtain ⟨hr, rfl⟩ := hr
    have er := hr hin
    rw [ix_nI (n := j) (by omega)] at er
    subst er
    refine ⟨_, ak_o, ?_⟩
    refine (c_whyNotD (d := d + 3) ak_A Sα).pi (fun r h' hr => ?_) (fun E h' f => f.elim)
    obtain ⟨rfl, rfl⟩ := hr
    refine ⟨fun q => ⟨_, Y.1, ?_⟩, fun q => ?_⟩
    · refine (c_at Y).pl (fun r h' hr => ?_) (fun E h' f => f.elim)
      obtain ⟨hr, rfl⟩ := hr
      have er := hr hin
      rw [ix_nI (n := j) (by omega)] at er
      subst er
      refine ⟨_, ak_o, ?_⟩
      refine (a_carry (d := d + 1) Sα T).pv (fun h' hr => ?_) (fun E h' f => f.elim)
      obtain ⟨κ', rfl⟩ := hr
      rw [nI_1, q]
      refine ih (j + 1) _ κ' (by omega) (sok_0 carF_1 Sα) (Eq.trans ?_ e)
      rw [judL, if_pos q]
    · rw [nI_1]
      have e1 : judL (tT ω) (tL ω) (wY ω t).2.2 (m + 1) j α = (nI j, whyF α ((wY ω t).2.2 j), α) := if_neg q
      rw [e1] at e
      have stop : ∀ hs x7, J g mX11_judge (d + 8) hs (ansI g h o (R, ω)) 39 [(0, .ref o), (2, .int w), (3, .ref (o + (345 + 2 * t))), (4, .ref (o + 361)), (5, .int (nI j)), (6, .int (whyF α ((wY ω t).2.2 j))), (7, .int x7)] [] (cw g h o (ak ω α κ)) := by
        intro hs x7
        exact bX11_judge_39 ⟨_, Y.1, _, rfl, fun _ => ⟨fun c => absurd c q, fun _ => judge_97 (r := (nI j, whyF α ((wY ω t).2.2 j), α)) Sα e⟩, fun _ => judge_97 (r := (nI j, whyF α ((wY ω t).2.2 j), α)) Sα e⟩
      exact stop _ _
theorem w_judge {w : Int32} (R : jroom g h 1 6) (S : sok (wS ω)) (T : toAt (cw g h o ω) o (wT ω)) (Y : trs ω) : Con g mX11_judge (d + 8) [.ref o, .int i, .int w] (cw g h o ω) (ansI g h o (fJudge ω i w, ω)) := by
  refine con_of plD (Nat.le_of_ble_eq_true rfl) rfl (bX11_judge_0 ⟨_, cw_o, ?_⟩)
  refine (w_trayAt R).pr (fun r h' hr => ?_) (fun E h' f => f.2.ans (by show fJudge ω i w = _; unfold fJudge; rw [f.1]) (scr.rf _))
  obtain ⟨hw, hi, rfl, rfl⟩ := hr
  obtain ⟨ei, i4⟩ := trOk_ix hi
  obtain ⟨M, hM, eM⟩ := Y (ix i) i4
  have e1 : fJudge ω i w = if inN w 0 3 = false then .inl iae else .inr (judV (judL (tT ω) (tL ω) (wY ω (ix i)).2.2 (ix (wY ω (ix i)).1) 0 (wS ω)) w) := by unfold fJudge; rw [hw]
  refine ⟨_, cw_o, ?_⟩
  refine (w_checkWithin R).pv (fun h' hr => ?_) (fun E h' f => f.2.ans (e1.trans (if_pos f.1)) (scr.rf _))
  obtain ⟨hww, rfl⟩ := hr
  have e2 := e1.trans (if_neg (by rw [hww]; decide))
  refine ⟨_, cw_o, _, rfl, _, cw_o, _, rfl, _, cw_o, _, rfl, _, cw_k, ?_⟩
  refine a_from0.pr (fun r h' hr => ?_) (fun E h' f => f.elim)
  obtain ⟨rfl, rfl⟩ := hr
  refine judge_loop T i4 hM eM M 0 (wS ω) _ (Nat.zero_add _).symm S ?_
  rw [e2, eM, ix_nI (n := M) (by omega)]
end CMb
