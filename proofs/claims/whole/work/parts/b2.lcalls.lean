/-! The class's calls in the law's world -/
section LCC
variable {g : jG} {H : jH} {o L j : Nat} {xs : Nat → Int32} {ω : CW} {μ : MW} {i k n w s p m : Int32} {v : Int64} {E : String}
theorem xw_tr (h : whyTr ω i = some E) : E = nse ∨ E = ise := by
  unfold whyTr at h
  (repeat' split at h) <;> first | (have h' := Option.some.inj h; subst h'; first | exact Or.inl rfl | exact Or.inr rfl) | cases h
theorem xw_seen (h : whySeen ω i k = some E) : E = nse ∨ E = ise ∨ E = iae := by
  unfold whySeen at h
  (repeat' split at h) <;> first | (have h' := Option.some.inj h; subst h'; first | exact Or.inl rfl | exact Or.inr (Or.inl rfl) | exact Or.inr (Or.inr rfl)) | cases h
theorem kx_could : kpx ω (fCould ω v).2 := by
  unfold fCould
  split
  · exact kpx.of rfl rfl rfl
  · exact kpx.rf
theorem kx_per (f : Nat → Int64) : ∀ m j (ω : CW), kpx ω (perL f m j ω).2
  | 0, _, _ => kpx.rf
  | m + 1, j, ω => by
    unfold perL
    split
    · exact kx_could.tr (kx_per f m _ _)
    · exact kx_could
theorem kx_step (ω : CW) : kpx ω (yrStep ω).2 := by
  unfold yrStep
  exact kpx.tr (b := pI ω 3 (drD ((wS ω).1 0) (wI ω 3)).2) (kpx.of rfl rfl rfl) kx_could
theorem kx_yr : ∀ m c (ω : CW), kpx ω (yrL m c ω).2
  | 0, _, _ => kpx.rf
  | m + 1, c, ω => by
    show kpx ω (yrL m (if (yrStep ω).1 = true then c + 1 else c) (yrStep ω).2).2
    exact kpx.tr (kx_step ω) (kx_yr m _ _)

theorem nx_fault (h : (.inr (fFault ω i) : An Int32) = .inl E) : False := by
  exact (Sum.inr_ne_inl h).elim
theorem cc_fault (I : LI g L xs o j H ω μ) : Con g mX11_fault 120 [.ref o, .int i] (lh g H o ω μ) (jPi (fun r h' => (.inr (fFault ω i) : An Int32) = .inr r ∧ ∃ ω1, scr ω ω1 ∧ h' = lh g H o ω1 μ) no2) :=
  (w_fault (d := 119) (h := mw H (o + 396) μ) (i := i) ).pi (fun r h' y => ⟨y.1, fin_lh (n := H.2.1) (s := H.2.2) y.2⟩) (fun E h' y => (nx_fault y.1).elim)
theorem xe_house (h : fHouse ω i k = .inl E) : E = nse ∨ E = iae := by
  unfold fHouse at h
  (repeat' split at h) <;> first | exact (Sum.inr_ne_inl h).elim | (have h' := Sum.inl.inj h; subst h'; first | exact rfl | exact Or.inl rfl | exact Or.inr rfl | exact Or.inr (Or.inl rfl) | exact Or.inr (Or.inr rfl))
theorem cc_house (hN : jnc g) (I : LI g L xs o j H ω μ) : Con g mL_house 120 [.ref o, .int i, .int k, .ref (o + 414)] (lh g H o ω μ) (jPi (CR g L xs o H μ [nse, iae] (outD o (fun r : Int32 => r.toInt64)) (one (fHouse ω i k, ω))) no2) :=
  (l_house (d := 119) (a := o + 414) hN cw_o (w_house (d := 116) (h := mw H (o + 396) μ) (i := i) (k := k) I.Rm I.So I.Tk) (fun r h' q => fin_out I.1 q.2) (fun E h' q => xe_house q.1)).pi (fun k h' y => cr_of I.1 y) (fun E h' f => f)
theorem xe_household (h : fHold ω i k = .inl E) : E = nse ∨ E = iae := by
  unfold fHold at h
  (repeat' split at h) <;> first | exact (Sum.inr_ne_inl h).elim | (have h' := Sum.inl.inj h; subst h'; first | exact rfl | exact Or.inl rfl | exact Or.inr rfl | exact Or.inr (Or.inl rfl) | exact Or.inr (Or.inr rfl))
theorem cc_household (hN : jnc g) (I : LI g L xs o j H ω μ) : Con g mL_household 120 [.ref o, .int i, .int k, .ref (o + 414)] (lh g H o ω μ) (jPi (CR g L xs o H μ [nse, iae] (outD o (fun r : Int32 => r.toInt64)) (one (fHold ω i k, ω))) no2) :=
  (l_household (d := 119) (a := o + 414) hN cw_o (w_household (d := 116) (h := mw H (o + 396) μ) (i := i) (k := k) I.Rm I.So) (fun r h' q => fin_out I.1 q.2) (fun E h' q => xe_household q.1)).pi (fun k h' y => cr_of I.1 y) (fun E h' f => f)
theorem xe_pays (h : fPays ω i = .inl E) : E = nse ∨ E = ise := by
  unfold fPays at h
  (repeat' split at h) <;> first | exact (Sum.inr_ne_inl h).elim | (have h' := Sum.inl.inj h; subst h'; first | exact rfl | exact Or.inl rfl | exact Or.inr rfl | exact Or.inr (Or.inl rfl) | exact Or.inr (Or.inr rfl))
theorem cc_pays (hN : jnc g) (I : LI g L xs o j H ω μ) : Con g mL_pays 120 [.ref o, .int i, .ref (o + 414)] (lh g H o ω μ) (jPi (CR g L xs o H μ [nse, ise] (outD o (fun r : Int32 => r.toInt64)) (one (fPays ω i, ω))) no2) :=
  (l_pays (d := 119) (a := o + 414) hN cw_o (w_pays (d := 115) (h := mw H (o + 396) μ) (i := i) I.Rm I.So I.Tk) (fun r h' q => fin_out I.1 q.2) (fun E h' q => xe_pays q.1)).pi (fun k h' y => cr_of I.1 y) (fun E h' f => f)
theorem xe_grows (h : fGrows ω i n = .inl E) : E = nse ∨ E = iae := by
  unfold fGrows at h
  (repeat' split at h) <;> first | exact (Sum.inr_ne_inl h).elim | (have h' := Sum.inl.inj h; subst h'; first | exact rfl | exact Or.inl rfl | exact Or.inr rfl | exact Or.inr (Or.inl rfl) | exact Or.inr (Or.inr rfl))
theorem cc_grows (hN : jnc g) (I : LI g L xs o j H ω μ) : Con g mL_grows 120 [.ref o, .int i, .int n, .ref (o + 414)] (lh g H o ω μ) (jPi (CR g L xs o H μ [nse, iae] (outD o (fun r : Int32 => r.toInt64)) (one (fGrows ω i n, ω))) no2) :=
  (l_grows (d := 119) (a := o + 414) hN cw_o (w_grows (d := 115) (h := mw H (o + 396) μ) (i := i) (n := n) I.Rm I.So I.Tk) (fun r h' q => fin_out I.1 q.2) (fun E h' q => xe_grows q.1)).pi (fun k h' y => cr_of I.1 y) (fun E h' f => f)
theorem xe_takes (h : fTakes ω i n = .inl E) : E = nse ∨ E = iae := by
  unfold fTakes at h
  (repeat' split at h) <;> first | exact (Sum.inr_ne_inl h).elim | (have h' := Sum.inl.inj h; subst h'; first | exact rfl | exact Or.inl rfl | exact Or.inr rfl | exact Or.inr (Or.inl rfl) | exact Or.inr (Or.inr rfl))
theorem cc_takes (hN : jnc g) (I : LI g L xs o j H ω μ) : Con g mL_takes 120 [.ref o, .int i, .int n, .ref (o + 414)] (lh g H o ω μ) (jPi (CR g L xs o H μ [nse, iae] (outD o (fun r : Int32 => if r = 0 then 0 else 1)) (one (fTakes ω i n, ω))) no2) :=
  (l_takes (d := 119) (a := o + 414) hN cw_o (w_takes (d := 115) (h := mw H (o + 396) μ) (i := i) (n := n) I.Rm I.So I.Tk) (fun r h' q => fin_out I.1 q.2) (fun E h' q => xe_takes q.1)).pi (fun k h' y => cr_of I.1 y) (fun E h' f => f)
theorem nx_swap (h : (fSwap ω i k).1 = .inl E) : False := by
  unfold fSwap at h
  (repeat' split at h) <;> exact (Sum.inr_ne_inl h).elim
theorem kx_swap : kpx ω (fSwap ω i k).2 := by
  unfold fSwap
  (repeat' split) <;> first | exact kpx.rf | exact kpx.of rfl rfl rfl
theorem cc_swap (I : LI g L xs o j H ω μ) : Con g mX11_swap 120 [.ref o, .int i, .int k] (lh g H o ω μ) (jPi (fun r h' => (fSwap ω i k).1 = .inr r ∧ ∃ ω1, scr (fSwap ω i k).2 ω1 ∧ h' = lh g H o ω1 μ) no2) :=
  (w_swap (d := 117) (h := mw H (o + 396) μ) (i := i) (k := k) I.So I.Ho).pi (fun r h' y => ⟨y.1, fin_lh (n := H.2.1) (s := H.2.2) y.2⟩) (fun E h' y => (nx_swap y.1).elim)
theorem nx_gift (h : (fGift ω i k n).1 = .inl E) : False := by
  unfold fGift at h
  (repeat' split at h) <;> exact (Sum.inr_ne_inl h).elim
theorem kx_gift : kpx ω (fGift ω i k n).2 := by
  unfold fGift
  (repeat' split) <;> first | exact kpx.rf | exact kpx.of rfl rfl rfl
theorem cc_gift (I : LI g L xs o j H ω μ) : Con g mX11_gift 120 [.ref o, .int i, .int k, .int n] (lh g H o ω μ) (jPi (fun r h' => (fGift ω i k n).1 = .inr r ∧ ∃ ω1, scr (fGift ω i k n).2 ω1 ∧ h' = lh g H o ω1 μ) no2) :=
  (w_gift (d := 116) (h := mw H (o + 396) μ) (i := i) (k := k) (n := n) I.So I.Ho).pi (fun r h' y => ⟨y.1, fin_lh (n := H.2.1) (s := H.2.2) y.2⟩) (fun E h' y => (nx_gift y.1).elim)
theorem xe_plant (h : (fPlant ω i n).1 = .inl E) : E = nse ∨ E = iae := by
  unfold fPlant at h
  (repeat' split at h) <;> first | exact (Sum.inr_ne_inl h).elim | (have h' := Sum.inl.inj h; subst h'; first | exact rfl | exact Or.inl rfl | exact Or.inr rfl | exact Or.inr (Or.inl rfl) | exact Or.inr (Or.inr rfl))
theorem kx_plant : kpx ω (fPlant ω i n).2 := by
  unfold fPlant
  (repeat' split) <;> first | exact kpx.rf | exact kpx.of rfl rfl rfl
theorem cc_plant (hN : jnc g) (I : LI g L xs o j H ω μ) : Con g mL_plant 120 [.ref o, .int i, .int n, .ref (o + 414)] (lh g H o ω μ) (jPi (CR g L xs o H μ [nse, iae] (outD o (fun r : Int32 => r.toInt64)) (one (fPlant ω i n))) no2) :=
  (l_plant (d := 119) (a := o + 414) hN cw_o (w_plant (d := 116) (h := mw H (o + 396) μ) (i := i) (n := n) I.Rm I.So I.Ho) (fun r h' q => fin_out I.1 q.2) (fun E h' q => xe_plant q.1)).pi (fun k h' y => cr_of I.1 y) (fun E h' f => f)
theorem nx_payOff (h : (fPayOff ω i n).1 = .inl E) : False := by
  unfold fPayOff at h
  (repeat' split at h) <;> exact (Sum.inr_ne_inl h).elim
theorem kx_payOff : kpx ω (fPayOff ω i n).2 := by
  unfold fPayOff
  (repeat' split) <;> first | exact kpx.rf | exact kpx.of rfl rfl rfl
theorem cc_payOff (I : LI g L xs o j H ω μ) : Con g mX11_payOff 120 [.ref o, .int i, .int n] (lh g H o ω μ) (jPi (fun r h' => (fPayOff ω i n).1 = .inr r ∧ ∃ ω1, scr (fPayOff ω i n).2 ω1 ∧ h' = lh g H o ω1 μ) no2) :=
  (w_payOff (d := 116) (h := mw H (o + 396) μ) (i := i) (n := n) I.So I.Ho).pi (fun r h' y => ⟨y.1, fin_lh (n := H.2.1) (s := H.2.2) y.2⟩) (fun E h' y => (nx_payOff y.1).elim)
theorem xe_quarters (h : (fQuarters ω n).1 = .inl E) : E = iae := by
  unfold fQuarters at h
  (repeat' split at h) <;> first | exact (Sum.inr_ne_inl h).elim | (have h' := Sum.inl.inj h; subst h'; first | exact rfl | exact Or.inl rfl | exact Or.inr rfl | exact Or.inr (Or.inl rfl) | exact Or.inr (Or.inr rfl))
theorem kx_quarters : kpx ω (fQuarters ω n).2 := by
  unfold fQuarters
  (repeat' split) <;> first | exact kpx.rf | exact kpx.of rfl rfl rfl
theorem cc_quarters (hN : jnc g) (I : LI g L xs o j H ω μ) : Con g mL_quarters 120 [.ref o, .int n, .ref (o + 414)] (lh g H o ω μ) (jPi (CR g L xs o H μ [iae] (outD o (fun r : Int32 => r.toInt64)) (one (fQuarters ω n))) no2) :=
  (l_quarters (d := 119) (a := o + 414) hN cw_o (w_quarters (d := 113) (h := mw H (o + 396) μ) (n := n) I.Rm I.So I.Ho I.Tk) (fun r h' q => fin_out I.1 q.2) (fun E h' q => xe_quarters q.1)).pi (fun k h' y => cr_of I.1 y) (fun E h' f => f)
theorem xe_undo (h : (fUndo ω n).1 = .inl E) : E = iae := by
  unfold fUndo at h
  (repeat' split at h) <;> first | exact (Sum.inr_ne_inl h).elim | (have h' := Sum.inl.inj h; subst h'; first | exact rfl | exact Or.inl rfl | exact Or.inr rfl | exact Or.inr (Or.inl rfl) | exact Or.inr (Or.inr rfl))
theorem kx_undo : kpx ω (fUndo ω n).2 := by
  unfold fUndo
  (repeat' split) <;> first | exact kpx.rf | exact kpx.of rfl rfl rfl
theorem cc_undo (hN : jnc g) (I : LI g L xs o j H ω μ) : Con g mL_undo 120 [.ref o, .int n, .ref (o + 414)] (lh g H o ω μ) (jPi (CR g L xs o H μ [iae] (outD o (fun r : Int32 => r.toInt64)) (one (fUndo ω n))) no2) :=
  (l_undo (d := 119) (a := o + 414) hN cw_o (w_undo (d := 116) (h := mw H (o + 396) μ) (n := n) I.Rm I.Ho) (fun r h' q => fin_out I.1 q.2) (fun E h' q => xe_undo q.1)).pi (fun k h' y => cr_of I.1 y) (fun E h' f => f)
theorem xe_judge (h : fJudge ω i w = .inl E) : E = nse ∨ E = ise ∨ E = iae := by
  unfold fJudge at h
  cases hw : whyTr ω i with
  | some E' =>
    rw [hw] at h
    have h' := Sum.inl.inj h
    subst h'
    exact (xw_tr hw).elim Or.inl (fun z => Or.inr (Or.inl z))
  | none =>
    rw [hw] at h
    dsimp only at h
    (repeat' split at h) <;> first | exact (Sum.inr_ne_inl h).elim | (have h' := Sum.inl.inj h; subst h'; first | exact rfl | exact Or.inl rfl | exact Or.inr rfl | exact Or.inr (Or.inl rfl) | exact Or.inr (Or.inr rfl))
theorem cc_judge (hN : jnc g) (I : LI g L xs o j H ω μ) : Con g mL_judge 120 [.ref o, .int i, .int w, .ref (o + 414)] (lh g H o ω μ) (jPi (CR g L xs o H μ [nse, ise, iae] (outD o (fun r : Int32 => r.toInt64)) (one (fJudge ω i w, ω))) no2) :=
  (l_judge (d := 119) (a := o + 414) hN cw_o (w_judge (d := 111) (h := mw H (o + 396) μ) (i := i) (w := w) I.Rm I.So I.Tk I.Ys) (fun r h' q => fin_out I.1 q.2) (fun E h' q => xe_judge q.1)).pi (fun k h' y => cr_of I.1 y) (fun E h' f => f)
theorem xe_perform (h : (fPerform ω i).1 = .inl E) : E = nse ∨ E = ise := by
  unfold fPerform at h
  cases hw : whyTr ω i with
  | some E' =>
    rw [hw] at h
    have h' := Sum.inl.inj h
    subst h'
    exact xw_tr hw
  | none =>
    rw [hw] at h
    dsimp only at h
    (repeat' split at h) <;> first | exact (Sum.inr_ne_inl h).elim | (have h' := Sum.inl.inj h; subst h'; first | exact rfl | exact Or.inl rfl | exact Or.inr rfl | exact Or.inr (Or.inl rfl) | exact Or.inr (Or.inr rfl))
theorem kx_perform : kpx ω (fPerform ω i).2 := by
  unfold fPerform
  split
  · exact kpx.rf
  · exact kx_per _ _ _ _
theorem cc_perform (hN : jnc g) (I : LI g L xs o j H ω μ) : Con g mL_perform 120 [.ref o, .int i, .ref (o + 414)] (lh g H o ω μ) (jPi (CR g L xs o H μ [nse, ise] (outD o (fun r : Int32 => r.toInt64)) (one (fPerform ω i))) no2) :=
  (l_perform (d := 119) (a := o + 414) hN cw_o (w_perform (d := 111) (h := mw H (o + 396) μ) (i := i) I.Rm I.So I.Ho I.Tk I.Ys) (fun r h' q => fin_out I.1 q.2) (fun E h' q => xe_perform q.1)).pi (fun k h' y => cr_of I.1 y) (fun E h' f => f)
theorem xe_year (h : (fYear ω s n).1 = .inl E) : E = iae := by
  unfold fYear at h
  (repeat' split at h) <;> first | exact (Sum.inr_ne_inl h).elim | (have h' := Sum.inl.inj h; subst h'; first | exact rfl | exact Or.inl rfl | exact Or.inr rfl | exact Or.inr (Or.inl rfl) | exact Or.inr (Or.inr rfl))
theorem kx_year : kpx ω (fYear ω s n).2 := by
  unfold fYear
  split
  · exact kpx.rf
  · show kpx ω (yrL (ix n) 0 (pI ω 3 s)).2
    exact kpx.tr (b := pI ω 3 s) (kpx.of rfl rfl rfl) (kx_yr _ _ _)
theorem cc_year (hN : jnc g) (I : LI g L xs o j H ω μ) : Con g mL_year 120 [.ref o, .int s, .int n, .ref (o + 414)] (lh g H o ω μ) (jPi (CR g L xs o H μ [iae] (outD o (fun r : Int32 => r.toInt64)) (one (fYear ω s n))) no2) :=
  (l_year (d := 119) (a := o + 414) hN cw_o (w_year (d := 111) (h := mw H (o + 396) μ) (s := s) (n := n) I.Rm I.So I.Ho I.Tk) (fun r h' q => fin_out I.1 q.2) (fun E h' q => xe_year q.1)).pi (fun k h' y => cr_of I.1 y) (fun E h' f => f)
theorem xe_debtIn (h : fDebtIn ω i n = .inl E) : E = nse ∨ E = iae := by
  unfold fDebtIn at h
  (repeat' split at h) <;> first | exact (Sum.inr_ne_inl h).elim | (have h' := Sum.inl.inj h; subst h'; first | exact rfl | exact Or.inl rfl | exact Or.inr rfl | exact Or.inr (Or.inl rfl) | exact Or.inr (Or.inr rfl))
theorem cc_debtIn (hN : jnc g) (I : LI g L xs o j H ω μ) : Con g mL_debtIn 120 [.ref o, .int i, .int n, .ref (o + 414)] (lh g H o ω μ) (jPi (CR g L xs o H μ [nse, iae] (outD o (fun r : Int32 => r.toInt64)) (one (fDebtIn ω i n, ω))) no2) :=
  (l_debtIn (d := 119) (a := o + 414) hN cw_o (w_debtIn (d := 112) (h := mw H (o + 396) μ) (i := i) (n := n) I.Rm I.So I.Tk) (fun r h' q => fin_out I.1 q.2) (fun E h' q => xe_debtIn q.1)).pi (fun k h' y => cr_of I.1 y) (fun E h' f => f)
theorem xe_cashIn (h : fCashIn ω i n = .inl E) : E = nse ∨ E = iae := by
  unfold fCashIn at h
  (repeat' split at h) <;> first | exact (Sum.inr_ne_inl h).elim | (have h' := Sum.inl.inj h; subst h'; first | exact rfl | exact Or.inl rfl | exact Or.inr rfl | exact Or.inr (Or.inl rfl) | exact Or.inr (Or.inr rfl))
theorem cc_cashIn (hN : jnc g) (I : LI g L xs o j H ω μ) : Con g mL_cashIn 120 [.ref o, .int i, .int n, .ref (o + 414)] (lh g H o ω μ) (jPi (CR g L xs o H μ [nse, iae] (outD o (fun r : Int32 => r.toInt64)) (one (fCashIn ω i n, ω))) no2) :=
  (l_cashIn (d := 119) (a := o + 414) hN cw_o (w_cashIn (d := 112) (h := mw H (o + 396) μ) (i := i) (n := n) I.Rm I.So I.Tk) (fun r h' q => fin_out I.1 q.2) (fun E h' q => xe_cashIn q.1)).pi (fun k h' y => cr_of I.1 y) (fun E h' f => f)
theorem xe_ruinIn (h : fRuinIn ω i = .inl E) : E = nse := by
  unfold fRuinIn at h
  (repeat' split at h) <;> first | exact (Sum.inr_ne_inl h).elim | (have h' := Sum.inl.inj h; subst h'; first | exact rfl | exact Or.inl rfl | exact Or.inr rfl | exact Or.inr (Or.inl rfl) | exact Or.inr (Or.inr rfl))
theorem cc_ruinIn (hN : jnc g) (I : LI g L xs o j H ω μ) : Con g mL_ruinIn 120 [.ref o, .int i, .ref (o + 414)] (lh g H o ω μ) (jPi (CR g L xs o H μ [nse] (outD o (fun r : Int32 => r.toInt64)) (one (fRuinIn ω i, ω))) no2) :=
  (l_ruinIn (d := 119) (a := o + 414) hN cw_o (w_ruinIn (d := 113) (h := mw H (o + 396) μ) (i := i) I.Rm I.So I.Tk) (fun r h' q => fin_out I.1 q.2) (fun E h' q => xe_ruinIn q.1)).pi (fun k h' y => cr_of I.1 y) (fun E h' f => f)
theorem xe_lost (h : fLost ω n = .inl E) : E = iae := by
  unfold fLost at h
  (repeat' split at h) <;> first | exact (Sum.inr_ne_inl h).elim | (have h' := Sum.inl.inj h; subst h'; first | exact rfl | exact Or.inl rfl | exact Or.inr rfl | exact Or.inr (Or.inl rfl) | exact Or.inr (Or.inr rfl))
theorem cc_lost (hN : jnc g) (I : LI g L xs o j H ω μ) : Con g mL_lost 120 [.ref o, .int n, .ref (o + 414)] (lh g H o ω μ) (jPi (CR g L xs o H μ [iae] (outD o (fun r : Int32 => r.toInt64)) (one (fLost ω n, ω))) no2) :=
  (l_lost (d := 119) (a := o + 414) hN cw_o (w_lost (d := 111) (h := mw H (o + 396) μ) (n := n) I.Rm I.So I.Tk) (fun r h' q => fin_out I.1 q.2) (fun E h' q => xe_lost q.1)).pi (fun k h' y => cr_of I.1 y) (fun E h' f => f)
theorem cc_clear (I : LI g L xs o j H ω μ) : Con g mX11_clear 120 [.ref o] (lh g H o ω μ) (jPi (fun r h' => (.inr (clrL (aN ω) 201 0) : An Int32) = .inr r ∧ ∃ ω1, scr ω ω1 ∧ h' = lh g H o ω1 μ) no2) :=
  (w_clear (d := 114) (h := mw H (o + 396) μ)  I.So I.Tk).pi (fun r h' y => ⟨y.1, fin_lh (n := H.2.1) (s := H.2.2) y.2⟩) (fun E h' y => (Sum.inr_ne_inl y.1).elim)
theorem xe_seaIn (h : fSeaIn ω n = .inl E) : E = iae := by
  unfold fSeaIn at h
  (repeat' split at h) <;> first | exact (Sum.inr_ne_inl h).elim | (have h' := Sum.inl.inj h; subst h'; first | exact rfl | exact Or.inl rfl | exact Or.inr rfl | exact Or.inr (Or.inl rfl) | exact Or.inr (Or.inr rfl))
theorem cc_seaIn (hN : jnc g) (I : LI g L xs o j H ω μ) : Con g mL_seaIn 120 [.ref o, .int n, .ref (o + 414)] (lh g H o ω μ) (jPi (CR g L xs o H μ [iae] (outD o (fun r : Int32 => r.toInt64)) (one (fSeaIn ω n, ω))) no2) :=
  (l_seaIn (d := 119) (a := o + 414) hN cw_o (w_seaIn (d := 112) (h := mw H (o + 396) μ) (n := n) I.Rm I.So I.Tk) (fun r h' q => fin_out I.1 q.2) (fun E h' q => xe_seaIn q.1)).pi (fun k h' y => cr_of I.1 y) (fun E h' f => f)
theorem xe_burden (h : fBurden ω i n = .inl E) : E = nse ∨ E = iae := by
  unfold fBurden at h
  (repeat' split at h) <;> first | exact (Sum.inr_ne_inl h).elim | (have h' := Sum.inl.inj h; subst h'; first | exact rfl | exact Or.inl rfl | exact Or.inr rfl | exact Or.inr (Or.inl rfl) | exact Or.inr (Or.inr rfl))
theorem cc_burden (hN : jnc g) (I : LI g L xs o j H ω μ) : Con g mL_burden 120 [.ref o, .int i, .int n, .ref (o + 414)] (lh g H o ω μ) (jPi (CR g L xs o H μ [nse, iae] (outD o (fun r : Int64 => r)) (one (fBurden ω i n, ω))) no2) :=
  (l_burden (d := 119) (a := o + 414) hN cw_o (w_burden (d := 112) (h := mw H (o + 396) μ) (i := i) (n := n) I.Rm I.So I.Tk) (fun r h' q => fin_out I.1 q.2) (fun E h' q => xe_burden q.1)).pi (fun k h' y => cr_of I.1 y) (fun E h' f => f)
theorem xe_heaviest (h : fHeaviest ω n = .inl E) : E = iae := by
  unfold fHeaviest at h
  (repeat' split at h) <;> first | exact (Sum.inr_ne_inl h).elim | (have h' := Sum.inl.inj h; subst h'; first | exact rfl | exact Or.inl rfl | exact Or.inr rfl | exact Or.inr (Or.inl rfl) | exact Or.inr (Or.inr rfl))
theorem cc_heaviest (hN : jnc g) (I : LI g L xs o j H ω μ) : Con g mL_heaviest 120 [.ref o, .int n, .ref (o + 414)] (lh g H o ω μ) (jPi (CR g L xs o H μ [iae] (outD o (fun r : Int32 => r.toInt64)) (one (fHeaviest ω n, ω))) no2) :=
  (l_heaviest (d := 119) (a := o + 414) hN cw_o (w_heaviest (d := 112) (h := mw H (o + 396) μ) (n := n) I.Rm I.So I.Tk) (fun r h' q => fin_out I.1 q.2) (fun E h' q => xe_heaviest q.1)).pi (fun k h' y => cr_of I.1 y) (fun E h' f => f)
theorem xe_paid (h : fPaid ω n = .inl E) : E = iae := by
  unfold fPaid at h
  (repeat' split at h) <;> first | exact (Sum.inr_ne_inl h).elim | (have h' := Sum.inl.inj h; subst h'; first | exact rfl | exact Or.inl rfl | exact Or.inr rfl | exact Or.inr (Or.inl rfl) | exact Or.inr (Or.inr rfl))
theorem cc_paid (hN : jnc g) (I : LI g L xs o j H ω μ) : Con g mL_paid 120 [.ref o, .int n, .ref (o + 414)] (lh g H o ω μ) (jPi (CR g L xs o H μ [iae] (outD o (fun r : Int64 => r)) (one (fPaid ω n, ω))) no2) :=
  (l_paid (d := 119) (a := o + 414) hN cw_o (w_paid (d := 113) (h := mw H (o + 396) μ) (n := n) I.Rm I.So I.Tk) (fun r h' q => fin_out I.1 q.2) (fun E h' q => xe_paid q.1)).pi (fun k h' y => cr_of I.1 y) (fun E h' f => f)
theorem xe_bestSwap (h : fBestSwap ω n = .inl E) : E = iae := by
  unfold fBestSwap at h
  (repeat' split at h) <;> first | exact (Sum.inr_ne_inl h).elim | (have h' := Sum.inl.inj h; subst h'; first | exact rfl | exact Or.inl rfl | exact Or.inr rfl | exact Or.inr (Or.inl rfl) | exact Or.inr (Or.inr rfl))
theorem cc_bestSwap (hN : jnc g) (I : LI g L xs o j H ω μ) : Con g mL_bestSwap 120 [.ref o, .int n, .ref (o + 414)] (lh g H o ω μ) (jPi (CR g L xs o H μ [iae] (outD o (fun r : Int32 => r.toInt64)) (one (fBestSwap ω n, ω))) no2) :=
  (l_bestSwap (d := 119) (a := o + 414) hN cw_o (w_bestSwap (d := 111) (h := mw H (o + 396) μ) (n := n) I.Rm I.So I.Tk) (fun r h' q => fin_out I.1 q.2) (fun E h' q => xe_bestSwap q.1)).pi (fun k h' y => cr_of I.1 y) (fun E h' f => f)
theorem xe_wouldSwap (h : fWouldSwap ω n = .inl E) : E = iae := by
  unfold fWouldSwap at h
  (repeat' split at h) <;> first | exact (Sum.inr_ne_inl h).elim | (have h' := Sum.inl.inj h; subst h'; first | exact rfl | exact Or.inl rfl | exact Or.inr rfl | exact Or.inr (Or.inl rfl) | exact Or.inr (Or.inr rfl))
theorem cc_wouldSwap (hN : jnc g) (I : LI g L xs o j H ω μ) : Con g mL_wouldSwap 120 [.ref o, .int n, .ref (o + 414)] (lh g H o ω μ) (jPi (CR g L xs o H μ [iae] (outD o (fun r : Int32 => r.toInt64)) (one (fWouldSwap ω n, ω))) no2) :=
  (l_wouldSwap (d := 119) (a := o + 414) hN cw_o (w_wouldSwap (d := 111) (h := mw H (o + 396) μ) (n := n) I.Rm I.So I.Tk) (fun r h' q => fin_out I.1 q.2) (fun E h' q => xe_wouldSwap q.1)).pi (fun k h' y => cr_of I.1 y) (fun E h' f => f)
theorem xe_bestHouse (h : fBestHouse ω i n = .inl E) : E = nse ∨ E = iae := by
  unfold fBestHouse at h
  (repeat' split at h) <;> first | exact (Sum.inr_ne_inl h).elim | (have h' := Sum.inl.inj h; subst h'; first | exact rfl | exact Or.inl rfl | exact Or.inr rfl | exact Or.inr (Or.inl rfl) | exact Or.inr (Or.inr rfl))
theorem cc_bestHouse (hN : jnc g) (I : LI g L xs o j H ω μ) : Con g mL_bestHouse 120 [.ref o, .int i, .int n, .ref (o + 414)] (lh g H o ω μ) (jPi (CR g L xs o H μ [nse, iae] (outD o (fun r : Int32 => r.toInt64)) (one (fBestHouse ω i n, ω))) no2) :=
  (l_bestHouse (d := 119) (a := o + 414) hN cw_o (w_bestHouse (d := 112) (h := mw H (o + 396) μ) (i := i) (n := n) I.Rm I.So I.Tk) (fun r h' q => fin_out I.1 q.2) (fun E h' q => xe_bestHouse q.1)).pi (fun k h' y => cr_of I.1 y) (fun E h' f => f)
theorem xe_hedges (h : fHedges ω i n w = .inl E) : E = nse ∨ E = iae ∨ E = ise := by
  unfold fHedges at h
  (repeat' split at h) <;> first | exact (Sum.inr_ne_inl h).elim | (have h' := Sum.inl.inj h; subst h'; first | exact rfl | exact Or.inl rfl | exact Or.inr rfl | exact Or.inr (Or.inl rfl) | exact Or.inr (Or.inr rfl))
theorem cc_hedges (hN : jnc g) (I : LI g L xs o j H ω μ) : Con g mL_hedges 120 [.ref o, .int i, .int n, .int w, .ref (o + 414)] (lh g H o ω μ) (jPi (CR g L xs o H μ [nse, iae, ise] (outD o (fun r : Int32 => r.toInt64)) (one (fHedges ω i n w, ω))) no2) :=
  (l_hedges (d := 119) (a := o + 414) hN cw_o (w_hedges (d := 111) (h := mw H (o + 396) μ) (i := i) (n := n) (w := w) I.Rm I.So I.Tk) (fun r h' q => fin_out I.1 q.2) (fun E h' q => xe_hedges q.1)).pi (fun k h' y => cr_of I.1 y) (fun E h' f => f)
theorem xe_bestHedge (h : fBestHedge ω n = .inl E) : E = iae := by
  unfold fBestHedge at h
  (repeat' split at h) <;> first | exact (Sum.inr_ne_inl h).elim | (have h' := Sum.inl.inj h; subst h'; first | exact rfl | exact Or.inl rfl | exact Or.inr rfl | exact Or.inr (Or.inl rfl) | exact Or.inr (Or.inr rfl))
theorem cc_bestHedge (hN : jnc g) (I : LI g L xs o j H ω μ) : Con g mL_bestHedge 120 [.ref o, .int n, .ref (o + 414)] (lh g H o ω μ) (jPi (CR g L xs o H μ [iae] (outD o (fun r : Int32 => r.toInt64)) (one (fBestHedge ω n, ω))) no2) :=
  (l_bestHedge (d := 119) (a := o + 414) hN cw_o (w_bestHedge (d := 111) (h := mw H (o + 396) μ) (n := n) I.Rm I.So I.Tk) (fun r h' q => fin_out I.1 q.2) (fun E h' q => xe_bestHedge q.1)).pi (fun k h' y => cr_of I.1 y) (fun E h' f => f)
theorem xe_saves (h : fSaves ω i n = .inl E) : E = nse ∨ E = iae ∨ E = ise := by
  unfold fSaves at h
  (repeat' split at h) <;> first | exact (Sum.inr_ne_inl h).elim | (have h' := Sum.inl.inj h; subst h'; first | exact rfl | exact Or.inl rfl | exact Or.inr rfl | exact Or.inr (Or.inl rfl) | exact Or.inr (Or.inr rfl))
theorem cc_saves (hN : jnc g) (I : LI g L xs o j H ω μ) : Con g mL_saves 120 [.ref o, .int i, .int n, .ref (o + 414)] (lh g H o ω μ) (jPi (CR g L xs o H μ [nse, iae, ise] (outD o (fun r : Int32 => r.toInt64)) (one (fSaves ω i n, ω))) no2) :=
  (l_saves (d := 119) (a := o + 414) hN cw_o (w_saves (d := 112) (h := mw H (o + 396) μ) (i := i) (n := n) I.Rm I.So I.Tk) (fun r h' q => fin_out I.1 q.2) (fun E h' q => xe_saves q.1)).pi (fun k h' y => cr_of I.1 y) (fun E h' f => f)
theorem xe_leastLimit (h : fLeast ω n = .inl E) : E = iae := by
  unfold fLeast at h
  (repeat' split at h) <;> first | exact (Sum.inr_ne_inl h).elim | (have h' := Sum.inl.inj h; subst h'; first | exact rfl | exact Or.inl rfl | exact Or.inr rfl | exact Or.inr (Or.inl rfl) | exact Or.inr (Or.inr rfl))
theorem cc_leastLimit (hN : jnc g) (I : LI g L xs o j H ω μ) : Con g mL_leastLimit 120 [.ref o, .int n, .ref (o + 414)] (lh g H o ω μ) (jPi (CR g L xs o H μ [iae] (outD o (fun r : Int32 => r.toInt64)) (one (fLeast ω n, ω))) no2) :=
  (l_leastLimit (d := 119) (a := o + 414) hN cw_o (w_leastLimit (d := 113) (h := mw H (o + 396) μ) (n := n) I.Rm I.So I.Tk) (fun r h' q => fin_out I.1 q.2) (fun E h' q => xe_leastLimit q.1)).pi (fun k h' y => cr_of I.1 y) (fun E h' f => f)
theorem xe_worth (h : fWorth ω i n = .inl E) : E = nse ∨ E = iae ∨ E = ise := by
  unfold fWorth at h
  (repeat' split at h) <;> first | exact (Sum.inr_ne_inl h).elim | (have h' := Sum.inl.inj h; subst h'; first | exact rfl | exact Or.inl rfl | exact Or.inr rfl | exact Or.inr (Or.inl rfl) | exact Or.inr (Or.inr rfl))
theorem cc_worth (hN : jnc g) (I : LI g L xs o j H ω μ) : Con g mL_worth 120 [.ref o, .int i, .int n, .ref (o + 414)] (lh g H o ω μ) (jPi (CR g L xs o H μ [nse, iae, ise] (outD o (fun r : Int32 => r.toInt64)) (one (fWorth ω i n, ω))) no2) :=
  (l_worth (d := 119) (a := o + 414) hN cw_o (w_worth (d := 111) (h := mw H (o + 396) μ) (i := i) (n := n) I.Rm I.So I.Tk) (fun r h' q => fin_out I.1 q.2) (fun E h' q => xe_worth q.1)).pi (fun k h' y => cr_of I.1 y) (fun E h' f => f)
theorem xe_pillar (h : fPillar ω n = .inl E) : E = iae := by
  unfold fPillar at h
  (repeat' split at h) <;> first | exact (Sum.inr_ne_inl h).elim | (have h' := Sum.inl.inj h; subst h'; first | exact rfl | exact Or.inl rfl | exact Or.inr rfl | exact Or.inr (Or.inl rfl) | exact Or.inr (Or.inr rfl))
theorem cc_pillar (hN : jnc g) (I : LI g L xs o j H ω μ) : Con g mL_pillar 120 [.ref o, .int n, .ref (o + 414)] (lh g H o ω μ) (jPi (CR g L xs o H μ [iae] (outD o (fun r : Int32 => r.toInt64)) (one (fPillar ω n, ω))) no2) :=
  (l_pillar (d := 119) (a := o + 414) hN cw_o (w_pillar (d := 111) (h := mw H (o + 396) μ) (n := n) I.Rm I.So I.Tk) (fun r h' q => fin_out I.1 q.2) (fun E h' q => xe_pillar q.1)).pi (fun k h' y => cr_of I.1 y) (fun E h' f => f)
theorem xe_seen (h : fSeen ω i k = .inl E) : E = nse ∨ E = ise ∨ E = iae := by
  unfold fSeen at h
  cases hw : whySeen ω i k with
  | some E' =>
    rw [hw] at h
    have h' := Sum.inl.inj h
    subst h'
    exact xw_seen hw
  | none =>
    rw [hw] at h
    dsimp only at h
    (repeat' split at h) <;> first | exact (Sum.inr_ne_inl h).elim | (have h' := Sum.inl.inj h; subst h'; first | exact rfl | exact Or.inl rfl | exact Or.inr rfl | exact Or.inr (Or.inl rfl) | exact Or.inr (Or.inr rfl))
theorem cc_seen (hN : jnc g) (I : LI g L xs o j H ω μ) : Con g mL_seen 120 [.ref o, .int i, .int k, .ref (o + 414)] (lh g H o ω μ) (jPi (CR g L xs o H μ [nse, ise, iae] (outD o (fun r : Int32 => r.toInt64)) (one (fSeen ω i k, ω))) no2) :=
  (l_seen (d := 119) (a := o + 414) hN cw_o (w_seen (d := 111) (h := mw H (o + 396) μ) (i := i) (k := k) I.Rm I.So I.Tk I.Ys I.Hb) (fun r h' q => fin_out I.1 q.2) (fun E h' q => xe_seen q.1)).pi (fun k h' y => cr_of I.1 y) (fun E h' f => f)
theorem xe_hidden (h : fHidden ω i k n = .inl E) : E = nse ∨ E = ise ∨ E = iae := by
  unfold fHidden at h
  cases hw : whySeen ω i k with
  | some E' =>
    rw [hw] at h
    have h' := Sum.inl.inj h
    subst h'
    exact xw_seen hw
  | none =>
    rw [hw] at h
    dsimp only at h
    (repeat' split at h) <;> first | exact (Sum.inr_ne_inl h).elim | (have h' := Sum.inl.inj h; subst h'; first | exact rfl | exact Or.inl rfl | exact Or.inr rfl | exact Or.inr (Or.inl rfl) | exact Or.inr (Or.inr rfl))
theorem cc_hidden (hN : jnc g) (I : LI g L xs o j H ω μ) : Con g mL_hidden 120 [.ref o, .int i, .int k, .int n, .ref (o + 414)] (lh g H o ω μ) (jPi (CR g L xs o H μ [nse, ise, iae] (outD o (fun r : Int32 => r.toInt64)) (one (fHidden ω i k n, ω))) no2) :=
  (l_hidden (d := 119) (a := o + 414) hN cw_o (w_hidden (d := 111) (h := mw H (o + 396) μ) (i := i) (k := k) (n := n) I.Rm I.So I.Tk I.Ys I.Hb) (fun r h' q => fin_out I.1 q.2) (fun E h' q => xe_hidden q.1)).pi (fun k h' y => cr_of I.1 y) (fun E h' f => f)
theorem xe_look (h : fLook ω i k = .inl E) : E = nse ∨ E = ise ∨ E = iae := by
  unfold fLook at h
  cases hw : whySeen ω i k with
  | some E' =>
    rw [hw] at h
    have h' := Sum.inl.inj h
    subst h'
    exact xw_seen hw
  | none =>
    rw [hw] at h
    dsimp only at h
    (repeat' split at h) <;> first | exact (Sum.inr_ne_inl h).elim | (have h' := Sum.inl.inj h; subst h'; first | exact rfl | exact Or.inl rfl | exact Or.inr rfl | exact Or.inr (Or.inl rfl) | exact Or.inr (Or.inr rfl))
theorem cc_look (hN : jnc g) (I : LI g L xs o j H ω μ) : Con g mL_look 120 [.ref o, .int i, .int k, .ref (o + 414)] (lh g H o ω μ) (jPi (CR g L xs o H μ [nse, ise, iae] (outD o (fun r : Int32 => r.toInt64)) (one (fLook ω i k, ω))) no2) :=
  (l_look (d := 119) (a := o + 414) hN cw_o (w_look (d := 111) (h := mw H (o + 396) μ) (i := i) (k := k) I.Rm I.So I.Tk I.Ys I.Hb) (fun r h' q => fin_out I.1 q.2) (fun E h' q => xe_look q.1)).pi (fun k h' y => cr_of I.1 y) (fun E h' f => f)
theorem xe_tray (h : (fTray ω i s m).1 = .inl E) : E = nse ∨ E = iae := by
  unfold fTray at h
  (repeat' split at h) <;> first | exact (Sum.inr_ne_inl h).elim | (have h' := Sum.inl.inj h; subst h'; first | exact rfl | exact Or.inl rfl | exact Or.inr rfl | exact Or.inr (Or.inl rfl) | exact Or.inr (Or.inr rfl))
theorem kx_tray : kpx ω (fTray ω i s m).2 := by
  unfold fTray
  (repeat' split) <;> first | exact kpx.rf | exact kpx.of rfl rfl rfl
theorem cc_tray (hN : jnc g) (I : LI g L xs o j H ω μ) : Con g mL_tray 120 [.ref o, .int i, .int s, .int m] (lh g H o ω μ) (jPi (CR g L xs o H μ [nse, iae] (fun _ _ => True) (one (fTray ω i s m))) no2) :=
  (l_tray (d := 119) hN cw_o (w_tray (d := 116) (h := mw H (o + 396) μ) (i := i) (s := s) (m := m) I.Rm) (fun E h' q => xe_tray q.1)).pi (fun k h' y => cr_ofV I.1 y) (fun E h' f => f)
theorem xe_write (h : (fWrite ω i k v).1 = .inl E) : E = nse ∨ E = ise ∨ E = iob := by
  unfold fWrite at h
  cases hw : whyTr ω i with
  | some E' =>
    rw [hw] at h
    have h' := Sum.inl.inj h
    subst h'
    exact (xw_tr hw).elim Or.inl (fun z => Or.inr (Or.inl z))
  | none =>
    rw [hw] at h
    dsimp only at h
    (repeat' split at h) <;> first | exact (Sum.inr_ne_inl h).elim | (have h' := Sum.inl.inj h; subst h'; first | exact rfl | exact Or.inl rfl | exact Or.inr rfl | exact Or.inr (Or.inl rfl) | exact Or.inr (Or.inr rfl))
theorem kx_write : kpx ω (fWrite ω i k v).2 := by
  unfold fWrite
  cases whyTr ω i with
  | some E' => exact kpx.rf
  | none =>
    dsimp only
    split
    · exact kpx.rf
    · exact kpx.of rfl rfl rfl
theorem cc_write (hN : jnc g) (I : LI g L xs o j H ω μ) : Con g mL_write 120 [.ref o, .int i, .int k, .long v, .ref (o + 414)] (lh g H o ω μ) (jPi (CR g L xs o H μ [nse, ise, iob] (outD o (fun r : Int64 => r)) (one (fWrite ω i k v))) no2) :=
  (l_write (d := 119) (a := o + 414) hN cw_o (w_write (d := 116) (h := mw H (o + 396) μ) (i := i) (k := k) (v := v) I.Rm I.Ys) (fun r h' q => fin_out I.1 q.2) (fun E h' q => xe_write q.1)).pi (fun k h' y => cr_of I.1 y) (fun E h' f => f)
theorem xe_copy (h : (fCopy ω i k).1 = .inl E) : E = nse ∨ E = ise := by
  unfold fCopy at h
  (repeat' split at h) <;> first | exact (Sum.inr_ne_inl h).elim | (have h' := Sum.inl.inj h; subst h'; first | exact rfl | exact Or.inl rfl | exact Or.inr rfl | exact Or.inr (Or.inl rfl) | exact Or.inr (Or.inr rfl))
theorem kx_copy : kpx ω (fCopy ω i k).2 := by
  unfold fCopy
  (repeat' split) <;> first | exact kpx.rf | exact kpx.of rfl rfl rfl
theorem cc_copy (hN : jnc g) (I : LI g L xs o j H ω μ) : Con g mL_copy 120 [.ref o, .int i, .int k, .ref (o + 414)] (lh g H o ω μ) (jPi (CR g L xs o H μ [nse, ise] (outD o (fun r : Int32 => r.toInt64)) (one (fCopy ω i k))) no2) :=
  (l_copy (d := 119) (a := o + 414) hN cw_o (w_copy (d := 113) (h := mw H (o + 396) μ) (i := i) (k := k) I.Rm I.So I.Tk I.Ys) (fun r h' q => fin_out I.1 q.2) (fun E h' q => xe_copy q.1)).pi (fun k h' y => cr_of I.1 y) (fun E h' f => f)
theorem xe_image (h : (fImage ω i).1 = .inl E) : E = nse := by
  unfold fImage at h
  (repeat' split at h) <;> first | exact (Sum.inr_ne_inl h).elim | (have h' := Sum.inl.inj h; subst h'; first | exact rfl | exact Or.inl rfl | exact Or.inr rfl | exact Or.inr (Or.inl rfl) | exact Or.inr (Or.inr rfl))
theorem kx_image : kpx ω (fImage ω i).2 := by
  refine ⟨fun top h => k_image h, fun τ h => ?_⟩
  unfold fImage at h
  by_cases c : grOk i = false
  · rw [if_pos c] at h; exact h
  · rw [if_neg c] at h
    rcases h with h | ⟨j, hj, h⟩
    · exact Or.inl h
    · have h' : (if j = ix i then (some (wT ω), wS ω, hTake (wG ω (ix i)).2.2 (wH ω)) else wG ω j : Option To × St × Hs).1 = some τ := h
      by_cases cj : j = ix i
      · rw [if_pos cj] at h'
        exact Or.inl (Option.some.inj h').symm
      · rw [if_neg cj] at h'
        exact Or.inr ⟨j, hj, h'⟩
theorem cc_image (hN : jnc g) (I : LI g L xs o j H ω μ) : Con g mL_image 120 [.ref o, .int i] (lh g H o ω μ) (jPi (CR g L xs o H μ [nse] (fun _ _ => True) (one (fImage ω i))) no2) :=
  (l_image (d := 119) hN cw_o (w_image (d := 116) (h := mw H (o + 396) μ) (i := i) I.Rm I.Ho I.Gh) (fun E h' q => xe_image q.1)).pi (fun k h' y => cr_ofV I.1 y) (fun E h' f => f)
theorem xe_restore (h : (fRestore ω i).1 = .inl E) : E = nse ∨ E = ise := by
  unfold fRestore at h
  (repeat' split at h) <;> first | exact (Sum.inr_ne_inl h).elim | (have h' := Sum.inl.inj h; subst h'; first | exact rfl | exact Or.inl rfl | exact Or.inr rfl | exact Or.inr (Or.inl rfl) | exact Or.inr (Or.inr rfl))
theorem kx_restore : kpx ω (fRestore ω i).2 := by
  refine ⟨fun top h => k_restore h, fun τ h => ?_⟩
  unfold fRestore at h
  by_cases c : grOk i = false
  · rw [if_pos c] at h; exact h
  · rw [if_neg c] at h
    have c1 : grOk i = true := by revert c; cases grOk i <;> simp
    obtain ⟨-, i3⟩ := grOk_ix c1
    cases hx : (wG ω (ix i)).1 with
    | none => rw [hx] at h; exact h
    | some τ0 =>
      rw [hx] at h
      rcases h with h | ⟨j, hj, h⟩
      · exact Or.inr ⟨_, i3, hx.trans (congrArg some h.symm)⟩
      · exact Or.inr ⟨j, hj, h⟩
theorem cc_restore (hN : jnc g) (I : LI g L xs o j H ω μ) : Con g mL_restore 120 [.ref o, .int i] (lh g H o ω μ) (jPi (CR g L xs o H μ [nse, ise] (fun _ _ => True) (one (fRestore ω i))) no2) :=
  (l_restore (d := 119) hN cw_o (w_restore (d := 116) (h := mw H (o + 396) μ) (i := i) I.Rm I.Ho I.Gh) (fun E h' q => xe_restore q.1)).pi (fun k h' y => cr_ofV I.1 y) (fun E h' f => f)
theorem nx_count (h : (.inr (fCount ω i) : An Int32) = .inl E) : False := by
  exact (Sum.inr_ne_inl h).elim
theorem cc_count (I : LI g L xs o j H ω μ) : Con g mX11_count 120 [.ref o, .int i] (lh g H o ω μ) (jPi (fun r h' => (.inr (fCount ω i) : An Int32) = .inr r ∧ ∃ ω1, scr ω ω1 ∧ h' = lh g H o ω1 μ) no2) :=
  (w_count (d := 118) (h := mw H (o + 396) μ) (i := i) I.So I.Tk).pi (fun r h' y => ⟨y.1, fin_lh (n := H.2.1) (s := H.2.2) y.2⟩) (fun E h' y => (nx_count y.1).elim)
end LCC
