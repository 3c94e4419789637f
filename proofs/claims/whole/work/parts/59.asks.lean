/-! The class's methods: what is asked of a house, deeds -/
def inN (n a b : Int32) : Bool := decide (¬ n < a ∧ ¬ b < n)
theorem plD : plainName "DebtStreet" = true := by decide +kernel
section CM1
variable {g : jG} {d : Nat} {h : jH} {o : Nat} {ω : CW} {i k n : Int32}
theorem w_checkHouse (R : jroom g h 1 6) (S : sok (wS ω)) : Con g mX11_checkHouse (d + 2) [.ref o, .int i] (cw g h o ω) (jPv (fun h' => sHas (wS ω) i = true ∧ h' = cw g h o ω) (fun E h' => sHas (wS ω) i = false ∧ thx g h o ω nse E h')) := by
  refine con_of km_X11_checkHouse.1.2.2.2.2 (Nat.le_of_ble_eq_true rfl) rfl (bX11_checkHouse_0 ⟨_, cw_o, _, rfl, _, cw_S.1, ?_⟩)
  refine (w_has S).pi (fun r h' hr => ?_) (fun E h' f => f.elim)
  obtain ⟨rfl, rfl⟩ := hr
  exact ⟨fun q => jthr_cw R (fun n h1 h2 => ⟨(bI_0 rfl).1.mp q, thx_rf h1 h2⟩), fun q => ⟨(bI_0 rfl).2.mp q, rfl⟩⟩
theorem w_checkNotGone (R : jroom g h 1 6) (S : sok (wS ω)) : Con g mX11_checkNotGone (d + 3) [.ref o, .int i] (cw g h o ω) (jPv (fun h' => sGone (wS ω) i = false ∧ h' = cw g h o ω) (fun E h' => sGone (wS ω) i = true ∧ thx g h o ω ise E h')) := by
  refine con_of km_X11_checkNotGone.1.2.2.2.2 (Nat.le_of_ble_eq_true rfl) rfl (bX11_checkNotGone_0 ⟨_, cw_o, _, rfl, _, cw_S.1, ?_⟩)
  refine (w_isGone S).pi (fun r h' hr => ?_) (fun E h' f => f.elim)
  obtain ⟨rfl, rfl⟩ := hr
  exact ⟨fun q => ⟨(bI_0 rfl).1.mp q, rfl⟩, fun q => jthr_cw R (fun n h1 h2 => ⟨(bI_0 rfl).2.mp q, thx_rf h1 h2⟩)⟩
theorem w_checkWithin (R : jroom g h 1 6) : Con g mX11_checkWithin (d + 1) [.ref o, .int n, .int i, .int k] (cw g h o ω) (jPv (fun h' => inN n i k = true ∧ h' = cw g h o ω) (fun E h' => inN n i k = false ∧ thx g h o ω iae E h')) := by
  refine con_of km_X11_checkWithin.1.2.2.2.2 (Nat.le_of_ble_eq_true rfl) rfl (bX11_checkWithin_0 ?_)
  exact ⟨fun q => bX11_checkWithin_10 (jthr_cw R (fun n h1 h2 => ⟨decide_eq_false (fun c => c.1 q), thx_rf h1 h2⟩)), fun q => ⟨fun q2 => bX11_checkWithin_10 (jthr_cw R (fun n h1 h2 => ⟨decide_eq_false (fun c => c.2 q2), thx_rf h1 h2⟩)), fun q2 => ⟨decide_eq_true ⟨q, q2⟩, rfl⟩⟩⟩
theorem w_checkNear (R : jroom g h 1 6) : Con g mX11_checkNear (d + 2) [.ref o, .int n] (cw g h o ω) (jPv (fun h' => inN n 1 20 = true ∧ h' = cw g h o ω) (fun E h' => inN n 1 20 = false ∧ thx g h o ω iae E h')) := by
  refine con_of km_X11_checkNear.1.2.2.2.2 (Nat.le_of_ble_eq_true rfl) rfl (bX11_checkNear_0 ⟨_, cw_o, ?_⟩)
  exact (w_checkWithin R).pv (fun h' hr => hr) (fun E h' f => f)
def fHouse (ω : CW) (i k : Int32) : An Int32 := if sHas (wS ω) i = false then .inl nse else if k = 0 then .inr ((wS ω).2 4 (ix i)) else if k = 1 then .inr ((wS ω).2 5 (ix i)) else if k = 2 then .inr (nxt (wT ω).2.1 i ((wS ω).1 0)) else .inl iae
theorem w_house (R : jroom g h 1 6) (S : sok (wS ω)) (T : toAt (cw g h o ω) o (wT ω)) : Con g mX11_house (d + 3) [.ref o, .int i, .int k] (cw g h o ω) (ansI g h o (fHouse ω i k, ω)) := by
  refine con_of plD (Nat.le_of_ble_eq_true rfl) rfl (bX11_house_0 ⟨_, cw_o, ?_⟩)
  refine (w_checkHouse R S).pv (fun h' hr => ?_) (fun E h' f => f.2.ans (if_pos f.1) (scr.rf _))
  obtain ⟨hh, rfl⟩ := hr
  have e : fHouse ω i k = if k = 0 then .inr ((wS ω).2 4 (ix i)) else if k = 1 then .inr ((wS ω).2 5 (ix i)) else if k = 2 then .inr (nxt (wT ω).2.1 i ((wS ω).1 0)) else .inl iae := if_neg (by rw [hh]; decide)
  refine ⟨fun q => ⟨_, cw_o, _, rfl, _, cw_S.1, _, rfl, _, _, cw_S.2.2.2.2.2.1, sHas_in S hh, e.trans (if_pos q), fin.rf⟩, fun q => ⟨fun q2 => ⟨_, cw_o, _, rfl, _, cw_S.1, _, rfl, _, _, cw_S.2.2.2.2.2.2, sHas_in S hh, e.trans ((if_neg q).trans (if_pos q2)), fin.rf⟩, fun q2 => ⟨fun q3 => ⟨_, cw_o, _, rfl, _, cw_o, _, rfl, _, cw_S.1, _, rfl, _, T.1.1, ?_⟩, fun q3 => ?_⟩⟩⟩
  · refine (w_next T).pi (fun r h' hr => ?_) (fun E h' f => f.elim)
    obtain ⟨rfl, rfl⟩ := hr
    exact ⟨e.trans ((if_neg q).trans ((if_neg q2).trans (if_pos q3))), fin.rf⟩
  · exact jthr_cw R (fun n h1 h2 => ⟨e.trans ((if_neg q).trans ((if_neg q2).trans (if_neg q3))), n, h1, h2, fin.rf⟩)
def fHold (ω : CW) (i k : Int32) : An Int32 := if sHas (wS ω) i = false then .inl nse else if k = 0 then .inr ((wS ω).2 0 (ix i)) else if k = 1 then .inr ((wS ω).2 1 (ix i)) else if k = 2 then .inr ((wS ω).2 2 (ix i)) else if k = 3 then .inr ((wS ω).2 3 (ix i)) else .inl iae
theorem w_household (R : jroom g h 1 6) (S : sok (wS ω)) : Con g mX11_household (d + 3) [.ref o, .int i, .int k] (cw g h o ω) (ansI g h o (fHold ω i k, ω)) := by
  refine con_of plD (Nat.le_of_ble_eq_true rfl) rfl (bX11_household_0 ⟨_, cw_o, ?_⟩)
  refine (w_checkHouse R S).pv (fun h' hr => ?_) (fun E h' f => f.2.ans (if_pos f.1) (scr.rf _))
  obtain ⟨hh, rfl⟩ := hr
  have e : fHold ω i k = if k = 0 then .inr ((wS ω).2 0 (ix i)) else if k = 1 then .inr ((wS ω).2 1 (ix i)) else if k = 2 then .inr ((wS ω).2 2 (ix i)) else if k = 3 then .inr ((wS ω).2 3 (ix i)) else .inl iae := if_neg (by rw [hh]; decide)
  refine ⟨fun q => ⟨_, cw_o, _, rfl, _, cw_S.1, _, rfl, _, _, cw_S.2.1, sHas_in S hh, e.trans (if_pos q), fin.rf⟩, fun q => ⟨fun q2 => ⟨_, cw_o, _, rfl, _, cw_S.1, _, rfl, _, _, cw_S.2.2.1, sHas_in S hh, e.trans ((if_neg q).trans (if_pos q2)), fin.rf⟩, fun q2 => ⟨fun q3 => ⟨_, cw_o, _, rfl, _, cw_S.1, _, rfl, _, _, cw_S.2.2.2.1, sHas_in S hh, e.trans ((if_neg q).trans ((if_neg q2).trans (if_pos q3))), fin.rf⟩, fun q3 => ⟨fun q4 => ⟨_, cw_o, _, rfl, _, cw_S.1, _, rfl, _, _, cw_S.2.2.2.2.1, sHas_in S hh, e.trans ((if_neg q).trans ((if_neg q2).trans ((if_neg q3).trans (if_pos q4)))), fin.rf⟩, fun q4 => ?_⟩⟩⟩⟩
  exact jthr_cw R (fun n h1 h2 => ⟨e.trans ((if_neg q).trans ((if_neg q2).trans ((if_neg q3).trans (if_neg q4)))), n, h1, h2, fin.rf⟩)
def fPays (ω : CW) (i : Int32) : An Int32 := if sHas (wS ω) i = false then .inl nse else if sGone (wS ω) i = true then .inl ise else .inr (pay (wT ω).2.1 (wS ω) i ((wS ω).2 2 (ix i)) ((wS ω).2 4 (ix i)))
theorem w_pays (R : jroom g h 1 6) (S : sok (wS ω)) (T : toAt (cw g h o ω) o (wT ω)) : Con g mX11_pays (d + 4) [.ref o, .int i] (cw g h o ω) (ansI g h o (fPays ω i, ω)) := by
  refine con_of plD (Nat.le_of_ble_eq_true rfl) rfl (bX11_pays_0 ⟨_, cw_o, ?_⟩)
  refine (w_checkHouse R S).pv (fun h' hr => ?_) (fun E h' f => f.2.ans (if_pos f.1) (scr.rf _))
  obtain ⟨hh, rfl⟩ := hr
  have e : fPays ω i = if sGone (wS ω) i = true then .inl ise else .inr (pay (wT ω).2.1 (wS ω) i ((wS ω).2 2 (ix i)) ((wS ω).2 4 (ix i))) := if_neg (by rw [hh]; decide)
  refine ⟨_, cw_o, ?_⟩
  refine (w_checkNotGone R S).pv (fun h' hr => ?_) (fun E h' f => f.2.ans (e.trans (if_pos f.1)) (scr.rf _))
  obtain ⟨hg, rfl⟩ := hr
  refine ⟨_, cw_o, _, rfl, _, cw_o, _, rfl, _, cw_o, _, rfl, _, cw_o, _, rfl, _, cw_S.1, _, rfl, _, _, cw_S.2.2.2.1, sHas_in S hh, _, cw_o, _, rfl, _, cw_S.1, _, rfl, _, _, cw_S.2.2.2.2.2.1, sHas_in S hh, _, cw_at 24 rfl 353 (by decide) (by decide) (k := 0) (by decide), ?_⟩
  refine (w_payment S T).pi (fun r h' hr => ?_) (fun E h' f => f.elim)
  obtain ⟨rfl, κ', rfl⟩ := hr
  exact ⟨e.trans (if_neg (by rw [hg]; decide)), fin.of (scr_K _ _)⟩
theorem cw_k : (cw g h o ω).1 (o + 353) = some (kcell (o + 353) (wK ω) 0) := cw_at 24 rfl 353 (by decide) (by decide) (k := 0) (by decide)
def fGrows (ω : CW) (i n : Int32) : An Int32 := if sHas (wS ω) i = false then .inl nse else if inN n 0 999999 = false then .inl iae else .inr (grow (wT ω).2.1 (wS ω) i n)
theorem w_grows (R : jroom g h 1 6) (S : sok (wS ω)) (T : toAt (cw g h o ω) o (wT ω)) : Con g mX11_grows (d + 4) [.ref o, .int i, .int n] (cw g h o ω) (ansI g h o (fGrows ω i n, ω)) := by
  refine con_of plD (Nat.le_of_ble_eq_true rfl) rfl (bX11_grows_0 ⟨_, cw_o, ?_⟩)
  refine (w_checkHouse R S).pv (fun h' hr => ?_) (fun E h' f => f.2.ans (if_pos f.1) (scr.rf _))
  obtain ⟨hh, rfl⟩ := hr
  have e : fGrows ω i n = if inN n 0 999999 = false then .inl iae else .inr (grow (wT ω).2.1 (wS ω) i n) := if_neg (by rw [hh]; decide)
  refine ⟨_, cw_o, ?_⟩
  refine (w_checkWithin R).pv (fun h' hr => ?_) (fun E h' f => f.2.ans (e.trans (if_pos f.1)) (scr.rf _))
  obtain ⟨hg, rfl⟩ := hr
  refine ⟨_, cw_o, _, rfl, _, cw_o, _, rfl, _, cw_o, _, rfl, _, cw_k, ?_⟩
  refine (w_growth T).pi (fun r h' hr => ?_) (fun E h' f => f.elim)
  obtain ⟨rfl, κ', rfl⟩ := hr
  exact ⟨e.trans (if_neg (by rw [hg]; decide)), fin.of (scr_K _ _)⟩
def fTakes (ω : CW) (i n : Int32) : An Int32 := if sHas (wS ω) i = false then .inl nse else if inN n 0 999999 = false then .inl iae else .inr (bI (take (wT ω).2.1 (wS ω) i n))
theorem w_takes (R : jroom g h 1 6) (S : sok (wS ω)) (T : toAt (cw g h o ω) o (wT ω)) : Con g mX11_takes (d + 4) [.ref o, .int i, .int n] (cw g h o ω) (ansI g h o (fTakes ω i n, ω)) := by
  refine con_of plD (Nat.le_of_ble_eq_true rfl) rfl (bX11_takes_0 ⟨_, cw_o, ?_⟩)
  refine (w_checkHouse R S).pv (fun h' hr => ?_) (fun E h' f => f.2.ans (if_pos f.1) (scr.rf _))
  obtain ⟨hh, rfl⟩ := hr
  have e : fTakes ω i n = if inN n 0 999999 = false then .inl iae else .inr (bI (take (wT ω).2.1 (wS ω) i n)) := if_neg (by rw [hh]; decide)
  refine ⟨_, cw_o, ?_⟩
  refine (w_checkWithin R).pv (fun h' hr => ?_) (fun E h' f => f.2.ans (e.trans (if_pos f.1)) (scr.rf _))
  obtain ⟨hg, rfl⟩ := hr
  refine ⟨_, cw_o, _, rfl, _, cw_o, _, rfl, _, cw_o, _, rfl, _, cw_k, ?_⟩
  refine (w_taking S T).pi (fun r h' hr => ?_) (fun E h' f => f.elim)
  obtain ⟨rfl, κ', rfl⟩ := hr
  exact ⟨bI_01 _, e.trans (if_neg (by rw [hg]; decide)), fin.of (scr_K _ _)⟩
end CM1
