/-! The class's methods: trays, hidden debts -/
def trOk (i : Int32) : Bool := decide (¬ i < 0 ∧ i < 4)
theorem trOk_ix {i : Int32} (e : trOk i = true) : i = nI (ix i) ∧ ix i < 4 := by
  have h := of_decide_eq_true e
  obtain ⟨j, hj, ej⟩ := nI_of h.1
  subst ej
  rw [ix_nI hj]
  exact ⟨rfl, (nI_ltI (b := 4) hj (by omega)).mp h.2⟩
def whyTr (ω : CW) (i : Int32) : Option String := if trOk i = false then some nse else if (wY ω (ix i)).2.1 = -1 then some ise else none
theorem pY_self {ω : CW} {i : Nat} : pY ω i (wY ω i) = ω := by
  have e : (fun j => if j = i then wY ω i else wY ω j) = wY ω := by
    funext j
    by_cases h : j = i
    · rw [if_pos h, h]
    · rw [if_neg h]
  unfold pY
  exact congrArg (fun f => (ω.1, ω.2.1, ω.2.2.1, ω.2.2.2.1, ω.2.2.2.2.1, ω.2.2.2.2.2.1, ω.2.2.2.2.2.2.1, ω.2.2.2.2.2.2.2.1, f, ω.2.2.2.2.2.2.2.2.2)) e
theorem pY_pY {ω : CW} {i : Nat} {x y : Ty} : pY (pY ω i x) i y = pY ω i y := by
  have e : (fun j => if j = i then y else (fun j => if j = i then x else wY ω j) j) = fun j => if j = i then y else wY ω j := by
    funext j
    by_cases h : j = i
    · rw [if_pos h, if_pos h]
    · rw [if_neg h, if_neg h]
      exact if_neg h
  unfold pY
  exact congrArg (fun f => (ω.1, ω.2.1, ω.2.2.1, ω.2.2.2.1, ω.2.2.2.2.1, ω.2.2.2.2.2.1, ω.2.2.2.2.2.2.1, ω.2.2.2.2.2.2.2.1, f, ω.2.2.2.2.2.2.2.2.2)) e
theorem pY_at {ω : CW} {i : Nat} {x : Ty} : wY (pY ω i x) i = x := if_pos rfl
section CM7
variable {g : jG} {d : Nat} {h : jH} {o : Nat} {ω : CW} {α : St} {κ : Ks} {i k n : Int32}
theorem cw_Y {j : Nat} (hj : j < 4) : YAt (cw g h o ω) (o + (345 + 2 * j)) (wY ω j) := by
  have e : cw g h o ω = yput (cw g h o ω) (o + (345 + 2 * j)) (wY ω j) := by rw [cw_pY hj, pY_self]
  rw [e]
  exact yput_at _ _ _
theorem yref {j : Nat} (hj : j < 4) : (fun j => if j < 4 then some (o + (345 + 2 * j)) else none) j = some (o + (345 + 2 * j)) := if_pos hj
theorem w_checkTray (R : jroom g h 1 6) : Con g mX11_checkTray (d + 1) [.ref o, .int i] (cw g h o ω) (jPv (fun h' => trOk i = true ∧ h' = cw g h o ω) (fun E h' => trOk i = false ∧ thx g h o ω nse E h')) := by
  refine con_of km_X11_checkTray.1.2.2.2.2 (Nat.le_of_ble_eq_true rfl) rfl (bX11_checkTray_0 ⟨fun q => ?_, fun q => ⟨_, cw_o, _, rfl, _, _, cw_yr, ⟨_, rfl⟩, fun q2 => ⟨decide_eq_true ⟨q, q2⟩, rfl⟩, fun q2 => ?_⟩⟩)
  · exact bX11_checkTray_13 (jthr_cw R (fun n h1 h2 => ⟨decide_eq_false (fun c => c.1 q), thx_rf h1 h2⟩))
  · exact bX11_checkTray_13 (jthr_cw R (fun n h1 h2 => ⟨decide_eq_false (fun c => q2 c.2), thx_rf h1 h2⟩))
theorem w_trayAt (R : jroom g h 1 6) : Con g mX11_trayAt (d + 2) [.ref o, .int i] (cw g h o ω) (jPr (fun r h' => whyTr ω i = none ∧ trOk i = true ∧ r = o + (345 + 2 * ix i) ∧ h' = cw g h o ω) (fun E h' => whyTr ω i = some E ∧ thx g h o ω E E h')) := by
  refine con_of km_X11_trayAt.1.2.2.2.2 (Nat.le_of_ble_eq_true rfl) rfl (bX11_trayAt_0 ⟨_, cw_o, ?_⟩)
  refine (w_checkTray R).pv (fun h' hr => ?_) (fun E h' f => ?_)
  · obtain ⟨hi, rfl⟩ := hr
    obtain ⟨ei, i4⟩ := trOk_ix hi
    have hin : vp_in i 4 := by rw [ei]; exact vp_in_nI i4 (by decide)
    refine ⟨_, cw_o, _, rfl, _, _, cw_yr, hin, _, yref i4, _, (cw_Y i4).1, ?_⟩
    refine (c_isMissing (cw_Y i4)).pi (fun r h' hr => ?_) (fun E h' f => f.elim)
    obtain ⟨rfl, rfl⟩ := hr
    refine ⟨fun q => ⟨_, cw_o, _, rfl, _, _, cw_yr, hin, _, yref i4, ?_, hi, rfl, rfl⟩, fun q => ?_⟩
    · have q' := of_decide_eq_false ((bI_0 rfl).1.mp q)
      unfold whyTr
      rw [if_neg (by rw [hi]; decide), if_neg q']
    · have q' := of_decide_eq_true ((bI_0 rfl).2.mp q)
      refine jthr_cw R (fun n h1 h2 => ⟨?_, thx_rf h1 h2⟩)
      unfold whyTr
      rw [if_neg (by rw [hi]; decide), if_pos q']
      rfl
  · obtain ⟨f1, f2⟩ := f
    obtain ⟨rfl, f3⟩ := f2
    refine ⟨?_, rfl, f3⟩
    unfold whyTr
    rw [if_pos f1]
theorem w_yput {j : Nat} {v : Int64} (hj : j < 4) (hk : vp_in k 30) : Con g mX10_put (d + 2) [.ref (o + (345 + 2 * j)), .int k, .long v] (cw g h o ω) (jPv (fun h' => h' = cw g h o (pY ω j ((wY ω j).1, (wY ω j).2.1, vp_updL (wY ω j).2.2 (ix k) (ycut (wY ω j).2.1 v)))) no2) := by
  have C := c_yput (g := g) (d := d) (h := cw g h o ω) (y := o + (345 + 2 * j)) (θ := wY ω j) (v := v) hk
  rw [cw_pY hj, pY_self] at C
  exact C.pv (fun h' e => e.trans (cw_pY hj _)) (fun E h' f => f)
theorem w_lay {j : Nat} {a b : Int32} (hj : j < 4) : Con g mX10_lay (d + 2) [.ref (o + (345 + 2 * j)), .int a, .int b] (cw g h o ω) (jPv (fun h' => h' = cw g h o (pY ω j (b, a, fun _ => 0))) no2) := by
  have C := c_lay (g := g) (d := d) (h := cw g h o ω) (y := o + (345 + 2 * j)) (θ := wY ω j) (a := a) (b := b)
  rw [cw_pY hj, pY_self] at C
  exact C.pv (fun h' e => e.trans (cw_pY hj _)) (fun E h' f => f)
def fTray (ω : CW) (i s m : Int32) : An Unit × CW := if trOk i = false then (.inl nse, ω) else if inN s 0 3 = false then (.inl iae, ω) else if inN m 0 30 = false then (.inl iae, ω) else (.inr (), pY ω (ix i) (m, s, fun _ => 0))
theorem w_tray {s m : Int32} (R : jroom g h 1 6) : Con g mX11_tray (d + 3) [.ref o, .int i, .int s, .int m] (cw g h o ω) (ansV g h o (fTray ω i s m)) := by
  refine con_of plD (Nat.le_of_ble_eq_true rfl) rfl (bX11_tray_0 ⟨_, cw_o, ?_⟩)
  refine (w_checkTray R).pv (fun h' hr => ?_) (fun E h' f => ?_)
  · obtain ⟨hi, rfl⟩ := hr
    obtain ⟨ei, i4⟩ := trOk_ix hi
    have hin : vp_in i 4 := by rw [ei]; exact vp_in_nI i4 (by decide)
    have e1 : fTray ω i s m = if inN s 0 3 = false then (.inl iae, ω) else if inN m 0 30 = false then (.inl iae, ω) else (.inr (), pY ω (ix i) (m, s, fun _ => 0)) := if_neg (by rw [hi]; decide)
    refine ⟨_, cw_o, ?_⟩
    refine (w_checkWithin R).pv (fun h' hr => ?_) (fun E h' f => f.2.ans (R := fTray ω i s m) (by rw [e1, if_pos f.1]) (by rw [e1, if_pos f.1]; exact scr.rf _))
    obtain ⟨hs, rfl⟩ := hr
    have e2 := e1.trans (if_neg (by rw [hs]; decide))
    refine ⟨_, cw_o, ?_⟩
    refine (w_checkWithin R).pv (fun h' hr => ?_) (fun E h' f => f.2.ans (R := fTray ω i s m) (by rw [e2, if_pos f.1]) (by rw [e2, if_pos f.1]; exact scr.rf _))
    obtain ⟨hm, rfl⟩ := hr
    have e3 := e2.trans (if_neg (by rw [hm]; decide))
    rw [e3]
    refine ⟨_, cw_o, _, rfl, _, _, cw_yr, hin, _, yref i4, _, (cw_Y i4).1, ?_⟩
    refine (w_lay i4).pv (fun h' hr => ?_) (fun E h' f => f.elim)
    subst hr
    exact ⟨rfl, fin.rf⟩
  · exact f.2.ans (R := fTray ω i s m) (by unfold fTray; rw [if_pos f.1]) (by unfold fTray; rw [if_pos f.1]; exact scr.rf _)
/-- how many numbers lie on a tray -/
def trs (ω : CW) : Prop := ∀ j, j < 4 → ∃ M, M ≤ 30 ∧ (wY ω j).1 = nI M
def fWrite (ω : CW) (i p : Int32) (v : Int64) : An Int64 × CW := match whyTr ω i with
  | some E => (.inl E, ω)
  | none => if p < 0 ∨ ¬ p < (wY ω (ix i)).1 then (.inl iob, ω) else (.inr (ycut (wY ω (ix i)).2.1 v), pY ω (ix i) ((wY ω (ix i)).1, (wY ω (ix i)).2.1, vp_updL (wY ω (ix i)).2.2 (ix p) (ycut (wY ω (ix i)).2.1 v)))
theorem w_write {v : Int64} (R : jroom g h 1 6) (Y : trs ω) : Con g mX11_write (d + 3) [.ref o, .int i, .int k, .long v] (cw g h o ω) (ansL g h o (fWrite ω i k v)) := by
  refine con_of plD (Nat.le_of_ble_eq_true rfl) rfl (bX11_write_0 ⟨_, cw_o, ?_⟩)
  refine (w_trayAt R).pr (fun r h' hr => ?_) (fun E h' f => f.2.ans (R := fWrite ω i k v) (by unfold fWrite; rw [f.1]) (by unfold fWrite; rw [f.1]; exact scr.rf _))
  obtain ⟨hw, hi, rfl, rfl⟩ := hr
  obtain ⟨ei, i4⟩ := trOk_ix hi
  have e1 : fWrite ω i k v = if k < 0 ∨ ¬ k < (wY ω (ix i)).1 then (.inl iob, ω) else (.inr (ycut (wY ω (ix i)).2.1 v), pY ω (ix i) ((wY ω (ix i)).1, (wY ω (ix i)).2.1, vp_updL (wY ω (ix i)).2.2 (ix k) (ycut (wY ω (ix i)).2.1 v))) := by unfold fWrite; rw [hw]
  have bad : (k < 0 ∨ ¬ k < (wY ω (ix i)).1) → ∀ hs, J g mX11_write (d + 3) hs (ansL g h o (fWrite ω i k v)) 20 [] [] (cw g h o ω) := by
    intro c hs
    refine bX11_write_20 (jthr_cw R (fun n h1 h2 => ?_))
    rw [e1, if_pos c]
    exact ⟨rfl, n, h1, h2, fin.rf⟩
  refine ⟨fun q => bad (Or.inl q) _, fun q => ⟨_, (cw_Y i4).1, _, rfl, fun q2 => ?_, fun q2 => bad (Or.inr q2) _⟩⟩
  have e2 := e1.trans (if_neg (by rintro (c | c); exact q c; exact c q2))
  obtain ⟨M, hM, eM⟩ := Y (ix i) i4
  have hk : vp_in k 30 ∧ k = nI (ix k) := by
    obtain ⟨j, hj, ej⟩ := nI_of q
    subst ej
    rw [ix_nI hj]
    have q3 : nI j < nI M := eM ▸ q2
    have := (nI_ltI hj (by omega)).mp q3
    exact ⟨vp_in_nI (by omega) (by decide), rfl⟩
  refine ⟨_, (cw_Y i4).1, ?_⟩
  refine (w_yput i4 hk.1).pv (fun h' hr => ?_) (fun E h' f => f.elim)
  subst hr
  refine ⟨_, (cw_Y i4).1, ?_⟩
  have C := c_at (g := g) (d := d + 1) (i := k) (cw_Y (g := g) (h := h) (o := o) (ω := pY ω (ix i) ((wY ω (ix i)).1, (wY ω (ix i)).2.1, vp_updL (wY ω (ix i)).2.2 (ix k) (ycut (wY ω (ix i)).2.1 v))) i4)
  refine C.pl (fun r h' hr => ?_) (fun E h' f => f.elim)
  obtain ⟨hr, rfl⟩ := hr
  rw [e2]
  refine ⟨?_, fin.rf⟩
  rw [hr hk.1, pY_at]
  show Sum.inr _ = Sum.inr (vp_updL _ (ix k) _ (ix k))
  simp only [vp_updL, if_true]
def cpyF (ω : CW) (s : Int32) (f : Nat → Int64) (x : Nat) : Nat → Nat → Int64
  | 0 => f
  | j + 1 => vp_updL (cpyF ω s f x j) j (ycut s (pasCame (tT ω) (aN ω j) x).toInt64)
def fCopy (ω : CW) (i k : Int32) : An Int32 × CW := if trOk i = false then (.inl nse, ω) else if sHas (wS ω) k = false then (.inl nse, ω) else if (wY ω (ix i)).2.1 = -1 then (.inl ise, ω) else (.inr (wY ω (ix i)).1, pY ω (ix i) ((wY ω (ix i)).1, (wY ω (ix i)).2.1, cpyF ω (wY ω (ix i)).2.1 (wY ω (ix i)).2.2 (ix k) (ix (wY ω (ix i)).1)))
theorem cw_came : (cw g h o (ak ω α κ)).1 (o + 354) = some (srow (κ.2.1 0)) := cw_at (c := kcell (o + 353) κ) (ω := ak ω α κ) 24 rfl 353 (by decide) (by decide) (k := 1) (by decide)
theorem copy_loop {t M : Nat} (S : sok (wS ω)) (T : toAt (cw g h o ω) o (wT ω)) (ht : t < 4) (hM : M ≤ 30) (eM : (wY ω t).1 = nI M) (hk : vp_in k 7) {hs : jH} : ∀ m j κ, M = j + m → J g mX11_copy (d + 6) hs (ansI g h o (.inr (wY ω t).1, pY ω t ((wY ω t).1, (wY ω t).2.1, cpyF ω (wY ω t).2.1 (wY ω t).2.2 (ix k) M))) 36 [(0, .ref o), (2, .int k), (3, .ref (o + (345 + 2 * t))), (4, .ref (o + 361)), (5, .int (nI j))] [] (cw g h o (ak (pY ω t ((wY ω t).1, (wY ω t).2.1, cpyF ω (wY ω t).2.1 (wY ω t).2.2 (ix k) j)) (aN ω j) κ)) := by
  intro m
  induction m with
  | zero =>
    intro j κ hj
    have : j = M := by omega
    subst this
    have Yc := (cw_Y (g := g) (h := h) (o := o) (ω := ak (pY ω t ((wY ω t).1, (wY ω t).2.1, cpyF ω (wY ω t).2.1 (wY ω t).2.2 (ix k) j)) (aN ω j) κ) ht).1
    have ey : wY (ak (pY ω t ((wY ω t).1, (wY ω t).2.1, cpyF ω (wY ω t).2.1 (wY ω t).2.2 (ix k) j)) (aN ω j) κ) t = ((wY ω t).1, (wY ω t).2.1, cpyF ω (wY ω t).2.1 (wY ω t).2.2 (ix k) j) := pY_at
    rw [ey] at Yc
    refine bX11_copy_36 ⟨_, Yc, _, rfl, fun c => ?_, fun _ => ⟨_, Yc, _, rfl, rfl, fin.of scr_ak⟩⟩
    have c' : nI j < (wY ω t).1 := c
    rw [eM] at c'
    exact absurd c' (nI_nlt (Nat.le_refl _) (by omega))
  | succ m ih =>
    intro j κ hj
    have Yc := (cw_Y (g := g) (h := h) (o := o) (ω := ak (pY ω t ((wY ω t).1, (wY ω t).2.1, cpyF ω (wY ω t).2.1 (wY ω t).2.2 (ix k) j)) (aN ω j) κ) ht).1
    have ey : wY (ak (pY ω t ((wY ω t).1, (wY ω t).2.1, cpyF ω (wY ω t).2.1 (wY ω t).2.2 (ix k) j)) (aN ω j) κ) t = ((wY ω t).1, (wY ω t).2.1, cpyF ω (wY ω t).2.1 (wY ω t).2.2 (ix k) j) := pY_at
    rw [ey] at Yc
    have hjM : nI j < (wY ω t).1 := by rw [eM]; exact nI_lt (by omega) (by omega)
    refine bX11_copy_36 ⟨_, Yc, _, rfl, fun _ => ⟨_, ak_o, _, rfl, _, ak_o, _, rfl, _, ak_o, _, rfl, _, ak_t (ω := pY ω t ((wY ω t).1, (wY ω t).2.1, cpyF ω (wY ω t).2.1 (wY ω t).2.2 (ix k) j)) T.mv, _, rfl, _, ak_k, ?_⟩, fun c => absurd hjM c⟩
    refine (a_pass (ω := pY ω t ((wY ω t).1, (wY ω t).2.1, cpyF ω (wY ω t).2.1 (wY ω t).2.2 (ix k) j)) (sok_aN S j) T.mv).pv (fun h' hr => ?_) (fun E h' f => f.elim)
    obtain ⟨κ', kg, rfl⟩ := hr
    have ec : κ'.2.1 0 = pasCame (tT ω) (aN ω j) := by rw [kg.2.1]; rfl
    have Yc2 := (cw_Y (g := g) (h := h) (o := o) (ω := ak (pY ω t ((wY ω t).1, (wY ω t).2.1, cpyF ω (wY ω t).2.1 (wY ω t).2.2 (ix k) j)) (pas (tT ω) (tL ω) (aN ω j)) κ') ht).1
    refine ⟨_, ak_o, _, rfl, _, ak_k, _, rfl, _, _, cw_came, hk, _, Yc2, ?_⟩
    refine (w_yput (ω := ak (pY ω t ((wY ω t).1, (wY ω t).2.1, cpyF ω (wY ω t).2.1 (wY ω t).2.2 (ix k) j)) (pas (tT ω) (tL ω) (aN ω j)) κ') ht (vp_in_nI (by omega) (by decide))).pv (fun h' hr => ?_) (fun E h' f => f.elim)
    have ey2 : wY (ak (pY ω t ((wY ω t).1, (wY ω t).2.1, cpyF ω (wY ω t).2.1 (wY ω t).2.2 (ix k) j)) (pas (tT ω) (tL ω) (aN ω j)) κ') t = ((wY ω t).1, (wY ω t).2.1, cpyF ω (wY ω t).2.1 (wY ω t).2.2 (ix k) j) := pY_at
    rw [ey2, ec, ix_nI (n := j) (by omega)] at hr
    have ew : pY (ak (pY ω t ((wY ω t).1, (wY ω t).2.1, cpyF ω (wY ω t).2.1 (wY ω t).2.2 (ix k) j)) (pas (tT ω) (tL ω) (aN ω j)) κ') t ((wY ω t).1, (wY ω t).2.1, cpyF ω (wY ω t).2.1 (wY ω t).2.2 (ix k) (j + 1)) = ak (pY ω t ((wY ω t).1, (wY ω t).2.1, cpyF ω (wY ω t).2.1 (wY ω t).2.2 (ix k) (j + 1))) (aN ω (j + 1)) κ' := by
      show ak (pY (pY ω t _) t _) _ κ' = _
      rw [pY_pY]
      rfl
    replace hr := hr.trans (congrArg (cw g h o) ew)
    subst hr
    rw [nI_1]
    exact ih (j + 1) κ' (by omega)
theorem w_copy (R : jroom g h 1 6) (S : sok (wS ω)) (T : toAt (cw g h o ω) o (wT ω)) (Y : trs ω) : Con g mX11_copy (d + 6) [.ref o, .int i, .int k] (cw g h o ω) (ansI g h o (fCopy ω i k)) := by
  refine con_of plD (Nat.le_of_ble_eq_true rfl) rfl (bX11_copy_0 ⟨_, cw_o, ?_⟩)
  refine (w_checkTray R).pv (fun h' hr => ?_) (fun E h' f => f.2.ans (R := fCopy ω i k) (by unfold fCopy; rw [if_pos f.1]) (by unfold fCopy; rw [if_pos f.1]; exact scr.rf _))
  obtain ⟨hi, rfl⟩ := hr
  obtain ⟨ei, i4⟩ := trOk_ix hi
  have e1 : fCopy ω i k = if sHas (wS ω) k = false then (.inl nse, ω) else if (wY ω (ix i)).2.1 = -1 then (.inl ise, ω) else (.inr (wY ω (ix i)).1, pY ω (ix i) ((wY ω (ix i)).1, (wY ω (ix i)).2.1, cpyF ω (wY ω (ix i)).2.1 (wY ω (ix i)).2.2 (ix k) (ix (wY ω (ix i)).1))) := if_neg (by rw [hi]; decide)
  refine ⟨_, cw_o, ?_⟩
  refine (w_checkHouse R S).pv (fun h' hr => ?_) (fun E h' f => f.2.ans (R := fCopy ω i k) (by rw [e1, if_pos f.1]) (by rw [e1, if_pos f.1]; exact scr.rf _))
  obtain ⟨hh, rfl⟩ := hr
  have e2 := e1.trans (if_neg (by rw [hh]; decide))
  refine ⟨_, cw_o, ?_⟩
  refine (w_trayAt R).pr (fun r h' hr => ?_) (fun E h' f => ?_)
  · obtain ⟨hw, _, rfl, rfl⟩ := hr
    have hms : ¬ (wY ω (ix i)).2.1 = -1 := by
      intro c
      unfold whyTr at hw
      rw [if_neg (by rw [hi]; decide), if_pos c] at hw
      exact absurd hw (by simp)
    have e3 := e2.trans (if_neg hms)
    obtain ⟨M, hM, eM⟩ := Y (ix i) i4
    refine ⟨_, cw_o, _, rfl, _, cw_o, _, rfl, _, cw_o, _, rfl, _, cw_k, ?_⟩
    refine a_from0.pr (fun r h' hr => ?_) (fun E h' f => f.elim)
    obtain ⟨rfl, rfl⟩ := hr
    have key := copy_loop (g := g) (d := d) (h := h) (o := o) (ω := ω) (k := k) (hs := cw g h o ω) (t := ix i) S T i4 hM eM (sHas_in S hh) M 0 (kT (wK ω) (wT ω).1) (Nat.zero_add _).symm
    rw [e3, eM, ix_nI (n := M) (by omega)]
    rw [eM] at key
    have e0 : pY ω (ix i) (nI M, (wY ω (ix i)).2.1, cpyF ω (wY ω (ix i)).2.1 (wY ω (ix i)).2.2 (ix k) 0) = ω := by
      have : (nI M, (wY ω (ix i)).2.1, cpyF ω (wY ω (ix i)).2.1 (wY ω (ix i)).2.2 (ix k) 0) = wY ω (ix i) := by rw [← eM]; rfl
      rw [this, pY_self]
    rw [e0] at key
    exact key
  · obtain ⟨f1, f2⟩ := f
    unfold whyTr at f1
    rw [if_neg (by rw [hi]; decide)] at f1
    have hms : (wY ω (ix i)).2.1 = -1 := by
      by_cases c : (wY ω (ix i)).2.1 = -1
      · exact c
      · rw [if_neg c] at f1
        exact absurd f1 (by simp)
    rw [if_pos hms] at f1
    have eE : E = ise := (Option.some.inj f1).symm
    subst eE
    exact f2.ans (R := fCopy ω i k) (by rw [e2, if_pos hms]) (by rw [e2, if_pos hms]; exact scr.rf _)
end CM7
