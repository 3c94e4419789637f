/-! The class's methods: what is seen of hidden debts -/
def badL (f : Nat → Int64) : Nat → Nat → Bool
  | 0, _ => false
  | m + 1, j => if f j < -1 ∨ 999999 < f j then true else badL f m (j + 1)
def whySeen (ω : CW) (i k : Int32) : Option String := if trOk i = false then some nse else if sHas (wS ω) k = false then some nse else if (wY ω (ix i)).2.1 = -1 then some ise else if (wY ω (ix i)).1 < 1 ∨ 12 < (wY ω (ix i)).1 then some iae else if badL (wY ω (ix i)).2.2 (ix (wY ω (ix i)).1) 0 = true then some iae else none
def seenN (ω : CW) (i k : Int32) : Nat := hidN (tT ω) (wT ω).2.2 (wY ω (ix i)).2.2 (ix k) (ix (wY ω (ix i)).1) 693
def seenD (ω : CW) (i k : Int32) (δ : Ds) : Ds := hidD (tT ω) (wT ω).2.2 (wY ω (ix i)).2.2 (ix k) (ix (wY ω (ix i)).1) δ 693
def fSeen (ω : CW) (i k : Int32) : An Int32 := match whySeen ω i k with
  | some E => .inl E
  | none => .inr (nI (seenN ω i k))
section CM9
variable {g : jG} {d : Nat} {h : jH} {o : Nat} {ω : CW} {α : St} {κ : Ks} {i k n : Int32}
theorem cw_d : (cw g h o ω).1 (o + 386) = some (dobj (o + 386) (wD ω).1) := cw_at (c := dcell (o + 386) (wD ω)) 28 rfl 386 (by decide) (by decide) (k := 0) (by decide)
theorem cw_d1 : (cw g h o ω).1 (o + 387) = some (d693 (wD ω).2.1) := cw_at (c := dcell (o + 386) (wD ω)) 28 rfl 386 (by decide) (by decide) (k := 1) (by decide)
theorem seen_loop {t M : Nat} (R : jroom g h 1 6) (ht : t < 4) (hM : M ≤ 30) (eM : (wY ω t).1 = nI M) {W : Option String} {hs : jH} {Cc : Prop} (hC : Cc) : ∀ m j, M = j + m → (if badL (wY ω t).2.2 m j = true then some iae else none) = W → J g mX11_seenTray (d + 3) hs (jPr (fun r h' => W = none ∧ Cc ∧ r = o + (345 + 2 * t) ∧ h' = cw g h o ω) (fun E h' => W = some E ∧ thx g h o ω E E h')) 47 [(3, .ref (o + (345 + 2 * t))), (4, .int (nI j))] [] (cw g h o ω) := by
  intro m
  induction m with
  | zero =>
    intro j hj e
    have : j = M := by omega
    subst this
    refine bX11_seenTray_47 ⟨_, (cw_Y ht).1, _, rfl, fun c => ?_, fun _ => ⟨e.symm, hC, rfl, rfl⟩⟩
    have c' : nI j < (wY ω t).1 := c
    rw [eM] at c'
    exact absurd c' (nI_nlt (Nat.le_refl _) (by omega))
  | succ m ih =>
    intro j hj e
    have hjM : nI j < (wY ω t).1 := by rw [eM]; exact nI_lt (by omega) (by omega)
    have hin : vp_in (nI j) 30 := vp_in_nI (by omega) (by decide)
    have bad : ((wY ω t).2.2 j < -1 ∨ 999999 < (wY ω t).2.2 j) → ∀ hs, J g mX11_seenTray (d + 3) hs (jPr (fun r h' => W = none ∧ Cc ∧ r = o + (345 + 2 * t) ∧ h' = cw g h o ω) (fun E h' => W = some E ∧ thx g h o ω E E h')) 82 [] [] (cw g h o ω) := by
      intro c hs
      refine bX11_seenTray_82 (jthr_cw R (fun n h1 h2 => ⟨Eq.trans e.symm ?_, thx_rf h1 h2⟩))
      rw [badL, if_pos c, if_pos rfl]
      rfl
    refine bX11_seenTray_47 ⟨_, (cw_Y ht).1, _, rfl, fun _ => ⟨_, (cw_Y ht).1, ?_⟩, fun c => absurd hjM c⟩
    refine (c_at (cw_Y ht)).pl (fun r h' hr => ?_) (fun E h' f => f.elim)
    obtain ⟨hr, rfl⟩ := hr
    have er := hr hin
    rw [ix_nI (n := j) (by omega)] at er
    subst er
    refine ⟨fun q => bad (Or.inl q) _, fun q => ⟨_, (cw_Y ht).1, ?_⟩⟩
    refine (c_at (cw_Y ht)).pl (fun r h' hr => ?_) (fun E h' f => f.elim)
    obtain ⟨hr, rfl⟩ := hr
    have er := hr hin
    rw [ix_nI (n := j) (by omega)] at er
    subst er
    refine ⟨fun q2 => bad (Or.inr q2) _, fun q2 => ?_⟩
    rw [nI_1]
    have eb : badL (wY ω t).2.2 (m + 1) j = badL (wY ω t).2.2 m (j + 1) := if_neg (by rintro (c | c); exact q c; exact q2 c)
    rw [eb] at e
    exact ih (j + 1) (by omega) e
theorem w_seenTray (R : jroom g h 1 6) (S : sok (wS ω)) (Y : trs ω) : Con g mX11_seenTray (d + 3) [.ref o, .int i, .int k] (cw g h o ω) (jPr (fun r h' => whySeen ω i k = none ∧ (trOk i = true ∧ sHas (wS ω) k = true) ∧ r = o + (345 + 2 * ix i) ∧ h' = cw g h o ω) (fun E h' => whySeen ω i k = some E ∧ thx g h o ω E E h')) := by
  refine con_of km_X11_seenTray.1.2.2.2.2 (Nat.le_of_ble_eq_true rfl) rfl (bX11_seenTray_0 ⟨_, cw_o, ?_⟩)
  refine (w_checkTray R).pv (fun h' hr => ?_) (fun E h' f => ?_)
  · obtain ⟨hi, rfl⟩ := hr
    obtain ⟨ei, i4⟩ := trOk_ix hi
    have e1 : whySeen ω i k = if sHas (wS ω) k = false then some nse else if (wY ω (ix i)).2.1 = -1 then some ise else if (wY ω (ix i)).1 < 1 ∨ 12 < (wY ω (ix i)).1 then some iae else if badL (wY ω (ix i)).2.2 (ix (wY ω (ix i)).1) 0 = true then some iae else none := if_neg (by rw [hi]; decide)
    refine ⟨_, cw_o, ?_⟩
    refine (w_checkHouse R S).pv (fun h' hr => ?_) (fun E h' f => ?_)
    · obtain ⟨hh, rfl⟩ := hr
      have e2 := e1.trans (if_neg (by rw [hh]; decide))
      refine ⟨_, cw_o, ?_⟩
      refine (w_trayAt R).pr (fun r h' hr => ?_) (fun E h' f => ?_)
      · obtain ⟨hw, _, rfl, rfl⟩ := hr
        have hms : ¬ (wY ω (ix i)).2.1 = -1 := by
          intro c
          unfold whyTr at hw
          rw [if_neg (by rw [hi]; decide), if_pos c] at hw
          exact absurd hw (by simp)
        have e3 := e2.trans (if_neg hms)
        obtain ⟨M, hM, eM⟩ := Y (ix i) i4
        have low : ((wY ω (ix i)).1 < 1 ∨ 12 < (wY ω (ix i)).1) → ∀ hs, J g mX11_seenTray (d + 3) hs (jPr (fun r h' => whySeen ω i k = none ∧ (trOk i = true ∧ sHas (wS ω) k = true) ∧ r = o + (345 + 2 * ix i) ∧ h' = cw g h o ω) (fun E h' => whySeen ω i k = some E ∧ thx g h o ω E E h')) 33 [] [] (cw g h o ω) := fun c hs => bX11_seenTray_33 (jthr_cw R (fun n h1 h2 => ⟨e3.trans (if_pos c), thx_rf h1 h2⟩))
        refine ⟨_, (cw_Y i4).1, _, rfl, fun q => low (Or.inl q) _, fun q => ⟨_, (cw_Y i4).1, _, rfl, fun q2 => low (Or.inr q2) _, fun q2 => ?_⟩⟩
        have e4 := e3.trans (if_neg (by rintro (c | c); exact q c; exact q2 c))
        exact seen_loop (g := g) (d := d) (h := h) (o := o) (ω := ω) (hs := cw g h o ω) (W := whySeen ω i k) R i4 hM eM ⟨hi, hh⟩ M 0 (Nat.zero_add _).symm (by rw [e4, eM, ix_nI (n := M) (by omega)])
      · obtain ⟨f1, f2⟩ := f
        unfold whyTr at f1
        rw [if_neg (by rw [hi]; decide)] at f1
        have hms : (wY ω (ix i)).2.1 = -1 := by
          by_cases c : (wY ω (ix i)).2.1 = -1
          · exact c
          · rw [if_neg c] at f1
            exact absurd f1 (by simp)
        rw [if_pos hms] at f1
        exact ⟨e2.trans ((if_pos hms).trans f1), f2⟩
    · obtain ⟨f1, rfl, f2⟩ := f
      exact ⟨e1.trans (if_pos f1), rfl, f2⟩
  · obtain ⟨f1, rfl, f2⟩ := f
    exact ⟨if_pos f1, rfl, f2⟩
theorem w_find {x M t : Nat} (T : toAt (cw g h o ω) o (wT ω)) (ht : t < 4) (hx : x < sN (wT ω).2.2) (hM : M ≤ 30) (eM : (wY ω t).1 = nI M) : Con g mX1_find (d + 7) [.ref (o + 386), .ref (o + 353), .ref (wT ω).1, .ref (o + (345 + 2 * t)), .int (nI x)] (cw g h o ω) (jPv (fun h' => ∃ α' κ', h' = cw g h o (ak (pD ω (hidD (tT ω) (wT ω).2.2 (wY ω t).2.2 x M (wD ω) 693)) α' κ')) no2) := by
  have ew : ∀ δ α κ, wd (cw g h o ω) (o + 386) (o + 353) δ α κ = cw g h o (ak (pD ω δ) α κ) := by
    intro δ α κ
    unfold wd
    rw [cw_pD, w_wkA]
    rfl
  have pl := T.2.2.2.1
  have C := c_find (g := g) (d := d) (h := cw g h o ω) (e := o + 386) (c := o + 353) (δ := wD ω) (α := wA ω) (κ := wK ω) (t := (wT ω).1) (T := (wT ω).2.1) (β := (wT ω).2.2) (y := o + (345 + 2 * t)) (θ := wY ω t) (x := x) (M := M) T.2.2.1 T.2.1 T.1 (T.far (by omega) (by omega)) (T.far (by omega) (by omega)) (Or.inr (by omega)) (by unfold apart; omega) (by unfold apart; omega) (cw_Y ht) (Or.inl (by omega)) (Or.inl (by omega)) hx hM eM
  rw [ew] at C
  exact C.pv (fun h' ⟨α', κ', e⟩ => ⟨α', κ', e.trans (ew _ _ _)⟩) (fun E h' f => f)
theorem has_st {β : St} (S : sok (wS ω)) (e : β.1 0 = (wS ω).1 0) (hh : sHas (wS ω) k = true) : ix k < sN β ∧ k = nI (ix k) := by
  obtain ⟨a, b, c⟩ := sHas_ix S hh
  have : sN β = sN (wS ω) := by unfold sN; rw [e]
  exact ⟨by omega, b⟩
theorem w_seen (R : jroom g h 1 6) (S : sok (wS ω)) (T : toAt (cw g h o ω) o (wT ω)) (Y : trs ω) (hB : (wT ω).2.2.1 0 = (wS ω).1 0) : Con g mX11_seen (d + 8) [.ref o, .int i, .int k] (cw g h o ω) (ansI g h o (fSeen ω i k, ω)) := by
  refine con_of plD (Nat.le_of_ble_eq_true rfl) rfl (bX11_seen_0 ⟨_, cw_o, _, rfl, _, cw_o, _, rfl, _, cw_o, _, rfl, _, cw_o, ?_⟩)
  refine (w_seenTray R S Y).pr (fun r h' hr => ?_) (fun E h' f => f.2.ans (by show fSeen ω i k = _; unfold fSeen; rw [f.1]) (scr.rf _))
  obtain ⟨hw, ⟨hi, hh⟩, rfl, rfl⟩ := hr
  obtain ⟨ei, i4⟩ := trOk_ix hi
  obtain ⟨hx, ek⟩ := has_st S hB hh
  obtain ⟨M, hM, eM⟩ := Y (ix i) i4
  have C := w_find (g := g) (d := d) (h := h) (o := o) (ω := ω) T i4 hx hM eM
  rw [← ek] at C
  refine ⟨_, cw_d, ?_⟩
  refine C.pv (fun h' hr => ?_) (fun E h' f => f.elim)
  obtain ⟨α', κ', rfl⟩ := hr
  refine ⟨_, cw_o, _, rfl, _, cw_d, _, rfl, ?_, fin.of ((scr_D ω _).tr scr_ak)⟩
  show fSeen ω i k = _
  unfold fSeen
  rw [hw]
  show Sum.inr (nI (seenN ω i k)) = Sum.inr (hidD (tT ω) (wT ω).2.2 (wY ω (ix i)).2.2 (ix k) M (wD ω) 693).1
  rw [hidD_1]
  unfold seenN
  rw [eM, ix_nI (n := M) (by omega)]
def fHidden (ω : CW) (i k n : Int32) : An Int32 := match whySeen ω i k with
  | some E => .inl E
  | none => if n < 0 then .inl iae else .inr (if n < nI (seenN ω i k) then (seenD ω i k (wD ω)).2.1 (ix n) else -1)
theorem w_hidden (R : jroom g h 1 6) (S : sok (wS ω)) (T : toAt (cw g h o ω) o (wT ω)) (Y : trs ω) (hB : (wT ω).2.2.1 0 = (wS ω).1 0) : Con g mX11_hidden (d + 8) [.ref o, .int i, .int k, .int n] (cw g h o ω) (ansI g h o (fHidden ω i k n, ω)) := by
  refine con_of plD (Nat.le_of_ble_eq_true rfl) rfl (bX11_hidden_0 ⟨_, cw_o, ?_⟩)
  refine (w_seenTray R S Y).pr (fun r h' hr => ?_) (fun E h' f => f.2.ans (by show fHidden ω i k n = _; unfold fHidden; rw [f.1]) (scr.rf _))
  obtain ⟨hw, ⟨hi, hh⟩, rfl, rfl⟩ := hr
  obtain ⟨ei, i4⟩ := trOk_ix hi
  obtain ⟨hx, ek⟩ := has_st S hB hh
  obtain ⟨M, hM, eM⟩ := Y (ix i) i4
  have e1 : fHidden ω i k n = if n < 0 then .inl iae else .inr (if n < nI (seenN ω i k) then (seenD ω i k (wD ω)).2.1 (ix n) else -1) := by unfold fHidden; rw [hw]
  refine ⟨fun q => jthr_cw R (fun n h1 h2 => ⟨e1.trans (if_pos q), n, h1, h2, fin.rf⟩), fun q => ⟨_, cw_o, _, rfl, _, cw_o, _, rfl, _, cw_o, _, rfl, _, cw_d, ?_⟩⟩
  have e2 := e1.trans (if_neg q)
  have C := w_find (g := g) (d := d) (h := h) (o := o) (ω := ω) T i4 hx hM eM
  rw [← ek] at C
  refine C.pv (fun h' hr => ?_) (fun E h' f => f.elim)
  obtain ⟨α', κ', rfl⟩ := hr
  have eF : (hidD (tT ω) (wT ω).2.2 (wY ω (ix i)).2.2 (ix k) M (wD ω) 693).1 = nI (seenN ω i k) := by
    rw [hidD_1]
    unfold seenN
    rw [eM, ix_nI (n := M) (by omega)]
  have eD : seenD ω i k (wD ω) = hidD (tT ω) (wT ω).2.2 (wY ω (ix i)).2.2 (ix k) M (wD ω) 693 := by
    unfold seenD
    rw [eM, ix_nI (n := M) (by omega)]
  have F6 : seenN ω i k ≤ 693 := hidN_le 693
  have below : n < nI (seenN ω i k) → n = nI (ix n) ∧ ix n < 693 := by
    intro c
    obtain ⟨j, hj, ej⟩ := nI_of q
    subst ej
    rw [ix_nI hj]
    have := (nI_ltI hj (by omega)).mp c
    exact ⟨rfl, by omega⟩
  refine ⟨_, cw_o, _, rfl, _, cw_d, _, rfl, fun q2 => ⟨_, cw_o, _, rfl, _, cw_d, _, rfl, _, _, cw_d1, ⟨_, rfl⟩, fun q3 => ⟨_, cw_o, _, rfl, _, cw_d, _, rfl, _, _, cw_d1, ?_, ?_, fin.of ((scr_D ω _).tr scr_ak)⟩, fun q3 => ?_⟩, fun q2 => ⟨?_, fin.of ((scr_D ω _).tr scr_ak)⟩⟩
  · replace q2 : n < (hidD (tT ω) (wT ω).2.2 (wY ω (ix i)).2.2 (ix k) M (wD ω) 693).1 := q2
    rw [eF] at q2
    obtain ⟨b1, b2⟩ := below q2
    rw [b1]
    exact vp_in_nI b2 (by decide)
  · replace q2 : n < (hidD (tT ω) (wT ω).2.2 (wY ω (ix i)).2.2 (ix k) M (wD ω) 693).1 := q2
    rw [eF] at q2
    refine e2.trans (congrArg Sum.inr ((if_pos q2).trans ?_))
    rw [eD]
    rfl
  · replace q2 : n < (hidD (tT ω) (wT ω).2.2 (wY ω (ix i)).2.2 (ix k) M (wD ω) 693).1 := q2
    rw [eF] at q2
    obtain ⟨b1, b2⟩ := below q2
    have : n < nI 693 := by rw [b1]; exact nI_lt b2 (by decide)
    exact absurd this q3
  · replace q2 : ¬ n < (hidD (tT ω) (wT ω).2.2 (wY ω (ix i)).2.2 (ix k) M (wD ω) 693).1 := q2
    rw [eF] at q2
    exact e2.trans (congrArg Sum.inr (if_neg q2))
def fLook (ω : CW) (i k : Int32) : An Int32 := match whySeen ω i k with
  | some E => .inl E
  | none => .inr (if seenN ω i k = 0 then -1 else (tmF (seenD ω i k (wD ω)).2.2 (seenN ω i k) (sN (wS ω))).1)
theorem w_tellingMost {F N : Nat} (hn : N ≤ 7) (hF : F ≤ 693) (hδ : (wD ω).1 = nI F) : Con g mX1_tellingMost (d + 3) [.ref (o + 386), .int (nI N)] (cw g h o ω) (jPi (fun r h' => r = (if F = 0 then -1 else (tmF (wD ω).2.2 F N).1) ∧ ∃ δ', h' = cw g h o (pD ω δ')) no2) := by
  have C := c_tellingMost (g := g) (d := d) (h := cw g h o ω) (e := o + 386) (δ := wD ω) hn hF hδ
  rw [cw_pD] at C
  exact C.pi (fun r h' ⟨e, δ', _, _, e'⟩ => ⟨e, δ', e'.trans (cw_pD _)⟩) (fun E h' f => f)
theorem w_look (R : jroom g h 1 6) (S : sok (wS ω)) (T : toAt (cw g h o ω) o (wT ω)) (Y : trs ω) (hB : (wT ω).2.2.1 0 = (wS ω).1 0) : Con g mX11_look (d + 8) [.ref o, .int i, .int k] (cw g h o ω) (ansI g h o (fLook ω i k, ω)) := by
  refine con_of plD (Nat.le_of_ble_eq_true rfl) rfl (bX11_look_0 ⟨_, cw_o, _, rfl, _, cw_o, _, rfl, _, cw_o, _, rfl, _, cw_o, ?_⟩)
  refine (w_seenTray R S Y).pr (fun r h' hr => ?_) (fun E h' f => f.2.ans (by show fLook ω i k = _; unfold fLook; rw [f.1]) (scr.rf _))
  obtain ⟨hw, ⟨hi, hh⟩, rfl, rfl⟩ := hr
  obtain ⟨ei, i4⟩ := trOk_ix hi
  obtain ⟨hx, ek⟩ := has_st S hB hh
  obtain ⟨M, hM, eM⟩ := Y (ix i) i4
  have C := w_find (g := g) (d := d) (h := h) (o := o) (ω := ω) T i4 hx hM eM
  rw [← ek] at C
  refine ⟨_, cw_d, ?_⟩
  refine C.pv (fun h' hr => ?_) (fun E h' f => f.elim)
  obtain ⟨α', κ', rfl⟩ := hr
  have eF : (hidD (tT ω) (wT ω).2.2 (wY ω (ix i)).2.2 (ix k) M (wD ω) 693).1 = nI (seenN ω i k) := by
    rw [hidD_1]
    unfold seenN
    rw [eM, ix_nI (n := M) (by omega)]
  have eD : seenD ω i k (wD ω) = hidD (tT ω) (wT ω).2.2 (wY ω (ix i)).2.2 (ix k) M (wD ω) 693 := by
    unfold seenD
    rw [eM, ix_nI (n := M) (by omega)]
  have C2 := w_tellingMost (g := g) (d := d + 4) (h := h) (o := o) (ω := ak (pD ω (hidD (tT ω) (wT ω).2.2 (wY ω (ix i)).2.2 (ix k) M (wD ω) 693)) α' κ') (F := seenN ω i k) (N := sN (wS ω)) S.2 (hidN_le 693) eF
  rw [← S.1] at C2
  refine ⟨_, cw_o, _, rfl, _, cw_o, _, rfl, _, cw_S.1, _, rfl, _, cw_d, ?_⟩
  refine C2.pi (fun r h' hr => ?_) (fun E h' f => f.elim)
  obtain ⟨rfl, δ', rfl⟩ := hr
  refine ⟨?_, fin.of ((scr_D ω _).tr (scr_ak.tr (scr_D _ _)))⟩
  show fLook ω i k = _
  unfold fLook
  rw [hw, eD]
  rfl
end CM9
