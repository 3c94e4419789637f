section CM6
variable {g : jG} {d : Nat} {h : jH} {o : Nat} {ω : CW} {α : St} {κ : Ks} {i k n : Int32}
theorem hedges_loop {N : Nat} (hN : N < 2 ^ 31) (S : sok (wS ω)) (T : toAt (cw g h o ω) o (wT ω)) {R : An Int32} {w : Int32} {hs : jH} : ∀ m s f b α κ, 2 ^ sN (wS ω) = s + m → .inr (hedV (hedL ω i N m s f b) w) = R → J g mX11_hedges (d + 8) hs (ansI g h o (R, ω)) 32 [(0, .ref o), (1, .int i), (2, .int (nI N)), (3, .int w), (4, .int f), (5, .int b), (6, .int (nI s))] [] (cw g h o (ak ω α κ)) := by
  have h7 := S.2
  have hpow : 2 ^ sN (wS ω) ≤ 2 ^ 7 := Nat.pow_le_pow_right (by decide) h7
  have hsh : ((1 : Int32) <<< ((jmin ((wS ω).1 0) 7) &&& 31)) = nI (2 ^ sN (wS ω)) := by rw [S.1]; exact shl_in _ (by omega)
  intro m
  induction m with
  | zero =>
    intro s f b α κ hs e
    refine bX11_hedges_32 ⟨_, ak_o, _, rfl, _, ak_S.1, _, rfl, fun c => ?_, fun _ => ⟨fun q => ⟨?_, fin.of scr_ak⟩, fun q => ⟨fun q2 => ⟨?_, fin.of scr_ak⟩, fun q2 => ⟨?_, fin.of scr_ak⟩⟩⟩⟩
    · have c' : nI s < ((1 : Int32) <<< ((jmin ((wS ω).1 0) 7) &&& 31)) := c
      rw [hsh] at c'
      exact absurd c' (nI_nlt (by omega) (by omega))
    · rw [← e]; exact congrArg Sum.inr (if_pos (Or.inl q))
    · rw [← e]; exact congrArg Sum.inr (if_pos (Or.inr q2))
    · rw [← e]; exact congrArg Sum.inr (if_neg (by rintro (c | c); exact q c; exact q2 c))
  | succ m ih =>
    intro s f b α κ hs e
    have hlt : nI s < ((1 : Int32) <<< ((jmin ((wS ω).1 0) 7) &&& 31)) := by rw [hsh]; exact nI_lt (by omega) (by omega)
    refine bX11_hedges_32 ⟨_, ak_o, _, rfl, _, ak_S.1, _, rfl, fun _ => ?_, fun c => absurd hlt c⟩
    refine (c_bitCount (n := s) (by omega)).pi (fun r h' hr => ?_) (fun E h' f => f.elim)
    obtain ⟨rfl, rfl⟩ := hr
    rw [nI_1]
    refine ⟨fun q => ⟨_, ak_o, ?_⟩, fun q => ih (s + 1) _ _ _ _ (by omega) (Eq.trans ?_ e)⟩
    · refine (w_isSavedBy (s := s) hN (by omega) S T).pi (fun r h' hr => ?_) (fun E h' f => f.elim)
      obtain ⟨rfl, α', κ', rfl⟩ := hr
      refine ⟨fun q2 => ih (s + 1) _ _ _ _ (by omega) (Eq.trans ?_ e), fun q2 => ?_⟩
      · have q3 : ruiW ω (hdgS ω s (nI N) (sN (wS ω))) i N = true := by
          have := (bI_0 rfl).1.mp q2
          simpa using this
        rw [hedL, if_neg (by rw [q3]; rintro ⟨_, c⟩; exact Bool.noConfusion c)]
      · have q3 : ruiW ω (hdgS ω s (nI N) (sN (wS ω))) i N = false := by
          have := (bI_0 rfl).2.mp q2
          simpa using this
        refine (c_bitCount (n := s) (by omega)).pi (fun r h' hr => ?_) (fun E h' f => f.elim)
        obtain ⟨rfl, rfl⟩ := hr
        refine ih (s + 1) _ _ _ _ (by omega) (Eq.trans ?_ e)
        rw [hedL, if_pos ⟨q, q3⟩]
    · rw [hedL, if_neg (fun c => q c.1)]
theorem w_hedges {w : Int32} (R : jroom g h 1 6) (S : sok (wS ω)) (T : toAt (cw g h o ω) o (wT ω)) : Con g mX11_hedges (d + 8) [.ref o, .int i, .int n, .int w] (cw g h o ω) (ansI g h o (fHedges ω i n w, ω)) := by
  refine con_of plD (Nat.le_of_ble_eq_true rfl) rfl (bX11_hedges_0 ⟨_, cw_o, ?_⟩)
  refine (w_checkHouse R S).pv (fun h' hr => ?_) (fun E h' f => f.2.ans (if_pos f.1) (scr.rf _))
  obtain ⟨hh, rfl⟩ := hr
  have e1 : fHedges ω i n w = if inN n 1 20 = false then .inl iae else if inN w 0 1 = false then .inl iae else if sGone (wS ω) i = true then .inl ise else .inr (hedV (hedL ω i (ix n) (2 ^ sN (wS ω)) 0 8 (-1)) w) := if_neg (by rw [hh]; decide)
  refine ⟨_, cw_o, ?_⟩
  refine (w_checkNear R).pv (fun h' hr => ?_) (fun E h' f => f.2.ans (e1.trans (if_pos f.1)) (scr.rf _))
  obtain ⟨hn, rfl⟩ := hr
  have e2 := e1.trans (if_neg (by rw [hn]; decide))
  refine ⟨_, cw_o, ?_⟩
  refine (w_checkWithin R).pv (fun h' hr => ?_) (fun E h' f => f.2.ans (e2.trans (if_pos f.1)) (scr.rf _))
  obtain ⟨hw, rfl⟩ := hr
  have e3 := e2.trans (if_neg (by rw [hw]; decide))
  refine ⟨_, cw_o, ?_⟩
  refine (w_checkNotGone R S).pv (fun h' hr => ?_) (fun E h' f => f.2.ans (e3.trans (if_pos f.1)) (scr.rf _))
  obtain ⟨hg, rfl⟩ := hr
  have e4 := e3.trans (if_neg (by rw [hg]; decide))
  obtain ⟨en, n1, n2⟩ := inN_nI (a := 1) (b := 20) (by omega) (by omega) hn
  have key := hedges_loop (g := g) (d := d) (h := h) (o := o) (ω := ω) (i := i) (w := w) (hs := cw g h o ω) (N := ix n) (by omega) S T (R := fHedges ω i n w) (2 ^ sN (wS ω)) 0 8 (-1) (wA ω) (wK ω) (Nat.zero_add _).symm e4.symm
  rw [← en] at key
  exact key
theorem bestHedge_loop {N : Nat} (hN : N < 2 ^ 31) (S : sok (wS ω)) (T : toAt (cw g h o ω) o (wT ω)) {R : An Int32} {hs : jH} : ∀ m j f b α κ, sN (wS ω) = j + m → .inr (bhgL ω N m j f b) = R → J g mX11_bestHedge (d + 7) hs (ansI g h o (R, ω)) 16 [(0, .ref o), (1, .int (nI N)), (2, .int f), (3, .int b), (4, .int (nI j))] [] (cw g h o (ak ω α κ)) := by
  have h7 := S.2
  intro m
  induction m with
  | zero =>
    intro j f b α κ hj e
    refine bX11_bestHedge_16 ⟨_, ak_o, _, rfl, _, ak_S.1, _, rfl, fun c => ?_, fun _ => ⟨e.symm, fin.of scr_ak⟩⟩
    have c' : nI j < (wS ω).1 0 := c
    rw [S.1] at c'
    exact absurd c' (nI_nlt (by omega) (by omega))
  | succ m ih =>
    intro j f b α κ hj e
    have hjn : nI j < (wS ω).1 0 := by rw [S.1]; exact nI_lt (by omega) (by omega)
    have hji : vp_in (nI j) 7 := vp_in_nI (by omega) (by decide)
    have hix : ix (nI j) = j := ix_nI (by omega)
    refine bX11_bestHedge_16 ⟨_, ak_o, _, rfl, _, ak_S.1, _, rfl, fun _ => ⟨fun _ => ⟨_, ak_o, _, rfl, _, ak_o, _, rfl, _, ak_o, _, rfl, _, ak_k, ?_⟩, fun c => absurd (nI_lt (a := j) (b := 7) (by omega) (by omega)) c⟩, fun c => absurd hjn c⟩
    refine a_from.pr (fun r h' hr => ?_) (fun E h' f => f.elim)
    obtain ⟨rfl, rfl⟩ := hr
    refine ⟨_, ak_A.1, _, rfl, _, _, ak_A.2.2.2.2.2.2, hji, fun h1 q1 => ?_⟩
    replace q1 := q1.trans (ak_set (r := 5) (by decide) _)
    subst q1
    refine ⟨_, ak_o, _, rfl, _, ak_k, ?_⟩
    have C := a_losses (g := g) (d := d) (h := h) (o := o) (ω := ω) (α := setR (wS ω) 5 (upd ((wS ω).2 5) (ix (nI j)) (nI N))) (κ := kT κ (wT ω).1) (k := f) (m := N) (sok_like rfl S) T hN rfl
    refine C.pi (fun r h' hr => ?_) (fun E h' f => f.elim)
    obtain ⟨rfl, α', κ', ko, rfl⟩ := hr
    rw [nI_1]
    have el : lostN (tT ω) (tL ω) (setR (wS ω) 5 (upd ((wS ω).2 5) (ix (nI j)) (nI N))) (losI (tT ω) (tL ω) (setR (wS ω) 5 (upd ((wS ω).2 5) (ix (nI j)) (nI N))) f N 0) = losW ω (setR (wS ω) 5 (upd ((wS ω).2 5) j (nI N))) f N := by rw [hix]; rfl
    rw [el]
    refine ⟨fun q => ih (j + 1) _ _ _ _ (by omega) (Eq.trans ?_ e), fun q => ih (j + 1) _ _ _ _ (by omega) (Eq.trans ?_ e)⟩
    · rw [bhgL, if_pos q]
    · rw [bhgL, if_neg q]
theorem w_bestHedge (R : jroom g h 1 6) (S : sok (wS ω)) (T : toAt (cw g h o ω) o (wT ω)) : Con g mX11_bestHedge (d + 8) [.ref o, .int n] (cw g h o ω) (ansI g h o (fBestHedge ω n, ω)) := by
  refine con_of plD (Nat.le_of_ble_eq_true rfl) rfl (bX11_bestHedge_0 ⟨_, cw_o, ?_⟩)
  refine (w_checkNear R).pv (fun h' hr => ?_) (fun E h' f => f.2.ans (if_pos f.1) (scr.rf _))
  obtain ⟨hn, rfl⟩ := hr
  obtain ⟨en, n1, n2⟩ := inN_nI (a := 1) (b := 20) (by omega) (by omega) hn
  have C := w_lostNow (g := g) (d := d) (h := h) (o := o) (ω := ω) (m := ix n) (by omega) S T
  rw [← en] at C
  refine ⟨_, cw_o, ?_⟩
  refine C.pi (fun r h' hr => ?_) (fun E h' f => f.elim)
  obtain ⟨rfl, α', κ', ko, rfl⟩ := hr
  have key := bestHedge_loop (g := g) (d := d + 1) (h := h) (o := o) (ω := ω) (hs := cw g h o ω) (N := ix n) (by omega) S T (R := fBestHedge ω n) (sN (wS ω)) 0 (lostW ω (ix n)) (-1) α' κ' (Nat.zero_add _).symm (if_neg (by rw [hn]; decide)).symm
  rw [← en] at key
  exact key
theorem saves_loop {N : Nat} (hN : N < 2 ^ 31) (S : sok (wS ω)) (T : toAt (cw g h o ω) o (wT ω)) (hi : vp_in i 7) {R : An Int32} {hs : jH} : ∀ m j α κ, 1000 = j + m → .inr (savL ω i N m j) = R → J g mX11_saves (d + 7) hs (ansI g h o (R, ω)) 17 [(0, .ref o), (1, .int i), (2, .int (nI N)), (3, .int (nI j))] [] (cw g h o (ak ω α κ)) := by
  intro m
  induction m with
  | zero =>
    intro j α κ hj e
    have : j = 1000 := by omega
    subst this
    exact bX11_saves_17 ⟨fun _ => ⟨e.symm, fin.of scr_ak⟩, fun c => absurd (nI_lt (a := 999) (b := 1000) (by omega) (by omega)) c⟩
  | succ m ih =>
    intro j α κ hj e
    refine bX11_saves_17 ⟨fun c => absurd c (nI_nlt (a := 999) (b := j) (by omega) (by omega)), fun _ => ⟨_, ak_o, _, rfl, _, ak_o, _, rfl, _, ak_o, _, rfl, _, ak_k, ?_⟩⟩
    refine a_from.pr (fun r h' hr => ?_) (fun E h' f => f.elim)
    obtain ⟨rfl, rfl⟩ := hr
    refine ⟨_, ak_A.1, _, rfl, _, ak_o, _, rfl, _, ak_S.1, _, rfl, _, _, ak_S.2.2.2.1, hi, _, _, ak_A.2.2.2.1, hi, fun h1 q1 => ?_⟩
    replace q1 := q1.trans (ak_set (r := 2) (by decide) _)
    subst q1
    refine ⟨_, ak_o, _, rfl, _, ak_k, ?_⟩
    refine (a_ruins (ω := ω) (α := setR (wS ω) 2 (upd ((wS ω).2 2) (ix i) (jmin ((wS ω).2 2 (ix i) + nI j) 999999))) (κ := kT κ (wT ω).1) (i := i) (sok_like rfl S) T hN rfl).pi (fun r h' hr => ?_) (fun E h' f => f.elim)
    obtain ⟨rfl, α', κ', ko, rfl⟩ := hr
    rw [nI_1]
    refine ⟨fun q => ⟨Eq.trans e.symm ?_, fin.of scr_ak⟩, fun q => ih (j + 1) _ _ (by omega) (Eq.trans ?_ e)⟩
    · have q' : ruiW ω (setR (wS ω) 2 (upd ((wS ω).2 2) (ix i) (jmin ((wS ω).2 2 (ix i) + nI j) 999999))) i N = false := (bI_0 rfl).1.mp q
      rw [savL, if_pos q']
    · have q' : ruiW ω (setR (wS ω) 2 (upd ((wS ω).2 2) (ix i) (jmin ((wS ω).2 2 (ix i) + nI j) 999999))) i N = true := (bI_0 rfl).2.mp q
      rw [savL, if_neg (by rw [q']; decide)]
theorem w_saves (R : jroom g h 1 6) (S : sok (wS ω)) (T : toAt (cw g h o ω) o (wT ω)) : Con g mX11_saves (d + 7) [.ref o, .int i, .int n] (cw g h o ω) (ansI g h o (fSaves ω i n, ω)) := by
  refine con_of plD (Nat.le_of_ble_eq_true rfl) rfl (bX11_saves_0 ⟨_, cw_o, ?_⟩)
  refine (w_checkHouse R S).pv (fun h' hr => ?_) (fun E h' f => f.2.ans (if_pos f.1) (scr.rf _))
  obtain ⟨hh, rfl⟩ := hr
  have e1 : fSaves ω i n = if inN n 1 20 = false then .inl iae else if sGone (wS ω) i = true then .inl ise else .inr (savL ω i (ix n) 1000 0) := if_neg (by rw [hh]; decide)
  refine ⟨_, cw_o, ?_⟩
  refine (w_checkNear R).pv (fun h' hr => ?_) (fun E h' f => f.2.ans (e1.trans (if_pos f.1)) (scr.rf _))
  obtain ⟨hn, rfl⟩ := hr
  have e2 := e1.trans (if_neg (by rw [hn]; decide))
  refine ⟨_, cw_o, ?_⟩
  refine (w_checkNotGone R S).pv (fun h' hr => ?_) (fun E h' f => f.2.ans (e2.trans (if_pos f.1)) (scr.rf _))
  obtain ⟨hg, rfl⟩ := hr
  have e3 := e2.trans (if_neg (by rw [hg]; decide))
  obtain ⟨en, n1, n2⟩ := inN_nI (a := 1) (b := 20) (by omega) (by omega) hn
  have key := saves_loop (g := g) (d := d) (h := h) (o := o) (ω := ω) (i := i) (hs := cw g h o ω) (N := ix n) (by omega) S T (sHas_in S hh) (R := fSaves ω i n) 1000 0 (wA ω) (wK ω) (by omega) e3.symm
  rw [← en] at key
  exact key
theorem least_in {N : Nat} (hN : N < 2 ^ 31) (S : sok (wS ω)) (Sα : sok α) (eα : sN α = sN (wS ω)) {P : jO → jH → Prop} {hs : jH} {q0 : Nat} {x0 : Int32} (next : ∀ κ, J g mX11_leastLimit (d + 6) hs P 26 [(0, .ref o), (1, .int (nI N)), (2, .ref (o + 361)), (3, .int (grtI α (sN (wS ω)) 0 x0)), (4, .int (nI (q0 + 1)))] [] (cw g h o (ak ω α κ))) : ∀ m j x, sN (wS ω) = j + m → grtI α m j x = grtI α (sN (wS ω)) 0 x0 → J g mX11_leastLimit (d + 6) hs P 49 [(0, .ref o), (1, .int (nI N)), (2, .ref (o + 361)), (3, .int x), (4, .int (nI q0)), (5, .int (nI j))] [] (cw g h o (ak ω α κ)) := by
  have h7 := S.2
  intro m
  induction m with
  | zero =>
    intro j x hj e
    refine bX11_leastLimit_49 ⟨_, ak_A.1, _, rfl, fun c => ?_, fun _ => ?_⟩
    · have c' : nI j < α.1 0 := c
      rw [Sα.1, eα] at c'
      exact absurd c' (nI_nlt (by omega) (by omega))
    · rw [nI_1]
      have key := next κ
      rw [← e] at key
      exact key
  | succ m ih =>
    intro j x hj e
    have hjn : nI j < α.1 0 := by rw [Sα.1, eα]; exact nI_lt (by omega) (by omega)
    have hji : vp_in (nI j) 7 := vp_in_nI (by omega) (by decide)
    have hix : ix (nI j) = j := ix_nI (by omega)
    refine bX11_leastLimit_49 ⟨_, ak_A.1, _, rfl, fun _ => ⟨fun _ => ⟨_, ak_A.1, ?_⟩, fun c => absurd (nI_lt (a := j) (b := 7) (by omega) (by omega)) c⟩, fun c => absurd hjn c⟩
    refine (a_isGoneA Sα).pi (fun r h' hr => ?_) (fun E h' f => f.elim)
    obtain ⟨rfl, rfl⟩ := hr
    rw [nI_1]
    refine ⟨fun q => ⟨_, ak_A.1, _, rfl, _, _, ak_A.2.2.2.2.2.1, hji, ?_⟩, fun q => ih (j + 1) _ (by omega) (Eq.trans ?_ e)⟩
    · show J g mX11_leastLimit (d + 6) hs P 49 [(0, .ref o), (1, .int (nI N)), (2, .ref (o + 361)), (3, .int (jmax x (α.2 4 (ix (nI j))))), (4, .int (nI q0)), (5, .int (nI (j + 1)))] [] _
      rw [hix]
      refine ih (j + 1) _ (by omega) (Eq.trans ?_ e)
      rw [grtI, if_neg (by rw [(bI_0 rfl).1.mp q]; decide)]
    · rw [grtI, if_pos ((bI_0 rfl).2.mp q)]
theorem least_loop {N : Nat} (hN : N < 2 ^ 31) (S : sok (wS ω)) (T : toAt (cw g h o ω) o (wT ω)) {R : An Int32} {hs : jH} : ∀ m j x κ, N = j + m → .inr (if 999 < grtO ω m j x then -1 else grtO ω m j x) = R → J g mX11_leastLimit (d + 6) hs (ansI g h o (R, ω)) 26 [(0, .ref o), (1, .int (nI N)), (2, .ref (o + 361)), (3, .int x), (4, .int (nI j))] [] (cw g h o (ak ω (pasN (tT ω) 999999 (wS ω) j) κ)) := by
  intro m
  induction m with
  | zero =>
    intro j x κ hj e
    refine bX11_leastLimit_26 ⟨fun c => absurd c (nI_nlt (by omega) (by omega)), fun _ => ⟨fun q => ⟨Eq.trans e.symm (congrArg Sum.inr (if_pos q)), fin.of scr_ak⟩, fun q => ⟨Eq.trans e.symm (congrArg Sum.inr (if_neg q)), fin.of scr_ak⟩⟩⟩
  | succ m ih =>
    intro j x κ hj e
    refine bX11_leastLimit_26 ⟨fun _ => ⟨_, ak_o, _, rfl, _, ak_o, _, rfl, _, ak_k, ?_⟩, fun c => absurd (nI_lt (by omega) hN) c⟩
    have Sj : sok (pasN (tT ω) 999999 (wS ω) j) := sok_0 (pasN_1 j) S
    have Sj1 : sok (pasN (tT ω) 999999 (wS ω) (j + 1)) := sok_0 (pasN_1 (j + 1)) S
    refine (a_pass (n := 999999) Sj T).pv (fun h' hr => ?_) (fun E h' f => f.elim)
    obtain ⟨κ', kg, rfl⟩ := hr
    refine least_in (α := pasN (tT ω) 999999 (wS ω) (j + 1)) hN S Sj1 ?_ (q0 := j) (x0 := x) (fun κ2 => ih (j + 1) _ κ2 (by omega) e) (sN (wS ω)) 0 x (Nat.zero_add _).symm rfl
    unfold sN
    rw [show (pasN (tT ω) 999999 (wS ω) (j + 1)).1 0 = (wS ω).1 0 from pasN_1 (j + 1)]
theorem w_leastLimit (R : jroom g h 1 6) (S : sok (wS ω)) (T : toAt (cw g h o ω) o (wT ω)) : Con g mX11_leastLimit (d + 6) [.ref o, .int n] (cw g h o ω) (ansI g h o (fLeast ω n, ω)) := by
  refine con_of plD (Nat.le_of_ble_eq_true rfl) rfl (bX11_leastLimit_0 ⟨_, cw_o, ?_⟩)
  refine (w_checkNear R).pv (fun h' hr => ?_) (fun E h' f => f.2.ans (if_pos f.1) (scr.rf _))
  obtain ⟨hn, rfl⟩ := hr
  obtain ⟨en, n1, n2⟩ := inN_nI (a := 1) (b := 20) (by omega) (by omega) hn
  refine ⟨_, cw_o, _, rfl, _, cw_o, _, rfl, _, cw_o, _, rfl, _, cw_k, ?_⟩
  refine a_from0.pr (fun r h' hr => ?_) (fun E h' f => f.elim)
  obtain ⟨rfl, rfl⟩ := hr
  have key := least_loop (g := g) (d := d) (h := h) (o := o) (ω := ω) (hs := cw g h o ω) (N := ix n) (by omega) S T (R := fLeast ω n) (ix n) 0 0 (kT (wK ω) (wT ω).1) (Nat.zero_add _).symm (if_neg (by rw [hn]; decide)).symm
  rw [← en] at key
  exact key
theorem loss_45 {N : Nat} (hN : N < 2 ^ 31) (S : sok (wS ω)) (T : toAt (cw g h o ω) o (wT ω)) {s0 v : Int32} (e : losW ω (sRuin (wS ω) i) 7 N - s0 = v) {hs : jH} : J g mX11_lossWithout (d + 7) hs (jPi (fun r h' => r = v ∧ ∃ α' κ', h' = cw g h o (ak ω α' κ')) no2) 45 [(0, .ref o), (1, .int i), (2, .int (nI N))] [.int s0] (cw g h o (ak ω α κ)) := by
  refine bX11_lossWithout_45 ⟨_, ak_o, _, rfl, _, ak_o, _, rfl, _, ak_o, _, rfl, _, ak_k, ?_⟩
  refine a_from.pr (fun r h' hr => ?_) (fun E h' f => f.elim)
  obtain ⟨rfl, rfl⟩ := hr
  refine ⟨_, ak_A.1, ?_⟩
  refine (a_ruin S).pv (fun h' hr => ?_) (fun E h' f => f.elim)
  subst hr
  refine ⟨_, ak_o, _, rfl, _, ak_k, ?_⟩
  refine (a_lossesX (ω := ω) (α := sRuin (wS ω) i) (κ := kT κ (wT ω).1) (sok_like sRuin_1 S) T hN rfl).pi (fun r h' hr => ?_) (fun E h' f => f.elim)
  obtain ⟨rfl, κ', ko, rfl⟩ := hr
  exact ⟨e, _, κ', rfl⟩
theorem w_lossWithout {N : Nat} (hN : N < 2 ^ 31) (S : sok (wS ω)) (T : toAt (cw g h o ω) o (wT ω)) : Con g mX11_lossWithout (d + 7) [.ref o, .int i, .int (nI N)] (cw g h o (ak ω α κ)) (jPi (fun r h' => r = lwo ω i N ∧ ∃ α' κ', h' = cw g h o (ak ω α' κ')) no2) := by
  refine con_of km_X11_lossWithout.1.2.2.2.2 (Nat.le_of_ble_eq_true rfl) rfl (bX11_lossWithout_0 ⟨_, ak_o, _, rfl, _, ak_o, _, rfl, _, ak_o, _, rfl, _, ak_k, ?_⟩)
  refine a_from.pr (fun r h' hr => ?_) (fun E h' f => f.elim)
  obtain ⟨rfl, rfl⟩ := hr
  refine ⟨_, ak_o, _, rfl, _, ak_k, ?_⟩
  refine (a_lossesX (ω := ω) (α := wS ω) (κ := kT κ (wT ω).1) S T hN rfl).pi (fun r h' hr => ?_) (fun E h' f => f.elim)
  obtain ⟨rfl, κ', ko, rfl⟩ := hr
  refine ⟨_, ak_A.1, ?_⟩
  have Sp : sok (pasN (tT ω) (tL ω) (wS ω) (losI (tT ω) (tL ω) (wS ω) 7 N 0)) := sok_0 (pasN_1 _) S
  refine (a_isGoneA Sp).pi (fun r h' hr => ?_) (fun E h' f => f.elim)
  obtain ⟨rfl, rfl⟩ := hr
  refine ⟨fun q => loss_45 hN S T ?_, fun q => loss_45 hN S T ?_⟩
  · unfold lwo
    rw [if_neg (by rw [(bI_0 rfl).1.mp q]; decide)]
  · unfold lwo
    rw [if_pos ((bI_0 rfl).2.mp q)]
theorem w_worth (R : jroom g h 1 6) (S : sok (wS ω)) (T : toAt (cw g h o ω) o (wT ω)) : Con g mX11_worth (d + 8) [.ref o, .int i, .int n] (cw g h o ω) (ansI g h o (fWorth ω i n, ω)) := by
  refine con_of plD (Nat.le_of_ble_eq_true rfl) rfl (bX11_worth_0 ⟨_, cw_o, ?_⟩)
  refine (w_checkHouse R S).pv (fun h' hr => ?_) (fun E h' f => f.2.ans (if_pos f.1) (scr.rf _))
  obtain ⟨hh, rfl⟩ := hr
  have e1 : fWorth ω i n = if inN n 1 20 = false then .inl iae else if sGone (wS ω) i = true then .inl ise else .inr (lwo ω i (ix n)) := if_neg (by rw [hh]; decide)
  refine ⟨_, cw_o, ?_⟩
  refine (w_checkNear R).pv (fun h' hr => ?_) (fun E h' f => f.2.ans (e1.trans (if_pos f.1)) (scr.rf _))
  obtain ⟨hn, rfl⟩ := hr
  have e2 := e1.trans (if_neg (by rw [hn]; decide))
  refine ⟨_, cw_o, ?_⟩
  refine (w_checkNotGone R S).pv (fun h' hr => ?_) (fun E h' f => f.2.ans (e2.trans (if_pos f.1)) (scr.rf _))
  obtain ⟨hg, rfl⟩ := hr
  have e3 := e2.trans (if_neg (by rw [hg]; decide))
  obtain ⟨en, n1, n2⟩ := inN_nI (a := 1) (b := 20) (by omega) (by omega) hn
  have C := w_lossWithout (g := g) (d := d) (h := h) (o := o) (ω := ω) (i := i) (α := wA ω) (κ := wK ω) (N := ix n) (by omega) S T
  rw [← en] at C
  refine ⟨_, cw_o, ?_⟩
  refine C.pi (fun r h' hr => ?_) (fun E h' f => f.elim)
  obtain ⟨rfl, α', κ', rfl⟩ := hr
  exact ⟨e3, fin.of scr_ak⟩
theorem pillar_loop {N : Nat} (hN : N < 2 ^ 31) (S : sok (wS ω)) (T : toAt (cw g h o ω) o (wT ω)) {R : An Int32} {hs : jH} : ∀ m α κ, m ≤ 7 → .inr (pilL ω N m) = R → J g mX11_pillar (d + 8) hs (ansI g h o (R, ω)) 8 [(0, .ref o), (1, .int (nI N)), (2, .int (nI m + (-1)))] [] (cw g h o (ak ω α κ)) := by
  intro m
  induction m with
  | zero =>
    intro α κ hm e
    exact bX11_pillar_8 ⟨fun _ => ⟨e.symm, fin.of scr_ak⟩, fun c => absurd (by decide) c⟩
  | succ m ih =>
    intro α κ hm e
    rw [nI_dec]
    refine bX11_pillar_8 ⟨fun c => absurd c (nI_pos (by omega)), fun _ => ⟨_, ak_o, _, rfl, _, ak_S.1, ?_⟩⟩
    refine (c_has ak_S S).pi (fun r h' hr => ?_) (fun E h' f => f.elim)
    obtain ⟨rfl, rfl⟩ := hr
    refine ⟨fun q => ih α κ (by omega) (Eq.trans ?_ e), fun q => ⟨_, ak_o, _, rfl, _, ak_S.1, ?_⟩⟩
    · rw [pilL, if_neg (by rw [(bI_0 rfl).1.mp q]; rintro ⟨c, _⟩; exact Bool.noConfusion c)]
    have q1 := (bI_0 rfl).2.mp q
    refine (c_isGone ak_S S).pi (fun r h' hr => ?_) (fun E h' f => f.elim)
    obtain ⟨rfl, rfl⟩ := hr
    refine ⟨fun q2 => ⟨_, ak_o, ?_⟩, fun q2 => ih α κ (by omega) (Eq.trans ?_ e)⟩
    · have q3 := (bI_0 rfl).1.mp q2
      refine (w_lossWithout (d := d) (ω := ω) (i := nI m) hN S T).pi (fun r h' hr => ?_) (fun E h' f => f.elim)
      obtain ⟨rfl, α', κ', rfl⟩ := hr
      refine ⟨fun q4 => ⟨Eq.trans e.symm ?_, fin.of scr_ak⟩, fun q4 => ih α' κ' (by omega) (Eq.trans ?_ e)⟩
      · rw [pilL, if_pos ⟨q1, q3, q4⟩]
      · rw [pilL, if_neg (fun c => q4 c.2.2)]
    · rw [pilL, if_neg (by rw [(bI_0 rfl).2.mp q2]; rintro ⟨_, c, _⟩; exact Bool.noConfusion c)]
theorem w_pillar (R : jroom g h 1 6) (S : sok (wS ω)) (T : toAt (cw g h o ω) o (wT ω)) : Con g mX11_pillar (d + 8) [.ref o, .int n] (cw g h o ω) (ansI g h o (fPillar ω n, ω)) := by
  refine con_of plD (Nat.le_of_ble_eq_true rfl) rfl (bX11_pillar_0 ⟨_, cw_o, ?_⟩)
  refine (w_checkNear R).pv (fun h' hr => ?_) (fun E h' f => f.2.ans (if_pos f.1) (scr.rf _))
  obtain ⟨hn, rfl⟩ := hr
  obtain ⟨en, n1, n2⟩ := inN_nI (a := 1) (b := 20) (by omega) (by omega) hn
  have key := pillar_loop (g := g) (d := d) (h := h) (o := o) (ω := ω) (hs := cw g h o ω) (N := ix n) (by omega) S T (R := fPillar ω n) 7 (wA ω) (wK ω) (Nat.le_refl 7) (if_neg (by rw [hn]; decide)).symm
  rw [← en] at key
  exact key
end CM6
