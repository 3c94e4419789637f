/-! The class's methods: what is to come -/
def gonL (α : Nat → St) (i : Int32) : Nat → Nat → Int32
  | 0, _ => -1
  | m + 1, j => if sGone (α j) i = true then nI j else gonL α i m (j + 1)
def clrL (α : Nat → St) : Nat → Nat → Int32
  | 0, _ => -1
  | m + 1, j => if sumN ((α j).2 4) (sN (α j)) = 0 then nI j else clrL α m (j + 1)
def hvyL (f : Nat → Int64) : Nat → Nat → Int32 → Int32
  | 0, _, b => b
  | m + 1, j, b => hvyL f m (j + 1) (if b = -1 ∨ f (ix b) < f j then nI j else b)
def paidN (T : Td) (lim : Int32) (α : St) : Nat → Int64
  | 0 => 0
  | j + 1 => paidN T lim α j + (pasPaid T (pasN T lim α j)).toInt64
def fDebtIn (ω : CW) (i n : Int32) : An Int32 := if sHas (wS ω) i = false then .inl nse else if inN n 0 200 = false then .inl iae else .inr ((aN ω (ix n)).2 4 (ix i))
def fCashIn (ω : CW) (i n : Int32) : An Int32 := if sHas (wS ω) i = false then .inl nse else if inN n 0 200 = false then .inl iae else .inr ((aN ω (ix n)).2 2 (ix i))
def fSeaIn (ω : CW) (n : Int32) : An Int32 := if inN n 0 200 = false then .inl iae else .inr ((aN ω (ix n)).1 1)
def fRuinIn (ω : CW) (i : Int32) : An Int32 := if sHas (wS ω) i = false then .inl nse else .inr (gonL (aN ω) i 201 0)
def lostW (ω : CW) (n : Nat) : Int32 := lostN (tT ω) (tL ω) (wS ω) (losI (tT ω) (tL ω) (wS ω) 7 n 0)
def fLost (ω : CW) (n : Int32) : An Int32 := if inN n 1 20 = false then .inl iae else .inr (lostW ω (ix n))
def fBurden (ω : CW) (i n : Int32) : An Int64 := if sHas (wS ω) i = false then .inl nse else if inN n 1 20 = false then .inl iae else .inr (burN (tT ω) (tL ω) (wS ω) (ix n) (ix i))
def fHeaviest (ω : CW) (n : Int32) : An Int32 := if inN n 1 20 = false then .inl iae else .inr (hvyL (burN (tT ω) (tL ω) (wS ω) (ix n)) (sN (wS ω)) 0 (-1))
def fPaid (ω : CW) (n : Int32) : An Int64 := if inN n 1 20 = false then .inl iae else .inr (paidN (tT ω) (tL ω) (wS ω) (ix n))
section CM3
variable {g : jG} {d : Nat} {h : jH} {o : Nat} {ω : CW} {α : St} {κ : Ks} {i k n : Int32}
theorem ak_b : (cw g h o (ak ω α κ)).1 (o + 355) = some (lrow (κ.2.2.1 0)) := cw_at (c := kcell (o + 353) κ) (ω := ak ω α κ) 24 rfl 353 (by decide) (by decide) (k := 2) (by decide)
theorem ak_b1 : (cw g h o (ak ω α κ)).1 (o + 356) = some (lrow (κ.2.2.1 1)) := cw_at (c := kcell (o + 353) κ) (ω := ak ω α κ) 24 rfl 353 (by decide) (by decide) (k := 3) (by decide)
theorem has_aN {j : Nat} : sHas (aN ω j) i = sHas (wS ω) i := by unfold sHas; rw [show (aN ω j).1 0 = (wS ω).1 0 from pasN_1 j]
theorem sN_aN {j : Nat} : sN (aN ω j) = sN (wS ω) := by unfold sN; rw [show (aN ω j).1 0 = (wS ω).1 0 from pasN_1 j]
theorem w_debtIn (R : jroom g h 1 6) (S : sok (wS ω)) (T : toAt (cw g h o ω) o (wT ω)) : Con g mX11_debtIn (d + 7) [.ref o, .int i, .int n] (cw g h o ω) (ansI g h o (fDebtIn ω i n, ω)) := by
  refine con_of plD (Nat.le_of_ble_eq_true rfl) rfl (bX11_debtIn_0 ⟨_, cw_o, ?_⟩)
  refine (w_checkHouse R S).pv (fun h' hr => ?_) (fun E h' f => f.2.ans (if_pos f.1) (scr.rf _))
  obtain ⟨hh, rfl⟩ := hr
  have e : fDebtIn ω i n = if inN n 0 200 = false then .inl iae else .inr ((aN ω (ix n)).2 4 (ix i)) := if_neg (by rw [hh]; decide)
  refine ⟨_, cw_o, ?_⟩
  refine (w_streetIn R S T).pr (fun r h' hr => ?_) (fun E h' f => f.2.ans (e.trans (if_pos f.1)) (scr.rf _))
  obtain ⟨hn, rfl, κ', rfl⟩ := hr
  exact ⟨_, ak_A.1, _, rfl, _, _, ak_A.2.2.2.2.2.1, sHas_in S hh, e.trans (if_neg (by rw [hn]; decide)), fin.of scr_ak⟩
theorem w_cashIn (R : jroom g h 1 6) (S : sok (wS ω)) (T : toAt (cw g h o ω) o (wT ω)) : Con g mX11_cashIn (d + 7) [.ref o, .int i, .int n] (cw g h o ω) (ansI g h o (fCashIn ω i n, ω)) := by
  refine con_of plD (Nat.le_of_ble_eq_true rfl) rfl (bX11_cashIn_0 ⟨_, cw_o, ?_⟩)
  refine (w_checkHouse R S).pv (fun h' hr => ?_) (fun E h' f => f.2.ans (if_pos f.1) (scr.rf _))
  obtain ⟨hh, rfl⟩ := hr
  have e : fCashIn ω i n = if inN n 0 200 = false then .inl iae else .inr ((aN ω (ix n)).2 2 (ix i)) := if_neg (by rw [hh]; decide)
  refine ⟨_, cw_o, ?_⟩
  refine (w_streetIn R S T).pr (fun r h' hr => ?_) (fun E h' f => f.2.ans (e.trans (if_pos f.1)) (scr.rf _))
  obtain ⟨hn, rfl, κ', rfl⟩ := hr
  exact ⟨_, ak_A.1, _, rfl, _, _, ak_A.2.2.2.1, sHas_in S hh, e.trans (if_neg (by rw [hn]; decide)), fin.of scr_ak⟩
theorem w_seaIn (R : jroom g h 1 6) (S : sok (wS ω)) (T : toAt (cw g h o ω) o (wT ω)) : Con g mX11_seaIn (d + 7) [.ref o, .int n] (cw g h o ω) (ansI g h o (fSeaIn ω n, ω)) := by
  refine con_of plD (Nat.le_of_ble_eq_true rfl) rfl (bX11_seaIn_0 ⟨_, cw_o, ?_⟩)
  refine (w_streetIn R S T).pr (fun r h' hr => ?_) (fun E h' f => f.2.ans (if_pos f.1) (scr.rf _))
  obtain ⟨hn, rfl, κ', rfl⟩ := hr
  exact ⟨_, ak_A.1, _, rfl, if_neg (by rw [hn]; decide), fin.of scr_ak⟩
theorem ruinIn_loop (S : sok (wS ω)) (T : toAt (cw g h o ω) o (wT ω)) {R : An Int32} {hs : jH} : ∀ m j κ, 201 = j + m → .inr (gonL (aN ω) i m j) = R → J g mX11_ruinIn (d + 6) hs (ansI g h o (R, ω)) 23 [(0, .ref o), (1, .int i), (2, .ref (o + 361)), (3, .int (nI j))] [] (cw g h o (ak ω (aN ω j) κ)) := by
  intro m
  induction m with
  | zero =>
    intro j κ hj eR
    have : j = 201 := by omega
    subst this
    exact bX11_ruinIn_23 ⟨fun _ => ⟨eR.symm, fin.of scr_ak⟩, fun c => absurd (nI_lt (a := 200) (b := 201) (by omega) (by omega)) c⟩
  | succ m ih =>
    intro j κ hj eR
    refine bX11_ruinIn_23 ⟨fun c => absurd c (nI_nlt (a := 200) (b := j) (by omega) (by omega)), fun _ => ⟨_, ak_A.1, ?_⟩⟩
    refine (a_isGoneA (sok_aN S j)).pi (fun r h' hr => ?_) (fun E h' f => f.elim)
    obtain ⟨rfl, rfl⟩ := hr
    refine ⟨fun q => ⟨_, ak_o, _, rfl, _, ak_o, _, rfl, _, ak_o, _, rfl, _, ak_t T, _, rfl, _, ak_k, ?_⟩, fun q => ?_⟩
    · refine (a_pass (sok_aN S j) T).pv (fun h' hr => ?_) (fun E h' f => f.elim)
      obtain ⟨κ', kg, rfl⟩ := hr
      rw [nI_1]
      refine ih (j + 1) κ' (by omega) (Eq.trans ?_ eR)
      rw [gonL, if_neg (by rw [(bI_0 rfl).1.mp q]; decide)]
    · refine ⟨Eq.trans eR.symm ?_, fin.of scr_ak⟩
      rw [gonL, if_pos ((bI_0 rfl).2.mp q)]
theorem w_ruinIn (R : jroom g h 1 6) (S : sok (wS ω)) (T : toAt (cw g h o ω) o (wT ω)) : Con g mX11_ruinIn (d + 6) [.ref o, .int i] (cw g h o ω) (ansI g h o (fRuinIn ω i, ω)) := by
  refine con_of plD (Nat.le_of_ble_eq_true rfl) rfl (bX11_ruinIn_0 ⟨_, cw_o, ?_⟩)
  refine (w_checkHouse R S).pv (fun h' hr => ?_) (fun E h' f => f.2.ans (if_pos f.1) (scr.rf _))
  obtain ⟨hh, rfl⟩ := hr
  have e : fRuinIn ω i = .inr (gonL (aN ω) i 201 0) := if_neg (by rw [hh]; decide)
  refine ⟨_, cw_o, _, rfl, _, cw_o, _, rfl, _, cw_o, _, rfl, _, cw_k, ?_⟩
  refine a_from0.pr (fun r h' hr => ?_) (fun E h' f => f.elim)
  obtain ⟨rfl, rfl⟩ := hr
  exact ruinIn_loop S T 201 0 _ rfl e.symm
theorem clear_loop (S : sok (wS ω)) (T : toAt (cw g h o ω) o (wT ω)) {R : An Int32} {hs : jH} : ∀ m j κ, 201 = j + m → .inr (clrL (aN ω) m j) = R → J g mX11_clear (d + 6) hs (ansI g h o (R, ω)) 18 [(0, .ref o), (1, .ref (o + 361)), (2, .int (nI j))] [] (cw g h o (ak ω (aN ω j) κ)) := by
  intro m
  induction m with
  | zero =>
    intro j κ hj eR
    have : j = 201 := by omega
    subst this
    exact bX11_clear_18 ⟨fun _ => ⟨eR.symm, fin.of scr_ak⟩, fun c => absurd (nI_lt (a := 200) (b := 201) (by omega) (by omega)) c⟩
  | succ m ih =>
    intro j κ hj eR
    refine bX11_clear_18 ⟨fun c => absurd c (nI_nlt (a := 200) (b := j) (by omega) (by omega)), fun _ => ⟨_, ak_A.1, _, rfl, _, ak_A.1, ?_⟩⟩
    refine (c_sum ak_A.1 (sok_aN S j) ak_A.2.2.2.2.2.1).pi (fun r h' hr => ?_) (fun E h' f => f.elim)
    obtain ⟨rfl, rfl⟩ := hr
    refine ⟨fun q => ?_, fun q => ⟨_, ak_o, _, rfl, _, ak_o, _, rfl, _, ak_o, _, rfl, _, ak_t T, _, rfl, _, ak_k, ?_⟩⟩
    · refine ⟨Eq.trans eR.symm ?_, fin.of scr_ak⟩
      rw [clrL, if_pos q]
    · refine (a_pass (sok_aN S j) T).pv (fun h' hr => ?_) (fun E h' f => f.elim)
      obtain ⟨κ', kg, rfl⟩ := hr
      rw [nI_1]
      refine ih (j + 1) κ' (by omega) (Eq.trans ?_ eR)
      rw [clrL, if_neg q]
theorem w_clear (S : sok (wS ω)) (T : toAt (cw g h o ω) o (wT ω)) : Con g mX11_clear (d + 6) [.ref o] (cw g h o ω) (ansI g h o (.inr (clrL (aN ω) 201 0), ω)) := by
  refine con_of plD (Nat.le_of_ble_eq_true rfl) rfl (bX11_clear_0 ⟨_, cw_o, _, rfl, _, cw_o, _, rfl, _, cw_o, _, rfl, _, cw_k, ?_⟩)
  refine a_from0.pr (fun r h' hr => ?_) (fun E h' f => f.elim)
  obtain ⟨rfl, rfl⟩ := hr
  exact clear_loop S T 201 0 _ rfl rfl
theorem w_lostNow {m : Nat} (hm : m < 2 ^ 31) (S : sok (wS ω)) (T : toAt (cw g h o ω) o (wT ω)) : Con g mX11_lostNow (d + 7) [.ref o, .int (nI m)] (cw g h o ω) (jPi (fun r h' => r = lostW ω m ∧ ∃ α' κ', κ'.2.2.2 = (wT ω).1 ∧ h' = cw g h o (ak ω α' κ')) no2) := by
  refine con_of km_X11_lostNow.1.2.2.2.2 (Nat.le_of_ble_eq_true rfl) rfl (bX11_lostNow_0 ⟨_, cw_o, _, rfl, _, cw_o, _, rfl, _, cw_o, _, rfl, _, cw_k, ?_⟩)
  refine a_from0.pr (fun r h' hr => ?_) (fun E h' f => f.elim)
  obtain ⟨rfl, rfl⟩ := hr
  refine ⟨_, ak_o, _, rfl, _, ak_k, ?_⟩
  refine (a_losses (κ := kT (wK ω) (wT ω).1) S T hm rfl).pi (fun r h' hr => ?_) (fun E h' f => f.elim)
  obtain ⟨rfl, α', κ', ko, rfl⟩ := hr
  exact ⟨rfl, α', κ', by rw [ko]; rfl, rfl⟩
theorem w_lost (R : jroom g h 1 6) (S : sok (wS ω)) (T : toAt (cw g h o ω) o (wT ω)) : Con g mX11_lost (d + 8) [.ref o, .int n] (cw g h o ω) (ansI g h o (fLost ω n, ω)) := by
  refine con_of plD (Nat.le_of_ble_eq_true rfl) rfl (bX11_lost_0 ⟨_, cw_o, ?_⟩)
  refine (w_checkNear R).pv (fun h' hr => ?_) (fun E h' f => f.2.ans (if_pos f.1) (scr.rf _))
  obtain ⟨hn, rfl⟩ := hr
  obtain ⟨en, n1, n2⟩ := inN_nI (a := 1) (b := 20) (by omega) (by omega) hn
  have C := w_lostNow (g := g) (d := d) (h := h) (o := o) (ω := ω) (m := ix n) (by omega) S T
  rw [← en] at C
  refine ⟨_, cw_o, ?_⟩
  refine C.pi (fun r h' hr => ?_) (fun E h' f => f.elim)
  obtain ⟨rfl, α', κ', ko, rfl⟩ := hr
  exact ⟨if_neg (by rw [hn]; decide), fin.of scr_ak⟩
theorem w_burden (R : jroom g h 1 6) (S : sok (wS ω)) (T : toAt (cw g h o ω) o (wT ω)) : Con g mX11_burden (d + 7) [.ref o, .int i, .int n] (cw g h o ω) (ansL g h o (fBurden ω i n, ω)) := by
  refine con_of plD (Nat.le_of_ble_eq_true rfl) rfl (bX11_burden_0 ⟨_, cw_o, ?_⟩)
  refine (w_checkHouse R S).pv (fun h' hr => ?_) (fun E h' f => f.2.ans (if_pos f.1) (scr.rf _))
  obtain ⟨hh, rfl⟩ := hr
  have e : fBurden ω i n = if inN n 1 20 = false then .inl iae else .inr (burN (tT ω) (tL ω) (wS ω) (ix n) (ix i)) := if_neg (by rw [hh]; decide)
  refine ⟨_, cw_o, ?_⟩
  refine (w_checkNear R).pv (fun h' hr => ?_) (fun E h' f => f.2.ans (e.trans (if_pos f.1)) (scr.rf _))
  obtain ⟨hn, rfl⟩ := hr
  obtain ⟨en, n1, n2⟩ := inN_nI (a := 1) (b := 20) (by omega) (by omega) hn
  refine ⟨_, cw_o, _, rfl, _, cw_o, _, rfl, _, cw_o, _, rfl, _, cw_k, ?_⟩
  refine a_from0.pr (fun r h' hr => ?_) (fun E h' f => f.elim)
  obtain ⟨rfl, rfl⟩ := hr
  have C := a_addBurdens (g := g) (d := d) (h := h) (o := o) (ω := ω) (α := wS ω) (κ := kT (wK ω) (wT ω).1) (m := ix n) S T (by omega) rfl
  rw [← en] at C
  refine ⟨_, ak_o, _, rfl, _, ak_k, ?_⟩
  refine C.pv (fun h' hr => ?_) (fun E h' f => f.elim)
  obtain ⟨α', κ', k1, k2, k3, rfl⟩ := hr
  refine ⟨_, ak_o, _, rfl, _, ak_k, _, rfl, _, _, ak_b, sHas_in S hh, ?_, fin.of scr_ak⟩
  rw [k2]
  exact e.trans (if_neg (by rw [hn]; decide))
theorem heaviest_loop (S : sok (wS ω)) {R : An Int32} {hs : jH} : ∀ m j b, sN (wS ω) = j + m → (b = -1 ∨ vp_in b 7) → .inr (hvyL (κ.2.2.1 0) m j b) = R → J g mX11_heaviest (d + 7) hs (ansI g h o (R, ω)) 33 [(0, .ref o), (2, .int b), (3, .int (nI j))] [] (cw g h o (ak ω α κ)) := by
  intro m
  induction m with
  | zero =>
    intro j b hj hb eR
    have h7 := S.2
    have en := S.1
    refine bX11_heaviest_33 ⟨_, ak_o, _, rfl, _, ak_S.1, _, rfl, fun c => ?_, fun _ => ⟨eR.symm, fin.of scr_ak⟩⟩
    have c' : nI j < (wS ω).1 0 := c
    rw [en] at c'
    exact absurd c' (nI_nlt (by omega) (by omega))
  | succ m ih =>
    intro j b hj hb eR
    have h7 := S.2
    have en := S.1
    have hjn : nI j < (wS ω).1 0 := by rw [en]; exact nI_lt (by omega) (by omega)
    have hji : vp_in (nI j) 7 := vp_in_nI (by omega) (by decide)
    have hix : ix (nI j) = j := ix_nI (by omega)
    refine bX11_heaviest_33 ⟨_, ak_o, _, rfl, _, ak_S.1, _, rfl, fun _ => ⟨fun _ => ⟨fun q => ?_, fun q => ⟨_, ak_o, _, rfl, _, ak_k, _, rfl, _, _, ak_b, hji, _, ak_o, _, rfl, _, ak_k, _, rfl, _, _, ak_b, hb.resolve_left q, fun q2 => ?_, fun q2 => ?_⟩⟩, fun c => absurd (nI_lt (a := j) (b := 7) (by omega) (by omega)) c⟩, fun c => absurd hjn c⟩
    · rw [nI_1]
      refine ih (j + 1) _ (by omega) (Or.inr hji) (Eq.trans ?_ eR)
      rw [hvyL, if_pos (Or.inl q)]
    · rw [nI_1]
      refine ih (j + 1) _ (by omega) (Or.inr hji) (Eq.trans ?_ eR)
      have q2' : κ.2.2.1 0 (ix b) < κ.2.2.1 0 (ix (nI j)) := q2
      rw [hix] at q2'
      rw [hvyL, if_pos (Or.inr q2')]
    · rw [nI_1]
      refine ih (j + 1) _ (by omega) hb (Eq.trans ?_ eR)
      have q2' : ¬ κ.2.2.1 0 (ix b) < κ.2.2.1 0 (ix (nI j)) := q2
      rw [hix] at q2'
      rw [hvyL, if_neg]
      rintro (c | c)
      · exact q c
      · exact q2' c
theorem w_heaviest (R : jroom g h 1 6) (S : sok (wS ω)) (T : toAt (cw g h o ω) o (wT ω)) : Con g mX11_heaviest (d + 7) [.ref o, .int n] (cw g h o ω) (ansI g h o (fHeaviest ω n, ω)) := by
  refine con_of plD (Nat.le_of_ble_eq_true rfl) rfl (bX11_heaviest_0 ⟨_, cw_o, ?_⟩)
  refine (w_checkNear R).pv (fun h' hr => ?_) (fun E h' f => f.2.ans (if_pos f.1) (scr.rf _))
  obtain ⟨hn, rfl⟩ := hr
  have e : fHeaviest ω n = .inr (hvyL (burN (tT ω) (tL ω) (wS ω) (ix n)) (sN (wS ω)) 0 (-1)) := if_neg (by rw [hn]; decide)
  obtain ⟨en, n1, n2⟩ := inN_nI (a := 1) (b := 20) (by omega) (by omega) hn
  refine ⟨_, cw_o, _, rfl, _, cw_o, _, rfl, _, cw_o, _, rfl, _, cw_k, ?_⟩
  refine a_from0.pr (fun r h' hr => ?_) (fun E h' f => f.elim)
  obtain ⟨rfl, rfl⟩ := hr
  have C := a_addBurdens (g := g) (d := d) (h := h) (o := o) (ω := ω) (α := wS ω) (κ := kT (wK ω) (wT ω).1) (m := ix n) S T (by omega) rfl
  rw [← en] at C
  refine ⟨_, ak_o, _, rfl, _, ak_k, ?_⟩
  refine C.pv (fun h' hr => ?_) (fun E h' f => f.elim)
  obtain ⟨α', κ', k1, k2, k3, rfl⟩ := hr
  refine heaviest_loop S _ 0 (-1) (Nat.zero_add _).symm (Or.inl rfl) ?_
  rw [k2]
  exact e.symm
theorem paid_loop (S : sok (wS ω)) (T : toAt (cw g h o ω) o (wT ω)) {N : Nat} (hN : N < 2 ^ 31) {R : An Int64} (eR : .inr (paidN (tT ω) (tL ω) (wS ω) N) = R) {hs : jH} : ∀ m j κ, N = j + m → J g mX11_paid (d + 6) hs (ansL g h o (R, ω)) 26 [(0, .ref o), (1, .int (nI N)), (2, .ref (o + 361)), (3, .long (paidN (tT ω) (tL ω) (wS ω) j)), (5, .int (nI j))] [] (cw g h o (ak ω (aN ω j) κ)) := by
  intro m
  induction m with
  | zero =>
    intro j κ hj
    have : j = N := by omega
    subst this
    exact bX11_paid_26 ⟨fun c => absurd c (nI_nlt (Nat.le_refl _) hN), fun _ => ⟨eR.symm, fin.of scr_ak⟩⟩
  | succ m ih =>
    intro j κ hj
    refine bX11_paid_26 ⟨fun _ => ⟨_, ak_o, _, rfl, _, ak_o, _, rfl, _, ak_o, _, rfl, _, ak_t T, _, rfl, _, ak_k, ?_⟩, fun c => absurd (nI_lt (by omega) hN) c⟩
    refine (a_pass (sok_aN S j) T).pv (fun h' hr => ?_) (fun E h' f => f.elim)
    obtain ⟨κ', kg, rfl⟩ := hr
    refine ⟨_, ak_o, _, rfl, _, ak_k, _, rfl, ?_⟩
    have e1 : κ'.1 0 = pasPaid (tT ω) (aN ω j) := by rw [kg.1]; rfl
    rw [nI_1]
    show J g mX11_paid (d + 6) hs _ 26 [(0, .ref o), (1, .int (nI N)), (2, .ref (o + 361)), (3, .long (paidN (tT ω) (tL ω) (wS ω) j + (κ'.1 0).toInt64)), (5, .int (nI (j + 1)))] [] _
    rw [e1]
    exact ih (j + 1) κ' (by omega)
theorem w_paid (R : jroom g h 1 6) (S : sok (wS ω)) (T : toAt (cw g h o ω) o (wT ω)) : Con g mX11_paid (d + 6) [.ref o, .int n] (cw g h o ω) (ansL g h o (fPaid ω n, ω)) := by
  refine con_of plD (Nat.le_of_ble_eq_true rfl) rfl (bX11_paid_0 ⟨_, cw_o, ?_⟩)
  refine (w_checkNear R).pv (fun h' hr => ?_) (fun E h' f => f.2.ans (if_pos f.1) (scr.rf _))
  obtain ⟨hn, rfl⟩ := hr
  have e : fPaid ω n = .inr (paidN (tT ω) (tL ω) (wS ω) (ix n)) := if_neg (by rw [hn]; decide)
  obtain ⟨en, n1, n2⟩ := inN_nI (a := 1) (b := 20) (by omega) (by omega) hn
  refine ⟨_, cw_o, _, rfl, _, cw_o, _, rfl, _, cw_o, _, rfl, _, cw_k, ?_⟩
  refine a_from0.pr (fun r h' hr => ?_) (fun E h' f => f.elim)
  obtain ⟨rfl, rfl⟩ := hr
  have key := paid_loop (g := g) (d := d) (hs := cw g h o ω) S T (N := ix n) (by omega) e.symm (ix n) 0 (kT (wK ω) (wT ω).1) (by omega)
  rw [← en] at key
  exact key
end CM3
