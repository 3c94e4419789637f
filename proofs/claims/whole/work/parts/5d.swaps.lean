/-! The class's methods: who lives where, by swaps -/
def losW (ω : CW) (α : St) (k : Int32) (m : Nat) : Int32 := lostN (tT ω) (tL ω) α (losI (tT ω) (tL ω) α k m 0)
def burW (ω : CW) (α : St) (m : Nat) : Nat → Int64 := burN (tT ω) (tL ω) α m
def bswI (ω : CW) (n g : Nat) : Nat → Nat → Int32 → Int32 → Int32 × Int32
  | 0, _, f, b => (f, b)
  | m + 1, h, f, b => if losW ω (sExch (wS ω) (nI g) (nI h)) f n < f then bswI ω n g m (h + 1) (losW ω (sExch (wS ω) (nI g) (nI h)) f n) (nI g * 10 + nI h) else bswI ω n g m (h + 1) f b
def bswO (ω : CW) (n : Nat) : Nat → Nat → Int32 → Int32 → Int32
  | 0, _, _, b => b
  | m + 1, g, f, b => bswO ω n m (g + 1) (bswI ω n g (sN (wS ω) - (g + 1)) (g + 1) f b).1 (bswI ω n g (sN (wS ω) - (g + 1)) (g + 1) f b).2
def fBestSwap (ω : CW) (n : Int32) : An Int32 := if inN n 1 20 = false then .inl iae else .inr (bswO ω (ix n) (sN (wS ω)) 0 (lostW ω (ix n)) (-1))
def gain (ω : CW) (f : Nat → Int64) (n : Nat) (g h : Int32) : Bool := !sGone (wS ω) g && (!sGone (wS ω) h && (decide (burW ω (sExch (wS ω) g h) n (ix h) < f (ix g)) && decide (burW ω (sExch (wS ω) g h) n (ix g) < f (ix h))))
def wswI (ω : CW) (f : Nat → Int64) (n g : Nat) : Nat → Nat → Option Int32
  | 0, _ => none
  | m + 1, h => if gain ω f n (nI g) (nI h) = true then some (nI g * 10 + nI h) else wswI ω f n g m (h + 1)
def wswO (ω : CW) (f : Nat → Int64) (n : Nat) : Nat → Nat → Int32
  | 0, _ => -1
  | m + 1, g => match wswI ω f n g (sN (wS ω) - (g + 1)) (g + 1) with
    | some v => v
    | none => wswO ω f n m (g + 1)
def fWouldSwap (ω : CW) (n : Int32) : An Int32 := if inN n 1 20 = false then .inl iae else .inr (wswO ω (burW ω (wS ω) (ix n)) (ix n) (sN (wS ω)) 0)
def bhL (ω : CW) (n : Nat) (h : Int32) : Nat → Nat → Int32 → Int64 → Int32
  | 0, _, b, _ => b
  | m + 1, k, b, l => if b = -1 ∨ burW ω (sExch (wS ω) h (nI k)) n k < l then bhL ω n h m (k + 1) (nI k) (burW ω (sExch (wS ω) h (nI k)) n k) else bhL ω n h m (k + 1) b l
def fBestHouse (ω : CW) (h n : Int32) : An Int32 := if sHas (wS ω) h = false then .inl nse else if inN n 1 20 = false then .inl iae else .inr (bhL ω (ix n) h (sN (wS ω)) 0 (-1) 0)
section CM4
variable {g : jG} {d : Nat} {h : jH} {o : Nat} {ω : CW} {α : St} {κ : Ks} {i k n : Int32}
theorem bestSwap_out (S : sok (wS ω)) {N : Nat} {R : An Int32} {hs : jH} {j : Nat} {f b : Int32} (hj : sN (wS ω) ≤ j) (hj7 : j < 2 ^ 31) (e : .inr b = R) : J g mX11_bestSwap (d + 7) hs (ansI g h o (R, ω)) 16 [(0, .ref o), (1, .int (nI N)), (2, .int f), (3, .int b), (4, .int (nI j))] [] (cw g h o (ak ω α κ)) := by
  refine bX11_bestSwap_16 ⟨_, ak_o, _, rfl, _, ak_S.1, _, rfl, fun c => ?_, fun _ => ⟨e.symm, fin.of scr_ak⟩⟩
  have c' : nI j < (wS ω).1 0 := c
  rw [S.1] at c'
  exact absurd c' (nI_nlt hj hj7)
theorem bestSwap_in (S : sok (wS ω)) (T : toAt (cw g h o ω) o (wT ω)) {N : Nat} (hN : N < 2 ^ 31) {P : jO → jH → Prop} {hs : jH} {gg : Nat} (hg : gg < sN (wS ω)) (next : ∀ α κ, J g mX11_bestSwap (d + 7) hs P 16 [(0, .ref o), (1, .int (nI N)), (2, .int (bswI ω N gg (sN (wS ω) - (gg + 1)) (gg + 1) n i).1), (3, .int (bswI ω N gg (sN (wS ω) - (gg + 1)) (gg + 1) n i).2), (4, .int (nI (gg + 1)))] [] (cw g h o (ak ω α κ))) :
    ∀ m j f b α κ, sN (wS ω) = j + m → bswI ω N gg m j f b = bswI ω N gg (sN (wS ω) - (gg + 1)) (gg + 1) n i → J g mX11_bestSwap (d + 7) hs P 41 [(0, .ref o), (1, .int (nI N)), (2, .int f), (3, .int b), (4, .int (nI gg)), (5, .int (nI j))] [] (cw g h o (ak ω α κ)) := by
  have h7 := S.2
  intro m
  induction m with
  | zero =>
    intro j f b α κ hj e
    refine bX11_bestSwap_41 ⟨_, ak_o, _, rfl, _, ak_S.1, _, rfl, fun c => ?_, fun _ => ?_⟩
    · have c' : nI j < (wS ω).1 0 := c
      rw [S.1] at c'
      exact absurd c' (nI_nlt (by omega) (by omega))
    · rw [nI_1]
      have key := next α κ
      rw [← e] at key
      exact key
  | succ m ih =>
    intro j f b α κ hj e
    have hjn : nI j < (wS ω).1 0 := by rw [S.1]; exact nI_lt (by omega) (by omega)
    refine bX11_bestSwap_41 ⟨_, ak_o, _, rfl, _, ak_S.1, _, rfl, fun _ => ⟨fun _ => ⟨_, ak_o, _, rfl, _, ak_o, _, rfl, _, ak_o, _, rfl, _, ak_k, ?_⟩, fun c => absurd (nI_lt (a := j) (b := 7) (by omega) (by omega)) c⟩, fun c => absurd hjn c⟩
    refine a_from.pr (fun r h' hr => ?_) (fun E h' f => f.elim)
    obtain ⟨rfl, rfl⟩ := hr
    refine ⟨_, ak_A.1, ?_⟩
    refine (a_exchange S).pv (fun h' hr => ?_) (fun E h' f => f.elim)
    subst hr
    refine ⟨_, ak_o, _, rfl, _, ak_k, ?_⟩
    refine (a_losses (ω := ω) (α := sExch (wS ω) (nI gg) (nI j)) (κ := kT κ (wT ω).1) (sok_like sExch_1 S) T hN rfl).pi (fun r h' hr => ?_) (fun E h' f => f.elim)
    obtain ⟨rfl, α', κ', ko, rfl⟩ := hr
    rw [nI_1]
    refine ⟨fun q => ih (j + 1) _ _ _ _ (by omega) (Eq.trans ?_ e), fun q => ih (j + 1) _ _ _ _ (by omega) (Eq.trans ?_ e)⟩
    · exact (if_pos (show losW ω (sExch (wS ω) (nI gg) (nI j)) f N < f from q)).symm
    · exact (if_neg (show ¬ losW ω (sExch (wS ω) (nI gg) (nI j)) f N < f from q)).symm
theorem bestSwap_loop (S : sok (wS ω)) (T : toAt (cw g h o ω) o (wT ω)) {N : Nat} (hN : N < 2 ^ 31) {R : An Int32} {hs : jH} : ∀ m j f b α κ, sN (wS ω) = j + m → .inr (bswO ω N m j f b) = R → J g mX11_bestSwap (d + 7) hs (ansI g h o (R, ω)) 16 [(0, .ref o), (1, .int (nI N)), (2, .int f), (3, .int b), (4, .int (nI j))] [] (cw g h o (ak ω α κ)) := by
  have h7 := S.2
  intro m
  induction m with
  | zero => intro j f b α κ hj e; exact bestSwap_out S (by omega) (by omega) e
  | succ m ih =>
    intro j f b α κ hj e
    have hjn : nI j < (wS ω).1 0 := by rw [S.1]; exact nI_lt (by omega) (by omega)
    refine bX11_bestSwap_16 ⟨_, ak_o, _, rfl, _, ak_S.1, _, rfl, fun _ => ⟨fun _ => ?_, fun c => absurd (nI_lt (a := j) (b := 7) (by omega) (by omega)) c⟩, fun c => absurd hjn c⟩
    rw [nI_1]
    exact bestSwap_in S T hN (gg := j) (by omega) (fun α κ => ih (j + 1) _ _ α κ (by omega) e) (sN (wS ω) - (j + 1)) (j + 1) f b α κ (by omega) rfl
theorem w_bestSwap (R : jroom g h 1 6) (S : sok (wS ω)) (T : toAt (cw g h o ω) o (wT ω)) : Con g mX11_bestSwap (d + 8) [.ref o, .int n] (cw g h o ω) (ansI g h o (fBestSwap ω n, ω)) := by
  refine con_of plD (Nat.le_of_ble_eq_true rfl) rfl (bX11_bestSwap_0 ⟨_, cw_o, ?_⟩)
  refine (w_checkNear R).pv (fun h' hr => ?_) (fun E h' f => f.2.ans (if_pos f.1) (scr.rf _))
  obtain ⟨hn, rfl⟩ := hr
  obtain ⟨en, n1, n2⟩ := inN_nI (a := 1) (b := 20) (by omega) (by omega) hn
  have C := w_lostNow (g := g) (d := d) (h := h) (o := o) (ω := ω) (m := ix n) (by omega) S T
  rw [← en] at C
  refine ⟨_, cw_o, ?_⟩
  refine C.pi (fun r h' hr => ?_) (fun E h' f => f.elim)
  obtain ⟨rfl, α', κ', ko, rfl⟩ := hr
  have key := bestSwap_loop (g := g) (d := d + 1) (h := h) (o := o) (ω := ω) (hs := cw g h o ω) S T (N := ix n) (by omega) (R := fBestSwap ω n) (sN (wS ω)) 0 (lostW ω (ix n)) (-1) α' κ' (Nat.zero_add _).symm (if_neg (by rw [hn]; decide)).symm
  rw [← en] at key
  exact key
/-! two that would swap -/
theorem w_bothGain {N : Nat} (hN : N < 2 ^ 31) (S : sok (wS ω)) (T : toAt (cw g h o ω) o (wT ω)) (hi : vp_in i 7) (hk : vp_in k 7) : Con g mX11_bothGain (d + 7) [.ref o, .int i, .int k, .int (nI N)] (cw g h o (ak ω α κ)) (jPi (fun r h' => r = bI (gain ω (κ.2.2.1 1) N i k) ∧ ∃ α' κ', κ'.2.2.1 1 = κ.2.2.1 1 ∧ h' = cw g h o (ak ω α' κ')) no2) := by
  refine con_of km_X11_bothGain.1.2.2.2.2 (Nat.le_of_ble_eq_true rfl) rfl (bX11_bothGain_0 ⟨_, ak_o, _, rfl, _, ak_S.1, ?_⟩)
  refine (c_isGone ak_S S).pi (fun r h' hr => ?_) (fun E h' f => f.elim)
  obtain ⟨rfl, rfl⟩ := hr
  refine ⟨fun q1 => ⟨_, ak_o, _, rfl, _, ak_S.1, ?_⟩, fun q => ?_⟩
  · replace q1 := (bI_0 rfl).1.mp q1
    refine (c_isGone ak_S S).pi (fun r h' hr => ?_) (fun E h' f => f.elim)
    obtain ⟨rfl, rfl⟩ := hr
    refine ⟨fun q2 => ⟨_, ak_o, _, rfl, _, ak_o, _, rfl, _, ak_o, _, rfl, _, ak_k, ?_⟩, fun q => ?_⟩
    · replace q2 := (bI_0 rfl).1.mp q2
      refine a_from.pr (fun r h' hr => ?_) (fun E h' f => f.elim)
      obtain ⟨rfl, rfl⟩ := hr
      refine ⟨_, ak_A.1, ?_⟩
      refine (a_exchange S).pv (fun h' hr => ?_) (fun E h' f => f.elim)
      subst hr
      refine ⟨_, ak_o, _, rfl, _, ak_k, ?_⟩
      refine (a_addBurdens (ω := ω) (α := sExch (wS ω) i k) (κ := kT κ (wT ω).1) (sok_like sExch_1 S) T hN rfl).pv (fun h' hr => ?_) (fun E h' f => f.elim)
      obtain ⟨α', κ', k1, k2, k3, rfl⟩ := hr
      have k3' : κ'.2.2.1 1 = κ.2.2.1 1 := k3
      have eg : gain ω (κ.2.2.1 1) N i k = (decide (κ'.2.2.1 0 (ix k) < κ'.2.2.1 1 (ix i)) && decide (κ'.2.2.1 0 (ix i) < κ'.2.2.1 1 (ix k))) := by
        unfold gain burW
        rw [q1, q2, k2, k3']
        rfl
      rw [eg]
      refine ⟨_, ak_o, _, rfl, _, ak_k, _, rfl, _, _, ak_b, hk, _, ak_o, _, rfl, _, ak_k, _, rfl, _, _, ak_b1, hi, fun q => ⟨_, ak_o, _, rfl, _, ak_k, _, rfl, _, _, ak_b, hi, _, ak_o, _, rfl, _, ak_k, _, rfl, _, _, ak_b1, hk, fun q2 => ?_, fun q2 => ?_⟩, fun q => ?_⟩
      · refine ⟨?_, α', κ', k3', rfl⟩
        rw [decide_eq_true (show κ'.2.2.1 0 (ix k) < κ'.2.2.1 1 (ix i) from q), decide_eq_true (show κ'.2.2.1 0 (ix i) < κ'.2.2.1 1 (ix k) from q2)]
        rfl
      · refine ⟨?_, α', κ', k3', rfl⟩
        rw [decide_eq_true (show κ'.2.2.1 0 (ix k) < κ'.2.2.1 1 (ix i) from q), decide_eq_false (show ¬ κ'.2.2.1 0 (ix i) < κ'.2.2.1 1 (ix k) from q2)]
        rfl
      · refine ⟨?_, α', κ', k3', rfl⟩
        rw [decide_eq_false (show ¬ κ'.2.2.1 0 (ix k) < κ'.2.2.1 1 (ix i) from q)]
        rfl
    · replace q := (bI_0 rfl).2.mp q
      refine ⟨?_, α, κ, rfl, rfl⟩
      unfold gain
      rw [q1, q]
      rfl
  · replace q := (bI_0 rfl).2.mp q
    refine ⟨?_, α, κ, rfl, rfl⟩
    unfold gain
    rw [q]
    rfl
theorem wouldSwap_out (S : sok (wS ω)) {N : Nat} {R : An Int32} {hs : jH} {j : Nat} (hj : sN (wS ω) ≤ j) (hj7 : j < 2 ^ 31) (e : .inr (-1) = R) : J g mX11_wouldSwap (d + 8) hs (ansI g h o (R, ω)) 38 [(0, .ref o), (1, .int (nI N)), (2, .int (nI j))] [] (cw g h o (ak ω α κ)) := by
  refine bX11_wouldSwap_38 ⟨_, ak_o, _, rfl, _, ak_S.1, _, rfl, fun c => ?_, fun _ => ⟨e.symm, fin.of scr_ak⟩⟩
  have c' : nI j < (wS ω).1 0 := c
  rw [S.1] at c'
  exact absurd c' (nI_nlt hj hj7)
theorem wouldSwap_in (S : sok (wS ω)) (T : toAt (cw g h o ω) o (wT ω)) {N : Nat} (hN : N < 2 ^ 31) {R : An Int32} {hs : jH} {gg : Nat} (hg : gg < sN (wS ω)) {f : Nat → Int64} (next : wswI ω f N gg (sN (wS ω) - (gg + 1)) (gg + 1) = none → ∀ α κ, κ.2.2.1 1 = f → J g mX11_wouldSwap (d + 8) hs (ansI g h o (R, ω)) 38 [(0, .ref o), (1, .int (nI N)), (2, .int (nI (gg + 1)))] [] (cw g h o (ak ω α κ)))
    (hit : ∀ v, wswI ω f N gg (sN (wS ω) - (gg + 1)) (gg + 1) = some v → .inr v = R) :
    ∀ m j α κ, κ.2.2.1 1 = f → sN (wS ω) = j + m → wswI ω f N gg m j = wswI ω f N gg (sN (wS ω) - (gg + 1)) (gg + 1) → J g mX11_wouldSwap (d + 8) hs (ansI g h o (R, ω)) 59 [(0, .ref o), (1, .int (nI N)), (2, .int (nI gg)), (3, .int (nI j))] [] (cw g h o (ak ω α κ)) := by
  have h7 := S.2
  intro m
  induction m with
  | zero =>
    intro j α κ kf hj e
    refine bX11_wouldSwap_59 ⟨_, ak_o, _, rfl, _, ak_S.1, _, rfl, fun c => ?_, fun _ => ?_⟩
    · have c' : nI j < (wS ω).1 0 := c
      rw [S.1] at c'
      exact absurd c' (nI_nlt (by omega) (by omega))
    · rw [nI_1]
      exact next (e.symm.trans rfl) α κ kf
  | succ m ih =>
    intro j α κ kf hj e
    have hjn : nI j < (wS ω).1 0 := by rw [S.1]; exact nI_lt (by omega) (by omega)
    refine bX11_wouldSwap_59 ⟨_, ak_o, _, rfl, _, ak_S.1, _, rfl, fun _ => ⟨fun _ => ⟨_, ak_o, ?_⟩, fun c => absurd (nI_lt (a := j) (b := 7) (by omega) (by omega)) c⟩, fun c => absurd hjn c⟩
    refine (w_bothGain (d := d) (κ := κ) hN S T (vp_in_nI (by omega) (by decide)) (vp_in_nI (by omega) (by decide))).pi (fun r h' hr => ?_) (fun E h' f => f.elim)
    obtain ⟨rfl, α', κ', ko, rfl⟩ := hr
    rw [nI_1, kf]
    refine ⟨fun q => ih (j + 1) _ _ (ko.trans kf) (by omega) (Eq.trans ?_ e), fun q => ⟨(hit _ (Eq.trans e.symm ?_)).symm, fin.of scr_ak⟩⟩
    · exact (if_neg (by rw [(bI_0 rfl).1.mp q]; decide)).symm
    · exact if_pos ((bI_0 rfl).2.mp q)
theorem wouldSwap_loop (S : sok (wS ω)) (T : toAt (cw g h o ω) o (wT ω)) {N : Nat} (hN : N < 2 ^ 31) {R : An Int32} {hs : jH} {f : Nat → Int64} : ∀ m j α κ, κ.2.2.1 1 = f → sN (wS ω) = j + m → .inr (wswO ω f N m j) = R → J g mX11_wouldSwap (d + 8) hs (ansI g h o (R, ω)) 38 [(0, .ref o), (1, .int (nI N)), (2, .int (nI j))] [] (cw g h o (ak ω α κ)) := by
  have h7 := S.2
  intro m
  induction m with
  | zero => intro j α κ kf hj e; exact wouldSwap_out S (by omega) (by omega) e
  | succ m ih =>
    intro j α κ kf hj e
    have hjn : nI j < (wS ω).1 0 := by rw [S.1]; exact nI_lt (by omega) (by omega)
    refine bX11_wouldSwap_38 ⟨_, ak_o, _, rfl, _, ak_S.1, _, rfl, fun _ => ⟨fun _ => ?_, fun c => absurd (nI_lt (a := j) (b := 7) (by omega) (by omega)) c⟩, fun c => absurd hjn c⟩
    rw [nI_1]
    refine wouldSwap_in S T hN (gg := j) (by omega) (fun en α κ kf => ih (j + 1) α κ kf (by omega) (Eq.trans ?_ e)) (fun v ev => Eq.trans ?_ e) (sN (wS ω) - (j + 1)) (j + 1) α κ kf (by omega) rfl
    · rw [wswO, en]
    · rw [wswO, ev]
theorem fst7 {f f' : Nat → Int64} {j : Nat} (hj : j < 7) : fstL 7 f f' j = f j := if_pos hj
theorem gain7 (S : sok (wS ω)) {f f' : Nat → Int64} (e : ∀ j, j < 7 → f j = f' j) {N a b : Nat} (ha : a < 7) (hb : b < 7) : gain ω f N (nI a) (nI b) = gain ω f' N (nI a) (nI b) := by
  unfold gain
  rw [ix_nI (n := a) (by omega), ix_nI (n := b) (by omega), e a ha, e b hb]
theorem wswI7 (S : sok (wS ω)) {f f' : Nat → Int64} (e : ∀ j, j < 7 → f j = f' j) {N a : Nat} (ha : a < 7) : ∀ m j, j + m ≤ 7 → wswI ω f N a m j = wswI ω f' N a m j := by
  intro m
  induction m with
  | zero => intro j _; rfl
  | succ m ih =>
    intro j hj
    rw [wswI, wswI, gain7 S e ha (by omega), ih (j + 1) (by omega)]
theorem wswO7 (S : sok (wS ω)) {f f' : Nat → Int64} (e : ∀ j, j < 7 → f j = f' j) {N : Nat} : ∀ m j, sN (wS ω) = j + m → wswO ω f N m j = wswO ω f' N m j := by
  have h7 := S.2
  intro m
  induction m with
  | zero => intro j _; rfl
  | succ m ih =>
    intro j hj
    rw [wswO, wswO, wswI7 S e (by omega) _ _ (by omega), ih (j + 1) (by omega)]
theorem w_wouldSwap (R : jroom g h 1 6) (S : sok (wS ω)) (T : toAt (cw g h o ω) o (wT ω)) : Con g mX11_wouldSwap (d + 8) [.ref o, .int n] (cw g h o ω) (ansI g h o (fWouldSwap ω n, ω)) := by
  refine con_of plD (Nat.le_of_ble_eq_true rfl) rfl (bX11_wouldSwap_0 ⟨_, cw_o, ?_⟩)
  refine (w_checkNear R).pv (fun h' hr => ?_) (fun E h' f => f.2.ans (if_pos f.1) (scr.rf _))
  obtain ⟨hn, rfl⟩ := hr
  obtain ⟨en, n1, n2⟩ := inN_nI (a := 1) (b := 20) (by omega) (by omega) hn
  refine ⟨_, cw_o, _, rfl, _, cw_o, _, rfl, _, cw_o, _, rfl, _, cw_k, ?_⟩
  refine a_from0.pr (fun r h' hr => ?_) (fun E h' f => f.elim)
  obtain ⟨rfl, rfl⟩ := hr
  have C := a_addBurdens (g := g) (d := d + 1) (h := h) (o := o) (ω := ω) (α := wS ω) (κ := kT (wK ω) (wT ω).1) (m := ix n) S T (by omega) rfl
  rw [← en] at C
  refine ⟨_, ak_o, _, rfl, _, ak_k, ?_⟩
  refine C.pv (fun h' hr => ?_) (fun E h' f => f.elim)
  obtain ⟨α', κ', k1, k2, k3, rfl⟩ := hr
  refine ⟨_, ak_o, _, rfl, _, ak_k, ?_⟩
  refine a_keepBurdens.pv (fun h' hr => ?_) (fun E h' f => f.elim)
  subst hr
  have key := wouldSwap_loop (g := g) (d := d) (h := h) (o := o) (ω := ω) (hs := cw g h o ω) S T (N := ix n) (by omega) (R := fWouldSwap ω n) (f := fstL 7 (κ'.2.2.1 0) (κ'.2.2.1 1)) (sN (wS ω)) 0 α' (kL κ' 1 (fstL 7 (κ'.2.2.1 0) (κ'.2.2.1 1))) rfl (Nat.zero_add _).symm ?_
  · rw [← en] at key
    exact key
  · rw [wswO7 S (f' := burW ω (wS ω) (ix n)) (fun j hj => (fst7 hj).trans (by rw [k2]; rfl)) _ _ (Nat.zero_add _).symm]
    exact (if_neg (by rw [hn]; decide)).symm
/-! the best house -/
theorem bestHouse_loop (S : sok (wS ω)) (T : toAt (cw g h o ω) o (wT ω)) {N : Nat} (hN : N < 2 ^ 31) {R : An Int32} {hs : jH} : ∀ m j b l α κ, sN (wS ω) = j + m → .inr (bhL ω N i m j b l) = R → J g mX11_bestHouse (d + 7) hs (ansI g h o (R, ω)) 18 [(0, .ref o), (1, .int i), (2, .int (nI N)), (3, .int b), (4, .long l), (6, .int (nI j))] [] (cw g h o (ak ω α κ)) := by
  have h7 := S.2
  intro m
  induction m with
  | zero =>
    intro j b l α κ hj e
    refine bX11_bestHouse_18 ⟨_, ak_o, _, rfl, _, ak_S.1, _, rfl, fun c => ?_, fun _ => ⟨e.symm, fin.of scr_ak⟩⟩
    have c' : nI j < (wS ω).1 0 := c
    rw [S.1] at c'
    exact absurd c' (nI_nlt (by omega) (by omega))
  | succ m ih =>
    intro j b l α κ hj e
    have hjn : nI j < (wS ω).1 0 := by rw [S.1]; exact nI_lt (by omega) (by omega)
    have hji : vp_in (nI j) 7 := vp_in_nI (by omega) (by decide)
    have hix : ix (nI j) = j := ix_nI (by omega)
    refine bX11_bestHouse_18 ⟨_, ak_o, _, rfl, _, ak_S.1, _, rfl, fun _ => ⟨fun _ => ⟨_, ak_o, _, rfl, _, ak_o, _, rfl, _, ak_o, _, rfl, _, ak_k, ?_⟩, fun c => absurd (nI_lt (a := j) (b := 7) (by omega) (by omega)) c⟩, fun c => absurd hjn c⟩
    refine a_from.pr (fun r h' hr => ?_) (fun E h' f => f.elim)
    obtain ⟨rfl, rfl⟩ := hr
    refine ⟨_, ak_A.1, ?_⟩
    refine (a_exchange S).pv (fun h' hr => ?_) (fun E h' f => f.elim)
    subst hr
    refine ⟨_, ak_o, _, rfl, _, ak_k, ?_⟩
    refine (a_addBurdens (ω := ω) (α := sExch (wS ω) i (nI j)) (κ := kT κ (wT ω).1) (sok_like sExch_1 S) T hN rfl).pv (fun h' hr => ?_) (fun E h' f => f.elim)
    obtain ⟨α', κ', k1, k2, k3, rfl⟩ := hr
    have eb : κ'.2.2.1 0 (ix (nI j)) = burW ω (sExch (wS ω) i (nI j)) N j := by rw [hix, k2]; rfl
    have take : (b = -1 ∨ burW ω (sExch (wS ω) i (nI j)) N j < l) → J g mX11_bestHouse (d + 7) hs (ansI g h o (R, ω)) 87 [(0, .ref o), (1, .int i), (2, .int (nI N)), (6, .int (nI j))] [] (cw g h o (ak ω α' κ')) := by
      intro q
      refine bX11_bestHouse_87 ⟨_, ak_o, _, rfl, _, ak_k, _, rfl, _, _, ak_b, hji, ?_⟩
      rw [nI_1]
      show J g mX11_bestHouse (d + 7) hs (ansI g h o (R, ω)) 18 [(0, .ref o), (1, .int i), (2, .int (nI N)), (3, .int (nI j)), (4, .long (κ'.2.2.1 0 (ix (nI j)))), (6, .int (nI (j + 1)))] [] _
      rw [eb]
      refine ih (j + 1) _ _ _ _ (by omega) (Eq.trans ?_ e)
      rw [bhL, if_pos q]
    refine ⟨fun q => take (Or.inl q), fun q => ⟨_, ak_o, _, rfl, _, ak_k, _, rfl, _, _, ak_b, hji, fun q2 => take (Or.inr (eb ▸ q2)), fun q2 => ?_⟩⟩
    rw [nI_1]
    refine ih (j + 1) _ _ _ _ (by omega) (Eq.trans ?_ e)
    rw [bhL, if_neg]
    rintro (c | c)
    · exact q c
    · exact q2 (eb.symm ▸ c)
theorem w_bestHouse (R : jroom g h 1 6) (S : sok (wS ω)) (T : toAt (cw g h o ω) o (wT ω)) : Con g mX11_bestHouse (d + 7) [.ref o, .int i, .int n] (cw g h o ω) (ansI g h o (fBestHouse ω i n, ω)) := by
  refine con_of plD (Nat.le_of_ble_eq_true rfl) rfl (bX11_bestHouse_0 ⟨_, cw_o, ?_⟩)
  refine (w_checkHouse R S).pv (fun h' hr => ?_) (fun E h' f => f.2.ans (if_pos f.1) (scr.rf _))
  obtain ⟨hh, rfl⟩ := hr
  have e : fBestHouse ω i n = if inN n 1 20 = false then .inl iae else .inr (bhL ω (ix n) i (sN (wS ω)) 0 (-1) 0) := if_neg (by rw [hh]; decide)
  refine ⟨_, cw_o, ?_⟩
  refine (w_checkNear R).pv (fun h' hr => ?_) (fun E h' f => f.2.ans (e.trans (if_pos f.1)) (scr.rf _))
  obtain ⟨hn, rfl⟩ := hr
  obtain ⟨en, n1, n2⟩ := inN_nI (a := 1) (b := 20) (by omega) (by omega) hn
  have key := bestHouse_loop (g := g) (d := d) (h := h) (o := o) (ω := ω) (i := i) (hs := cw g h o ω) S T (N := ix n) (by omega) (R := fBestHouse ω i n) (sN (wS ω)) 0 (-1) 0 (wA ω) (wK ω) (Nat.zero_add _).symm (e.trans (if_neg (by rw [hn]; decide))).symm
  rw [← en] at key
  exact key
end CM4
