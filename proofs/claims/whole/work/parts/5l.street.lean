/-! The class's methods: the street -/
section CMc
variable {g : jG} {d : Nat} {h : jH} {o : Nat} {ω : CW} {α : St} {κ : Ks} {i k n : Int32}
def fFault (ω : CW) (i : Int32) : Int32 := if i = 0 then wI ω 1 else if i = 1 then wI ω 2 else -1
theorem w_fault : Con g mX11_fault (d + 1) [.ref o, .int i] (cw g h o ω) (ansI g h o (.inr (fFault ω i), ω)) := by
  refine con_of plD (Nat.le_of_ble_eq_true rfl) rfl (bX11_fault_0 ⟨fun q => ⟨_, cw_o, _, rfl, congrArg Sum.inr (if_pos q), fin.rf⟩, fun q1 => ⟨fun q => ⟨_, cw_o, _, rfl, congrArg Sum.inr ((if_neg q1).trans (if_pos q)), fin.rf⟩, fun q2 => ⟨congrArg Sum.inr ((if_neg q1).trans (if_neg q2)), fin.rf⟩⟩⟩)
/-! bytes -/
def fdB (x s : Int32) : Int32 := vp_nar .byte (((x >>> (s &&& 31))).toInt8.toInt32)
def fd1 (ω : CW) (L : Nat) (x s : Int32) : CW := pI (pTape ω (upd (wTape ω) L (fdB x s))) 0 (nI (L + 1))
def fd4 (ω : CW) (L : Nat) (x : Int32) : CW := fd1 (fd1 (fd1 (fd1 ω L x 24) (L + 1) x 16) (L + 2) x 8) (L + 3) x 0
theorem feed_step {L : Nat} (eL : wI ω 0 = nI L) (hL : L < 900) {x s : Int32} (hs0 : ¬ s < 0) {P : jO → jH → Prop} {hs : jH} (next : J g mX11_feedInt (d + 1) hs P 3 [(0, .ref o), (1, .int x), (2, .int (s + (-8)))] [] (cw g h o (fd1 ω L x s))) : J g mX11_feedInt (d + 1) hs P 3 [(0, .ref o), (1, .int x), (2, .int s)] [] (cw g h o ω) := by
  have eL' : (wobj o ω) = (wobj o ω) := rfl
  refine bX11_feedInt_3 ⟨fun c => absurd c hs0, fun _ => ⟨_, cw_o, _, rfl, _, cw_o, _, rfl, _, _, cw_tape, ⟨_, rfl⟩, fun _ => ⟨_, cw_o, _, rfl, _, cw_o, _, rfl, _, _, cw_tape, ?_, fun h1 q1 => ?_⟩, fun c => ?_⟩⟩
  · show vp_in (wI ω 0) 900
    rw [eL]
    exact vp_in_nI hL (by decide)
  · have q2 : h1 = cw g h o (pTape ω (upd (wTape ω) (ix (wI ω 0)) (fdB x s))) := q1.trans (cw_pTape _)
    rw [eL, ix_nI (n := L) (by omega)] at q2
    subst q2
    refine ⟨_, cw_o, _, rfl, _, cw_o, by simp, fun h2 q3 => ?_⟩
    have q4 : h2 = cw g h o (pI (pTape ω (upd (wTape ω) L (fdB x s))) 0 (wI ω 0 + 1)) := q3.trans (cw_pObj (pI (pTape ω (upd (wTape ω) L (fdB x s))) 0 (wI ω 0 + 1)) rfl)
    rw [eL, nI_1] at q4
    subst q4
    exact next
  · have c' : ¬ wI ω 0 < nI 900 := c
    rw [eL] at c'
    exact absurd (nI_lt hL (by decide)) c'
theorem n_feedInt {L : Nat} (eL : wI ω 0 = nI L) (hL : L + 4 ≤ 900) {x : Int32} : Con g mX11_feedInt (d + 1) [.ref o, .int x] (cw g h o ω) (jPv (fun h' => h' = cw g h o (fd4 ω L x)) no2) := by
  refine con_of km_X11_feedInt.1.2.2.2.2 (Nat.le_of_ble_eq_true rfl) rfl (bX11_feedInt_0 ?_)
  refine feed_step eL (by omega) (by decide) ?_
  refine feed_step (ω := fd1 ω L x 24) (L := L + 1) rfl (by omega) (s := 24 + (-8)) (by decide) ?_
  refine feed_step (ω := fd1 (fd1 ω L x 24) (L + 1) x 16) (L := L + 2) rfl (by omega) (s := 24 + (-8) + (-8)) (by decide) ?_
  refine feed_step (ω := fd1 (fd1 (fd1 ω L x 24) (L + 1) x 16) (L + 2) x 8) (L := L + 3) rfl (by omega) (s := 24 + (-8) + (-8) + (-8)) (by decide) ?_
  exact bX11_feedInt_3 ⟨fun _ => rfl, fun c => absurd (by decide) c⟩
def fd20 (ω : CW) (L : Nat) (a b c d e : Int32) : CW := fd4 (fd4 (fd4 (fd4 (fd4 ω L a) (L + 4) b) (L + 8) c) (L + 12) d) (L + 16) e
def fFeed (ω : CW) (L : Nat) (a b c d e : Int32) : An Int32 × CW := if 900 < L + 20 then (.inr (-1), ω) else (.inr (nI (L + 20)), fd20 ω L a b c d e)
theorem w_feed {L : Nat} (eL : wI ω 0 = nI L) (hL : L ≤ 900) {x1 x2 x3 x4 x5 : Int32} : Con g mX11_feed (d + 2) [.ref o, .int x1, .int x2, .int x3, .int x4, .int x5] (cw g h o ω) (ansI g h o (fFeed ω L x1 x2 x3 x4 x5)) := by
  have e20 : wI ω 0 + 20 = nI (L + 20) := by rw [eL]; exact nI_add L 20
  refine con_of plD (Nat.le_of_ble_eq_true rfl) rfl (bX11_feed_0 ⟨_, cw_o, _, rfl, _, cw_o, _, rfl, _, _, cw_tape, ⟨_, rfl⟩, fun q => ?_, fun q => ⟨_, cw_o, ?_⟩⟩)
  · have q' : nI 900 < wI ω 0 + 20 := q
    rw [e20] at q'
    have c : 900 < L + 20 := (nI_ltI (by decide) (by omega)).mp q'
    rw [show fFeed ω L x1 x2 x3 x4 x5 = (.inr (-1), ω) from if_pos c]
    exact ⟨rfl, fin.rf⟩
  · have q' : ¬ nI 900 < wI ω 0 + 20 := q
    rw [e20] at q'
    have c : ¬ 900 < L + 20 := fun c => q' (nI_lt c (by omega))
    rw [show fFeed ω L x1 x2 x3 x4 x5 = (.inr (nI (L + 20)), fd20 ω L x1 x2 x3 x4 x5) from if_neg c]
    refine (n_feedInt eL (by omega)).pv (fun h' hr => ?_) (fun E h' f => f.elim)
    subst hr
    refine ⟨_, cw_o, ?_⟩
    refine (n_feedInt (ω := fd4 ω L x1) (L := L + 4) rfl (by omega)).pv (fun h' hr => ?_) (fun E h' f => f.elim)
    subst hr
    refine ⟨_, cw_o, ?_⟩
    refine (n_feedInt (ω := fd4 (fd4 ω L x1) (L + 4) x2) (L := L + 8) rfl (by omega)).pv (fun h' hr => ?_) (fun E h' f => f.elim)
    subst hr
    refine ⟨_, cw_o, ?_⟩
    refine (n_feedInt (ω := fd4 (fd4 (fd4 ω L x1) (L + 4) x2) (L + 8) x3) (L := L + 12) rfl (by omega)).pv (fun h' hr => ?_) (fun E h' f => f.elim)
    subst hr
    refine ⟨_, cw_o, ?_⟩
    refine (n_feedInt (ω := fd4 (fd4 (fd4 (fd4 ω L x1) (L + 4) x2) (L + 8) x3) (L + 12) x4) (L := L + 16) rfl (by omega)).pv (fun h' hr => ?_) (fun E h' f => f.elim)
    subst hr
    exact ⟨_, cw_o, _, rfl, rfl, fin.rf⟩
end CMc
