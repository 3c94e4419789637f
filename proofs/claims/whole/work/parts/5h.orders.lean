/-! The class's methods: orders, images, hidden debts -/
def grOk (i : Int32) : Bool := decide (¬ i < 0 ∧ i < 3)
theorem grOk_ix {i : Int32} (e : grOk i = true) : i = nI (ix i) ∧ ix i < 3 := by
  have h := of_decide_eq_true e
  obtain ⟨j, hj, ej⟩ := nI_of h.1
  subst ej
  rw [ix_nI hj]
  exact ⟨rfl, (nI_ltI (b := 3) hj (by omega)).mp h.2⟩
theorem pG_self {ω : CW} {i : Nat} : pG ω i (wG ω i) = ω := by
  have e : (fun j => if j = i then wG ω i else wG ω j) = wG ω := by
    funext j
    by_cases h : j = i
    · rw [if_pos h, h]
    · rw [if_neg h]
  unfold pG
  exact congrArg (fun f => (ω.1, ω.2.1, ω.2.2.1, ω.2.2.2.1, ω.2.2.2.2.1, ω.2.2.2.2.2.1, ω.2.2.2.2.2.2.1, f, ω.2.2.2.2.2.2.2.2)) e
theorem pG_pG {ω : CW} {i : Nat} {x y : Option To × St × Hs} : pG (pG ω i x) i y = pG ω i y := by
  have e : (fun j => if j = i then y else (fun j => if j = i then x else wG ω j) j) = fun j => if j = i then y else wG ω j := by
    funext j
    by_cases h : j = i
    · rw [if_pos h, if_pos h]
    · rw [if_neg h, if_neg h]
      exact if_neg h
  unfold pG
  exact congrArg (fun f => (ω.1, ω.2.1, ω.2.2.1, ω.2.2.2.1, ω.2.2.2.2.1, ω.2.2.2.2.2.1, ω.2.2.2.2.2.2.1, f, ω.2.2.2.2.2.2.2.2)) e
theorem pG_at {ω : CW} {i : Nat} {x : Option To × St × Hs} : wG (pG ω i x) i = x := if_pos rfl
def srRes (ω : CW) (N : Nat) (all : Int32) (os : Os) : Prop := (srHit (wO ω) (wT ω).1 (wS ω) N all ∧ os = wO ω) ∨ (¬ srHit (wO ω) (wT ω).1 (wS ω) N all ∧ os = srF (tT ω) (wS ω) N all 5040 (srBeg (wO ω) (wT ω).1 (wS ω) N))
def hTake (ξ ζ : Hs) : Hs := (ζ.1, ξ.2.1, htk ξ ζ (hN ζ))
section CM8
variable {g : jG} {d : Nat} {h : jH} {o : Nat} {ω : CW} {α : St} {κ : Ks} {i k n : Int32}
theorem cw_os : (cw g h o ω).1 (o + 376) = some (oobj (o + 376) (wO ω)) := cw_at (c := ocell (o + 376) (wO ω)) 27 rfl 376 (by decide) (by decide) (k := 0) (by decide)
theorem cw_ob : (cw g h o ω).1 (o + 377) = some (srow (wO ω).2.2.1) := cw_at (c := ocell (o + 376) (wO ω)) 27 rfl 376 (by decide) (by decide) (k := 1) (by decide)
theorem w_search {N : Nat} {all : Int32} (S : sok (wS ω)) (T : toAt (cw g h o ω) o (wT ω)) (hN : N < 2 ^ 31) (hp : p7 (wO ω).2.2.2.1) : Con g mX4_search (d + 7) [.ref (o + 376), .ref (o + 353), .ref (wT ω).1, .ref (o + 24), .int (nI N), .int all] (cw g h o ω) (jPv (fun h' => ∃ os α' κ', srRes ω N all os ∧ h' = cw g h o (ak (pO ω os) α' κ')) no2) := by
  have ew : ∀ os α κ, wo (cw g h o ω) (o + 376) (o + 353) os α κ = cw g h o (ak (pO ω os) α κ) := by
    intro os α κ
    unfold wo
    rw [cw_pO, w_wkA]
    rfl
  have C := c_search (g := g) (d := d) (h := cw g h o ω) (o := o + 376) (b := o + 24) (c := o + 353) (ω := wO ω) (α := wA ω) (κ := wK ω) (N := N) (all := all) (Or.inr (by omega)) (Or.inl (by omega)) (Or.inl (by omega)) cw_S S T.1 (T.far (by omega) (by omega)) (T.far (by omega) (by omega)) hN hp
  rw [ew] at C
  refine C.pv (fun h' hr => ?_) (fun E h' f => f)
  rcases hr with ⟨hh, e⟩ | ⟨hh, α', κ', e⟩
  · exact ⟨wO ω, wA ω, wK ω, Or.inl ⟨hh, rfl⟩, e⟩
  · exact ⟨_, α', κ', Or.inr ⟨hh, rfl⟩, e.trans (ew _ _ _)⟩
def ansO (g : jG) (h : jH) (o : Nat) (ω : CW) (N : Nat) (all : Int32) (E0 : Option String) (val : Os → Int32) : jO → jH → Prop := jPi (fun r h' => E0 = none ∧ ∃ os, srRes ω N all os ∧ r = val os ∧ fin g h o (pO ω os) h') (fun E h' => E0 = some E ∧ ∃ n, h.2.1 ≤ n ∧ n ≤ h.2.1 + 1 ∧ fin g (h.1, n, h.2.2 + 6) o ω h')
theorem w_orders (R : jroom g h 1 6) (S : sok (wS ω)) (T : toAt (cw g h o ω) o (wT ω)) (hp : p7 (wO ω).2.2.2.1) : Con g mX11_orders (d + 8) [.ref o, .int n] (cw g h o ω) (ansO g h o ω (ix n) 1 (if inN n 1 20 = false then some iae else none) (fun os => os.1 1)) := by
  refine con_of plD (Nat.le_of_ble_eq_true rfl) rfl (bX11_orders_0 ⟨_, cw_o, ?_⟩)
  refine (w_checkNear R).pv (fun h' hr => ?_) (fun E h' f => ?_)
  · obtain ⟨hn, rfl⟩ := hr
    obtain ⟨en, n1, n2⟩ := inN_nI (a := 1) (b := 20) (by omega) (by omega) hn
    refine ⟨_, cw_o, _, rfl, _, cw_o, _, rfl, _, cw_o, _, rfl, _, cw_o, _, rfl, _, cw_os, ?_⟩
    have C := w_search (g := g) (d := d) (h := h) (o := o) (ω := ω) (N := ix n) (all := 1) S T (by omega) hp
    rw [← en] at C
    refine C.pv (fun h' hr => ?_) (fun E h' f => f.elim)
    obtain ⟨os, α', κ', hs, rfl⟩ := hr
    exact ⟨_, cw_o, _, rfl, _, cw_os, _, rfl, if_neg (by rw [hn]; decide), os, hs, rfl, fin.of scr_ak⟩
  · obtain ⟨f1, rfl, f2⟩ := f
    exact ⟨if_pos f1, f2⟩
def whyOrd (n w : Int32) : Option String := if inN n 1 20 = false then some iae else if w = 0 then none else if inN w 10 16 = false then some iae else none
def valOrd (ω : CW) (w : Int32) (os : Os) : Int32 := if w = 0 then os.1 0 else if sHas (wS ω) (w - 10) = true then os.2.2.1 (ix (w - 10)) else -1
theorem order_18 {w : Int32} (S : sok (wS ω)) (T : toAt (cw g h o ω) o (wT ω)) (hp : p7 (wO ω).2.2.2.1) (hn : inN n 1 20 = true) (hw : whyOrd n w = none) {hs : jH} : J g mX11_order (d + 8) hs (ansO g h o ω (ix n) 0 (whyOrd n w) (valOrd ω w)) 18 [(0, .ref o), (1, .int n), (2, .int w)] [] (cw g h o ω) := by
  obtain ⟨en, n1, n2⟩ := inN_nI (a := 1) (b := 20) (by omega) (by omega) hn
  have C := w_search (g := g) (d := d) (h := h) (o := o) (ω := ω) (N := ix n) (all := 0) S T (by omega) hp
  rw [← en] at C
  refine bX11_order_18 ⟨_, cw_o, _, rfl, _, cw_o, _, rfl, _, cw_o, _, rfl, _, cw_o, _, rfl, _, cw_os, ?_⟩
  refine C.pv (fun h' hr => ?_) (fun E h' f => f.elim)
  obtain ⟨os, α', κ', hs, rfl⟩ := hr
  refine ⟨fun q => ⟨_, cw_o, _, rfl, _, cw_os, _, rfl, hw, os, hs, ?_, fin.of scr_ak⟩, fun q => ⟨_, cw_o, _, rfl, _, cw_S.1, ?_⟩⟩
  · unfold valOrd; rw [if_pos q]; rfl
  · refine (w_has (ω := ak (pO ω os) α' κ') S).pi (fun r h' hr => ?_) (fun E h' f => f.elim)
    obtain ⟨rfl, rfl⟩ := hr
    refine ⟨fun q2 => ⟨hw, os, hs, ?_, fin.of scr_ak⟩, fun q2 => ⟨_, cw_o, _, rfl, _, cw_os, _, rfl, _, _, cw_ob, sHas_in S ((bI_0 rfl).2.mp q2), hw, os, hs, ?_, fin.of scr_ak⟩⟩
    · unfold valOrd
      rw [if_neg q, if_neg (by rw [show sHas (wS ω) (w - 10) = false from (bI_0 rfl).1.mp q2]; decide)]
    · unfold valOrd
      rw [if_neg q, if_pos (show sHas (wS ω) (w - 10) = true from (bI_0 rfl).2.mp q2)]
      rfl
theorem w_order {w : Int32} (R : jroom g h 1 6) (S : sok (wS ω)) (T : toAt (cw g h o ω) o (wT ω)) (hp : p7 (wO ω).2.2.2.1) : Con g mX11_order (d + 8) [.ref o, .int n, .int w] (cw g h o ω) (ansO g h o ω (ix n) 0 (whyOrd n w) (valOrd ω w)) := by
  refine con_of plD (Nat.le_of_ble_eq_true rfl) rfl (bX11_order_0 ⟨_, cw_o, ?_⟩)
  refine (w_checkNear R).pv (fun h' hr => ?_) (fun E h' f => ?_)
  · obtain ⟨hn, rfl⟩ := hr
    refine ⟨fun q => order_18 S T hp hn ?_, fun q => ⟨_, cw_o, ?_⟩⟩
    · unfold whyOrd; rw [if_neg (by rw [hn]; decide), if_pos q]
    · refine (w_checkWithin R).pv (fun h' hr => ?_) (fun E h' f => ?_)
      · obtain ⟨hw, rfl⟩ := hr
        refine order_18 S T hp hn ?_
        unfold whyOrd; rw [if_neg (by rw [hn]; decide), if_neg q, if_neg (by rw [hw]; decide)]
      · obtain ⟨f1, rfl, f2⟩ := f
        refine ⟨?_, f2⟩
        unfold whyOrd; rw [if_neg (by rw [hn]; decide), if_neg q, if_pos f1]
  · obtain ⟨f1, rfl, f2⟩ := f
    refine ⟨?_, f2⟩
    unfold whyOrd; rw [if_pos f1]
/-! images -/
theorem cw_H : HAt (cw g h o ω) (o + 31) (wH ω) := fun j hj => by rw [Nat.add_assoc]; exact cw_at (c := hcell (o + 31) (wH ω)) 8 rfl 31 (by decide) (by decide) hj
theorem cw_Gs {j : Nat} (hj : j < 3) : SAt (cw g h o ω) (o + (105 + 80 * j)) (wG ω j).2.1 := by
  have e : cw g h o ω = sput (cw g h o ω) (o + (105 + 80 * j)) (wG ω j).2.1 := by rw [cw_pGs hj]; exact (congrArg (cw g h o) pG_self).symm
  rw [e]
  exact sput_SAt _ _ _
theorem hput_HAt' (h : jH) (b : Nat) (ξ : Hs) : HAt (hput h b ξ) b ξ := fun j hj => ov_at _ _ _ _ hj
theorem cw_Gh {j : Nat} (hj : j < 3) : HAt (cw g h o ω) (o + (112 + 80 * j)) (wG ω j).2.2 := by
  have e : cw g h o ω = hput (cw g h o ω) (o + (112 + 80 * j)) (wG ω j).2.2 := by rw [cw_pGh hj]; exact (congrArg (cw g h o) pG_self).symm
  rw [e]
  exact hput_HAt' _ _ _
theorem cw_Go {j : Nat} (hj : j < 3) : (cw g h o ω).1 (o + (104 + 80 * j)) = some (gobj (o + (104 + 80 * j)) (wG ω j).1) := by
  have e : cw g h o ω = jset (cw g h o ω) (o + (104 + 80 * j)) (gobj (o + (104 + 80 * j)) (wG ω j).1) := by rw [cw_pGo hj]; exact (congrArg (cw g h o) pG_self).symm
  rw [e]
  exact jset_at _ _ _
theorem gref {j : Nat} (hj : j < 3) : (fun j => if j < 3 then some (o + (104 + 80 * j)) else none) j = some (o + (104 + 80 * j)) := if_pos hj
theorem w_checkImage (R : jroom g h 1 6) : Con g mX11_checkImage (d + 1) [.ref o, .int i] (cw g h o ω) (jPv (fun h' => grOk i = true ∧ h' = cw g h o ω) (fun E h' => grOk i = false ∧ thx g h o ω nse E h')) := by
  refine con_of km_X11_checkImage.1.2.2.2.2 (Nat.le_of_ble_eq_true rfl) rfl (bX11_checkImage_0 ⟨fun q => ?_, fun q => ⟨_, cw_o, _, rfl, _, _, cw_gr, ⟨_, rfl⟩, fun q2 => ⟨decide_eq_true ⟨q, q2⟩, rfl⟩, fun q2 => ?_⟩⟩)
  · exact bX11_checkImage_13 (jthr_cw R (fun n h1 h2 => ⟨decide_eq_false (fun c => c.1 q), thx_rf h1 h2⟩))
  · exact bX11_checkImage_13 (jthr_cw R (fun n h1 h2 => ⟨decide_eq_false (fun c => q2 c.2), thx_rf h1 h2⟩))
def fImage (ω : CW) (i : Int32) : An Unit × CW := if grOk i = false then (.inl nse, ω) else (.inr (), pG ω (ix i) (some (wT ω), wS ω, hTake (wG ω (ix i)).2.2 (wH ω)))
theorem w_image (R : jroom g h 1 6) (O : hok (wH ω)) (OG : ∀ j, j < 3 → hok (wG ω j).2.2) : Con g mX11_image (d + 3) [.ref o, .int i] (cw g h o ω) (ansV g h o (fImage ω i)) := by
  refine con_of plD (Nat.le_of_ble_eq_true rfl) rfl (bX11_image_0 ⟨_, cw_o, ?_⟩)
  refine (w_checkImage R).pv (fun h' hr => ?_) (fun E h' f => f.2.ans (R := fImage ω i) (by unfold fImage; rw [if_pos f.1]) (by unfold fImage; rw [if_pos f.1]; exact scr.rf _))
  obtain ⟨hi, rfl⟩ := hr
  obtain ⟨ei, i3⟩ := grOk_ix hi
  have hin : vp_in i 3 := by rw [ei]; exact vp_in_nI i3 (by decide)
  have e1 : fImage ω i = (.inr (), pG ω (ix i) (some (wT ω), wS ω, hTake (wG ω (ix i)).2.2 (wH ω))) := if_neg (by rw [hi]; decide)
  rw [e1]
  generalize hj : ix i = j at *
  refine ⟨_, cw_o, _, rfl, _, _, cw_gr, hin, _, by rw [show i.toNatClampNeg = j from hj]; exact gref i3, _, cw_o, _, rfl, _, cw_Go i3, by simp, fun h1 q1 => ?_⟩
  replace q1 := q1.trans (cw_pGo i3 (some (wT ω)))
  subst q1
  generalize e2 : pG ω j (some (wT ω), (wG ω j).2) = ω2
  have g2 : wG ω2 j = (some (wT ω), (wG ω j).2) := by rw [← e2]; exact pG_at
  have s2 : wS ω2 = wS ω := by rw [← e2]; rfl
  have hh2 : wH ω2 = wH ω := by rw [← e2]; rfl
  have a1 : o + (104 + 80 * j) + 1 = o + (105 + 80 * j) := by omega
  have a2 : o + (104 + 80 * j) + 8 = o + (112 + 80 * j) := by omega
  refine ⟨_, cw_o, _, rfl, _, _, cw_gr, hin, _, by rw [show i.toNatClampNeg = j from hj]; exact gref i3, _, cw_Go i3, _, congrArg (fun z => some (Value.ref z)) a1, _, cw_o, _, rfl, _, (cw_Gs i3).1, ?_⟩
  refine (c_takeOver (cw_S (ω := ω2)) (Or.inr (by omega)) (cw_Gs i3)).pv (fun h' hr => ?_) (fun E h' f => f.elim)
  replace hr := hr.trans (cw_pGs i3 _)
  subst hr
  generalize e3 : pG ω2 j ((wG ω2 j).1, wS ω2, (wG ω2 j).2.2) = ω3
  have g3 : wG ω3 j = (some (wT ω), wS ω, (wG ω j).2.2) := by rw [← e3, pG_at, g2, s2]
  have hh3 : wH ω3 = wH ω := by rw [← e3]; exact hh2
  have b1 : (cw g h o ω3).1 (o + (112 + 80 * j)) = some (hobj (o + (112 + 80 * j)) (wG ω3 j).2.2.1) := cw_Gh i3 0 (by decide)
  refine ⟨_, cw_o, _, rfl, _, _, cw_gr, hin, _, by rw [show i.toNatClampNeg = j from hj]; exact gref i3, _, cw_Go i3, _, congrArg (fun z => some (Value.ref z)) a2, _, cw_o, _, rfl, _, b1, ?_⟩
  have C := c_hTake (g := g) (d := d) (h := cw g h o ω3) (b := o + (112 + 80 * j)) (ξ := (wG ω3 j).2.2) (ζ := wH ω3) (e := o + 31) (by rw [g3]; exact OG j i3) (by rw [hh3]; exact O) cw_H (Or.inl (by omega))
  rw [cw_pGh i3, pG_self] at C
  refine C.pv (fun h' hr => ?_) (fun E h' f => f.elim)
  replace hr := hr.trans (cw_pGh i3 _)
  subst hr
  refine ⟨rfl, ?_⟩
  have e4 : pG ω3 j ((wG ω3 j).1, (wG ω3 j).2.1, ((wH ω3).1, (wG ω3 j).2.2.2.1, htk (wG ω3 j).2.2 (wH ω3) (hN (wH ω3)))) = pG ω j (some (wT ω), wS ω, hTake (wG ω j).2.2 (wH ω)) := by
    rw [g3, hh3, ← e3, pG_pG, ← e2, pG_pG]
    rfl
  rw [e4]
  exact fin.rf
def fRestore (ω : CW) (i : Int32) : An Unit × CW := if grOk i = false then (.inl nse, ω) else match (wG ω (ix i)).1 with
  | none => (.inl ise, ω)
  | some τ => (.inr (), pH (pS (pT ω τ) (wG ω (ix i)).2.1) (hTake (wH ω) (wG ω (ix i)).2.2))
theorem w_restore (R : jroom g h 1 6) (O : hok (wH ω)) (OG : ∀ j, j < 3 → hok (wG ω j).2.2) : Con g mX11_restore (d + 3) [.ref o, .int i] (cw g h o ω) (ansV g h o (fRestore ω i)) := by
  refine con_of plD (Nat.le_of_ble_eq_true rfl) rfl (bX11_restore_0 ⟨_, cw_o, ?_⟩)
  refine (w_checkImage R).pv (fun h' hr => ?_) (fun E h' f => f.2.ans (R := fRestore ω i) (by unfold fRestore; rw [if_pos f.1]) (by unfold fRestore; rw [if_pos f.1]; exact scr.rf _))
  obtain ⟨hi, rfl⟩ := hr
  obtain ⟨ei, i3⟩ := grOk_ix hi
  have hin : vp_in i 3 := by rw [ei]; exact vp_in_nI i3 (by decide)
  have e0 : fRestore ω i = match (wG ω (ix i)).1 with
    | none => (.inl ise, ω)
    | some τ => (.inr (), pH (pS (pT ω τ) (wG ω (ix i)).2.1) (hTake (wH ω) (wG ω (ix i)).2.2)) := if_neg (by rw [hi]; decide)
  rw [e0]
  clear e0
  generalize hj : ix i = j at *
  refine ⟨_, cw_o, _, rfl, _, _, cw_gr, hin, _, by rw [show i.toNatClampNeg = j from hj]; exact gref i3, _, cw_Go i3, ?_⟩
  cases hg : (wG ω j).1 with
  | none => exact Or.inl ⟨rfl, jthr_cw R (fun n h1 h2 => ⟨rfl, n, h1, h2, fin.rf⟩)⟩
  | some τ =>
    refine Or.inr ⟨τ.1, rfl, _, cw_o, by simp, fun h1 q1 => ?_⟩
    replace q1 := q1.trans (cw_pObj (pT ω τ) rfl)
    subst q1
    have a1 : o + (104 + 80 * j) + 1 = o + (105 + 80 * j) := by omega
    have a2 : o + (104 + 80 * j) + 8 = o + (112 + 80 * j) := by omega
    refine ⟨_, cw_o, _, rfl, _, cw_o, _, rfl, _, _, cw_gr, hin, _, by rw [show i.toNatClampNeg = j from hj]; exact gref i3, _, cw_Go i3, _, congrArg (fun z => some (Value.ref z)) a1, _, cw_S.1, ?_⟩
    refine (w_takeOver (ω := pT ω τ) (cw_Gs i3) (Or.inl (by omega))).pv (fun h' hr => ?_) (fun E h' f => f.elim)
    subst hr
    refine ⟨_, cw_o, _, rfl, _, cw_o, _, rfl, _, _, cw_gr, hin, _, by rw [show i.toNatClampNeg = j from hj]; exact gref i3, _, cw_Go i3, _, congrArg (fun z => some (Value.ref z)) a2, _, cw_h, ?_⟩
    have C := c_hTake (g := g) (d := d) (h := cw g h o (pS (pT ω τ) (wG (pT ω τ) j).2.1)) (b := o + 31) (ξ := wH ω) (ζ := (wG ω j).2.2) (e := o + (112 + 80 * j)) O (OG j i3) (cw_Gh (ω := pS (pT ω τ) (wG (pT ω τ) j).2.1) i3) (Or.inr (by omega))
    rw [cw_pH] at C
    refine C.pv (fun h' hr => ?_) (fun E h' f => f.elim)
    replace hr := hr.trans (cw_pH _)
    subst hr
    exact ⟨rfl, fin.rf⟩
end CM8
