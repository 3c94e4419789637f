/-! The class's methods: told deeds -/
def xS (v : Int64) : Int32 := ((v / 100)).toInt32
def xG (v : Int64) : Int32 := (((v / 10) - (v / 10) / 10 * 10)).toInt32
def xH (v : Int64) : Int32 := ((v - v / 10 * 10)).toInt32
def whyF (σ : St) (v : Int64) : Int32 := if v = -1 then 0 else if v < 0 then 1 else if 399 < v then 1 else if xS v = 0 then sWhySwap σ (xG v) (xH v)
  else if xS v = 1 then (if xG v = 0 then (if sHas σ (xH v) = false then 1 else 0) else 1) else if xS v = 2 then (if xG v = 0 then sWhyPay σ (xH v) else 1) else sWhyGift σ (xG v) (xH v) 10
def carF (T : Td) (lim : Int32) (σ : St) (v : Int64) : St := if v < 0 then pas T lim σ else if xS v = 0 then sExch σ (xG v) (xH v)
  else if xS v = 1 ∧ sHas σ (xH v) = true then setR σ 5 (upd (σ.2 5) (ix (xH v)) 4) else if xS v = 2 then sPay σ (xH v) 999999 else sGive σ (xG v) (xH v) 10
theorem carF_1 {T : Td} {lim : Int32} {σ : St} {v : Int64} : (carF T lim σ v).1 0 = σ.1 0 := by
  unfold carF
  split
  · rfl
  · split
    · rw [sExch_1]
    · split
      · rfl
      · split
        · rw [sPay_1]
        · rw [sGive_1]
section CMa
variable {g : jG} {d : Nat} {h : jH} {o s : Nat} {ω : CW} {σ : St} {κ : Ks} {v : Int64} {i k n : Int32}
theorem c_whyNotD (H : SAt h s σ) (S : sok σ) : Con g mX11_whyNot (d + 4) [.ref o, .ref s, .long v] h (jPi (fun r h' => r = whyF σ v ∧ h' = h) no2) := by
  refine con_of km_X11_whyNot.1.2.2.2.2 (Nat.le_of_ble_eq_true rfl) rfl (bX11_whyNot_0 ⟨fun q => ⟨(if_pos q).symm, rfl⟩, fun q1 => ?_⟩)
  have e1 : whyF σ v = if v < 0 then 1 else if 399 < v then 1 else if xS v = 0 then sWhySwap σ (xG v) (xH v) else if xS v = 1 then (if xG v = 0 then (if sHas σ (xH v) = false then 1 else 0) else 1) else if xS v = 2 then (if xG v = 0 then sWhyPay σ (xH v) else 1) else sWhyGift σ (xG v) (xH v) 10 := if_neg q1
  refine ⟨fun q => ⟨(e1.trans (if_pos q)).symm, rfl⟩, fun q2 => ?_⟩
  have e2 := e1.trans (if_neg q2)
  refine ⟨fun q => ⟨(e2.trans (if_pos q)).symm, rfl⟩, fun q3 => ?_⟩
  have e3 := e2.trans (if_neg q3)
  refine ⟨fun q => ⟨_, H.1, ?_⟩, fun q4 => ?_⟩
  · rw [e3, if_pos (show xS v = 0 from q)]
    exact c_whyNoSwap H S
  have e4 := e3.trans (if_neg (show ¬ xS v = 0 from q4))
  refine ⟨fun q => ?_, fun q5 => ?_⟩
  · have e5 := e4.trans (if_pos (show xS v = 1 from q))
    refine ⟨fun q6 => ⟨_, H.1, ?_⟩, fun q6 => ⟨(e5.trans (if_neg (show ¬ xG v = 0 from q6))).symm, rfl⟩⟩
    have e6 := e5.trans (if_pos (show xG v = 0 from q6))
    refine (c_has H S).pi (fun r h' hr => ?_) (fun E h' f => f.elim)
    obtain ⟨rfl, rfl⟩ := hr
    exact ⟨fun c => ⟨(e6.trans (if_pos ((bI_0 rfl).1.mp c))).symm, rfl⟩, fun c => ⟨(e6.trans (if_neg (by rw [show sHas σ (xH v) = true from (bI_0 rfl).2.mp c]; decide))).symm, rfl⟩⟩
  have e5 := e4.trans (if_neg (show ¬ xS v = 1 from q5))
  refine ⟨fun q => ?_, fun q6 => ⟨_, H.1, ?_⟩⟩
  · have e6 := e5.trans (if_pos (show xS v = 2 from q))
    refine ⟨fun q7 => ⟨_, H.1, ?_⟩, fun q7 => ⟨(e6.trans (if_neg (show ¬ xG v = 0 from q7))).symm, rfl⟩⟩
    rw [e6, if_pos (show xG v = 0 from q7)]
    exact c_whyNoPayOff H S
  · rw [e5, if_neg (show ¬ xS v = 2 from q6)]
    exact c_whyNoGift H S
/-- a deed is done to a street s of any world -/
theorem c_carry {Wd : St → Ks → jH} (hS : ∀ σ κ, SAt (Wd σ κ) s σ) (hp : ∀ σ τ κ, sput (Wd σ κ) s τ = Wd τ κ) (ho : ∀ σ κ, (Wd σ κ).1 o = some (wobj o ω)) (hk : ∀ σ κ, (Wd σ κ).1 (o + 353) = some (kcell (o + 353) κ 0)) (ht : ∀ σ κ, (Wd σ κ).1 (wT ω).1 = some (tobj (wT ω).1 (tT ω)))
    (pass : ∀ σ κ, sok σ → Con g mX0_pass (d + 5) [.ref (o + 353), .ref (wT ω).1, .ref s, .int (tL ω)] (Wd σ κ) (jPv (fun h' => ∃ κ', h' = Wd (pas (tT ω) (tL ω) σ) κ') no2)) (S : sok σ) :
    Con g mX11_carryOut (d + 6) [.ref o, .ref s, .long v] (Wd σ κ) (jPv (fun h' => ∃ κ', h' = Wd (carF (tT ω) (tL ω) σ v) κ') no2) := by
  have put : ∀ τ, sput (Wd σ κ) s τ = Wd τ κ := fun τ => hp σ τ κ
  have self : Wd σ κ = sput (Wd σ κ) s σ := (hp σ σ κ).symm
  have tail : ∀ hs, ¬ v < 0 → ¬ xS v = 0 → ¬ (xS v = 1 ∧ sHas σ (xH v) = true) → J g mX11_carryOut (d + 6) hs (jPv (fun h' => ∃ κ', h' = Wd (carF (tT ω) (tL ω) σ v) κ') no2) 96 [(1, .ref s), (4, .int (xS v)), (5, .int (xG v)), (6, .int (xH v))] [] (Wd σ κ) := by
    intro hs q1 q2 q3
    have e3 : carF (tT ω) (tL ω) σ v = if xS v = 2 then sPay σ (xH v) 999999 else sGive σ (xG v) (xH v) 10 := (if_neg q1).trans ((if_neg q2).trans (if_neg q3))
    rw [e3]
    refine bX11_carryOut_96 ⟨fun q => ⟨_, (hS σ κ).1, ?_⟩, fun q => ⟨_, (hS σ κ).1, ?_⟩⟩
    · rw [if_pos q]
      have C := c_payBack (g := g) (d := d + 3) (h := Wd σ κ) (a := s) (i := xH v) (n := 999999) S
      rw [← self] at C
      exact C.pi (fun r h' hr => ⟨κ, hr.1.trans (put _)⟩) (fun E h' f => f.elim)
    · rw [if_neg q]
      have C := c_give (g := g) (d := d + 3) (h := Wd σ κ) (a := s) (i := xG v) (k := xH v) (n := 10) S
      rw [← self] at C
      exact C.pv (fun h' hr => ⟨κ, hr.trans (put _)⟩) (fun E h' f => f.elim)
  refine con_of km_X11_carryOut.1.2.2.2.2 (Nat.le_of_ble_eq_true rfl) rfl (bX11_carryOut_0 ⟨fun q => ⟨_, ho σ κ, _, rfl, _, ho σ κ, _, rfl, _, ho σ κ, _, rfl, _, ht σ κ, _, rfl, _, hk σ κ, ?_⟩, fun q1 => ⟨fun q => ⟨_, (hS σ κ).1, ?_⟩, fun q2 => ⟨fun q => ⟨_, (hS σ κ).1, ?_⟩, fun q => tail _ q1 q2 (fun c => q c.1)⟩⟩⟩)
  · rw [show carF (tT ω) (tL ω) σ v = pas (tT ω) (tL ω) σ from if_pos q]
    exact (pass σ κ S).pv (fun h' hr => hr) (fun E h' f => f.elim)
  · rw [show carF (tT ω) (tL ω) σ v = sExch σ (xG v) (xH v) from (if_neg q1).trans (if_pos q)]
    have C := c_exchange (g := g) (d := d + 3) (h := Wd σ κ) (a := s) (i := xG v) (k := xH v) S
    rw [← self] at C
    exact C.pv (fun h' hr => ⟨κ, hr.trans (put _)⟩) (fun E h' f => f.elim)
  · refine (c_has (hS σ κ) S).pi (fun r h' hr => ?_) (fun E h' f => f.elim)
    obtain ⟨rfl, rfl⟩ := hr
    refine ⟨fun c => tail _ q1 q2 (fun c2 => by rw [show sHas σ (xH v) = false from (bI_0 rfl).1.mp c] at c2; exact Bool.noConfusion c2.2), fun c => ?_⟩
    have hh : sHas σ (xH v) = true := (bI_0 rfl).2.mp c
    refine ⟨_, (hS σ κ).1, _, rfl, _, _, (hS σ κ).2.2.2.2.2.2, sHas_in S hh, fun h1 q3 => ⟨κ, ?_⟩⟩
    rw [show carF (tT ω) (tL ω) σ v = setR σ 5 (upd (σ.2 5) (ix (xH v)) 4) from (if_neg q1).trans ((if_neg q2).trans (if_pos ⟨q, hh⟩))]
    rw [q3]
    have e := sput_row (Wd σ κ) s 5 (by decide) σ (upd (σ.2 5) (ix (xH v)) 4)
    rw [put, put] at e
    exact e
/-- now -/
theorem n_carry (S : sok (wS ω)) (T : toAt (cw g h o ω) o (wT ω)) : Con g mX11_carryOut (d + 6) [.ref o, .ref (o + 24), .long v] (cw g h o (pK ω κ)) (jPv (fun h' => ∃ κ', h' = cw g h o (pK (pS ω (carF (tT ω) (tL ω) (wS ω) v)) κ')) no2) :=
  c_carry (ω := ω) (s := o + 24) (Wd := fun σ κ => cw g h o (pK (pS ω σ) κ)) (fun σ κ => cw_S (ω := pK (pS ω σ) κ)) (fun σ τ κ => cw_pS (ω := pK (pS ω σ) κ) τ) (fun σ κ => cw_o (ω := pK (pS ω σ) κ)) (fun σ κ => cw_k (ω := pK (pS ω σ) κ)) (fun σ κ => (T.mv (ω' := pK (pS ω σ) κ)).1.1)
    (fun σ κ S => (w_pass (ω := pK (pS ω σ) κ) S T.mv).pv (fun h' ⟨κ', _, e⟩ => ⟨κ', e⟩) (fun E h' f => f)) S
/-- ahead -/
theorem a_carry {α : St} (S : sok α) (T : toAt (cw g h o ω) o (wT ω)) : Con g mX11_carryOut (d + 6) [.ref o, .ref (o + 361), .long v] (cw g h o (ak ω α κ)) (jPv (fun h' => ∃ κ', h' = cw g h o (ak ω (carF (tT ω) (tL ω) α v) κ')) no2) :=
  c_carry (ω := ω) (s := o + 361) (Wd := fun σ κ => cw g h o (ak ω σ κ)) (fun σ κ => ak_A) (fun σ τ κ => cw_pA (ω := ak ω σ κ) τ) (fun σ κ => ak_o) (fun σ κ => ak_k) (fun σ κ => ak_t T)
    (fun σ κ S => (a_pass S T).pv (fun h' ⟨κ', _, e⟩ => ⟨κ', e⟩) (fun E h' f => f)) S
def fCould (ω : CW) (v : Int64) : Bool × CW := if whyF (wS ω) v = 0 then (true, pS (wPush ω) (carF (tT ω) (tL ω) (wS ω) v)) else (false, ω)
theorem n_couldDo (S : sok (wS ω)) (O : hok (wH ω)) (T : toAt (cw g h o ω) o (wT ω)) : Con g mX11_couldDo (d + 7) [.ref o, .long v] (cw g h o (pK ω κ)) (jPi (fun r h' => r = bI (fCould ω v).1 ∧ ∃ κ', h' = cw g h o (pK (fCould ω v).2 κ')) no2) := by
  refine con_of km_X11_couldDo.1.2.2.2.2 (Nat.le_of_ble_eq_true rfl) rfl (bX11_couldDo_0 ⟨_, cw_o, _, rfl, _, cw_o, ?_⟩)
  refine (c_whyNotD (cw_S (ω := pK ω κ)) S).pi (fun r h' hr => ?_) (fun E h' f => f.elim)
  obtain ⟨rfl, rfl⟩ := hr
  refine ⟨fun q => ⟨_, cw_o, _, rfl, _, cw_o, _, rfl, _, cw_h, ?_⟩, fun q => ?_⟩
  · have e : fCould ω v = (true, pS (wPush ω) (carF (tT ω) (tL ω) (wS ω) v)) := if_pos q
    rw [e]
    refine (w_remember (ω := pK ω κ) O).pv (fun h' hr => ?_) (fun E h' f => f.elim)
    subst hr
    refine ⟨_, cw_o, _, rfl, _, cw_o, ?_⟩
    refine (n_carry (ω := wPush ω) (κ := κ) (d := d) S T.mv).pv (fun h' hr => ?_) (fun E h' f => f.elim)
    exact ⟨rfl, hr⟩
  · have e : fCould ω v = (false, ω) := if_neg q
    rw [e]
    exact ⟨rfl, κ, rfl⟩
end CMa
