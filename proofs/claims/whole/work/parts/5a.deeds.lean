/-! The class's methods: deeds -/
def wPush (ω : CW) : CW := pH ω (hpush (wH ω) (wS ω))
section CM2
variable {g : jG} {d : Nat} {h : jH} {o : Nat} {ω : CW} {i k n : Int32}
theorem cw_h : (cw g h o ω).1 (o + 31) = some (hobj (o + 31) (wH ω).1) := cw_at (c := hcell (o + 31) (wH ω)) 8 rfl 31 (by decide) (by decide) (k := 0) (by decide)
theorem why_swap {σ : St} (e : sWhySwap σ i k = 0) : sHas σ i = true ∧ sHas σ k = true := by
  unfold sWhySwap at e
  split at e
  · rename_i h; exact ⟨h.1, h.2.1⟩
  · exact absurd e (by decide)
theorem why_gift {σ : St} (e : sWhyGift σ i k n = 0) : sHas σ i = true ∧ sHas σ k = true := by
  unfold sWhyGift at e
  by_cases h : sHas σ i = true ∧ sHas σ k = true ∧ ¬ i = k
  · exact ⟨h.1, h.2.1⟩
  · rw [if_pos h] at e; exact absurd e (by decide)
theorem why_pay {σ : St} (e : sWhyPay σ i = 0) : sHas σ i = true := by
  unfold sWhyPay at e
  by_cases h : sHas σ i = true
  · exact h
  · rw [if_pos h] at e; exact absurd e (by decide)
theorem has_like {σ τ : St} (e : τ.1 = σ.1) : sHas τ i = sHas σ i := by unfold sHas; rw [e]
theorem sExch_1 {σ : St} : (sExch σ i k).1 = σ.1 := by unfold sExch; split <;> rfl
theorem sGive_1 {σ : St} : (sGive σ i k n).1 = σ.1 := by unfold sGive; split <;> rfl
theorem sPay_1 {σ : St} : (sPay σ i n).1 = σ.1 := by unfold sPay; split <;> rfl
theorem sRuin_1 {σ : St} : (sRuin σ i).1 = σ.1 := by unfold sRuin; split <;> rfl
def fSwap (ω : CW) (i k : Int32) : An Int32 × CW := if sWhySwap (wS ω) i k = 0 then (.inr ((sExch (wS ω) i k).2 4 (ix i) + (sExch (wS ω) i k).2 4 (ix k)), pS (wPush ω) (sExch (wS ω) i k)) else (.inr (-(sWhySwap (wS ω) i k)), ω)
theorem w_swap (S : sok (wS ω)) (O : hok (wH ω)) : Con g mX11_swap (d + 3) [.ref o, .int i, .int k] (cw g h o ω) (ansI g h o (fSwap ω i k)) := by
  refine con_of plD (Nat.le_of_ble_eq_true rfl) rfl (bX11_swap_0 ⟨_, cw_o, _, rfl, _, cw_S.1, ?_⟩)
  refine (c_whyNoSwap cw_S S).pi (fun r h' hr => ?_) (fun E h' f => f.elim)
  obtain ⟨rfl, rfl⟩ := hr
  refine ⟨fun q => ⟨_, cw_o, _, rfl, _, cw_o, _, rfl, _, cw_h, ?_⟩, fun q => ?_⟩
  · have e : fSwap ω i k = (.inr ((sExch (wS ω) i k).2 4 (ix i) + (sExch (wS ω) i k).2 4 (ix k)), pS (wPush ω) (sExch (wS ω) i k)) := if_pos q
    rw [e]
    refine (w_remember O).pv (fun h' hr => ?_) (fun E h' f => f.elim)
    subst hr
    refine ⟨_, cw_o, _, rfl, _, cw_S.1, ?_⟩
    refine (w_exchange (ω := wPush ω) S).pv (fun h' hr => ?_) (fun E h' f => f.elim)
    subst hr
    have hh := why_swap q
    exact ⟨_, cw_o, _, rfl, _, cw_S.1, _, rfl, _, _, cw_S.2.2.2.2.2.1, sHas_in S hh.1, _, cw_o, _, rfl, _, cw_S.1, _, rfl, _, _, cw_S.2.2.2.2.2.1, sHas_in S hh.2, rfl, fin.rf⟩
  · have e : fSwap ω i k = (.inr (-(sWhySwap (wS ω) i k)), ω) := if_neg q
    rw [e]
    exact ⟨rfl, fin.rf⟩
def fGift (ω : CW) (i k n : Int32) : An Int32 × CW := if n < 1 ∨ 999 < n then (.inr (-1), ω) else if sWhyGift (wS ω) i k n = 0 then (.inr ((sGive (wS ω) i k n).2 2 (ix i)), pS (wPush ω) (sGive (wS ω) i k n)) else (.inr (-(sWhyGift (wS ω) i k n)), ω)
theorem w_gift (S : sok (wS ω)) (O : hok (wH ω)) : Con g mX11_gift (d + 4) [.ref o, .int i, .int k, .int n] (cw g h o ω) (ansI g h o (fGift ω i k n)) := by
  have low : n < 1 ∨ 999 < n → ∀ hs, J g mX11_gift (d + 4) hs (ansI g h o (fGift ω i k n)) 12 [(0, .ref o), (1, .int i), (2, .int k), (3, .int n)] [] (cw g h o ω) := by
    intro c hs
    refine bX11_gift_12 (bX11_gift_26 ⟨fun q => absurd q (by decide), fun _ => ?_⟩)
    have e : fGift ω i k n = (.inr (-1), ω) := if_pos c
    rw [e]
    exact ⟨rfl, fin.rf⟩
  refine con_of plD (Nat.le_of_ble_eq_true rfl) rfl (bX11_gift_0 ⟨fun q => low (Or.inl q) _, fun q1 => ⟨fun q => low (Or.inr q) _, fun q2 => ⟨_, cw_o, _, rfl, _, cw_S.1, ?_⟩⟩⟩)
  have e0 : fGift ω i k n = if sWhyGift (wS ω) i k n = 0 then (.inr ((sGive (wS ω) i k n).2 2 (ix i)), pS (wPush ω) (sGive (wS ω) i k n)) else (.inr (-(sWhyGift (wS ω) i k n)), ω) := if_neg (by rintro (c | c); exact q1 c; exact q2 c)
  rw [e0]
  refine (c_whyNoGift cw_S S).pi (fun r h' hr => ?_) (fun E h' f => f.elim)
  obtain ⟨rfl, rfl⟩ := hr
  refine bX11_gift_26 ⟨fun q => ⟨_, cw_o, _, rfl, _, cw_o, _, rfl, _, cw_h, ?_⟩, fun q => ?_⟩
  · rw [if_pos q]
    refine (w_remember O).pv (fun h' hr => ?_) (fun E h' f => f.elim)
    subst hr
    refine ⟨_, cw_o, _, rfl, _, cw_S.1, ?_⟩
    refine (w_give (ω := wPush ω) S).pv (fun h' hr => ?_) (fun E h' f => f.elim)
    subst hr
    have hh := why_gift q
    exact ⟨_, cw_o, _, rfl, _, cw_S.1, _, rfl, _, _, cw_S.2.2.2.1, sHas_in S hh.1, rfl, fin.rf⟩
  · rw [if_neg q]
    exact ⟨rfl, fin.rf⟩
def fPlant (ω : CW) (i n : Int32) : An Int32 × CW := if sHas (wS ω) i = false then (.inl nse, ω) else if inN n 0 20 = false then (.inl iae, ω) else (.inr ((wS ω).2 5 (ix i)), pS (wPush ω) (setR (wS ω) 5 (upd ((wS ω).2 5) (ix i) n)))
theorem w_plant (R : jroom g h 1 6) (S : sok (wS ω)) (O : hok (wH ω)) : Con g mX11_plant (d + 3) [.ref o, .int i, .int n] (cw g h o ω) (ansI g h o (fPlant ω i n)) := by
  refine con_of plD (Nat.le_of_ble_eq_true rfl) rfl (bX11_plant_0 ⟨_, cw_o, ?_⟩)
  refine (w_checkHouse R S).pv (fun h' hr => ?_) (fun E h' f => ?_)
  · obtain ⟨hh, rfl⟩ := hr
    have e : fPlant ω i n = if inN n 0 20 = false then (.inl iae, ω) else (.inr ((wS ω).2 5 (ix i)), pS (wPush ω) (setR (wS ω) 5 (upd ((wS ω).2 5) (ix i) n))) := if_neg (by rw [hh]; decide)
    rw [e]
    refine ⟨_, cw_o, ?_⟩
    refine (w_checkWithin R).pv (fun h' hr => ?_) (fun E h' f => ?_)
    · obtain ⟨hn, rfl⟩ := hr
      rw [if_neg (by rw [hn]; decide)]
      refine ⟨_, cw_o, _, rfl, _, cw_S.1, _, rfl, _, _, cw_S.2.2.2.2.2.2, sHas_in S hh, _, cw_o, _, rfl, _, cw_o, _, rfl, _, cw_h, ?_⟩
      refine (w_remember O).pv (fun h' hr => ?_) (fun E h' f => f.elim)
      subst hr
      refine ⟨_, cw_o, _, rfl, _, cw_S.1, _, rfl, _, _, cw_S.2.2.2.2.2.2, sHas_in S hh, fun h1 q1 => ?_⟩
      have e2 := (cw_pS (g := g) (h := h) (o := o) (ω := wPush ω) (wS ω)).symm
      have e3 : jset (sput (cw g h o (wPush ω)) (o + 24) (wS ω)) (o + 24 + (5 + 1)) (.inl (0, (7, .inl (upd ((wS ω).2 5) (ix i) n)))) = cw g h o (pS (wPush ω) (setR (wS ω) 5 (upd ((wS ω).2 5) (ix i) n))) := (sput_row _ _ 5 (by decide) _ _).trans (cw_pS _)
      have e4 : h1 = cw g h o (pS (wPush ω) (setR (wS ω) 5 (upd ((wS ω).2 5) (ix i) n))) := by
        rw [q1, ← e3, ← e2]
        rfl
      subst e4
      exact ⟨rfl, fin.rf⟩
    · rw [if_pos f.1]
      exact f.2.ans rfl (scr.rf _)
  · have e : fPlant ω i n = (.inl nse, ω) := if_pos f.1
    rw [e]
    exact f.2.ans rfl (scr.rf _)
def fPayOff (ω : CW) (i n : Int32) : An Int32 × CW := if n < 1 ∨ 999 < n then (.inr (-1), ω) else if sWhyPay (wS ω) i = 0 then (.inr (sPaid (wS ω) i n), pS (wPush ω) (sPay (wS ω) i n)) else (.inr (-(sWhyPay (wS ω) i)), ω)
theorem w_payOff (S : sok (wS ω)) (O : hok (wH ω)) : Con g mX11_payOff (d + 4) [.ref o, .int i, .int n] (cw g h o ω) (ansI g h o (fPayOff ω i n)) := by
  have low : n < 1 ∨ 999 < n → ∀ hs, J g mX11_payOff (d + 4) hs (ansI g h o (fPayOff ω i n)) 12 [(0, .ref o), (1, .int i), (2, .int n)] [] (cw g h o ω) := by
    intro c hs
    refine bX11_payOff_12 (bX11_payOff_24 ⟨fun q => absurd q (by decide), fun _ => ?_⟩)
    have e : fPayOff ω i n = (.inr (-1), ω) := if_pos c
    rw [e]
    exact ⟨rfl, fin.rf⟩
  refine con_of plD (Nat.le_of_ble_eq_true rfl) rfl (bX11_payOff_0 ⟨fun q => low (Or.inl q) _, fun q1 => ⟨fun q => low (Or.inr q) _, fun q2 => ⟨_, cw_o, _, rfl, _, cw_S.1, ?_⟩⟩⟩)
  have e0 : fPayOff ω i n = if sWhyPay (wS ω) i = 0 then (.inr (sPaid (wS ω) i n), pS (wPush ω) (sPay (wS ω) i n)) else (.inr (-(sWhyPay (wS ω) i)), ω) := if_neg (by rintro (c | c); exact q1 c; exact q2 c)
  rw [e0]
  refine (c_whyNoPayOff cw_S S).pi (fun r h' hr => ?_) (fun E h' f => f.elim)
  obtain ⟨rfl, rfl⟩ := hr
  refine bX11_payOff_24 ⟨fun q => ⟨_, cw_o, _, rfl, _, cw_o, _, rfl, _, cw_h, ?_⟩, fun q => ?_⟩
  · rw [if_pos q]
    refine (w_remember O).pv (fun h' hr => ?_) (fun E h' f => f.elim)
    subst hr
    refine ⟨_, cw_o, _, rfl, _, cw_S.1, ?_⟩
    refine (w_payBack (ω := wPush ω) S).pi (fun r h' hr => ?_) (fun E h' f => f.elim)
    obtain ⟨rfl, rfl⟩ := hr
    have hh := why_pay q
    exact ⟨congrArg Sum.inr (if_pos hh).symm, fin.rf⟩
  · rw [if_neg q]
    exact ⟨rfl, fin.rf⟩
def fUndo (ω : CW) (n : Int32) : An Int32 × CW := if inN n 1 10 = false then (.inl iae, ω) else if (wH ω).1 < n then (.inl iae, ω) else (.inr (nI (hN (wH ω) - ix n)), pS (pH ω (nI (hN (wH ω) - ix n), (wH ω).2)) (hv (wH ω) (hN (wH ω) - ix n)))
theorem w_undo (R : jroom g h 1 6) (O : hok (wH ω)) : Con g mX11_undo (d + 3) [.ref o, .int n] (cw g h o ω) (ansI g h o (fUndo ω n)) := by
  refine con_of plD (Nat.le_of_ble_eq_true rfl) rfl (bX11_undo_0 ⟨_, cw_o, ?_⟩)
  refine (w_checkWithin R).pv (fun h' hr => ?_) (fun E h' f => ?_)
  · obtain ⟨hn, rfl⟩ := hr
    have e : fUndo ω n = if (wH ω).1 < n then (.inl iae, ω) else (.inr (nI (hN (wH ω) - ix n)), pS (pH ω (nI (hN (wH ω) - ix n), (wH ω).2)) (hv (wH ω) (hN (wH ω) - ix n))) := if_neg (by rw [hn]; decide)
    rw [e]
    refine ⟨_, cw_o, _, rfl, _, cw_h, _, rfl, fun q => ?_, fun q => ⟨_, cw_o, _, rfl, _, cw_o, _, rfl, _, cw_h, ?_⟩⟩
    · rw [if_pos q]
      exact jthr_cw R (fun n h1 h2 => ⟨rfl, n, h1, h2, fin.rf⟩)
    · rw [if_neg q]
      have hn' := of_decide_eq_true hn
      obtain ⟨j, ej, j1, j2⟩ := nI_mid (a := 1) (b := 10) (by omega) (by omega) hn'.1 hn'.2
      subst ej
      rw [ix_nI (by omega)]
      have hle : j ≤ hN (wH ω) := by
        rw [O.1] at q
        by_cases c : j ≤ hN (wH ω)
        · exact c
        · exact absurd (nI_lt (by omega) (by omega)) q
      refine (w_goBack O (by omega) hle).pv (fun h' hr => ?_) (fun E h' f => f.elim)
      subst hr
      exact ⟨_, cw_o, _, rfl, _, cw_h, _, rfl, rfl, fin.rf⟩
  · have e : fUndo ω n = (.inl iae, ω) := if_pos f.1
    rw [e]
    exact f.2.ans rfl (scr.rf _)
end CM2
