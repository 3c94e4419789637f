/-! The reference's quarter: what goes next door -/
section ML2
variable {g : jG} {d : Nat} {h hs : jH} {m : Nat} {μ ν : MW} {i k n : Int32} {T : Td} {σ τ : St}
theorem τ1_N : τ1 T σ (sN σ) = pas1 T σ := by
  have e4 : fst (sN σ) (D1 T σ) (σ.2 4) = D1 T σ := by
    funext i
    unfold fst
    by_cases h : i < sN σ
    · rw [if_pos h]
    · rw [if_neg h]
      show σ.2 4 i = fst (sN σ) (gwD T (stl T σ (sN σ))) (fst (sN σ) (stDebt T σ) (σ.2 4)) i
      unfold fst
      rw [if_neg h, if_neg h]
  unfold τ1
  rw [e4]
  refine Prod.ext rfl (funext fun q => ?_)
  show (if q = 4 then D1 T σ else if q = 2 then fst (sN σ) (stCash T σ) (σ.2 2) else σ.2 q) = (if q = 4 then fst (sN σ) (gwD T (stl T σ (sN σ))) ((stl T σ (sN σ)).2 4) else if q = 4 then fst (sN σ) (stDebt T σ) (σ.2 4) else if q = 2 then fst (sN σ) (stCash T σ) (σ.2 2) else σ.2 q)
  by_cases h4 : q = 4
  · rw [if_pos h4, if_pos h4]; rfl
  · rw [if_neg h4, if_neg h4, if_neg h4]
theorem goTo_c {j : Nat} (S : sok σ) (hj : j < sN σ) : (j + 1 < sN σ ∧ goTo T σ j = nI (j + 1)) ∨ (j + 1 = sN σ ∧ ((T.1.1 = 0 ∧ goTo T σ j = -1) ∨ (¬ T.1.1 = 0 ∧ goTo T σ j = nI 0))) := by
  unfold goTo nxt
  have h7 := S.2
  rw [S.1, nI_1]
  by_cases c : j + 1 < sN σ
  · exact Or.inl ⟨c, if_pos (nI_lt c (by omega))⟩
  · refine Or.inr ⟨by omega, ?_⟩
    rw [if_neg (nI_nlt (by omega) (by omega))]
    by_cases r : T.1.1 = 0
    · exact Or.inl ⟨r, if_pos r⟩
    · exact Or.inr ⟨r, if_neg r⟩
/-- what a house sends: whether it goes at all -/
def sent (T : Td) (σ : St) (j : Nat) : Bool := !hedgd T σ j && take T σ (nI j) (σ.2 4 j)
def sndS (T : Td) (σ τ : St) (j : Nat) : St := if sent T σ j = false then τ else if sHas σ (goTo T σ j) = true then setR τ 4 (upd (τ.2 4) j 0) else setI (setR τ 4 (upd (τ.2 4) j 0)) 1 (jmin 999999 (τ.1 1 + σ.2 4 j))
def sndG (T : Td) (σ : St) (G : Nat → Int32) (j : Nat) : Nat → Int32 := if sent T σ j = true ∧ sHas σ (goTo T σ j) = true then upd G (ix (goTo T σ j)) (σ.2 4 j) else G
theorem mS_set50 {f : Nat → Int32} {v : Int32} (hf : f = upd (kn (mS μ τ)) 50 v) : mA (mS μ τ) 1 f = mS μ (setI τ 1 v) := by
  rw [hf, mS_kn, kS_set50]
  unfold mS
  rw [mA_mA]
theorem sends_44 {j : Nat} (S : sok σ) (hj : j < sN σ) (e9 : ν.2.1 9 j = σ.2 4 j) (hsn : sent T σ j = true) {P : jO → jH → Prop} (next : P (.inl none) (mw h m (mA (mS ν (sndS T σ τ j)) 8 (sndG T σ (ν.2.1 8) j)))) :
    J g mX12_sends (d + 5) hs P 44 [(0, .ref m), (1, .int (nI j)), (2, .int (goTo T σ j))] [] (mw h m (mS ν τ)) := by
  have h7 := S.2
  have i36 : vp_in ((36 : Int32) + nI j) 3240 := kin (b := 36) (by omega)
  have hij : vp_in (nI j) 7 := vp_in_nI (by omega) (by decide)
  have hix : ix (nI j) = j := ix_nI (by omega)
  refine bX12_sends_44 ⟨_, mw_o, _, rfl, _, _, mw_1, i36, fun h1 p1 => ?_⟩
  replace p1 : h1 = mw h m (mS ν (setR τ 4 (upd (τ.2 4) j 0))) := p1.trans ((mw_p1 _).trans (congrArg (mw h m) (mS_set (b := 36) (r := 4) rfl (by decide) (by omega) (by omega) rfl)))
  subst p1
  refine ⟨fun q => ?_, fun q => ?_⟩
  · have hno : sHas σ (goTo T σ j) = false := by
      rw [q]
      exact decide_eq_false (fun c => c.1 (by decide))
    have eS : sndS T σ τ j = setI (setR τ 4 (upd (τ.2 4) j 0)) 1 (jmin 999999 (τ.1 1 + σ.2 4 j)) := by
      unfold sndS
      rw [if_neg (by rw [hsn]; decide), if_neg (by rw [hno]; decide)]
    have eG : sndG T σ (ν.2.1 8) j = ν.2.1 8 := by
      unfold sndG
      rw [if_neg (by rw [hno]; rintro ⟨_, c⟩; exact Bool.noConfusion c)]
    rw [eS, eG] at next
    refine ⟨_, mw_o, _, rfl, _, mw_o, _, rfl, _, _, mw_1, mk3240 (j := 50) (by decide), _, mw_o, _, rfl, _, _, mw_9, hij, ?_⟩
    refine m_capped.pi (fun r h' hr => ?_) (fun E h' f => f.elim)
    obtain ⟨hr, rfl⟩ := hr
    have er : jmin 999999 (kn (mS ν (setR τ 4 (upd (τ.2 4) j 0))) 50 + (mS ν (setR τ 4 (upd (τ.2 4) j 0))).2.1 9 (ix (nI j))) = jmin 999999 (τ.1 1 + σ.2 4 j) := by
      rw [hix]
      show jmin 999999 (τ.1 1 + ν.2.1 9 j) = _
      rw [e9]
    replace hr : r = jmin 999999 (τ.1 1 + σ.2 4 j) := hr.trans er
    subst hr
    refine ⟨_, _, mw_1, mk3240 (j := 50) (by decide), fun h1 p1 => ?_⟩
    replace p1 : h1 = mw h m (mS ν (setI (setR τ 4 (upd (τ.2 4) j 0)) 1 (jmin 999999 (τ.1 1 + σ.2 4 j)))) := p1.trans ((mw_p1 _).trans (congrArg (mw h m) (mS_set50 rfl)))
    subst p1
    rw [mS_A (by decide), mA_self] at next
    exact next
  · have hyes : sHas σ (goTo T σ j) = true ∧ ∃ t, t < sN σ ∧ goTo T σ j = nI t := by
      rcases goTo_c (T := T) S hj with ⟨c1, c2⟩ | ⟨c1, ⟨_, c2⟩ | ⟨_, c2⟩⟩
      · rw [c2]
        exact ⟨decide_eq_true ⟨nI_pos (by omega), by rw [S.1]; exact nI_lt c1 (by omega)⟩, j + 1, c1, rfl⟩
      · exact absurd c2 q
      · rw [c2]
        exact ⟨decide_eq_true ⟨nI_pos (by omega), by rw [S.1]; exact nI_lt (by omega) (by omega)⟩, 0, by omega, rfl⟩
    obtain ⟨hy, t, ht, et⟩ := hyes
    have eS : sndS T σ τ j = setR τ 4 (upd (τ.2 4) j 0) := by
      unfold sndS
      rw [if_neg (by rw [hsn]; decide), if_pos hy]
    have eG : sndG T σ (ν.2.1 8) j = upd (ν.2.1 8) t (σ.2 4 j) := by
      unfold sndG
      rw [if_pos ⟨hsn, hy⟩, et, ix_nI (by omega)]
    rw [eS, eG] at next
    have hit : vp_in (goTo T σ j) 7 := by rw [et]; exact vp_in_nI (by omega) (by decide)
    refine ⟨_, mw_o, _, rfl, _, mw_o, _, rfl, _, _, mw_9, hij, _, _, mw_8, hit, fun h1 p1 => ?_⟩
    replace p1 : h1 = mw h m (mA (mS ν (setR τ 4 (upd (τ.2 4) j 0))) 8 (upd (ν.2.1 8) (ix (goTo T σ j)) (ν.2.1 9 (ix (nI j))))) := p1.trans (mw_p8 _)
    rw [hix, e9, et, ix_nI (n := t) (by omega)] at p1
    subst p1
    exact next
end ML2
