/-! The reference: a house earns, sends, is ruined -/
def eaC (τ : St) (j : Nat) : Int32 := jmin 999999 (τ.2 2 j + τ.2 0 j - τ.2 1 j)
def eaD (τ : St) (j : Nat) : Int32 := jmin 999999 (τ.2 4 j + jmax 0 (-(eaC τ j)))
def eaP (T : Td) (σ τ : St) (j : Nat) : Int32 := pay T σ (nI j) (jmax 0 (eaC τ j)) (eaD τ j)
def eaS (T : Td) (σ τ : St) (j : Nat) : St := setR (setR τ 2 (upd (τ.2 2) j (jmax 0 (eaC τ j) - eaP T σ τ j))) 4 (upd (τ.2 4) j (eaD τ j - eaP T σ τ j))
theorem setR_c {τ : St} {r r' : Nat} (hr : ¬ r = r') (f f' : Nat → Int32) : setR (setR τ r f) r' f' = setR (setR τ r' f') r f := by
  refine Prod.ext rfl (funext fun q => ?_)
  show (if q = r' then f' else if q = r then f else τ.2 q) = (if q = r then f else if q = r' then f' else τ.2 q)
  by_cases h1 : q = r'
  · rw [if_pos h1, if_neg (fun c => hr (c.symm.trans h1)), if_pos h1]
  · rw [if_neg h1, if_neg h1]
section MQU
variable {g : jG} {d : Nat} {h hs : jH} {m : Nat} {μ : MW} {i k n : Int32} {T : Td} {σ τ : St}
theorem kj {b r j : Nat} (hb : b = 8 + 7 * r) (hr : r < 6) (hj : j < 7) : kn (mS μ τ) (b + j) = τ.2 r j := by rw [mS_kn]; exact kS_at hb hr hj
theorem mS_pA {f : Nat → Int32} : mw h m (mA (mS μ τ) 1 f) = mw h m (mA (mS μ τ) 1 f) := rfl
theorem m_earn {j : Nat} (hj : j < 7) (hh : sHas σ (nI j) = true) (e2 : τ.1 2 = σ.1 2) (e0 : τ.2 0 j = σ.2 0 j) (e1 : τ.2 1 j = σ.2 1 j) (E : encT (kn μ) T) : Con g mX12_earn (d + 5) [.ref m, .int (nI j)] (mw h m (mS μ τ)) (jPv (fun h' => ∃ μ', mscr μ μ' ∧ h' = mw h m (mI (mS μ' (eaS T σ τ j)) 23 (μ.1 23 + eaP T σ τ j))) no2) := by
  have x22 : ix ((22 : Int32) + nI j) = 22 + j := kx (b := 22) (by omega)
  have x36 : ix ((36 : Int32) + nI j) = 36 + j := kx (b := 36) (by omega)
  have x8 : ix ((8 : Int32) + nI j) = 8 + j := kx (b := 8) (by omega)
  have x15 : ix ((15 : Int32) + nI j) = 15 + j := kx (b := 15) (by omega)
  have i22 : vp_in ((22 : Int32) + nI j) 3240 := kin (b := 22) (by omega)
  have i36 : vp_in ((36 : Int32) + nI j) 3240 := kin (b := 36) (by omega)
  have i8 : vp_in ((8 : Int32) + nI j) 3240 := kin (b := 8) (by omega)
  have i15 : vp_in ((15 : Int32) + nI j) 3240 := kin (b := 15) (by omega)
  have w22 : ∀ {μ : MW} {τ : St} {v : Int32}, mw h m (mA (mS μ τ) 1 (upd (kn (mS μ τ)) (ix ((22 : Int32) + nI j)) v)) = mw h m (mS μ (setR τ 2 (upd (τ.2 2) j v))) := fun {μ τ v} => congrArg (mw h m) (mS_set (b := 22) (r := 2) rfl (by decide) hj (by omega) rfl)
  have w36 : ∀ {μ : MW} {τ : St} {v : Int32}, mw h m (mA (mS μ τ) 1 (upd (kn (mS μ τ)) (ix ((36 : Int32) + nI j)) v)) = mw h m (mS μ (setR τ 4 (upd (τ.2 4) j v))) := fun {μ τ v} => congrArg (mw h m) (mS_set (b := 36) (r := 4) rfl (by decide) hj (by omega) rfl)
  refine con_of km_X12_earn.1.2.2.2.2 (Nat.le_of_ble_eq_true rfl) rfl (bX12_earn_0 ⟨_, mw_o, _, rfl, _, _, mw_1, i22, _, mw_o, _, rfl, _, _, mw_1, i8, _, mw_o, _, rfl, _, _, mw_1, i15, ?_⟩)
  have a22 : kn (mS μ τ) (22 + j) = τ.2 2 j := kj (b := 22) (r := 2) rfl (by decide) hj
  have a8 : kn (mS μ τ) (8 + j) = τ.2 0 j := kj (b := 8) (r := 0) rfl (by decide) hj
  have a15 : kn (mS μ τ) (15 + j) = τ.2 1 j := kj (b := 15) (r := 1) rfl (by decide) hj
  have a36 : kn (mS μ τ) (36 + j) = τ.2 4 j := kj (b := 36) (r := 4) rfl (by decide) hj
  have ec : jmin 999999 (kn (mS μ τ) (ix ((22 : Int32) + nI j)) + kn (mS μ τ) (ix ((8 : Int32) + nI j)) - kn (mS μ τ) (ix ((15 : Int32) + nI j))) = eaC τ j := by
    rw [x22, x8, x15, a22, a8, a15]
    rfl
  refine m_capped.pi (fun r h' hr => ?_) (fun E h' f => f.elim)
  obtain ⟨hr, rfl⟩ := hr
  replace hr : r = eaC τ j := hr.trans ec
  subst hr
  refine ⟨_, mw_o, _, rfl, _, mw_o, _, rfl, _, _, mw_1, i36, ?_⟩
  have ed : jmin 999999 (kn (mS μ τ) (ix ((36 : Int32) + nI j)) + jmax 0 (-(eaC τ j))) = eaD τ j := by
    rw [x36, a36]
    rfl
  refine m_capped.pi (fun r h' hr => ?_) (fun E h' f => f.elim)
  obtain ⟨hr, rfl⟩ := hr
  replace hr : r = eaD τ j := hr.trans ed
  subst hr
  refine ⟨_, _, mw_1, i36, fun h1 p1 => ?_⟩
  replace p1 := p1.trans ((mw_p1 _).trans w36)
  subst p1
  refine ⟨_, mw_o, _, rfl, _, _, mw_1, i22, fun h1 p1 => ?_⟩
  replace p1 : h1 = mw h m (mS μ (setR (setR τ 4 (upd (τ.2 4) j (eaD τ j))) 2 (upd (τ.2 2) j (jmax 0 (eaC τ j))))) := p1.trans ((mw_p1 _).trans w22)
  subst p1
  generalize hτ2 : setR (setR τ 4 (upd (τ.2 4) j (eaD τ j))) 2 (upd (τ.2 2) j (jmax 0 (eaC τ j))) = τ2
  have t22 : τ2.2 2 j = jmax 0 (eaC τ j) := by rw [← hτ2]; show upd (τ.2 2) j _ j = _; unfold upd; rw [if_pos rfl]
  have t24 : τ2.2 4 j = eaD τ j := by rw [← hτ2]; show upd (τ.2 4) j _ j = _; unfold upd; rw [if_pos rfl]
  have t20 : τ2.2 0 j = σ.2 0 j := by rw [← hτ2]; exact e0
  have t21 : τ2.2 1 j = σ.2 1 j := by rw [← hτ2]; exact e1
  have t1 : τ2.1 2 = σ.1 2 := by rw [← hτ2]; exact e2
  have ET : encT (kn (mS μ τ2)) T := by rw [mS_kn]; exact encT_kS E
  have C := m_paysNow (g := g) (d := d) (h := h) (m := m) (μ := mS μ τ2) (σ := σ) (T := T) (c := jmax 0 (eaC τ j)) (b := eaD τ j) hj hh t1 ((kj (b := 22) (r := 2) rfl (by decide) hj).trans t22) ((kj (b := 36) (r := 4) rfl (by decide) hj).trans t24) ((kj (b := 8) (r := 0) rfl (by decide) hj).trans t20) ((kj (b := 15) (r := 1) rfl (by decide) hj).trans t21) ET.2.2.2.1
  refine ⟨_, mw_o, ?_⟩
  refine C.pi (fun r h' hr => ?_) (fun E h' f => f.elim)
  obtain ⟨hr, μ', hs', rfl⟩ := hr
  replace hr : r = eaP T σ τ j := hr
  subst hr
  obtain ⟨μ2, hs2, rfl⟩ := mS_scr hs'
  have b22 : kn (mS μ2 τ2) (ix ((22 : Int32) + nI j)) = jmax 0 (eaC τ j) := by rw [x22]; exact (kj (b := 22) (r := 2) rfl (by decide) hj).trans t22
  refine ⟨_, mw_o, _, rfl, _, _, mw_1, i22, _, _, mw_1, i22, fun h1 p1 => ?_⟩
  replace p1 : h1 = mw h m (mS μ2 (setR τ2 2 (upd (τ2.2 2) j (kn (mS μ2 τ2) (ix ((22 : Int32) + nI j)) - eaP T σ τ j)))) := p1.trans ((mw_p1 _).trans w22)
  rw [b22] at p1
  subst p1
  generalize hτ3 : setR τ2 2 (upd (τ2.2 2) j (jmax 0 (eaC τ j) - eaP T σ τ j)) = τ3
  have t34 : τ3.2 4 j = eaD τ j := by rw [← hτ3]; exact t24
  have b36 : kn (mS μ2 τ3) (ix ((36 : Int32) + nI j)) = eaD τ j := by rw [x36]; exact (kj (b := 36) (r := 4) rfl (by decide) hj).trans t34
  refine ⟨_, mw_o, _, rfl, _, _, mw_1, i36, _, _, mw_1, i36, fun h1 p1 => ?_⟩
  replace p1 : h1 = mw h m (mS μ2 (setR τ3 4 (upd (τ3.2 4) j (kn (mS μ2 τ3) (ix ((36 : Int32) + nI j)) - eaP T σ τ j)))) := p1.trans ((mw_p1 _).trans w36)
  rw [b36] at p1
  have es : setR τ3 4 (upd (τ3.2 4) j (eaD τ j - eaP T σ τ j)) = eaS T σ τ j := by
    rw [← hτ3, ← hτ2]
    show setR (setR (setR (setR τ 4 (upd (τ.2 4) j (eaD τ j))) 2 (upd (τ.2 2) j (jmax 0 (eaC τ j)))) 2 (upd (upd (τ.2 2) j (jmax 0 (eaC τ j))) j (jmax 0 (eaC τ j) - eaP T σ τ j))) 4 (upd (upd (τ.2 4) j (eaD τ j)) j (eaD τ j - eaP T σ τ j)) = _
    rw [upd_upd, upd_upd, setR_setR, setR_c (r := 4) (r' := 2) (by decide), setR_setR]
    rfl
  rw [es] at p1
  subst p1
  refine ⟨_, mw_o, _, rfl, _, mw_o, Nat.le_of_ble_eq_true rfl, fun h1 p1 => ⟨μ2, hs2, ?_⟩⟩
  refine p1.trans ((mw_pI (μ := mS μ2 (eaS T σ τ j)) 23 (μ2.1 23 + eaP T σ τ j)).trans ?_)
  rw [show μ2.1 = μ.1 from hs2.1]
theorem m_ruins {j : Nat} (hj : j < 7) : Con g mX12_ruins (d + 1) [.ref m, .int (nI j)] (mw h m (mS μ τ)) (jPv (fun h' => h' = mw h m (mI (mS μ (setR (setR τ 3 (upd (τ.2 3) j 1)) 2 (upd (τ.2 2) j 0))) 24 (μ.1 24 + 1))) no2) := by
  have i22 : vp_in ((22 : Int32) + nI j) 3240 := kin (b := 22) (by omega)
  have i29 : vp_in ((29 : Int32) + nI j) 3240 := kin (b := 29) (by omega)
  have w22 : ∀ {μ : MW} {τ : St} {v : Int32}, mw h m (mA (mS μ τ) 1 (upd (kn (mS μ τ)) (ix ((22 : Int32) + nI j)) v)) = mw h m (mS μ (setR τ 2 (upd (τ.2 2) j v))) := fun {μ τ v} => congrArg (mw h m) (mS_set (b := 22) (r := 2) rfl (by decide) hj (by omega) rfl)
  have w29 : ∀ {μ : MW} {τ : St} {v : Int32}, mw h m (mA (mS μ τ) 1 (upd (kn (mS μ τ)) (ix ((29 : Int32) + nI j)) v)) = mw h m (mS μ (setR τ 3 (upd (τ.2 3) j v))) := fun {μ τ v} => congrArg (mw h m) (mS_set (b := 29) (r := 3) rfl (by decide) hj (by omega) rfl)
  refine con_of km_X12_ruins.1.2.2.2.2 (Nat.le_of_ble_eq_true rfl) rfl (bX12_ruins_0 ⟨_, mw_o, _, rfl, _, _, mw_1, i29, fun h1 p1 => ?_⟩)
  replace p1 := p1.trans ((mw_p1 _).trans w29)
  subst p1
  refine ⟨_, mw_o, _, rfl, _, _, mw_1, i22, fun h1 p1 => ?_⟩
  replace p1 := p1.trans ((mw_p1 _).trans w22)
  subst p1
  refine ⟨_, mw_o, _, rfl, _, mw_o, Nat.le_of_ble_eq_true rfl, fun h1 p1 => ?_⟩
  exact p1.trans (mw_pI 24 _)
end MQU
