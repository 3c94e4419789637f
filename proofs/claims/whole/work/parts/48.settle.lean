/-! The first step of a quarter: earn, spend, pay -/
def stC1 (σ : St) (i : Nat) : Int32 := σ.2 2 i + σ.2 0 i - σ.2 1 i
def stD1 (σ : St) (i : Nat) : Int32 := if stC1 σ i < 0 then jmin (σ.2 4 i - stC1 σ i) 999999 else σ.2 4 i
def stC2 (σ : St) (i : Nat) : Int32 := jmax (jmin (stC1 σ i) 999999) 0
def stP (T : Td) (σ : St) (i : Nat) : Int32 := if σ.2 3 i = 0 then pay T σ (nI i) (stC2 σ i) (stD1 σ i) else 0
def stCash (T : Td) (σ : St) (i : Nat) : Int32 := if σ.2 3 i = 0 then stC2 σ i - stP T σ i else σ.2 2 i
def stDebt (T : Td) (σ : St) (i : Nat) : Int32 := if σ.2 3 i = 0 then stD1 σ i - stP T σ i else σ.2 4 i
/-- the first j are done -/
def fst (j : Nat) (f f' : Nat → Int32) : Nat → Int32 := fun i => if i < j then f i else f' i
def stl (T : Td) (σ : St) (j : Nat) : St := setR (setR σ 2 (fst j (stCash T σ) (σ.2 2))) 4 (fst j (stDebt T σ) (σ.2 4))
theorem fst_at {j : Nat} {f f' : Nat → Int32} : fst j f f' j = f' j := by simp [fst]
theorem fst_0 {f f' : Nat → Int32} : fst 0 f f' = f' := by funext i; simp [fst]
theorem fst_upd {j : Nat} {f f' : Nat → Int32} {v : Int32} (e : v = f j) : upd (fst j f f') j v = fst (j + 1) f f' := by
  funext i
  by_cases hi : i = j
  · subst hi
    simp [upd, fst, e]
  · by_cases h2 : i < j
    · simp only [upd, fst, hi, h2, show i < j + 1 from by omega, if_true, if_false]
    · simp only [upd, fst, hi, h2, show ¬ i < j + 1 from by omega, if_false]
theorem fst_skip {j : Nat} {f f' : Nat → Int32} (e : f j = f' j) : fst (j + 1) f f' = fst j f f' := by
  rw [← fst_upd rfl]
  funext i
  by_cases hi : i = j
  · subst hi
    simp [upd, fst, e]
  · simp only [upd, hi, if_false]
theorem setR_ext {σ τ : St} (h1 : σ.1 = τ.1) (h2 : ∀ k, σ.2 k = τ.2 k) : σ = τ := Prod.ext h1 (funext h2)
theorem stl_0 (T : Td) (σ : St) : stl T σ 0 = σ := by
  refine setR_ext rfl (fun k => ?_)
  simp only [stl, setR, fst_0]
  by_cases h4 : k = 4
  · subst h4; rfl
  · by_cases h2 : k = 2
    · subst h2; rfl
    · simp only [h4, h2, if_false]
theorem pay_like {T : Td} {σ τ : St} {i c e : Int32} (h1 : τ.1 = σ.1) (h2 : τ.2 0 = σ.2 0) (h3 : τ.2 1 = σ.2 1) : pay T τ i c e = pay T σ i c e := by
  unfold pay sHas
  rw [h1, h2, h3]
theorem stl_1 {T : Td} {σ : St} {j : Nat} : (stl T σ j).1 = σ.1 := rfl
theorem sok_like {σ τ : St} (h1 : τ.1 = σ.1) (S : sok σ) : sok τ := by
  unfold sok sN at *
  rw [h1]
  exact S
theorem ksim_I {κ κ' : Ks} (a : ksim κ κ') (k : Nat) (v : Int32) : ksim (kI κ k v) (kI κ' k v) := ⟨by simp only [kI, a.1], a.2.1, a.2.2.1, a.2.2.2⟩
theorem kI_kI (κ : Ks) (k : Nat) (v v' : Int32) : kI (kI κ k v) k v' = kI κ k v' := by
  refine Prod.ext (funext fun i => ?_) rfl
  by_cases hi : i = k <;> simp only [kI, hi, if_true, if_false]
section SET
variable {g : jG} {d : Nat} {h hs : jH} {s c t : Nat} {σ : St} {κ : Ks} {T : Td}
theorem settle_loop (S : sok σ) (hd : apart s 7 c 8) (H : TAt h t T) (f1 : TFar t T s 7) (f2 : TFar t T c 8) : ∀ m j κ', sN σ = j + m → ksim (kI κ 0 (sumN (stP T σ) j)) κ' →
    J g mX0_settle (d + 4) hs (jPv (fun h' => ∃ κ', ksim (kI κ 0 (sumN (stP T σ) (sN σ))) κ' ∧ h' = wk h s c (stl T σ (sN σ)) κ') no2) 7 [(0, .ref c), (1, .ref t), (2, .ref s), (3, .int (nI j))] [] (wk h s c (stl T σ j) κ') := by
  obtain ⟨s1, s2⟩ := S
  have HS := fun (τ : St) (κ : Ks) => wk_S (h := h) (σ := τ) (κ := κ) hd
  intro m
  induction m with
  | zero =>
    intro j κ' hj hk
    simp only [Nat.add_zero] at hj
    subst hj
    refine bX0_settle_7 ⟨_, (HS _ _).1, _, rfl, fun q => ?_, fun _ => ⟨κ', hk, rfl⟩⟩
    rw [show (stl T σ (sN σ)).1 0 = nI (sN σ) from s1] at q
    exact absurd q (nI_nlt (Nat.le_refl _) (by omega))
  | succ m ih =>
    intro j κ' hj hk
    have hix : (nI j).toNatClampNeg = j := nI_clamp (by omega)
    have v1 : vp_in (nI j) 7 := vp_in_nI (by omega) (by decide)
    have key : ∀ κ', ksim (kI κ 0 (sumN (stP T σ) j)) κ' → σ.2 3 j = 0 → J g mX0_settle (d + 4) hs (jPv (fun h' => ∃ κ', ksim (kI κ 0 (sumN (stP T σ) (sN σ))) κ' ∧ h' = wk h s c (stl T σ (sN σ)) κ') no2) 80 [(0, .ref c), (1, .ref t), (2, .ref s), (3, .int (nI j)), (4, .int (stC1 σ j))] [.int (stD1 σ j)] (wk h s c (stl T σ j) κ') := by
      intro κ' hk hg
      refine bX0_settle_80 ⟨_, wk_k0, (c_payment (sok_like (τ := stl T σ j) stl_1 ⟨s1, s2⟩) hd H f1 f2).pi (fun r h' hr => ?_) (fun E h' f => f.elim)⟩
      obtain ⟨e1, κ2, e2, rfl⟩ := hr
      replace e1 : r = stP T σ j := by
        rw [e1, pay_like (σ := σ) (τ := stl T σ j) rfl rfl rfl]
        simp only [stP, hg, if_true]
        rfl
      refine ⟨_, (HS _ _).1, _, rfl, _, _, (HS _ _).2.2.2.1, v1, fun h1 q1 => ?_⟩
      replace q1 := q1.trans (wk_setR hd (k := 2) (by decide) _)
      subst q1
      refine ⟨_, (HS _ _).1, _, rfl, _, _, (HS _ _).2.2.2.2.2.1, v1, fun h1 q1 => ?_⟩
      replace q1 := q1.trans (wk_setR hd (k := 4) (by decide) _)
      subst q1
      refine ⟨_, wk_k0, _, rfl, _, wk_k0, Nat.le_of_ble_eq_true rfl, fun h1 q1 => ?_⟩
      replace q1 := q1.trans (wk_paid _)
      have e3 : κ2.1 0 = sumN (stP T σ) j := by rw [e2.1, hk.1]; simp [kI]
      rw [q1, nI_1]
      have es : setR (setR (stl T σ j) 2 (upd ((stl T σ j).2 2) (nI j).toNatClampNeg (jmax (jmin (stC1 σ j) 999999) 0 - r))) 4 (upd ((setR (stl T σ j) 2 (upd ((stl T σ j).2 2) (nI j).toNatClampNeg (jmax (jmin (stC1 σ j) 999999) 0 - r))).2 4) (nI j).toNatClampNeg (stD1 σ j - r)) = stl T σ (j + 1) := by
        refine setR_ext rfl (fun k => ?_)
        rw [hix, e1]
        by_cases h4 : k = 4
        · subst h4
          show upd (fst j (stDebt T σ) (σ.2 4)) j _ = fst (j + 1) (stDebt T σ) (σ.2 4)
          exact fst_upd (by simp only [stDebt, hg, if_true])
        · by_cases h2 : k = 2
          · subst h2
            show upd (fst j (stCash T σ) (σ.2 2)) j _ = fst (j + 1) (stCash T σ) (σ.2 2)
            exact fst_upd (by simp only [stCash, hg, if_true]; rfl)
          · simp only [setR, stl, h4, h2, if_false]
      rw [es]
      refine ih (j + 1) _ (by omega) ?_
      rw [e3, e1]
      have := ksim_I (hk.tr e2) 0 (sumN (stP T σ) j + stP T σ j)
      rw [kI_kI] at this
      exact this
    refine bX0_settle_7 ⟨_, (HS _ _).1, _, rfl, fun q => ⟨fun q2 => ⟨_, (HS _ _).1, _, rfl, _, _, (HS _ _).2.2.2.2.1, v1, fun hg => ?_, fun hg => ?_⟩, fun q2 => ?_⟩, fun q => ?_⟩
    · rw [hix] at hg
      replace hg : σ.2 3 j = 0 := hg
      have ec : (stl T σ j).2 2 (nI j).toNatClampNeg + (stl T σ j).2 0 (nI j).toNatClampNeg - (stl T σ j).2 1 (nI j).toNatClampNeg = stC1 σ j := by
        rw [hix]
        show fst j _ _ j + σ.2 0 j - σ.2 1 j = _
        rw [fst_at]
        rfl
      have ed : (stl T σ j).2 4 (nI j).toNatClampNeg = σ.2 4 j := by
        rw [hix]
        exact fst_at
      refine ⟨_, (HS _ _).1, _, rfl, _, _, (HS _ _).2.2.2.1, v1, _, (HS _ _).1, _, rfl, _, _, (HS _ _).2.1, v1, _, (HS _ _).1, _, rfl, _, _, (HS _ _).2.2.1, v1, ?_⟩
      rw [ec]
      refine ⟨fun q => ⟨_, (HS _ _).1, _, rfl, _, _, (HS _ _).2.2.2.2.2.1, v1, ?_⟩, fun q => ⟨_, (HS _ _).1, _, rfl, _, _, (HS _ _).2.2.2.2.2.1, v1, ?_⟩⟩
      · rw [ed]
        have := key κ' hk hg
        rw [show stD1 σ j = _ from if_pos q] at this
        exact this
      · rw [ed]
        have := key κ' hk hg
        rw [show stD1 σ j = _ from if_neg q] at this
        exact this
    · rw [hix] at hg
      replace hg : ¬ σ.2 3 j = 0 := hg
      rw [nI_1]
      have es : stl T σ (j + 1) = stl T σ j := by
        unfold stl
        rw [fst_skip (by simp only [stCash, hg, if_false]), fst_skip (by simp only [stDebt, hg, if_false])]
      have := ih (j + 1) κ' (by omega) (by
        rw [show sumN (stP T σ) (j + 1) = sumN (stP T σ) j from by simp [sumN, stP, hg]]
        exact hk)
      rw [es] at this
      exact this
    · exact absurd (nI_lt (a := j) (b := 7) (by omega) (by decide)) q2
    · rw [show (stl T σ j).1 0 = nI (sN σ) from s1] at q
      exact absurd (nI_lt (by omega) (by omega)) q
theorem c_settle (S : sok σ) (hd : apart s 7 c 8) (H : TAt h t T) (f1 : TFar t T s 7) (f2 : TFar t T c 8) : Con g mX0_settle (d + 4) [.ref c, .ref t, .ref s] (wk h s c σ κ) (jPv (fun h' => ∃ κ', ksim (kI κ 0 (sumN (stP T σ) (sN σ))) κ' ∧ h' = wk h s c (stl T σ (sN σ)) κ') no2) := by
  refine con_of km_X0_settle.1.2.2.2.2 (Nat.le_of_ble_eq_true rfl) rfl (bX0_settle_0 ⟨_, wk_k0, Nat.le_of_ble_eq_true rfl, fun h1 q1 => ?_⟩)
  replace q1 := q1.trans (wk_paid _)
  have := settle_loop (g := g) (d := d) (hs := wk h s c σ κ) (κ := κ) S hd H f1 f2 (sN σ) 0 (kI κ 0 0) (by omega) (ksim_rf _)
  rw [stl_0] at this
  rw [q1]
  exact this
end SET
