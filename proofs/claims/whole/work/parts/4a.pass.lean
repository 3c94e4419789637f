/-! A quarter -/
def gwD (T : Td) (σ : St) (i : Nat) : Int32 := jmin (σ.2 4 i + grow T σ (nI i) (σ.2 4 i)) 999999
def grw (T : Td) (σ : St) (j : Nat) : St := setR σ 4 (fst j (gwD T σ) (σ.2 4))
def ruB (lim : Int32) (σ : St) (i : Nat) : Bool := decide (σ.2 3 i = 0 ∧ lim < σ.2 4 i)
def ruG (lim : Int32) (σ : St) (i : Nat) : Int32 := if ruB lim σ i = true then 1 else σ.2 3 i
def ruC (lim : Int32) (σ : St) (i : Nat) : Int32 := if ruB lim σ i = true then 0 else σ.2 2 i
def ruH (σ : St) (i : Nat) : Int32 := jmax (σ.2 5 i - 1) 0
def rui (lim : Int32) (σ : St) (j : Nat) : St := setR (setR (setR σ 3 (fst j (ruG lim σ) (σ.2 3))) 2 (fst j (ruC lim σ) (σ.2 2))) 5 (fst j (ruH σ) (σ.2 5))
def ruN (lim : Int32) (σ : St) (j : Nat) : Int32 := sumN (fun i => bI (ruB lim σ i)) j
/-- the street after a quarter; what came; what all paid; how many were ruined -/
def pas1 (T : Td) (σ : St) : St := grw T (stl T σ (sN σ)) (sN σ)
def pas2 (T : Td) (σ : St) : St := mov T (pas1 T σ) (sN σ)
def pas (T : Td) (lim : Int32) (σ : St) : St := setI (rui lim (pas2 T σ) (sN σ)) 2 (σ.1 2 + 1)
def pasCame (T : Td) (σ : St) : Nat → Int32 := cam T (pas1 T σ) (sN σ)
def pasPaid (T : Td) (σ : St) : Int32 := sumN (stP T σ) (sN σ)
def pasRuin (T : Td) (lim : Int32) (σ : St) : Int32 := ruN lim (pas2 T σ) (sN σ)
def kpas (T : Td) (lim : Int32) (σ : St) (κ : Ks) : Ks := kI (kI (kR κ 0 (pasCame T σ)) 0 (pasPaid T σ)) 1 (pasRuin T lim σ)
theorem grow_like {T : Td} {σ τ : St} {i e : Int32} (h1 : τ.1 = σ.1) : grow T τ i e = grow T σ i e := by
  unfold grow
  rw [h1]
theorem kgar_R {κ κ' : Ks} (a : kgar κ κ') (k : Nat) (f : Nat → Int32) (hk : k = 0) : kgar (kR κ k f) (kR κ' k f) := by
  subst hk
  exact ⟨a.1, rfl, a.2.2⟩
theorem kgar_I {κ κ' : Ks} (a : kgar κ κ') (k : Nat) (v : Int32) : kgar (kI κ k v) (kI κ' k v) := ⟨by simp only [kI, a.1], a.2.1, a.2.2⟩
section PAS
variable {g : jG} {d : Nat} {h hs : jH} {s c t : Nat} {σ : St} {κ : Ks} {T : Td} {lim : Int32}
theorem pass_grow {P : jO → jH → Prop} (S : sok σ) (hd : apart s 7 c 8) (H : TAt h t T) (f1 : TFar t T s 7) (f2 : TFar t T c 8) {x3 : Int32}
    (K : ∀ κ', ksim κ κ' → J g mX0_pass (d + 4) hs P 66 [(0, .ref c), (1, .ref t), (2, .ref s), (3, .int x3)] [] (wk h s c (grw T σ (sN σ)) κ')) : ∀ m j κ', sN σ = j + m → ksim κ κ' →
    J g mX0_pass (d + 4) hs P 9 [(0, .ref c), (1, .ref t), (2, .ref s), (3, .int x3), (4, .int (nI j))] [] (wk h s c (grw T σ j) κ') := by
  obtain ⟨s1, s2⟩ := S
  have HS := fun (τ : St) (κ : Ks) => wk_S (h := h) (σ := τ) (κ := κ) hd
  intro m
  induction m with
  | zero =>
    intro j κ' hj hk
    simp only [Nat.add_zero] at hj
    subst hj
    refine bX0_pass_9 ⟨_, (HS _ _).1, _, rfl, fun q => ?_, fun _ => K κ' hk⟩
    rw [show (grw T σ (sN σ)).1 0 = nI (sN σ) from s1] at q
    exact absurd q (nI_nlt (Nat.le_refl _) (by omega))
  | succ m ih =>
    intro j κ' hj hk
    have hix : (nI j).toNatClampNeg = j := nI_clamp (by omega)
    have v1 : vp_in (nI j) 7 := vp_in_nI (by omega) (by decide)
    refine bX0_pass_9 ⟨_, (HS _ _).1, _, rfl, fun q => ⟨fun q2 => ?_, fun q2 => absurd (nI_lt (a := j) (b := 7) (by omega) (by decide)) q2⟩, fun q => ?_⟩
    · refine ⟨_, (HS _ _).1, _, rfl, _, (HS _ _).1, _, rfl, _, _, (HS _ _).2.2.2.2.2.1, v1, _, (HS _ _).1, _, rfl, _, _, (HS _ _).2.2.2.2.2.1, v1, _, wk_k0, (c_growth hd H f1 f2).pi (fun r h' hr => ?_) (fun E h' f => f.elim)⟩
      obtain ⟨e1, κ2, e2, rfl⟩ := hr
      refine ⟨_, _, (HS _ _).2.2.2.2.2.1, v1, fun h1 q1 => ?_⟩
      replace q1 := q1.trans (wk_setR hd (k := 4) (by decide) _)
      rw [q1, nI_1, hix]
      rw [hix] at e1
      have e4 : (grw T σ j).2 4 j = σ.2 4 j := (fst_at : fst j (gwD T σ) (σ.2 4) j = _)
      have es : setR (grw T σ j) 4 (upd ((grw T σ j).2 4) j (jmin ((grw T σ j).2 4 j + r) 999999)) = grw T σ (j + 1) := by
        refine setR_ext rfl (fun k => ?_)
        by_cases h4 : k = 4
        · subst h4
          show upd (fst j (gwD T σ) (σ.2 4)) j _ = fst (j + 1) (gwD T σ) (σ.2 4)
          refine fst_upd ?_
          rw [e1, e4, grow_like (σ := σ) (τ := grw T σ j) rfl]
          rfl
        · simp only [setR, grw, h4, if_false]
      rw [es]
      exact ih (j + 1) κ2 (by omega) (hk.tr e2)
    · rw [show (grw T σ j).1 0 = nI (sN σ) from s1] at q
      exact absurd (nI_lt (by omega) (by omega)) q
theorem pass_ruin {P : jO → jH → Prop} (S : sok σ) (hd : apart s 7 c 8) {κ0 : Ks}
    (K : ∀ κ', kgar (kI κ0 1 (ruN lim σ (sN σ))) κ' → J g mX0_pass (d + 4) hs P 159 [(2, .ref s)] [] (wk h s c (rui lim σ (sN σ)) κ')) : ∀ m j κ', sN σ = j + m → kgar (kI κ0 1 (ruN lim σ j)) κ' →
    J g mX0_pass (d + 4) hs P 80 [(0, .ref c), (2, .ref s), (3, .int lim), (4, .int (nI j))] [] (wk h s c (rui lim σ j) κ') := by
  have S0 := S
  obtain ⟨s1, s2⟩ := S
  have HS := fun (τ : St) (κ : Ks) => wk_S (h := h) (σ := τ) (κ := κ) hd
  intro m
  induction m with
  | zero =>
    intro j κ' hj hk
    simp only [Nat.add_zero] at hj
    subst hj
    refine bX0_pass_80 ⟨_, (HS _ _).1, _, rfl, fun q => ?_, fun _ => K κ' hk⟩
    rw [show (rui lim σ (sN σ)).1 0 = nI (sN σ) from s1] at q
    exact absurd q (nI_nlt (Nat.le_refl _) (by omega))
  | succ m ih =>
    intro j κ' hj hk
    have hix : (nI j).toNatClampNeg = j := nI_clamp (by omega)
    have v1 : vp_in (nI j) 7 := vp_in_nI (by omega) (by decide)
    have k133 : ∀ τ κ', kgar (kI κ0 1 (ruN lim σ (j + 1))) κ' → τ = setR (setR (rui lim σ j) 3 (fst (j + 1) (ruG lim σ) (σ.2 3))) 2 (fst (j + 1) (ruC lim σ) (σ.2 2)) →
        J g mX0_pass (d + 4) hs P 133 [(0, .ref c), (2, .ref s), (3, .int lim), (4, .int (nI j))] [] (wk h s c τ κ') := by
      intro τ κ' hk ht
      refine bX0_pass_133 ⟨_, (HS _ _).1, _, rfl, _, (HS _ _).1, _, rfl, _, _, (HS _ _).2.2.2.2.2.2, v1, _, _, (HS _ _).2.2.2.2.2.2, v1, fun h1 q1 => ?_⟩
      replace q1 := q1.trans (wk_setR hd (k := 5) (by decide) _)
      rw [q1, nI_1, hix]
      have es : setR τ 5 (upd (τ.2 5) j (jmax (τ.2 5 j - 1) 0)) = rui lim σ (j + 1) := by
        subst ht
        refine setR_ext rfl (fun k => ?_)
        by_cases h5 : k = 5
        · subst h5
          show upd (fst j (ruH σ) (σ.2 5)) j (jmax (fst j (ruH σ) (σ.2 5) j - 1) 0) = fst (j + 1) (ruH σ) (σ.2 5)
          refine fst_upd ?_
          rw [fst_at]
          rfl
        · by_cases h2 : k = 2
          · subst h2; rfl
          · by_cases h3 : k = 3
            · subst h3; rfl
            · simp only [setR, rui, h5, h2, h3, if_false]
      rw [es]
      exact ih (j + 1) κ' (by omega) hk
    have g1 : (rui lim σ j).2 3 j = σ.2 3 j := (fst_at : fst j (ruG lim σ) (σ.2 3) j = _)
    have g2 : (rui lim σ j).2 4 j = σ.2 4 j := rfl
    have skip : ruB lim σ j = false → J g mX0_pass (d + 4) hs P 133 [(0, .ref c), (2, .ref s), (3, .int lim), (4, .int (nI j))] [] (wk h s c (rui lim σ j) κ') := by
      intro hb
      refine k133 _ _ ?_ ?_
      · rw [show ruN lim σ (j + 1) = ruN lim σ j from by simp [ruN, sumN, hb, bI]]
        exact hk
      · refine setR_ext rfl (fun k => ?_)
        by_cases h2 : k = 2
        · subst h2
          show fst j (ruC lim σ) (σ.2 2) = fst (j + 1) (ruC lim σ) (σ.2 2)
          exact (fst_skip (by simp [ruC, hb])).symm
        · by_cases h3 : k = 3
          · subst h3
            show fst j (ruG lim σ) (σ.2 3) = fst (j + 1) (ruG lim σ) (σ.2 3)
            exact (fst_skip (by simp [ruG, hb])).symm
          · simp only [setR, h2, h3, if_false]
    refine bX0_pass_80 ⟨_, (HS _ _).1, _, rfl, fun q => ⟨fun q2 => ?_, fun q2 => absurd (nI_lt (a := j) (b := 7) (by omega) (by decide)) q2⟩, fun q => ?_⟩
    · refine ⟨_, (HS _ _).1, _, rfl, _, _, (HS _ _).2.2.2.2.1, v1, fun q3 => ⟨_, (HS _ _).1, _, rfl, _, _, (HS _ _).2.2.2.2.2.1, v1, fun q4 => ?_, fun q4 => ?_⟩, fun q3 => ?_⟩
      · rw [hix, g1] at q3
        rw [hix, g2] at q4
        have hb : ruB lim σ j = true := by simp [ruB, q3, q4]
        have hr := c_ruin (g := g) (d := d + 1) (h := wk h s c (rui lim σ j) κ') (a := s) (i := nI j) (sok_like (τ := rui lim σ j) rfl S0)
        simp only [wk_sput hd] at hr
        refine ⟨_, (HS _ _).1, hr.pv (fun h' q => ?_) (fun E h' f => f.elim)⟩
        subst q
        refine ⟨_, wk_k0, _, rfl, _, wk_k0, Nat.le_of_ble_eq_true rfl, fun h1 q1 => ?_⟩
        replace q1 := q1.trans (wk_ruined _)
        rw [q1]
        have e3 : κ'.1 1 = ruN lim σ j := by rw [hk.1]; simp [kI]
        refine k133 _ _ ?_ ?_
        · rw [e3]
          have := kgar_I hk 1 (ruN lim σ j + 1)
          rw [kI_kI] at this
          rw [show ruN lim σ (j + 1) = ruN lim σ j + 1 from by simp [ruN, sumN, hb, bI]]
          exact this
        · have hh : sHas (rui lim σ j) (nI j) = true := by
            simp only [sHas, decide_eq_true_eq]
            exact ⟨nI_pos (by omega), q⟩
          rw [sRuin, if_pos hh]
          refine setR_ext rfl (fun k => ?_)
          rw [show ix (nI j) = j from hix]
          by_cases h2 : k = 2
          · subst h2
            show upd (fst j (ruC lim σ) (σ.2 2)) j 0 = fst (j + 1) (ruC lim σ) (σ.2 2)
            exact fst_upd (by simp [ruC, hb])
          · by_cases h3 : k = 3
            · subst h3
              show upd (fst j (ruG lim σ) (σ.2 3)) j 1 = fst (j + 1) (ruG lim σ) (σ.2 3)
              exact fst_upd (by simp [ruG, hb])
            · simp only [setR, h2, h3, if_false]
      · rw [hix, g2] at q4
        exact skip (by simp only [ruB, decide_eq_false_iff_not]; exact fun e => q4 e.2)
      · rw [hix, g1] at q3
        exact skip (by simp only [ruB, decide_eq_false_iff_not]; exact fun e => q3 e.1)
    · rw [show (rui lim σ j).1 0 = nI (sN σ) from s1] at q
      exact absurd (nI_lt (by omega) (by omega)) q
theorem c_pass (S : sok σ) (hd : apart s 7 c 8) (H : TAt h t T) (f1 : TFar t T s 7) (f2 : TFar t T c 8) : Con g mX0_pass (d + 5) [.ref c, .ref t, .ref s, .int lim] (wk h s c σ κ) (jPv (fun h' => ∃ κ', kgar (kpas T lim σ κ) κ' ∧ h' = wk h s c (pas T lim σ) κ') no2) := by
  have HS := fun (τ : St) (κ : Ks) => wk_S (h := h) (σ := τ) (κ := κ) hd
  refine con_of km_X0_pass.1.2.2.2.2 (Nat.le_of_ble_eq_true rfl) rfl (bX0_pass_0 ⟨_, wk_k0, (c_settle S hd H f1 f2).pv (fun h' q => ?_) (fun E h' f => f.elim)⟩)
  obtain ⟨κ1, k1, rfl⟩ := q
  have S1 : sok (stl T σ (sN σ)) := sok_like stl_1 S
  have e0 : grw T (stl T σ (sN σ)) 0 = stl T σ (sN σ) := setR_ext rfl (fun k => by
    by_cases h4 : k = 4
    · subst h4
      exact (fst_0 : fst 0 (gwD T (stl T σ (sN σ))) ((stl T σ (sN σ)).2 4) = _)
    · simp only [grw, setR, h4, if_false])
  have := pass_grow (g := g) (d := d + 1) (hs := wk h s c σ κ) (P := (jPv (fun h' => ∃ κ', kgar (kpas T lim σ κ) κ' ∧ h' = wk h s c (pas T lim σ) κ') no2)) (κ := κ1) (x3 := lim) S1 hd H f1 f2 ?_ (sN σ) 0 κ1 (Nat.zero_add _).symm (ksim_rf _)
  · rw [e0] at this
    exact this
  · intro κ2 k2
    have S2 : sok (pas1 T σ) := sok_like rfl S
    refine bX0_pass_66 ⟨_, wk_k0, (c_move S2 hd H f1 f2).pv (fun h' q => ?_) (fun E h' f => f.elim)⟩
    obtain ⟨κ3, k3, rfl⟩ := q
    refine ⟨_, wk_k0, Nat.le_of_ble_eq_true rfl, fun h1 q1 => ?_⟩
    replace q1 := q1.trans (wk_ruined _)
    rw [q1]
    have S3 : sok (pas2 T σ) := sok_like rfl S
    have e1 : rui lim (pas2 T σ) 0 = pas2 T σ := setR_ext rfl (fun k => by
      by_cases h5 : k = 5
      · subst h5
        exact (fst_0 : fst 0 (ruH (pas2 T σ)) ((pas2 T σ).2 5) = _)
      · by_cases h2 : k = 2
        · subst h2
          exact (fst_0 : fst 0 (ruC lim (pas2 T σ)) ((pas2 T σ).2 2) = _)
        · by_cases h3 : k = 3
          · subst h3
            exact (fst_0 : fst 0 (ruG lim (pas2 T σ)) ((pas2 T σ).2 3) = _)
          · simp only [rui, setR, h5, h2, h3, if_false])
    have kk : kgar (kI (kR κ 0 (pasCame T σ)) 0 (pasPaid T σ)) κ3 := by
      have := (kgar_R (k1.tr k2).gar 0 (pasCame T σ) rfl).tr k3
      exact this
    have := pass_ruin (g := g) (d := d + 1) (h := h) (hs := wk h s c σ κ) (P := (jPv (fun h' => ∃ κ', kgar (kpas T lim σ κ) κ' ∧ h' = wk h s c (pas T lim σ) κ') no2)) (lim := lim) S3 hd (κ0 := kI (kR κ 0 (pasCame T σ)) 0 (pasPaid T σ)) ?_ (sN σ) 0 (kI κ3 1 0) (Nat.zero_add _).symm (kgar_I kk 1 0)
    · rw [e1] at this
      exact this
    · intro κ4 k4
      refine bX0_pass_159 ⟨_, (HS _ _).1, _, rfl, _, (HS _ _).1, Nat.le_of_ble_eq_true rfl, fun h1 q1 => ?_⟩
      replace q1 := q1.trans (wk_setI hd (k := 2) (by decide) _)
      exact ⟨κ4, k4, q1⟩
end PAS
