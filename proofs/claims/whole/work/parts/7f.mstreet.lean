/-! The reference reads a street -/
def abZ (ring : Int32) : Ab := ((ring, 0, 100), (none, none, none), (fun _ => 0, fun _ _ => 0))
abbrev sq (μ ν : MW) : Prop := dif [4, 6, 7, 8, 9, 10, 11, 12, 13, 14, 15, 16, 17, 18] [1, 2] μ ν
/-- what a street read leaves -/
def SX (K N : Nat → Int32) (b : Nat → Int32) (e : Nat) (μ : MW) (a : Pr Ab) (r : Int32) (ν : MW) : Prop := sq μ ν ∧ (ν.1 4 = 0 ∧ ν.1 6 = 0) ∧ match a with
  | .inl x => (r = -10 - (if K x.2 = 1 then 1 else x.1)) ∧ (ν.1 14 = (if K x.2 = 1 then 1 else x.1) ∧ ν.1 15 = nI (tkS b e x.2)) ∧ kn ν = kn μ
  | .inr x => (r = x.1.1.2.1) ∧ (ν.1 14 = 0 ∧ ν.1 15 = -1) ∧ ∃ G, tlA G x.1 ∧ ∀ z, kn ν z = if 52 ≤ z ∧ z < 96 then G (z - 44) else if z < 3240 then G z else kn μ z
section MST
variable {g : jG} {d : Nat} {h hs : jH} {m : Nat} {μ ν : MW} {i w : Int32} {b : Nat → Int32} {e n p L : Nat} {K N : Nat → Int32} {G G' : Nat → Int32} {A : Ab}
theorem pe.sq (x : pe μ ν) : sq μ ν := x.up (by decide) (by decide)
theorem tl_beg {ring : Int32} (e0 : ∀ x, x < 3240 → ¬ x = 2 → ¬ x = 3 → G x = 0) (e2 : G 2 = ring) (e3 : G 3 = 100) : tlA G (abZ ring) :=
  ⟨⟨⟨e0 0 (by decide) (by decide) (by decide), e2⟩, e3, e0 7 (by decide) (by decide) (by decide)⟩, ⟨⟨e0 1 (by decide) (by decide) (by decide), e0 50 (by decide) (by decide) (by decide), e0 51 (by decide) (by decide) (by decide), fun r i hr hi => e0 _ (by omega) (by omega) (by omega)⟩, ⟨0, Nat.zero_le _, rfl⟩, fun _ _ _ => rfl⟩, e0 4 (by decide) (by decide) (by decide), e0 5 (by decide) (by decide) (by decide), e0 6 (by decide) (by decide) (by decide)⟩
theorem row_beg {ring : Int32} : abRow (abZ ring) = abBeg ring := rfl
/-! it is kept -/
theorem str_211 {P : jO → jH → Prop} (next : ∀ F, (∀ z, F z = if 52 ≤ z ∧ z < 96 then kn μ (z - 44) else kn μ z) → P (.inl (some (.int (F 0)))) (mw h m (mA μ 1 F))) : J g mX12_street (d + 1) hs P 211 [(0, .ref m), (2, .int 0)] [] (mw h m μ) := by
  have loop : ∀ r j F, j + r = 44 → (∀ z, F z = if 52 ≤ z ∧ z < 52 + j then kn μ (z - 44) else kn μ z) → J g mX12_street (d + 1) hs P 211 [(0, .ref m), (2, .int (nI j))] [] (mw h m (mA μ 1 F)) := by
    intro r
    induction r with
    | zero =>
      intro j F hj hF
      have : j = 44 := by omega
      subst this
      exact wX12_street_211 ⟨fun f => absurd f (nI_nlt (a := 44) (b := 44) (by omega) (by omega)), fun _ => next F hF⟩
    | succ r ih =>
      intro j F hj hF
      refine wX12_street_211 ⟨fun _ => ⟨kin (b := 8) (by omega), kin (b := 52) (by omega), ?_⟩, fun f => absurd (nI_lt (b := 44) (by omega) (by omega)) f⟩
      rw [show ix ((8 : Int32) + nI j) = 8 + j from kx (b := 8) (by omega), show ix ((52 : Int32) + nI j) = 52 + j from kx (b := 52) (by omega), mA_mA, nI_1]
      refine ih (j + 1) _ (by omega) (fun z => ?_)
      show upd F (52 + j) (F (8 + j)) z = _
      unfold upd
      by_cases c : z = 52 + j
      · rw [if_pos c, if_pos (by omega), hF, if_neg (by omega), c, show 52 + j - 44 = 8 + j by omega]
      · rw [if_neg c, hF]
        by_cases c2 : 52 ≤ z ∧ z < 52 + j
        · rw [if_pos c2, if_pos (by omega)]
        · rw [if_neg c2, if_neg (by omega)]
  have z := loop 44 0 (kn μ) rfl (fun z => by rw [if_neg (by omega)])
  rw [mA_kn] at z
  exact z
theorem str_184 {P : jO → jH → Prop} (next : ∀ F, (∀ z, F z = if z < 3240 then μ.2.1 2 z else kn μ z) → J g mX12_street (d + 1) hs P 211 [(0, .ref m), (2, .int 0)] [] (mw h m (mA μ 1 F))) : J g mX12_street (d + 1) hs P 184 [(0, .ref m), (2, .int 0)] [] (mw h m μ) := by
  have loop : ∀ r j F, j + r = 3240 → (∀ z, F z = if z < j then μ.2.1 2 z else kn μ z) → J g mX12_street (d + 1) hs P 184 [(0, .ref m), (2, .int (nI j))] [] (mw h m (mA μ 1 F)) := by
    intro r
    induction r with
    | zero =>
      intro j F hj hF
      have : j = 3240 := by omega
      subst this
      exact wX12_street_184 ⟨fun f => absurd f (nI_nlt (a := 3240) (b := 3240) (by omega) (by omega)), fun _ => next F hF⟩
    | succ r ih =>
      intro j F hj hF
      refine wX12_street_184 ⟨fun _ => ⟨mk3240 (by omega), mk3240 (by omega), ?_⟩, fun f => absurd (nI_lt (b := 3240) (by omega) (by omega)) f⟩
      rw [ix_nI (by omega), mA_mA, nI_1]
      refine ih (j + 1) _ (by omega) (fun z => ?_)
      show upd F j (μ.2.1 2 j) z = _
      unfold upd
      by_cases c : z = j
      · rw [if_pos c, if_pos (by omega), c]
      · rw [if_neg c, hF]
        by_cases c2 : z < j
        · rw [if_pos c2, if_pos (by omega)]
        · rw [if_neg c2, if_neg (by omega)]
  have z := loop 3240 0 (kn μ) rfl (fun z => by rw [if_neg (by omega)])
  rw [mA_kn] at z
  exact z
theorem str_bad {P : jO → jH → Prop} {x : Int32 × Nat} (fin : ∀ r ν, SX K N b e μ (.inl x) r ν → P (.inl (some (.int r))) (mw h m ν)) (q : sq μ ν) (q1 : kn ν = kn μ) (q4 : ν.1 4 = 0 ∧ ν.1 6 = 0) (B : Bd K b e ν x.1 x.2) : J g mX12_street (d + 1) hs P 140 [(0, .ref m)] [] (mw h m ν) := by
  have ne := B.ne
  refine wX12_street_140 ⟨fun f => absurd (show ν.1 12 = 0 from f) ne, fun _ => wX12_street_164 ⟨fun f => absurd (show ν.1 12 = 0 from f) ne, fun _ => fin _ (mI (mI ν 14 (ν.1 12)) 15 (ν.1 13)) ⟨dif.tr q (dif.tr (dif_I (k := 14) (by decide) _) (dif_I (k := 15) (by decide) _)), q4, ?_, ⟨B.1.1, B.2⟩, q1⟩⟩⟩
  show -10 - ν.1 12 = _
  rw [B.1.1]
theorem str_ok {P : jO → jH → Prop} {q : Nat} (fin : ∀ r ν, SX K N b e μ (.inr (A, q)) r ν → P (.inl (some (.int r))) (mw h m ν)) (qs : sq μ ν) (q1 : kn ν = kn μ) (q4 : ν.1 4 = 0 ∧ ν.1 6 = 0) (a : atP K N b e ν p) (x : tlA (ν.2.1 2) A) : J g mX12_street (d + 1) hs P 140 [(0, .ref m)] [] (mw h m ν) := by
  have z12 := a.2.2.2
  refine wX12_street_140 ⟨fun _ => wX12_street_164 ⟨fun _ => str_184 (fun F hF => str_211 (fun F2 hF2 => ?_)), fun f => absurd (show ν.1 12 = 0 from z12) f⟩, fun f => absurd (show ν.1 12 = 0 from z12) f⟩
  have e1 : ∀ z, kn (mA (mI (mI ν 14 (ν.1 12)) 15 (-1)) 1 F) z = F z := fun z => rfl
  rw [mA_mA]
  refine fin _ _ ⟨dif.tr qs (dif.tr (dif_I (k := 14) (by decide) _) (dif.tr (dif_I (k := 15) (by decide) _) (dif_A (j := 1) (by decide) _))), q4, ?_, ⟨z12, rfl⟩, ν.2.1 2, x, fun z => ?_⟩
  · have e2 : F2 0 = F 0 := by rw [hF2 0, if_neg (by omega)]; rfl
    rw [e2, hF 0, if_pos (by decide)]
    exact x.1.1.1
  · show F2 z = _
    rw [hF2 z, e1, e1]
    by_cases c : 52 ≤ z ∧ z < 96
    · rw [if_pos c, if_pos c, hF, if_pos (by omega)]
      rfl
    · rw [if_neg c, if_neg c, hF]
      by_cases c2 : z < 3240
      · rw [if_pos c2, if_pos c2]; rfl
      · rw [if_neg c2, if_neg c2, ← q1]; rfl
theorem rest_go (f q : Nat) : aRest K N (f + 1) A q = if K q = 0 then .inr (A, q) else pgo (pgo (aLine K N A (abN A) q) (fun A' q => if K q = 59 then (.inr (abRow A', q + 1) : Pr Ab) else .inl (2, q))) (fun A' q => aRest K N f A' q) := by
  show (if K q = 0 then .inr (A, q) else pgo (aLine K N A (abN A) q) (fun A' q => if K q = 59 then aRest K N f (abRow A') (q + 1) else .inl (2, q))) = _
  by_cases c : K q = 0
  · rw [if_pos c, if_pos c]
  · rw [if_neg c, if_neg c]
    cases aLine K N A (abN A) q with
    | inl x => rfl
    | inr x =>
      show (if K x.2 = 59 then aRest K N f (abRow x.1) (x.2 + 1) else .inl (2, x.2)) = pgo (if K x.2 = 59 then (.inr (abRow x.1, x.2 + 1) : Pr Ab) else .inl (2, x.2)) (fun A' q => aRest K N f A' q)
      by_cases c2 : K x.2 = 59
      · rw [if_pos c2, if_pos c2]; rfl
      · rw [if_neg c2, if_neg c2]; rfl
theorem str_119 {P : jO → jH → Prop} (X : TT K N n b e) : ∀ f q A ν, (∀ r ν, SX K N b e μ (aRest K N f A q) r ν → P (.inl (some (.int r))) (mw h m ν)) → n ≤ q + f → q < n → tape ν b e → atP K N b e ν q → tlA (ν.2.1 2) A → ν.1 16 = 0 → sq μ ν → kn ν = kn μ → (ν.1 4 = 0 ∧ ν.1 6 = 0) → J g mX12_street (d + 33) hs P 119 [(0, .ref m)] [] (mw h m ν) := by
  intro f
  induction f with
  | zero => intro q A ν _ h1 h2; omega
  | succ f ih =>
    intro q A ν fin h1 h2 t a x e16 qs q1 q4
    have z12 := a.2.2.2
    have z10 : ν.1 10 = 0 ↔ K q = 0 := by
      rw [a.2.1]
      exact mtk_s (by decide) (by decide) (by decide)
    rw [rest_go] at fin
    refine wX12_street_119 ⟨fun _ => ⟨fun f0 => ?_, fun f0 => ?_⟩, fun z => absurd z12 z⟩
    · rw [if_pos (z10.mp f0)] at fin
      exact str_ok fin qs q1 q4 a x
    · rw [if_neg (fun z => f0 (z10.mpr z))] at fin
      refine ⟨_, m_readLine (d := d) t X h2 a x e16, fun ν2 H => ?_⟩
      obtain ⟨y1, y2⟩ := H
      have k2 : kn ν2 = kn μ := (y1.2.2 1 (by decide)).trans q1
      have q5 : ν2.1 4 = 0 ∧ ν2.1 6 = 0 := ⟨(y1.1 4 (by decide)).trans q4.1, (y1.1 6 (by decide)).trans q4.2⟩
      generalize pgo (aLine K N A (abN A) q) (fun A' q => if K q = 59 then (.inr (abRow A', q + 1) : Pr Ab) else .inl (2, q)) = B at y2 fin
      cases B with
      | inl z =>
        have y2 : Bd K b e ν2 z.1 z.2 := y2
        exact wX12_street_119 ⟨fun f => absurd f y2.ne, fun _ => str_bad fin (dif.tr qs y1.sq) k2 q5 y2⟩
      | inr z =>
        obtain ⟨⟨y3, ⟨y4, y5⟩, y6⟩, y7⟩ := y2
        exact ih z.2 z.1 ν2 fin (by omega) y5 (pe.ta y1 t) y3 y7 y6 (dif.tr qs y1.sq) k2 q5
theorem str_52 {P : jO → jH → Prop} (next : ∀ F, (∀ z, z < 3240 → F z = 0) → J g mX12_street (d + 1) hs P 52 [(0, .ref m), (2, .int (nI 3240))] [] (mw h m (mA μ 2 F))) : J g mX12_street (d + 1) hs P 52 [(0, .ref m), (2, .int 0)] [] (mw h m μ) := by
  have loop : ∀ r j F, j + r = 3240 → (∀ z, z < j → F z = 0) → J g mX12_street (d + 1) hs P 52 [(0, .ref m), (2, .int (nI j))] [] (mw h m (mA μ 2 F)) := by
    intro r
    induction r with
    | zero =>
      intro j F hj hF
      have : j = 3240 := by omega
      subst this
      exact next F hF
    | succ r ih =>
      intro j F hj hF
      refine wX12_street_52 ⟨fun _ => ⟨mk3240 (by omega), ?_⟩, fun f => absurd (nI_lt (b := 3240) (by omega) (by omega)) f⟩
      rw [ix_nI (by omega), mA_mA, nI_1]
      refine ih (j + 1) _ (by omega) (fun z hz => ?_)
      show upd F j 0 z = 0
      unfold upd
      by_cases c : z = j
      · rw [if_pos c]
      · rw [if_neg c]; exact hF z (by omega)
  have z := loop 3240 0 (μ.2.1 2) rfl (fun z hz => absurd hz (Nat.not_lt_zero z))
  rw [mA_self] at z
  exact z
theorem wst : wcode 17 = 135 ∧ wcode 18 = 136 ∧ wcode 19 = 137 := by decide
theorem m_street (B : byt b) (tb : ∀ j, j < L → μ.2.1 5 j = b j &&& 255) (hL : L ≤ 900) (e6 : μ.1 6 = nI L) {x1 : Int32} (X : inN x1 0 (nI L) = true → TT K N n b (ix x1)) : Con g mX12_street (d + 33) [.ref m, .int x1] (mw h m μ) (wPi h m (fun r ν => (inN x1 0 (nI L) = false ∧ r = 0 ∧ ν = mI (mI μ 4 0) 4 1) ∨ (inN x1 0 (nI L) = true ∧ SX K N b (ix x1) μ (aRead K N) r ν))) := by
  obtain ⟨w17, w18, w19⟩ := wst
  have eL : inL x1.toInt64 0 (nI L).toInt64 = inN x1 0 (nI L) := inL_n (a := 0) (b := nI L) rfl rfl
  refine con_of km_X12_street.1.2.2.2.2 (Nat.le_of_ble_eq_true rfl) rfl (wX12_street_0 ?_)
  rw [show (mI μ 4 0).1 6 = nI L from e6]
  refine ⟨_, m_within (d := d + 31), fun c => ?_, fun c => ?_⟩
  · rw [eL] at c
    refine ⟨_, m_fails (d := d + 31), fun r ν q => ⟨_, Or.inl ⟨bI0 c, q.1, q.2⟩, rfl⟩⟩
  · rw [eL] at c
    have c := bI1 c
    have X := X c
    have h9 := X.1.1.2
    obtain ⟨ex, -, ie⟩ := inN_nI (a := 0) (b := L) (by decide) (by omega) c
    have fin : ∀ r ν, SX K N b (ix x1) μ (aRead K N) r ν → wPi h m (fun r ν => (inN x1 0 (nI L) = false ∧ r = 0 ∧ ν = mI (mI μ 4 0) 4 1) ∨ (inN x1 0 (nI L) = true ∧ SX K N b (ix x1) μ (aRead K N) r ν)) (.inl (some (.int r))) (mw h m ν) := fun r ν z => ⟨ν, Or.inr ⟨c, z⟩, rfl⟩
    generalize hP : wPi h m (fun r ν => (inN x1 0 (nI L) = false ∧ r = 0 ∧ ν = mI (mI μ 4 0) 4 1) ∨ (inN x1 0 (nI L) = true ∧ SX K N b (ix x1) μ (aRead K N) r ν)) = P at fin ⊢
    refine str_52 (d := d + 32) (fun F0 hF0 => ?_)
    refine wX12_street_52 ⟨fun f => absurd f (nI_nlt (a := 3240) (b := 3240) (by omega) (by omega)), fun _ => ?_⟩
    rw [mA_mA]
    -- the world as reading begins
    generalize hM : mA (mI (mI (mI (mI (mI (mI μ 4 0) 7 x1) 6 0) 8 0) 12 0) 16 0) 2 (upd ((mA (mI (mI (mI (mI (mI (mI μ 4 0) 7 x1) 6 0) 8 0) 12 0) 16 0) 2 F0).2.1 2) 3 100) = μ1
    have s1 : sq μ μ1 := by
      rw [← hM]
      exact dif.tr (dif_I (k := 4) (by decide) _) (dif.tr (dif_I (k := 7) (by decide) _) (dif.tr (dif_I (k := 6) (by decide) _) (dif.tr (dif_I (k := 8) (by decide) _) (dif.tr (dif_I (k := 12) (by decide) _) (dif.tr (dif_I (k := 16) (by decide) _) (dif_A (j := 2) (by decide) _))))))
    have k1 : kn μ1 = kn μ := by rw [← hM]; rfl
    have e4 : μ1.1 4 = 0 ∧ μ1.1 6 = 0 := by rw [← hM]; exact ⟨rfl, rfl⟩
    have t1 : tape μ1 b (ix x1) := by
      rw [← hM]
      exact ⟨⟨ex, by omega⟩, B, fun j hj => tb j (by omega)⟩
    have e8 : μ1.1 8 = 0 := by rw [← hM]; rfl
    have e12 : μ1.1 12 = 0 := by rw [← hM]; rfl
    have e16 : μ1.1 16 = 0 := by rw [← hM]; rfl
    have g2 : μ1.2.1 2 = upd F0 3 100 := by rw [← hM]; rfl
    have keep : ∀ {ν}, pe μ1 ν → sq μ ν ∧ kn ν = kn μ ∧ (ν.1 4 = 0 ∧ ν.1 6 = 0) := fun z => ⟨dif.tr s1 z.sq, (z.2.2 1 (by decide)).trans k1, (z.1 4 (by decide)).trans e4.1, (z.1 6 (by decide)).trans e4.2⟩
    have out : ∀ {x : Int32 × Nat} {ν}, aRead K N = .inl x → pe μ1 ν → Bd K b (ix x1) ν x.1 x.2 → J g mX12_street (d + 33) (mw h m μ) P 119 [(0, .ref m)] [] (mw h m ν) := fun ha z y => by
      obtain ⟨a1, a2, a3⟩ := keep z
      exact wX12_street_119 ⟨fun f => absurd f y.ne, fun _ => str_bad (d := d + 32) (fun r ν z => fin r ν (by rw [ha]; exact z)) a1 a2 a3 y⟩
    have out2 : ∀ {x : Int32 × Nat} {ν}, aRead K N = .inl x → pe μ1 ν → Bd K b (ix x1) ν x.1 x.2 → J g mX12_street (d + 33) (mw h m μ) P 115 [(0, .ref m)] [] (mw h m ν) := fun ha z y =>
      wX12_street_115 ⟨_, m_readStop_b (d := d + 28) y.ne, fun ν2 z2 => by
        subst z2
        exact out ha z y⟩
    -- the header's end
    have head : ∀ {ring : Int32} {ν}, K 0 = 135 → (K 1 = 136 ∨ K 1 = 137) → ring = (if K 1 = 136 then 1 else 0) → pe μ1 ν → 2 < n → atP K N b (ix x1) ν 2 → ν.1 16 = 0 → tlA (ν.2.1 2) (abZ ring) → J g mX12_street (d + 33) (mw h m μ) P 115 [(0, .ref m)] [] (mw h m ν) := by
      intro ring ν c0 c1 hr z h2 a y16 x
      refine wX12_street_115 ⟨_, m_readStop (d := d + 28) (pe.ta z t1) X h2 a, fun ν2 z2 => ?_⟩
      obtain ⟨z3, z4⟩ := z2
      rcases z4 with ⟨c2, y2, y3, y4, y5⟩ | ⟨c2, y2⟩
      · have ea : aRead K N = aRest K N 900 (abBeg ring) 3 := by
          unfold aRead
          rw [if_pos c0, if_pos c1, if_pos c2, hr]
        obtain ⟨a1, a2, a3⟩ := keep (dif.tr z z3)
        have tl := tl_row x
        rw [row_beg] at tl
        exact str_119 (d := d) X 900 3 (abBeg ring) ν2 (fun r ν z => fin r ν (by rw [ea]; exact z)) (by omega) y2 (pe.ta (dif.tr z z3) t1) y3 (by rw [y5]; exact tl) (y4.trans y16) a1 a2 a3
      · have ea : aRead K N = .inl (2, 2) := by
          unfold aRead
          rw [if_pos c0, if_pos c1, if_neg c2]
        exact out ea (dif.tr z z3) y2
    refine ⟨_, m_first (d := d + 30) t1 X e8 e12, fun ν2 z2 => ?_⟩
    refine ⟨_, m_mustWord (d := d + 25) (k := 17) (pd.ta z2.1.dd t1) X X.1.1.1 z2.2 (by decide) (by decide), fun ν3 z3 => ?_⟩
    rw [w17] at z3
    obtain ⟨y1, y2⟩ := z3
    have p3 : pe μ1 ν3 := dif.tr z2.1.dd.ee y1.dd.ee
    rcases y2 with ⟨c0, y3, y4⟩ | ⟨c0, y3⟩
    · have g3 : ν3.2.1 2 = upd F0 3 100 := (y1.2.2 2 (by decide)).trans ((z2.1.2.2 2 (by decide)).trans g2)
      have u3 : ∀ z, z < 3240 → ¬ z = 2 → ¬ z = 3 → upd F0 3 100 z = 0 := fun z hz _ h3 => (if_neg h3).trans (hF0 z hz)
      have d16 : ν3.1 16 = 0 := (y1.1 16 (by decide)).trans ((z2.1.1 16 (by decide)).trans e16)
      refine ⟨_, m_took (d := d + 26) (k := 18) (pe.ta p3 t1) X y3 y4 (by decide) (by decide), fun r ν4 z4 => ?_⟩
      rw [w18] at z4
      rcases z4 with ⟨c1, x1', x2, x3, x4⟩ | ⟨c1, x1', x2⟩
      · subst x1'
        refine ⟨fun f => absurd f (by decide), fun _ => ?_⟩
        refine head (ring := 1) c0 (Or.inl c1) (if_pos c1).symm (dif.tr p3 (dif.tr x2.dd.ee (dif_A (j := 2) (by decide) _))) x3 x4 ((x2.1 16 (by decide)).trans d16) ?_
        show tlA (upd (ν4.2.1 2) 2 1) _
        rw [x2.2.2 2 (by decide), g3]
        exact tl_beg (fun z hz h2 h3 => (if_neg h2).trans (u3 z hz h2 h3)) (if_pos rfl) ((if_neg (by decide)).trans (if_pos rfl))
      · subst x1'
        obtain rfl := x2.symm
        refine ⟨fun _ => ⟨_, m_mustWord (d := d + 25) (k := 19) (pe.ta p3 t1) X y3 y4 (by decide) (by decide), fun ν5 z5 => ?_⟩, fun f => absurd rfl f⟩
        rw [w19] at z5
        obtain ⟨v1, v2⟩ := z5
        rcases v2 with ⟨c2, v3, v4⟩ | ⟨c2, v3⟩
        · refine head (ring := 0) c0 (Or.inr c2) (if_neg c1).symm (dif.tr p3 v1.dd.ee) v3 v4 ((v1.1 16 (by decide)).trans d16) ?_
          rw [v1.2.2 2 (by decide), g3]
          exact tl_beg u3 ((if_neg (by decide)).trans (hF0 2 (by decide))) (if_pos rfl)
        · have ea : aRead K N = .inl (2, 1) := by
            unfold aRead
            rw [if_pos c0, if_neg (fun z => z.elim c1 c2)]
          exact out2 ea (dif.tr p3 v1.dd.ee) v3
    · have ea : aRead K N = .inl (2, 0) := by
        unfold aRead
        rw [if_neg c0]
      refine ⟨_, m_took_b (d := d + 26) (by decide) y3.ne, fun r ν4 z4 => ?_⟩
      obtain ⟨rfl, rfl⟩ := z4
      refine ⟨fun _ => ⟨_, m_mustWord_b (d := d + 25) (by decide) y3.ne, fun ν5 z5 => ?_⟩, fun f => absurd rfl f⟩
      subst z5
      exact out2 ea p3 y3
end MST
