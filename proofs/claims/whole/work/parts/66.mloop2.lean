/-! The reference's quarter: what goes next door -/
section ML2
variable {g : jG} {d : Nat} {h hs : jH} {m : Nat} {μ ν : MW} {i k n : Int32} {T : Td} {σ τ : St}
theorem τ1_N : τ1 T σ (sN σ) = pas1 T σ := by
  have e4 : fst (sN σ) (D1 T σ) (σ.2 4) = D1 T σ := by
    funext i
    unfold fst
    by_cases h : i < sN σ
    · rw [if_pos h]
    · rw [if_neg h]
      show σ.2 4 i = fst (sN σ) (gwD T (stl T σ (sN σ))) (fst (sN σ) (stDebt T σ) (σ.2 4)) i
      unfold fst
      rw [if_neg h, if_neg h]
  unfold τ1
  rw [e4]
  refine Prod.ext rfl (funext fun q => ?_)
  show (if q = 4 then D1 T σ else if q = 2 then fst (sN σ) (stCash T σ) (σ.2 2) else σ.2 q) = (if q = 4 then fst (sN σ) (gwD T (stl T σ (sN σ))) ((stl T σ (sN σ)).2 4) else if q = 4 then fst (sN σ) (stDebt T σ) (σ.2 4) else if q = 2 then fst (sN σ) (stCash T σ) (σ.2 2) else σ.2 q)
  by_cases h4 : q = 4
  · rw [if_pos h4, if_pos h4]; rfl
  · rw [if_neg h4, if_neg h4, if_neg h4]
theorem goTo_c {j : Nat} (S : sok σ) (hj : j < sN σ) : (j + 1 < sN σ ∧ goTo T σ j = nI (j + 1)) ∨ (j + 1 = sN σ ∧ ((T.1.1 = 0 ∧ goTo T σ j = -1) ∨ (¬ T.1.1 = 0 ∧ goTo T σ j = nI 0))) := by
  unfold goTo nxt
  have h7 := S.2
  rw [S.1, nI_1]
  by_cases c : j + 1 < sN σ
  · exact Or.inl ⟨c, if_pos (nI_lt c (by omega))⟩
  · refine Or.inr ⟨by omega, ?_⟩
    rw [if_neg (nI_nlt (by omega) (by omega))]
    by_cases r : T.1.1 = 0
    · exact Or.inl ⟨r, if_pos r⟩
    · exact Or.inr ⟨r, if_neg r⟩
/-- what a house sends: whether it goes at all -/
def sent (T : Td) (σ : St) (j : Nat) : Bool := !hedgd T σ j && take T σ (nI j) (σ.2 4 j)
def sndS (T : Td) (σ τ : St) (j : Nat) : St := if sent T σ j = false then τ else if sHas σ (goTo T σ j) = true then setR τ 4 (upd (τ.2 4) j 0) else setI (setR τ 4 (upd (τ.2 4) j 0)) 1 (jmin 999999 (τ.1 1 + σ.2 4 j))
def sndG (T : Td) (σ : St) (G : Nat → Int32) (j : Nat) : Nat → Int32 := if sent T σ j = true ∧ sHas σ (goTo T σ j) = true then upd G (ix (goTo T σ j)) (σ.2 4 j) else G
theorem mS_set50 {f : Nat → Int32} {v : Int32} (hf : f = upd (kn (mS μ τ)) 50 v) : mA (mS μ τ) 1 f = mS μ (setI τ 1 v) := by
  rw [hf, mS_kn, kS_set50]
  unfold mS
  rw [mA_mA]
theorem sends_44 {j : Nat} (S : sok σ) (hj : j < sN σ) (e9 : ν.2.1 9 j = σ.2 4 j) (hsn : sent T σ j = true) {P : jO → jH → Prop} (next : P (.inl none) (mw h m (mA (mS ν (sndS T σ τ j)) 8 (sndG T σ (ν.2.1 8) j)))) :
    J g mX12_sends (d + 5) hs P 44 [(0, .ref m), (1, .int (nI j)), (2, .int (goTo T σ j))] [] (mw h m (mS ν τ)) := by
  have h7 := S.2
  have i36 : vp_in ((36 : Int32) + nI j) 3240 := kin (b := 36) (by omega)
  have hij : vp_in (nI j) 7 := vp_in_nI (by omega) (by decide)
  have hix : ix (nI j) = j := ix_nI (by omega)
  refine bX12_sends_44 ⟨_, mw_o, _, rfl, _, _, mw_1, i36, fun h1 p1 => ?_⟩
  replace p1 : h1 = mw h m (mS ν (setR τ 4 (upd (τ.2 4) j 0))) := p1.trans ((mw_p1 _).trans (congrArg (mw h m) (mS_set (b := 36) (r := 4) rfl (by decide) (by omega) (by omega) rfl)))
  subst p1
  refine ⟨fun q => ?_, fun q => ?_⟩
  · have hno : sHas σ (goTo T σ j) = false := by
      rw [q]
      exact decide_eq_false (fun c => c.1 (by decide))
    have eS : sndS T σ τ j = setI (setR τ 4 (upd (τ.2 4) j 0)) 1 (jmin 999999 (τ.1 1 + σ.2 4 j)) := by
      unfold sndS
      rw [if_neg (by rw [hsn]; decide), if_neg (by rw [hno]; decide)]
    have eG : sndG T σ (ν.2.1 8) j = ν.2.1 8 := by
      unfold sndG
      rw [if_neg (by rw [hno]; rintro ⟨_, c⟩; exact Bool.noConfusion c)]
    rw [eS, eG] at next
    refine ⟨_, mw_o, _, rfl, _, mw_o, _, rfl, _, _, mw_1, mk3240 (j := 50) (by decide), _, mw_o, _, rfl, _, _, mw_9, hij, ?_⟩
    refine m_capped.pi (fun r h' hr => ?_) (fun E h' f => f.elim)
    obtain ⟨hr, rfl⟩ := hr
    have er : jmin 999999 (kn (mS ν (setR τ 4 (upd (τ.2 4) j 0))) 50 + (mS ν (setR τ 4 (upd (τ.2 4) j 0))).2.1 9 (ix (nI j))) = jmin 999999 (τ.1 1 + σ.2 4 j) := by
      rw [hix]
      show jmin 999999 (τ.1 1 + ν.2.1 9 j) = _
      rw [e9]
    replace hr : r = jmin 999999 (τ.1 1 + σ.2 4 j) := hr.trans er
    subst hr
    refine ⟨_, _, mw_1, mk3240 (j := 50) (by decide), fun h1 p1 => ?_⟩
    replace p1 : h1 = mw h m (mS ν (setI (setR τ 4 (upd (τ.2 4) j 0)) 1 (jmin 999999 (τ.1 1 + σ.2 4 j)))) := p1.trans ((mw_p1 _).trans (congrArg (mw h m) (mS_set50 rfl)))
    subst p1
    rw [mS_A (by decide), mA_self] at next
    exact next
  · have hyes : sHas σ (goTo T σ j) = true ∧ ∃ t, t < sN σ ∧ goTo T σ j = nI t := by
      rcases goTo_c (T := T) S hj with ⟨c1, c2⟩ | ⟨c1, ⟨_, c2⟩ | ⟨_, c2⟩⟩
      · rw [c2]
        exact ⟨decide_eq_true ⟨nI_pos (by omega), by rw [S.1]; exact nI_lt c1 (by omega)⟩, j + 1, c1, rfl⟩
      · exact absurd c2 q
      · rw [c2]
        exact ⟨decide_eq_true ⟨nI_pos (by omega), by rw [S.1]; exact nI_lt (by omega) (by omega)⟩, 0, by omega, rfl⟩
    obtain ⟨hy, t, ht, et⟩ := hyes
    have eS : sndS T σ τ j = setR τ 4 (upd (τ.2 4) j 0) := by
      unfold sndS
      rw [if_neg (by rw [hsn]; decide), if_pos hy]
    have eG : sndG T σ (ν.2.1 8) j = upd (ν.2.1 8) t (σ.2 4 j) := by
      unfold sndG
      rw [if_pos ⟨hsn, hy⟩, et, ix_nI (by omega)]
    rw [eS, eG] at next
    have hit : vp_in (goTo T σ j) 7 := by rw [et]; exact vp_in_nI (by omega) (by decide)
    refine ⟨_, mw_o, _, rfl, _, mw_o, _, rfl, _, _, mw_9, hij, _, _, mw_8, hit, fun h1 p1 => ?_⟩
    replace p1 : h1 = mw h m (mA (mS ν (setR τ 4 (upd (τ.2 4) j 0))) 8 (upd (ν.2.1 8) (ix (goTo T σ j)) (ν.2.1 9 (ix (nI j))))) := p1.trans (mw_p8 _)
    rw [hix, e9, et, ix_nI (n := t) (by omega)] at p1
    subst p1
    exact next
theorem m_sends {j : Nat} (S : sok σ) (hj : j < sN σ) (E : encT (kn ν) T) (a0 : τ.1 0 = σ.1 0) (a2 : τ.1 2 = σ.1 2) (ac : τ.2 2 = σ.2 2) (ah : τ.2 5 = σ.2 5) (e9 : ∀ i, i < sN σ → ν.2.1 9 i = σ.2 4 i) :
    Con g mX12_sends (d + 5) [.ref m, .int (nI j)] (mw h m (mS ν τ)) (jPv (fun h' => ∃ ν', mscr ν ν' ∧ h' = mw h m (mA (mS ν' (sndS T σ τ j)) 8 (sndG T σ (ν.2.1 8) j))) no2) := by
  have h7 := S.2
  have hij : vp_in (nI j) 7 := vp_in_nI (by omega) (by decide)
  have hix : ix (nI j) = j := ix_nI (by omega)
  have ET : encT (kn (mS ν τ)) T := by rw [mS_kn]; exact encT_kS E
  have eg : goTo T σ j = nxt T (nI j) (nI (sN σ)) := by unfold goTo; rw [← S.1]
  have stay : sent T σ j = false → ∀ ν', mscr ν ν' → mw h m (mS ν' τ) = mw h m (mA (mS ν' (sndS T σ τ j)) 8 (sndG T σ (ν.2.1 8) j)) := by
    intro hs ν' s'
    have eS : sndS T σ τ j = τ := if_pos hs
    have eG : sndG T σ (ν.2.1 8) j = ν.2.1 8 := if_neg (by rw [hs]; rintro ⟨c, _⟩; exact Bool.noConfusion c)
    rw [eS, eG, mS_A (by decide), ← s'.2.2 8 (by decide) (by decide), mA_self]
  refine con_of km_X12_sends.1.2.2.2.2 (Nat.le_of_ble_eq_true rfl) rfl (bX12_sends_0 ⟨_, mw_o, ?_⟩)
  refine (m_next (d := d + 2) (μ := mS ν τ) (T := T) hj h7 (a0.trans S.1) ET.2.1).pi (fun r h' hr => ?_) (fun E h' f => f.elim)
  obtain ⟨hr, rfl⟩ := hr
  rw [← eg] at hr
  subst hr
  refine ⟨fun q => ?_, fun q => ?_⟩
  · have hno : sHas σ (goTo T σ j) = false := by
      rw [q]
      exact decide_eq_false (fun c => c.1 (by decide))
    have hsn : sent T σ j = true := by
      unfold sent hedgd take
      rw [hno]
      cases T.2.2.2.2 with
      | none => rfl
      | some f =>
        have : sHas σ (nxt T (nI j) (σ.1 0)) = false := hno
        show (!(false && _) && (if sHas σ (nxt T (nI j) (σ.1 0)) = false then true else _)) = true
        rw [if_pos this]
        rfl
    exact sends_44 S hj (e9 j hj) hsn ⟨ν, mscr.rf ν, rfl⟩
  · have hyes : sHas σ (goTo T σ j) = true ∧ ∃ t, t < sN σ ∧ goTo T σ j = nI t := by
      rcases goTo_c (T := T) S hj with ⟨c1, c2⟩ | ⟨c1, ⟨_, c2⟩ | ⟨_, c2⟩⟩
      · rw [c2]
        exact ⟨decide_eq_true ⟨nI_pos (by omega), by rw [S.1]; exact nI_lt c1 (by omega)⟩, j + 1, c1, rfl⟩
      · exact absurd c2 q
      · rw [c2]
        exact ⟨decide_eq_true ⟨nI_pos (by omega), by rw [S.1]; exact nI_lt (by omega) (by omega)⟩, 0, by omega, rfl⟩
    obtain ⟨hy, t, ht, et⟩ := hyes
    have hxt : ix (nI t) = t := ix_nI (by omega)
    have i43 : vp_in ((43 : Int32) + goTo T σ j) 3240 := by rw [et]; exact kin (b := 43) (by omega)
    have x43 : ix ((43 : Int32) + goTo T σ j) = 43 + t := by rw [et]; exact kx (b := 43) (by omega)
    have k43 : kn (mS ν τ) (ix ((43 : Int32) + goTo T σ j)) = σ.2 5 t := by rw [x43]; exact (kj (b := 43) (r := 5) rfl (by decide) (by omega)).trans (by rw [ah])
    have hit : vp_in (goTo T σ j) 7 := by rw [et]; exact vp_in_nI (by omega) (by decide)
    have ehd : hedgd T σ j = decide (0 < σ.2 5 t) := by
      unfold hedgd
      rw [hy, et, hxt, Bool.true_and]
    refine ⟨_, mw_o, _, rfl, _, _, mw_1, i43, fun q2 => ?_, fun q2 => ⟨_, mw_o, _, rfl, _, _, mw_9, hij, _, mw_o, _, rfl, _, _, mw_9, hit, _, mw_o, ?_⟩⟩
    · have q2' : 0 < kn (mS ν τ) (ix ((43 : Int32) + goTo T σ j)) := q2
      rw [k43] at q2'
      refine ⟨ν, mscr.rf ν, stay ?_ ν (mscr.rf ν)⟩
      unfold sent
      rw [ehd, decide_eq_true q2']
      rfl
    · have q2' : ¬ 0 < kn (mS ν τ) (ix ((43 : Int32) + goTo T σ j)) := q2
      rw [k43] at q2'
      have esn : sent T σ j = take T σ (nI j) (σ.2 4 j) := by
        unfold sent
        rw [ehd, decide_eq_false q2']
        rfl
      show Con g mX12_takesIt (d + 4) [.ref m, .int (goTo T σ j), .int (ν.2.1 9 (ix (nI j))), .int (ν.2.1 9 (ix (goTo T σ j)))] _ _
      rw [hix, e9 j hj]
      have hgo : nxt T (nI j) (σ.1 0) = nI t := et
      have C := m_takesIt (g := g) (d := d) (h := h) (m := m) (μ := mS ν τ) (T := T) (σ := σ) (N := 0) (j := j) (t := t) (b := σ.2 4 j) (w := ν.2.1 9 (ix (goTo T σ j))) (by omega) hgo (by rw [← et]; exact hy) a2 ((kj (b := 22) (r := 2) rfl (by decide) (by omega)).trans (by rw [ac])) (by rw [et, hxt]; exact e9 t ht) ET.2.2.2.2.2
      rw [← et] at C
      refine C.pi (fun r h' hr => ?_) (fun E h' f => f.elim)
      obtain ⟨rfl, μ', hs', rfl⟩ := hr
      obtain ⟨ν', s', rfl⟩ := mS_scr hs'
      refine ⟨fun q3 => ⟨ν', s', stay ?_ ν' s'⟩, fun q3 => ?_⟩
      · rw [esn]
        exact (bI_0 rfl).1.mp q3
      · refine sends_44 S hj ((congrFun (s'.2.2 9 (by decide) (by decide)) j).trans (e9 j hj)) (by rw [esn]; exact (bI_0 rfl).2.mp q3) ⟨ν', s', ?_⟩
        rw [s'.2.2 8 (by decide) (by decide)]
/-! the second loop -/
def τ2 (T : Td) (σ : St) (j : Nat) : St := setR (setI σ 1 (seaN T σ j)) 4 (fst j (fun i => σ.2 4 i - lef T σ i) (σ.2 4))
def L2 (μ ν : MW) (T : Td) (σ : St) (paid : Int32) (j : Nat) : Prop := qr μ ν ∧ ν.1 23 = paid ∧ ν.1 24 = 0 ∧ (∀ i, i < sN σ → ν.2.1 9 i = σ.2 4 i) ∧ ∀ i, i < sN σ → ν.2.1 8 i = cam T σ j i
/-- nothing has come yet where the next one sends -/
theorem cam_0 (S : sok σ) : ∀ j, j ≤ sN σ → ∀ i, (j < i ∨ (i = 0 ∧ j < sN σ)) → cam T σ j i = 0 := by
  have h7 := S.2
  intro j
  induction j with
  | zero => intro _ i _; rfl
  | succ j ih =>
    intro hj i hi
    show (if sHas σ (goTo T σ j) = true then upd (cam T σ j) (ix (goTo T σ j)) (lef T σ j) else cam T σ j) i = 0
    have old : cam T σ j i = 0 := ih (by omega) i (by omega)
    by_cases c : sHas σ (goTo T σ j) = true
    · rw [if_pos c]
      rcases goTo_c (T := T) S (show j < sN σ by omega) with ⟨c1, c2⟩ | ⟨c1, c2⟩
      · rw [c2, ix_nI (by omega)]
        unfold upd
        rw [if_neg (by omega)]
        exact old
      · rcases c2 with ⟨_, c2⟩ | ⟨_, c2⟩
        · rw [c2] at c
          exact absurd (by decide) (of_decide_eq_true c).1
        · rw [c2, ix_nI (by omega)]
          unfold upd
          rw [if_neg (by omega)]
          exact old
    · rw [if_neg c]
      exact old
theorem lef_no {j : Nat} (c : ¬ 0 < σ.2 4 j) : lef T σ j = 0 := if_neg (fun k => c k.1)
theorem lef_yes {j : Nat} (c : 0 < σ.2 4 j) : lef T σ j = if sent T σ j = true then σ.2 4 j else 0 := by
  unfold lef sent
  cases hedgd T σ j with
  | true => rw [if_neg (by rintro ⟨_, k, _⟩; exact Bool.noConfusion k), if_neg (by rw [Bool.not_true, Bool.false_and]; decide)]
  | false =>
    cases take T σ (nI j) (σ.2 4 j) with
    | true => rw [if_pos ⟨c, rfl, rfl⟩]; rfl
    | false => rw [if_neg (by rintro ⟨_, _, k⟩; exact Bool.noConfusion k)]; rfl
theorem cap_le {x : Int32} (h : x.toInt ≤ 999999) : jmin x 999999 = x := by
  unfold jmin
  rw [if_neg]
  rw [Int32.lt_iff_toInt_lt]
  have : (999999 : Int32).toInt = 999999 := rfl
  omega
theorem jmin_le (x : Int32) : (jmin x 999999).toInt ≤ 999999 := by
  have : (999999 : Int32).toInt = 999999 := rfl
  unfold jmin
  by_cases c : 999999 < x
  · rw [if_pos c]; omega
  · rw [if_neg c]
    rw [Int32.lt_iff_toInt_lt] at c
    omega
theorem sea_le (h0 : (σ.1 1).toInt ≤ 999999) : ∀ j, (seaN T σ j).toInt ≤ 999999 := by
  intro j
  induction j with
  | zero => exact h0
  | succ j ih =>
    show (if sHas σ (goTo T σ j) = true then seaN T σ j else jmin (seaN T σ j + lef T σ j) 999999).toInt ≤ 999999
    split
    · exact ih
    · exact jmin_le _
theorem sea_0 (h0 : (σ.1 1).toInt ≤ 999999) {j : Nat} (hl : lef T σ j = 0) : seaN T σ (j + 1) = seaN T σ j := by
  show (if sHas σ (goTo T σ j) = true then seaN T σ j else jmin (seaN T σ j + lef T σ j) 999999) = _
  split
  · rfl
  · rw [hl, Int32.add_zero, cap_le (sea_le h0 j)]
theorem τ2_skip (h0 : (σ.1 1).toInt ≤ 999999) {j : Nat} (hl : lef T σ j = 0) : τ2 T σ (j + 1) = τ2 T σ j := by
  unfold τ2
  rw [sea_0 h0 hl, fst_skip (by rw [hl, Int32.sub_zero])]
theorem τ2_snd (h0 : (σ.1 1).toInt ≤ 999999) {j : Nat} (c : 0 < σ.2 4 j) : sndS T σ (τ2 T σ j) j = τ2 T σ (j + 1) := by
  have hl := lef_yes (T := T) c
  by_cases hs : sent T σ j = true
  · rw [if_pos hs] at hl
    have e4 : upd ((τ2 T σ j).2 4) j 0 = fst (j + 1) (fun i => σ.2 4 i - lef T σ i) (σ.2 4) := by
      show upd (fst j (fun i => σ.2 4 i - lef T σ i) (σ.2 4)) j 0 = _
      refine fst_upd ?_
      rw [hl, Int32.sub_self]
    unfold sndS
    rw [if_neg (by rw [hs]; decide), e4]
    by_cases hy : sHas σ (goTo T σ j) = true
    · rw [if_pos hy]
      have es : seaN T σ (j + 1) = seaN T σ j := if_pos hy
      unfold τ2
      rw [setR_setR, es]
    · rw [if_neg hy]
      have es : seaN T σ (j + 1) = jmin (seaN T σ j + lef T σ j) 999999 := if_neg hy
      have e1 : jmin 999999 ((τ2 T σ j).1 1 + σ.2 4 j) = seaN T σ (j + 1) := by
        rw [es, hl, jmin_c]
        rfl
      rw [e1]
      unfold τ2
      rw [setR_setR]
      refine Prod.ext (funext fun q => ?_) rfl
      show (if q = 1 then seaN T σ (j + 1) else if q = 1 then seaN T σ j else σ.1 q) = (if q = 1 then seaN T σ (j + 1) else σ.1 q)
      by_cases hq : q = 1
      · rw [if_pos hq, if_pos hq]
      · rw [if_neg hq, if_neg hq, if_neg hq]
  · rw [if_neg hs] at hl
    rw [τ2_skip h0 hl]
    exact if_pos (by simpa using hs)
theorem goTo_lt {j t : Nat} (S : sok σ) (hj : j < sN σ) (hy : sHas σ (goTo T σ j) = true) : ∃ t, t < sN σ ∧ goTo T σ j = nI t ∧ (j < t ∨ (t = 0 ∧ j + 1 = sN σ)) := by
  rcases goTo_c (T := T) S hj with ⟨c1, c2⟩ | ⟨c1, ⟨_, c2⟩ | ⟨_, c2⟩⟩
  · exact ⟨j + 1, c1, c2, Or.inl (by omega)⟩
  · rw [c2] at hy
    exact absurd (by decide) (of_decide_eq_true hy).1
  · exact ⟨0, by omega, c2, Or.inr ⟨rfl, c1⟩⟩
theorem cam_same (S : sok σ) {j : Nat} (hj : j < sN σ) (hl : lef T σ j = 0) : cam T σ (j + 1) = cam T σ j := by
  have h7 := S.2
  show (if sHas σ (goTo T σ j) = true then upd (cam T σ j) (ix (goTo T σ j)) (lef T σ j) else cam T σ j) = _
  by_cases hy : sHas σ (goTo T σ j) = true
  · obtain ⟨t, t1, t2, t3⟩ := goTo_lt (T := T) (t := 0) S hj hy
    rw [if_pos hy, t2, ix_nI (by omega), hl]
    have : cam T σ j t = 0 := cam_0 S j (by omega) t (by omega)
    rw [← this]
    exact upd_id _ _
  · rw [if_neg hy]
theorem cam_snd (S : sok σ) {j : Nat} (hj : j < sN σ) (c : 0 < σ.2 4 j) {G : Nat → Int32} (hG : ∀ i, i < sN σ → G i = cam T σ j i) : ∀ i, i < sN σ → sndG T σ G j i = cam T σ (j + 1) i := by
  have h7 := S.2
  intro i hi
  have hl := lef_yes (T := T) c
  by_cases hs : sent T σ j = true
  · rw [if_pos hs] at hl
    show (if sent T σ j = true ∧ sHas σ (goTo T σ j) = true then upd G (ix (goTo T σ j)) (σ.2 4 j) else G) i = (if sHas σ (goTo T σ j) = true then upd (cam T σ j) (ix (goTo T σ j)) (lef T σ j) else cam T σ j) i
    by_cases hy : sHas σ (goTo T σ j) = true
    · rw [if_pos ⟨hs, hy⟩, if_pos hy, hl]
      unfold upd
      by_cases hx : i = ix (goTo T σ j)
      · rw [if_pos hx, if_pos hx]
      · rw [if_neg hx, if_neg hx]
        exact hG i hi
    · rw [if_neg (fun k => hy k.2), if_neg hy]
      exact hG i hi
  · rw [if_neg hs] at hl
    rw [cam_same S hj hl, show sndG T σ G j = G from if_neg (fun k => hs k.1)]
    exact hG i hi
theorem loop_99 (S : sok σ) (h0 : (σ.1 1).toInt ≤ 999999) (E : encT (kn μ) T) {paid : Int32} {P : jO → jH → Prop} (next : ∀ ν, L2 μ ν T σ paid (sN σ) → J g mX12_quarter (d + 6) hs P 129 [(0, .ref m), (1, .int 0)] [] (mw h m (mS ν (τ2 T σ (sN σ))))) : ∀ r j ν, sN σ = j + r → L2 μ ν T σ paid j → J g mX12_quarter (d + 6) hs P 99 [(0, .ref m), (1, .int (nI j))] [] (mw h m (mS ν (τ2 T σ j))) := by
  have h7 := S.2
  intro r
  induction r with
  | zero =>
    intro j ν hj L
    have : sN σ = j := by omega
    refine bX12_quarter_99 ⟨_, mw_o, ?_⟩
    refine m_houses.pi (fun r h' hr => ?_) (fun E h' f => f.elim)
    obtain ⟨rfl, rfl⟩ := hr
    refine ⟨fun c => ?_, fun _ => ?_⟩
    · have c' : nI j < σ.1 0 := c
      rw [S.1] at c'
      exact absurd c' (nI_nlt (by omega) (by omega))
    · have key := next ν (this ▸ L)
      rw [this] at key
      exact key
  | succ r ih =>
    intro j ν hj L
    obtain ⟨l1, l2, l3, l4, l5⟩ := L
    have hjn : nI j < σ.1 0 := by rw [S.1]; exact nI_lt (by omega) (by omega)
    have hjs : j < sN σ := by omega
    have hij : vp_in (nI j) 7 := vp_in_nI (by omega) (by decide)
    have hix : ix (nI j) = j := ix_nI (by omega)
    have EN : encT (kn ν) T := by rw [l1.k]; exact E
    refine bX12_quarter_99 ⟨_, mw_o, ?_⟩
    refine m_houses.pi (fun r h' hr => ?_) (fun E h' f => f.elim)
    obtain ⟨rfl, rfl⟩ := hr
    refine ⟨fun _ => ⟨_, mw_o, _, rfl, _, _, mw_9, hij, fun q => ⟨_, mw_o, ?_⟩, fun q => ?_⟩, fun c => absurd hjn c⟩
    · have q' : 0 < ν.2.1 9 (ix (nI j)) := q
      rw [hix, l4 j hjs] at q'
      refine (m_sends (ν := ν) (τ := τ2 T σ j) S hjs EN rfl rfl rfl rfl l4).pv (fun h' hr => ?_) (fun E h' f => f.elim)
      obtain ⟨ν', s', rfl⟩ := hr
      rw [τ2_snd h0 q', mS_A (by decide), nI_1]
      refine ih (j + 1) _ (by omega) ⟨(l1.tr s'.q).tr (qr_A _ (by decide) _), ?_, ?_, ?_, ?_⟩
      · show ν'.1 23 = _
        rw [s'.1, l2]
      · show ν'.1 24 = _
        rw [s'.1, l3]
      · intro i hi
        show ν'.2.1 9 i = _
        rw [s'.2.2 9 (by decide) (by decide)]
        exact l4 i hi
      · exact cam_snd S hjs q' l5
    · have q' : ¬ 0 < ν.2.1 9 (ix (nI j)) := q
      rw [hix, l4 j hjs] at q'
      have hl := lef_no (T := T) q'
      rw [nI_1, ← τ2_skip h0 hl]
      refine ih (j + 1) ν (by omega) ⟨l1, l2, l3, l4, ?_⟩
      rw [cam_same S hjs hl]
      exact l5
end ML2
