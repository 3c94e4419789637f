/-! The reference reads a truth -/
def flp (k D : Nat) (a a' : Pr Ex) : Prop := match a, a' with
  | .inl x, .inl y => x = y
  | .inr x, .inr y => x.2 = y.2 ∧ exOK k D y.1 ∧ ∀ w, exV w y.1 = 1 - exV w x.1
  | _, _ => False
section MUN
variable {g : jG} {d : Nat} {h hs : jH} {m : Nat} {μ ν : MW} {i w : Int32} {b : Nat → Int32} {e n p k L D E j : Nat} {K N : Nat → Int32} {G : Nat → Int32} {tr tr' : Bool} {u : Pa} {br br' cm : Nat → Pa}
theorem aUn_br {k0 : Nat} : ∀ j p, (∀ i, i ≤ j → ∀ p, br i p = br' i p) → aUn K br cm k0 j p = aUn K br' cm k0 j p := by
  intro j
  induction j with
  | zero =>
    intro p hb
    show (if K p = 145 then (.inl (4, p) : Pr Ex) else aNeg k0 (if K p = 91 then br 0 p else cm 0 p)) = (if K p = 145 then .inl (4, p) else aNeg k0 (if K p = 91 then br' 0 p else cm 0 p))
    rw [hb 0 (Nat.le_refl _) p]
  | succ j ih =>
    intro p hb
    show (if K p = 145 then aUn K br cm k0 j (p + 1) else aNeg (k0 - (j + 1)) (if K p = 91 then br (j + 1) p else cm (j + 1) p)) = (if K p = 145 then aUn K br' cm k0 j (p + 1) else aNeg (k0 - (j + 1)) (if K p = 91 then br' (j + 1) p else cm (j + 1) p))
    rw [hb (j + 1) (Nat.le_refl _) p, ih (p + 1) (fun i hi p => hb i (by omega) p)]
theorem un_no (c : ¬ K p = 145) : aUn K br cm j j p = if K p = 91 then br j p else cm j p := by
  cases j with
  | zero => exact if_neg c
  | succ j =>
    refine (if_neg c).trans ?_
    rw [Nat.sub_self]
    rfl
theorem neg_flip {i : Nat} {r : Pr Ex} (h1 : gd k D r) (h64 : D ≤ 64) : flp k D (aNeg i r) (aNeg (i + 1) r) := by
  unfold aNeg
  cases r with
  | inl x =>
    have e1 : ∀ (c : Prop) [Decidable c], (if c then pgo (.inl x : Pr Ex) (fun e q => (.inr (exNeg e, q) : Pr Ex)) else .inl x) = .inl x := fun c _ => by
      by_cases q : c
      · rw [if_pos q]; rfl
      · rw [if_neg q]
    rw [e1, e1]
    exact rfl
  | inr x =>
    have h1 : exOK k D x.1 := h1
    have hn := exV_neg h1 h64
    by_cases q : i % 2 = 1
    · rw [if_pos q, if_neg (by omega)]
      refine ⟨rfl, h1, fun w => ?_⟩
      show exV w x.1 = 1 - exV w (exNeg x.1)
      rw [hn w]
      have : ∀ a : Int32, a = 1 - (1 - a) := fun a => by
        rw [← Int32.toBitVec_inj]
        simp [Int32.toBitVec_sub]
        bv_omega
      exact this _
    · rw [if_neg q, if_pos (by omega)]
      exact ⟨rfl, exOK_neg h1, fun w => hn w⟩
theorem un_flip {k0 : Nat} (h64 : D ≤ 64) (hb : ∀ i p, i ≤ k0 → gd k D (br i p)) (hc : ∀ i p, i ≤ k0 → gd k D (cm i p)) : ∀ j p, j ≤ k0 → flp k D (aUn K br cm k0 j p) (aUn K br cm (k0 + 1) j p) := by
  intro j
  induction j with
  | zero =>
    intro p hj
    show flp k D (if K p = 145 then (.inl (4, p) : Pr Ex) else aNeg k0 (if K p = 91 then br 0 p else cm 0 p)) (if K p = 145 then .inl (4, p) else aNeg (k0 + 1) (if K p = 91 then br 0 p else cm 0 p))
    by_cases c : K p = 145
    · rw [if_pos c, if_pos c]
      exact rfl
    · rw [if_neg c, if_neg c]
      refine neg_flip ?_ h64
      by_cases c2 : K p = 91
      · rw [if_pos c2]; exact hb 0 p hj
      · rw [if_neg c2]; exact hc 0 p hj
  | succ j ih =>
    intro p hj
    show flp k D (if K p = 145 then aUn K br cm k0 j (p + 1) else aNeg (k0 - (j + 1)) (if K p = 91 then br (j + 1) p else cm (j + 1) p)) (if K p = 145 then aUn K br cm (k0 + 1) j (p + 1) else aNeg (k0 + 1 - (j + 1)) (if K p = 91 then br (j + 1) p else cm (j + 1) p))
    by_cases c : K p = 145
    · rw [if_pos c, if_pos c]
      exact ih (p + 1) (by omega)
    · rw [if_neg c, if_neg c, show k0 + 1 - (j + 1) = k0 - (j + 1) + 1 by omega]
      refine neg_flip ?_ h64
      by_cases c2 : K p = 91
      · rw [if_pos c2]; exact hb (j + 1) p hj
      · rw [if_neg c2]; exact hc (j + 1) p hj
theorem mco_not {c : List Int32} {e1 e2 : Ex} (x : mco k D c e1) (h2 : exOK k D e2) (hv : ∀ w, exV w e2 = 1 - exV w e1) : mco k D (c ++ [18]) e2 := by
  refine ⟨h2, fun q s hs => ?_⟩
  rw [mEv_app, x.2 q s hs, hv]
  rfl
/-! nothing is read any more -/
theorem unitB {dd : Nat} : rdB g (dd + 1) h m mX12_readUnit := fun μ a =>
  con_of km_X12_readUnit.1.2.2.2.2 (Nat.le_of_ble_eq_true rfl) rfl (wX12_readUnit_0 ⟨fun f => absurd f a, fun _ => ⟨_, rfl, rfl⟩⟩)
theorem bothB {dd : Nat} : rdB g (dd + 7) h m mX12_readBoth := fun μ a =>
  con_of km_X12_readBoth.1.2.2.2.2 (Nat.le_of_ble_eq_true rfl) rfl (wX12_readBoth_0 ⟨_, unitB (dd := dd + 5) μ a, fun ν q => by
    rw [q]
    refine wX12_readBoth_4 ⟨_, m_took_b (d := dd) (by decide) a, fun r ν2 q2 => ?_⟩
    obtain ⟨rfl, rfl⟩ := q2
    exact ⟨fun _ => ⟨_, rfl, rfl⟩, fun f => absurd rfl f⟩⟩)
theorem truthB {dd : Nat} : rdB g (dd + 8) h m mX12_readTruth := fun μ a =>
  con_of km_X12_readTruth.1.2.2.2.2 (Nat.le_of_ble_eq_true rfl) rfl (wX12_readTruth_0 ⟨_, bothB (dd := dd) μ a, fun ν q => by
    rw [q]
    refine wX12_readTruth_4 ⟨_, m_took_b (d := dd + 1) (by decide) a, fun r ν2 q2 => ?_⟩
    obtain ⟨rfl, rfl⟩ := q2
    exact ⟨fun _ => ⟨_, rfl, rfl⟩, fun f => absurd rfl f⟩⟩)
/-! a unit -/
theorem w145 : wcode 34 = 145 ∧ wcode 35 = 146 ∧ wcode 36 = 147 := by decide
theorem t6 : ∀ i, i + 1 ≤ 6 → nI (6 - (i + 1) + 1) - 1 = nI (6 - (i + 1)) ∧ 6 - (i + 1) + 1 = 6 - i := by
  intro i hi
  rcases (by omega : i = 0 ∨ i = 1 ∨ i = 2 ∨ i = 3 ∨ i = 4 ∨ i = 5) with rfl | rfl | rfl | rfl | rfl | rfl <;> decide
theorem unitC {dd : Nat} (hk : k < 3) (hj : j ≤ 6) (X : TT K N n b e) (S : rdC g (dd + 10) h m mX12_readSum K N b e n k (2 * j + 3) false j (aSum K N k (aParK K N k j))) (U : ∀ i, j = i + 1 → rdC g (dd + 10) h m mX12_readUnit K N b e n k (4 * i + 4) true i (aUn K (aBr K N k i) (aCmT K N k) i i)) (Th : ∀ i, j = i + 1 → rdC g (dd + 10) h m mX12_readTruth K N b e n k (4 * i + 6) true i (aTru K N k (aBr K N k i) i)) : rdC g (dd + 11) h m mX12_readUnit K N b e n k (4 * j + 4) true j (aUn K (aBr K N k j) (aCmT K N k) j j) := by
  intro μ p L t hp a l hL e16
  have h9 := X.1.1.2
  have bad152 : ∀ {A : Pr Ex} {x : Int32 × Nat} {ν : MW} {v : Int32}, A = .inl x → pd μ ν → Bd K b e ν x.1 x.2 → J g mX12_readUnit (dd + 11) (mw h m μ) (wPv h m (RX K N b e n k (4 * j + 4) true μ p L A)) 152 [] [.int v, .ref m] (mw h m ν) := by
    intro A x ν v hA h1 h2
    refine wX12_readUnit_152 ⟨_, m_laysStep_b (d := dd + 9) h2.ne, fun ν2 z => ?_⟩
    subst z
    subst hA
    exact ⟨_, ⟨h1, h2⟩, rfl⟩
  have bad112 : ∀ {A : Pr Ex} {x : Int32 × Nat} {ν : MW} {v : Int32}, A = .inl x → pd μ ν → Bd K b e ν x.1 x.2 → J g mX12_readUnit (dd + 11) (mw h m μ) (wPv h m (RX K N b e n k (4 * j + 4) true μ p L A)) 112 [(0, .ref m), (1, .int v)] [] (mw h m ν) := by
    intro A x ν v hA h1 h2
    refine wX12_readUnit_112 ⟨fun f => absurd f h2.ne, fun _ => wX12_readUnit_123 ⟨_, sumB (dd := dd + 7) ν h2.ne, fun ν2 z => ?_⟩⟩
    subst z
    exact ⟨fun _ => bad152 hA h1 h2, fun _ => ⟨fun _ => bad152 hA h1 h2, fun _ => bad152 hA h1 h2⟩⟩
  refine con_of km_X12_readUnit.1.2.2.2.2 (Nat.le_of_ble_eq_true rfl) rfl (wX12_readUnit_0 ⟨fun _ => ⟨_, m_isWordP (d := dd + 5) (k := 34) t X hp a (by decide) (by decide), fun f => ⟨_, m_isSignP (d := dd + 9) (c := 91) a (by decide) (by decide) (by decide), fun f1 => ?_, fun f1 => ?_⟩, fun f => ?_⟩, fun f => absurd a.2.2.2 f⟩)
  · -- a comparison
    have f := of_decide_eq_false (bI0 f)
    rw [w145.1] at f
    have f1 := of_decide_eq_false (bI0 f1)
    have ev : aUn K (aBr K N k j) (aCmT K N k) j j p = aCmT K N k j p := (un_no f).trans (if_neg f1)
    rw [ev]
    have ec : aCmT K N k j p = pgo (aSum K N k (aParK K N k j) p) (fun a q => if sCmp (K q) = true then pgo (aSum K N k (aParK K N k j) (q + 1)) (fun b r => .inr (exOp (K q) a b, r)) else .inl (2, q)) := rfl
    refine ⟨_, S μ p L t hp a l hL e16, fun ν R => ?_⟩
    cases hs : aSum K N k (aParK K N k j) p with
    | inl x =>
      rw [hs] at R ec
      have ec : aCmT K N k j p = .inl x := ec
      refine ⟨fun _ => bad112 ec R.1 R.2, fun _ => ⟨fun _ => bad112 ec R.1 R.2, fun _ => ⟨fun _ => bad112 ec R.1 R.2, fun _ => ⟨_, m_blames_b (d := dd + 9) R.2.ne, fun ν2 z => ?_⟩⟩⟩⟩
      subst z
      exact bad112 ec R.1 R.2
    | inr x =>
      rw [hs] at R ec
      obtain ⟨aq, q2, q3, q16, qd⟩ := R.pos
      have go : ∀ t0, K x.2 = t0 → (t0 = 61 ∨ t0 = 60 ∨ t0 = 62) → J g mX12_readUnit (dd + 11) (mw h m μ) (wPv h m (RX K N b e n k (4 * j + 4) true μ p L (aCmT K N k j p))) 112 [(0, .ref m), (1, .int t0)] [] (mw h m ν) := by
        intro t0 f0 ht
        have nz : ¬ K x.2 = 0 := by rw [f0]; rcases ht with rfl | rfl | rfl <;> decide
        obtain ⟨L1, l1, hL1, st⟩ := op_step (t := t0) (tr := false) (tr' := true) (D := 2 * j + 3) (ex := x.1) (q := x.2) hk (by unfold opOk; rcases ht with rfl | rfl | rfl <;> simp) (by omega) h9 (hop_c ht (by omega)) (R.up (by omega)) l hL
        have er : aCmT K N k j p = pgo (aSum K N k (aParK K N k j) (x.2 + 1)) (fun b r => .inr (exOp t0 x.1 b, r)) := by
          rw [ec, ← f0]
          exact if_pos (decide_eq_true (by rw [f0]; exact ht))
        refine wX12_readUnit_112 ⟨fun _ => ⟨_, m_goOn (d := dd + 8) (pd.ta qd t) X q3 nz aq, fun ν1 z1 => ?_⟩, fun z => absurd aq.2.2.2 z⟩
        have z0 : x.2 + 1 < n := X.nx q3 nz
        refine wX12_readUnit_123 ⟨_, S ν1 (x.2 + 1) L1 (pd.ta (dif.tr qd z1.1.dd) t) z0 z1.2 (z1.1.pb.lw l1) (by omega) ((z1.1.1 16 (by decide)).trans (q16.trans e16)), fun ν2 R2 => ?_⟩
        have fin : ∀ v, v = oNum t0 → J g mX12_readUnit (dd + 11) (mw h m μ) (wPv h m (RX K N b e n k (4 * j + 4) true μ p L (aCmT K N k j p))) 152 [] [.int v, .ref m] (mw h m ν2) := by
          intro v hv
          subst hv
          cases hu : aSum K N k (aParK K N k j) (x.2 + 1) with
          | inl y =>
            rw [hu] at R2 er
            exact bad152 er (dif.tr (dif.tr qd z1.1.dd) R2.1) R2.2
          | inr y =>
            rw [hu] at R2 er
            have er : aCmT K N k j p = .inr (exOp t0 x.1 y.1, y.2) := er
            obtain ⟨L2, l2, h92, z12, R3⟩ := st ν1 ν2 y z1.1 R2
            refine wX12_readUnit_152 ⟨_, m_laysStep (d := dd + 9) hk h92 l2 z12, fun ν3 z => ?_⟩
            subst z
            rw [er]
            exact ⟨_, R3.up (by omega), rfl⟩
        refine ⟨fun f1 => fin 13 (by rw [f1]; decide), fun f1 => ⟨fun f2 => fin 14 (by rw [f2]; decide), fun f2 => fin 15 ?_⟩⟩
        rcases ht with rfl | rfl | rfl
        · exact absurd rfl f1
        · exact absurd rfl f2
        · decide
      have e10 : ∀ t0, (t0 = 61 ∨ t0 = 60 ∨ t0 = 62) → (ν.1 10 = t0 ↔ K x.2 = t0) := by
        intro t0 ht
        rw [aq.2.1]
        rcases ht with rfl | rfl | rfl <;> exact mtk_s (by decide) (by decide) (by decide)
      refine ⟨fun z => ?_, fun n1 => ⟨fun z => ?_, fun n2 => ⟨fun z => ?_, fun n3 => ?_⟩⟩⟩
      · rw [z]; exact go 61 ((e10 61 (Or.inl rfl)).mp z) (Or.inl rfl)
      · rw [z]; exact go 60 ((e10 60 (Or.inr (Or.inl rfl))).mp z) (Or.inr (Or.inl rfl))
      · rw [z]; exact go 62 ((e10 62 (Or.inr (Or.inr rfl))).mp z) (Or.inr (Or.inr rfl))
      · have er : aCmT K N k j p = .inl (2, x.2) := by
          rw [ec]
          exact if_neg (fun z => (of_decide_eq_true z).elim (fun z => n1 ((e10 61 (Or.inl rfl)).mpr z)) (fun z => z.elim (fun z => n2 ((e10 60 (Or.inr (Or.inl rfl))).mpr z)) (fun z => n3 ((e10 62 (Or.inr (Or.inr rfl))).mpr z))))
        exact ⟨_, m_blames (d := dd + 9) (k := 2) aq (by decide), fun ν2 z => bad112 er (dif.tr qd z.1.dd) z.2⟩
  · -- a bracket
    have f := of_decide_eq_false (bI0 f)
    rw [w145.1] at f
    have f1 := of_decide_eq_true (bI1 f1)
    have f0 : ¬ K p = 0 := by rw [f1]; decide
    have ev : aUn K (aBr K N k j) (aCmT K N k) j j p = aBr K N k j j p := (un_no f).trans (if_pos f1)
    rw [ev]
    refine ⟨_, m_goesIn (d := dd + 7) t X hp a f0 hj e16, fun ν2 q2 => ?_⟩
    obtain ⟨⟨q3, q4⟩, q5⟩ := q2
    rcases q5 with ⟨q5, q6⟩ | ⟨q5, q6, q7, q8⟩
    · subst q5
      refine ⟨_, truthB (dd := dd + 2) ν2 q6.ne, fun ν3 z => ?_⟩
      subst z
      refine ⟨_, m_mustSign_b (d := dd + 7) q6.ne, fun ν4 z => ?_⟩
      subst z
      exact ⟨_, ⟨dif.tr q3 (pd_16 _), q6⟩, rfl⟩
    · obtain ⟨i, rfl⟩ : ∃ i, j = i + 1 := ⟨j - 1, by omega⟩
      have ep : aBr K N k (i + 1) (i + 1) p = pgo (aTru K N k (aBr K N k i) i (p + 1)) (fun e q => if K q = 93 then .inr (e, q + 1) else .inl (2, q)) := by
        show (if i + 1 ≤ i then aBr K N k i (i + 1) else fun p => pgo (aTru K N k (aBr K N k i) i (p + 1)) (fun e q => if K q = 93 then .inr (e, q + 1) else .inl (2, q))) p = _
        rw [if_neg (by omega)]
      rw [ep]
      have l2 : lwS ν2 k L := ⟨⟨q3.kk.1.trans l.1.1, q3.kk.2.trans l.1.2⟩, by rw [q4]; exact l.2⟩
      have e16' : ν2.1 16 = nI (6 - i) := by rw [q8, (t6 i hj).2]
      refine ⟨_, Th i rfl ν2 (p + 1) L (q3.ta t) q6 q7 l2 (by omega) e16', fun ν3 R => ?_⟩
      obtain ⟨r1, r2⟩ := R
      cases hs : aTru K N k (aBr K N k i) i (p + 1) with
      | inl x =>
        rw [hs] at r2
        refine ⟨_, m_mustSign_b (d := dd + 7) r2.ne, fun ν4 z => ?_⟩
        subst z
        exact ⟨_, ⟨dif.tr (dif.tr q3 r1) (pd_16 _), r2⟩, rfl⟩
      | inr x =>
        rw [hs] at r2
        obtain ⟨⟨s1, ⟨s2, s3⟩, s4⟩, c, ⟨s5, s6⟩, s7, s8⟩ := r2
        refine ⟨_, m_mustSign (d := dd + 7) (c := 93) (pd.ta (dif.tr q3 r1) t) X s3 s1 (by decide) (by decide) (by decide) (by decide), fun ν4 z => ?_⟩
        obtain ⟨z1, z2⟩ := z
        rcases z2 with ⟨z2, z3, z4⟩ | ⟨z2, z3⟩
        · have eg : pgo (.inr x : Pr Ex) (fun e q => if K q = 93 then (.inr (e, q + 1) : Pr Ex) else .inl (2, q)) = .inr (x.1, x.2 + 1) := if_pos z2
          rw [eg]
          refine ⟨_, ⟨dif.tr (dif.tr (dif.tr q3 r1) z1.dd) (pd_16 _), ⟨z4, ⟨by show p < x.2 + 1; omega, z3⟩, ?_⟩, c, ⟨s5.up (by omega), s6⟩, by show c.length ≤ x.2 + 1 - p; omega, ?_⟩, rfl⟩
          · rw [mI_at, z1.1 16 (by decide), s4, q8, e16]
            exact (t6 i hj).1
          · show ν4.2.1 2 = _
            rw [z1.2.2 2 (by decide), s8, q4]
        · have eg : pgo (.inr x : Pr Ex) (fun e q => if K q = 93 then (.inr (e, q + 1) : Pr Ex) else .inl (2, q)) = .inl (2, x.2) := if_neg z2
          rw [eg]
          exact ⟨_, ⟨dif.tr (dif.tr (dif.tr q3 r1) z1.dd) (pd_16 _), z3⟩, rfl⟩
  · -- not
    have f := of_decide_eq_true (bI1 f)
    rw [w145.1] at f
    have f0 : ¬ K p = 0 := by rw [f]; decide
    refine ⟨_, m_goesIn (d := dd + 7) t X hp a f0 hj e16, fun ν2 q2 => ?_⟩
    obtain ⟨⟨q3, q4⟩, q5⟩ := q2
    rcases q5 with ⟨q5, q6⟩ | ⟨q5, q6, q7, q8⟩
    · subst q5
      have ev : aUn K (aBr K N k 0) (aCmT K N k) 0 0 p = .inl (4, p) := if_pos f
      rw [ev]
      refine ⟨_, unitB (dd := dd + 9) ν2 q6.ne, fun ν3 z => ?_⟩
      subst z
      refine ⟨_, m_laysStep_b (d := dd + 9) q6.ne, fun ν4 z => ?_⟩
      subst z
      exact ⟨_, ⟨dif.tr q3 (pd_16 _), q6⟩, rfl⟩
    · obtain ⟨i, rfl⟩ : ∃ i, j = i + 1 := ⟨j - 1, by omega⟩
      have ev : aUn K (aBr K N k (i + 1)) (aCmT K N k) (i + 1) (i + 1) p = aUn K (aBr K N k i) (aCmT K N k) (i + 1) i (p + 1) := by
        refine (if_pos f).trans (aUn_br i (p + 1) (fun i' hi p => ?_))
        show (if i' ≤ i then aBr K N k i i' else _) p = _
        rw [if_pos hi]
      have fl := un_flip (K := K) (k := k) (D := 4 * i + 4) (k0 := i) (br := aBr K N k i) (cm := aCmT K N k) (by omega) (fun i' p _ => gd_br X.2.2 i i' p) (fun i' p hi => (gd_cmT (k := k) X.2.2 i' p).mono (by omega)) i (p + 1) (Nat.le_refl _)
      rw [ev]
      have l2 : lwS ν2 k L := ⟨⟨q3.kk.1.trans l.1.1, q3.kk.2.trans l.1.2⟩, by rw [q4]; exact l.2⟩
      have e16' : ν2.1 16 = nI (6 - i) := by rw [q8, (t6 i hj).2]
      refine ⟨_, U i rfl ν2 (p + 1) L (q3.ta t) q6 q7 l2 (by omega) e16', fun ν3 R => ?_⟩
      generalize aUn K (aBr K N k i) (aCmT K N k) i i (p + 1) = A at R fl
      generalize aUn K (aBr K N k i) (aCmT K N k) (i + 1) i (p + 1) = A' at fl ⊢
      cases A with
      | inl x =>
        cases A' with
        | inr y => exact absurd fl id
        | inl y =>
          have fl : x = y := fl
          subst fl
          obtain ⟨r1, r2⟩ := R
          refine ⟨_, m_laysStep_b (d := dd + 9) r2.ne, fun ν4 z => ?_⟩
          subst z
          exact ⟨_, ⟨dif.tr (dif.tr q3 r1) (pd_16 _), r2⟩, rfl⟩
      | inr x =>
        cases A' with
        | inl y => exact absurd fl id
        | inr y =>
          obtain ⟨g1, g2, g3⟩ := fl
          obtain ⟨L1, l1, hL1⟩ := R.lw l2 (by omega)
          obtain ⟨r1, ⟨s1, ⟨s2, s3⟩, s4⟩, c, ⟨s5, s6⟩, s7, s8⟩ := R
          refine ⟨_, m_laysStep (d := dd + 9) hk (by omega) l1 s1.2.2.2, fun ν4 z => ?_⟩
          subst z
          have eL : L1 = L + c.length := by
            have e1 := l1.2
            rw [s8] at e1
            have e2 : apd (ν2.2.1 2) k L c (4 + k) = nI (L + c.length) := if_pos rfl
            rw [e2] at e1
            have := congrArg Int32.toInt e1
            rw [nI_toInt (by omega), nI_toInt (by omega)] at this
            omega
          refine ⟨_, ⟨dif.tr (dif.tr (dif.tr q3 r1) pd_A) (pd_16 _), ⟨by rw [← g1]; exact s1, ⟨by rw [← g1]; omega, by rw [← g1]; exact s3⟩, ?_⟩, c ++ [18], ⟨(mco_not s5 g2 g3).up (by omega), fun _ w => ?_⟩, ?_, ?_⟩, rfl⟩
          · rw [mI_at]
            show ν3.1 16 - 1 = _
            rw [s4, q8, e16]
            exact (t6 i hj).1
          · rw [g3 w]
            rcases s6 rfl w with z | z
            · rw [z]; exact Or.inr (by decide)
            · rw [z]; exact Or.inl (by decide)
          · rw [← g1, List.length_append, show ([18] : List Int32).length = 1 from rfl]
            omega
          · show apd (ν3.2.1 2) k L1 [18] = _
            rw [s8, eL, q4]
            exact apd_app hk
end MUN
