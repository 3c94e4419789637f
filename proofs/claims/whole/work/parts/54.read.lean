/-! A line, a text -/
section LI2
variable {g : jG} {d : Nat} {hb : jH} {w t n p : Nat} {ζ : Zs} {υ : Vs} {A : Ab}
theorem tie_skip_num (hT : Tok ζ n) (hN : ∀ p, ζ.2 0 p = 2 → ∃ j, j < 1000 ∧ ζ.2 1 p = nI j) (V : VL ζ n υ p) (h0 : ¬ ζ.2 0 p = 0) (most : Int32) : TieN ζ n υ p (numToF ζ (skF ζ υ) most) (aNum (ζ.2 0) (ζ.2 1) most (p + 1)) := by
  obtain ⟨V1, S1, _⟩ := VL_skip hT V h0
  have T := tie_num hT hN V1 most
  revert T
  cases aNum (ζ.2 0) (ζ.2 1) most (p + 1) with
  | inl kq => obtain ⟨k, q⟩ := kq; rintro ⟨t1, t2⟩; exact ⟨t1, t2.1, t2.2.1, t2.2.2.1, t2.2.2.2.trans S1.2.2.2⟩
  | inr kq => obtain ⟨v, q⟩ := kq; rintro ⟨t1, t2, t3, t4, t5⟩; exact ⟨t1, t2, t3, by omega, S1.tr t5⟩
theorem c_line (H : ZAt hb (w + 9) ζ) (hT : Tok ζ n) (hN : ∀ p, ζ.2 0 p = 2 → ∃ j, j < 1000 ∧ ζ.2 1 p = nI j) (V : VL ζ n υ p) (h0 : ¬ ζ.2 0 p = 0) (ht : υ.2.1 = t) (TT : TL g hb t A) (F : few A) (wt : w + 14 ≤ t) (hNO : g.2.2.2.2.2.2 < t) (htb : t + 8 ≤ hb.2.1) (R : hb.2.1 + (n - p) ≤ jB0 g + 601024 ∧ hb.2.2 + (n - p) ≤ 7293034) :
    Con g mX7_line (d + 92) [.ref w, .int (ζ.2 0 p)] (ws hb w (t + 1) υ A.2.2) (jPi (fun r h' => LN g ζ n w t υ p hb (aLine (ζ.2 0) (ζ.2 1) A (abN A) p) r h') no2) := by
  have hd : apart (t + 1) 7 w 14 := Or.inr (by omega)
  have HS := ws_Z (h := hb) (σ := A.2.2) hd H
  obtain ⟨T, T1, T2⟩ := id TT
  subst ht
  have NT : ∀ υ' σ', (ws hb w (υ.2.1 + 1) υ' σ').1 υ.2.1 = some (tobj υ.2.1 T) := fun υ' σ' => (ws_out (by omega) (by omega) (by omega)).trans T1.1
  have FL : ∀ k', aLine (ζ.2 0) (ζ.2 1) A (abN A) p = .inl (k', p) → Con g mX7_fail (d + 91) [.ref w, .int k'] (ws hb w (υ.2.1 + 1) υ A.2.2) (jPi (fun r h' => (r = 0 ∨ r = 1) ∧ LN g ζ n w υ.2.1 υ p hb (aLine (ζ.2 0) (ζ.2 1) A (abN A) p) r h') no2) := by
    intro k' e
    refine (c_fail (h := sput hb (υ.2.1 + 1) A.2.2) HS).pi (fun r h' hr => ?_) (fun E h' f => f.elim)
    obtain ⟨rfl, rfl⟩ := hr
    rw [e]
    exact ⟨Or.inl rfl, ln_fail hT V k' TT⟩
  have e2 : ∀ {a : Int32} (_ : ζ.2 0 p = a) (_ : ¬ a = 129) (_ : ¬ a = 130) (_ : ¬ a = 141) (_ : ¬ a = 142) (_ : ¬ a = 143) (_ : ¬ a = 144), aLine (ζ.2 0) (ζ.2 1) A (abN A) p = .inl (2, p) := by
    intro a ea h1 h2 h3 h4 h5 h6
    subst ea
    unfold aLine
    rw [if_neg h1, if_neg h2, if_neg h3, if_neg h4, if_neg h5, if_neg h6]
  have sum0 : ∀ k', lawG ζ k' = sumG ζ (parK ζ 6) → isP g mX7_sum (d + 91) (sput hb (υ.2.1 + 1) A.2.2) w 0 (lawG ζ k') := by
    intro k' e
    rw [e]
    exact c_sumP (d := d + 85) HS (c_par (d := d + 61) HS 6 0 rfl)
  have tru0 : isP g mX7_truth (d + 91) (sput hb (υ.2.1 + 1) A.2.2) w 0 (lawG ζ 2) := by
    have h := c_truG (d := d + 48) (k := 6) HS (Nat.le_refl 6) (fun j hj => c_bracket (g := g) HS 6 (Nat.le_refl 6) d j hj)
    exact h
  have LAW : ∀ {mS : jM} {k' : Nat} {words : Int32} (_ : k' < 3) (_ : ζ.2 0 p = 141 + nI k') (_ : words = lwOf k') (_ : isP g mS (d + 91) (sput hb (υ.2.1 + 1) A.2.2) w 0 (lawG ζ k')), _ :=
    fun {mS} {k'} {words} a1 a2 a3 a4 => ln_law (d := d + 88) (x1 := ζ.2 0 p) a1 a2 a3 H hT hN V h0 rfl TT F wt hNO htb R a4
  have el : ∀ k', k' < 3 → ζ.2 0 p = 141 + nI k' → aLine (ζ.2 0) (ζ.2 1) A (abN A) p = aLw (ζ.2 0) (ζ.2 1) k' A p := by
    intro k' hk e
    have h3 : k' = 0 ∨ k' = 1 ∨ k' = 2 := by omega
    unfold aLine
    rw [e]
    rcases h3 with rfl | rfl | rfl
    · rw [if_neg (by decide), if_neg (by decide), if_pos (by decide)]
    · rw [if_neg (by decide), if_neg (by decide), if_neg (by decide), if_pos (by decide)]
    · rw [if_neg (by decide), if_neg (by decide), if_neg (by decide), if_neg (by decide), if_pos (by decide)]
  refine con_of km_X7_line.1.2.2.2.2 (Nat.le_of_ble_eq_true rfl) rfl (bX7_line_0 ?_)
  refine ⟨fun q => ⟨_, vput_0, _, rfl, _, NT _ _, _, rfl, _, vput_0, ?_⟩, fun n129 => ⟨fun q => ⟨_, vput_0, ?_⟩, fun n130 => ⟨fun q => ⟨_, vput_0, FL 2 (e2 q (by decide) (by decide) (by decide) (by decide) (by decide) (by decide))⟩, fun _ => ⟨fun q => ⟨_, vput_0, FL 2 (e2 q (by decide) (by decide) (by decide) (by decide) (by decide) (by decide))⟩, fun _ => ⟨fun q => ⟨_, vput_0, FL 2 (e2 q (by decide) (by decide) (by decide) (by decide) (by decide) (by decide))⟩, fun _ => ⟨fun q => ⟨_, vput_0, FL 2 (e2 q (by decide) (by decide) (by decide) (by decide) (by decide) (by decide))⟩, fun _ => ⟨fun q => ⟨_, vput_0, FL 2 (e2 q (by decide) (by decide) (by decide) (by decide) (by decide) (by decide))⟩, fun _ => ⟨fun q => ⟨_, vput_0, FL 2 (e2 q (by decide) (by decide) (by decide) (by decide) (by decide) (by decide))⟩, fun _ => ⟨fun q => ⟨_, vput_0, FL 2 (e2 q (by decide) (by decide) (by decide) (by decide) (by decide) (by decide))⟩, fun _ => ⟨fun q => ⟨_, vput_0, FL 2 (e2 q (by decide) (by decide) (by decide) (by decide) (by decide) (by decide))⟩, fun _ => ⟨fun q => ⟨_, vput_0, FL 2 (e2 q (by decide) (by decide) (by decide) (by decide) (by decide) (by decide))⟩, fun _ => ⟨fun q => ⟨_, vput_0, FL 2 (e2 q (by decide) (by decide) (by decide) (by decide) (by decide) (by decide))⟩, fun _ => ⟨fun q => ⟨_, vput_0, ?_⟩, fun n141 => ⟨fun q => ⟨_, vput_0, ?_⟩, fun n142 => ⟨fun q => ⟨_, vput_0, ?_⟩, fun n143 => ⟨fun q => ⟨_, vput_0, ?_⟩, fun n144 => ⟨_, vput_0, FL 2 (e2 rfl ?_ ?_ ?_ ?_ ?_ ?_)⟩⟩⟩⟩⟩⟩⟩⟩⟩⟩⟩⟩⟩⟩⟩⟩⟩
  · -- a house
    have e0 := F.n
    have ea : aLine (ζ.2 0) (ζ.2 1) A (abN A) p = pgo (aHome (ζ.2 0) (ζ.2 1) A.2.2 (abN A) p) (fun σ q => .inr (abSt A σ, q)) := by unfold aLine; rw [if_pos q]
    rw [ea]
    by_cases h7 : abN A = 7
    · refine (c_home7 (d := d + 87) hd H (by rw [e0.1, h7])).pi (fun r h' hr => ?_) (fun E h' f => f.elim)
      obtain ⟨rfl, rfl⟩ := hr
      have eh : aHome (ζ.2 0) (ζ.2 1) A.2.2 (abN A) p = .inl (4, p) := by unfold aHome; rw [if_pos h7]
      rw [eh]
      exact ⟨Or.inl rfl, ln_fail hT V 4 TT⟩
    · refine (c_home (d := d + 87) hd H e0.1 (by omega)).pi (fun r h' hr => ?_) (fun E h' f => f.elim)
      obtain ⟨rfl, rfl⟩ := hr
      refine ⟨bI_01 _, ?_⟩
      have TH := tie_home hT hN V h0 (σ := A.2.2) h7
      have FW := fun σ' q' => aHome_few (K := ζ.2 0) (N := ζ.2 1) (σ := A.2.2) (σ' := σ') (p := p) (q := q') e0.2 e0.1
      revert TH FW
      generalize homeF ζ υ A.2.2 (abN A) = rr
      cases aHome (ζ.2 0) (ζ.2 1) A.2.2 (abN A) p with
      | inl kq =>
        obtain ⟨k, q2⟩ := kq
        rintro ⟨t1, t2⟩ _
        exact ⟨hb, _, _, rfl, LF.rf hb _, by rw [t1]; rfl, t2, rfl, T, T1.1⟩
      | inr kq =>
        obtain ⟨σ', q2⟩ := kq
        rintro ⟨t1, t2, t3, t4, t5⟩ FW
        obtain ⟨f1, f2⟩ := FW σ' q2 rfl
        exact ⟨hb, _, _, rfl, LF.rf hb _, by rw [t1]; rfl, t2, t4.t, ⟨T, T1, T2⟩, t5, ⟨abN A + 1, by omega, f2⟩, t3, by omega, by omega⟩
  · -- the quarter
    have ea : aLine (ζ.2 0) (ζ.2 1) A (abN A) p = pgo (aNum (ζ.2 0) (ζ.2 1) 999 (p + 1)) (fun v q => .inr (abSt A (setI A.2.2 2 v), q)) := by unfold aLine; rw [if_neg n129, if_pos q]
    rw [ea]
    have S1 := (VL_skip hT V h0).2.1
    refine (c_skip (h := sput hb (υ.2.1 + 1) A.2.2) HS).pv (fun h' hr => ?_) (fun E h' f => f.elim)
    subst hr
    have NT' : (ws hb w (υ.2.1 + 1) (skF ζ υ) A.2.2).1 (skF ζ υ).2.1 = some (tobj υ.2.1 T) := by rw [S1.2.2.2]; exact NT _ _
    refine ⟨_, vput_0, _, rfl, _, NT', _, rfl, _, vput_0, ?_⟩
    refine (c_numberTo (h := sput hb (υ.2.1 + 1) A.2.2) HS).pi (fun r h' hr => ?_) (fun E h' f => f.elim)
    obtain ⟨rfl, rfl⟩ := hr
    have TN := tie_skip_num hT hN V h0 999
    have tob : (numToF ζ (skF ζ υ) 999).2.2.1 = υ.2.1 := by
      revert TN
      cases aNum (ζ.2 0) (ζ.2 1) 999 (p + 1) with
      | inl kq => obtain ⟨k, q2⟩ := kq; exact fun TN => TN.2.2.2.2
      | inr kq => obtain ⟨v, q2⟩ := kq; exact fun TN => TN.2.2.2.2.2.2.2
    revert TN tob
    generalize numToF ζ (skF ζ υ) 999 = rr
    intro TN tob
    refine ⟨_, (ws_S hd (σ := A.2.2)).1, by simp, fun h1 q1 => ?_⟩
    replace q1 := q1.trans (ws_int hd (k := 2) (by decide) _)
    subst q1
    refine ⟨_, vput_0, _, congrArg (fun z => some (Value.ref z)) tob, _, NT _ _, _, rfl, _, (ws_S hd).1, _, rfl, fun q1 => ?_, fun q1 => ?_⟩
    · replace q1 : rr.1 = -1 := q1
      revert TN
      cases aNum (ζ.2 0) (ζ.2 1) 999 (p + 1) with
      | inl kq =>
        obtain ⟨k, q2⟩ := kq
        rintro ⟨t1, t2⟩
        exact ⟨hb, _, _, rfl, LF.rf hb _, rfl, t2, rfl, T, T1.1⟩
      | inr kq =>
        obtain ⟨v, q2⟩ := kq
        rintro ⟨t1, t2, t3, t4, t5⟩
        exact absurd (t1.symm.trans q1) t2
    · replace q1 : ¬ rr.1 = -1 := q1
      revert TN
      cases aNum (ζ.2 0) (ζ.2 1) 999 (p + 1) with
      | inl kq =>
        obtain ⟨k, q2⟩ := kq
        rintro ⟨t1, t2⟩
        exact absurd t1 q1
      | inr kq =>
        obtain ⟨v, q2⟩ := kq
        rintro ⟨t1, t2, t3, t4, t5⟩
        exact ⟨hb, _, _, rfl, LF.rf hb _, rfl, t3, t5.t, ⟨T, T1, T2⟩, by rw [t1]; rfl, F, t4, by omega, by omega⟩
  · rw [el 0 (by decide) q]
    exact LAW (words := 63) (by decide) q rfl (sum0 0 rfl)
  · rw [el 1 (by decide) q]
    exact LAW (words := 7) (by decide) q rfl (sum0 1 rfl)
  · rw [el 2 (by decide) q]
    exact LAW (words := 79) (by decide) q rfl tru0
  · -- the limit
    have ea : aLine (ζ.2 0) (ζ.2 1) A (abN A) p = pgo (aNum (ζ.2 0) (ζ.2 1) 999 (p + 1)) (fun v q => .inr (abLim A v, q)) := by unfold aLine; rw [if_neg n129, if_neg n130, if_neg n141, if_neg n142, if_neg n143, if_pos q]
    rw [ea]
    have S1 := (VL_skip hT V h0).2.1
    refine (c_skip (h := sput hb (υ.2.1 + 1) A.2.2) HS).pv (fun h' hr => ?_) (fun E h' f => f.elim)
    subst hr
    refine ⟨_, vput_0, _, rfl, _, vput_0, ?_⟩
    refine (c_numberTo (h := sput hb (υ.2.1 + 1) A.2.2) HS).pi (fun r h' hr => ?_) (fun E h' f => f.elim)
    obtain ⟨rfl, rfl⟩ := hr
    have TN := tie_skip_num hT hN V h0 999
    have tob : (numToF ζ (skF ζ υ) 999).2.2.1 = υ.2.1 := by
      revert TN
      cases aNum (ζ.2 0) (ζ.2 1) 999 (p + 1) with
      | inl kq => obtain ⟨k, q2⟩ := kq; exact fun TN => TN.2.2.2.2
      | inr kq => obtain ⟨v, q2⟩ := kq; exact fun TN => TN.2.2.2.2.2.2.2
    revert TN tob
    generalize numToF ζ (skF ζ υ) 999 = rr
    intro TN tob
    rw [S1.2.2.2]
    refine ⟨_, NT rr.2 A.2.2, by simp, fun h1 q1 => ?_⟩
    replace q1 : h1 = ws (jset hb υ.2.1 (tobj υ.2.1 ((T.1.1, T.1.2.1, rr.1), T.2))) w (υ.2.1 + 1) rr.2 A.2.2 := q1.trans (ws_put (h := hb) (s := υ.2.1 + 1) (by omega) (by omega) (by omega))
    subst q1
    have NL : (ws (jset hb υ.2.1 (tobj υ.2.1 ((T.1.1, T.1.2.1, rr.1), T.2))) w (υ.2.1 + 1) rr.2 A.2.2).1 υ.2.1 = some (tobj υ.2.1 ((T.1.1, T.1.2.1, rr.1), T.2)) := (ws_out (by omega) (by omega) (by omega)).trans (jset_at _ _ _)
    have LFx : LF hb (jset hb υ.2.1 (tobj υ.2.1 ((T.1.1, T.1.2.1, rr.1), T.2))) υ.2.1 := ⟨fun _ _ h2 => jset_ne h2, Nat.le_refl _, Nat.le_refl _⟩
    refine ⟨_, vput_0, _, congrArg (fun z => some (Value.ref z)) tob, _, NL, _, rfl, fun q1 => ?_, fun q1 => ?_⟩
    · replace q1 : rr.1 = -1 := q1
      revert TN
      cases aNum (ζ.2 0) (ζ.2 1) 999 (p + 1) with
      | inl kq =>
        obtain ⟨k, q2⟩ := kq
        rintro ⟨t1, t2⟩
        exact ⟨_, _, _, rfl, LFx, rfl, t2, rfl, _, jset_at _ _ _⟩
      | inr kq =>
        obtain ⟨v, q2⟩ := kq
        rintro ⟨t1, t2, t3, t4, t5⟩
        exact absurd (t1.symm.trans q1) t2
    · replace q1 : ¬ rr.1 = -1 := q1
      revert TN
      cases aNum (ζ.2 0) (ζ.2 1) 999 (p + 1) with
      | inl kq =>
        obtain ⟨k, q2⟩ := kq
        rintro ⟨t1, t2⟩
        exact absurd t1 q1
      | inr kq =>
        obtain ⟨v, q2⟩ := kq
        rintro ⟨t1, t2, t3, t4, t5⟩
        have ne : ∀ p', lawIn g υ.2.1 hb p' → ¬ p' = υ.2.1 := by
          intro p' hp
          rcases hp with h | h <;> omega
        refine ⟨_, _, _, rfl, LFx, rfl, t3, t5.t, ⟨((T.1.1, T.1.2.1, rr.1), T.2), ⟨jset_at _ _ _, T1.2.1.of (jset_ne (ne _ T2.2.2.1)), T1.2.2.1.of (jset_ne (ne _ T2.2.2.2.1)), T1.2.2.2.of (jset_ne (ne _ T2.2.2.2.2))⟩, ?_, T2.2⟩, rfl, F, t4, by show 3 * (hb.2.1 - hb.2.1) ≤ _; omega, by show hb.2.2 - hb.2.2 ≤ _; omega⟩
        · show (T.1.1, T.1.2.1, rr.1) = (A.1.1, A.1.2.1, v)
          rw [t1, T2.1]
  · exact n129
  · exact n130
  · exact n141
  · exact n142
  · exact n143
  · exact n144
end LI2
