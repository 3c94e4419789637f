/-! A text is read -/
/-- what reading leaves behind -/
def RD (g : jG) (ζ : Zs) (n w t : Nat) (hb0 : jH) (a : Pr Ab) (rr : Int32) (h' : jH) : Prop := ∃ hb υ' σ', h' = ws hb w (t + 1) υ' σ' ∧ LF hb0 hb t ∧ 3 * (hb.2.1 - hb0.2.1) ≤ n ∧ hb.2.2 - hb0.2.2 ≤ n ∧ υ'.2.1 = t ∧ match a with
  | .inl (k, q) => rr = 0 ∧ q < n ∧ υ'.1 0 = (if ζ.2 0 q = 1 then 1 else k) ∧ υ'.1 1 = ζ.2 2 q
  | .inr (A, _) => rr = 1 ∧ υ'.1 0 = 0 ∧ υ'.1 1 = -1 ∧ TL g hb t A ∧ σ' = A.2.2 ∧ few A
theorem LF.put {h h' : jH} {t : Nat} (x : LF h h' t) (e : va_E) : LF h (jset h' t e) t := ⟨fun q h1 h2 => (jset_ne h2).trans (x.1 q h1 h2), x.2.1, x.2.2⟩
theorem TL.ring {g : jG} {h : jH} {t : Nat} {A : Ab} {T : Td} (hNO : g.2.2.2.2.2.2 < t) (H : TAt h t T) (L : T.2.2 = (A.2.1.1.map lawV, A.2.1.2.1.map lawV, A.2.1.2.2.map lawV) ∧ lawIn g t h T.2.1.1 ∧ lawIn g t h T.2.1.2.1 ∧ lawIn g t h T.2.1.2.2) {i : Int32 × Int32 × Int32} (e : i = A.1) : TL g (jset h t (tobj t (i, T.2))) t A := by
  have ne : ∀ p', lawIn g t h p' → ¬ p' = t := by
    intro p' hp
    rcases hp with h | h <;> omega
  refine ⟨(i, T.2), TAt.ne (T := (i, T.2)) (h := jset h t (tobj t (i, T.2))) ⟨jset_at _ _ _, H.2.1.of (jset_ne (ne _ L.2.1)), H.2.2.1.of (jset_ne (ne _ L.2.2.1)), H.2.2.2.of (jset_ne (ne _ L.2.2.2))⟩ (jset_at _ _ _) (fun _ _ => rfl), e, L⟩
section RDS
variable {g : jG} {d : Nat} {hb hs hb0 : jH} {w t n p : Nat} {ζ : Zs} {υ : Vs} {σ : St} {A : Ab}
theorem rd_lines {x4 s0 : Int32} {T : Td} {P : jO → jH → Prop} (T1 : hb.1 t = some (tobj t T)) (ht : υ.2.1 = t) (wt : w + 14 ≤ t) (k : J g mX7_read (d + 1) hs P 125 [(0, .ref w), (3, .int s0), (4, .int (x4 + 1))] [] (ws (jset hb t (tobj t ((T.1.1, T.1.2.1 + 1, T.1.2.2), T.2))) w (t + 1) υ σ)) : J g mX7_read (d + 1) hs P 169 [(0, .ref w), (4, .int x4)] [.int s0] (ws hb w (t + 1) υ σ) := by
  have N : (ws hb w (t + 1) υ σ).1 t = some (tobj t T) := (ws_out (by omega) (by omega) (by omega)).trans T1
  refine bX7_read_169 ⟨_, vput_0, _, congrArg (fun z => some (Value.ref z)) ht, _, N, _, rfl, _, N, by simp, fun h1 q1 => ?_⟩
  replace q1 := q1.trans (ws_put (h := hb) (s := t + 1) (by omega) (by omega) (by omega))
  subst q1
  exact k
theorem rd_end {x4 : Int32} {q : Nat} {k : Int32} (ha : RD g ζ n w t hb0 (.inl (k, q)) 0 (ws hb w (t + 1) υ σ)) : J g mX7_read (d + 1) hs (jPi (RD g ζ n w t hb0 (.inl (k, q))) no2) 125 [(0, .ref w), (3, .int 0), (4, .int x4)] [] (ws hb w (t + 1) υ σ) :=
  bX7_read_125 ⟨fun _ => ⟨fun _ => ⟨Or.inl rfl, ha⟩, fun c => absurd rfl c⟩, fun _ => ⟨Or.inl rfl, ha⟩⟩
/-- after a fault: a line is counted, and that is all -/
theorem rd_bad {x4 : Int32} {q : Nat} {k : Int32} {T : Td} (T1 : hb.1 t = some (tobj t T)) (wt : w + 14 ≤ t) (L : LF hb0 hb t) (b1 : 3 * (hb.2.1 - hb0.2.1) ≤ n) (b2 : hb.2.2 - hb0.2.2 ≤ n) (ht : υ.2.1 = t) (B : q < n ∧ υ.1 0 = (if ζ.2 0 q = 1 then 1 else k) ∧ υ.1 1 = ζ.2 2 q) : J g mX7_read (d + 1) hs (jPi (RD g ζ n w t hb0 (.inl (k, q))) no2) 169 [(0, .ref w), (4, .int x4)] [.int 0] (ws hb w (t + 1) υ σ) :=
  rd_lines T1 ht wt (rd_end ⟨_, υ, σ, rfl, L.put _, b1, b2, ht, rfl, B⟩)
theorem rd_loop (wt : w + 14 ≤ t) (hNO : g.2.2.2.2.2.2 < t) (htb0 : t + 8 ≤ hb0.2.1) (H : ZAt hb0 (w + 9) ζ) (hT : Tok ζ n) (hN : ∀ p, ζ.2 0 p = 2 → ∃ j, j < 1000 ∧ ζ.2 1 p = nI j) (R : hb0.2.1 + n ≤ jB0 g + 601024 ∧ hb0.2.2 + n ≤ 7293034) : ∀ m j υ A p hb a, 900 = j + m → VL ζ n υ p → υ.2.1 = t → υ.1 0 = 0 → υ.1 1 = -1 → TL g hb t A → few A → LF hb0 hb t → 3 * (hb.2.1 - hb0.2.1) ≤ p → hb.2.2 - hb0.2.2 ≤ p → aRest (ζ.2 0) (ζ.2 1) m A p = a →
    J g mX7_read (d + 93) hs (jPi (RD g ζ n w t hb0 a) no2) 125 [(0, .ref w), (3, .int 1), (4, .int (nI j))] [] (ws hb w (t + 1) υ A.2.2) := by
  intro m
  induction m with
  | zero =>
    intro j υ A p hb a hj V ht e0 e1 TT F L b1 b2 ea
    have hp := V.2.2
    have ew : RD g ζ n w t hb0 a 1 (ws hb w (t + 1) υ A.2.2) := by
      rw [← ea]
      exact ⟨hb, υ, _, rfl, L, by omega, by omega, ht, rfl, e0, e1, TT, rfl, F⟩
    refine bX7_read_125 ⟨fun c => absurd c (nI_nlt (b := 900) (by omega) (by omega)), fun _ => ⟨Or.inr rfl, ew⟩⟩
  | succ m ih =>
    intro j υ A p hb a hj V ht e0 e1 TT F L b1 b2 ea
    have hp := V.2.2
    have v3 : υ.1 3 = ζ.2 0 p := V.2.1
    have hzb : ZAt hb (w + 9) ζ := fun i hi => (L.1 _ (by omega) (by omega)).trans (H i hi)
    have htb : t + 8 ≤ hb.2.1 := by have := L.2.1; omega
    refine bX7_read_125 ⟨fun _ => ⟨fun c => absurd c (by decide), fun _ => ⟨_, vput_0, _, rfl, fun c => ?_, fun c => ⟨_, vput_0, _, rfl, _, vput_0, ?_⟩⟩⟩, fun c => absurd (nI_lt (b := 900) (by omega) (by omega)) c⟩
    · replace c : ζ.2 0 p = 0 := v3.symm.trans c
      refine ⟨Or.inr rfl, ?_⟩
      have : a = .inr (A, p) := by rw [← ea]; unfold aRest; rw [if_pos c]
      rw [this]
      exact ⟨hb, υ, _, rfl, L, by omega, by omega, ht, rfl, e0, e1, TT, rfl, F⟩
    · replace c : ¬ ζ.2 0 p = 0 := fun k => c (v3.trans k)
      have ea2 : pgo (aLine (ζ.2 0) (ζ.2 1) A (abN A) p) (fun A' q => if ζ.2 0 q = 59 then aRest (ζ.2 0) (ζ.2 1) m (abRow A') (q + 1) else .inl (2, q)) = a := by rw [← ea, aRest, if_neg c]
      have l1 := L.2.1
      have l2 := L.2.2
      show Con g mX7_line (d + 92) [.ref w, .int (υ.1 3)] _ _
      rw [v3]
      refine (c_line hzb hT hN V c ht TT F wt hNO htb ⟨by omega, by omega⟩).pi (fun r h' hr => ?_) (fun E h' f => f.elim)
      obtain ⟨hb', υ', σ', rfl, L', hr⟩ := hr
      revert hr ea2
      cases aLine (ζ.2 0) (ζ.2 1) A (abN A) p with
      | inl kq =>
        obtain ⟨k, q⟩ := kq
        intro ea2 hr
        obtain ⟨rfl, B, e2, T', T1'⟩ := hr
        refine ⟨fun _ => bX7_read_168 ?_, fun c2 => absurd rfl c2⟩
        rw [← ea2]
        exact rd_bad T1' wt (L.tr L') (by rw [e2]; omega) (by rw [e2]; omega) (B.2.2.2.trans ht) ⟨B.1, B.2.1, B.2.2.1⟩
      | inr kq =>
        obtain ⟨A', q⟩ := kq
        intro ea2 hr
        obtain ⟨rfl, V', S', TT', rfl, F', hpq, c1, c2⟩ := hr
        have l3 := L'.2.1
        have l4 := L'.2.2
        have qn := V'.2.2
        refine ⟨fun c2 => absurd c2 (by decide), fun _ => ⟨_, vput_0, ?_⟩⟩
        have HS' := ws_Z (h := hb') (s := t + 1) (w := w) (σ := A'.2.2) (ζ := ζ) (Or.inr (by omega)) (fun i hi => (L'.1 _ (by omega) (by omega)).trans (hzb i hi))
        obtain ⟨x1, x2⟩ := tie_expL hT V' (t := 59) (by decide)
        obtain ⟨T', T1', T2'⟩ := id TT'
        refine (c_expect (h := sput hb' (t + 1) A'.2.2) HS').pi (fun r h' hr => ?_) (fun E h' f => f.elim)
        obtain ⟨rfl, rfl⟩ := hr
        replace ea2 : (if ζ.2 0 q = 59 then aRest (ζ.2 0) (ζ.2 1) m (abRow A') (q + 1) else .inl (2, q)) = a := ea2
        by_cases h59 : ζ.2 0 q = 59
        · obtain ⟨y1, y2, y3⟩ := x1 h59
          rw [if_pos h59] at ea2
          rw [y1]
          refine ⟨fun c2 => absurd c2 (by decide), fun _ => ?_⟩
          refine rd_lines T1'.1 (y3.2.2.2.trans (S'.2.2.trans ht)) wt ?_
          rw [nI_1]
          refine ih (j + 1) _ (abRow A') (q + 1) _ a (by omega) y2 (y3.2.2.2.trans (S'.2.2.trans ht)) (y3.1.trans (S'.1.trans e0)) (y3.2.1.trans (S'.2.1.trans e1)) (TL.ring (A := abRow A') hNO T1' T2'.2 (i := (T'.1.1, T'.1.2.1 + 1, T'.1.2.2)) ?_) F' ((L.tr L').put _) (by show 3 * (hb'.2.1 - _) ≤ _; omega) (by show hb'.2.2 - _ ≤ _; omega) ea2
          show (T'.1.1, T'.1.2.1 + 1, T'.1.2.2) = (A'.1.1, A'.1.2.1 + 1, A'.1.2.2)
          rw [T2'.1]
        · obtain ⟨y1, y2⟩ := x2 h59
          rw [if_neg h59] at ea2
          rw [y1]
          refine ⟨fun _ => bX7_read_168 ?_, fun c2 => absurd rfl c2⟩
          rw [← ea2]
          exact rd_bad T1'.1 wt (L.tr L') (by omega) (by omega) (y2.2.2.2.trans (S'.2.2.trans ht)) ⟨y2.1, y2.2.1, y2.2.2.1⟩
end RDS
