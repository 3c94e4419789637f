/-! The reader over tokens: numbers, houses, lines, a text -/
def aNum (K N : Nat → Int32) (most : Int32) (p : Nat) : Pr Int32 := if K p = 2 then (if most < N p then .inl (3, p) else .inr (N p, p + 1)) else .inl (2, p)
def flRow (t : Int32) : Nat := if t = 131 then 2 else if t = 138 then 4 else 5
def aFlg (K N : Nat → Int32) (i : Nat) : Nat → St → Nat → Pr St
  | 0, σ, p => .inr (σ, p)
  | m + 1, σ, p => if K p = 140 then aFlg K N i m (setR σ 3 (upd (σ.2 3) i 1)) (p + 1)
    else if K p = 131 ∨ K p = 138 ∨ K p = 139 then pgo (aNum K N (if K p = 139 then 20 else 999) (p + 1)) (fun v q => aFlg K N i m (setR σ (flRow (K p)) (upd (σ.2 (flRow (K p))) i v)) q) else .inr (σ, p)
def homeZ (σ : St) (i : Nat) : St := setI (if σ.2 3 i = 1 then setR σ 2 (upd (σ.2 2) i 0) else σ) 0 (σ.1 0 + 1)
def aHome (K N : Nat → Int32) (σ : St) (n p : Nat) : Pr St := if n = 7 then .inl (4, p) else
  pgo (aNum K N 99 (p + 1)) (fun v q => if K q = 133 then pgo (aNum K N 99 (q + 1)) (fun u r =>
    pgo (aFlg K N n 900 (setR (setR σ 0 (upd (σ.2 0) n v)) 1 (upd (σ.2 1) n u)) r) (fun σ' s => .inr (homeZ σ' n, s))) else .inl (2, q))
/-- what a text tells: ring, lines, limit; the laws; the street at its start -/
abbrev Ab : Type := (Int32 × Int32 × Int32) × (Option Ex × Option Ex × Option Ex) × St
def abLaw (A : Ab) (k : Nat) (e : Ex) : Ab := (A.1, if k = 0 then (some e, A.2.1.2) else if k = 1 then (A.2.1.1, some e, A.2.1.2.2) else (A.2.1.1, A.2.1.2.1, some e), A.2.2)
def abSt (A : Ab) (σ : St) : Ab := (A.1, A.2.1, σ)
def abLim (A : Ab) (v : Int32) : Ab := ((A.1.1, A.1.2.1, v), A.2)
def abRow (A : Ab) : Ab := ((A.1.1, A.1.2.1 + 1, A.1.2.2), A.2)
def abBeg (ring : Int32) : Ab := ((ring, 1, 100), (none, none, none), (fun _ => 0, fun _ _ => 0))
def aLw (K N : Nat → Int32) (k : Nat) (A : Ab) (p : Nat) : Pr Ab := if K (p + 1) = 58 then pgo (aLaw K N k (p + 2)) (fun e q => .inr (abLaw A k e, q)) else .inl (2, p + 1)
def aLine (K N : Nat → Int32) (A : Ab) (n p : Nat) : Pr Ab :=
  if K p = 129 then pgo (aHome K N A.2.2 n p) (fun σ q => .inr (abSt A σ, q))
  else if K p = 130 then pgo (aNum K N 999 (p + 1)) (fun v q => .inr (abSt A (setI A.2.2 2 v), q))
  else if K p = 141 then aLw K N 0 A p
  else if K p = 142 then aLw K N 1 A p
  else if K p = 143 then aLw K N 2 A p
  else if K p = 144 then pgo (aNum K N 999 (p + 1)) (fun v q => .inr (abLim A v, q))
  else .inl (2, p)
def abN (A : Ab) : Nat := ix (A.2.2.1 0)
def aRest (K N : Nat → Int32) : Nat → Ab → Nat → Pr Ab
  | 0, A, p => .inr (A, p)
  | m + 1, A, p => if K p = 0 then .inr (A, p) else pgo (aLine K N A (abN A) p) (fun A' q => if K q = 59 then aRest K N m (abRow A') (q + 1) else .inl (2, q))
def aRead (K N : Nat → Int32) : Pr Ab := if K 0 = 135 then (if K 1 = 136 ∨ K 1 = 137 then (if K 2 = 59 then aRest K N 900 (abBeg (if K 1 = 136 then 1 else 0)) 3 else .inl (2, 2)) else .inl (2, 1)) else .inl (2, 0)
/-! The teller follows it -/
def TieS (ζ : Zs) (n : Nat) (υ : Vs) (p : Nat) (r : Bool × Vs × St) (a : Pr St) : Prop := match a with
  | .inl (k, q) => r.1 = false ∧ Bad ζ n υ r.2.1 k q
  | .inr (σ, q) => r.1 = true ∧ VL ζ n r.2.1 q ∧ p ≤ q ∧ sameV υ r.2.1 ∧ r.2.2 = σ
def TieN (ζ : Zs) (n : Nat) (υ : Vs) (p : Nat) (r : Int32 × Vs) (a : Pr Int32) : Prop := match a with
  | .inl (k, q) => r.1 = -1 ∧ Bad ζ n υ r.2 k q
  | .inr (v, q) => r.1 = v ∧ ¬ v = -1 ∧ VL ζ n r.2 q ∧ p ≤ q ∧ sameV υ r.2
section TIL
variable {ζ : Zs} {n : Nat} {υ : Vs} {p : Nat}
theorem n1000 : ∀ j, j < 1000 → ¬ nI j = -1 := by decide +kernel
theorem tie_num (hT : Tok ζ n) (hN : ∀ p, ζ.2 0 p = 2 → ∃ j, j < 1000 ∧ ζ.2 1 p = nI j) (V : VL ζ n υ p) (most : Int32) : TieN ζ n υ p (numToF ζ υ most) (aNum (ζ.2 0) (ζ.2 1) most p) := by
  unfold numToF aNum
  rw [V.2.1, VL_numb hT V]
  by_cases h : ζ.2 0 p = 2
  · rw [if_pos h, if_pos h]
    by_cases h1 : most < ζ.2 1 p
    · rw [if_pos h1, if_pos h1]
      exact ⟨rfl, VL_fail hT V 3⟩
    · rw [if_neg h1, if_neg h1]
      obtain ⟨j, hj, ej⟩ := hN p h
      obtain ⟨V1, S1, _⟩ := VL_skip hT V (by rw [h]; decide)
      exact ⟨rfl, by rw [ej]; exact n1000 j hj, V1, Nat.le_succ p, S1⟩
  · rw [if_neg h, if_neg h]
    exact ⟨rfl, VL_fail hT V 2⟩
theorem tie_flags (hT : Tok ζ n) (hN : ∀ p, ζ.2 0 p = 2 → ∃ j, j < 1000 ∧ ζ.2 1 p = nI j) {i : Nat} {υ0 : Vs} {p0 : Nat} : ∀ m υ σ p, sameV υ0 υ → p0 ≤ p → VL ζ n υ p → TieS ζ n υ0 p0 (flagsR ζ i m true υ σ) (aFlg (ζ.2 0) (ζ.2 1) i m σ p) := by
  have ff : ∀ m υ σ, flagsR ζ i m false υ σ = (false, υ, σ) := by
    intro m υ σ
    cases m <;> rfl
  intro m
  induction m with
  | zero => intro υ σ p S hp V; exact ⟨rfl, V, hp, S, rfl⟩
  | succ m ih =>
    intro υ σ p S hp V
    unfold flagsR aFlg
    rw [if_neg (by decide)]
    have v3 : υ.1 3 = ζ.2 0 p := V.2.1
    by_cases h : ζ.2 0 p = 140
    · have e1 : isFlagF υ = true := decide_eq_true (by rw [v3]; exact Or.inr (Or.inr (Or.inr h)))
      have e2 : flagF ζ υ σ i = (true, skF ζ υ, setR σ 3 (upd (σ.2 3) i 1)) := if_pos (v3.trans h)
      rw [if_pos e1, if_pos h, e2]
      obtain ⟨V1, S1, _⟩ := VL_skip hT V (by rw [h]; decide)
      exact ih _ _ _ (S.tr S1) (by omega) V1
    rw [if_neg h]
    by_cases h2 : ζ.2 0 p = 131 ∨ ζ.2 0 p = 138 ∨ ζ.2 0 p = 139
    · have e1 : isFlagF υ = true := decide_eq_true (by
        rw [v3]
        rcases h2 with q | q | q
        · exact Or.inl q
        · exact Or.inr (Or.inl q)
        · exact Or.inr (Or.inr (Or.inl q)))
      have e2 : flagF ζ υ σ i = (decide (¬ (numToF ζ (skF ζ υ) (if ζ.2 0 p = 139 then 20 else 999)).1 = -1), (numToF ζ (skF ζ υ) (if ζ.2 0 p = 139 then 20 else 999)).2, setR σ (flRow (ζ.2 0 p)) (upd (σ.2 (flRow (ζ.2 0 p))) i (numToF ζ (skF ζ υ) (if ζ.2 0 p = 139 then 20 else 999)).1)) := by
        unfold flagF
        rw [v3, if_neg h]
        rfl
      rw [if_pos e1, if_pos h2, e2]
      obtain ⟨V1, S1, _⟩ := VL_skip hT V (by rcases h2 with q | q | q <;> rw [q] <;> decide)
      have T := tie_num hT hN V1 (if ζ.2 0 p = 139 then 20 else 999)
      revert T
      generalize numToF ζ (skF ζ υ) (if ζ.2 0 p = 139 then 20 else 999) = r
      cases aNum (ζ.2 0) (ζ.2 1) (if ζ.2 0 p = 139 then 20 else 999) (p + 1) with
      | inl kq =>
        obtain ⟨k, q⟩ := kq
        rintro ⟨t1, t2⟩
        show TieS ζ n υ0 p0 (flagsR ζ i m (decide (¬ r.1 = -1)) r.2 _) (.inl (k, q))
        rw [decide_eq_false (by rw [t1]; exact fun k => k rfl), ff]
        exact ⟨rfl, t2.1, t2.2.1, t2.2.2.1, t2.2.2.2.trans (S.tr S1).2.2.2⟩
      | inr kq =>
        obtain ⟨v, q⟩ := kq
        rintro ⟨t1, t2, t3, t4, t5⟩
        show TieS ζ n υ0 p0 (flagsR ζ i m (decide (¬ r.1 = -1)) r.2 _) (aFlg _ _ i m _ q)
        rw [t1, decide_eq_true t2]
        exact ih _ _ _ (S.tr (S1.tr t5)) (by omega) t3
    · have e1 : ¬ isFlagF υ = true := by
        unfold isFlagF
        rw [v3]
        intro k
        rcases of_decide_eq_true k with q | q | q | q
        · exact h2 (Or.inl q)
        · exact h2 (Or.inr (Or.inl q))
        · exact h2 (Or.inr (Or.inr q))
        · exact h q
      rw [if_neg e1, if_neg h2]
      exact ⟨rfl, V, hp, S, rfl⟩
theorem tie_home (hT : Tok ζ n) (hN : ∀ p, ζ.2 0 p = 2 → ∃ j, j < 1000 ∧ ζ.2 1 p = nI j) (V : VL ζ n υ p) (h0 : ¬ ζ.2 0 p = 0) {σ : St} {i : Nat} (hi : ¬ i = 7) : TieS ζ n υ p (homeF ζ υ σ i) (aHome (ζ.2 0) (ζ.2 1) σ i p) := by
  unfold homeF aHome
  rw [if_neg hi]
  obtain ⟨V1, S1, _⟩ := VL_skip hT V h0
  have T := tie_num hT hN V1 99
  revert T
  generalize numToF ζ (skF ζ υ) 99 = r
  cases aNum (ζ.2 0) (ζ.2 1) 99 (p + 1) with
  | inl kq =>
    obtain ⟨k, q⟩ := kq
    rintro ⟨t1, t2⟩
    dsimp only
    rw [if_pos t1]
    exact ⟨rfl, t2.1, t2.2.1, t2.2.2.1, t2.2.2.2.trans S1.2.2.2⟩
  | inr kq =>
    obtain ⟨v, q⟩ := kq
    rintro ⟨t1, t2, t3, t4, t5⟩
    dsimp only
    rw [if_neg (by rw [t1]; exact t2)]
    show TieS ζ n υ p _ (if ζ.2 0 q = 133 then _ else .inl (2, q))
    obtain ⟨x1, x2⟩ := tie_expL hT t3 (t := 133) (by decide)
    by_cases h : ζ.2 0 q = 133
    · rw [if_pos h]
      obtain ⟨y1, y2, y3⟩ := x1 h
      rw [if_neg (by rw [y1]; decide)]
      have T2 := tie_num hT hN y2 99
      revert T2
      generalize expF ζ r.2 133 = ee at *
      generalize numToF ζ ee.2 99 = r2
      cases aNum (ζ.2 0) (ζ.2 1) 99 (q + 1) with
      | inl kq =>
        obtain ⟨k, q2⟩ := kq
        rintro ⟨u1, u2⟩
        rw [decide_eq_false (by rw [u1]; exact fun k => k rfl)]
        exact ⟨rfl, u2.1, u2.2.1, u2.2.2.1, u2.2.2.2.trans (S1.tr (t5.tr y3)).2.2.2⟩
      | inr kq =>
        obtain ⟨v2, q2⟩ := kq
        rintro ⟨u1, u2, u3, u4, u5⟩
        rw [u1, decide_eq_true u2, t1]
        have T3 := tie_flags (υ0 := υ) (p0 := p) (i := i) hT hN 900 r2.2 (setR (setR σ 0 (upd (σ.2 0) i v)) 1 (upd ((setR σ 0 (upd (σ.2 0) i v)).2 1) i v2)) q2 (S1.tr (t5.tr (y3.tr u5))) (by omega) u3
        revert T3
        show _ → TieS ζ n υ p (homeE (flagsR ζ i 900 true r2.2 (setR (setR σ 0 (upd (σ.2 0) i v)) 1 (upd ((setR σ 0 (upd (σ.2 0) i v)).2 1) i v2))) i) (pgo (aFlg (ζ.2 0) (ζ.2 1) i 900 (setR (setR σ 0 (upd (σ.2 0) i v)) 1 (upd ((setR σ 0 (upd (σ.2 0) i v)).2 1) i v2)) q2) (fun σ' s => Sum.inr (homeZ σ' i, s)))
        generalize flagsR ζ i 900 true r2.2 (setR (setR σ 0 (upd (σ.2 0) i v)) 1 (upd ((setR σ 0 (upd (σ.2 0) i v)).2 1) i v2)) = rr
        cases aFlg (ζ.2 0) (ζ.2 1) i 900 (setR (setR σ 0 (upd (σ.2 0) i v)) 1 (upd ((setR σ 0 (upd (σ.2 0) i v)).2 1) i v2)) q2 with
        | inl kq =>
          obtain ⟨k, q3⟩ := kq
          rintro ⟨w1, w2⟩
          exact ⟨w1, w2⟩
        | inr kq =>
          obtain ⟨σ', q3⟩ := kq
          rintro ⟨w1, w2, w3, w4, w5⟩
          refine ⟨w1, w2, w3, w4, ?_⟩
          show (homeE rr i).2.2 = homeZ σ' i
          rw [← w5]
          rfl
    · rw [if_neg h]
      obtain ⟨y1, y2⟩ := x2 h
      rw [if_pos y1]
      exact ⟨rfl, y2.1, y2.2.1, y2.2.2.1, y2.2.2.2.trans (S1.tr t5).2.2.2⟩
end TIL
