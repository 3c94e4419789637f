/-! The kept search; orders agree -/
def ko (T : Td) (os : Os) : Prop := can os.2.2.2.2 ∧ ∃ N, N ≤ 20 ∧ os.1 2 = nI N ∧ ∀ b, (os.1 0 = (hGo T os.2.2.2.2 N b).1 ∧ ∀ i, i < sN os.2.2.2.2 → os.2.2.1 i = (hGo T os.2.2.2.2 N b).2.2 i) ∧ (¬ os.1 3 = 0 → os.1 1 = (hGo T os.2.2.2.2 N b).2.1)
/-- what is told or kept told -/
def isTold (ω : CW) (τ : To) : Prop := τ = wT ω ∨ ∃ i, i < 3 ∧ (wG ω i).1 = some τ
def KO (ω : CW) (top : Nat) : Prop := (∀ τ, isTold ω τ → τ.1 < top) ∧ (∀ τ τ', isTold ω τ → isTold ω τ' → τ.1 = τ'.1 → τ.2.1 = τ'.2.1) ∧ ∀ t, (wO ω).2.1 = some t → ∃ T0, t < top ∧ ko T0 (wO ω) ∧ ∀ τ, isTold ω τ → τ.1 = t → τ.2.1 = T0
section VOR
variable {g : jG} {d : Nat} {h : jH} {m : Nat} {μ ν : MW} {ω ω' : CW} {i k n w : Int32} {σ τ : St} {T : Td} {N top : Nat} {all : Int32} {os : Os} {b : Nat → Int32}
theorem srF_7 {ν : St} : ∀ m (os : Os), p7 os.2.2.2.1 → p7 (srF T ν N all m os).2.2.2.1
  | 0, _, H => H
  | m + 1, os, H => by
    rw [srF]
    cases e : stepF os.2.2.2.1 (sN ν) with
    | none =>
      show p7 (noteF os _).2.2.2.1
      rw [noteF_H]; exact H
    | some p =>
      have hp := stepF_7 H e
      show p7 (if _ then _ else _ : Os).2.2.2.1
      split
      · exact hp
      · exact srF_7 m _ hp
theorem idN_7 {p : Nat → Nat} (H : p7 p) : p7 (idN p) := fun i => by
  unfold idN
  split
  · assumption
  · exact H i
theorem KO.tops {top' : Nat} (x : KO ω top) (h : top ≤ top') : KO ω top' :=
  ⟨fun τ hτ => Nat.lt_of_lt_of_le (x.1 τ hτ) h, x.2.1, fun t ht => by
    obtain ⟨T0, a, b⟩ := x.2.2 t ht
    exact ⟨T0, Nat.lt_of_lt_of_le a h, b⟩⟩
theorem KO.like (x : KO ω top) (eT : wT ω' = wT ω) (eG : ∀ i, i < 3 → (wG ω' i).1 = (wG ω i).1) (eO : wO ω' = wO ω) : KO ω' top := by
  have e : ∀ τ, isTold ω' τ → isTold ω τ := by
    intro τ hτ
    rcases hτ with c | ⟨i, hi, c⟩
    · exact Or.inl (c.trans eT)
    · exact Or.inr ⟨i, hi, (eG i hi).symm.trans c⟩
  refine ⟨fun τ hτ => x.1 τ (e τ hτ), fun τ τ' h1 h2 => x.2.1 τ τ' (e τ h1) (e τ' h2), fun t ht => ?_⟩
  rw [eO] at ht ⊢
  obtain ⟨T0, a, b, c⟩ := x.2.2 t ht
  exact ⟨T0, a, b, fun τ hτ => c τ (e τ hτ)⟩
theorem nI_ij {a b : Nat} (ha : a < 2 ^ 31) (hb : b < 2 ^ 31) (e : nI a = nI b) : a = b := by
  have := congrArg ix e
  rw [ix_nI ha, ix_nI hb] at this
  exact this
/-- what a search leaves -/
theorem sr_ok (B : stB (wS ω)) (c : can (wS ω)) (K : KO ω top) (H7 : p7 (wO ω).2.2.2.1) (hN : N ≤ 20) (s : srRes ω N all os) : ((∀ b, (os.1 0 = (hGo (tT ω) (wS ω) N b).1 ∧ ∀ i, i < sN (wS ω) → os.2.2.1 i = (hGo (tT ω) (wS ω) N b).2.2 i) ∧ (¬ all = 0 → os.1 1 = (hGo (tT ω) (wS ω) N b).2.1))) ∧ KO (pO ω os) top ∧ p7 os.2.2.2.1 := by
  rcases s with ⟨⟨h1, h2, h3, h4⟩, rfl⟩ | ⟨hm, rfl⟩
  · obtain ⟨T0, a, ⟨c0, N0, n1, n2, n3⟩, e⟩ := K.2.2 _ h1
    have eT : tT ω = T0 := e (wT ω) (Or.inl rfl) rfl
    have eS : (wO ω).2.2.2.2 = wS ω := can_eq c0 c h3
    have eN : N0 = N := nI_ij (by omega) (by omega) (n2.symm.trans h2)
    subst eN
    rw [eS, ← eT] at n3
    refine ⟨fun b => ⟨(n3 b).1, fun ha => (n3 b).2 (h4.elim id (fun z => absurd z ha))⟩, K, H7⟩
  · have M := fun b => sr_main (T := tT ω) (ν := wS ω) (N := N) (all := all) (t := (wT ω).1) (O := wO ω) (b := b) B
    have P := srF_7 (T := tT ω) (ν := wS ω) (N := N) (all := all) 5040 (srBeg (wO ω) (wT ω).1 (wS ω) N) (idN_7 H7)
    generalize srF (tT ω) (wS ω) N all 5040 (srBeg (wO ω) (wT ω).1 (wS ω) N) = os at M P
    have e2 := (M (fun _ => 0)).2.2.2
    refine ⟨fun b => ⟨(M b).1.1, fun ha => (M b).1.2.2 (fun z => ha ((M b).1.2.1 z))⟩, ⟨?_, ?_, fun t ht => ?_⟩, P⟩
    · exact fun τ hτ => K.1 τ hτ
    · exact fun τ τ' h1 h2 => K.2.1 τ τ' h1 h2
    · have e1 : (wT ω).1 = t := Option.some.inj ((M (fun _ => 0)).2.1.symm.trans ht)
      refine ⟨tT ω, by rw [← e1]; exact K.1 _ (Or.inl rfl), ⟨?_, N, hN, (M (fun _ => 0)).2.2.1, fun b => ?_⟩, fun τ hτ e => ?_⟩
      · show can os.2.2.2.2
        rw [e2]; exact c
      · show (os.1 0 = (hGo (tT ω) os.2.2.2.2 N b).1 ∧ ∀ i, i < sN os.2.2.2.2 → os.2.2.1 i = (hGo (tT ω) os.2.2.2.2 N b).2.2 i) ∧ (¬ os.1 3 = 0 → os.1 1 = (hGo (tT ω) os.2.2.2.2 N b).2.1)
        rw [e2]
        exact ⟨(M b).1.1, fun z => (M b).1.2.2 z⟩
      · exact K.2.1 τ (wT ω) hτ (Or.inl rfl) (e.trans e1.symm)
theorem Rel.ord (x : Rel ω μ) (H : p7 os.2.2.2.1) : Rel (pO ω os) μ := ⟨x.1, x.2.1, x.2.2.1, x.2.2.2.1, x.2.2.2.2.1, H⟩
theorem v_orders (x : Rel ω μ) : Con g mX12_orders (d + 40) [.ref m, .int n] (mw h m μ) (wPi h m (agA [iae] (hOrders (tT ω) (wS ω) (μ.2.1 12) n) ω)) :=
  x.gi (m_orders (d := d + 22) (μ := μ) (σ := wS ω) (T := tT ω) (n := n) x.1.2.1.1.1 x.1.1.1.1) rfl
theorem v_order (x : Rel ω μ) : Con g mX12_order (d + 40) [.ref m, .int n, .int w] (mw h m μ) (wPi h m (agA [iae] (hOrder (tT ω) (wS ω) (μ.2.1 12) n w) ω)) :=
  x.gi (m_order (d := d + 22) (μ := μ) (σ := wS ω) (T := tT ω) (n := n) (w := w) x.1.2.1.1.1 x.1.1.1.1) rfl
theorem o_orders (x : Rel ω μ) (K : KO ω top) (hn : inN n 1 20 = true) (s : srRes ω (ix n) 1 os) : hOrders (tT ω) (wS ω) b n = .inr (os.1 1) ∧ Rel (pO ω os) μ ∧ KO (pO ω os) top := by
  obtain ⟨-, -, n2⟩ := inN_nI (a := 1) (b := 20) (by omega) (by omega) hn
  obtain ⟨h1, h2, h3⟩ := sr_ok x.1.2.1.1.1 x.1.2.1.1.2 K x.2.2.2.2.2 n2 s
  refine ⟨?_, x.ord h3, h2⟩
  unfold hOrders
  rw [if_neg (by rw [hn]; exact fun f => Bool.noConfusion f), (h1 b).2 (by decide)]
theorem o_order (x : Rel ω μ) (K : KO ω top) (hn : whyOrd n w = none) (s : srRes ω (ix n) 0 os) : hOrder (tT ω) (wS ω) b n w = .inr (valOrd ω w os) ∧ Rel (pO ω os) μ ∧ KO (pO ω os) top := by
  unfold whyOrd at hn
  by_cases c1 : inN n 1 20 = false
  · rw [if_pos c1] at hn; exact (Option.some_ne_none _ hn).elim
  have c2 : inN n 1 20 = true := by revert c1; cases inN n 1 20 <;> simp
  rw [if_neg c1] at hn
  obtain ⟨-, -, n2⟩ := inN_nI (a := 1) (b := 20) (by omega) (by omega) c2
  have S := x.1.2.1.1.1.1
  obtain ⟨h1, h2, h3⟩ := sr_ok x.1.2.1.1.1 x.1.2.1.1.2 K x.2.2.2.2.2 n2 s
  refine ⟨?_, x.ord h3, h2⟩
  unfold hOrder valOrd
  rw [if_neg c1]
  by_cases c3 : w = 0
  · rw [if_pos c3, if_pos c3, (h1 b).1.1]
  rw [if_neg c3] at hn ⊢
  rw [if_neg c3]
  by_cases c4 : inN w 10 16 = false
  · rw [if_pos c4] at hn; exact (Option.some_ne_none _ hn).elim
  rw [if_neg c4]
  have c5 : inN w 10 16 = true := by revert c4; cases inN w 10 16 <;> simp
  obtain ⟨e1, -, e2⟩ := inN_nI (a := 10) (b := 16) (by omega) (by omega) c5
  have e3 := of_decide_eq_true c5
  rw [Int32.lt_iff_toInt_lt] at e3
  have t10 : (10 : Int32).toInt = 10 := rfl
  have tw := nI_toInt (n := ix w) (by omega)
  rw [← e1] at tw
  rw [t10] at e3
  have e4 : w - 10 = nI (ix w - 10) := by
    apply Int32.toInt_inj.mp
    rw [tI_sub (by omega), nI_toInt (by omega), t10]
    omega
  rw [e4]
  have h7 := S.2
  have e5 : ix (nI (ix w - 10)) = ix w - 10 := ix_nI (by omega)
  by_cases c6 : ix w - 10 < sN (wS ω)
  · have a1 : nI (ix w - 10) < (wS ω).1 0 := by rw [S.1]; exact nI_lt c6 (by omega)
    have a2 : sHas (wS ω) (nI (ix w - 10)) = true := decide_eq_true ⟨nI_pos (by omega), a1⟩
    rw [if_pos a1, if_pos a2, e5, (h1 b).1.2 _ c6]
  · have a1 : ¬ nI (ix w - 10) < (wS ω).1 0 := by rw [S.1]; exact nI_nlt (by omega) (by omega)
    have a2 : ¬ sHas (wS ω) (nI (ix w - 10)) = true := fun z => by
      have := (sHas_ix S z).1
      omega
    rw [if_neg a1, if_neg a2]
end VOR
