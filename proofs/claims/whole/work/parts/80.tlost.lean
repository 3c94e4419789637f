/-! The two agree: the lost -/
def lstG (T : Td) (lim : Int32) (σ : St) (n i : Nat) : Bool := goneB (pasN T lim σ n) i && !goneB σ i
abbrev lstC (T : Td) (lim : Int32) (σ : St) (n : Nat) : Nat := bcnt (lstG T lim σ n) (sN σ)
section TLO
variable {T : Td} {lim : Int32} {σ α : St} {n m i j k : Nat} {e : Int32}
theorem gone_step (B : stB σ) (hi : i < sN σ) : goneB (pas T lim σ) i = (goneB σ i || ruB lim (pas2 T σ) i) ∧ (ruB lim (pas2 T σ) i = true → goneB σ i = false) := by
  have e3 : (pas T lim σ).2 3 i = ruG lim (pas2 T σ) i := by
    show fst (sN σ) (ruG lim (pas2 T σ)) ((pas2 T σ).2 3) i = _
    unfold fst
    rw [if_pos hi]
  have g1 := (B.2.1 i hi).1
  have p3 : (pas2 T σ).2 3 i = σ.2 3 i := rfl
  have r0 : ruB lim (pas2 T σ) i = true → σ.2 3 i = 0 := fun c => p3.symm.trans (of_decide_eq_true c).1
  refine ⟨?_, fun c => ?_⟩
  · unfold goneB
    rw [e3]
    unfold ruG
    by_cases c : ruB lim (pas2 T σ) i = true
    · rw [if_pos c, c, Bool.or_true]; rfl
    · rw [if_neg c, p3]
      cases hh : ruB lim (pas2 T σ) i with
      | true => exact absurd hh c
      | false => rw [Bool.or_false]
  · unfold goneB
    rw [r0 c]; rfl
theorem pasN_N : ∀ n, sN (pasN T lim σ n) = sN σ := fun n => by unfold sN; rw [pasN_1]
theorem gone_mono (B : stB σ) (hi : i < sN σ) : ∀ k n, goneB (pasN T lim σ n) i = true → goneB (pasN T lim σ (n + k)) i = true := by
  intro k
  induction k with
  | zero => intro n h; exact h
  | succ k ih =>
    intro n h
    have := gone_step (T := T) (lim := lim) (stB_pasN (T := T) (lim := lim) B (n + k)) (i := i) (by rw [pasN_N]; exact hi)
    show goneB (pas T lim (pasN T lim σ (n + k))) i = true
    rw [this.1, ih n h]; rfl
theorem sum_bI (f : Nat → Bool) : ∀ n, n < 1000 → sumN (fun i => bI (f i)) n = nI (bcnt f n)
  | 0, _ => rfl
  | n + 1, h => by
    show sumN (fun i => bI (f i)) n + bI (f n) = nI (bcnt f n + (if f n = true then 1 else 0))
    rw [sum_bI f n (by omega)]
    by_cases c : f n = true
    · rw [if_pos c, c, show bI true = 1 from rfl, nI_1]
    · rw [if_neg c, Nat.add_zero]
      have : f n = false := by cases hh : f n with | true => exact absurd hh c | false => rfl
      rw [this, show bI false = 0 from rfl, Int32.add_zero]
theorem bcnt_or {f a b : Nat → Bool} : ∀ n, (∀ i, i < n → f i = (a i || b i) ∧ (b i = true → a i = false)) → bcnt f n = bcnt a n + bcnt b n
  | 0, _ => rfl
  | n + 1, h => by
    have ih := bcnt_or n (fun i hi => h i (by omega))
    obtain ⟨h1, h2⟩ := h n (by omega)
    show bcnt f n + (if f n = true then 1 else 0) = bcnt a n + (if a n = true then 1 else 0) + (bcnt b n + (if b n = true then 1 else 0))
    rw [ih, h1]
    cases ha : a n with
    | true =>
      cases hb : b n with
      | true => rw [h2 hb] at ha; cases ha
      | false => simp; omega
    | false =>
      cases hb : b n with
      | true => simp; omega
      | false => simp
theorem lst_step (B : stB σ) (n : Nat) : lstC T lim σ (n + 1) = lstC T lim σ n + bcnt (ruB lim (pas2 T (pasN T lim σ n))) (sN σ) := by
  refine bcnt_or (sN σ) (fun i hi => ?_)
  obtain ⟨g1, g2⟩ := gone_step (T := T) (lim := lim) (stB_pasN (T := T) (lim := lim) B n) (i := i) (by rw [pasN_N]; exact hi)
  unfold lstG
  have g1 : goneB (pasN T lim σ (n + 1)) i = (goneB (pasN T lim σ n) i || ruB lim (pas2 T (pasN T lim σ n)) i) := g1
  refine ⟨?_, fun c => ?_⟩
  · rw [g1]
    have mono := gone_mono (T := T) (lim := lim) B hi n 0
    rw [Nat.zero_add] at mono
    have mono : goneB σ i = true → goneB (pasN T lim σ n) i = true := mono
    cases h0 : goneB σ i with
    | true =>
      have g2' : ruB lim (pas2 T (pasN T lim σ n)) i = false := by
        cases hh : ruB lim (pas2 T (pasN T lim σ n)) i with
        | false => rfl
        | true => rw [mono h0] at g2; exact absurd (g2 hh) (by decide)
      rw [g2']; simp
    | false => simp
  · rw [g2 c]; rfl
theorem lost_sum (B : stB σ) : ∀ n, lostN T lim σ n = nI (lstC T lim σ n)
  | 0 => by
    show (0 : Int32) = nI (bcnt (fun i => goneB σ i && !goneB σ i) (sN σ))
    have : ∀ N, bcnt (fun i => goneB σ i && !goneB σ i) N = 0 := by
      intro N
      induction N with
      | zero => rfl
      | succ N ih =>
        show bcnt _ N + (if (goneB σ N && !goneB σ N) = true then 1 else 0) = 0
        rw [ih]
        cases goneB σ N <;> rfl
    rw [this]; rfl
  | n + 1 => by
    have ih := lost_sum B n
    have h7 := B.1.2
    show lostN T lim σ n + pasRuin T lim (pasN T lim σ n) = _
    rw [ih, lst_step B n]
    have e : pasRuin T lim (pasN T lim σ n) = nI (bcnt (ruB lim (pas2 T (pasN T lim σ n))) (sN σ)) := by
      unfold pasRuin ruN
      rw [sum_bI _ _ (by rw [pasN_N]; omega), pasN_N]
    rw [e, nI_add]
theorem lst_mono (B : stB σ) : ∀ k n, lstC T lim σ n ≤ lstC T lim σ (n + k)
  | 0, n => Nat.le_refl _
  | k + 1, n => by
    have := lst_mono B k n
    have e := lst_step (T := T) (lim := lim) B (n + k)
    show lstC T lim σ n ≤ lstC T lim σ (n + k + 1)
    omega
theorem lst_7 (B : stB σ) (n : Nat) : lstC T lim σ n ≤ 7 := Nat.le_trans (bcnt_max _ _) B.1.2
theorem losI_c : ∀ m i, i ≤ losI T lim α e m i ∧ losI T lim α e m i ≤ i + m ∧ (losI T lim α e m i < i + m → e < lostN T lim α (losI T lim α e m i))
  | 0, i => ⟨Nat.le_refl _, Nat.le_refl _, fun h => absurd h (Nat.lt_irrefl _)⟩
  | m + 1, i => by
    rw [losI]
    by_cases c : e < lostN T lim α i
    · rw [if_pos c]
      exact ⟨Nat.le_refl _, by omega, fun _ => c⟩
    · rw [if_neg c]
      obtain ⟨h1, h2, h3⟩ := losI_c m (i + 1)
      exact ⟨by omega, by omega, fun h => h3 (by omega)⟩
/-- counted to the end -/
theorem los_7 (B : stB α) : losI T lim α 7 n 0 = n := by
  obtain ⟨h1, h2, h3⟩ := losI_c (T := T) (lim := lim) (α := α) (e := 7) n 0
  by_cases c : losI T lim α 7 n 0 < 0 + n
  · have := h3 c
    rw [lost_sum B] at this
    have := (nI_lti (a := 7) (by omega) (by have := lst_7 (T := T) (lim := lim) B (losI T lim α 7 n 0); omega)).mp this
    have := lst_7 (T := T) (lim := lim) B (losI T lim α 7 n 0)
    omega
  · omega
/-- counted as far as it matters -/
theorem los_k (B : stB α) (hk : k < 1000) : ∃ a, lostN T lim α (losI T lim α (nI k) n 0) = nI a ∧ a ≤ lstC T lim α n ∧ (a = lstC T lim α n ∨ k < a) := by
  obtain ⟨h1, h2, h3⟩ := losI_c (T := T) (lim := lim) (α := α) (e := nI k) n 0
  refine ⟨lstC T lim α (losI T lim α (nI k) n 0), lost_sum B _, ?_, ?_⟩
  · have := lst_mono (T := T) (lim := lim) B (n - losI T lim α (nI k) n 0) (losI T lim α (nI k) n 0)
    rw [show losI T lim α (nI k) n 0 + (n - losI T lim α (nI k) n 0) = n by omega] at this
    exact this
  · by_cases c : losI T lim α (nI k) n 0 < 0 + n
    · have := h3 c
      rw [lost_sum B] at this
      have l7 := lst_7 (T := T) (lim := lim) B (losI T lim α (nI k) n 0)
      exact Or.inr ((nI_lti (by omega) (by omega)).mp this)
    · exact Or.inl (by rw [show losI T lim α (nI k) n 0 = n by omega])
/-- gone at the end -/
theorem ruI_c {x : Int32} : ∀ m i, i ≤ ruI T lim α x m i ∧ ruI T lim α x m i ≤ i + m ∧ (ruI T lim α x m i < i + m → sGone (pasN T lim α (ruI T lim α x m i)) x = true)
  | 0, i => ⟨Nat.le_refl _, Nat.le_refl _, fun h => absurd h (Nat.lt_irrefl _)⟩
  | m + 1, i => by
    rw [ruI]
    by_cases c : sGone (pasN T lim α i) x = true
    · rw [if_pos c]
      exact ⟨Nat.le_refl _, by omega, fun _ => c⟩
    · rw [if_neg c]
      obtain ⟨h1, h2, h3⟩ := ruI_c m (i + 1)
      exact ⟨by omega, by omega, fun h => h3 (by omega)⟩
theorem sG_at (S : sok α) (hi : i < sN α) : sGone α (nI i) = goneB α i := by
  have h7 := S.2
  unfold sGone
  rw [hs_nI S hi, Bool.true_and, ix_nI (by omega)]
  rfl
theorem rui_n (B : stB α) (hi : i < sN α) : sGone (pasN T lim α (ruI T lim α (nI i) n 0)) (nI i) = goneB (pasN T lim α n) i := by
  obtain ⟨h1, h2, h3⟩ := ruI_c (T := T) (lim := lim) (α := α) (x := nI i) n 0
  have at' : ∀ k, sGone (pasN T lim α k) (nI i) = goneB (pasN T lim α k) i := fun k => sG_at (stB_pasN B k).1 (by rw [pasN_N]; exact hi)
  by_cases c : ruI T lim α (nI i) n 0 < 0 + n
  · have g := h3 c
    rw [g]
    rw [at'] at g
    have := gone_mono (T := T) (lim := lim) B hi (n - ruI T lim α (nI i) n 0) _ g
    rw [show ruI T lim α (nI i) n 0 + (n - ruI T lim α (nI i) n 0) = n by omega] at this
    exact this.symm
  · rw [at', show ruI T lim α (nI i) n 0 = n by omega]
end TLO
