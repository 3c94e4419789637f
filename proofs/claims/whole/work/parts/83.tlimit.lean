/-! The two agree: the least limit -/
/-- no debt of a household that is there passes x in k quarters -/
def qLe (T : Td) (σ : St) (x k : Nat) : Prop := ∀ j, j < k → ∀ i, i < sN σ → goneB (pasN T 999999 σ (j + 1)) i = false → ((pasN T 999999 σ (j + 1)).2 4 i).toInt ≤ x
section TLI
variable {T : Td} {lim : Int32} {σ α : St} {n m i j k N x : Nat} {e : Int32} {ω : CW}
theorem pas4 (hi : i < sN σ) : (pas T lim σ).2 4 i = (pas2 T σ).2 4 i := rfl
theorem pas_lim (h : ∀ i, i < sN σ → ruB lim (pas2 T σ) i = ruB 999999 (pas2 T σ) i) : pas T lim σ = pas T 999999 σ := by
  have eG : fst (sN σ) (ruG lim (pas2 T σ)) ((pas2 T σ).2 3) = fst (sN σ) (ruG 999999 (pas2 T σ)) ((pas2 T σ).2 3) := by
    funext i
    unfold fst
    by_cases c : i < sN σ
    · rw [if_pos c, if_pos c]
      unfold ruG
      rw [h i c]
    · rw [if_neg c, if_neg c]
  have eC : fst (sN σ) (ruC lim (pas2 T σ)) ((pas2 T σ).2 2) = fst (sN σ) (ruC 999999 (pas2 T σ)) ((pas2 T σ).2 2) := by
    funext i
    unfold fst
    by_cases c : i < sN σ
    · rw [if_pos c, if_pos c]
      unfold ruC
      rw [h i c]
    · rw [if_neg c, if_neg c]
  unfold pas rui
  rw [eG, eC]
theorem ru_top (B : stB σ) (hi : i < sN σ) : ruB 999999 (pas2 T σ) i = false := by
  have B1 := stB_pas (T := T) (lim := 999999) B
  have r := (B1.2.1 i hi).2.2.2.2
  rw [pas4 hi] at r
  unfold rng at r
  unfold ruB
  refine decide_eq_false (fun z => ?_)
  have z := z.2
  rw [Int32.lt_iff_toInt_lt, show (999999 : Int32).toInt = 999999 from rfl] at z
  omega
theorem gone_top (B : stB σ) (hi : i < sN σ) : goneB (pas T 999999 σ) i = goneB σ i := by
  rw [(gone_step B hi).1, ru_top B hi, Bool.or_false]
theorem gone_topN (B : stB σ) (hi : i < sN σ) : ∀ n, goneB (pasN T 999999 σ n) i = goneB σ i
  | 0 => rfl
  | n + 1 => by
    show goneB (pas T 999999 (pasN T 999999 σ n)) i = _
    rw [gone_top (stB_pasN B n) (by rw [pasN_N]; exact hi), gone_topN B hi n]
theorem lim_same (B : stB σ) (hx : x < 2 ^ 31) : ∀ k, qLe T σ x k → pasN T (nI x) σ k = pasN T 999999 σ k
  | 0, _ => rfl
  | k + 1, q => by
    have ih := lim_same B hx k (fun j hj => q j (by omega))
    show pas T (nI x) (pasN T (nI x) σ k) = pas T 999999 (pasN T 999999 σ k)
    rw [ih]
    refine pas_lim (fun i hi => ?_)
    rw [pasN_N] at hi
    have Bk := stB_pasN (T := T) (lim := 999999) B k
    have hk : i < sN (pasN T 999999 σ k) := by rw [pasN_N]; exact hi
    rw [ru_top Bk hk]
    unfold ruB
    refine decide_eq_false (fun z => ?_)
    have g0 : goneB (pasN T 999999 σ (k + 1)) i = false := by
      show goneB (pas T 999999 (pasN T 999999 σ k)) i = false
      rw [gone_top Bk hk]
      unfold goneB
      have : (pasN T 999999 σ k).2 3 i = 0 := z.1
      rw [this]; rfl
    have h4 := q k (by omega) i hi g0
    have h5 : (pasN T 999999 σ (k + 1)).2 4 i = (pas2 T (pasN T 999999 σ k)).2 4 i := pas4 hk
    rw [h5] at h4
    have z := z.2
    rw [Int32.lt_iff_toInt_lt, nI_toInt hx] at z
    omega
theorem bcnt_pos {f : Nat → Bool} (h : f i = true) : ∀ N, i < N → 0 < bcnt f N
  | 0, hi => absurd hi (Nat.not_lt_zero _)
  | N + 1, hi => by
    show 0 < bcnt f N + (if f N = true then 1 else 0)
    by_cases c : i = N
    · rw [← c, if_pos h]; omega
    · have := bcnt_pos h N (by omega)
      omega
theorem bcnt_0 {f : Nat → Bool} : ∀ N, (∀ i, i < N → f i = false) → bcnt f N = 0
  | 0, _ => rfl
  | N + 1, h => by
    show bcnt f N + (if f N = true then 1 else 0) = 0
    rw [bcnt_0 N (fun i hi => h i (by omega)), h N (by omega)]
    rfl
theorem lim_iff (B : stB σ) (hx : x < 2 ^ 31) (n : Nat) : lstC T (nI x) σ n = 0 ↔ qLe T σ x n := by
  constructor
  · intro h0
    refine Classical.byContradiction (fun hq => ?_)
    have : ∃ k, k < n ∧ qLe T σ x k ∧ ¬ qLe T σ x (k + 1) := by
      have step : ∀ k, k ≤ n → qLe T σ x k ∨ ∃ k', k' < n ∧ qLe T σ x k' ∧ ¬ qLe T σ x (k' + 1) := by
        intro k
        induction k with
        | zero => intro _; exact Or.inl (fun j hj => absurd hj (Nat.not_lt_zero j))
        | succ k ih =>
          intro hk
          rcases ih (by omega) with h | h
          · by_cases c : qLe T σ x (k + 1)
            · exact Or.inl c
            · exact Or.inr ⟨k, by omega, h, c⟩
          · exact Or.inr h
      rcases step n (Nat.le_refl _) with h | h
      · exact absurd h hq
      · exact h
    obtain ⟨k, hk, q1, q2⟩ := this
    have : ∃ i, i < sN σ ∧ goneB (pasN T 999999 σ (k + 1)) i = false ∧ ¬ ((pasN T 999999 σ (k + 1)).2 4 i).toInt ≤ x := by
      refine Classical.byContradiction (fun hn => q2 (fun j hj i hi hg => ?_))
      by_cases c : j = k
      · subst c
        refine Classical.byContradiction (fun hz => hn ⟨i, hi, hg, hz⟩)
      · exact q1 j (by omega) i hi hg
    obtain ⟨i, hi, g0, d0⟩ := this
    have same := lim_same B hx k q1
    have Bk := stB_pasN (T := T) (lim := 999999) B k
    have hk' : i < sN (pasN T 999999 σ k) := by rw [pasN_N]; exact hi
    have gk : goneB (pasN T 999999 σ k) i = false := by
      have e : goneB (pas T 999999 (pasN T 999999 σ k)) i = goneB (pasN T 999999 σ k) i := gone_top Bk hk'
      exact e.symm.trans g0
    have z3 : (pasN T 999999 σ k).2 3 i = 0 := by
      rcases (Bk.2.1 i hk').1 with h | h
      · exact h
      · unfold goneB at gk
        rw [h] at gk
        exact absurd gk (by decide)
    have r1 : ruB (nI x) (pas2 T (pasN T 999999 σ k)) i = true := by
      refine decide_eq_true ⟨z3, ?_⟩
      have h5 : (pasN T 999999 σ (k + 1)).2 4 i = (pas2 T (pasN T 999999 σ k)).2 4 i := pas4 hk'
      rw [h5] at d0
      rw [Int32.lt_iff_toInt_lt, nI_toInt hx]
      omega
    have g1 : goneB (pasN T (nI x) σ (k + 1)) i = true := by
      show goneB (pas T (nI x) (pasN T (nI x) σ k)) i = true
      rw [same, (gone_step (T := T) (lim := nI x) Bk hk').1, r1, Bool.or_true]
    have gs : goneB σ i = false := (gone_topN (T := T) B hi k).symm.trans gk
    have l1 : lstG T (nI x) σ (k + 1) i = true := by
      unfold lstG
      rw [g1, gs]; rfl
    have p1 := bcnt_pos l1 (sN σ) hi
    have m1 := lst_mono (T := T) (lim := nI x) B (n - (k + 1)) (k + 1)
    rw [show k + 1 + (n - (k + 1)) = n by omega, h0] at m1
    exact absurd p1 (by show ¬ 0 < lstC T (nI x) σ (k + 1); omega)
  · intro q
    refine bcnt_0 (sN σ) (fun i hi => ?_)
    unfold lstG
    rw [lim_same B hx n q, gone_topN B hi n]
    cases goneB σ i <;> rfl
/-! the greatest debt -/
theorem grtI_le (S : sok α) {x : Int} : ∀ m j v, j + m = sN α → ((grtI α m j v).toInt ≤ x ↔ v.toInt ≤ x ∧ ∀ i, j ≤ i → i < sN α → goneB α i = false → (α.2 4 i).toInt ≤ x)
  | 0, j, v, hj => ⟨fun h => ⟨h, fun i h1 h2 => by omega⟩, fun h => h.1⟩
  | m + 1, j, v, hj => by
    show (grtI α m (j + 1) (if sGone α (nI j) = true then v else jmax v (α.2 4 j))).toInt ≤ x ↔ _
    rw [grtI_le S m (j + 1) _ (by omega), sG_at S (by omega)]
    by_cases c : goneB α j = true
    · rw [if_pos c]
      refine and_congr_right (fun _ => ⟨fun h i h1 h2 h3 => ?_, fun h i h1 h2 h3 => h i (by omega) h2 h3⟩)
      by_cases q : i = j
      · rw [q, c] at h3; exact absurd h3 (by decide)
      · exact h i (by omega) h2 h3
    · have c0 : goneB α j = false := by cases hh : goneB α j with | true => exact absurd hh c | false => rfl
      rw [if_neg c, jmax_t]
      constructor
      · rintro ⟨h1, h2⟩
        refine ⟨by split at h1 <;> omega, fun i h3 h4 h5 => ?_⟩
        by_cases q : i = j
        · rw [q]; split at h1 <;> omega
        · exact h2 i (by omega) h4 h5
      · rintro ⟨h1, h2⟩
        have := h2 j (Nat.le_refl _) (by omega) c0
        exact ⟨by split <;> omega, fun i h3 h4 h5 => h2 i (by omega) h4 h5⟩
theorem grtO_le (B : stB (wS ω)) {x : Nat} : ∀ m j v, ((grtO ω m j v).toInt ≤ (x : Int) ↔ v.toInt ≤ (x : Int) ∧ ∀ k, j ≤ k → k < j + m → ∀ i, i < sN (wS ω) → goneB (pasN (tT ω) 999999 (wS ω) (k + 1)) i = false → ((pasN (tT ω) 999999 (wS ω) (k + 1)).2 4 i).toInt ≤ (x : Int))
  | 0, j, v => ⟨fun h => ⟨h, fun k h1 h2 => by omega⟩, fun h => h.1⟩
  | m + 1, j, v => by
    have Bj := stB_pasN (T := tT ω) (lim := 999999) B (j + 1)
    have eN : sN (pasN (tT ω) 999999 (wS ω) (j + 1)) = sN (wS ω) := pasN_N _
    show (grtO ω m (j + 1) (grtI (pasN (tT ω) 999999 (wS ω) (j + 1)) (sN (wS ω)) 0 v)).toInt ≤ (x : Int) ↔ _
    rw [grtO_le B m (j + 1), grtI_le Bj.1 (sN (wS ω)) 0 v (by omega), eN]
    constructor
    · rintro ⟨⟨h1, h2⟩, h3⟩
      refine ⟨h1, fun k h4 h5 i hi hg => ?_⟩
      by_cases q : k = j
      · subst q; exact h2 i (Nat.zero_le _) hi hg
      · exact h3 k (by omega) (by omega) i hi hg
    · rintro ⟨h1, h2⟩
      exact ⟨⟨h1, fun i _ hi hg => h2 j (Nat.le_refl _) (by omega) i hi hg⟩, fun k h4 h5 => h2 k (by omega) (by omega)⟩
theorem grtI_ge (S : sok α) : ∀ m j v, j + m = sN α → v.toInt ≤ (grtI α m j v).toInt := fun m j v h => ((grtI_le S m j v h).mp (Int.le_refl _)).1
theorem grtO_ge (B : stB (wS ω)) : ∀ m j v, v.toInt ≤ (grtO ω m j v).toInt
  | 0, _, _ => Int.le_refl _
  | m + 1, j, v => by
    have Bj := stB_pasN (T := tT ω) (lim := 999999) B (j + 1)
    have eN : sN (pasN (tT ω) 999999 (wS ω) (j + 1)) = sN (wS ω) := pasN_N _
    have h1 := grtI_ge Bj.1 (sN (wS ω)) 0 v (by omega)
    have h2 := grtO_ge B m (j + 1) (grtI (pasN (tT ω) 999999 (wS ω) (j + 1)) (sN (wS ω)) 0 v)
    show v.toInt ≤ (grtO ω m (j + 1) (grtI (pasN (tT ω) 999999 (wS ω) (j + 1)) (sN (wS ω)) 0 v)).toInt
    omega
theorem tdL_cam {v : Int32} : ∀ j, cam (tdL T v) σ j = cam T σ j
  | 0 => rfl
  | j + 1 => by
    unfold cam
    rw [tdL_cam j]
    rfl
theorem tdL_sea {v : Int32} : ∀ j, seaN (tdL T v) σ j = seaN T σ j
  | 0 => rfl
  | j + 1 => by
    unfold seaN
    rw [tdL_sea j]
    rfl
theorem tdL_mov {v : Int32} {j : Nat} : mov (tdL T v) σ j = mov T σ j := by
  have e : moD (tdL T v) σ = moD T σ := by
    funext i
    unfold moD
    rw [tdL_cam]
    rfl
  unfold mov mov1
  rw [e, tdL_sea]
theorem tdL_pas {v : Int32} : pas (tdL T v) lim σ = pas T lim σ := by
  have e1 : pas1 (tdL T v) σ = pas1 T σ := rfl
  unfold pas pas2
  rw [tdL_mov, e1]
theorem tdL_N {v : Int32} : ∀ n, pasN (tdL T v) lim σ n = pasN T lim σ n
  | 0 => rfl
  | n + 1 => by
    show pas (tdL T v) lim (pasN (tdL T v) lim σ n) = pas T lim (pasN T lim σ n)
    rw [tdL_N n]
    exact tdL_pas
theorem tdL_l {v : Int32} : lstN (tdL T v) σ n = lstC T v σ n := by
  refine congrArg (fun f => bcnt f (sN σ)) (funext fun i => ?_)
  show (goneB (pasN (tdL T v) v σ n) i && !goneB σ i) = _
  rw [tdL_N]
  rfl
theorem ll_e (h : ∀ x, x < 1000 → (lsV (tdL T (nI x)) σ n = 0 ↔ k ≤ x)) : ∀ c x, x + c = 1000 → x ≤ k → llM T σ n c x = if 999 < k then -1 else nI k
  | 0, x, hx, hk => by
    rw [if_pos (by omega)]; rfl
  | c + 1, x, hx, hk => by
    show (if lsV (tdL T (nI x)) σ n = 0 then nI x else llM T σ n c (x + 1)) = _
    have hx2 := h x (by omega)
    by_cases q : k ≤ x
    · rw [if_pos (hx2.mpr q), if_neg (by omega), show x = k by omega]
    · rw [if_neg (fun z => q (hx2.mp z))]
      exact ll_e h c (x + 1) (by omega) (by omega)
theorem t_leastLimit (B : stB (wS ω)) (i : Int32) : hLeast (tT ω) (wS ω) i = fLeast ω i := by
  unfold hLeast fLeast
  by_cases c : inN i 1 20 = false
  · rw [if_pos c, if_pos c]
  · rw [if_neg c, if_neg c]
    have g0 := grtO_ge B (ix i) 0 0
    rw [show (0 : Int32).toInt = 0 from rfl] at g0
    generalize hG : grtO ω (ix i) 0 0 = M at g0
    have eM : M = nI M.toInt.toNat := by
      have := M.toInt_lt
      apply Int32.toInt_inj.mp
      rw [nI_toInt (by omega)]
      omega
    have key : ∀ x, x < 1000 → (lsV (tdL (tT ω) (nI x)) (wS ω) (ix i) = 0 ↔ M.toInt.toNat ≤ x) := by
      intro x hx
      rw [lsV_0 B.1, tdL_l]
      rw [lim_iff B (by omega)]
      have := grtO_le B (x := x) (ix i) 0 0
      rw [hG] at this
      constructor
      · intro q
        have := this.mpr ⟨by rw [show (0 : Int32).toInt = 0 from rfl]; omega, fun k _ h2 j hj hg => q k (by omega) j hj hg⟩
        omega
      · intro q
        have := (this.mp (by omega)).2
        exact fun j hj => this j (Nat.zero_le _) (by omega)
    have L := ll_e key 1000 0 rfl (Nat.zero_le _)
    rw [L]
    have M31 := M.toInt_lt
    by_cases q : 999 < M.toInt.toNat
    · rw [if_pos q, if_pos]
      rw [Int32.lt_iff_toInt_lt, show (999 : Int32).toInt = 999 from rfl]
      omega
    · rw [if_neg q, if_neg, ← eM]
      rw [Int32.lt_iff_toInt_lt, show (999 : Int32).toInt = 999 from rfl]
      omega
end TLI
