/-! The two agree: what comes by, swaps ahead -/
/-- a fold over numbers from x on -/
def rfo {α : Type} (F : Nat → α → α) : Nat → Nat → α → α
  | 0, _, a => a
  | c + 1, x, a => rfo F c (x + 1) (F x a)
def rfi (p : Nat → Bool) : Nat → Nat → Option Nat
  | 0, _ => none
  | c + 1, x => if p x = true then some x else rfi p c (x + 1)
def prN (N x : Nat) : Bool := decide (x / 10 % 10 < x % 10 ∧ x % 10 < N)
def prIn (g : Nat) : Nat → Nat → List Nat
  | 0, _ => []
  | m + 1, h => (10 * g + h) :: prIn g m (h + 1)
def prOu (N : Nat) : Nat → Nat → List Nat
  | 0, _ => []
  | m + 1, g => prIn g (N - (g + 1)) (g + 1) ++ prOu N m (g + 1)
section TSW
variable {T : Td} {lim : Int32} {σ α : St} {n m i j k N : Nat} {e : Int32} {ω : CW}
theorem came_b (B : stB σ) (i : Nat) : rng (pasCame T σ i) := by
  obtain ⟨S, B2, B3⟩ := B
  have st : ∀ i, i < sN σ → rng (stCash T σ i) ∧ rng (stDebt T σ i) := fun i hi => st_b (B2 i hi).2.2.2.1 (B2 i hi).2.1 (B2 i hi).2.2.1 (B2 i hi).2.2.2.2
  have rD : ∀ i, i < sN (pas1 T σ) → rng ((pas1 T σ).2 4 i) := fun i hi => D1_b hi (st i hi).2
  exact cam_b (T := T) rD (sN σ) (Nat.le_refl _) i
theorem bur_b (B : stB σ) : ∀ n, n < 1000 → ∀ x, 0 ≤ (burN T lim σ n x).toInt ∧ (burN T lim σ n x).toInt ≤ n * 999999
  | 0, _, x => by
    show 0 ≤ (0 : Int64).toInt ∧ (0 : Int64).toInt ≤ _
    rw [show (0 : Int64).toInt = 0 from rfl]; omega
  | n + 1, h, x => by
    obtain ⟨h1, h2⟩ := bur_b B n (by omega) x
    have c := came_b (T := T) (stB_pasN (T := T) (lim := lim) B n) x
    unfold rng at c
    show 0 ≤ (if x < 7 then burN T lim σ n x + (pasCame T (pasN T lim σ n) x).toInt64 else burN T lim σ n x).toInt ∧ _
    by_cases q : x < 7
    · have e : (burN T lim σ (n + 1) x).toInt = (burN T lim σ n x).toInt + (pasCame T (pasN T lim σ n) x).toInt := by
        show (if x < 7 then burN T lim σ n x + (pasCame T (pasN T lim σ n) x).toInt64 else burN T lim σ n x).toInt = _
        rw [if_pos q, Int64.toInt_add, Int32.toInt_toInt64]
        exact Int.bmod_eq_of_le (by omega) (by omega)
      rw [if_pos q]
      have e' : (burN T lim σ n x + (pasCame T (pasN T lim σ n) x).toInt64).toInt = (burN T lim σ n x).toInt + (pasCame T (pasN T lim σ n) x).toInt := by
        rw [Int64.toInt_add, Int32.toInt_toInt64]
        exact Int.bmod_eq_of_le (by omega) (by omega)
      rw [e', e]
      omega
    · rw [if_neg q]
      have e : burN T lim σ (n + 1) x = burN T lim σ n x := if_neg q
      rw [e]
      omega
theorem hvy_e {f : Nat → Int64} (hf : ∀ x, 0 ≤ (f x).toInt) : ∀ m j b l, j + m ≤ 7 → ((b = -1 ∧ l = -1) ∨ ∃ i, i < 7 ∧ b = nI i ∧ l = f i) → hvyL f m j b = hvyM f m j b l
  | 0, j, b, l, _, _ => rfl
  | m + 1, j, b, l, hj, hb => by
    show hvyL f m (j + 1) (if b = -1 ∨ f (ix b) < f j then nI j else b) = if l < f j then hvyM f m (j + 1) (nI j) (f j) else hvyM f m (j + 1) b l
    have key : (b = -1 ∨ f (ix b) < f j) ↔ l < f j := by
      rcases hb with ⟨h1, h2⟩ | ⟨i, hi, h1, h2⟩
      · refine ⟨fun _ => ?_, fun _ => Or.inl h1⟩
        rw [h2, Int64.lt_iff_toInt_lt, show (-1 : Int64).toInt = -1 from rfl]
        have := hf j
        omega
      · rw [h1, ix_nI (by omega), h2]
        exact ⟨fun z => z.elim (fun z => absurd z (nI_m1 (by omega))) id, Or.inr⟩
    by_cases c : l < f j
    · rw [if_pos (key.mpr c), if_pos c]
      exact hvy_e hf m (j + 1) _ _ (by omega) (Or.inr ⟨j, by omega, rfl, rfl⟩)
    · rw [if_neg (fun z => c (key.mp z)), if_neg c]
      exact hvy_e hf m (j + 1) _ _ (by omega) hb
/-! pairs -/
theorem rfo_l {α : Type} {F : Nat → α → α} {p : Nat → Bool} {H : Nat → α → α} (hF : ∀ x a, F x a = if p x = true then H x a else a) : ∀ c x a, rfo F c x a = (List.filter p (List.range' x c)).foldl (fun a x => H x a) a
  | 0, _, _ => rfl
  | c + 1, x, a => by
    show rfo F c (x + 1) (F x a) = _
    rw [rfo_l hF c (x + 1), List.range'_succ, List.filter_cons, hF]
    by_cases q : p x = true
    · rw [if_pos q, if_pos q]; rfl
    · rw [if_neg q, if_neg q]
theorem rfi_l {p q : Nat → Bool} (hp : ∀ x, p x = true → q x = true) : ∀ c x, rfi p c x = (List.filter q (List.range' x c)).find? p
  | 0, _ => rfl
  | c + 1, x => by
    show (if p x = true then some x else rfi p c (x + 1)) = _
    rw [rfi_l hp c (x + 1), List.range'_succ, List.filter_cons]
    by_cases h : p x = true
    · rw [if_pos h, if_pos (hp x h), List.find?_cons, h]
    · rw [if_neg h]
      by_cases h2 : q x = true
      · have : p x = false := by cases hh : p x with | true => exact absurd hh h | false => rfl
        rw [if_pos h2, List.find?_cons, this]
      · rw [if_neg h2]
theorem pairs : ∀ N, N < 8 → List.filter (prN N) (List.range' 0 100) = prOu N N 0 := by decide +kernel
theorem prOk_n (S : sok σ) {x : Nat} (hx : x < 100) : prOk σ x = prN (sN σ) x := by
  have h7 := S.2
  unfold prOk prN
  refine decide_eq_decide.mpr (and_congr_right (fun h1 => ?_))
  constructor
  · intro h
    have := (swp_0 h).2.1
    have := (sHas_ix S this).1
    rw [ix_nI (by omega)] at this
    exact this
  · intro h
    unfold sWhySwap
    refine if_pos ⟨hs_nI S (by omega), hs_nI S h, fun f => ?_⟩
    have := congrArg Int32.toInt f
    rw [nI_toInt (by omega), nI_toInt (by omega)] at this
    omega
theorem fil_cg {α : Type} {p q : α → Bool} : ∀ (l : List α), (∀ x, x ∈ l → p x = q x) → List.filter p l = List.filter q l
  | [], _ => rfl
  | a :: l, h => by
    rw [List.filter_cons, List.filter_cons, h a (List.mem_cons_self), fil_cg l (fun x hx => h x (List.mem_cons_of_mem _ hx))]
theorem fil_pr (S : sok σ) : List.filter (prOk σ) (List.range' 0 100) = prOu (sN σ) (sN σ) 0 := by
  rw [← pairs (sN σ) (by have := S.2; omega)]
  refine fil_cg _ (fun x hx => prOk_n S ?_)
  have := List.mem_range'_1.mp hx
  omega
/-- a pair that is not lost by more -/
def bsS (T : Td) (σ : St) (n x : Nat) (a : Int32 × Int32) : Int32 × Int32 := if lsV T (exA σ x) n < a.1 then (lsV T (exA σ x) n, nI x) else a
theorem bsL_r : ∀ c x b l, bsL T σ n c x b l = (rfo (fun x a => if prOk σ x = true then bsS T σ n x a else a) c x (l, b)).2
  | 0, _, _, _ => rfl
  | c + 1, x, b, l => by
    show (if prOk σ x = true ∧ lsV T (exA σ x) n < l then bsL T σ n c (x + 1) (nI x) (lsV T (exA σ x) n) else bsL T σ n c (x + 1) b l) = (rfo _ c (x + 1) (if prOk σ x = true then bsS T σ n x (l, b) else (l, b))).2
    by_cases h1 : prOk σ x = true
    · by_cases h2 : lsV T (exA σ x) n < l
      · rw [if_pos ⟨h1, h2⟩, if_pos h1, show bsS T σ n x (l, b) = (lsV T (exA σ x) n, nI x) from if_pos h2]
        exact bsL_r c (x + 1) _ _
      · rw [if_neg (fun f => h2 f.2), if_pos h1, show bsS T σ n x (l, b) = (l, b) from if_neg h2]
        exact bsL_r c (x + 1) _ _
    · rw [if_neg (fun f => h1 f.1), if_neg h1]
      exact bsL_r c (x + 1) _ _
theorem los_lt (B : stB α) (hk : k < 1000) : (lostN T T.1.2.2 α (losI T T.1.2.2 α (nI k) n 0) < nI k ↔ lsV T α n < nI k) ∧ (lsV T α n < nI k → lostN T T.1.2.2 α (losI T T.1.2.2 α (nI k) n 0) = lsV T α n) := by
  obtain ⟨a, h1, h2, h3⟩ := los_k (T := T) (lim := T.1.2.2) (n := n) B hk
  have h7 := lst_7 (T := T) (lim := T.1.2.2) B n
  have e : lsV T α n = nI (lstC T T.1.2.2 α n) := rfl
  rw [h1, e, nI_lti (by omega) (by omega), nI_lti (by omega) (by omega)]
  refine ⟨⟨fun z => by omega, fun z => by omega⟩, fun z => ?_⟩
  rw [show a = lstC T T.1.2.2 α n by omega]
theorem cd10 : ∀ g, g < 7 → ∀ h, h < 7 → nI g * 10 + nI h = nI (10 * g + h) ∧ (10 * g + h) / 10 % 10 = g ∧ (10 * g + h) % 10 = h := by decide +kernel
theorem bswI_f {g : Nat} (B : stB (wS ω)) (hg : g < 7) : ∀ m h k b, h + m ≤ 7 → k < 1000 → bswI ω n g m h (nI k) b = (prIn g m h).foldl (fun a x => bsS (tT ω) (wS ω) n x a) (nI k, b) ∧ ∃ k', k' < 1000 ∧ ((prIn g m h).foldl (fun a x => bsS (tT ω) (wS ω) n x a) (nI k, b)).1 = nI k'
  | 0, h, k, b, _, hk => ⟨rfl, k, hk, rfl⟩
  | m + 1, h, k, b, hh, hk => by
    obtain ⟨c1, c2, c3⟩ := cd10 g hg h (by omega)
    have ex : exA (wS ω) (10 * g + h) = sExch (wS ω) (nI g) (nI h) := by
      show sExch (wS ω) (nI ((10 * g + h) / 10 % 10)) (nI ((10 * g + h) % 10)) = _
      rw [c2, c3]
    have Be : stB (sExch (wS ω) (nI g) (nI h)) := stB_exch B
    obtain ⟨l1, l2⟩ := los_lt (T := tT ω) (n := n) Be hk
    show (if losW ω (sExch (wS ω) (nI g) (nI h)) (nI k) n < nI k then bswI ω n g m (h + 1) (losW ω (sExch (wS ω) (nI g) (nI h)) (nI k) n) (nI g * 10 + nI h) else bswI ω n g m (h + 1) (nI k) b) = (prIn g m (h + 1)).foldl (fun a x => bsS (tT ω) (wS ω) n x a) (bsS (tT ω) (wS ω) n (10 * g + h) (nI k, b)) ∧ ∃ k', k' < 1000 ∧ ((prIn g m (h + 1)).foldl (fun a x => bsS (tT ω) (wS ω) n x a) (bsS (tT ω) (wS ω) n (10 * g + h) (nI k, b))).1 = nI k'
    unfold bsS
    rw [ex]
    by_cases c : lsV (tT ω) (sExch (wS ω) (nI g) (nI h)) n < nI k
    · have e1 : losW ω (sExch (wS ω) (nI g) (nI h)) (nI k) n = lsV (tT ω) (sExch (wS ω) (nI g) (nI h)) n := l2 c
      rw [if_pos (show losW ω (sExch (wS ω) (nI g) (nI h)) (nI k) n < nI k from l1.mpr c), if_pos c, e1, c1]
      exact bswI_f B hg m (h + 1) _ _ (by omega) (by have := lst_7 (T := tT ω) (lim := (tT ω).1.2.2) Be n; show lstC (tT ω) (tT ω).1.2.2 _ n < 1000; omega)
    · rw [if_neg (show ¬ losW ω (sExch (wS ω) (nI g) (nI h)) (nI k) n < nI k from fun z => c (l1.mp z)), if_neg c]
      exact bswI_f B hg m (h + 1) k b (by omega) hk
theorem bswO_f (B : stB (wS ω)) : ∀ m g k b, g + m = sN (wS ω) → k < 1000 → bswO ω n m g (nI k) b = ((prOu (sN (wS ω)) m g).foldl (fun a x => bsS (tT ω) (wS ω) n x a) (nI k, b)).2
  | 0, g, k, b, _, _ => rfl
  | m + 1, g, k, b, hg, hk => by
    have h7 := B.1.2
    obtain ⟨i1, k', i2, i3⟩ := bswI_f (n := n) B (g := g) (by omega) (sN (wS ω) - (g + 1)) (g + 1) k b (by omega) hk
    show bswO ω n m (g + 1) (bswI ω n g (sN (wS ω) - (g + 1)) (g + 1) (nI k) b).1 (bswI ω n g (sN (wS ω) - (g + 1)) (g + 1) (nI k) b).2 = ((prIn g (sN (wS ω) - (g + 1)) (g + 1) ++ prOu (sN (wS ω)) m (g + 1)).foldl _ (nI k, b)).2
    rw [List.foldl_append, i1, i3, bswO_f B m (g + 1) k' _ (by omega) i2, ← i3]
theorem t_bestSwap (B : stB (wS ω)) (i : Int32) : hBestSwap (tT ω) (wS ω) i = fBestSwap ω i := by
  unfold hBestSwap fBestSwap
  by_cases c : inN i 1 20 = false
  · rw [if_pos c, if_pos c]
  · rw [if_neg c, if_neg c]
    have e0 : lostW ω (ix i) = lsV (tT ω) (wS ω) (ix i) := by
      unfold lostW
      rw [los_7 B, lost_sum B]
      rfl
    rw [bsL_r, rfo_l (p := prOk (wS ω)) (H := bsS (tT ω) (wS ω) (ix i)) (fun _ _ => rfl), fil_pr B.1, e0]
    have := bswO_f (n := ix i) B (sN (wS ω)) 0 (lstC (tT ω) (tT ω).1.2.2 (wS ω) (ix i)) (-1) (by omega) (by have := lst_7 (T := tT ω) (lim := (tT ω).1.2.2) B (ix i); omega)
    exact congrArg Sum.inr this.symm
end TSW
