/-! The two agree: the search through the orders -/
def agr (n : Nat) (p q : Nat → Nat) : Prop := ∀ i, i < n → p i = q i
section TOR
variable {T : Td} {lim : Int32} {σ α ν : St} {n m i j k N : Nat} {e : Int32} {ω : CW} {p q p' : Nat → Nat} {all : Int32}
/-! steps look at the first n alone -/
theorem lowS_cg : ∀ k, (∀ i, i ≤ k → p i = q i) → lowS p k = lowS q k
  | 0, _ => rfl
  | k + 1, h => by
    rw [lowS, lowS, h (k + 1) (by omega), h k (by omega), lowS_cg k (fun i hi => h i (by omega))]
theorem hiS_cg {low : Nat} (hl : p low = q low) : ∀ k, (∀ i, i ≤ k → p i = q i) → hiS p low k = hiS q low k
  | 0, _ => rfl
  | k + 1, h => by
    rw [hiS, hiS, h (k + 1) (by omega), hl, hiS_cg hl k (fun i hi => h i (by omega))]
theorem swp_cg {i k : Nat} (hi : i < n) (hk : k < n) (h : agr n p q) : agr n (swpN p i k) (swpN q i k) := fun j hj => by
  unfold swpN
  rw [h i hi, h k hk, h j hj]
theorem rev_cg : ∀ m p q l r, r < n → agr n p q → agr n (revS m p l r) (revS m q l r)
  | 0, _, _, _, _, _, h => h
  | m + 1, p, q, l, r, hr, h => by
    rw [revS, revS]
    by_cases c : l < r
    · rw [if_pos c, if_pos c]
      exact rev_cg m _ _ _ _ (by omega) (swp_cg (by omega) hr h)
    · rw [if_neg c, if_neg c]
      exact h
theorem step_cg (h : agr n p q) : (stepF p n).map (tlN n) = (stepF q n).map (tlN n) := by
  by_cases h0 : n = 0
  · subst h0; rfl
  have e1 : lowS p (n - 1) = lowS q (n - 1) := lowS_cg _ (fun i hi => h i (by omega))
  unfold stepF
  rw [e1]
  cases hl : lowS q (n - 1) with
  | none => rfl
  | some low =>
    have hlow : low < n - 1 := lowS_lt hl
    have e2 : hiS p low (n - 1) = hiS q low (n - 1) := hiS_cg (h low (by omega)) _ (fun i hi => h i (by omega))
    have hle := hiS_le (p := q) (low := low) (n - 1)
    show some (tlN n _) = some (tlN n _)
    rw [e2]
    have z := rev_cg (n := n) 7 _ _ (low + 1) (n - 1) (by omega) (swp_cg (n := n) (i := low) (k := hiS q low (n - 1)) (by omega) (by omega) h)
    refine congrArg some ?_
    unfold tlN
    refine List.map_congr_left (fun i hi => ?_)
    have := List.mem_range'_1.mp hi
    exact z i (by omega)
theorem tl_at (hi : i < n) : lAt (tlN n p) i = p i := by
  unfold lAt tlN
  rw [List.getD_eq_getElem?_getD, List.getElem?_map, List.getElem?_range' (by omega)]
  simp
/-! the leaves -/
theorem goR_l {α : Type} {f : List Nat → α → α} {r : List Nat → List (List Nat)} {l : List Nat} {k : Nat → α → α} (hk : ∀ x a, k x a = if l.contains x = true then a else (r (l ++ [x])).foldl (fun a l => f l a) a) : ∀ c x a, goR k c x a = (lvR r l c x).foldl (fun a l => f l a) a
  | 0, _, _ => rfl
  | c + 1, x, a => by
    show goR k c (x + 1) (k x a) = ((if l.contains x = true then [] else r (l ++ [x])) ++ lvR r l c (x + 1)).foldl _ a
    rw [goR_l hk c (x + 1), List.foldl_append, hk]
    by_cases q : l.contains x = true
    · rw [if_pos q, if_pos q]; rfl
    · rw [if_neg q, if_neg q]
theorem goM_l {α : Type} (f : List Nat → α → α) (n : Nat) : ∀ r l a, goM f n r l a = (lvs n r l).foldl (fun a l => f l a) a
  | 0, _, _ => rfl
  | r + 1, l, a => goR_l (r := lvs n r) (fun x a => by
      by_cases q : l.contains x = true
      · rw [if_pos q, if_pos q]
      · rw [if_neg q, if_neg q, goM_l f n r]) n 0 a
theorem lvR_in {r : List Nat → List (List Nat)} {l z : List Nat} {Q : List Nat → Prop} : ∀ c x, (∀ y, x ≤ y → y < x + c → ∀ z, z ∈ r (l ++ [y]) → Q z) → z ∈ lvR r l c x → Q z
  | 0, _, _, h => absurd h (List.not_mem_nil)
  | c + 1, x, hr, h => by
    rcases List.mem_append.mp h with h | h
    · by_cases q : l.contains x = true
      · rw [if_pos q] at h; exact absurd h (List.not_mem_nil)
      · rw [if_neg q] at h
        exact hr x (Nat.le_refl _) (by omega) z h
    · exact lvR_in c (x + 1) (fun y h1 h2 => hr y (by omega) (by omega)) h
theorem lvs_in : ∀ r l, l.length + r = n → (∀ x, x ∈ l → x < n) → ∀ z, z ∈ lvs n r l → z.length = n ∧ ∀ x, x ∈ z → x < n
  | 0, l, h1, h2, z, hz => by
    have : z = l := List.mem_singleton.mp hz
    subst this
    exact ⟨by omega, h2⟩
  | r + 1, l, h1, h2, z, hz => lvR_in (Q := fun z => z.length = n ∧ ∀ x, x ∈ z → x < n) n 0 (fun y _ hy z hz => lvs_in r (l ++ [y]) (by rw [List.length_append]; simp; omega) (fun x hx => by
      rcases List.mem_append.mp hx with hx | hx
      · exact h2 x hx
      · rw [List.mem_singleton.mp hx]; omega) z hz) hz
theorem lvs_chn (hn : n ≤ 7) : chn n (lvs n n []) = true := by
  by_cases c : n < 7
  · exact chn7 n c
  · rw [show n = 7 by omega]; exact chn8
/-! what is noted -/
theorem mvS_cg : ∀ j, j ≤ n → agr n p q → mvS ν p j = mvS ν q j
  | 0, _, _ => rfl
  | j + 1, hj, h => by
    show sMove (mvS ν p j) ν (nI (p j)) (nI j) = sMove (mvS ν q j) ν (nI (q j)) (nI j)
    rw [mvS_cg j (by omega) h, h j (by omega)]
/-- the search's state and ours -/
def osR (n : Nat) (os : Os) (a : Go) : Prop := os.1 0 = a.1 ∧ os.1 1 = a.2.1 ∧ ∀ i, i < n → os.2.2.1 i = a.2.2 i
theorem los_kk (B : stB α) (hk : k < 1000) : (lostN T T.1.2.2 α (losI T T.1.2.2 α (nI k) N 0) < nI k ↔ lsV T α N < nI k) ∧ (lsV T α N < nI k → lostN T T.1.2.2 α (losI T T.1.2.2 α (nI k) N 0) = lsV T α N) ∧ (lostN T T.1.2.2 α (losI T T.1.2.2 α (nI k) N 0) = nI k ↔ lsV T α N = nI k) := by
  obtain ⟨h1, h2⟩ := los_lt (T := T) (n := N) B hk
  obtain ⟨a, g1, g2, g3⟩ := los_k (T := T) (lim := T.1.2.2) (n := N) B hk
  have h7 := lst_7 (T := T) (lim := T.1.2.2) B N
  have ev : lsV T α N = nI (lstC T T.1.2.2 α N) := rfl
  have inj : ∀ {x y : Nat}, x < 1000 → y < 1000 → (nI x = nI y ↔ x = y) := fun hx hy => ⟨fun f => by
    have := congrArg Int32.toInt f
    rw [nI_toInt (by omega), nI_toInt (by omega)] at this
    omega, fun f => by rw [f]⟩
  refine ⟨h1, h2, ?_⟩
  rw [g1, ev, inj (by omega) hk, inj (by omega) hk]
  omega
theorem note_r (hn : n = sN ν) (h7 : n ≤ 7) (B : stB ν) (hp : ∀ i, i < n → p i < n) {l : List Nat} (hl : agr n p (lAt l)) {os : Os} {a : Go} (hH : os.2.2.2.1 = p) (R : osR n os a) (hk : ∃ k, k < 1000 ∧ os.1 0 = nI k) : osR n (noteF os (lostBy T ν N p (os.1 0))) (goF (lostO T ν N) n l a) ∧ ∃ k, k < 1000 ∧ (noteF os (lostBy T ν N p (os.1 0))).1 0 = nI k := by
  obtain ⟨k, hk, ek⟩ := hk
  obtain ⟨r1, r2, r3⟩ := R
  have Bm : stB (mvS ν p n) := by
    have := stB_mv (p := p) B (by rw [← hn]; exact hp) n (by omega)
    exact this
  have em : mvS ν p (sN ν) = mvS ν (lAt l) (sN ν) := mvS_cg (n := n) _ (by omega) hl
  have el : lostO T ν N l = lsV T (mvS ν p n) N := by
    unfold lostO lsV
    rw [← em, ← hn]
  obtain ⟨k1, k2, k3⟩ := los_kk (T := T) (N := N) Bm hk
  have eb : lostBy T ν N p (os.1 0) = lostN T T.1.2.2 (mvS ν p n) (losI T T.1.2.2 (mvS ν p n) (nI k) N 0) := by
    unfold lostBy
    rw [ek, ← hn]
  have l7 := lst_7 (T := T) (lim := T.1.2.2) Bm N
  unfold noteF goF
  rw [el, eb, ek, ← r1, ek]
  by_cases c1 : lsV T (mvS ν p n) N < nI k
  · rw [if_pos (k1.mpr c1), if_pos c1, k2 c1]
    refine ⟨⟨rfl, rfl, fun i hi => ?_⟩, lstC T T.1.2.2 (mvS ν p n) N, by omega, rfl⟩
    show cpy7 (fun i => nI (os.2.2.2.1 i)) os.2.2.1 i = if i < n then nI (lAt l i) else a.2.2 i
    rw [if_pos hi, hH, ← hl i hi]
    show va_cpy _ _ (0 : Int32).toNatClampNeg (0 : Int32).toNatClampNeg (7 : Int32).toNatClampNeg i = _
    rw [show (0 : Int32).toNatClampNeg = 0 from rfl, show (7 : Int32).toNatClampNeg = 7 from rfl]
    unfold va_cpy
    rw [if_pos (by omega)]
    simp
  · rw [if_neg (fun z => c1 (k1.mp z)), if_neg c1]
    by_cases c2 : lsV T (mvS ν p n) N = nI k
    · rw [if_pos (k3.mpr c2), if_pos c2]
      refine ⟨⟨ek, ?_, r3⟩, k, hk, ek⟩
      show os.1 1 + 1 = a.2.1 + 1
      rw [r2]
    · rw [if_neg (fun z => c2 (k3.mp z)), if_neg c2]
      refine ⟨⟨ek, ?_, r3⟩, k, hk, ek⟩
      show os.1 1 = a.2.1 + 0
      rw [r2, Int32.add_zero]
end TOR
