/-! The reader over tokens, without a teller: kinds K, numbers N; k says which law -/
abbrev Pr (α : Type) : Type := (Int32 × Nat) ⊕ (α × Nat)
def pgo {α β : Type} (r : Pr α) (f : α → Nat → Pr β) : Pr β := match r with
  | .inl x => .inl x
  | .inr x => f x.1 x.2
abbrev Pa : Type := Nat → Pr Ex
def aAtom (K N : Nat → Int32) (k : Nat) (par : Pa) : Pa := fun p =>
  if K p = 40 then par p else if K p = 2 then .inr (exNum (N p), p + 1)
  else if K p < 128 ∨ 134 < K p ∨ dom k (ix (K p - 128)) = false then .inl (2, p) else .inr (exWrd (ix (K p - 128)), p + 1)
def aChR (K : Nat → Int32) (sel : Int32 → Bool) (u : Pa) : Nat → Ex → Nat → Pr Ex
  | 0, e, p => .inr (e, p)
  | m + 1, e, p => if sel (K p) = true then pgo (u (p + 1)) (fun e2 q => aChR K sel u m (exOp (K p) e e2) q) else .inr (e, p)
def aCh (K : Nat → Int32) (sel : Int32 → Bool) (u : Pa) : Pa := fun p => pgo (u p) (fun e q => aChR K sel u 900 e q)
def sMul (t : Int32) : Bool := decide (t = 42)
def sAdd (t : Int32) : Bool := decide (t = 43 ∨ t = 45)
def sCmp (t : Int32) : Bool := decide (t = 61 ∨ t = 60 ∨ t = 62)
def sAnd (t : Int32) : Bool := decide (t = 146)
def sOr (t : Int32) : Bool := decide (t = 147)
def aSum (K N : Nat → Int32) (k : Nat) (par : Pa) : Pa := aCh K sAdd (aCh K sMul (aAtom K N k par))
def aParK (K N : Nat → Int32) (k : Nat) : Nat → Pa
  | 0 => fun p => .inl (4, p)
  | j + 1 => fun p => pgo (aSum K N k (aParK K N k j) (p + 1)) (fun e q => if K q = 41 then .inr (e, q + 1) else .inl (2, q))
def aCmp (K : Nat → Int32) (s : Pa) : Pa := fun p => pgo (s p) (fun a q => if sCmp (K q) = true then pgo (s (q + 1)) (fun b r => .inr (exOp (K q) a b, r)) else .inl (2, q))
def aNeg (i : Nat) (r : Pr Ex) : Pr Ex := if i % 2 = 1 then pgo r (fun e q => .inr (exNeg e, q)) else r
def aUn (K : Nat → Int32) (br cm : Nat → Pa) (k0 : Nat) : Nat → Pa
  | 0 => fun p => if K p = 145 then .inl (4, p) else aNeg k0 (if K p = 91 then br 0 p else cm 0 p)
  | j + 1 => fun p => if K p = 145 then aUn K br cm k0 j (p + 1) else aNeg (k0 - (j + 1)) (if K p = 91 then br (j + 1) p else cm (j + 1) p)
def aCmT (K N : Nat → Int32) (k j : Nat) : Pa := aCmp K (aSum K N k (aParK K N k j))
def aTru (K N : Nat → Int32) (k : Nat) (br : Nat → Pa) (j : Nat) : Pa := aCh K sOr (aCh K sAnd (aUn K br (aCmT K N k) j j))
def aBr (K N : Nat → Int32) (k : Nat) : Nat → Nat → Pa
  | 0, _ => fun p => .inl (4, p)
  | i + 1, j => if j ≤ i then aBr K N k i j else fun p => pgo (aTru K N k (aBr K N k i) i (p + 1)) (fun e q => if K q = 93 then .inr (e, q + 1) else .inl (2, q))
/-- a law that keeps the rules, with a pile of at most D -/
def gd (k D : Nat) (r : Pr Ex) : Prop := match r with
  | .inl _ => True
  | .inr x => exOK k D x.1
section GD
variable {K N : Nat → Int32} {k : Nat}
theorem gd.mono {D E : Nat} {r : Pr Ex} (h : gd k D r) (hD : D ≤ E) : gd k E r := by
  cases r with
  | inl x => exact trivial
  | inr x => exact exOK.mono h hD
theorem gd_go {D E : Nat} {r : Pr Ex} {f : Ex → Nat → Pr Ex} (h : gd k D r) (hf : ∀ e q, exOK k D e → gd k E (f e q)) : gd k E (pgo r f) := by
  cases r with
  | inl x => exact trivial
  | inr x => exact hf x.1 x.2 h
theorem gd_atom (hN : ∀ p, K p = 2 → ∃ n, n < 1000 ∧ N p = nI n) {par : Pa} {D : Nat} (hD : 1 ≤ D) (hp : ∀ p, gd k D (par p)) (p : Nat) : gd k D (aAtom K N k par p) := by
  unfold aAtom
  split
  · exact hp p
  · split
    · rename_i h2
      obtain ⟨n, hn, e⟩ := hN p h2
      rw [e]
      exact exOK.mono (exOK_num hn) hD
    · split
      · exact trivial
      · rename_i h1 h2 h3
        have h4 : dom k (ix (K p - 128)) = true := by
          cases e : dom k (ix (K p - 128)) with
          | true => rfl
          | false => exact absurd (Or.inr (Or.inr e)) h3
        refine exOK.mono (exOK_wrd ?_ h4) hD
        unfold dom at h4
        split at h4
        · have := of_decide_eq_true h4; omega
        · split at h4
          · have := of_decide_eq_true h4; omega
          · have := of_decide_eq_true h4; omega
theorem gd_chR {sel : Int32 → Bool} (hs : ∀ t, sel t = true → opOk t) {u : Pa} {D : Nat} (hu : ∀ p, gd k D (u p)) : ∀ m e p, exOK k (D + 1) e → gd k (D + 1) (aChR K sel u m e p) := by
  intro m
  induction m with
  | zero => intro e p h1; exact h1
  | succ m ih =>
    intro e p h1
    unfold aChR
    split
    · rename_i h
      exact gd_go (hu _) (fun e2 q h3 => ih _ _ (exOK_op (hs _ h) h1 h3 (Nat.le_refl _)))
    · exact h1
theorem gd_ch {sel : Int32 → Bool} (hs : ∀ t, sel t = true → opOk t) {u : Pa} {D : Nat} (hu : ∀ p, gd k D (u p)) (p : Nat) : gd k (D + 1) (aCh K sel u p) :=
  gd_go (hu p) (fun e q h1 => gd_chR hs hu 900 e q (h1.mono (Nat.le_succ _)))
theorem sMul_ok (t : Int32) (h : sMul t = true) : opOk t := Or.inr (Or.inr (Or.inl (of_decide_eq_true h)))
theorem sAdd_ok (t : Int32) (h : sAdd t = true) : opOk t := by
  rcases of_decide_eq_true h with h | h
  · exact Or.inl h
  · exact Or.inr (Or.inl h)
theorem sCmp_ok (t : Int32) (h : sCmp t = true) : opOk t := by
  unfold opOk
  rcases of_decide_eq_true h with h | h | h <;> simp only [h, true_or, or_true]
theorem sAnd_ok (t : Int32) (h : sAnd t = true) : opOk t := by
  unfold opOk
  simp only [of_decide_eq_true h, true_or, or_true]
theorem sOr_ok (t : Int32) (h : sOr t = true) : opOk t := by
  unfold opOk
  simp only [of_decide_eq_true h, or_true]
theorem gd_sum (hN : ∀ p, K p = 2 → ∃ n, n < 1000 ∧ N p = nI n) {par : Pa} {D : Nat} (hD : 1 ≤ D) (hp : ∀ p, gd k D (par p)) (p : Nat) : gd k (D + 2) (aSum K N k par p) :=
  gd_ch sAdd_ok (gd_ch sMul_ok (gd_atom hN hD hp)) p
theorem gd_parK (hN : ∀ p, K p = 2 → ∃ n, n < 1000 ∧ N p = nI n) : ∀ j p, gd k (2 * j + 1) (aParK K N k j p) := by
  intro j
  induction j with
  | zero => intro p; exact trivial
  | succ j ih =>
    intro p
    unfold aParK
    refine gd_go (gd_sum hN (by omega) ih (p + 1)) (fun e q h1 => ?_)
    split
    · exact h1.mono (by omega)
    · exact trivial
theorem gd_cmT (hN : ∀ p, K p = 2 → ∃ n, n < 1000 ∧ N p = nI n) (j p : Nat) : gd k (2 * j + 4) (aCmT K N k j p) := by
  have hs := gd_sum (k := k) hN (D := 2 * j + 1) (by omega) (gd_parK hN j)
  unfold aCmT aCmp
  refine gd_go (hs p) (fun e q h1 => ?_)
  split
  · rename_i h
    exact gd_go (hs (q + 1)) (fun b r h3 => exOK_op (sCmp_ok _ h) (h1.mono (by omega)) h3 (by omega))
  · exact trivial
theorem gd_neg {D : Nat} {i : Nat} {r : Pr Ex} (h : gd k D r) : gd k D (aNeg i r) := by
  unfold aNeg
  split
  · exact gd_go h (fun e q h1 => exOK_neg h1)
  · exact h
theorem gd_un {br cm : Nat → Pa} {k0 D : Nat} (hb : ∀ j p, j ≤ k0 → gd k D (br j p)) (hc : ∀ j p, j ≤ k0 → gd k D (cm j p)) : ∀ j p, j ≤ k0 → gd k D (aUn K br cm k0 j p) := by
  intro j
  induction j with
  | zero =>
    intro p hj
    unfold aUn
    split
    · exact trivial
    · refine gd_neg ?_
      split
      · exact hb 0 p hj
      · exact hc 0 p hj
  | succ j ih =>
    intro p hj
    unfold aUn
    split
    · exact ih _ (by omega)
    · refine gd_neg ?_
      split
      · exact hb _ p hj
      · exact hc _ p hj
theorem gd_tru (hN : ∀ p, K p = 2 → ∃ n, n < 1000 ∧ N p = nI n) {br : Nat → Pa} {j D : Nat} (hD : 2 * j + 4 ≤ D) (hb : ∀ i p, i ≤ j → gd k D (br i p)) (p : Nat) : gd k (D + 2) (aTru K N k br j p) :=
  gd_ch sOr_ok (gd_ch sAnd_ok (fun p => gd_un hb (fun i p hi => (gd_cmT (k := k) hN i p).mono (by omega)) j p (Nat.le_refl j))) p
theorem gd_br (hN : ∀ p, K p = 2 → ∃ n, n < 1000 ∧ N p = nI n) : ∀ i j p, gd k (4 * i + 4) (aBr K N k i j p) := by
  intro i
  induction i with
  | zero => intro j p; exact trivial
  | succ i ih =>
    intro j p
    unfold aBr
    by_cases hj : j ≤ i
    · rw [if_pos hj]
      exact (ih j p).mono (by omega)
    · rw [if_neg hj]
      refine gd_go (gd_tru hN (D := 4 * i + 4) (by omega) (fun i' p _ => ih i' p) (p + 1)) (fun e q h1 => ?_)
      split
      · exact h1.mono (by omega)
      · exact trivial
/-- the law of a line: sums for what is paid and for how debts grow, a truth for who takes -/
def aLaw (K N : Nat → Int32) (k : Nat) : Pa := if k = 2 then aTru K N 2 (aBr K N 2 6) 6 else aSum K N k (aParK K N k 6)
theorem gd_law (hN : ∀ p, K p = 2 → ∃ n, n < 1000 ∧ N p = nI n) (p : Nat) : gd k 64 (aLaw K N k p) := by
  unfold aLaw
  split
  · rename_i h
    subst h
    exact (gd_tru (k := 2) hN (br := aBr K N 2 6) (j := 6) (D := 28) (by omega) (fun i p _ => gd_br hN 6 i p) p).mono (by omega)
  · exact (gd_sum (k := k) hN (D := 13) (by omega) (gd_parK hN 6) p).mono (by omega)
end GD
