/-! A law as it is laid: numbers, words, signs over them; its value; the pile that it takes -/
abbrev Ex : Type := List Int32
def exNum (v : Int32) : Ex := [v]
def exWrd (j : Nat) : Ex := [1128 + nI j]
def exOp (t : Int32) (a b : Ex) : Ex := a ++ (b ++ [1000 + t])
def exNeg (a : Ex) : Ex := a ++ [1145]
def exV (w : Nat → Int32) (e : Ex) : Int32 := match evC w e [] with
  | some (v :: _) => v
  | _ => 0
def opOk (t : Int32) : Prop := t = 43 ∨ t = 45 ∨ t = 42 ∨ t = 60 ∨ t = 61 ∨ t = 62 ∨ t = 146 ∨ t = 147
/-- a law of the k-th kind that takes D of the pile -/
def exOK (k D : Nat) (e : Ex) : Prop := 0 < e.length ∧ ∃ f : (Nat → Int32) → Int32, (∀ w, f (mask k w) = f w) ∧ ∀ w s, s.length + D ≤ 64 → evC w e s = some (f w :: s)
theorem exOK.mono {k D E : Nat} {e : Ex} (h : exOK k D e) (hD : D ≤ E) : exOK k E e := by
  obtain ⟨h0, f, h1, h2⟩ := h
  exact ⟨h0, f, h1, fun w s hs => h2 w s (by omega)⟩
theorem exOK.run {k D : Nat} {e : Ex} (h : exOK k D e) (w : Nat → Int32) (s : List Int32) (hs : s.length + D ≤ 64) : evC w e s = some (exV w e :: s) := by
  obtain ⟨h0, f, h1, h2⟩ := h
  rw [h2 w s hs]
  unfold exV
  rw [h2 w [] (by simp only [List.length_nil]; omega)]
theorem exOK.msk {k D : Nat} {e : Ex} (h : exOK k D e) (hD : D ≤ 64) (w : Nat → Int32) : exV (mask k w) e = exV w e := by
  obtain ⟨h0, f, h1, h2⟩ := h
  unfold exV
  rw [h2 w [] (by simpa using hD), h2 (mask k w) [] (by simpa using hD)]
  exact h1 w
theorem evC_app (w : Nat → Int32) : ∀ (c1 c2 s : List Int32), evC w (c1 ++ c2) s = match evC w c1 s with | some s' => evC w c2 s' | none => none := by
  intro c1
  induction c1 with
  | nil => intro c2 s; rfl
  | cons c cs ih =>
    intro c2 s
    show (match evS w c s with | some s' => evC w (cs ++ c2) s' | none => none) = _
    simp only [evC]
    cases evS w c s with
    | none => rfl
    | some s' => exact ih c2 s'
theorem num_neg : ∀ n, n < 1000 → nI n - 1000 < 0 := by decide +kernel
theorem wrd_in : ∀ j, j < 7 → ¬ (1128 + nI j - 1000 < 0) ∧ ¬ (1128 + nI j - 1000 < 128) ∧ ¬ (134 < 1128 + nI j - 1000) ∧ ix (1128 + nI j - 1000 - 128) = j := by decide +kernel
theorem op_in {t : Int32} (h : opOk t) : 1000 + t - 1000 = t ∧ ¬ t < 0 ∧ (t < 128 ∨ 134 < t) ∧ ¬ t = 145 := by
  rcases h with rfl | rfl | rfl | rfl | rfl | rfl | rfl | rfl <;> decide
theorem evC_num {w : Nat → Int32} {n : Nat} {s : List Int32} (hn : n < 1000) (hs : s.length + 1 ≤ 64) : evC w (exNum (nI n)) s = some (nI n :: s) := by
  have h1 := num_neg n hn
  have h2 : s.length < 64 := by omega
  simp only [exNum, evC, evS, h1, true_or, if_true, h2]
theorem evC_wrd {w : Nat → Int32} {j : Nat} {s : List Int32} (hj : j < 7) (hs : s.length + 1 ≤ 64) : evC w (exWrd j) s = some (w j :: s) := by
  obtain ⟨h1, h2, h3, h4⟩ := wrd_in j hj
  have h5 : s.length < 64 := by omega
  simp only [exWrd, evC, evS, h1, h2, h3, not_false_eq_true, and_self, or_true, if_true, h5, if_false, h4]
theorem evC_op {w : Nat → Int32} {t : Int32} (ht : opOk t) {a b : Ex} {s : List Int32} {x y : Int32} (ha : evC w a s = some (x :: s)) (hb : evC w b (x :: s) = some (y :: x :: s)) : evC w (exOp t a b) s = some (evJ t x y :: s) := by
  obtain ⟨e1, e2, e3, e4⟩ := op_in ht
  have e5 : ¬ (t < 0 ∨ (¬ t < 128 ∧ ¬ 134 < t)) := by
    rintro (c | ⟨c1, c2⟩)
    · exact e2 c
    · rcases e3 with c | c
      · exact c1 c
      · exact c2 c
  unfold exOp
  rw [evC_app, ha]
  show evC w (b ++ [1000 + t]) (x :: s) = _
  rw [evC_app, hb]
  show (match evS w (1000 + t) (y :: x :: s) with | some s' => evC w [] s' | none => none) = _
  have : evS w (1000 + t) (y :: x :: s) = some (evJ t x y :: s) := by
    simp only [evS, e1, e5, if_false, e4]
  rw [this]
  rfl
theorem evC_neg {w : Nat → Int32} {a : Ex} {s : List Int32} {x : Int32} (ha : evC w a s = some (x :: s)) : evC w (exNeg a) s = some ((1 - x) :: s) := by
  unfold exNeg
  rw [evC_app, ha]
  rfl
theorem exOK_num {k n : Nat} (hn : n < 1000) : exOK k 1 (exNum (nI n)) := ⟨Nat.one_pos, fun _ => nI n, fun _ => rfl, fun _ _ hs => evC_num hn hs⟩
theorem exOK_wrd {k j : Nat} (hj : j < 7) (hd : dom k j = true) : exOK k 1 (exWrd j) :=
  ⟨Nat.one_pos, fun w => w j, fun w => by simp only [mask, hd, if_true], fun _ _ hs => evC_wrd hj hs⟩
theorem exOK_op {k D E : Nat} {t : Int32} (ht : opOk t) {a b : Ex} (ha : exOK k E a) (hb : exOK k D b) (hDE : D + 1 ≤ E) : exOK k E (exOp t a b) := by
  obtain ⟨a0, fa, a1, a2⟩ := ha
  obtain ⟨b0, fb, b1, b2⟩ := hb
  refine ⟨by simp only [exOp, List.length_append]; omega, fun w => evJ t (fa w) (fb w), fun w => by show evJ t _ _ = evJ t _ _; rw [a1, b1], fun w s hs => evC_op ht (a2 w s hs) (b2 w _ (by simp only [List.length_cons]; omega))⟩
theorem exOK_neg {k D : Nat} {a : Ex} (ha : exOK k D a) : exOK k D (exNeg a) := by
  obtain ⟨a0, fa, a1, a2⟩ := ha
  exact ⟨by simp only [exNeg, List.length_append]; omega, fun w => 1 - fa w, fun w => by show (1 : Int32) - _ = 1 - _; rw [a1], fun w s hs => evC_neg (a2 w s hs)⟩
/-- a row of a law's code is a law -/
theorem exOK.law {h : jH} {p k m : Nat} {e : Ex} {f : Nat → Int32} (H : h.1 p = some (rowL m (fun i => if i < m then f i else 0))) (he : exOK k 64 e) (hm : m = e.length) (hm9 : m < 2 ^ 30) (hc : ∀ i, i < e.length → e[i]? = some (f i)) : LawAt h p k (some (fun w => exV w e)) := by
  refine ⟨e, he.1, by omega, H.trans ?_, fun w => (he.run w [] (by simp)).trans (by show _ = some [exV (mask k w) e]; rw [he.msk (Nat.le_refl _)])⟩
  subst hm
  unfold rowL lcell
  have ef : (fun i => if i < e.length then f i else 0) = (fun i => e.getD i 0) := by
   funext i
   by_cases hi : i < e.length
   · rw [if_pos hi, List.getD_eq_getElem?_getD, hc i hi]
     rfl
   · rw [if_neg hi, List.getD_eq_getElem?_getD, List.getElem?_eq_none (by omega)]
     rfl
  rw [ef]
