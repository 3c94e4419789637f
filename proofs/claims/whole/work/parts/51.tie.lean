/-! The teller follows the reader -/
def Tok (ζ : Zs) (n : Nat) : Prop := ζ.1 = nI n ∧ 0 < n ∧ n ≤ 901 ∧ ζ.2 0 (n - 1) = 0
def VQ (ζ : Zs) (n : Nat) (υ : Vs) (p : Nat) (c : List Int32) : Prop := υ.1 2 = nI p ∧ υ.1 3 = ζ.2 0 p ∧ p < n ∧ υ.1 4 = nI c.length ∧ ∀ i, i < c.length → c[i]? = some (υ.2.2 i)
def VL (ζ : Zs) (n : Nat) (υ : Vs) (p : Nat) : Prop := υ.1 2 = nI p ∧ υ.1 3 = ζ.2 0 p ∧ p < n
def VP (ζ : Zs) (n : Nat) (υ : Vs) (p : Nat) (c : List Int32) : Prop := VQ ζ n υ p c ∧ c.length ≤ p
def sameV (υ υ' : Vs) : Prop := υ'.1 0 = υ.1 0 ∧ υ'.1 1 = υ.1 1 ∧ υ'.1 5 = υ.1 5 ∧ υ'.2.1 = υ.2.1
def Bad (ζ : Zs) (n : Nat) (υ υ' : Vs) (k : Int32) (q : Nat) : Prop := q < n ∧ υ'.1 0 = (if ζ.2 0 q = 1 then 1 else k) ∧ υ'.1 1 = ζ.2 2 q ∧ υ'.2.1 = υ.2.1
def Tie (ζ : Zs) (n : Nat) (υ : Vs) (c : List Int32) (p : Nat) (r : Bool × Vs) (a : Pr Ex) : Prop := match a with
  | .inl (k, q) => r.1 = false ∧ Bad ζ n υ r.2 k q
  | .inr (e, q) => r.1 = true ∧ VP ζ n r.2 q (c ++ e) ∧ p + e.length ≤ q ∧ sameV υ r.2
def TieF (ζ : Zs) (n : Nat) (lw : Int32) (f : Pf) (a : Pa) : Prop := ∀ υ p c, VP ζ n υ p c → υ.1 5 = lw → Tie ζ n υ c p (f υ) (a p)
/-- the same, where such a token stands -/
def TieT (ζ : Zs) (n : Nat) (lw t : Int32) (f : Pf) (a : Pa) : Prop := ∀ υ p c, VP ζ n υ p c → υ.1 5 = lw → ζ.2 0 p = t → Tie ζ n υ c p (f υ) (a p)
theorem sameV.rf (υ : Vs) : sameV υ υ := ⟨rfl, rfl, rfl, rfl⟩
theorem sameV.tr {a b c : Vs} (h : sameV a b) (k : sameV b c) : sameV a c := ⟨k.1.trans h.1, k.2.1.trans h.2.1, k.2.2.1.trans h.2.2.1, k.2.2.2.trans h.2.2.2⟩
section TIE
variable {ζ : Zs} {n : Nat} {υ : Vs} {p : Nat} {c : List Int32} {lw : Int32}
theorem Tie.of {υ0 υ : Vs} {c : List Int32} {p : Nat} {r : Bool × Vs} {a : Pr Ex} {p0 : Nat} (S : sameV υ0 υ) (hp : p0 ≤ p) (T : Tie ζ n υ c p r a) : Tie ζ n υ0 c p0 r a := by
  cases a with
  | inl kq => obtain ⟨k, q⟩ := kq; exact ⟨T.1, T.2.1, T.2.2.1, T.2.2.2.1, T.2.2.2.2.trans S.2.2.2⟩
  | inr kq => obtain ⟨e, q⟩ := kq; exact ⟨T.1, T.2.1, by have := T.2.2.1; omega, S.tr T.2.2.2⟩
theorem VL_skip (hT : Tok ζ n) (V : VL ζ n υ p) (h0 : ¬ ζ.2 0 p = 0) : VL ζ n (skF ζ υ) (p + 1) ∧ sameV υ (skF ζ υ) ∧ (skF ζ υ).1 4 = υ.1 4 ∧ (skF ζ υ).2.2 = υ.2.2 := by
  obtain ⟨t1, t2, t3, t4⟩ := hT
  obtain ⟨v1, v2, v3⟩ := V
  have hp : p + 1 < n := by
    by_cases hq : p + 1 < n
    · exact hq
    · have : p = n - 1 := by omega
      exact absurd (this ▸ t4) h0
  have e : skF ζ υ = vI (vI υ 2 (nI (p + 1))) 3 (ζ.2 0 (p + 1)) := by
    unfold skF
    rw [v1, nI_1, t1, if_neg, ix_nI (by omega)]
    rintro (h | h | h)
    · exact nI_pos (by omega) h
    · exact h (nI_lt hp (by omega))
    · exact absurd ((nI_ltI (a := 900) (b := p + 1) (by omega) (by omega)).mp h) (by omega)
  rw [e]
  exact ⟨⟨rfl, rfl, hp⟩, ⟨rfl, rfl, rfl, rfl⟩, rfl, rfl⟩
theorem VQ.l (V : VQ ζ n υ p c) : VL ζ n υ p := ⟨V.1, V.2.1, V.2.2.1⟩
theorem VQ_skip (hT : Tok ζ n) (V : VQ ζ n υ p c) (h0 : ¬ ζ.2 0 p = 0) : VQ ζ n (skF ζ υ) (p + 1) c ∧ sameV υ (skF ζ υ) := by
  obtain ⟨a, b, c1, c2⟩ := VL_skip hT V.l h0
  exact ⟨⟨a.1, a.2.1, a.2.2, c1.trans V.2.2.2.1, fun i hi => by rw [c2]; exact V.2.2.2.2 i hi⟩, b⟩
theorem VP_skip (hT : Tok ζ n) (V : VP ζ n υ p c) (h0 : ¬ ζ.2 0 p = 0) : VP ζ n (skF ζ υ) (p + 1) c ∧ sameV υ (skF ζ υ) :=
  ⟨⟨(VQ_skip hT V.1 h0).1, by have := V.2; omega⟩, (VQ_skip hT V.1 h0).2⟩
theorem VQ_emit (V : VQ ζ n υ p c) (hc : c.length < 900) (x : Int32) : VQ ζ n (emitF υ x) p (c ++ [x]) ∧ sameV υ (emitF υ x) := by
  obtain ⟨v1, v2, v3, v4, v5⟩ := V
  have e : emitF υ x = vI (vC υ (upd υ.2.2 c.length x)) 4 (nI (c.length + 1)) := by
    unfold emitF
    rw [v4, nI_1, if_neg, ix_nI (by omega)]
    rintro (h | h)
    · exact nI_pos (by omega) h
    · exact h (nI_lt (b := 900) hc (by omega))
  rw [e]
  refine ⟨⟨v1, v2, v3, by simp only [vI, if_true, List.length_append, List.length_cons, List.length_nil], fun i hi => ?_⟩, rfl, rfl, rfl, rfl⟩
  simp only [List.length_append, List.length_cons, List.length_nil] at hi
  by_cases h : i = c.length
  · subst h
    rw [List.getElem?_concat_length]
    simp only [vI, vC, upd, if_true]
  · rw [List.getElem?_append_left (by omega), v5 i (by omega)]
    simp only [vI, vC, upd, h, if_false]
theorem VP_emit (hT : Tok ζ n) (V : VP ζ n υ p c) (hc : c.length + 1 ≤ p) (x : Int32) : VP ζ n (emitF υ x) p (c ++ [x]) ∧ sameV υ (emitF υ x) := by
  have h1 : p < n := V.1.2.2.1
  have h2 := hT.2.2.1
  have h := VQ_emit V.1 (by omega) x
  exact ⟨⟨h.1, by simp only [List.length_append, List.length_cons, List.length_nil]; omega⟩, h.2⟩
theorem VL_fail (hT : Tok ζ n) (V : VL ζ n υ p) (k : Int32) : Bad ζ n υ (failF ζ υ k) k p := by
  obtain ⟨v1, v2, v3⟩ := V
  have h2 := hT.2.2.1
  have e : failF ζ υ k = vI (vI υ 0 (if ζ.2 0 p = 1 then 1 else k)) 1 (ζ.2 2 p) := by
    have hn : ¬ (nI p < 0 ∨ 900 < nI p) := by
      rintro (h | h)
      · exact nI_pos (by omega) h
      · exact absurd ((nI_ltI (a := 900) (b := p) (by omega) (by omega)).mp h) (by omega)
    unfold failF
    rw [v1, v2, if_neg hn, ix_nI (by omega)]
  rw [e]
  exact ⟨v3, rfl, rfl, rfl⟩
theorem VL_numb (hT : Tok ζ n) (V : VL ζ n υ p) : numbF ζ υ = ζ.2 1 p := by
  obtain ⟨v1, v2, v3⟩ := V
  have h2 := hT.2.2.1
  unfold numbF
  rw [v1, if_neg, ix_nI (by omega)]
  rintro (h | h)
  · exact nI_pos (by omega) h
  · exact absurd ((nI_ltI (a := 900) (b := p) (by omega) (by omega)).mp h) (by omega)
theorem VP_fail (hT : Tok ζ n) (V : VP ζ n υ p c) (k : Int32) : Bad ζ n υ (failF ζ υ k) k p := VL_fail hT V.1.l k
theorem VP_numb (hT : Tok ζ n) (V : VP ζ n υ p c) : numbF ζ υ = ζ.2 1 p := VL_numb hT V.1.l
/-- an atom's word: laid, then the next token -/
theorem VP_word (hT : Tok ζ n) (V : VP ζ n υ p c) (h0 : ¬ ζ.2 0 p = 0) (x : Int32) : VP ζ n (skF ζ (emitF υ x)) (p + 1) (c ++ [x]) ∧ sameV υ (skF ζ (emitF υ x)) := by
  have h1 : p + 1 < n := (VQ_skip hT V.1 h0).1.2.2.1
  have h2 := hT.2.2.1
  have h3 := V.2
  have h := VQ_emit V.1 (by omega) x
  have h' := VQ_skip hT h.1 h0
  exact ⟨⟨h'.1, by simp only [List.length_append, List.length_cons, List.length_nil]; omega⟩, h.2.tr h'.2⟩
def lwOf (k : Nat) : Int32 := if k = 0 then 63 else if k = 1 then 7 else 79
theorem lw_dom : ∀ k, k < 3 → ∀ j, j < 7 → (((lwOf k >>> ((nI (128 + j) - 128) &&& 31)) &&& 1) = 1 ↔ dom k j = true) := by decide +kernel
theorem nI_mid {x : Int32} {a b : Nat} (ha : a < 2 ^ 31) (hb : b < 2 ^ 31) (h1 : ¬ x < nI a) (h2 : ¬ nI b < x) : ∃ j, x = nI j ∧ a ≤ j ∧ j ≤ b := by
  have ta : (nI a).toInt = a := nI_toInt ha
  have tb : (nI b).toInt = b := nI_toInt hb
  rw [Int32.lt_iff_toInt_lt] at h1 h2
  have h3 := Int32.toInt_lt x
  refine ⟨x.toInt.toNat, ?_, by omega, by omega⟩
  apply Int32.toInt_inj.mp
  rw [nI_toInt (by omega)]
  omega
theorem tie_atom {k : Nat} (hk : k < 3) (hT : Tok ζ n) {par : Pf} {apar : Pa} (P : TieT ζ n (lwOf k) 40 par apar) : TieF ζ n (lwOf k) (atomG ζ par) (aAtom (ζ.2 0) (ζ.2 1) k apar) := by
  intro υ p c V L
  have v2 : υ.1 3 = ζ.2 0 p := V.1.2.1
  unfold atomG aAtom
  rw [v2]
  by_cases h40 : ζ.2 0 p = 40
  · rw [if_pos h40, if_pos h40]
    exact P υ p c V L h40
  rw [if_neg h40, if_neg h40]
  by_cases h2 : ζ.2 0 p = 2
  · rw [if_pos h2, if_pos h2, VP_numb hT V]
    have h := VP_word hT V (by rw [h2]; decide) (ζ.2 1 p)
    exact ⟨rfl, h.1, Nat.le_refl _, h.2⟩
  rw [if_neg h2, if_neg h2, L]
  by_cases hlo : ζ.2 0 p < 128
  · rw [if_pos (Or.inl hlo), if_pos (Or.inl hlo)]
    exact ⟨rfl, VP_fail hT V 2⟩
  by_cases hhi : 134 < ζ.2 0 p
  · rw [if_pos (Or.inr (Or.inl hhi)), if_pos (Or.inr (Or.inl hhi))]
    exact ⟨rfl, VP_fail hT V 2⟩
  obtain ⟨j, ej, j1, j2⟩ := nI_mid (a := 128) (b := 134) (by omega) (by omega) hlo hhi
  obtain ⟨i, rfl⟩ : ∃ i, j = 128 + i := ⟨j - 128, by omega⟩
  have hd := lw_dom k hk i (by omega)
  have ei : ix (ζ.2 0 p - 128) = i := by
    rw [ej]
    exact (by decide +kernel : ∀ i, i < 7 → ix (nI (128 + i) - 128) = i) i (by omega)
  have ew : 1000 + ζ.2 0 p = 1128 + nI i := by
    rw [ej]
    exact (by decide +kernel : ∀ i, i < 7 → 1000 + nI (128 + i) = 1128 + nI i) i (by omega)
  rw [ei]
  by_cases hdd : dom k i = true
  · have q1 : ¬ (ζ.2 0 p < 128 ∨ 134 < ζ.2 0 p ∨ ¬ ((lwOf k >>> ((ζ.2 0 p - 128) &&& 31)) &&& 1) = 1) := by
      rintro (h | h | h)
      · exact hlo h
      · exact hhi h
      · rw [ej] at h
        exact h (hd.mpr hdd)
    have q2 : ¬ (ζ.2 0 p < 128 ∨ 134 < ζ.2 0 p ∨ dom k i = false) := by
      rintro (h | h | h)
      · exact hlo h
      · exact hhi h
      · rw [hdd] at h; exact Bool.noConfusion h
    rw [if_neg q1, if_neg q2, ew]
    have h := VP_word hT V (fun h => by rw [h] at hlo; exact hlo (by decide)) (1128 + nI i)
    exact ⟨rfl, h.1, Nat.le_refl _, h.2⟩
  · have q1 : (ζ.2 0 p < 128 ∨ 134 < ζ.2 0 p ∨ ¬ ((lwOf k >>> ((ζ.2 0 p - 128) &&& 31)) &&& 1) = 1) := Or.inr (Or.inr (fun h => hdd (hd.mp (by rw [ej] at h; exact h))))
    rw [if_pos q1, if_pos (Or.inr (Or.inr (by simpa using hdd)))]
    exact ⟨rfl, VP_fail hT V 2⟩
/-- a chain, for any signs -/
def chR (ζ : Zs) (sel : Int32 → Bool) (u : Pf) : Nat → Bool → Vs → Bool × Vs
  | 0, b, υ => (b, υ)
  | m + 1, b, υ => if b = false then (b, υ) else if sel (υ.1 3) = true then chR ζ sel u m (u (skF ζ υ)).1 (emitF (u (skF ζ υ)).2 (1000 + υ.1 3)) else (b, υ)
theorem chR_term (par : Pf) : ∀ m b υ, termR ζ par m b υ = chR ζ sMul (atomG ζ par) m b υ := by
  intro m
  induction m with
  | zero => intro b υ; rfl
  | succ m ih =>
    intro b υ
    unfold termR chR
    by_cases hb : b = false
    · rw [if_pos hb, if_pos hb]
    rw [if_neg hb, if_neg hb]
    by_cases h : υ.1 3 = 42
    · have k : sMul (υ.1 3) = true := decide_eq_true h
      rw [if_pos h, if_pos k, ih, h]
      rfl
    · have k : ¬ sMul (υ.1 3) = true := fun k => h (of_decide_eq_true k)
      rw [if_neg h, if_neg k]
theorem chR_sum (par : Pf) : ∀ m b υ, sumR ζ par m b υ = chR ζ sAdd (termG ζ par) m b υ := by
  intro m
  induction m with
  | zero => intro b υ; rfl
  | succ m ih =>
    intro b υ
    unfold sumR chR
    by_cases hb : b = false
    · rw [if_pos hb, if_pos hb]
    rw [if_neg hb, if_neg hb]
    by_cases h : υ.1 3 = 43 ∨ υ.1 3 = 45
    · have k : sAdd (υ.1 3) = true := decide_eq_true h
      rw [if_pos h, if_pos k, ih]
    · have k : ¬ sAdd (υ.1 3) = true := fun k => h (of_decide_eq_true k)
      rw [if_neg h, if_neg k]
theorem chR_word (word code : Int32) (sel : Int32 → Bool) (hs : ∀ t, sel t = decide (t = word)) (hc : code = 1000 + word) (u : Pf) : ∀ m b υ, chainR ζ word code u m b υ = chR ζ sel u m b υ := by
  intro m
  induction m with
  | zero => intro b υ; rfl
  | succ m ih =>
    intro b υ
    unfold chainR chR
    by_cases hb : b = false
    · rw [if_pos hb, if_pos hb]
    rw [if_neg hb, if_neg hb]
    by_cases h : υ.1 3 = word
    · have k : sel (υ.1 3) = true := by rw [hs]; exact decide_eq_true h
      rw [if_pos h, if_pos k, ih, hc, h]
    · have k : ¬ sel (υ.1 3) = true := fun k => h (of_decide_eq_true (by rw [hs] at k; exact k))
      rw [if_neg h, if_neg k]
theorem chR_false (sel : Int32 → Bool) (u : Pf) (m : Nat) (υ : Vs) : chR ζ sel u m false υ = (false, υ) := by
  cases m <;> rfl
theorem tie_chR (hT : Tok ζ n) {sel : Int32 → Bool} (h0 : sel 0 = false) {u : Pf} {ua : Pa} (U : TieF ζ n lw u ua) {υ0 : Vs} {p0 : Nat} : ∀ m υ e p, sameV υ0 υ → VP ζ n υ p (c ++ e) → p0 + e.length ≤ p → c.length ≤ p0 → υ.1 5 = lw → Tie ζ n υ0 c p0 (chR ζ sel u m true υ) (aChR (ζ.2 0) sel ua m e p) := by
  intro m
  induction m with
  | zero => intro υ e p S V hp h0 L; exact ⟨rfl, V, hp, S⟩
  | succ m ih =>
    intro υ e p S V hp hc0 L
    unfold chR aChR
    rw [if_neg (by decide), V.1.2.1]
    by_cases h : sel (ζ.2 0 p) = true
    · rw [if_pos h, if_pos h]
      have hz : ¬ ζ.2 0 p = 0 := fun k => by rw [k, h0] at h; exact Bool.noConfusion h
      obtain ⟨V1, S1⟩ := VP_skip hT V hz
      have T := U (skF ζ υ) (p + 1) _ V1 (S1.2.2.1.trans L)
      revert T
      cases ua (p + 1) with
      | inl kq =>
        obtain ⟨k, q⟩ := kq
        rintro ⟨t1, t2⟩
        rw [t1, chR_false]
        refine ⟨rfl, t2.1, ?_, ?_, ?_⟩
        · rw [← t2.2.1]; unfold emitF; split <;> rfl
        · rw [← t2.2.2.1]; unfold emitF; split <;> rfl
        · refine Eq.trans ?_ (t2.2.2.2.trans (S1.2.2.2.trans S.2.2.2))
          unfold emitF; split <;> rfl
      | inr kq =>
        obtain ⟨e2, q⟩ := kq
        rintro ⟨t1, t2, t3, t4⟩
        rw [t1]
        have hl : (c ++ e ++ e2).length + 1 ≤ q := by
          simp only [List.length_append]
          omega
        obtain ⟨V2, S2⟩ := VP_emit hT t2 hl (1000 + ζ.2 0 p)
        have ec : c ++ e ++ e2 ++ [1000 + ζ.2 0 p] = c ++ exOp (ζ.2 0 p) e e2 := by
          simp only [exOp, List.append_assoc]
        rw [ec] at V2
        refine ih _ (exOp (ζ.2 0 p) e e2) q (S.tr (S1.tr (t4.tr S2))) V2 ?_ hc0 ?_
        · simp only [exOp, List.length_append, List.length_cons, List.length_nil]
          omega
        · exact (S2.2.2.1.trans (t4.2.2.1.trans S1.2.2.1)).trans L
    · rw [if_neg h, if_neg h]
      exact ⟨rfl, V, hp, S⟩
theorem tie_ch (hT : Tok ζ n) {sel : Int32 → Bool} (h0 : sel 0 = false) {u : Pf} {ua : Pa} (U : TieF ζ n lw u ua) : TieF ζ n lw (fun υ => chR ζ sel u 900 (u υ).1 (u υ).2) (aCh (ζ.2 0) sel ua) := by
  intro υ p c V L
  have T := U υ p c V L
  unfold aCh
  show Tie ζ n υ c p (chR ζ sel u 900 (u υ).1 (u υ).2) _
  revert T
  cases ua p with
  | inl kq =>
    obtain ⟨k, q⟩ := kq
    rintro ⟨t1, t2⟩
    rw [t1, chR_false]
    exact ⟨rfl, t2⟩
  | inr kq =>
    obtain ⟨e, q⟩ := kq
    rintro ⟨t1, t2, t3, t4⟩
    rw [t1]
    exact tie_chR hT h0 U 900 _ e q t4 t2 t3 V.2 (t4.2.2.1.trans L)
theorem tie_sum {k : Nat} (hk : k < 3) (hT : Tok ζ n) {par : Pf} {apar : Pa} (P : TieT ζ n (lwOf k) 40 par apar) : TieF ζ n (lwOf k) (sumG ζ par) (aSum (ζ.2 0) (ζ.2 1) k apar) := by
  have h1 : TieF ζ n (lwOf k) (termG ζ par) (aCh (ζ.2 0) sMul (aAtom (ζ.2 0) (ζ.2 1) k apar)) := by
    intro υ p c V L
    unfold termG
    rw [chR_term]
    exact tie_ch hT rfl (tie_atom hk hT P) υ p c V L
  intro υ p c V L
  unfold sumG
  rw [chR_sum]
  exact tie_ch hT rfl h1 υ p c V L
theorem tie_exp (hT : Tok ζ n) (V : VP ζ n υ p c) {t : Int32} (ht : ¬ t = 0) : (ζ.2 0 p = t → (expF ζ υ t).1 = true ∧ VP ζ n (expF ζ υ t).2 (p + 1) c ∧ sameV υ (expF ζ υ t).2) ∧ (¬ ζ.2 0 p = t → (expF ζ υ t).1 = false ∧ Bad ζ n υ (expF ζ υ t).2 2 p) := by
  unfold expF
  rw [V.1.2.1]
  refine ⟨fun h => ?_, fun h => ?_⟩
  · rw [if_pos h]
    exact ⟨rfl, VP_skip hT V (by rw [h]; exact ht)⟩
  · rw [if_neg h]
    exact ⟨rfl, VP_fail hT V 2⟩
theorem tie_expL (hT : Tok ζ n) (V : VL ζ n υ p) {t : Int32} (ht : ¬ t = 0) : (ζ.2 0 p = t → (expF ζ υ t).1 = true ∧ VL ζ n (expF ζ υ t).2 (p + 1) ∧ sameV υ (expF ζ υ t).2) ∧ (¬ ζ.2 0 p = t → (expF ζ υ t).1 = false ∧ Bad ζ n υ (expF ζ υ t).2 2 p) := by
  unfold expF
  rw [V.2.1]
  refine ⟨fun h => ?_, fun h => ?_⟩
  · rw [if_pos h]
    have k := VL_skip hT V (by rw [h]; exact ht)
    exact ⟨rfl, k.1, k.2.1⟩
  · rw [if_neg h]
    exact ⟨rfl, VL_fail hT V 2⟩
/-- what stands in brackets of either form -/
theorem tie_in (hT : Tok ζ n) {f : Pf} {a : Pa} (F : TieF ζ n lw f a) {t : Int32} (ht : ¬ t = 0) (V : VP ζ n υ p c) (L : υ.1 5 = lw) (h0 : ¬ ζ.2 0 p = 0) : Tie ζ n υ c p (if (f (skF ζ υ)).1 = true then expF ζ (f (skF ζ υ)).2 t else (false, (f (skF ζ υ)).2)) (pgo (a (p + 1)) (fun e q => if ζ.2 0 q = t then .inr (e, q + 1) else .inl (2, q))) := by
  obtain ⟨V1, S1⟩ := VP_skip hT V h0
  have T := F (skF ζ υ) (p + 1) c V1 (S1.2.2.1.trans L)
  revert T
  cases a (p + 1) with
  | inl kq =>
    obtain ⟨k, q⟩ := kq
    rintro ⟨t1, t2⟩
    rw [if_neg (by rw [t1]; decide)]
    exact ⟨rfl, t2.1, t2.2.1, t2.2.2.1, t2.2.2.2.trans S1.2.2.2⟩
  | inr kq =>
    obtain ⟨e, q⟩ := kq
    rintro ⟨t1, t2, t3, t4⟩
    rw [if_pos t1]
    obtain ⟨x1, x2⟩ := tie_exp hT t2 ht
    show Tie ζ n υ c p _ (if ζ.2 0 q = t then .inr (e, q + 1) else .inl (2, q))
    by_cases h : ζ.2 0 q = t
    · rw [if_pos h]
      obtain ⟨y1, y2, y3⟩ := x1 h
      exact ⟨y1, y2, by omega, S1.tr (t4.tr y3)⟩
    · rw [if_neg h]
      obtain ⟨y1, y2⟩ := x2 h
      exact ⟨y1, y2.1, y2.2.1, y2.2.2.1, y2.2.2.2.trans (S1.tr t4).2.2.2⟩
theorem tie_parK {k : Nat} (hk : k < 3) (hT : Tok ζ n) : ∀ j, TieT ζ n (lwOf k) 40 (parK ζ j) (aParK (ζ.2 0) (ζ.2 1) k j) := by
  intro j
  induction j with
  | zero => intro υ p c V L h; exact ⟨rfl, VP_fail hT V 4⟩
  | succ j ih =>
    intro υ p c V L h
    exact tie_in hT (tie_sum hk hT ih) (by decide) V L (by rw [h]; decide)
theorem tie_cmT {k : Nat} (hk : k < 3) (hT : Tok ζ n) (j : Nat) : TieF ζ n (lwOf k) (cmT ζ j) (aCmT (ζ.2 0) (ζ.2 1) k j) := by
  have F := tie_sum hk hT (tie_parK (ζ := ζ) (n := n) hk hT j)
  intro υ p c V L
  have T := F υ p c V L
  unfold cmT compG aCmT aCmp
  revert T
  generalize sumG ζ (parK ζ j) υ = r
  cases aSum (ζ.2 0) (ζ.2 1) k (aParK (ζ.2 0) (ζ.2 1) k j) p with
  | inl kq =>
    obtain ⟨kk, q⟩ := kq
    rintro ⟨t1, t2⟩
    rw [if_pos t1]
    exact ⟨rfl, t2⟩
  | inr kq =>
    obtain ⟨e, q⟩ := kq
    rintro ⟨t1, t2, t3, t4⟩
    rw [if_neg (by rw [t1]; decide)]
    show Tie ζ n υ c p _ (if sCmp (ζ.2 0 q) = true then _ else _)
    have v3 : r.2.1 3 = ζ.2 0 q := t2.1.2.1
    by_cases h : sCmp (ζ.2 0 q) = true
    · have h' : r.2.1 3 = 61 ∨ r.2.1 3 = 60 ∨ r.2.1 3 = 62 := by rw [v3]; exact of_decide_eq_true h
      rw [if_pos h, if_pos h']
      have hz : ¬ ζ.2 0 q = 0 := fun k => by rw [k] at h; exact absurd h (by decide)
      obtain ⟨V1, S1⟩ := VP_skip hT t2 hz
      have T := F (skF ζ r.2) (q + 1) _ V1 (S1.2.2.1.trans (t4.2.2.1.trans L))
      revert T
      cases aSum (ζ.2 0) (ζ.2 1) k (aParK (ζ.2 0) (ζ.2 1) k j) (q + 1) with
      | inl kq =>
        obtain ⟨kk, q2⟩ := kq
        rintro ⟨u1, u2⟩
        refine ⟨u1, u2.1, ?_, ?_, ?_⟩
        · rw [← u2.2.1]; unfold emitF; split <;> rfl
        · rw [← u2.2.2.1]; unfold emitF; split <;> rfl
        · refine Eq.trans ?_ (u2.2.2.2.trans (t4.tr S1).2.2.2)
          unfold emitF; split <;> rfl
      | inr kq =>
        obtain ⟨e2, q2⟩ := kq
        rintro ⟨u1, u2, u3, u4⟩
        have hc := V.2
        have hl : (c ++ e ++ e2).length + 1 ≤ q2 := by
          simp only [List.length_append]
          omega
        obtain ⟨V2, S2⟩ := VP_emit hT u2 hl (1000 + r.2.1 3)
        have ec : c ++ e ++ e2 ++ [1000 + r.2.1 3] = c ++ exOp (ζ.2 0 q) e e2 := by
          simp only [exOp, List.append_assoc, v3]
        rw [ec] at V2
        refine ⟨u1, V2, ?_, t4.tr (S1.tr (u4.tr S2))⟩
        simp only [exOp, List.length_append, List.length_cons, List.length_nil]
        omega
    · have h' : ¬ (r.2.1 3 = 61 ∨ r.2.1 3 = 60 ∨ r.2.1 3 = 62) := by rw [v3]; exact fun k => h (decide_eq_true k)
      rw [if_neg h, if_neg h']
      have b := VP_fail hT t2 2
      exact ⟨rfl, b.1, b.2.1, b.2.2.1, b.2.2.2.trans t4.2.2.2⟩
/-- an odd count of nots is laid as one -/
theorem tie_neg (hT : Tok ζ n) {υ0 : Vs} {p0 i : Nat} {r : Bool × Vs} {a : Pr Ex} (S : sameV υ0 υ) (hc : c.length ≤ p0) (hp : p0 + i ≤ p) (T : Tie ζ n υ c p r a) : Tie ζ n υ0 c p0 (r.1, if i % 2 = 1 then emitF r.2 1145 else r.2) (aNeg i a) := by
  unfold aNeg
  by_cases hi : i % 2 = 1
  · rw [if_pos hi, if_pos hi]
    cases a with
    | inl kq =>
      obtain ⟨k, q⟩ := kq
      obtain ⟨u1, u2⟩ := T
      refine ⟨u1, u2.1, ?_, ?_, ?_⟩
      · rw [← u2.2.1]; unfold emitF; split <;> rfl
      · rw [← u2.2.2.1]; unfold emitF; split <;> rfl
      · refine Eq.trans ?_ (u2.2.2.2.trans S.2.2.2)
        unfold emitF; split <;> rfl
    | inr kq =>
      obtain ⟨e, q⟩ := kq
      obtain ⟨u1, u2, u3, u4⟩ := T
      have hl : (c ++ e).length + 1 ≤ q := by
        simp only [List.length_append]
        omega
      obtain ⟨V2, S2⟩ := VP_emit hT u2 hl 1145
      rw [List.append_assoc] at V2
      refine ⟨u1, V2, ?_, S.tr (u4.tr S2)⟩
      simp only [exNeg, List.length_append, List.length_cons, List.length_nil]
      omega
  · rw [if_neg hi, if_neg hi]
    exact T.of S (by omega)
theorem tie_un (hT : Tok ζ n) {br cm : Nat → Pf} {abr acm : Nat → Pa} {k0 : Nat} (hb : ∀ j, j ≤ k0 → TieT ζ n lw 91 (br j) (abr j)) (hcm : ∀ j, j ≤ k0 → TieF ζ n lw (cm j) (acm j)) : TieF ζ n lw (unG ζ br cm k0 k0) (aUn (ζ.2 0) abr acm k0 k0) := by
  have two : ∀ j υ p c, j ≤ k0 → VP ζ n υ p c → υ.1 5 = lw → Tie ζ n υ c p (if υ.1 3 = 91 then br j υ else cm j υ) (if ζ.2 0 p = 91 then abr j p else acm j p) := by
    intro j υ p c hj V L
    rw [V.1.2.1]
    by_cases h : ζ.2 0 p = 91
    · rw [if_pos h, if_pos h]
      exact hb j hj υ p c V L h
    · rw [if_neg h, if_neg h]
      exact hcm j hj υ p c V L
  have loop : ∀ j υ p c υ0 p0, j ≤ k0 → VP ζ n υ p c → υ.1 5 = lw → sameV υ0 υ → c.length ≤ p0 → p0 + (k0 - j) ≤ p → Tie ζ n υ0 c p0 (unG ζ br cm k0 j υ) (aUn (ζ.2 0) abr acm k0 j p) := by
    intro j
    induction j with
    | zero =>
      intro υ p c υ0 p0 hj V L S hc hp
      have v3 : υ.1 3 = ζ.2 0 p := V.1.2.1
      by_cases h : ζ.2 0 p = 145
      · have e1 : unG ζ br cm k0 0 υ = (false, failF ζ υ 4) := by rw [← v3] at h; simp only [unG, h, if_true]
        have e2 : aUn (ζ.2 0) abr acm k0 0 p = .inl (4, p) := by simp only [aUn, h, if_true]
        rw [e1, e2]
        have b := VP_fail hT V 4
        exact ⟨rfl, b.1, b.2.1, b.2.2.1, b.2.2.2.trans S.2.2.2⟩
      · have e2 : aUn (ζ.2 0) abr acm k0 0 p = aNeg k0 (if ζ.2 0 p = 91 then abr 0 p else acm 0 p) := by simp only [aUn, h, if_false]
        have e1 : unG ζ br cm k0 0 υ = ((if υ.1 3 = 91 then br 0 υ else cm 0 υ).1, if k0 % 2 = 1 then emitF (if υ.1 3 = 91 then br 0 υ else cm 0 υ).2 1145 else (if υ.1 3 = 91 then br 0 υ else cm 0 υ).2) := by rw [← v3] at h; simp only [unG, h, if_false]
        rw [e1, e2]
        exact tie_neg hT S hc hp (two 0 υ p c hj V L)
    | succ j ih =>
      intro υ p c υ0 p0 hj V L S hc hp
      have v3 : υ.1 3 = ζ.2 0 p := V.1.2.1
      by_cases h : ζ.2 0 p = 145
      · have e1 : unG ζ br cm k0 (j + 1) υ = unG ζ br cm k0 j (skF ζ υ) := by rw [← v3] at h; simp only [unG, h, if_true]
        have e2 : aUn (ζ.2 0) abr acm k0 (j + 1) p = aUn (ζ.2 0) abr acm k0 j (p + 1) := by simp only [aUn, h, if_true]
        rw [e1, e2]
        obtain ⟨V1, S1⟩ := VP_skip hT V (by rw [h]; decide)
        exact ih _ _ _ _ _ (by omega) V1 (S1.2.2.1.trans L) (S.tr S1) hc (by omega)
      · have e2 : aUn (ζ.2 0) abr acm k0 (j + 1) p = aNeg (k0 - (j + 1)) (if ζ.2 0 p = 91 then abr (j + 1) p else acm (j + 1) p) := by simp only [aUn, h, if_false]
        have e1 : unG ζ br cm k0 (j + 1) υ = ((if υ.1 3 = 91 then br (j + 1) υ else cm (j + 1) υ).1, if (k0 - (j + 1)) % 2 = 1 then emitF (if υ.1 3 = 91 then br (j + 1) υ else cm (j + 1) υ).2 1145 else (if υ.1 3 = 91 then br (j + 1) υ else cm (j + 1) υ).2) := by rw [← v3] at h; simp only [unG, h, if_false]
        rw [e1, e2]
        exact tie_neg hT S hc hp (two (j + 1) υ p c hj V L)
  intro υ p c V L
  exact loop k0 υ p c υ p (Nat.le_refl _) V L (sameV.rf υ) V.2 (by omega)
theorem tie_tru {k : Nat} (hk : k < 3) (hT : Tok ζ n) {br : Nat → Pf} {abr : Nat → Pa} {j : Nat} (hb : ∀ i, i ≤ j → TieT ζ n (lwOf k) 91 (br i) (abr i)) : TieF ζ n (lwOf k) (truG ζ br j) (aTru (ζ.2 0) (ζ.2 1) k abr j) := by
  have h1 := tie_un hT hb (fun i _ => tie_cmT (ζ := ζ) (n := n) hk hT i)
  have h2 : TieF ζ n (lwOf k) (chainG ζ 146 1146 (unG ζ br (cmT ζ) j j)) (aCh (ζ.2 0) sAnd (aUn (ζ.2 0) abr (aCmT (ζ.2 0) (ζ.2 1) k) j j)) := by
    intro υ p c V L
    unfold chainG
    rw [chR_word 146 1146 sAnd (fun _ => rfl) rfl]
    exact tie_ch hT rfl h1 υ p c V L
  intro υ p c V L
  unfold truG
  unfold chainG
  rw [chR_word 147 1147 sOr (fun _ => rfl) rfl]
  exact tie_ch hT rfl h2 υ p c V L
theorem tie_br {k : Nat} (hk : k < 3) (hT : Tok ζ n) : ∀ i j, TieT ζ n (lwOf k) 91 (BR ζ i j) (aBr (ζ.2 0) (ζ.2 1) k i j) := by
  intro i
  induction i with
  | zero => intro j υ p c V L h; exact ⟨rfl, VP_fail hT V 4⟩
  | succ i ih =>
    intro j υ p c V L h
    unfold BR aBr
    by_cases hj : j ≤ i
    · rw [if_pos hj, if_pos hj]
      exact ih j υ p c V L h
    · rw [if_neg hj, if_neg hj]
      exact tie_in hT (tie_tru hk hT (fun i' _ => ih i')) (by decide) V L (by rw [h]; decide)
/-- a law's body, for the three laws -/
def lawG (ζ : Zs) (k : Nat) : Pf := if k = 2 then truG ζ (BR ζ 6) 6 else sumG ζ (parK ζ 6)
theorem tie_law {k : Nat} (hk : k < 3) (hT : Tok ζ n) : TieF ζ n (lwOf k) (lawG ζ k) (aLaw (ζ.2 0) (ζ.2 1) k) := by
  unfold lawG aLaw
  by_cases h : k = 2
  · subst h
    rw [if_pos rfl, if_pos rfl]
    exact tie_tru hk hT (fun i _ => tie_br hk hT 6 i)
  · rw [if_neg h, if_neg h]
    exact tie_sum hk hT (tie_parK hk hT 6)
end TIE
