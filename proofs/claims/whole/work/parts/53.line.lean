/-! A line of a text -/
section MOV
variable {h : jH} {w s a : Nat} {υ : Vs} {σ : St} {e : va_E}
theorem jset_jnew {n : Nat} {f : va_E} (ha : ¬ a = h.2.1) : jnew (jset h a e) f n = jset (jnew h f n) a e := by
  refine Prod.ext (funext fun q => ?_) rfl
  by_cases h1 : q = h.2.1
  · subst h1
    simp only [jnew, jset, if_true]
    rw [if_neg (Ne.symm ha)]
  · by_cases h2 : q = a
    · subst h2
      simp only [jnew, jset, if_true, h1, if_false]
    · simp only [jnew, jset, h1, h2, if_false]
theorem sput_new {n : Nat} (hs : ¬ (s ≤ h.2.1 ∧ h.2.1 < s + 7)) : jnew (sput h s σ) e n = sput (jnew h e n) s σ := by
  refine Prod.ext (funext fun q => ?_) rfl
  by_cases h1 : q = h.2.1
  · subst h1
    simp only [jnew, sput, if_true]
    rw [if_neg hs]
  · simp only [jnew, sput, h1, if_false]
theorem sput_set (hs : ¬ (s ≤ a ∧ a < s + 7)) : jset (sput h s σ) a e = sput (jset h a e) s σ := by
  refine Prod.ext (funext fun q => ?_) rfl
  by_cases h1 : q = a
  · subst h1
    simp only [jset, sput, if_true]
    rw [if_neg hs]
  · simp only [jset, sput, h1, if_false]
theorem vput_new {n : Nat} (h1 : ¬ w = h.2.1) (h2 : ¬ w + 13 = h.2.1) : jnew (vput h w υ) e n = vput (jnew h e n) w υ := by
  unfold vput
  rw [jset_jnew (h := jset h w (vobj w υ)) h2, jset_jnew h1]
theorem vput_set (h1 : ¬ a = w) (h2 : ¬ a = w + 13) : jset (vput h w υ) a e = vput (jset h a e) w υ := by
  unfold vput
  rw [jset_comm (a := w + 13) (b := a) (fun k => h2 k.symm), jset_comm (a := w) (b := a) (fun k => h1 k.symm)]
theorem ws_new {n : Nat} (h1 : ¬ w = h.2.1) (h2 : ¬ w + 13 = h.2.1) (h3 : ¬ (s ≤ h.2.1 ∧ h.2.1 < s + 7)) : jnew (ws h w s υ σ) e n = ws (jnew h e n) w s υ σ := by
  unfold ws
  rw [vput_new (h := sput h s σ) h1 h2, sput_new h3]
theorem ws_put (h1 : ¬ a = w) (h2 : ¬ a = w + 13) (h3 : ¬ (s ≤ a ∧ a < s + 7)) : jset (ws h w s υ σ) a e = ws (jset h a e) w s υ σ := by
  unfold ws
  rw [vput_set h1 h2, sput_set h3]
theorem ws_out {q : Nat} (h1 : ¬ q = w) (h2 : ¬ q = w + 13) (h3 : ¬ (s ≤ q ∧ q < s + 7)) : (ws h w s υ σ).1 q = h.1 q := (vput_ne h1 h2).trans (sput_out h3)
end MOV
def lawV (e : Ex) : (Nat → Int32) → Int32 := fun w => exV w e
def lawIn (g : jG) (t : Nat) (h : jH) (p : Nat) : Prop := p = g.2.2.2.2.2.2 ∨ (t + 8 ≤ p ∧ p < h.2.1)
/-- the told at t says what A says, the street aside -/
def TL (g : jG) (h : jH) (t : Nat) (A : Ab) : Prop := ∃ T : Td, TAt h t T ∧ T.1 = A.1 ∧ T.2.2 = (A.2.1.1.map lawV, A.2.1.2.1.map lawV, A.2.1.2.2.map lawV) ∧ lawIn g t h T.2.1.1 ∧ lawIn g t h T.2.1.2.1 ∧ lawIn g t h T.2.1.2.2
/-- what stays, and how much is taken -/
def LF (h h' : jH) (t : Nat) : Prop := (∀ q, q < h.2.1 → ¬ q = t → h'.1 q = h.1 q) ∧ h.2.1 ≤ h'.2.1 ∧ h.2.2 ≤ h'.2.2
theorem LF.rf (h : jH) (t : Nat) : LF h h t := ⟨fun _ _ _ => rfl, Nat.le_refl _, Nat.le_refl _⟩
theorem LF.tr {a b c : jH} {t : Nat} (x : LF a b t) (y : LF b c t) : LF a c t := ⟨fun q h1 h2 => (y.1 q (by have := x.2.1; omega) h2).trans (x.1 q h1 h2), Nat.le_trans x.2.1 y.2.1, Nat.le_trans x.2.2 y.2.2⟩
def sameT (υ υ' : Vs) : Prop := υ'.1 0 = υ.1 0 ∧ υ'.1 1 = υ.1 1 ∧ υ'.2.1 = υ.2.1
theorem sameV.t {υ υ' : Vs} (S : sameV υ υ') : sameT υ υ' := ⟨S.1, S.2.1, S.2.2.2⟩
def few (A : Ab) : Prop := ∃ m, m ≤ 7 ∧ A.2.2.1 0 = nI m
theorem few.n {A : Ab} (F : few A) : A.2.2.1 0 = nI (abN A) ∧ abN A ≤ 7 := by
  obtain ⟨m, h1, h2⟩ := F
  unfold abN
  rw [h2, ix_nI (by omega)]
  exact ⟨rfl, h1⟩
/-- what a line leaves behind -/
def LN (g : jG) (ζ : Zs) (n w t : Nat) (υ : Vs) (p : Nat) (hb : jH) (a : Pr Ab) (r : Int32) (h' : jH) : Prop := ∃ hb' υ' σ', h' = ws hb' w (t + 1) υ' σ' ∧ LF hb hb' t ∧ match a with
  | .inl (k, q) => r = 0 ∧ Bad ζ n υ υ' k q ∧ hb'.2 = hb.2 ∧ ∃ T', hb'.1 t = some (tobj t T')
  | .inr (A', q) => r = 1 ∧ VL ζ n υ' q ∧ sameT υ υ' ∧ TL g hb' t A' ∧ σ' = A'.2.2 ∧ few A' ∧ p ≤ q ∧ 3 * (hb'.2.1 - hb.2.1) ≤ q - p ∧ hb'.2.2 - hb.2.2 ≤ q - p
theorem TAt.ne {h h' : jH} {t : Nat} {T : Td} (H : TAt h t T) (e0 : h'.1 t = some (tobj t T)) (e : ∀ p, p = T.2.1.1 ∨ p = T.2.1.2.1 ∨ p = T.2.1.2.2 → h'.1 p = h.1 p) : TAt h' t T :=
  ⟨e0, H.2.1.of (e _ (Or.inl rfl)), H.2.2.1.of (e _ (Or.inr (Or.inl rfl))), H.2.2.2.of (e _ (Or.inr (Or.inr rfl)))⟩
section LIN
variable {g : jG} {d : Nat} {hb : jH} {w t n p : Nat} {ζ : Zs} {υ : Vs} {A : Ab}
theorem houses_set {σ : St} {k : Nat} {f : Nat → Int32} : (setR σ k f).1 = σ.1 := rfl
theorem aFlg_few {K N : Nat → Int32} {i : Nat} : ∀ m σ p σ' q, aFlg K N i m σ p = .inr (σ', q) → σ'.1 0 = σ.1 0 := by
  intro m
  induction m with
  | zero => intro σ p σ' q e; cases e; rfl
  | succ m ih =>
    intro σ p σ' q e
    unfold aFlg at e
    split at e
    · have := ih _ _ _ _ e
      exact this
    · split at e
      · revert e
        cases aNum K N (if K p = 139 then 20 else 999) (p + 1) with
        | inl kq => obtain ⟨k, q2⟩ := kq; intro e; cases e
        | inr kq => obtain ⟨v, q2⟩ := kq; intro e; exact (ih _ _ _ _ e).trans rfl
      · cases e; rfl
theorem aHome_few {K N : Nat → Int32} {σ σ' : St} {m p q : Nat} (hm : m ≤ 7) (e0 : σ.1 0 = nI m) (e : aHome K N σ m p = .inr (σ', q)) : m < 7 ∧ σ'.1 0 = nI (m + 1) := by
  unfold aHome at e
  split at e
  · cases e
  · rename_i hm7
    refine ⟨by omega, ?_⟩
    revert e
    cases aNum K N 99 (p + 1) with
    | inl kq => obtain ⟨k, q2⟩ := kq; intro e; cases e
    | inr kq =>
      obtain ⟨v, q2⟩ := kq
      intro e
      replace e : (if K q2 = 133 then _ else _) = Sum.inr (σ', q) := e
      split at e
      · revert e
        cases aNum K N 99 (q2 + 1) with
        | inl kq => obtain ⟨k, q3⟩ := kq; intro e; cases e
        | inr kq =>
          obtain ⟨u, q3⟩ := kq
          intro e
          replace e : pgo (aFlg K N m 900 (setR (setR σ 0 (upd (σ.2 0) m v)) 1 (upd (σ.2 1) m u)) q3) (fun σ' s => Sum.inr (homeZ σ' m, s)) = Sum.inr (σ', q) := e
          revert e
          generalize hσ : setR (setR σ 0 (upd (σ.2 0) m v)) 1 (upd (σ.2 1) m u) = σ1
          cases hf : aFlg K N m 900 σ1 q3 with
          | inl kq => obtain ⟨k, q4⟩ := kq; intro e; cases e
          | inr kq =>
            obtain ⟨σ2, q4⟩ := kq
            intro e
            replace e : Sum.inr (homeZ σ2 m, q4) = Sum.inr (σ', q) := e
            have e1 : homeZ σ2 m = σ' := congrArg Prod.fst (Sum.inr.inj e)
            have e3 : σ2.1 0 = nI m := (aFlg_few 900 σ1 q3 σ2 q4 hf).trans (by rw [← hσ]; exact e0)
            rw [← e1]
            show σ2.1 0 + 1 = nI (m + 1)
            rw [e3, nI_1]
      · cases e
theorem ln_fail (hT : Tok ζ n) (V : VL ζ n υ p) (k : Int32) (TT : TL g hb t A) {σ : St} : LN g ζ n w t υ p hb (.inl (k, p)) 0 (ws hb w (t + 1) (failF ζ υ k) σ) := by
  obtain ⟨T, T1, T2⟩ := TT
  exact ⟨hb, _, _, rfl, LF.rf hb t, rfl, VL_fail hT V k, rfl, T, T1.1⟩
theorem tie_begin (hT : Tok ζ n) (V : VL ζ n υ p) (h0 : ¬ ζ.2 0 p = 0) (words : Int32) : (ζ.2 0 (p + 1) = 58 → (beginF ζ υ words).1 = true ∧ VP ζ n (beginF ζ υ words).2 (p + 2) [] ∧ sameT υ (beginF ζ υ words).2 ∧ (beginF ζ υ words).2.1 5 = words) ∧ (¬ ζ.2 0 (p + 1) = 58 → (beginF ζ υ words).1 = false ∧ Bad ζ n υ (beginF ζ υ words).2 2 (p + 1)) := by
  have V0 : VP ζ n (vI (vI υ 5 words) 4 0) p [] := ⟨⟨V.1, V.2.1, V.2.2, rfl, fun i hi => absurd hi (Nat.not_lt_zero i)⟩, Nat.zero_le _⟩
  obtain ⟨V1, S1⟩ := VP_skip hT V0 h0
  obtain ⟨x1, x2⟩ := tie_exp hT V1 (t := 58) (by decide)
  unfold beginF
  refine ⟨fun h => ?_, fun h => ?_⟩
  · obtain ⟨y1, y2, y3⟩ := x1 h
    have S := S1.tr y3
    exact ⟨y1, y2, ⟨S.1, S.2.1, S.2.2.2⟩, S.2.2.1⟩
  · obtain ⟨y1, y2⟩ := x2 h
    exact ⟨y1, y2.1, y2.2.1, y2.2.2.1, y2.2.2.2.trans S1.2.2.2⟩
theorem TL.put {k : Nat} (hk : k < 3) {e : Ex} {m : Nat} {f : Nat → Int32} (hm : m = e.length) (hm9 : m < 900) (he : exOK k 64 e) (hc : ∀ i, i < e.length → e[i]? = some (f i)) (hNO : g.2.2.2.2.2.2 < t) (ht : t + 8 ≤ hb.2.1) {T : Td} (T1 : TAt hb t T) (T2 : T.1 = A.1 ∧ T.2.2 = (A.2.1.1.map lawV, A.2.1.2.1.map lawV, A.2.1.2.2.map lawV) ∧ lawIn g t hb T.2.1.1 ∧ lawIn g t hb T.2.1.2.1 ∧ lawIn g t hb T.2.1.2.2) :
    TL g (jset (jnew hb (rowL m (fun i => if i < m then f i else 0)) m) t (.inr (9, [.ref (t + 1), .int T.1.1, .int T.1.2.1, .int T.1.2.2, .ref T.2.1.1, .ref T.2.1.2.1, .ref T.2.1.2.2].set (4 + k) (.ref hb.2.1)))) t (abLaw A k e) := by
  have old : ∀ p, lawIn g t hb p → (jset (jnew hb (rowL m (fun i => if i < m then f i else 0)) m) t (.inr (9, [.ref (t + 1), .int T.1.1, .int T.1.2.1, .int T.1.2.2, .ref T.2.1.1, .ref T.2.1.2.1, .ref T.2.1.2.2].set (4 + k) (.ref hb.2.1)))).1 p = hb.1 p := by
    intro p hp
    have : ¬ p = t ∧ ¬ p = hb.2.1 := by
      rcases hp with h | h
      · omega
      · omega
    exact (jset_ne this.1).trans (jnew_ne this.2)
  have new : LawAt (jset (jnew hb (rowL m (fun i => if i < m then f i else 0)) m) t (.inr (9, [.ref (t + 1), .int T.1.1, .int T.1.2.1, .int T.1.2.2, .ref T.2.1.1, .ref T.2.1.2.1, .ref T.2.1.2.2].set (4 + k) (.ref hb.2.1)))) hb.2.1 k (some (lawV e)) :=
    exOK.law (f := f) (m := m) ((jset_ne (by omega)).trans jnew_at) he hm (by omega) hc
  have li : ∀ p, lawIn g t hb p → lawIn g t (jset (jnew hb (rowL m (fun i => if i < m then f i else 0)) m) t (.inr (9, [.ref (t + 1), .int T.1.1, .int T.1.2.1, .int T.1.2.2, .ref T.2.1.1, .ref T.2.1.2.1, .ref T.2.1.2.2].set (4 + k) (.ref hb.2.1)))) p := by
    intro p hp
    rcases hp with h | h
    · exact Or.inl h
    · refine Or.inr ⟨h.1, ?_⟩
      show p < hb.2.1 + 1
      omega
  have ln : lawIn g t (jset (jnew hb (rowL m (fun i => if i < m then f i else 0)) m) t (.inr (9, [.ref (t + 1), .int T.1.1, .int T.1.2.1, .int T.1.2.2, .ref T.2.1.1, .ref T.2.1.2.1, .ref T.2.1.2.2].set (4 + k) (.ref hb.2.1)))) hb.2.1 := Or.inr ⟨ht, Nat.lt_succ_self _⟩
  obtain ⟨a1, a2, a3, a4, a5⟩ := T2
  have b1 : T.2.2.1 = A.2.1.1.map lawV := by rw [a2]
  have b2 : T.2.2.2.1 = A.2.1.2.1.map lawV := by rw [a2]
  have b3 : T.2.2.2.2 = A.2.1.2.2.map lawV := by rw [a2]
  have l1 := T1.2.1.of (old _ a3)
  have l2 := T1.2.2.1.of (old _ a4)
  have l3 := T1.2.2.2.of (old _ a5)
  have hk3 : k = 0 ∨ k = 1 ∨ k = 2 := by omega
  rcases hk3 with rfl | rfl | rfl
  · exact ⟨(T.1, (hb.2.1, T.2.1.2), (some (lawV e), T.2.2.2)), ⟨jset_at _ _ _, new, l2, l3⟩, a1, Prod.ext rfl (Prod.ext b2 b3), ln, li _ a4, li _ a5⟩
  · exact ⟨(T.1, (T.2.1.1, hb.2.1, T.2.1.2.2), (T.2.2.1, some (lawV e), T.2.2.2.2)), ⟨jset_at _ _ _, l1, new, l3⟩, a1, Prod.ext b1 (Prod.ext rfl b3), li _ a3, ln, li _ a5⟩
  · exact ⟨(T.1, (T.2.1.1, T.2.1.2.1, hb.2.1), (T.2.2.1, T.2.2.2.1, some (lawV e))), ⟨jset_at _ _ _, l1, l2, new⟩, a1, Prod.ext b1 (Prod.ext b2 rfl), li _ a3, li _ a4, ln⟩
/-- a law's line -/
theorem ln_law {mS : jM} {k : Nat} (hk : k < 3) {x1 words : Int32} (hx : x1 = 141 + nI k) (hw : words = lwOf k) (H : ZAt hb (w + 9) ζ) (hT : Tok ζ n) (hN : ∀ p, ζ.2 0 p = 2 → ∃ j, j < 1000 ∧ ζ.2 1 p = nI j) (V : VL ζ n υ p) (h0 : ¬ ζ.2 0 p = 0) (ht : υ.2.1 = t) (TT : TL g hb t A) (F : few A) (wt : w + 14 ≤ t) (hNO : g.2.2.2.2.2.2 < t) (htb : t + 8 ≤ hb.2.1) (R : hb.2.1 + (n - p) ≤ jB0 g + 601024 ∧ hb.2.2 + (n - p) ≤ 7293034)
    (hS : isP g mS (d + 3) (sput hb (t + 1) A.2.2) w 0 (lawG ζ k)) :
    Con g mX7_beginLaw (d + 3) [.ref w, .int words] (ws hb w (t + 1) υ A.2.2) (jPi (fun (r86 : Int32) (h87 : jH) => (r86 = 0 → LN g ζ n w t υ p hb (aLw (ζ.2 0) (ζ.2 1) k A p) 0 h87) ∧ (¬ r86 = 0 → ∃ fs92 : List Value, h87.1 w = some (.inr (7, fs92)) ∧ Con g mS (d + 3) [.ref w, .int 0] h87 (jPi (fun (r90 : Int32) (h91 : jH) => (r90 = 0 → LN g ζ n w t υ p hb (aLw (ζ.2 0) (ζ.2 1) k A p) 0 h91) ∧ (¬ r90 = 0 → ∃ fs96 : List Value, h91.1 w = some (.inr (7, fs96)) ∧ Con g mX7_keepLaw (d + 3) [.ref w, .int x1] h91 (jPi (fun (r94 : Int32) (h95 : jH) => (r94 = 0 → LN g ζ n w t υ p hb (aLw (ζ.2 0) (ζ.2 1) k A p) 0 h95) ∧ (¬ r94 = 0 → LN g ζ n w t υ p hb (aLw (ζ.2 0) (ζ.2 1) k A p) 1 h95)) no2))) no2))) no2) := by
  have hd : apart (t + 1) 7 w 14 := Or.inr (by omega)
  have HS := ws_Z (h := hb) (σ := A.2.2) hd H
  obtain ⟨T, T1, T2⟩ := id TT
  obtain ⟨x1', x2'⟩ := tie_begin hT V h0 words
  refine (c_beginLaw (h := sput hb (t + 1) A.2.2) HS).pi (fun r h' hr => ?_) (fun E h' f => f.elim)
  obtain ⟨rfl, rfl⟩ := hr
  refine ⟨fun q => ?_, fun q => ?_⟩
  · have hb1 : (beginF ζ υ words).1 = false := ((bI_0 rfl).1.mp q)
    have h58 : ¬ ζ.2 0 (p + 1) = 58 := fun k => by rw [(x1' k).1] at hb1; exact Bool.noConfusion hb1
    obtain ⟨y1, y2⟩ := x2' h58
    have ea : aLw (ζ.2 0) (ζ.2 1) k A p = .inl (2, p + 1) := by unfold aLw; rw [if_neg h58]
    rw [ea]
    exact ⟨hb, _, _, rfl, LF.rf hb t, rfl, y2, rfl, T, T1.1⟩
  · have hb1 : (beginF ζ υ words).1 = true := ((bI_0 rfl).2.mp q)
    have h58 : ζ.2 0 (p + 1) = 58 := by
      by_cases k : ζ.2 0 (p + 1) = 58
      · exact k
      · rw [(x2' k).1] at hb1; exact Bool.noConfusion hb1
    obtain ⟨y1, y2, y3, y4⟩ := x1' h58
    have ea : aLw (ζ.2 0) (ζ.2 1) k A p = pgo (aLaw (ζ.2 0) (ζ.2 1) k (p + 2)) (fun e q => .inr (abLaw A k e, q)) := by unfold aLw; rw [if_pos h58]
    rw [ea]
    refine ⟨_, vput_0, ?_⟩
    have TI := tie_law (ζ := ζ) (n := n) hk hT (beginF ζ υ words).2 (p + 2) [] y2 (y4.trans hw)
    have GD := gd_law (K := ζ.2 0) (N := ζ.2 1) (k := k) hN (p + 2)
    refine (hS (beginF ζ υ words).2).pi (fun r h' hr => ?_) (fun E h' f => f.elim)
    obtain ⟨rfl, rfl⟩ := hr
    revert TI GD
    generalize lawG ζ k (beginF ζ υ words).2 = rr
    cases aLaw (ζ.2 0) (ζ.2 1) k (p + 2) with
    | inl kq =>
      obtain ⟨kk, q2⟩ := kq
      rintro ⟨t1, t2⟩ _
      refine ⟨fun _ => ?_, fun q3 => absurd (by rw [t1]; rfl) q3⟩
      exact ⟨hb, _, _, rfl, LF.rf hb t, rfl, ⟨t2.1, t2.2.1, t2.2.2.1, t2.2.2.2.trans y3.2.2⟩, rfl, T, T1.1⟩
    | inr kq =>
      obtain ⟨e, q2⟩ := kq
      rintro ⟨t1, t2, t3, t4⟩ g1
      refine ⟨fun q3 => absurd q3 (by rw [t1]; decide), fun _ => ⟨_, vput_0, ?_⟩⟩
      have q2n : q2 < n := t2.1.2.2.1
      have hn := hT.2.2.1
      have hm9 : e.length < 900 := by omega
      have hm : rr.2.1 4 = nI e.length := t2.1.2.2.2.1
      have hto : rr.2.2.1 = t := t4.2.2.2.trans (y3.2.2.trans ht)
      have N1 : (sput hb (t + 1) A.2.2).1 t = some (.inr (9, [.ref (t + 1), .int T.1.1, .int T.1.2.1, .int T.1.2.2, .ref T.2.1.1, .ref T.2.1.2.1, .ref T.2.1.2.2])) := (sput_out (by omega)).trans T1.1
      have KL := c_keepLaw (g := g) (d := d + 1) (h := sput hb (t + 1) A.2.2) (w := w) (word := x1) hm hm9 hto N1 (by simp) (by omega) (by omega) (by show ¬ t = hb.2.1; omega) (by show w + 13 < hb.2.1; omega) ⟨by show hb.2.1 + 1 ≤ _; omega, by show hb.2.2 + _ ≤ _; omega⟩
      refine KL.pi (fun r h' hr => ?_) (fun E h' f => f.elim)
      obtain ⟨rfl, rfl⟩ := hr
      refine ⟨fun q3 => absurd q3 (by decide), fun _ => ?_⟩
      have es : (if x1 = 141 then 4 else if x1 = 142 then 5 else 6) = 4 + k := by
        rw [hx]
        have hk3 : k = 0 ∨ k = 1 ∨ k = 2 := by omega
        rcases hk3 with rfl | rfl | rfl <;> decide
      rw [es]
      have eh : jset (jnew (vput (sput hb (t + 1) A.2.2) w rr.2) (rowL e.length (fun i => if i < e.length then rr.2.2.2 i else 0)) e.length) t (.inr (9, [.ref (t + 1), .int T.1.1, .int T.1.2.1, .int T.1.2.2, .ref T.2.1.1, .ref T.2.1.2.1, .ref T.2.1.2.2].set (4 + k) (.ref (sput hb (t + 1) A.2.2).2.1))) = ws (jset (jnew hb (rowL e.length (fun i => if i < e.length then rr.2.2.2 i else 0)) e.length) t (.inr (9, [.ref (t + 1), .int T.1.1, .int T.1.2.1, .int T.1.2.2, .ref T.2.1.1, .ref T.2.1.2.1, .ref T.2.1.2.2].set (4 + k) (.ref hb.2.1)))) w (t + 1) rr.2 A.2.2 := by
        show jset (jnew (ws hb w (t + 1) rr.2 A.2.2) _ _) t _ = _
        rw [ws_new (by omega) (by omega) (by omega), ws_put (by omega) (by omega) (by omega)]
        rfl
      rw [eh]
      refine ⟨_, _, _, rfl, ⟨fun q h1 h2 => (jset_ne h2).trans (jnew_ne (by omega)), Nat.le_succ _, Nat.le_add_right _ _⟩, rfl, t2.1.l, ⟨t4.1.trans y3.1, t4.2.1.trans y3.2.1, t4.2.2.2.trans y3.2.2⟩, TL.put hk rfl hm9 g1 t2.1.2.2.2.2 hNO htb T1 T2, rfl, F, by omega, ?_, ?_⟩
      · show 3 * (hb.2.1 + 1 - hb.2.1) ≤ q2 - p
        have hg : 0 < e.length := g1.1
        omega
      · show hb.2.2 + e.length - hb.2.2 ≤ q2 - p
        omega
end LIN
