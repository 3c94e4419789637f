/-! The two agree: swaps wanted, houses, hedges, gifts, worth -/
section THG
variable {T : Td} {lim : Int32} {σ α : St} {n m i j k N : Nat} {e : Int32} {ω : CW}
theorem t_lost (B : stB (wS ω)) (i : Int32) : hLost (tT ω) (wS ω) i = fLost ω i := by
  unfold hLost fLost lostW
  rw [los_7 B, lost_sum B]
  rfl
theorem t_heaviest (B : stB (wS ω)) (i : Int32) : hHeaviest (tT ω) (wS ω) i = fHeaviest ω i := by
  unfold hHeaviest fHeaviest
  by_cases c : inN i 1 20 = false
  · rw [if_pos c, if_pos c]
  · rw [if_neg c, if_neg c]
    have hn : inN i 1 20 = true := by cases hh : inN i 1 20 with | true => rfl | false => exact absurd hh c
    obtain ⟨-, -, h2⟩ := inN_nI (a := 1) (b := 20) (by decide) (by decide) hn
    have := hvy_e (f := burN (tT ω) (tL ω) (wS ω) (ix i)) (fun x => (bur_b B _ (by omega) x).1) (sN (wS ω)) 0 (-1) (-1) (by have := B.1.2; omega) (Or.inl ⟨rfl, rfl⟩)
    exact congrArg Sum.inr this.symm
theorem swp_c (f : Nat → Int32) : swp f i k = swp f k i := by
  funext x
  rw [swp_at, swp_at]
  by_cases c1 : x = k
  · by_cases c2 : x = i
    · rw [if_pos c1, if_pos c2, ← c1, ← c2]
    · rw [if_pos c1, if_neg c2, if_pos c1]
  · by_cases c2 : x = i
    · rw [if_neg c1, if_pos c2, if_pos c2]
    · rw [if_neg c1, if_neg c2, if_neg c2, if_neg c1]
theorem swp_i (f : Nat → Int32) : swp f i i = f := by
  funext x
  rw [swp_at]
  by_cases c : x = i
  · rw [if_pos c, c]
  · rw [if_neg c, if_neg c]
theorem exch_c {a b : Int32} : sExch σ a b = sExch σ b a := by
  unfold sExch
  by_cases c : sHas σ a = true ∧ sHas σ b = true
  · rw [if_pos c, if_pos ⟨c.2, c.1⟩, swp_c (σ.2 0), swp_c (σ.2 1), swp_c (σ.2 2), swp_c (σ.2 3)]
  · rw [if_neg c, if_neg (fun f => c ⟨f.2, f.1⟩)]
theorem exch_i {a : Int32} : sExch σ a a = σ := by
  unfold sExch
  by_cases c : sHas σ a = true ∧ sHas σ a = true
  · rw [if_pos c, swp_i, swp_i, swp_i, swp_i, setR_same, setR_same, setR_same, setR_same]
  · rw [if_neg c]
theorem burA_e : burA T σ i k n = burN T T.1.2.2 (sExch σ (nI i) (nI k)) n k := by
  unfold burA
  by_cases c : i = k
  · rw [if_pos c, c, exch_i]
  · rw [if_neg c]
def gnP (ω : CW) (n x : Nat) : Bool := gain ω (burW ω (wS ω) n) n (nI (x / 10 % 10)) (nI (x % 10))
theorem wsP_e (S : sok (wS ω)) {x : Nat} (hx : x < 100) : wsP (tT ω) (wS ω) n x = (prOk (wS ω) x && gnP ω n x) := by
  have h7 := S.2
  unfold wsP gnP
  cases hp : prOk (wS ω) x with
  | false => rw [Bool.false_and, Bool.false_and]
  | true =>
    have hp2 := of_decide_eq_true ((prOk_n S hx).symm.trans hp)
    rw [Bool.true_and, Bool.true_and]
    unfold gain burW
    rw [sG_at S (by omega), sG_at S (by omega), ix_nI (by omega), ix_nI (by omega), burA_e, burA_e, exch_c (a := nI (x % 10))]
theorem wsL_r : ∀ c x, wsL T σ n c x = match rfi (wsP T σ n) c x with | some y => nI y | none => -1
  | 0, _ => rfl
  | c + 1, x => by
    show (if wsP T σ n x = true then nI x else wsL T σ n c (x + 1)) = match (if wsP T σ n x = true then some x else rfi (wsP T σ n) c (x + 1)) with | some y => nI y | none => -1
    by_cases q : wsP T σ n x = true
    · rw [if_pos q, if_pos q]
    · rw [if_neg q, if_neg q]
      exact wsL_r c (x + 1)
theorem wswI_f {g : Nat} (hg : g < 7) : ∀ m h, h + m ≤ 7 → wswI ω (burW ω (wS ω) n) n g m h = ((prIn g m h).find? (gnP ω n)).map nI
  | 0, _, _ => rfl
  | m + 1, h, hh => by
    obtain ⟨c1, c2, c3⟩ := cd10 g hg h (by omega)
    have e0 : gnP ω n (10 * g + h) = gain ω (burW ω (wS ω) n) n (nI g) (nI h) := by
      unfold gnP
      rw [c2, c3]
    show (if gain ω (burW ω (wS ω) n) n (nI g) (nI h) = true then some (nI g * 10 + nI h) else wswI ω (burW ω (wS ω) n) n g m (h + 1)) = (((10 * g + h) :: prIn g m (h + 1)).find? (gnP ω n)).map nI
    rw [List.find?_cons, e0]
    by_cases q : gain ω (burW ω (wS ω) n) n (nI g) (nI h) = true
    · rw [if_pos q, q, c1]; rfl
    · rw [if_neg q]
      have : gain ω (burW ω (wS ω) n) n (nI g) (nI h) = false := by cases hh : gain ω (burW ω (wS ω) n) n (nI g) (nI h) with | true => exact absurd hh q | false => rfl
      rw [this]
      exact wswI_f hg m (h + 1) (by omega)
theorem wswO_f (S : sok (wS ω)) : ∀ m g, g + m = sN (wS ω) → wswO ω (burW ω (wS ω) n) n m g = match (prOu (sN (wS ω)) m g).find? (gnP ω n) with | some y => nI y | none => -1
  | 0, _, _ => rfl
  | m + 1, g, hg => by
    have h7 := S.2
    show (match wswI ω (burW ω (wS ω) n) n g (sN (wS ω) - (g + 1)) (g + 1) with | some v => v | none => wswO ω (burW ω (wS ω) n) n m (g + 1)) = match (prIn g (sN (wS ω) - (g + 1)) (g + 1) ++ prOu (sN (wS ω)) m (g + 1)).find? (gnP ω n) with | some y => nI y | none => -1
    rw [wswI_f (by omega) _ _ (by omega), List.find?_append]
    cases (prIn g (sN (wS ω) - (g + 1)) (g + 1)).find? (gnP ω n) with
    | some y => rfl
    | none => exact wswO_f S m (g + 1) (by omega)
theorem t_wouldSwap (B : stB (wS ω)) (i : Int32) : hWouldSwap (tT ω) (wS ω) i = fWouldSwap ω i := by
  unfold hWouldSwap fWouldSwap
  by_cases c : inN i 1 20 = false
  · rw [if_pos c, if_pos c]
  · rw [if_neg c, if_neg c]
    refine congrArg Sum.inr ?_
    rw [wsL_r, wswO_f B.1 (sN (wS ω)) 0 (by omega), rfi_l (q := prOk (wS ω)) (fun x h => ?_), fil_pr B.1]
    · have : ∀ (l : List Nat), (∀ x, x ∈ l → x < 100 ∧ prOk (wS ω) x = true) → l.find? (wsP (tT ω) (wS ω) (ix i)) = l.find? (gnP ω (ix i)) := by
        intro l
        induction l with
        | nil => intro _; rfl
        | cons a l ih =>
          intro h
          obtain ⟨h1, h2⟩ := h a List.mem_cons_self
          rw [List.find?_cons, List.find?_cons, wsP_e B.1 h1, h2, Bool.true_and, ih (fun x hx => h x (List.mem_cons_of_mem _ hx))]
      rw [this]
      intro x hx
      rw [← fil_pr B.1] at hx
      obtain ⟨h1, h2⟩ := List.mem_filter.mp hx
      have := List.mem_range'_1.mp h1
      exact ⟨by omega, h2⟩
    · unfold wsP at h
      rw [Bool.and_eq_true] at h
      exact h.1
theorem bh_e {h : Nat} : ∀ m k b l, (∃ j, j < 7 ∧ b = nI j) → k + m ≤ 7 → bhL ω n (nI h) m k b l = bhM (tT ω) (wS ω) n h m k b l
  | 0, _, _, _, _, _ => rfl
  | m + 1, k, b, l, hb, hk => by
    show (if b = -1 ∨ burW ω (sExch (wS ω) (nI h) (nI k)) n k < l then bhL ω n (nI h) m (k + 1) (nI k) (burW ω (sExch (wS ω) (nI h) (nI k)) n k) else bhL ω n (nI h) m (k + 1) b l) = (if burA (tT ω) (wS ω) h k n < l then bhM (tT ω) (wS ω) n h m (k + 1) (nI k) (burA (tT ω) (wS ω) h k n) else bhM (tT ω) (wS ω) n h m (k + 1) b l)
    have e0 : burW ω (sExch (wS ω) (nI h) (nI k)) n k = burA (tT ω) (wS ω) h k n := burA_e.symm
    rw [e0]
    by_cases c : burA (tT ω) (wS ω) h k n < l
    · rw [if_pos (Or.inr c), if_pos c]
      exact bh_e m (k + 1) _ _ ⟨k, by omega, rfl⟩ (by omega)
    · obtain ⟨j, hj, ej⟩ := hb
      rw [if_neg (fun z => z.elim (fun z => by rw [ej] at z; exact nI_m1 (by omega) z) c), if_neg c]
      exact bh_e m (k + 1) _ _ ⟨j, hj, ej⟩ (by omega)
theorem t_bestHouse (B : stB (wS ω)) (i n : Int32) : hBestHouse (tT ω) (wS ω) i n = fBestHouse ω i n := by
  unfold hBestHouse fBestHouse
  by_cases c : sHas (wS ω) i = false
  · rw [if_pos c, if_pos c]
  · rw [if_neg c, if_neg c]
    by_cases c2 : inN n 1 20 = false
    · rw [if_pos c2, if_pos c2]
    · rw [if_neg c2, if_neg c2]
      have hh : sHas (wS ω) i = true := by cases hq : sHas (wS ω) i with | true => rfl | false => exact absurd hq c
      obtain ⟨h1, h2, h7⟩ := sHas_ix B.1 hh
      refine congrArg Sum.inr ?_
      obtain ⟨M, hM⟩ : ∃ M, sN (wS ω) = M + 1 := ⟨sN (wS ω) - 1, by omega⟩
      rw [hM, Nat.add_sub_cancel, h2, ix_nI (by omega)]
      show _ = (if (-1 : Int32) = -1 ∨ burW ω (sExch (wS ω) (nI (ix i)) (nI 0)) (ix n) 0 < 0 then bhL ω (ix n) (nI (ix i)) M 1 (nI 0) (burW ω (sExch (wS ω) (nI (ix i)) (nI 0)) (ix n) 0) else _)
      rw [if_pos (Or.inl rfl), bh_e M 1 _ _ ⟨0, by decide, rfl⟩ (by omega)]
      have e0 : burW ω (sExch (wS ω) (nI (ix i)) (nI 0)) (ix n) 0 = burA (tT ω) (wS ω) (ix i) 0 (ix n) := burA_e.symm
      rw [e0]
      rfl
/-! hedges -/
theorem bg_e (B : stB (wS ω)) : ∀ m j k b, k < 1000 → bhgL ω n m j (nI k) b = bgL (tT ω) (wS ω) n m j b (nI k)
  | 0, _, _, _, _ => rfl
  | m + 1, j, k, b, hk => by
    have Be : stB (setR (wS ω) 5 (upd ((wS ω).2 5) j (nI n))) := stB_hedge B _
    obtain ⟨l1, l2⟩ := los_lt (T := tT ω) (n := n) Be hk
    show (if losW ω (setR (wS ω) 5 (upd ((wS ω).2 5) j (nI n))) (nI k) n < nI k then bhgL ω n m (j + 1) (losW ω (setR (wS ω) 5 (upd ((wS ω).2 5) j (nI n))) (nI k) n) (nI j) else bhgL ω n m (j + 1) (nI k) b) = (if lsV (tT ω) (setR (wS ω) 5 (upd ((wS ω).2 5) j (nI n))) n < nI k then bgL (tT ω) (wS ω) n m (j + 1) (nI j) (lsV (tT ω) (setR (wS ω) 5 (upd ((wS ω).2 5) j (nI n))) n) else bgL (tT ω) (wS ω) n m (j + 1) b (nI k))
    by_cases c : lsV (tT ω) (setR (wS ω) 5 (upd ((wS ω).2 5) j (nI n))) n < nI k
    · have e1 : losW ω (setR (wS ω) 5 (upd ((wS ω).2 5) j (nI n))) (nI k) n = lsV (tT ω) (setR (wS ω) 5 (upd ((wS ω).2 5) j (nI n))) n := l2 c
      rw [if_pos (show losW ω _ (nI k) n < nI k from l1.mpr c), if_pos c, e1]
      exact bg_e B m (j + 1) _ _ (by have := lst_7 (T := tT ω) (lim := (tT ω).1.2.2) Be n; show lstC (tT ω) (tT ω).1.2.2 _ n < 1000; omega)
    · rw [if_neg (show ¬ losW ω _ (nI k) n < nI k from fun z => c (l1.mp z)), if_neg c]
      exact bg_e B m (j + 1) k b hk
theorem t_bestHedge (B : stB (wS ω)) (i : Int32) : hBestHedge (tT ω) (wS ω) i = fBestHedge ω i := by
  unfold hBestHedge fBestHedge
  by_cases c : inN i 1 20 = false
  · rw [if_pos c, if_pos c]
  · rw [if_neg c, if_neg c]
    have e0 : lostW ω (ix i) = nI (lstC (tT ω) (tL ω) (wS ω) (ix i)) := by
      unfold lostW
      rw [los_7 B, lost_sum B]
    have := bg_e (n := ix i) B (sN (wS ω)) 0 (lstC (tT ω) (tL ω) (wS ω) (ix i)) (-1) (by have := lst_7 (T := tT ω) (lim := tL ω) B (ix i); omega)
    rw [e0]
    exact congrArg Sum.inr this.symm
theorem ls_gone (hg : goneB α i = false) : lstB T α n i = goneB (pN T α n) i := by
  unfold lstB
  rw [hg]; simp
theorem hd_e (B : stB (wS ω)) (hi : i < sN (wS ω)) (hg : goneB (wS ω) i = false) : ∀ m s f b B0, ((B0 = none ∧ f = 8 ∧ b = -1) ∨ ∃ t, B0 = some t ∧ t < 128 ∧ f = nI (popN 7 t) ∧ b = nI t) → s + m ≤ 128 → ((hdL (tT ω) (wS ω) i n m s B0 = none ∧ hedL ω (nI i) n m s f b = (8, -1)) ∨ ∃ t, hdL (tT ω) (wS ω) i n m s B0 = some t ∧ t < 128 ∧ hedL ω (nI i) n m s f b = (nI (popN 7 t), nI t))
  | 0, s, f, b, B0, hb, _ => by
    rcases hb with ⟨h1, h2, h3⟩ | ⟨t, h1, h2, h3, h4⟩
    · exact Or.inl ⟨h1, by show (f, b) = _; rw [h2, h3]⟩
    · exact Or.inr ⟨t, h1, h2, by show (f, b) = _; rw [h3, h4]⟩
  | m + 1, s, f, b, B0, hb, hs => by
    have Be : stB (hdgS ω s (nI n) (sN (wS ω))) := stB_hedge B _
    have pl : ∀ s, popN 7 s ≤ 7 := fun s => by
      rw [pop_bit]
      exact bcnt_max _ 7
    have e1 : ruiW ω (hdgS ω s (nI n) (sN (wS ω))) (nI i) n = lstB (tT ω) (hdS (wS ω) s (nI n) (sN (wS ω))) n i := by
      have h1 : goneB (hdS (wS ω) s (nI n) (sN (wS ω))) i = false := hg
      rw [ls_gone h1]
      exact rui_n (T := tT ω) (lim := tL ω) (n := n) Be hi
    have key : nI (popN 7 s) < f ↔ sml s B0 = true := by
      rcases hb with ⟨h1, h2, h3⟩ | ⟨t, h1, h2, h3, h4⟩
      · rw [h1, h2]
        exact ⟨fun _ => rfl, fun _ => (nI_lti (b := 8) (by have := pl s; omega) (by omega)).mpr (by have := pl s; omega)⟩
      · rw [h1, h3, nI_lti (by have := pl s; omega) (by have := pl t; omega)]
        exact ⟨fun z => decide_eq_true z, fun z => of_decide_eq_true z⟩
    have r1 : hdL (tT ω) (wS ω) i n (m + 1) s B0 = if sml s B0 = true ∧ lstB (tT ω) (hdS (wS ω) s (nI n) (sN (wS ω))) n i = false then hdL (tT ω) (wS ω) i n m (s + 1) (some s) else hdL (tT ω) (wS ω) i n m (s + 1) B0 := rfl
    have r2 : hedL ω (nI i) n (m + 1) s f b = if nI (popN 7 s) < f ∧ ruiW ω (hdgS ω s (nI n) (sN (wS ω))) (nI i) n = false then hedL ω (nI i) n m (s + 1) (nI (popN 7 s)) (nI s) else hedL ω (nI i) n m (s + 1) f b := rfl
    rw [r1, r2, e1]
    by_cases c : sml s B0 = true ∧ lstB (tT ω) (hdS (wS ω) s (nI n) (sN (wS ω))) n i = false
    · rw [if_pos c, if_pos ⟨key.mpr c.1, c.2⟩]
      exact hd_e B hi hg m (s + 1) _ _ _ (Or.inr ⟨s, rfl, by omega, rfl, rfl⟩) (by omega)
    · rw [if_neg c, if_neg (fun z => c ⟨key.mp z.1, z.2⟩)]
      exact hd_e B hi hg m (s + 1) _ _ _ hb (by omega)
theorem t_hedges (B : stB (wS ω)) (i n w : Int32) : hHedges (tT ω) (wS ω) i n w = fHedges ω i n w := by
  unfold hHedges fHedges
  by_cases c : sHas (wS ω) i = false
  · rw [if_pos c, if_pos c]
  rw [if_neg c, if_neg c]
  by_cases c2 : inN n 1 20 = false
  · rw [if_pos c2, if_pos c2]
  rw [if_neg c2, if_neg c2]
  by_cases c3 : inN w 0 1 = false
  · rw [if_pos c3, if_pos c3]
  rw [if_neg c3, if_neg c3]
  by_cases c4 : sGone (wS ω) i = true
  · rw [if_pos c4, if_pos c4]
  rw [if_neg c4, if_neg c4]
  have hh : sHas (wS ω) i = true := by cases hq : sHas (wS ω) i with | true => rfl | false => exact absurd hq c
  obtain ⟨h1, h2, h7⟩ := sHas_ix B.1 hh
  have hg : goneB (wS ω) (ix i) = false := by
    cases hq : goneB (wS ω) (ix i) with
    | false => rfl
    | true =>
      have := sG_at B.1 h1
      rw [← h2, hq] at this
      exact absurd this c4
  have p7 : 2 ^ sN (wS ω) ≤ 128 := Nat.pow_le_pow_right (n := 2) (by decide) h7
  have D := hd_e (n := ix n) B h1 hg (2 ^ sN (wS ω)) 0 8 (-1) none (Or.inl ⟨rfl, rfl, rfl⟩) (by omega)
  rw [← h2] at D
  refine congrArg Sum.inr ?_
  rcases D with ⟨d1, d2⟩ | ⟨t, d1, d2, d3⟩
  · rw [d1, d2]
    rfl
  · rw [d1, d3]
    unfold hedV hdR
    by_cases q : w = 1
    · show (if w = 1 then nI t else nI (popN 7 t)) = (if nI t = -1 ∨ w = 1 then nI t else nI (popN 7 t))
      rw [if_pos q, if_pos (Or.inr q)]
    · show (if w = 1 then nI t else nI (popN 7 t)) = (if nI t = -1 ∨ w = 1 then nI t else nI (popN 7 t))
      rw [if_neg q, if_neg (fun z => z.elim (nI_m1 (by omega)) q)]
/-! gifts -/
theorem sv_e (B : stB (wS ω)) (hi : i < sN (wS ω)) (hg : goneB (wS ω) i = false) : ∀ m j, j + m ≤ 1000 → savL ω (nI i) n m j = svL (tT ω) (wS ω) i n m j
  | 0, _, _ => rfl
  | m + 1, j, hj => by
    have h7 := B.1.2
    have eS : setR (wS ω) 2 (upd ((wS ω).2 2) (ix (nI i)) (jmin ((wS ω).2 2 (ix (nI i)) + nI j) 999999)) = gvS (wS ω) i j := by
      unfold gvS
      rw [ix_nI (by omega), jmin_c]
    have Be : stB (gvS (wS ω) i j) := stB_cash B (rng_min (B.2.1 i hi).2.2.2.1 (by omega))
    have e1 : ruiW ω (gvS (wS ω) i j) (nI i) n = lstB (tT ω) (gvS (wS ω) i j) n i := by
      have h1 : goneB (gvS (wS ω) i j) i = false := hg
      rw [ls_gone h1]
      exact rui_n (T := tT ω) (lim := tL ω) (n := n) Be hi
    show (if ruiW ω (setR (wS ω) 2 (upd ((wS ω).2 2) (ix (nI i)) (jmin ((wS ω).2 2 (ix (nI i)) + nI j) 999999))) (nI i) n = false then nI j else savL ω (nI i) n m (j + 1)) = (if lstB (tT ω) (gvS (wS ω) i j) n i = false then nI j else svL (tT ω) (wS ω) i n m (j + 1))
    rw [eS, e1, sv_e B hi hg m (j + 1) (by omega)]
theorem not_gone (B : stB (wS ω)) {i : Int32} (hh : sHas (wS ω) i = true) (c4 : ¬ sGone (wS ω) i = true) : goneB (wS ω) (ix i) = false := by
  obtain ⟨h1, h2, h7⟩ := sHas_ix B.1 hh
  cases hq : goneB (wS ω) (ix i) with
  | false => rfl
  | true =>
    have := sG_at B.1 h1
    rw [← h2, hq] at this
    exact absurd this c4
theorem t_saves (B : stB (wS ω)) (i n : Int32) : hSaves (tT ω) (wS ω) i n = fSaves ω i n := by
  unfold hSaves fSaves
  by_cases c : sHas (wS ω) i = false
  · rw [if_pos c, if_pos c]
  rw [if_neg c, if_neg c]
  by_cases c2 : inN n 1 20 = false
  · rw [if_pos c2, if_pos c2]
  rw [if_neg c2, if_neg c2]
  by_cases c4 : sGone (wS ω) i = true
  · rw [if_pos c4, if_pos c4]
  rw [if_neg c4, if_neg c4]
  have hh : sHas (wS ω) i = true := by cases hq : sHas (wS ω) i with | true => rfl | false => exact absurd hq c
  obtain ⟨h1, h2, h7⟩ := sHas_ix B.1 hh
  have := sv_e (n := ix n) B h1 (not_gone B hh c4) 1000 0 (by omega)
  rw [← h2] at this
  exact congrArg Sum.inr this.symm
/-! worth -/
theorem cnt_less {f : Nat → Bool} {i : Nat} : ∀ N, i < N → bcnt f N = bcnt (fun k => f k && !decide (k = i)) N + (if f i = true then 1 else 0) := by
  intro N
  induction N with
  | zero => intro h; omega
  | succ N ih =>
    intro h
    show bcnt f N + (if f N = true then 1 else 0) = bcnt (fun k => f k && !decide (k = i)) N + (if (f N && !decide (N = i)) = true then 1 else 0) + (if f i = true then 1 else 0)
    by_cases c : N = i
    · subst c
      have e0 : bcnt (fun k => f k && !decide (k = N)) N = bcnt f N := bcnt_cg (fun k hk => by rw [decide_eq_false (by omega)]; simp)
      rw [e0]
      simp
    · rw [ih (by omega), decide_eq_false c]
      cases f N <;> simp <;> omega
theorem lwo_e (B : stB (wS ω)) (hi : i < sN (wS ω)) (hg : goneB (wS ω) i = false) : lwo ω (nI i) n = wtM (tT ω) (wS ω) i n := by
  have h7 := B.1.2
  have eR : sRuin (wS ω) (nI i) = rnS (wS ω) i := by
    unfold sRuin rnS
    rw [if_pos (hs_nI B.1 hi), ix_nI (by omega)]
  have Br : stB (rnS (wS ω) i) := by
    refine stB_set (σ := wS ω) rfl B (fun x hx => ?_)
    have R := B.2.1 x hx
    refine ⟨?_, R.2.1, R.2.2.1, ?_, R.2.2.2.2⟩
    · show upd ((wS ω).2 3) i 1 x = 0 ∨ upd ((wS ω).2 3) i 1 x = 1
      unfold upd
      split
      · exact Or.inr rfl
      · exact R.1
    · show rng (upd ((wS ω).2 2) i 0 x)
      unfold upd
      split
      · unfold rng; decide
      · exact R.2.2.2.1
  have a1 : losW ω (rnS (wS ω) i) 7 n = lsV (tT ω) (rnS (wS ω) i) n := by
    unfold losW
    rw [los_7 Br, lost_sum Br]
    rfl
  have a2 : losW ω (wS ω) 7 n = nI (lstN (tT ω) (wS ω) n) := by
    unfold losW
    rw [los_7 B, lost_sum B]
    rfl
  have a3 : sGone (pasN (tT ω) (tL ω) (wS ω) n) (nI i) = lstB (tT ω) (wS ω) n i := by
    rw [ls_gone hg]
    exact sG_at (stB_pasN B n).1 (by rw [pasN_N]; exact hi)
  have a4 := cnt_less (f := lstB (tT ω) (wS ω) n) (sN (wS ω)) hi
  unfold lwo wtM
  rw [eR, los_7 B, a1, a2, a3]
  have b7 := bcnt_max (lstB (tT ω) (wS ω) n) (sN (wS ω))
  refine congrArg (lsV (tT ω) (rnS (wS ω) i) n - ·) ?_
  by_cases c : lstB (tT ω) (wS ω) n i = true
  · rw [if_pos c]
    rw [if_pos c] at a4
    show nI (bcnt (lstB (tT ω) (wS ω) n) (sN (wS ω))) - 1 = _
    rw [a4]
    have tab : ∀ z, z < 8 → nI (z + 1) - 1 = nI z := by decide
    exact tab _ (by omega)
  · rw [if_neg c]
    rw [if_neg c] at a4
    show nI (bcnt (lstB (tT ω) (wS ω) n) (sN (wS ω))) = _
    rw [a4]
    rfl
theorem t_worth (B : stB (wS ω)) (i n : Int32) : hWorth (tT ω) (wS ω) i n = fWorth ω i n := by
  unfold hWorth fWorth
  by_cases c : sHas (wS ω) i = false
  · rw [if_pos c, if_pos c]
  rw [if_neg c, if_neg c]
  by_cases c2 : inN n 1 20 = false
  · rw [if_pos c2, if_pos c2]
  rw [if_neg c2, if_neg c2]
  by_cases c4 : sGone (wS ω) i = true
  · rw [if_pos c4, if_pos c4]
  rw [if_neg c4, if_neg c4]
  have hh : sHas (wS ω) i = true := by cases hq : sHas (wS ω) i with | true => rfl | false => exact absurd hq c
  obtain ⟨h1, h2, h7⟩ := sHas_ix B.1 hh
  have := lwo_e (n := ix n) B h1 (not_gone B hh c4)
  rw [← h2] at this
  exact congrArg Sum.inr this.symm
/-- the last one that something hangs on -/
def plT (T : Td) (σ : St) (n : Nat) : Nat → Int32
  | 0 => -1
  | m + 1 => if goneB σ m = false ∧ 0 < wtM T σ m n then nI m else plT T σ n m
theorem pl_a : ∀ c x b, b = plT T σ n x → plM T σ n c x b = plT T σ n (x + c)
  | 0, x, b, h => h
  | c + 1, x, b, h => by
    show (if goneB σ x = false ∧ 0 < wtM T σ x n then plM T σ n c (x + 1) (nI x) else plM T σ n c (x + 1) b) = _
    by_cases q : goneB σ x = false ∧ 0 < wtM T σ x n
    · rw [if_pos q, pl_a c (x + 1) (nI x) (if_pos q).symm, show x + 1 + c = x + (c + 1) by omega]
    · rw [if_neg q, pl_a c (x + 1) b (h.trans (if_neg q).symm), show x + 1 + c = x + (c + 1) by omega]
theorem pl_b (B : stB (wS ω)) : ∀ m, m ≤ 7 → pilL ω n m = plT (tT ω) (wS ω) n (min m (sN (wS ω)))
  | 0, _ => by rw [Nat.zero_min]; rfl
  | m + 1, h => by
    have h7 := B.1.2
    have ih := pl_b B m (by omega)
    show (if sHas (wS ω) (nI m) = true ∧ sGone (wS ω) (nI m) = false ∧ 0 < lwo ω (nI m) n then nI m else pilL ω n m) = _
    by_cases q : m < sN (wS ω)
    · rw [show min (m + 1) (sN (wS ω)) = m + 1 by omega]
      rw [show min m (sN (wS ω)) = m by omega] at ih
      show _ = (if goneB (wS ω) m = false ∧ 0 < wtM (tT ω) (wS ω) m n then nI m else plT (tT ω) (wS ω) n m)
      rw [sG_at B.1 q, ih]
      by_cases g0 : goneB (wS ω) m = false
      · rw [lwo_e B q g0]
        by_cases c : 0 < wtM (tT ω) (wS ω) m n
        · rw [if_pos ⟨hs_nI B.1 q, g0, c⟩, if_pos ⟨g0, c⟩]
        · rw [if_neg (fun z => c z.2.2), if_neg (fun z => c z.2)]
      · rw [if_neg (fun z => g0 z.2.1), if_neg (fun z => g0 z.1)]
    · rw [if_neg (fun z => q (by have := (sHas_ix B.1 z.1).1; rw [ix_nI (by omega)] at this; exact this)), ih, show min (m + 1) (sN (wS ω)) = min m (sN (wS ω)) by omega]
theorem t_pillar (B : stB (wS ω)) (i : Int32) : hPillar (tT ω) (wS ω) i = fPillar ω i := by
  have h7 := B.1.2
  unfold hPillar fPillar
  by_cases c : inN i 1 20 = false
  · rw [if_pos c, if_pos c]
  · rw [if_neg c, if_neg c, pl_a (sN (wS ω)) 0 (-1) rfl, Nat.zero_add, pl_b B 7 (Nat.le_refl _), show min 7 (sN (wS ω)) = sN (wS ω) by omega]
end THG
