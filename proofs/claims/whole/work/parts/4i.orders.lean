/-! ORDERS at o: ints 0 fewest, 1 alike, 2 askedQuarters, 3 askedAll; askedTold; best; homes; the street asked. -/
abbrev Os : Type := (Nat → Int32) × Option Nat × (Nat → Int32) × (Nat → Nat) × St
def oref (t : Option Nat) : Value := match t with | none => .null | some v => .ref v
def prow (p : Nat → Nat) : va_E := .inl (0, (7, .inl (fun i => nI (p i))))
def oobj (o : Nat) (ω : Os) : va_E := .inr (4, [.ref (o + 1), .int (ω.1 0), .int (ω.1 1), .ref (o + 2), .ref (o + 9), oref ω.2.1, .int (ω.1 2), .int (ω.1 3)])
def ocell (o : Nat) (ω : Os) (j : Nat) : va_E := if j = 0 then oobj o ω else if j = 1 then srow ω.2.2.1 else if j = 9 then prow ω.2.2.2.1 else scell (o + 2) ω.2.2.2.2 (j - 2)
def oput (h : jH) (o : Nat) (ω : Os) : jH := ov h o 10 (ocell o ω)
def OAt (h : jH) (o : Nat) (ω : Os) : Prop := ∀ j, j < 10 → h.1 (o + j) = some (ocell o ω j)
def oI (ω : Os) (k : Nat) (v : Int32) : Os := (fun i => if i = k then v else ω.1 i, ω.2)
def oT (ω : Os) (t : Option Nat) : Os := (ω.1, t, ω.2.2)
def oB (ω : Os) (f : Nat → Int32) : Os := (ω.1, ω.2.1, f, ω.2.2.2)
def oH (ω : Os) (p : Nat → Nat) : Os := (ω.1, ω.2.1, ω.2.2.1, p, ω.2.2.2.2)
def oS (ω : Os) (σ : St) : Os := (ω.1, ω.2.1, ω.2.2.1, ω.2.2.2.1, σ)
theorem le10 {P : Nat → Prop} (h0 : P 0) (h1 : P 1) (h2 : P 2) (h3 : P 3) (h4 : P 4) (h5 : P 5) (h6 : P 6) (h7 : P 7) (h8 : P 8) (h9 : P 9) : ∀ i, i < 10 → P i := by
  intro i hi
  rcases (by omega : i = 0 ∨ i = 1 ∨ i = 2 ∨ i = 3 ∨ i = 4 ∨ i = 5 ∨ i = 6 ∨ i = 7 ∨ i = 8 ∨ i = 9) with rfl | rfl | rfl | rfl | rfl | rfl | rfl | rfl | rfl | rfl <;> assumption
def swpN (p : Nat → Nat) (i k : Nat) : Nat → Nat := fun j => if j = k then p i else if j = i then p k else p j
def lowS (p : Nat → Nat) : Nat → Option Nat
  | 0 => none
  | k + 1 => if p (k + 1) < p k then lowS p k else some k
def hiS (p : Nat → Nat) (low : Nat) : Nat → Nat
  | 0 => 0
  | j + 1 => if low < j + 1 ∧ p (j + 1) < p low then hiS p low j else j + 1
def revS : Nat → (Nat → Nat) → Nat → Nat → Nat → Nat
  | 0, p, _, _ => p
  | m + 1, p, l, r => if l < r then revS m (swpN p l r) (l + 1) (r - 1) else p
def stepF (p : Nat → Nat) (n : Nat) : Option (Nat → Nat) := match lowS p (n - 1) with
  | none => none
  | some low => some (revS 7 (swpN p low (hiS p low (n - 1))) (low + 1) (n - 1))
theorem lowS_lt {p : Nat → Nat} : ∀ {k low : Nat}, lowS p k = some low → low < k
  | 0, low, h => by simp [lowS] at h
  | k + 1, low, h => by
    rw [lowS] at h
    split at h
    · exact Nat.lt_succ_of_lt (lowS_lt h)
    · simp at h
      omega
theorem hiS_le {p : Nat → Nat} {low : Nat} : ∀ k, hiS p low k ≤ k
  | 0 => Nat.le_refl _
  | k + 1 => by
    rw [hiS]
    split
    · exact Nat.le_succ_of_le (hiS_le k)
    · exact Nat.le_refl _
def p7 (p : Nat → Nat) : Prop := ∀ i, p i < 7
theorem p7_swp {p : Nat → Nat} (H : p7 p) (i k : Nat) : p7 (swpN p i k) := by
  intro j
  unfold swpN
  split
  · exact H i
  · split
    · exact H k
    · exact H j
theorem p7_rev : ∀ (m : Nat) {p : Nat → Nat} (l r : Nat), p7 p → p7 (revS m p l r)
  | 0, p, l, r, H => H
  | m + 1, p, l, r, H => by
    rw [revS]
    split
    · exact p7_rev m _ _ (p7_swp H _ _)
    · exact H
section ORD
variable {g : jG} {d : Nat} {h hs : jH} {o : Nat} {ω : Os}
theorem oput_OAt (h : jH) (o : Nat) (ω : Os) : OAt (oput h o ω) o ω := fun _ hj => ov_at _ _ _ _ hj
theorem OAt.put (H : OAt h o ω) : oput h o ω = h := by
  refine Prod.ext (funext fun q => ?_) rfl
  by_cases h1 : o ≤ q ∧ q < o + 10
  · obtain ⟨j, rfl⟩ : ∃ j, q = o + j := ⟨q - o, by omega⟩
    rw [H j (by omega)]
    exact ov_at _ _ _ _ (by omega)
  · exact ov_out h1
theorem oput_0 : (oput h o ω).1 o = some (oobj o ω) := oput_OAt h o ω 0 (by decide)
theorem oput_1 : (oput h o ω).1 (o + 1) = some (srow ω.2.2.1) := oput_OAt h o ω 1 (by decide)
theorem oput_9 : (oput h o ω).1 (o + 9) = some (prow ω.2.2.2.1) := oput_OAt h o ω 9 (by decide)
theorem oput_S : SAt (oput h o ω) (o + 2) ω.2.2.2.2 := ⟨oput_OAt h o ω 2 (by decide), oput_OAt h o ω 3 (by decide), oput_OAt h o ω 4 (by decide), oput_OAt h o ω 5 (by decide), oput_OAt h o ω 6 (by decide), oput_OAt h o ω 7 (by decide), oput_OAt h o ω 8 (by decide)⟩
theorem oput_set {j : Nat} (hj : j < 10) {e : va_E} {ω' : Os} (he : ∀ i, i < 10 → (if i = j then e else ocell o ω i) = ocell o ω' i) : jset (oput h o ω) (o + j) e = oput h o ω' := by
  unfold oput
  rw [ov_set _ _ _ _ hj]
  exact ov_congr he
theorem oput_B (f : Nat → Int32) : jset (oput h o ω) (o + 1) (.inl (0, (7, .inl f))) = oput h o (oB ω f) := oput_set (j := 1) (by decide) (le10 rfl rfl rfl rfl rfl rfl rfl rfl rfl rfl)
theorem oput_H {f : Nat → Int32} (p : Nat → Nat) (e : f = fun i => nI (p i)) : jset (oput h o ω) (o + 9) (.inl (0, (7, .inl f))) = oput h o (oH ω p) := by
  subst e
  exact oput_set (j := 9) (by decide) (le10 rfl rfl rfl rfl rfl rfl rfl rfl rfl rfl)
theorem oput_few (v : Int32) : jset (oput h o ω) o (.inr (4, [.ref (o + 1), .int (ω.1 0), .int (ω.1 1), .ref (o + 2), .ref (o + 9), oref ω.2.1, .int (ω.1 2), .int (ω.1 3)].set 1 (.int v))) = oput h o (oI ω 0 v) := oput_set (j := 0) (by decide) (le10 rfl rfl rfl rfl rfl rfl rfl rfl rfl rfl)
theorem oput_ali (v : Int32) : jset (oput h o ω) o (.inr (4, [.ref (o + 1), .int (ω.1 0), .int (ω.1 1), .ref (o + 2), .ref (o + 9), oref ω.2.1, .int (ω.1 2), .int (ω.1 3)].set 2 (.int v))) = oput h o (oI ω 1 v) := oput_set (j := 0) (by decide) (le10 rfl rfl rfl rfl rfl rfl rfl rfl rfl rfl)
theorem oput_qua (v : Int32) : jset (oput h o ω) o (.inr (4, [.ref (o + 1), .int (ω.1 0), .int (ω.1 1), .ref (o + 2), .ref (o + 9), oref ω.2.1, .int (ω.1 2), .int (ω.1 3)].set 6 (.int v))) = oput h o (oI ω 2 v) := oput_set (j := 0) (by decide) (le10 rfl rfl rfl rfl rfl rfl rfl rfl rfl rfl)
theorem oput_all (v : Int32) : jset (oput h o ω) o (.inr (4, [.ref (o + 1), .int (ω.1 0), .int (ω.1 1), .ref (o + 2), .ref (o + 9), oref ω.2.1, .int (ω.1 2), .int (ω.1 3)].set 7 (.int v))) = oput h o (oI ω 3 v) := oput_set (j := 0) (by decide) (le10 rfl rfl rfl rfl rfl rfl rfl rfl rfl rfl)
theorem oput_tol (t : Nat) : jset (oput h o ω) o (.inr (4, [.ref (o + 1), .int (ω.1 0), .int (ω.1 1), .ref (o + 2), .ref (o + 9), oref ω.2.1, .int (ω.1 2), .int (ω.1 3)].set 5 (.ref t))) = oput h o (oT ω (some t)) := oput_set (j := 0) (by decide) (le10 rfl rfl rfl rfl rfl rfl rfl rfl rfl rfl)
theorem oput_s (σ : St) : sput (oput h o ω) (o + 2) σ = oput h o (oS ω σ) := by
  rw [sput_ov, oput, ov_in (by omega)]
  exact ov_congr (le10 rfl rfl rfl rfl rfl rfl rfl rfl rfl rfl)
theorem c_ordEx {i k : Nat} (hi : i < 7) (hk : k < 7) : Con g mX4_exchange (d + 1) [.ref o, .int (nI i), .int (nI k)] (oput h o ω) (jPv (fun h' => h' = oput h o (oH ω (swpN ω.2.2.2.1 i k))) no2) := by
  have e1 : (nI i).toNatClampNeg = i := nI_clamp (by omega)
  have e2 : (nI k).toNatClampNeg = k := nI_clamp (by omega)
  refine con_of km_X4_exchange.1.2.2.2.2 (Nat.le_of_ble_eq_true rfl) rfl (bX4_exchange_0 ?_)
  refine ⟨_, oput_0, _, rfl, _, _, oput_9, vp_in_nI hi (by decide), _, oput_0, _, rfl, _, oput_0, _, rfl, _, _, oput_9, vp_in_nI hk (by decide), _, _, oput_9, vp_in_nI hi (by decide), fun h1 q1 => ?_⟩
  replace q1 := q1.trans (oput_H (fun j => if j = i then ω.2.2.2.1 k else ω.2.2.2.1 j) (by
    funext j
    rw [e1, e2]
    by_cases hj : j = i <;> simp only [upd, hj, if_true, if_false]))
  subst q1
  refine ⟨_, oput_0, _, rfl, _, _, oput_9, vp_in_nI hk (by decide), fun h1 q1 => ?_⟩
  refine q1.trans (oput_H (ω := oH ω (fun j => if j = i then ω.2.2.2.1 k else ω.2.2.2.1 j)) (swpN ω.2.2.2.1 i k) ?_)
  funext j
  rw [e1, e2]
  by_cases hj : j = k
  · simp only [upd, swpN, hj, if_true]
  · simp only [upd, swpN, hj, if_false]
    rfl
theorem step_rev {n : Nat} (hn : n ≤ 7) : ∀ (m : Nat) (ω : Os) (l r : Nat), r < n → r ≤ l + m + m → l + m ≤ 20 →
    J g mX4_step (d + 2) hs (jPi (fun v h' => v = 1 ∧ h' = oput h o (oH ω (revS m ω.2.2.2.1 l r))) no2) 83 [(0, .ref o), (4, .int (nI l)), (5, .int (nI r))] [] (oput h o ω) := by
  intro m
  induction m with
  | zero =>
    intro ω l r hr hm hl
    exact bX4_step_83 ⟨fun q => absurd q (nI_nlt (by omega) (by omega)), fun _ => ⟨rfl, rfl⟩⟩
  | succ m ih =>
    intro ω l r hr hm hl
    by_cases hlr : l < r
    · refine bX4_step_83 ⟨fun _ => ⟨_, oput_0, (c_ordEx (by omega) (by omega)).pv (fun h' q => ?_) (fun E h' f => f.elim)⟩, fun q => absurd (nI_lt hlr (by omega)) q⟩
      subst q
      obtain ⟨r', rfl⟩ : ∃ r', r = r' + 1 := ⟨r - 1, by omega⟩
      rw [nI_1, nI_dec, revS, if_pos hlr]
      exact ih (oH ω (swpN ω.2.2.2.1 l (r' + 1))) (l + 1) r' (by omega) (by omega) (by omega)
    · rw [revS, if_neg hlr]
      exact bX4_step_83 ⟨fun q => absurd q (nI_nlt (by omega) (by omega)), fun _ => ⟨rfl, rfl⟩⟩
theorem step_high {n low : Nat} (hn : n ≤ 7) (hp : p7 ω.2.2.2.1) (hlow : low < n - 1) : ∀ (j : Nat), low ≤ j → j < n → hiS ω.2.2.2.1 low j = hiS ω.2.2.2.1 low (n - 1) →
    J g mX4_step (d + 2) hs (jPi (fun v h' => v = 1 ∧ h' = oput h o (oH ω (revS 7 (swpN ω.2.2.2.1 low (hiS ω.2.2.2.1 low (n - 1))) (low + 1) (n - 1)))) no2) 41 [(0, .ref o), (1, .int (nI n)), (2, .int (nI low)), (3, .int (nI j))] [] (oput h o ω) := by
  have fin : ∀ j, j < n → hiS ω.2.2.2.1 low (n - 1) = j → J g mX4_step (d + 2) hs (jPi (fun v h' => v = 1 ∧ h' = oput h o (oH ω (revS 7 (swpN ω.2.2.2.1 low (hiS ω.2.2.2.1 low (n - 1))) (low + 1) (n - 1)))) no2) 67 [(0, .ref o), (1, .int (nI n)), (2, .int (nI low)), (3, .int (nI j))] [] (oput h o ω) := by
    intro j hj hh
    rw [hh]
    refine bX4_step_67 ⟨_, oput_0, (c_ordEx (by omega) (by omega)).pv (fun h' q => ?_) (fun E h' f => f.elim)⟩
    subst q
    obtain ⟨n', rfl⟩ : ∃ n', n = n' + 1 := ⟨n - 1, by omega⟩
    rw [nI_1, nI_pred]
    exact step_rev (n := n' + 1) hn 7 (oH ω (swpN ω.2.2.2.1 low j)) (low + 1) n' (by omega) (by omega) (by omega)
  intro j
  induction j with
  | zero =>
    intro h1 h2 hh
    exact bX4_step_41 ⟨fun q => absurd q (nI_nlt (by omega) (by omega)), fun _ => fin 0 h2 hh.symm⟩
  | succ j ih =>
    intro h1 h2 hh
    have e1 : (nI (j + 1)).toNatClampNeg = j + 1 := nI_clamp (by omega)
    have e2 : (nI low).toNatClampNeg = low := nI_clamp (by omega)
    have b1 := hp (j + 1)
    have b2 := hp low
    refine bX4_step_41 ⟨fun q => ⟨_, oput_0, _, rfl, _, _, oput_9, vp_in_nI (by omega) (by decide), _, oput_0, _, rfl, _, _, oput_9, vp_in_nI (by omega) (by decide), fun q2 => ?_, fun q2 => ?_⟩, fun q => ?_⟩
    · rw [e1, e2] at q2
      replace q2 := (nI_ltI (by omega) (by omega)).mp q2
      have q3 := (nI_ltI (by omega) (by omega)).mp q
      rw [nI_dec]
      refine ih (by omega) (by omega) ?_
      rw [← hh, hiS, if_pos ⟨q3, q2⟩]
    · rw [e1, e2] at q2
      refine fin (j + 1) h2 ?_
      rw [← hh, hiS, if_neg (fun e => q2 (nI_lt e.2 (by omega)))]
    · refine fin (j + 1) h2 ?_
      rw [← hh, hiS, if_neg (fun e => q (nI_lt e.1 (by omega)))]
def stepPost (h : jH) (o : Nat) (ω : Os) (n : Nat) (r : Int32) (h' : jH) : Prop := match stepF ω.2.2.2.1 n with
  | none => r = 0 ∧ h' = oput h o ω
  | some p => r = 1 ∧ h' = oput h o (oH ω p)
theorem step_low {n : Nat} (hn : n ≤ 7) (hp : p7 ω.2.2.2.1) : ∀ (k : Nat), k < n → lowS ω.2.2.2.1 k = lowS ω.2.2.2.1 (n - 1) → ∀ x : Int32, x = nI k - 1 →
    J g mX4_step (d + 2) hs (jPi (stepPost h o ω n) no2) 4 [(0, .ref o), (1, .int (nI n)), (2, .int x)] [] (oput h o ω) := by
  intro k
  induction k with
  | zero =>
    intro hk hh x hx
    have e : x < 0 := by rw [hx]; decide
    refine bX4_step_4 ⟨fun _ => bX4_step_31 ⟨fun _ => ?_, fun q => absurd e q⟩, fun q => absurd e q⟩
    show stepPost _ _ _ _ _ _
    rw [stepPost, stepF, ← hh]
    exact ⟨rfl, rfl⟩
  | succ k ih =>
    intro hk hh x hx
    rw [nI_pred] at hx
    subst hx
    have e1 : (nI k).toNatClampNeg = k := nI_clamp (by omega)
    have e2 : (nI (k + 1)).toNatClampNeg = k + 1 := nI_clamp (by omega)
    have b1 := hp (k + 1)
    have b2 := hp k
    refine bX4_step_4 ⟨fun q => absurd q (nI_pos (by omega)), fun _ => ⟨_, oput_0, _, rfl, _, _, oput_9, vp_in_nI (by omega) (by decide), _, oput_0, _, rfl, _, _, oput_9, by rw [nI_1]; exact vp_in_nI (by omega) (by decide), fun q => ?_, fun q => ?_⟩⟩
    · rw [nI_1, e1, e2] at q
      replace q := (nI_ltI (by omega) (by omega)).mp q
      refine ih (by omega) (by rw [← hh, lowS, if_pos q]) _ (Int32.sub_eq_add_neg _ _).symm
    · rw [nI_1, e1, e2] at q
      have hl : lowS ω.2.2.2.1 (n - 1) = some k := by rw [← hh, lowS, if_neg (fun e => q (nI_lt e (by omega)))]
      refine bX4_step_31 ⟨fun q => absurd q (nI_pos (by omega)), fun _ => ?_⟩
      obtain ⟨n', rfl⟩ : ∃ n', n = n' + 1 := ⟨n - 1, by omega⟩
      rw [nI_pred]
      have := step_high (g := g) (d := d) (h := h) (hs := hs) (o := o) (n := n' + 1) (low := k) hn hp (by omega) n' (by omega) (by omega) rfl
      unfold stepPost stepF
      rw [hl]
      exact this
theorem c_step {n : Nat} (hn : n ≤ 7) (hp : p7 ω.2.2.2.1) : Con g mX4_step (d + 2) [.ref o, .int (nI n)] (oput h o ω) (jPi (stepPost h o ω n) no2) := by
  refine con_of km_X4_step.1.2.2.2.2 (Nat.le_of_ble_eq_true rfl) rfl (bX4_step_0 ?_)
  by_cases h0 : n = 0
  · subst h0
    have e : (nI 0 - 2 : Int32) < 0 := by decide
    refine bX4_step_4 ⟨fun _ => bX4_step_31 ⟨fun _ => ?_, fun q => absurd e q⟩, fun q => absurd e q⟩
    exact ⟨rfl, rfl⟩
  · obtain ⟨n', rfl⟩ : ∃ n', n = n' + 1 := ⟨n - 1, by omega⟩
    refine step_low hn hp n' (by omega) rfl _ ?_
    rw [nI_succ]
    have : nI n' + 1 - 2 = nI n' - 1 := by
      rw [Int32.sub_eq_add_neg, Int32.sub_eq_add_neg, Int32.add_assoc]
      rfl
    exact this
theorem stepF_7 {p p' : Nat → Nat} {n : Nat} (H : p7 p) (e : stepF p n = some p') : p7 p' := by
  unfold stepF at e
  split at e
  · simp at e
  · rw [Option.some.injEq] at e
    rw [← e]
    exact p7_rev _ _ _ (p7_swp H _ _)
def noteF (ω : Os) (lost : Int32) : Os := if lost < ω.1 0 then oI (oI (oB (oI (oI ω 0 lost) 1 0) (cpy7 (fun i => nI (ω.2.2.2.1 i)) ω.2.2.1)) 0 lost) 1 1 else if lost = ω.1 0 then oI ω 1 (ω.1 1 + 1) else ω
theorem c_note {x : Int32} : Con g mX4_note (d + 1) [.ref o, .int x] (oput h o ω) (jPv (fun h' => h' = oput h o (noteF ω x)) no2) := by
  refine con_of km_X4_note.1.2.2.2.2 (Nat.le_of_ble_eq_true rfl) rfl (bX4_note_0 ?_)
  have L0 : ¬ (0 : Int32) < 0 := by decide
  have L7 : ¬ (7 : Int32) < 0 := by decide
  have L8 : (0 : Int32).toNatClampNeg + (7 : Int32).toNatClampNeg ≤ 7 := by decide
  refine ⟨_, oput_0, _, rfl, fun q => ?_, fun q => ?_⟩
  · refine ⟨_, oput_0, Nat.le_of_ble_eq_true rfl, fun h1 q1 => ?_⟩
    replace q1 := q1.trans (oput_few _)
    subst q1
    refine ⟨_, oput_0, Nat.le_of_ble_eq_true rfl, fun h1 q1 => ?_⟩
    replace q1 := q1.trans (oput_ali _)
    subst q1
    refine ⟨_, oput_0, _, rfl, _, oput_0, _, rfl, _, _, oput_9, _, _, oput_1, L0, L0, L7, L8, L8, fun h1 q1 => ?_⟩
    replace q1 := q1.trans (oput_B _)
    subst q1
    refine bX4_note_33 ⟨_, oput_0, _, rfl, fun _ => ⟨_, oput_0, _, rfl, _, oput_0, Nat.le_of_ble_eq_true rfl, fun h1 q1 => ?_⟩, fun q => absurd rfl q⟩
    replace q1 := q1.trans (oput_ali _)
    show h1 = _
    rw [q1, noteF, if_pos q]
    congr 1
    refine Prod.ext (funext fun k => ?_) rfl
    by_cases h1 : k = 1
    · subst h1; rfl
    · by_cases h0 : k = 0
      · subst h0; rfl
      · simp only [oI, oB, h0, h1, if_false]
  · refine bX4_note_33 ⟨_, oput_0, _, rfl, fun q2 => ⟨_, oput_0, _, rfl, _, oput_0, Nat.le_of_ble_eq_true rfl, fun h1 q1 => ?_⟩, fun q2 => ?_⟩
    · replace q1 := q1.trans (oput_ali _)
      show h1 = _
      rw [q1, noteF, if_neg q, if_pos q2]
    · show _ = _
      rw [noteF, if_neg q, if_neg q2]
end ORD
