/-! DOORS at e: found; twos; the rows, one a door. -/
abbrev Ds : Type := Int32 × (Nat → Int32) × (Nat → Nat → Int32)
def dobj (e : Nat) (n : Int32) : va_E := .inr (1, [.ref (e + 1), .int n, .ref (e + 2)])
def d693 (f : Nat → Int32) : va_E := .inl (0, (693, .inl f))
def drefs (e : Nat) : va_E := .inl (7, (7, .inr (.inr (.inr (.inr (fun i => if i < 7 then some (e + (3 + i)) else none))))))
def dcell (e : Nat) (δ : Ds) (j : Nat) : va_E := if j = 0 then dobj e δ.1 else if j = 1 then d693 δ.2.1 else if j = 2 then drefs e else d693 (δ.2.2 (j - 3))
def dput (h : jH) (e : Nat) (δ : Ds) : jH := ov h e 10 (dcell e δ)
def DAt (h : jH) (e : Nat) (δ : Ds) : Prop := ∀ j, j < 10 → h.1 (e + j) = some (dcell e δ j)
def dN (δ : Ds) (n : Int32) : Ds := (n, δ.2)
def dT (δ : Ds) (f : Nat → Int32) : Ds := (δ.1, f, δ.2.2)
def dG (δ : Ds) (k : Nat) (f : Nat → Int32) : Ds := (δ.1, δ.2.1, fun i => if i = k then f else δ.2.2 i)
/-- a door was noted: the first j rows have it -/
def dGs (δ : Ds) (F : Nat) (came : Nat → Int32) : Nat → Ds
  | 0 => δ
  | j + 1 => dG (dGs δ F came j) j (upd ((dGs δ F came j).2.2 j) F (came j))
def dNote (δ : Ds) (F : Nat) (two : Int32) (came : Nat → Int32) : Ds := dN (dGs (dT δ (upd δ.2.1 F two)) F came 7) (nI (F + 1))
theorem dGs_1 {δ : Ds} {F : Nat} {came : Nat → Int32} : ∀ j, (dGs δ F came j).1 = δ.1
  | 0 => rfl
  | j + 1 => dGs_1 j
section DOR
variable {g : jG} {d : Nat} {h hs : jH} {e : Nat} {δ : Ds}
theorem dput_DAt (h : jH) (e : Nat) (δ : Ds) : DAt (dput h e δ) e δ := fun _ hj => ov_at _ _ _ _ hj
theorem DAt.put (H : DAt h e δ) : dput h e δ = h := by
  refine Prod.ext (funext fun q => ?_) rfl
  by_cases h1 : e ≤ q ∧ q < e + 10
  · obtain ⟨j, rfl⟩ : ∃ j, q = e + j := ⟨q - e, by omega⟩
    rw [H j (by omega)]
    exact ov_at _ _ _ _ (by omega)
  · exact ov_out h1
theorem dput_0 : (dput h e δ).1 e = some (dobj e δ.1) := dput_DAt h e δ 0 (by decide)
theorem dput_1 : (dput h e δ).1 (e + 1) = some (d693 δ.2.1) := dput_DAt h e δ 1 (by decide)
theorem dput_2 : (dput h e δ).1 (e + 2) = some (drefs e) := dput_DAt h e δ 2 (by decide)
theorem dput_r {k : Nat} (hk : k < 7) : (dput h e δ).1 (e + (3 + k)) = some (d693 (δ.2.2 k)) := by
  have := dput_DAt h e δ (3 + k) (by omega)
  rw [this]
  have h1 : ¬ 3 + k = 0 := by omega
  have h2 : ¬ 3 + k = 1 := by omega
  have h3 : ¬ 3 + k = 2 := by omega
  simp only [dcell, h1, h2, h3, if_false, Nat.add_sub_cancel_left]
theorem dput_n (n : Int32) : jset (dput h e δ) e (dobj e n) = dput h e (dN δ n) := (ov_set h e 10 _ (j := 0) (by decide) _).trans (ov_congr (le10 rfl rfl rfl rfl rfl rfl rfl rfl rfl rfl))
theorem dput_t (f : Nat → Int32) : jset (dput h e δ) (e + 1) (d693 f) = dput h e (dT δ f) := (ov_set h e 10 _ (j := 1) (by decide) _).trans (ov_congr (le10 rfl rfl rfl rfl rfl rfl rfl rfl rfl rfl))
theorem dput_g {k : Nat} (hk : k < 7) (f : Nat → Int32) : jset (dput h e δ) (e + (3 + k)) (d693 f) = dput h e (dG δ k f) := by
  refine (ov_set h e 10 _ (j := 3 + k) (by omega) _).trans (ov_congr (fun j hj => ?_))
  by_cases h1 : j = 3 + k
  · subst h1
    have h1 : ¬ 3 + k = 0 := by omega
    have h2 : ¬ 3 + k = 1 := by omega
    have h3 : ¬ 3 + k = 2 := by omega
    simp only [dcell, h1, h2, h3, if_false, if_true, Nat.add_sub_cancel_left, dG]
  · rw [if_neg h1]
    by_cases h2 : j < 3
    · rcases (by omega : j = 0 ∨ j = 1 ∨ j = 2) with rfl | rfl | rfl <;> rfl
    · have h3 : ¬ j = 0 := by omega
      have h4 : ¬ j = 1 := by omega
      have h5 : ¬ j = 2 := by omega
      have h6 : ¬ j - 3 = k := by omega
      simp only [dcell, h3, h4, h5, h6, if_false, dG]
theorem dnote_loop {r F : Nat} {came : Nat → Int32} (hr : h.1 r = some (srow came)) (ho : ¬ (e ≤ r ∧ r < e + 10)) (hF : F < 693) (hδ : δ.1 = nI F) : ∀ m j, 7 = j + m →
    J g mX1_note (d + 1) hs (jPv (fun h' => h' = dput h e (dN (dGs δ F came 7) (nI (F + 1)))) no2) 31 [(0, .ref e), (2, .ref r), (3, .int (nI j))] [] (dput h e (dGs δ F came j)) := by
  have fin : J g mX1_note (d + 1) hs (jPv (fun h' => h' = dput h e (dN (dGs δ F came 7) (nI (F + 1)))) no2) 63 [(0, .ref e)] [] (dput h e (dGs δ F came 7)) := by
    refine bX1_note_63 ⟨_, dput_0, _, rfl, _, dput_0, Nat.le_of_ble_eq_true rfl, fun h1 q1 => ?_⟩
    replace q1 := q1.trans (dput_n _)
    rw [dGs_1, hδ, nI_1] at q1
    exact q1
  intro m
  induction m with
  | zero =>
    intro j hj
    have : j = 7 := by omega
    subst this
    exact bX1_note_31 ⟨fun q => absurd q (by decide), fun _ => fin⟩
  | succ m ih =>
    intro j hj
    have hix : (nI j).toNatClampNeg = j := nI_clamp (by omega)
    have hiF : (nI F).toNatClampNeg = F := nI_clamp (by omega)
    have v1 : vp_in (nI j) 7 := vp_in_nI (by omega) (by decide)
    have hr1 : (dput h e (dGs δ F came j)).1 r = some (srow came) := (ov_out ho).trans hr
    have hn : (dGs δ F came j).1 = nI F := (dGs_1 j).trans hδ
    refine bX1_note_31 ⟨fun _ => ⟨_, _, hr1, ⟨_, rfl⟩, fun _ => ⟨_, dput_0, _, rfl, _, _, dput_2, v1, e + (3 + j), by rw [hix]; exact if_pos (by omega), _, dput_0, _, rfl, _, _, hr1, v1, _, _, dput_r (by omega), by rw [hn]; exact vp_in_nI hF (by decide), fun h1 q1 => ?_⟩, fun q => absurd (nI_lt (a := j) (b := 7) (by omega) (by decide)) q⟩, fun q => absurd (nI_lt (a := j) (b := 7) (by omega) (by decide)) q⟩
    replace q1 := q1.trans (dput_g (by omega) _)
    rw [hn, hiF, hix] at q1
    rw [q1, nI_1]
    exact ih (j + 1) (by omega)
theorem c_dnote {r F : Nat} {two : Int32} {came : Nat → Int32} (hr : h.1 r = some (srow came)) (ho : ¬ (e ≤ r ∧ r < e + 10)) (hF : F < 693) (hδ : δ.1 = nI F) :
    Con g mX1_note (d + 1) [.ref e, .int two, .ref r] (dput h e δ) (jPv (fun h' => h' = dput h e (dNote δ F two came)) no2) := by
  have hiF : (nI F).toNatClampNeg = F := nI_clamp (by omega)
  refine con_of km_X1_note.1.2.2.2.2 (Nat.le_of_ble_eq_true rfl) rfl (bX1_note_0 ⟨_, dput_0, _, rfl, fun q => ?_, fun _ => ⟨_, dput_0, _, rfl, _, dput_0, _, rfl, _, _, dput_1, ⟨_, rfl⟩, fun _ => ⟨_, dput_0, _, rfl, _, dput_0, _, rfl, _, _, dput_1, by rw [hδ]; exact vp_in_nI hF (by decide), fun h1 q1 => ?_⟩, fun q => ?_⟩⟩)
  · rw [hδ] at q
    exact absurd q (nI_pos (by omega))
  · replace q1 := q1.trans (dput_t _)
    rw [hδ, hiF] at q1
    rw [q1]
    exact dnote_loop (δ := dT δ (upd δ.2.1 F two)) hr ho hF hδ 7 0 rfl
  · rw [hδ] at q
    exact absurd (nI_lt (b := 693) hF (by decide)) q
end DOR
/-! Whether a street shows what was seen -/
def seenOk (T : Td) (α : St) (f : Nat → Int64) (x i : Nat) : Bool := decide (f i = -1 ∨ f i = (pasCame T (pasN T T.1.2.2 α i) x).toInt64)
def fitR (T : Td) (α : St) (f : Nat → Int64) (x : Nat) : Nat → Nat → Bool
  | 0, _ => true
  | m + 1, i => if seenOk T α f x i = true then fitR T α f x m (i + 1) else false
section FIT
variable {g : jG} {d : Nat} {h hs : jH} {c t y : Nat} {α : St} {κ : Ks} {T : Td} {θ : Ty}
theorem fits_loop {x M : Nat} (S : sok α) (H : TAt h t T) (f : TFar t T c 15) (Y : YAt h y θ) (hy : apart y 2 c 15) (hx : x < 7) (hM : M ≤ 30) (hm : θ.1 = nI M) : ∀ m i κ, M = i + m →
    J g mX1_fits (d + 6) hs (jPi (fun r h' => r = bI (fitR T α θ.2.2 x m i) ∧ ∃ α' κ', (fitR T α θ.2.2 x m i = true → α' = pasN T T.1.2.2 α M) ∧ h' = wk h (c + 8) c α' κ') no2) 14
      [(1, .ref c), (2, .ref t), (3, .ref (c + 8)), (4, .ref y), (5, .int (nI x)), (6, .int (nI i))] [] (wk h (c + 8) c (pasN T T.1.2.2 α i) κ) := by
  have f1 : TFar t T (c + 8) 7 := by unfold TFar at *; omega
  have f2 : TFar t T c 8 := by unfold TFar at *; omega
  have hix : (nI x).toNatClampNeg = x := nI_clamp (by omega)
  have YW : ∀ α κ, YAt (wk h (c + 8) c α κ) y θ := fun α κ => ⟨(wk_out (by unfold apart at hy; omega) (by unfold apart at hy; omega)).trans Y.1, (wk_out (by unfold apart at hy; omega) (by unfold apart at hy; omega)).trans Y.2⟩
  intro m
  induction m with
  | zero =>
    intro i κ hi
    simp only [Nat.add_zero] at hi
    subst hi
    refine bX1_fits_14 ⟨_, (YW _ _).1, _, rfl, fun q => ?_, fun _ => ⟨rfl, _, κ, fun _ => rfl, rfl⟩⟩
    rw [hm] at q
    exact absurd q (nI_nlt (Nat.le_refl _) (by omega))
  | succ m ih =>
    intro i κ hi
    have HT := fun (τ : St) (κ : Ks) => H.wk (σ := τ) (κ := κ) f1 f2
    have vi : vp_in (nI i) 30 := vp_in_nI (by omega) (by decide)
    have hii : ix (nI i) = i := nI_clamp (by omega)
    refine bX1_fits_14 ⟨_, (YW _ _).1, _, rfl, fun _ => ⟨_, (HT _ _).1, _, rfl, _, wk_k0, (c_pass (sok_0 (pasN_1 i) S) ap8 H f1 f2).pv (fun h' q => ?_) (fun E h' f => f.elim)⟩, fun q => ?_⟩
    · obtain ⟨κ2, k2, rfl⟩ := q
      have go : seenOk T α θ.2.2 x i = true → J g mX1_fits (d + 6) hs (jPi (fun r h' => r = bI (fitR T α θ.2.2 x (m + 1) i) ∧ ∃ α' κ', (fitR T α θ.2.2 x (m + 1) i = true → α' = pasN T T.1.2.2 α M) ∧ h' = wk h (c + 8) c α' κ') no2) 14
          [(1, .ref c), (2, .ref t), (3, .ref (c + 8)), (4, .ref y), (5, .int (nI x)), (6, .int (nI i + 1))] [] (wk h (c + 8) c (pas T T.1.2.2 (pasN T T.1.2.2 α i)) κ2) := by
        intro ho
        rw [fitR, if_pos ho, nI_1]
        exact ih (i + 1) κ2 (by omega)
      refine ⟨_, (YW _ _).1, (c_at (YW _ _)).pl (fun r h' hr => ?_) (fun E h' f => f.elim)⟩
      obtain ⟨e1, rfl⟩ := hr
      have e1 := e1 vi
      rw [hii] at e1
      refine ⟨fun q => go (by simp [seenOk, ← e1, q]), fun q => ⟨_, (YW _ _).1, (c_at (YW _ _)).pl (fun r2 h' hr => ?_) (fun E h' f => f.elim)⟩⟩
      obtain ⟨e2, rfl⟩ := hr
      have e2 := e2 vi
      rw [hii] at e2
      have e3 : κ2.2.1 0 = pasCame T (pasN T T.1.2.2 α i) := by rw [k2.2.1]; rfl
      refine ⟨_, wk_k0, _, rfl, _, _, wk_k (j := 1) (by decide), vp_in_nI hx (by decide), ?_⟩
      rw [hix]
      refine ⟨fun q2 => go ?_, fun q2 => ?_⟩
      · simp only [seenOk, decide_eq_true_eq]
        exact Or.inr (by rw [← e2, q2, e3])
      · have ho : seenOk T α θ.2.2 x i = false := by
          simp only [seenOk, decide_eq_false_iff_not]
          rintro (e | e)
          · exact q (e1.trans e)
          · exact q2 (by rw [e2, e, e3])
        rw [fitR, ho]
        exact ⟨rfl, _, κ2, fun e => absurd e (by simp), rfl⟩
    · rw [hm] at q
      exact absurd (nI_lt (by omega) (by omega)) q
theorem c_fits {e x M : Nat} (S : sok α) (H : TAt h t T) (f : TFar t T c 15) (Y : YAt h y θ) (hy : apart y 2 c 15) (hx : sHas α (nI x) = true) (hx7 : x < 7) (hM : M ≤ 30) (hm : θ.1 = nI M) :
    Con g mX1_fits (d + 6) [.ref e, .ref c, .ref t, .ref (c + 8), .ref y, .int (nI x)] (wk h (c + 8) c α κ) (jPi (fun r h' => r = bI (fitR T α θ.2.2 x M 0) ∧ ∃ α' κ', (fitR T α θ.2.2 x M 0 = true → α' = pasN T T.1.2.2 α M) ∧ h' = wk h (c + 8) c α' κ') no2) := by
  have HS := wk_S (h := h) (σ := α) (κ := κ) (ap8 (c := c))
  refine con_of km_X1_fits.1.2.2.2.2 (Nat.le_of_ble_eq_true rfl) rfl (bX1_fits_0 ⟨_, HS.1, (c_has HS S).pi (fun r h' hr => ?_) (fun E h' f => f.elim)⟩)
  obtain ⟨e1, rfl⟩ := hr
  refine ⟨fun q => ?_, fun _ => fits_loop S H f Y hy hx7 hM hm M 0 κ (by omega)⟩
  rw [(bI_0 e1).1.mp q] at hx
  exact absurd hx (by decide)
end FIT
