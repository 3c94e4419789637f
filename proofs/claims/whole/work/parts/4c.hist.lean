/-! HISTORY at b: the object, its array, ten streets behind; many, which street stands where, the streets. -/
theorem ov_in {h : jH} {b n o m : Nat} {A B : Nat → va_E} (hm : o + m ≤ n) : ov (ov h b n A) (b + o) m B = ov h b n (fun j => if o ≤ j ∧ j < o + m then B (j - o) else A j) := by
  refine Prod.ext (funext fun q => ?_) rfl
  by_cases h1 : b ≤ q ∧ q < b + n
  · by_cases h2 : b + o ≤ q ∧ q < b + o + m
    · have h3 : o ≤ q - b ∧ q - b < o + m := by omega
      have h4 : q - b - o = q - (b + o) := by omega
      simp only [ov, h1, h2, h3, h4, and_self, if_true]
    · have h3 : ¬ (o ≤ q - b ∧ q - b < o + m) := by omega
      simp only [ov, h1, h2, h3, and_self, if_true, if_false]
  · have h2 : ¬ (b + o ≤ q ∧ q < b + o + m) := by omega
    simp only [ov, h1, h2, if_false]
theorem sput_ov (h : jH) (a : Nat) (σ : St) : sput h a σ = ov h a 7 (scell a σ) := rfl
abbrev Hs : Type := Int32 × (Nat → Nat) × (Nat → St)
def hrefs (b : Nat) (π : Nat → Nat) : va_E := .inl (4, (10, .inr (.inr (.inr (.inr (fun i => if i < 10 then some (b + (2 + 7 * π i)) else none))))))
def hobj (b : Nat) (n : Int32) : va_E := .inr (2, [.int n, .ref (b + 1)])
def hcell (b : Nat) (ξ : Hs) (j : Nat) : va_E := if j = 0 then hobj b ξ.1 else if j = 1 then hrefs b ξ.2.1 else scell (b + (2 + 7 * ((j - 2) / 7))) (ξ.2.2 ((j - 2) / 7)) ((j - 2) % 7)
def hput (h : jH) (b : Nat) (ξ : Hs) : jH := ov h b 72 (hcell b ξ)
def HAt (h : jH) (b : Nat) (ξ : Hs) : Prop := ∀ j, j < 72 → h.1 (b + j) = some (hcell b ξ j)
def hN (ξ : Hs) : Nat := ξ.1.toNatClampNeg
def hok (ξ : Hs) : Prop := ξ.1 = nI (hN ξ) ∧ hN ξ ≤ 10 ∧ (∀ i, i < 10 → ξ.2.1 i < 10) ∧ ∀ i j, i < 10 → j < 10 → ξ.2.1 i = ξ.2.1 j → i = j
/-- the i-th street of the history -/
def hv (ξ : Hs) (i : Nat) : St := ξ.2.2 (ξ.2.1 i)
def updS (θ : Nat → St) (k : Nat) (σ : St) : Nat → St := fun i => if i = k then σ else θ i
section HIS
variable {g : jG} {d : Nat} {h hs : jH} {b s : Nat} {ξ : Hs} {σ τ : St}
theorem HAt.put (H : HAt h b ξ) : hput h b ξ = h := by
  refine Prod.ext (funext fun q => ?_) rfl
  by_cases h1 : b ≤ q ∧ q < b + 72
  · obtain ⟨j, rfl⟩ : ∃ j, q = b + j := ⟨q - b, by omega⟩
    rw [H j (by omega)]
    exact ov_at _ _ _ _ (by omega)
  · exact ov_out h1
theorem hput_HAt (h : jH) (b : Nat) (ξ : Hs) : HAt (hput h b ξ) b ξ := fun j hj => ov_at _ _ _ _ hj
theorem hput_hput (h : jH) (b : Nat) (ξ ξ' : Hs) : hput (hput h b ξ) b ξ' = hput h b ξ' := ov_ov _ _ _ _ _
theorem HAt.of {h' : jH} (H : HAt h b ξ) (e : ∀ q, b ≤ q → q < b + 72 → h'.1 q = h.1 q) : HAt h' b ξ := fun j hj => (e _ (by omega) (by omega)).trans (H j hj)
theorem HAt.o (H : HAt h b ξ) : h.1 b = some (hobj b ξ.1) := H 0 (by decide)
theorem HAt.r (H : HAt h b ξ) : h.1 (b + 1) = some (hrefs b ξ.2.1) := H 1 (by decide)
theorem hcell_s (ξ : Hs) {k j : Nat} (hj : j < 7) : hcell b ξ (2 + 7 * k + j) = scell (b + (2 + 7 * k)) (ξ.2.2 k) j := by
  have h1 : ¬ 2 + 7 * k + j = 0 := by omega
  have h2 : ¬ 2 + 7 * k + j = 1 := by omega
  have h3 : (2 + 7 * k + j - 2) / 7 = k := by omega
  have h4 : (2 + 7 * k + j - 2) % 7 = j := by omega
  simp only [hcell, h1, h2, h3, h4, if_false]
theorem HAt.st (H : HAt h b ξ) {k : Nat} (hk : k < 10) : SAt h (b + (2 + 7 * k)) (ξ.2.2 k) := by
  have e : ∀ j, j < 7 → h.1 (b + (2 + 7 * k) + j) = some (scell (b + (2 + 7 * k)) (ξ.2.2 k) j) := by
    intro j hj
    rw [Nat.add_assoc, H _ (by omega), hcell_s ξ hj]
  exact ⟨e 0 (by decide), e 1 (by decide), e 2 (by decide), e 3 (by decide), e 4 (by decide), e 5 (by decide), e 6 (by decide)⟩
theorem hput_s {k : Nat} (hk : k < 10) : sput (hput h b ξ) (b + (2 + 7 * k)) τ = hput h b (ξ.1, ξ.2.1, updS ξ.2.2 k τ) := by
  rw [sput_ov, hput, ov_in (by omega)]
  refine ov_congr (fun j hj => ?_)
  by_cases h1 : 2 + 7 * k ≤ j ∧ j < 2 + 7 * k + 7
  · obtain ⟨r, rfl⟩ : ∃ r, j = 2 + 7 * k + r := ⟨j - (2 + 7 * k), by omega⟩
    rw [if_pos h1, hcell_s _ (by omega), Nat.add_sub_cancel_left]
    simp [updS]
  · rw [if_neg h1]
    by_cases h2 : j = 0
    · subst h2; rfl
    · by_cases h3 : j = 1
      · subst h3; rfl
      · have h4 : ¬ (j - 2) / 7 = k := by omega
        simp only [hcell, h2, h3, if_false, updS, h4]
theorem hput_o (n : Int32) : jset (hput h b ξ) b (hobj b n) = hput h b (n, ξ.2) := by
  refine (ov_set h b 72 (hcell b ξ) (j := 0) (by decide) _).trans (ov_congr (fun j hj => ?_))
  by_cases h2 : j = 0
  · subst h2; rfl
  · simp only [hcell, h2, if_false]
theorem hput_r (π : Nat → Nat) : jset (hput h b ξ) (b + 1) (hrefs b π) = hput h b (ξ.1, π, ξ.2.2) := by
  refine (ov_set h b 72 (hcell b ξ) (j := 1) (by decide) _).trans (ov_congr (fun j hj => ?_))
  by_cases h2 : j = 1
  · subst h2; rfl
  · simp only [hcell, h2, if_false]
theorem hrefs_up {π : Nat → Nat} {i k : Nat} (hi : i < 10) : (.inl (4, (10, .inr (.inr (.inr (.inr (va_up (fun i => if i < 10 then some (b + (2 + 7 * π i)) else none) i (some (b + (2 + 7 * k)))))))) ) : va_E) = hrefs b (fun j => if j = i then k else π j) := by
  have : va_up (fun i => if i < 10 then some (b + (2 + 7 * π i)) else none) i (some (b + (2 + 7 * k))) = fun j => if j < 10 then some (b + (2 + 7 * (if j = i then k else π j))) else none := by
    funext j
    by_cases hj : j = i
    · subst hj
      simp [va_up, hi]
    · simp only [va_up, hj, if_false]
  unfold hrefs
  rw [this]
/-- rotated: what stands when the eldest is to be given up -/
def hrot (π : Nat → Nat) (i : Nat) : Nat → Nat := fun k => if k + 1 < i then π (k + 1) else π k
def hpush (ξ : Hs) (σ : St) : Hs := if hN ξ < 10 then (ξ.1 + 1, ξ.2.1, updS ξ.2.2 (ξ.2.1 (hN ξ)) σ) else (10, (fun j => if j = 9 then ξ.2.1 0 else hrot ξ.2.1 10 j), updS ξ.2.2 (ξ.2.1 0) σ)
theorem rem_end {σ : St} (O : hok ξ) (hl : hN ξ < 10) (H : SAt h s σ) (hd : apart s 7 b 72) : J g mX2_remember (d + 2) hs (jPv (fun h' => h' = hput h b (ξ.1 + 1, ξ.2.1, updS ξ.2.2 (ξ.2.1 (hN ξ)) σ)) no2) 81 [(0, .ref b), (1, .ref s)] [] (hput h b ξ) := by
  obtain ⟨o1, o2, o3, o4⟩ := O
  have HH := hput_HAt h b ξ
  have v1 : vp_in ξ.1 10 := by rw [o1]; exact vp_in_nI hl (by decide)
  have H1 : SAt (hput h b ξ) s σ := H.of (fun q h1 h2 => ov_out (by unfold apart at hd; omega))
  refine bX2_remember_81 ⟨_, HH.o, _, rfl, _, HH.o, _, rfl, _, _, HH.r, v1, b + (2 + 7 * ξ.2.1 (hN ξ)), by simp only [hN] at hl ⊢; simp [hl], _, (HH.st (o3 _ hl)).1, (c_takeOver H1 (by have := o3 _ hl; unfold apart at hd; omega) (HH.st (o3 _ hl))).pv (fun h' q => ?_) (fun E h' f => f.elim)⟩
  rw [hput_s (o3 _ hl)] at q
  subst q
  have HH := hput_HAt h b (ξ.1, ξ.2.1, updS ξ.2.2 (ξ.2.1 (hN ξ)) σ)
  refine ⟨_, HH.o, _, rfl, _, HH.o, Nat.le_of_ble_eq_true rfl, fun h1 q1 => ?_⟩
  exact q1.trans (hput_o _)
theorem rem_loop {P : jO → jH → Prop} (O : hok ξ) (K : J g mX2_remember (d + 2) hs P 81 [(0, .ref b), (1, .ref s)] [] (hput h b (9, (fun j => if j = 9 then ξ.2.1 0 else hrot ξ.2.1 10 j), ξ.2.2))) :
    ∀ m i, 10 = i + m → 0 < i → J g mX2_remember (d + 2) hs P 28 [(0, .ref b), (1, .ref s), (2, .ref (b + (2 + 7 * ξ.2.1 0))), (3, .int (nI i))] [] (hput h b (ξ.1, hrot ξ.2.1 i, ξ.2.2)) := by
  obtain ⟨o1, o2, o3, o4⟩ := O
  intro m
  induction m with
  | zero =>
    intro i hi h0
    have : i = 10 := by omega
    subst this
    have HH := hput_HAt h b (ξ.1, hrot ξ.2.1 10, ξ.2.2)
    refine bX2_remember_28 ⟨_, HH.o, _, rfl, _, _, HH.r, ⟨_, rfl⟩, fun q => absurd q (nI_nlt (a := 10) (b := 10) (Nat.le_refl _) (by decide)), fun _ => ⟨_, HH.o, _, rfl, _, HH.o, _, rfl, _, _, HH.r, ⟨_, rfl⟩, _, _, HH.r, (by show vp_in (nI (9 + 1) - 1) 10; rw [nI_pred 9]; exact vp_in_nI (by decide) (by decide)), _, (HH.st (o3 0 (by decide))).1, fun h1 q1 => ?_⟩⟩
    have e9 : ((nI 10 : Int32) - 1).toNatClampNeg = 9 := rfl
    rw [e9] at q1
    replace q1 := q1.trans (congrArg _ (hrefs_up (b := b) (π := hrot ξ.2.1 10) (i := 9) (k := ξ.2.1 0) (by decide)))
    replace q1 := q1.trans (hput_r _)
    subst q1
    have HH := hput_HAt h b (ξ.1, (fun j => if j = 9 then ξ.2.1 0 else hrot ξ.2.1 10 j), ξ.2.2)
    refine ⟨_, HH.o, _, rfl, _, _, HH.r, ⟨_, rfl⟩, _, HH.o, Nat.le_of_ble_eq_true rfl, fun h1 q1 => ?_⟩
    replace q1 := q1.trans (hput_o _)
    replace q1 : h1 = hput h b (nI 10 - 1, (fun j => if j = 9 then ξ.2.1 0 else hrot ξ.2.1 10 j), ξ.2.2) := q1
    rw [show (nI 10 - 1 : Int32) = 9 from by decide] at q1
    rw [q1]
    exact K
  | succ m ih =>
    intro i hi h0
    have HH := hput_HAt h b (ξ.1, hrot ξ.2.1 i, ξ.2.2)
    obtain ⟨i', rfl⟩ : ∃ i', i = i' + 1 := ⟨i - 1, by omega⟩
    have e1 : (nI (i' + 1) : Int32).toNatClampNeg = i' + 1 := nI_clamp (by omega)
    have e2 : (nI (i' + 1) - 1 : Int32) = nI i' := nI_pred _
    have e3 : (nI i' : Int32).toNatClampNeg = i' := nI_clamp (by omega)
    have e4 : hrot ξ.2.1 (i' + 1) (i' + 1) = ξ.2.1 (i' + 1) := by
      simp only [hrot, show ¬ i' + 1 + 1 < i' + 1 from by omega, if_false]
    refine bX2_remember_28 ⟨_, HH.o, _, rfl, _, _, HH.r, ⟨_, rfl⟩, fun _ => ⟨_, HH.o, _, rfl, _, HH.o, _, rfl, _, _, HH.r, vp_in_nI (by omega) (by decide), b + (2 + 7 * ξ.2.1 (i' + 1)), ?_, _, _, HH.r, by rw [e2]; exact vp_in_nI (by omega) (by decide), _, (HH.st (o3 (i' + 1) (by omega))).1, fun h1 q1 => ?_⟩, fun q => absurd (nI_lt (a := i' + 1) (b := 10) (by omega) (by decide)) q⟩
    · rw [e1]
      show (if i' + 1 < 10 then some (b + (2 + 7 * hrot ξ.2.1 (i' + 1) (i' + 1))) else none) = _
      rw [if_pos (by omega), e4]
    · rw [e2, e3] at q1
      replace q1 := q1.trans (congrArg _ (hrefs_up (b := b) (π := hrot ξ.2.1 (i' + 1)) (i := i') (k := ξ.2.1 (i' + 1)) (by omega)))
      replace q1 := q1.trans (hput_r _)
      rw [q1, nI_1]
      have e5 : (fun j => if j = i' then ξ.2.1 (i' + 1) else hrot ξ.2.1 (i' + 1) j) = hrot ξ.2.1 (i' + 1 + 1) := by
        funext j
        by_cases hj : j = i'
        · subst hj
          simp [hrot]
        · by_cases h2 : j + 1 < i' + 1
          · simp only [hrot, hj, h2, show j + 1 < i' + 1 + 1 from by omega, if_true, if_false]
          · simp only [hrot, hj, h2, show ¬ j + 1 < i' + 1 + 1 from by omega, if_false]
      rw [e5]
      exact ih (i' + 1 + 1) (by omega) (by omega)
theorem c_remember (O : hok ξ) (H : SAt h s σ) (hd : apart s 7 b 72) : Con g mX2_remember (d + 2) [.ref b, .ref s] (hput h b ξ) (jPv (fun h' => h' = hput h b (hpush ξ σ)) no2) := by
  refine con_of km_X2_remember.1.2.2.2.2 (Nat.le_of_ble_eq_true rfl) rfl (bX2_remember_0 ?_)
  have O0 := O
  obtain ⟨o1, o2, o3, o4⟩ := O
  have HH := hput_HAt h b ξ
  refine ⟨_, HH.o, _, rfl, fun q => ?_, fun q => ⟨_, HH.o, _, rfl, _, HH.o, _, rfl, _, _, HH.r, ⟨_, rfl⟩, fun q => ?_, fun q => ?_⟩⟩
  · exact absurd q (by rw [o1]; exact nI_pos (by omega))
  · have hl : hN ξ < 10 := by
      rw [o1] at q
      exact (nI_ltI (by omega) (by decide)).mp q
    rw [hpush, if_pos hl]
    exact rem_end O0 hl H hd
  · have hl : ¬ hN ξ < 10 := fun e => q (by rw [o1]; exact nI_lt (b := 10) e (by decide))
    rw [hpush, if_neg hl]
    refine ⟨_, HH.o, _, rfl, _, _, HH.r, vp_in_nI (n := 0) (by decide) (by decide), b + (2 + 7 * ξ.2.1 0), rfl, ?_⟩
    have := rem_loop (g := g) (d := d) (h := h) (hs := hput h b ξ) (b := b) (s := s) (P := jPv (fun h' => h' = hput h b (10, (fun j => if j = 9 then ξ.2.1 0 else hrot ξ.2.1 10 j), updS ξ.2.2 (ξ.2.1 0) σ)) no2) O0 ?_ 9 1 rfl (by decide)
    · rw [show hrot ξ.2.1 1 = ξ.2.1 from by funext k; simp [hrot]] at this
      exact this
    · exact rem_end (ξ := (9, (fun j => if j = 9 then ξ.2.1 0 else hrot ξ.2.1 10 j), ξ.2.2)) (σ := σ) ⟨rfl, Nat.le_of_ble_eq_true rfl, fun i hi => by
          show (if i = 9 then ξ.2.1 0 else hrot ξ.2.1 10 i) < 10
          by_cases h9 : i = 9
          · rw [if_pos h9]; exact o3 0 (by decide)
          · rw [if_neg h9]; simp only [hrot, show i + 1 < 10 from by omega, if_true]; exact o3 _ (by omega), fun i j hi hj he => by
          replace he : (if i = 9 then ξ.2.1 0 else hrot ξ.2.1 10 i) = (if j = 9 then ξ.2.1 0 else hrot ξ.2.1 10 j) := he
          have hp : ∀ k, k < 10 → (if k = 9 then ξ.2.1 0 else hrot ξ.2.1 10 k) = ξ.2.1 (if k = 9 then 0 else k + 1) := by
            intro k hk
            by_cases h9 : k = 9
            · rw [if_pos h9, if_pos h9]
            · rw [if_neg h9, if_neg h9]; simp only [hrot, show k + 1 < 10 from by omega, if_true]
          rw [hp i hi, hp j hj] at he
          have hb : ∀ k, k < 10 → (if k = 9 then 0 else k + 1) < 10 := fun k hk => by split <;> omega
          have := o4 _ _ (hb i hi) (hb j hj) he
          by_cases hi9 : i = 9 <;> by_cases hj9 : j = 9 <;> simp only [hi9, hj9, if_true, if_false] at this <;> omega⟩ (Nat.le_of_ble_eq_true rfl) H hd
end HIS
