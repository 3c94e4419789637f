/-! The reference's street in what is known -/
def kS (K : Nat → Int32) (τ : St) : Nat → Int32 := fun x => if 8 ≤ x ∧ x < 50 then τ.2 ((x - 8) / 7) ((x - 8) % 7) else if x = 1 then τ.1 0 else if x = 50 then τ.1 1 else if x = 51 then τ.1 2 else K x
section KSS
variable {K : Nat → Int32} {τ : St}
theorem kS_at {b r i : Nat} (hb : b = 8 + 7 * r) (hr : r < 6) (hi : i < 7) : kS K τ (b + i) = τ.2 r i := by
  subst hb
  unfold kS
  rw [if_pos (by omega), show (8 + 7 * r + i - 8) / 7 = r from by omega, show (8 + 7 * r + i - 8) % 7 = i from by omega]
theorem kS_set {b r i : Nat} {v : Int32} (hb : b = 8 + 7 * r) (hr : r < 6) (hi : i < 7) : upd (kS K τ) (b + i) v = kS K (setR τ r (upd (τ.2 r) i v)) := by
  funext x
  subst hb
  unfold upd
  by_cases hx : x = 8 + 7 * r + i
  · subst hx
    rw [if_pos rfl, kS_at rfl hr hi]
    show v = (if r = r then upd (τ.2 r) i v else τ.2 r) i
    rw [if_pos rfl]
    unfold upd
    rw [if_pos rfl]
  · rw [if_neg hx]
    unfold kS
    by_cases hc : 8 ≤ x ∧ x < 50
    · rw [if_pos hc, if_pos hc]
      show τ.2 ((x - 8) / 7) ((x - 8) % 7) = (if (x - 8) / 7 = r then upd (τ.2 r) i v else τ.2 ((x - 8) / 7)) ((x - 8) % 7)
      by_cases h2 : (x - 8) / 7 = r
      · rw [if_pos h2, h2]
        unfold upd
        rw [if_neg (by omega)]
      · rw [if_neg h2]
    · rw [if_neg hc, if_neg hc]
      rfl
theorem kS_1 : kS K τ 1 = τ.1 0 := rfl
theorem kS_50 : kS K τ 50 = τ.1 1 := rfl
theorem kS_51 : kS K τ 51 = τ.1 2 := rfl
theorem kS_ot {x : Nat} (h : x = 0 ∨ (2 ≤ x ∧ x < 8) ∨ 52 ≤ x) : kS K τ x = K x := by
  unfold kS
  rw [if_neg (by omega), if_neg (by omega), if_neg (by omega), if_neg (by omega)]
theorem kS_set50 {v : Int32} : upd (kS K τ) 50 v = kS K (setI τ 1 v) := by
  funext x
  unfold upd kS
  by_cases hx : x = 50
  · subst hx; rfl
  · rw [if_neg hx]
    by_cases hc : 8 ≤ x ∧ x < 50
    · rw [if_pos hc, if_pos hc]; rfl
    · rw [if_neg hc, if_neg hc, if_neg hx, if_neg hx]; rfl
theorem kS_set51 {v : Int32} : upd (kS K τ) 51 v = kS K (setI τ 2 v) := by
  funext x
  unfold upd kS
  by_cases hx : x = 51
  · subst hx; rfl
  · rw [if_neg hx]
    by_cases hc : 8 ≤ x ∧ x < 50
    · rw [if_pos hc, if_pos hc]; rfl
    · rw [if_neg hc, if_neg hc, if_neg hx, if_neg hx]; rfl
theorem kS_enc {σ : St} (E : encS K σ) : kS K σ = K := by
  obtain ⟨e1, e2, e3, e4⟩ := E
  funext x
  unfold kS
  by_cases hc : 8 ≤ x ∧ x < 50
  · rw [if_pos hc, ← e4 _ _ (by omega) (by omega)]
    congr 1
    omega
  · rw [if_neg hc]
    by_cases h1 : x = 1
    · rw [if_pos h1, h1, e1]
    · rw [if_neg h1]
      by_cases h2 : x = 50
      · rw [if_pos h2, h2, e2]
      · rw [if_neg h2]
        by_cases h3 : x = 51
        · rw [if_pos h3, h3, e3]
        · rw [if_neg h3]
theorem enc_kS {σ : St} : encS (kS K σ) σ := ⟨rfl, rfl, rfl, fun r i hr hi => by rw [← Nat.add_assoc]; exact kS_at rfl hr hi⟩
theorem kS_kS {σ : St} : kS (kS K τ) σ = kS K σ := by
  funext x
  unfold kS
  by_cases hc : 8 ≤ x ∧ x < 50
  · rw [if_pos hc, if_pos hc]
  · rw [if_neg hc, if_neg hc, if_neg hc]
    by_cases h1 : x = 1
    · rw [if_pos h1, if_pos h1]
    · rw [if_neg h1, if_neg h1, if_neg h1]
      by_cases h2 : x = 50
      · rw [if_pos h2, if_pos h2]
      · rw [if_neg h2, if_neg h2, if_neg h2]
        by_cases h3 : x = 51
        · rw [if_pos h3, if_pos h3]
        · rw [if_neg h3, if_neg h3, if_neg h3]
theorem encT_kS {T : Td} (E : encT K T) : encT (kS K τ) T := by
  obtain ⟨e0, e2, e3, l1, l2, l3⟩ := E
  refine ⟨(kS_ot (by omega)).trans e0, ⟨(kS_ot (by omega)).trans e2.1, e2.2⟩, (kS_ot (by omega)).trans e3, l1.of (kS_ot (by omega)) (fun j _ => kS_ot (by omega)), l2.of (kS_ot (by omega)) (fun j _ => kS_ot (by omega)), l3.of (kS_ot (by omega)) (fun j _ => kS_ot (by omega))⟩
end KSS
/-- a number that is money -/
def rng (x : Int32) : Prop := 0 ≤ x.toInt ∧ x.toInt ≤ 999999
def stB (σ : St) : Prop := sok σ ∧ (∀ i, i < sN σ → (σ.2 3 i = 0 ∨ σ.2 3 i = 1) ∧ rng (σ.2 0 i) ∧ rng (σ.2 1 i) ∧ rng (σ.2 2 i) ∧ rng (σ.2 4 i)) ∧ rng (σ.1 1)
theorem cap_rng {x : Int32} (h : rng x) : jmin 999999 x = x := by
  unfold jmin
  by_cases c : x < 999999
  · rw [if_pos c]
  · rw [if_neg c]
    apply Int32.toInt_inj.mp
    rw [Int32.lt_iff_toInt_lt] at c
    have : (999999 : Int32).toInt = 999999 := rfl
    rw [this] at c ⊢
    have := h.2
    omega
section MEA
variable {g : jG} {d : Nat} {h hs : jH} {m : Nat} {μ : MW} {i k n : Int32} {T : Td} {σ τ : St} {K : Nat → Int32}
theorem mA_c {j j' : Nat} {f f' : Nat → Int32} (hj : ¬ j = j') : mA (mA μ j f) j' f' = mA (mA μ j' f') j f := by
  unfold mA
  refine congrArg (fun F => (μ.1, F, μ.2.2)) (funext fun i => ?_)
  by_cases h : i = j'
  · subst h
    show (if i = i then f' else _) = if i = j then f else (if i = i then f' else _)
    rw [if_pos rfl, if_neg (fun c => hj c.symm), if_pos rfl]
  · by_cases h2 : i = j
    · subst h2
      show (if i = j' then f' else if i = i then f else _) = if i = i then f else _
      rw [if_neg h, if_pos rfl, if_pos rfl]
    · show (if i = j' then f' else if i = j then f else _) = if i = j then f else if i = j' then f' else _
      rw [if_neg h, if_neg h2, if_neg h2, if_neg h]
/-- the world with a street, apart from stack and questions -/
def mS (μ : MW) (τ : St) : MW := mA μ 1 (kS (kn μ) τ)
theorem mS_kn : kn (mS μ τ) = kS (kn μ) τ := rfl
theorem mS_scr {μ' : MW} (s : mscr (mS μ τ) μ') : ∃ μ2, mscr μ μ2 ∧ μ' = mS μ2 τ := by
  refine ⟨mA μ' 1 (kn μ), ⟨s.1, s.2.1, fun j h6 h7 => ?_⟩, ?_⟩
  · by_cases h1 : j = 1
    · subst h1; rfl
    · refine (if_neg h1).trans ((s.2.2 j h6 h7).trans (if_neg h1))
  · have e : kn μ' = kS (kn μ) τ := (s.2.2 1 (by decide) (by decide)).trans mS_kn
    unfold mS
    rw [mA_mA]
    have e2 : kn (mA μ' 1 (kn μ)) = kn μ := rfl
    rw [e2, ← e]
    exact mA_self.symm
theorem mS_set {b r j : Nat} {v : Int32} (hb : b = 8 + 7 * r) (hr : r < 6) (hj : j < 7) (hb3 : b + j < 3240) {f : Nat → Int32} (hf : f = upd (kn (mS μ τ)) (ix (nI b + nI j)) v) : mA (mS μ τ) 1 f = mS μ (setR τ r (upd (τ.2 r) j v)) := by
  rw [hf, mS_kn, kx hb3, kS_set hb hr hj]
  unfold mS
  rw [mA_mA]
end MEA
