/-! A STREET at a: the object and its six rows behind it. Ints: 0 houses, 1 sea, 2 quarter; rows: 0 earns, 1 spends, 2 cash, 3 gone, 4 debt, 5 hedge. -/
abbrev St : Type := (Nat → Int32) × (Nat → Nat → Int32)
def sobj (a : Nat) (σ : St) : va_E := .inr (6, [.int (σ.1 0), .int (σ.1 1), .int (σ.1 2), .ref (a + 1), .ref (a + 2), .ref (a + 3), .ref (a + 4), .ref (a + 5), .ref (a + 6)])
def srow (f : Nat → Int32) : va_E := .inl (0, (7, .inl f))
/-- what is read of a street -/
def SAt (h : jH) (a : Nat) (σ : St) : Prop := h.1 a = some (sobj a σ) ∧ h.1 (a + 1) = some (srow (σ.2 0)) ∧ h.1 (a + 2) = some (srow (σ.2 1)) ∧ h.1 (a + 3) = some (srow (σ.2 2)) ∧ h.1 (a + 4) = some (srow (σ.2 3)) ∧ h.1 (a + 5) = some (srow (σ.2 4)) ∧ h.1 (a + 6) = some (srow (σ.2 5))
def scell (a : Nat) (σ : St) (j : Nat) : va_E := if j = 0 then sobj a σ else srow (σ.2 (j - 1))
def sput (h : jH) (a : Nat) (σ : St) : jH := (fun q => if a ≤ q ∧ q < a + 7 then some (scell a σ (q - a)) else h.1 q, h.2)
def setI (σ : St) (k : Nat) (v : Int32) : St := (fun i => if i = k then v else σ.1 i, σ.2)
def setR (σ : St) (k : Nat) (f : Nat → Int32) : St := (σ.1, fun i => if i = k then f else σ.2 i)
theorem sput_SAt (h : jH) (a : Nat) (σ : St) : SAt (sput h a σ) a σ := by
  refine ⟨?_, ?_, ?_, ?_, ?_, ?_, ?_⟩ <;> simp [sput, scell]
theorem SAt.put {h : jH} {a : Nat} {σ : St} (H : SAt h a σ) : sput h a σ = h := by
  obtain ⟨h0, h1, h2, h3, h4, h5, h6⟩ := H
  refine Prod.ext (funext fun q => ?_) rfl
  by_cases hq : a ≤ q ∧ q < a + 7
  · obtain ⟨j, rfl⟩ : ∃ j, q = a + j := ⟨q - a, by omega⟩
    have hj : j < 7 := by omega
    simp only [sput, hq, and_self, if_true]
    rcases (by omega : j = 0 ∨ j = 1 ∨ j = 2 ∨ j = 3 ∨ j = 4 ∨ j = 5 ∨ j = 6) with rfl | rfl | rfl | rfl | rfl | rfl | rfl <;> simp [scell, *]
  · simp only [sput, hq, if_false]
theorem sput_out {h : jH} {a : Nat} {σ : St} {q : Nat} (hq : ¬ (a ≤ q ∧ q < a + 7)) : (sput h a σ).1 q = h.1 q := by simp only [sput, hq, if_false]
theorem sput_sput (h : jH) (a : Nat) (σ τ : St) : sput (sput h a σ) a τ = sput h a τ := by
  refine Prod.ext (funext fun q => ?_) rfl
  by_cases hq : a ≤ q ∧ q < a + 7 <;> simp only [sput, hq, and_self, if_true, if_false]
theorem sput_row (h : jH) (a k : Nat) (hk : k < 6) (σ : St) (f : Nat → Int32) : jset (sput h a σ) (a + (k + 1)) (.inl (0, (7, .inl f))) = sput h a (setR σ k f) := by
  refine Prod.ext (funext fun q => ?_) rfl
  by_cases hq : q = a + (k + 1)
  · subst hq
    have h1 : a ≤ a + (k + 1) ∧ a + (k + 1) < a + 7 := by omega
    simp [jset, sput, scell, setR, srow, h1, show k < 6 from hk]
  · by_cases h1 : a ≤ q ∧ q < a + 7
    · by_cases h2 : q = a
      · subst h2
        simp [jset, sput, scell, setR, sobj]
      · have h3 : ¬ q - a - 1 = k := by omega
        have h4 : ¬ q - a = 0 := by omega
        simp only [jset, sput, hq, h1, and_self, if_true, if_false, scell, h4, setR, h3]
    · simp only [jset, sput, hq, h1, if_false]
theorem sput_int (h : jH) (a k : Nat) (hk : k < 3) (σ : St) (v : Int32) : jset (sput h a σ) a (.inr (6, [.int (σ.1 0), .int (σ.1 1), .int (σ.1 2), .ref (a + 1), .ref (a + 2), .ref (a + 3), .ref (a + 4), .ref (a + 5), .ref (a + 6)].set k (.int v))) = sput h a (setI σ k v) := by
  refine Prod.ext (funext fun q => ?_) rfl
  by_cases hq : q = a
  · subst hq
    rcases (by omega : k = 0 ∨ k = 1 ∨ k = 2) with rfl | rfl | rfl <;> simp [jset, sput, scell, setI, sobj]
  · by_cases h1 : a ≤ q ∧ q < a + 7
    · have h4 : ¬ q - a = 0 := by omega
      simp only [jset, sput, hq, h1, and_self, if_true, if_false, scell, h4, setI]
    · simp only [jset, sput, hq, h1, if_false]
/-- houses: a number up to 7 -/
def sN (σ : St) : Nat := (σ.1 0).toNatClampNeg
def sok (σ : St) : Prop := σ.1 0 = nI (sN σ) ∧ sN σ ≤ 7
def bI (b : Bool) : Int32 := if b then 1 else 0
def ix (i : Int32) : Nat := i.toNatClampNeg
def sHas (σ : St) (i : Int32) : Bool := decide (¬ i < 0 ∧ i < σ.1 0)
theorem sHas_ix {σ : St} (H : sok σ) {i : Int32} (h : sHas σ i = true) : ix i < sN σ ∧ i = nI (ix i) ∧ sN σ ≤ 7 := by
  obtain ⟨h1, h2⟩ := H
  simp only [sHas, decide_eq_true_eq] at h
  obtain ⟨j, hj, e⟩ := nI_of h.1
  have h3 := h.2
  rw [h1, e] at h3
  have h4 : ix i = j := by rw [e]; exact nI_clamp hj
  rw [h4]
  exact ⟨(nI_ltI hj (by omega)).mp h3, e, h2⟩
theorem sHas_in {σ : St} (H : sok σ) {i : Int32} (h : sHas σ i = true) : vp_in i 7 := by
  obtain ⟨h1, h2, h3⟩ := sHas_ix H h
  rw [h2]
  exact vp_in_nI (by omega) (by decide)
section STR
variable {g : jG} {d : Nat} {h : jH} {a : Nat} {σ : St} {i k : Int32}
abbrev no2 : String → jH → Prop := fun _ _ => False
theorem c_has (H : SAt h a σ) (S : sok σ) : Con g mX6_has (d + 1) [.ref a, .int i] h (jPi (fun r h' => r = bI (sHas σ i) ∧ h' = h) no2) := by
  refine con_of km_X6_has.1.2.2.2.2 (Nat.le_of_ble_eq_true rfl) rfl (bX6_has_0 ?_)
  obtain ⟨h0, -⟩ := H
  refine ⟨fun c => ?_, fun c => ⟨_, h0, _, rfl, fun c2 => ⟨fun c3 => ?_, fun c3 => ?_⟩, fun c2 => ?_⟩⟩
  · exact ⟨by simp [sHas, c, bI], rfl⟩
  · exact ⟨by simp [sHas, c, c2, bI], rfl⟩
  · exfalso
    obtain ⟨s1, s2⟩ := S
    rw [s1] at c2
    exact c3 (Int32.lt_of_lt_of_le c2 (nI_le (a := sN σ) (b := 7) s2 (by decide)))
  · exact ⟨by simp [sHas, c2, bI], rfl⟩
def sGone (σ : St) (i : Int32) : Bool := sHas σ i && decide (σ.2 3 (ix i) = 1)
theorem c_isGone (H : SAt h a σ) (S : sok σ) : Con g mX6_isGone (d + 2) [.ref a, .int i] h (jPi (fun r h' => r = bI (sGone σ i) ∧ h' = h) no2) := by
  refine con_of km_X6_isGone.1.2.2.2.2 (Nat.le_of_ble_eq_true rfl) rfl (bX6_isGone_0 ?_)
  refine ⟨_, H.1, (c_has H S).pi (fun r h' hr => ?_) (fun E h' f => f.elim)⟩
  obtain ⟨e1, e2⟩ := hr
  subst e2
  cases hb : sHas σ i with
  | false => exact ⟨fun _ => ⟨by simp [sGone, hb, bI], rfl⟩, fun c => absurd (by rw [e1, hb]; rfl) c⟩
  | true =>
    refine ⟨fun c => absurd (c.symm.trans e1) (by rw [hb]; decide), fun c => ⟨_, H.1, _, rfl, _, _, H.2.2.2.2.1, sHas_in S hb, fun c2 => ?_, fun c2 => ?_⟩⟩
    · exact ⟨by simp [sGone, hb, bI, ix, c2], rfl⟩
    · exact ⟨by simp [sGone, hb, bI, ix, c2], rfl⟩
end STR
