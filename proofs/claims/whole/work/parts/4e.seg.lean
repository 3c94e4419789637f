/-! What a constructor lays: a list of cells from address a on -/
def seg (h : jH) (a : Nat) (L : List va_E) (s : Nat) : jH := (fun q => if a ≤ q ∧ q < a + L.length then L[q - a]? else h.1 q, a + L.length, h.2.2 + s)
theorem seg_new1 (h : jH) (a : Nat) (L : List va_E) (s : Nat) (e : va_E) (n : Nat) : jnew (seg h a L s) e n = seg h a (L ++ [e]) (s + n) := by
  have hl : (L ++ [e]).length = L.length + 1 := by simp
  refine Prod.ext (funext fun q => ?_) (Prod.ext ?_ ?_)
  · by_cases h1 : q = a + L.length
    · subst h1
      have h2 : a ≤ a + L.length ∧ a + L.length < a + (L ++ [e]).length := by omega
      simp only [jnew, seg, if_true]
      rw [if_pos h2, Nat.add_sub_cancel_left, List.getElem?_concat_length]
    · by_cases h2 : a ≤ q ∧ q < a + L.length
      · have h3 : a ≤ q ∧ q < a + (L ++ [e]).length := by omega
        simp only [jnew, seg, h1, if_false]
        rw [if_pos h2, if_pos h3, List.getElem?_append_left (by omega)]
      · have h3 : ¬ (a ≤ q ∧ q < a + (L ++ [e]).length) := by omega
        simp only [jnew, seg, h1, if_false]
        rw [if_neg h2, if_neg h3]
  · show a + L.length + 1 = a + (L ++ [e]).length
    omega
  · show h.2.2 + s + n = h.2.2 + (s + n)
    omega
theorem seg_new (h : jH) (a : Nat) (L M : List va_E) (s : Nat) (e : va_E) (n : Nat) : jnew (seg h a (L ++ M) s) e n = seg h a (L ++ (M ++ [e])) (s + n) := by
  rw [seg_new1, List.append_assoc]
theorem seg_set (h : jH) (a : Nat) (L : List va_E) (s : Nat) {i : Nat} (hi : i < L.length) (e : va_E) : jset (seg h a L s) (a + i) e = seg h a (L.set i e) s := by
  refine Prod.ext (funext fun q => ?_) (Prod.ext ?_ ?_)
  · by_cases h1 : q = a + i
    · subst h1
      have h2 : a ≤ a + i ∧ a + i < a + (L.set i e).length := by simp; omega
      simp only [jset, seg, h2, and_self, if_true, Nat.add_sub_cancel_left]
      rw [List.getElem?_set_self hi]
    · by_cases h2 : a ≤ q ∧ q < a + L.length
      · have h3 : a ≤ q ∧ q < a + (L.set i e).length := by simpa using h2
        simp only [jset, seg, h1, if_false, h2, h3, and_self, if_true]
        rw [List.getElem?_set_ne (by omega)]
      · have h3 : ¬ (a ≤ q ∧ q < a + (L.set i e).length) := by simpa using h2
        simp only [jset, seg, h1, if_false, h2, h3]
  · show a + L.length = a + (L.set i e).length
    simp
  · rfl
theorem seg_set0 (h : jH) (a : Nat) (L M : List va_E) (s : Nat) (o e : va_E) : jset (seg h a (L ++ o :: M) s) (a + L.length) e = seg h a (L ++ e :: M) s := by
  rw [seg_set _ _ _ _ (by simp)]
  congr 1
  rw [List.set_append_right _ _ (Nat.le_refl _)]
  simp
theorem seg_at (h : jH) (a : Nat) (L : List va_E) (s : Nat) {i : Nat} (hi : i < L.length) : (seg h a L s).1 (a + i) = L[i]? := by
  have h1 : a ≤ a + i ∧ a + i < a + L.length := by omega
  simp only [seg, h1, and_self, if_true, Nat.add_sub_cancel_left]
theorem seg_at0 (h : jH) (a : Nat) (L M : List va_E) (s : Nat) (o : va_E) : (seg h a (L ++ o :: M) s).1 (a + L.length) = some o := by
  rw [seg_at _ _ _ _ (by simp)]
  simp
theorem seg_sz (h : jH) (a : Nat) (L : List va_E) (s : Nat) : (seg h a L s).2 = (a + L.length, h.2.2 + s) := rfl
theorem seg_out {h : jH} {a : Nat} {L : List va_E} {s q : Nat} (hq : ¬ (a ≤ q ∧ q < a + L.length)) : (seg h a L s).1 q = h.1 q := by simp only [seg, hq, if_false]
theorem app_cons (L : List va_E) (o : va_E) (M : List va_E) : L ++ (o :: M) = (L ++ [o]) ++ M := by simp
def zrow (n : Nat) : va_E := .inl (0, (n, .inl (fun _ => 0)))
def zlrow (n : Nat) : va_E := .inl (3, (n, .inr (.inl (fun _ => 0))))
/-- room for n cells and m slots over a list of so many -/
def rm (g : jG) (h : jH) (a k s n m : Nat) : Prop := a + k + n ≤ jB0 g + 601024 ∧ h.2.2 + s + m ≤ 7293034
def newSt : va_E := .inr (6, [.int 0, .int 0, .int 0, .null, .null, .null, .null, .null, .null])
def laySt (b : Nat) : List va_E := [.inr (6, [.int 0, .int 0, .int 0, .ref (b + 1), .ref (b + 2), .ref (b + 3), .ref (b + 4), .ref (b + 5), .ref (b + 6)]), zrow 7, zrow 7, zrow 7, zrow 7, zrow 7, zrow 7]
section CTO
variable {g : jG} {d : Nat} {h : jH} {a s : Nat} {L : List va_E}
theorem c_initSt (R : a + L.length + 7 ≤ jB0 g + 601024 ∧ h.2.2 + s + 42 ≤ 7293034) : Con g mX6_init (d + 1) [.ref (a + L.length)] (seg h a (L ++ [newSt]) s) (jPv (fun h' => h' = seg h a (L ++ laySt (a + L.length)) (s + 42)) no2) := by
  obtain ⟨r1, r2⟩ := R
  refine con_of km_X6_init.1.2.2.2.2 (Nat.le_of_ble_eq_true rfl) rfl (bX6_init_0 ?_)
  refine ⟨7, rfl, by decide, ⟨by rw [seg_sz]; simp; omega, by rw [seg_sz]; simp; omega⟩, fun q1 h1 e1 e2 => ?_⟩
  rw [seg_new] at e2
  subst e2
  refine ⟨_, seg_at0 _ _ _ _ _ _, Nat.le_of_ble_eq_true rfl, fun h1 e2 => ?_⟩
  replace e2 := e2.trans (seg_set0 _ _ _ _ _ _ _)
  subst e2
  refine ⟨7, rfl, by decide, ⟨by rw [seg_sz]; simp; omega, by rw [seg_sz]; simp; omega⟩, fun q2 h1 e2 e3 => ?_⟩
  rw [seg_new] at e3
  subst e3
  refine ⟨_, seg_at0 _ _ _ _ _ _, Nat.le_of_ble_eq_true rfl, fun h1 e3 => ?_⟩
  replace e3 := e3.trans (seg_set0 _ _ _ _ _ _ _)
  subst e3
  refine ⟨7, rfl, by decide, ⟨by rw [seg_sz]; simp; omega, by rw [seg_sz]; simp; omega⟩, fun q3 h1 e3 e4 => ?_⟩
  rw [seg_new] at e4
  subst e4
  refine ⟨_, seg_at0 _ _ _ _ _ _, Nat.le_of_ble_eq_true rfl, fun h1 e4 => ?_⟩
  replace e4 := e4.trans (seg_set0 _ _ _ _ _ _ _)
  subst e4
  refine ⟨7, rfl, by decide, ⟨by rw [seg_sz]; simp; omega, by rw [seg_sz]; simp; omega⟩, fun q4 h1 e4 e5 => ?_⟩
  rw [seg_new] at e5
  subst e5
  refine ⟨_, seg_at0 _ _ _ _ _ _, Nat.le_of_ble_eq_true rfl, fun h1 e5 => ?_⟩
  replace e5 := e5.trans (seg_set0 _ _ _ _ _ _ _)
  subst e5
  refine ⟨7, rfl, by decide, ⟨by rw [seg_sz]; simp; omega, by rw [seg_sz]; simp; omega⟩, fun q5 h1 e5 e6 => ?_⟩
  rw [seg_new] at e6
  subst e6
  refine ⟨_, seg_at0 _ _ _ _ _ _, Nat.le_of_ble_eq_true rfl, fun h1 e6 => ?_⟩
  replace e6 := e6.trans (seg_set0 _ _ _ _ _ _ _)
  subst e6
  refine ⟨7, rfl, by decide, ⟨by rw [seg_sz]; simp; omega, by rw [seg_sz]; simp; omega⟩, fun q6 h1 e6 e7 => ?_⟩
  rw [seg_new] at e7
  subst e7
  refine ⟨_, seg_at0 _ _ _ _ _ _, Nat.le_of_ble_eq_true rfl, fun h1 e7 => ?_⟩
  replace e7 := e7.trans (seg_set0 _ _ _ _ _ _ _)
  show h1 = _
  rw [seg_sz] at e1 e2 e3 e4 e5 e6
  simp only [List.length_append, List.length_cons, List.length_nil] at e1 e2 e3 e4 e5 e6
  subst e1 e2 e3 e4 e5 e6
  rw [e7]
  rfl
end CTO
