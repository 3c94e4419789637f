def newHist : va_E := .inr (2, [.int 0, .null])
def zrefs (b i : Nat) : va_E := .inl (4, (10, .inr (.inr (.inr (.inr (fun j => if j < i then some (b + (2 + 7 * j)) else none))))))
def laySts (b : Nat) : Nat → List va_E
  | 0 => []
  | i + 1 => laySts b i ++ laySt (b + (2 + 7 * i))
def layHist (b : Nat) : List va_E := hobj b 0 :: zrefs b 10 :: laySts b 10
theorem laySts_len (b i : Nat) : (laySts b i).length = 7 * i := by
  induction i with
  | zero => rfl
  | succ i ih => simp only [laySts, List.length_append, ih, laySt_len]; omega
theorem layHist_len (b : Nat) : (layHist b).length = 72 := by simp only [layHist, List.length_cons, laySts_len]
theorem seg_at1 (h : jH) (a : Nat) (L M : List va_E) (s : Nat) (o e : va_E) : (seg h a (L ++ o :: e :: M) s).1 (a + (L.length + 1)) = some e := by
  rw [seg_at _ _ _ _ (by simp)]
  simp
theorem seg_set1 (h : jH) (a : Nat) (L M : List va_E) (s : Nat) (o e e' : va_E) : jset (seg h a (L ++ o :: e :: M) s) (a + (L.length + 1)) e' = seg h a (L ++ o :: e' :: M) s := by
  rw [seg_set _ _ _ _ (by simp)]
  congr 1
  rw [List.set_append_right _ _ (by omega), Nat.add_sub_cancel_left]
  rfl
section CT3
variable {g : jG} {d : Nat} {h hs : jH} {a s : Nat} {L : List va_E}
theorem initHist_loop (R : a + L.length + 72 ≤ jB0 g + 601024 ∧ h.2.2 + s + 520 ≤ 7293034) : ∀ m i, 10 = i + m →
    J g mX2_init (d + 2) hs (jPv (fun h' => h' = seg h a (L ++ layHist (a + L.length)) (s + 520)) no2) 15 [(0, .ref (a + L.length)), (1, .int (nI i))] [] (seg h a (L ++ hobj (a + L.length) 0 :: zrefs (a + L.length) i :: laySts (a + L.length) i) (s + (10 + 51 * i))) := by
  obtain ⟨r1, r2⟩ := R
  intro m
  induction m with
  | zero =>
    intro i hi
    have : i = 10 := by omega
    subst this
    refine bX2_init_15 ⟨_, seg_at0 _ _ _ _ _ _, _, rfl, _, _, seg_at1 _ _ _ _ _ _ _, ⟨_, rfl⟩, fun q => absurd q (nI_nlt (a := 10) (b := 10) (Nat.le_refl _) (by decide)), fun _ => rfl⟩
  | succ m ih =>
    intro i hi
    have hix : (nI i).toNatClampNeg = i := nI_clamp (by omega)
    refine bX2_init_15 ⟨_, seg_at0 _ _ _ _ _ _, _, rfl, _, _, seg_at1 _ _ _ _ _ _ _, ⟨_, rfl⟩, fun _ => ⟨_, seg_at0 _ _ _ _ _ _, _, rfl, ⟨?_, ?_⟩, fun q h1 e1 f1 => ?_⟩, fun q => absurd (nI_lt (a := i) (b := 10) (by omega) (by decide)) q⟩
    · rw [seg_sz]
      simp only [List.length_append, List.length_cons, laySts_len]
      omega
    · rw [seg_sz]
      show h.2.2 + (s + (10 + 51 * i)) + 9 ≤ _
      omega
    · rw [seg_new1] at f1
      subst f1
      rw [seg_sz] at e1
      dsimp only at e1
      subst e1
      refine (c_initSt ⟨by simp only [List.length_append, List.length_cons, laySts_len]; omega, by omega⟩).pv (fun h1 f1 => ?_) (fun E h' f => f.elim)
      have el : a + (L ++ hobj (a + L.length) 0 :: zrefs (a + L.length) i :: laySts (a + L.length) i).length = a + L.length + (2 + 7 * i) := by
        simp only [List.length_append, List.length_cons, laySts_len]
        omega
      rw [el] at f1 ⊢
      have ea : (L ++ hobj (a + L.length) 0 :: zrefs (a + L.length) i :: laySts (a + L.length) i) ++ laySt (a + L.length + (2 + 7 * i)) = L ++ hobj (a + L.length) 0 :: zrefs (a + L.length) i :: laySts (a + L.length) (i + 1) := by
        simp only [laySts, List.append_assoc, List.cons_append]
      rw [ea] at f1
      subst f1
      refine ⟨_, _, seg_at1 _ _ _ _ _ _ _, vp_in_nI (by omega) (by decide), [.int 0, .int 0, .int 0, .ref (a + L.length + (2 + 7 * i) + 1), .ref (a + L.length + (2 + 7 * i) + 2), .ref (a + L.length + (2 + 7 * i) + 3), .ref (a + L.length + (2 + 7 * i) + 4), .ref (a + L.length + (2 + 7 * i) + 5), .ref (a + L.length + (2 + 7 * i) + 6)], ?_, fun h1 f1 => ?_⟩
      · rw [← ea, ← el]
        exact seg_at0 _ _ _ _ _ _
      · replace f1 := f1.trans (seg_set1 _ _ _ _ _ _ _ _)
        rw [hix] at f1
        have ez : (.inl (4, (10, .inr (.inr (.inr (.inr (va_up (fun j => if j < i then some (a + L.length + (2 + 7 * j)) else none) i (some (a + L.length + (2 + 7 * i))))))))) : va_E) = zrefs (a + L.length) (i + 1) := by
          have : va_up (fun j => if j < i then some (a + L.length + (2 + 7 * j)) else none) i (some (a + L.length + (2 + 7 * i))) = (fun j => if j < i + 1 then some (a + L.length + (2 + 7 * j)) else none) := by
            funext j
            by_cases hj : j = i
            · subst hj
              simp [va_up]
            · by_cases h2 : j < i
              · simp only [va_up, hj, h2, show j < i + 1 from by omega, if_true, if_false]
              · simp only [va_up, hj, h2, show ¬ j < i + 1 from by omega, if_false]
          unfold zrefs
          rw [this]
        rw [ez] at f1
        rw [f1, nI_1]
        have := ih (i + 1) (by omega)
        rw [show s + (10 + 51 * (i + 1)) = s + (10 + 51 * i) + 9 + 42 from by omega] at this
        exact this
theorem c_initHist (R : a + L.length + 72 ≤ jB0 g + 601024 ∧ h.2.2 + s + 520 ≤ 7293034) : Con g mX2_init (d + 2) [.ref (a + L.length)] (seg h a (L ++ [newHist]) s) (jPv (fun h' => h' = seg h a (L ++ layHist (a + L.length)) (s + 520)) no2) := by
  have R0 := R
  obtain ⟨r1, r2⟩ := R
  refine con_of km_X2_init.1.2.2.2.2 (Nat.le_of_ble_eq_true rfl) rfl (bX2_init_0 ?_)
  refine ⟨10, rfl, by decide, ⟨by rw [seg_sz]; simp; omega, by rw [seg_sz]; simp; omega⟩, fun q1 h1 e1 f1 => ?_⟩
  rw [seg_new] at f1
  subst f1
  rw [seg_sz] at e1
  simp only [List.length_append, List.length_cons, List.length_nil] at e1
  subst e1
  refine ⟨_, seg_at0 _ _ _ _ _ _, Nat.le_of_ble_eq_true rfl, fun h1 f1 => ?_⟩
  replace f1 := f1.trans (seg_set0 _ _ _ _ _ _ _)
  subst f1
  have := initHist_loop (g := g) (d := d) (h := h) (hs := seg h a (L ++ [newHist]) s) (a := a) (s := s) (L := L) R0 10 0 rfl
  exact this
def layImg (b : Nat) : List va_E := .inr (3, [.null, .ref (b + 1), .ref (b + 8)]) :: (laySt (b + 1) ++ layHist (b + 8))
theorem layImg_len (b : Nat) : (layImg b).length = 80 := by simp only [layImg, List.length_cons, List.length_append, laySt_len, layHist_len]
theorem c_initImg (R : a + L.length + 80 ≤ jB0 g + 601024 ∧ h.2.2 + s + 573 ≤ 7293034) : Con g mX3_init (d + 3) [.ref (a + L.length)] (seg h a (L ++ [.inr (3, [.null, .null, .null])]) s) (jPv (fun h' => h' = seg h a (L ++ layImg (a + L.length)) (s + 573)) no2) := by
  obtain ⟨r1, r2⟩ := R
  refine con_of km_X3_init.1.2.2.2.2 (Nat.le_of_ble_eq_true rfl) rfl (bX3_init_0 ?_)
  refine ⟨⟨by rw [seg_sz]; simp; omega, by rw [seg_sz]; simp; omega⟩, fun q1 h1 e1 f1 => ?_⟩
  rw [seg_new, ← List.append_assoc] at f1
  subst f1
  rw [seg_sz] at e1
  dsimp only at e1
  subst e1
  refine (c_initSt ⟨by simp; omega, by omega⟩).pv (fun h1 f1 => ?_) (fun E h' f => f.elim)
  rw [List.append_assoc] at f1
  subst f1
  refine ⟨_, seg_at0 _ _ _ _ _ _, Nat.le_of_ble_eq_true rfl, fun h1 f1 => ?_⟩
  replace f1 := f1.trans (seg_set0 _ _ _ _ _ _ _)
  subst f1
  refine ⟨⟨by rw [seg_sz]; simp [laySt_len]; omega, by rw [seg_sz]; simp; omega⟩, fun q2 h1 e2 f1 => ?_⟩
  rw [seg_new, ← List.append_assoc] at f1
  subst f1
  rw [seg_sz] at e2
  dsimp only at e2
  subst e2
  refine (c_initHist ⟨by simp [laySt_len]; omega, by omega⟩).pv (fun h1 f1 => ?_) (fun E h' f => f.elim)
  rw [List.append_assoc] at f1
  subst f1
  refine ⟨_, seg_at0 _ _ _ _ _ _, Nat.le_of_ble_eq_true rfl, fun h1 f1 => ?_⟩
  replace f1 := f1.trans (seg_set0 _ _ _ _ _ _ _)
  subst f1
  show seg _ _ _ _ = _
  first | rfl | (simp only [List.length_append, List.length_cons, List.length_nil, laySt_len]; rfl)
end CT3
/-! TRAY at y: many, sort; the row. -/
abbrev Ty : Type := Int32 × Int32 × (Nat → Int64)
def yobj (y : Nat) (θ : Ty) : va_E := .inr (10, [.int θ.1, .int θ.2.1, .ref (y + 1)])
def yrow (f : Nat → Int64) : va_E := .inl (3, (30, .inr (.inl f)))
def YAt (h : jH) (y : Nat) (θ : Ty) : Prop := h.1 y = some (yobj y θ) ∧ h.1 (y + 1) = some (yrow θ.2.2)
def yput (h : jH) (y : Nat) (θ : Ty) : jH := ov h y 2 (fun j => if j = 0 then yobj y θ else yrow θ.2.2)
def ycut (sort : Int32) (v : Int64) : Int64 := if sort = 0 then v.toInt32.toInt8.toInt32.toInt64 else if sort = 1 then v.toInt32.toInt16.toInt32.toInt64 else if sort = 2 then v.toInt32.toInt64 else v
theorem yput_at (h : jH) (y : Nat) (θ : Ty) : YAt (yput h y θ) y θ := ⟨ov_at _ _ _ _ (j := 0) (by decide), ov_at _ _ _ _ (j := 1) (by decide)⟩
theorem YAt.put {h : jH} {y : Nat} {θ : Ty} (H : YAt h y θ) : yput h y θ = h := by
  refine Prod.ext (funext fun q => ?_) rfl
  by_cases h1 : y ≤ q ∧ q < y + 2
  · obtain ⟨j, rfl⟩ : ∃ j, q = y + j := ⟨q - y, by omega⟩
    rcases (by omega : j = 0 ∨ j = 1) with rfl | rfl
    · exact (yput_at h y θ).1.trans H.1.symm
    · exact (yput_at h y θ).2.trans H.2.symm
  · exact ov_out h1
theorem yput_o {h : jH} {y : Nat} {θ : Ty} (a b : Int32) : jset (yput h y θ) y (.inr (10, [.int a, .int b, .ref (y + 1)])) = yput h y (a, b, θ.2.2) := by
  refine (ov_set h y 2 _ (j := 0) (by decide) _).trans (ov_congr (fun j hj => ?_))
  rcases (by omega : j = 0 ∨ j = 1) with rfl | rfl <;> rfl
theorem yput_r {h : jH} {y : Nat} {θ : Ty} (f : Nat → Int64) : jset (yput h y θ) (y + 1) (yrow f) = yput h y (θ.1, θ.2.1, f) := by
  refine (ov_set h y 2 _ (j := 1) (by decide) _).trans (ov_congr (fun j hj => ?_))
  rcases (by omega : j = 0 ∨ j = 1) with rfl | rfl <;> rfl
section TRY
variable {g : jG} {d : Nat} {h : jH} {y : Nat} {θ : Ty}
theorem c_isMissing (H : YAt h y θ) : Con g mX10_isMissing (d + 1) [.ref y] h (jPi (fun r h' => r = bI (decide (θ.2.1 = -1)) ∧ h' = h) no2) := by
  refine con_of km_X10_isMissing.1.2.2.2.2 (Nat.le_of_ble_eq_true rfl) rfl (bX10_isMissing_0 ⟨_, H.1, _, rfl, fun q => ⟨?_, rfl⟩, fun q => ⟨?_, rfl⟩⟩)
  · simp [q, bI]
  · simp [q, bI]
theorem c_cut {v : Int64} (H : YAt h y θ) : Con g mX10_cut (d + 1) [.ref y, .long v] h (jPl (fun r h' => r = ycut θ.2.1 v ∧ h' = h) no2) := by
  refine con_of km_X10_cut.1.2.2.2.2 (Nat.le_of_ble_eq_true rfl) rfl (bX10_cut_0 ⟨_, H.1, _, rfl, fun q => ⟨?_, rfl⟩, fun q => ⟨fun q2 => ⟨?_, rfl⟩, fun q2 => ⟨fun q3 => ⟨?_, rfl⟩, fun q3 => ⟨?_, rfl⟩⟩⟩⟩)
  · simp [ycut, q]
  · simp [ycut, q2]
  · simp [ycut, q3]
  · simp [ycut, q, q2, q3]
theorem c_at {i : Int32} (H : YAt h y θ) : Con g mX10_at (d + 1) [.ref y, .int i] h (jPl (fun r h' => (vp_in i 30 → r = θ.2.2 (ix i)) ∧ h' = h) no2) := by
  refine con_of km_X10_at.1.2.2.2.2 (Nat.le_of_ble_eq_true rfl) rfl (bX10_at_0 ⟨fun q => ⟨fun v => absurd (Or.inl q) v, rfl⟩, fun q => ⟨_, H.1, _, rfl, _, _, H.2, ⟨_, rfl⟩, fun q2 => ⟨_, H.1, _, rfl, _, _, H.2, ?_, fun _ => rfl, rfl⟩, fun q2 => ⟨fun v => ?_, rfl⟩⟩⟩)
  · obtain ⟨j, hj, rfl⟩ := nI_of q
    exact vp_in_nI ((nI_ltI hj (by decide)).mp q2) (by decide)
  · obtain ⟨j, hj, rfl⟩ := vp_in_of v (by decide)
    exact absurd (nI_lt (b := 30) hj (by decide)) q2
theorem c_yput {i : Int32} {v : Int64} (hv : vp_in i 30) : Con g mX10_put (d + 2) [.ref y, .int i, .long v] (yput h y θ) (jPv (fun h' => h' = yput h y (θ.1, θ.2.1, vp_updL θ.2.2 (ix i) (ycut θ.2.1 v))) no2) := by
  have H := yput_at h y θ
  refine con_of km_X10_put.1.2.2.2.2 (Nat.le_of_ble_eq_true rfl) rfl (bX10_put_0 ⟨fun q => absurd (Or.inl q) hv, fun q => ⟨_, H.1, _, rfl, _, _, H.2, ⟨_, rfl⟩, fun q2 => ⟨_, H.1, _, rfl, _, H.1, (c_cut H).pl (fun r h' hr => ?_) (fun E h' f => f.elim)⟩, fun q2 => ?_⟩⟩)
  · obtain ⟨e1, rfl⟩ := hr
    refine ⟨_, _, H.2, hv, fun h1 q1 => ?_⟩
    rw [e1] at q1
    exact q1.trans (yput_r _)
  · obtain ⟨j, hj, rfl⟩ := vp_in_of hv (by decide)
    exact absurd (nI_lt (b := 30) hj (by decide)) q2
theorem c_lay {a b : Int32} : Con g mX10_lay (d + 2) [.ref y, .int a, .int b] (yput h y θ) (jPv (fun h' => h' = yput h y (b, a, fun _ => 0)) no2) := by
  have H := yput_at h y θ
  refine con_of km_X10_lay.1.2.2.2.2 (Nat.le_of_ble_eq_true rfl) rfl (bX10_lay_0 ⟨_, H.1, Nat.le_of_ble_eq_true rfl, fun h1 q1 => ?_⟩)
  replace q1 := q1.trans (yput_o (y := y) (θ := θ) θ.1 a)
  subst q1
  refine ⟨_, (yput_at h y _).1, Nat.le_of_ble_eq_true rfl, fun h1 q1 => ?_⟩
  replace q1 := q1.trans (yput_o (y := y) b a)
  subst q1
  refine ⟨_, (yput_at h y _).1, _, rfl, (c_fillL (yput_at h y _).2 (by decide)).pv (fun h' q => ?_) (fun E h' f => f.elim)⟩
  exact q.trans (yput_r _)
end TRY
