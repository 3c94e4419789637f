/-! Arrays.fill -/
theorem cell_jeq {h : jH} {a n : Nat} {f f' : Nat → Int32} (e : ∀ j, j < n → f j = f' j) : jeq (jset h a (.inl (0, (n, .inl f)))) (jset h a (.inl (0, (n, .inl f')))) := by
  refine ⟨rfl, fun q x hx => ?_⟩
  by_cases hq : q = a
  · simp only [jset, hq, if_true, Option.some.injEq] at hx ⊢
    subst hx
    exact ⟨_, rfl, rfl, fun c => vp_cell_ci c e, fun q => absurd q (Nat.not_le.mpr (Nat.le_of_ble_eq_true rfl))⟩
  · simp only [jset, hq, if_false] at hx ⊢
    exact ⟨x, hx, ceq_rf x⟩
theorem cell_jeqL {h : jH} {a n : Nat} {f f' : Nat → Int64} (e : ∀ j, j < n → f j = f' j) : jeq (jset h a (.inl (3, (n, .inr (.inl f))))) (jset h a (.inl (3, (n, .inr (.inl f'))))) := by
  refine ⟨rfl, fun q x hx => ?_⟩
  by_cases hq : q = a
  · simp only [jset, hq, if_true, Option.some.injEq] at hx ⊢
    subst hx
    exact ⟨_, rfl, rfl, fun c => vp_cell_cl c e, fun q => absurd q (Nat.not_le.mpr (Nat.le_of_ble_eq_true rfl))⟩
  · simp only [jset, hq, if_false] at hx ⊢
    exact ⟨x, hx, ceq_rf x⟩
theorem jset_self {h : jH} {a : Nat} {e : va_E} (H : h.1 a = some e) : jset h a e = h := by
  refine Prod.ext (funext fun q => ?_) rfl
  by_cases hq : q = a
  · rw [hq]; exact (jset_at _ _ _).trans H.symm
  · exact jset_ne hq
section FIL
variable {g : jG} {d : Nat} {h hs : jH} {r n : Nat}
theorem fill_loop {v : Int32} {f0 : Nat → Int32} (hn : n < 2 ^ 31) : ∀ m j, n = j + m → J g mJ7_fill_53178 (d + 1) hs (jPv (fun h' => h' = jset h r (.inl (0, (n, .inl (fun i => if i < n then v else f0 i))))) no2) 5 [(0, .ref r), (1, .int v), (2, .int (nI j)), (3, .int (nI n))] [] (jset h r (.inl (0, (n, .inl (fun i => if i < j then v else f0 i))))) := by
  intro m
  induction m with
  | zero =>
    intro j hj
    simp only [Nat.add_zero] at hj
    subst hj
    exact bJ7_fill_53178_5 ⟨fun c => absurd c (nI_nlt (Nat.le_refl _) hn), fun _ => rfl⟩
  | succ m ih =>
    intro j hj
    refine bJ7_fill_53178_5 ⟨fun c => ⟨_, _, jset_at _ _ _, vp_in_nI (by omega) hn, fun h5 e5 => ?_⟩, fun c => absurd (nI_lt (by omega) hn) c⟩
    rw [jset_jset, nI_clamp (by omega)] at e5
    have e : upd (fun i => if i < j then v else f0 i) j v = fun i => if i < j + 1 then v else f0 i := by
      funext i
      by_cases hi : i = j
      · subst hi
        simp [upd]
      · by_cases h2 : i < j
        · simp only [upd, hi, h2, show i < j + 1 from by omega, if_true, if_false]
        · simp only [upd, hi, h2, show ¬ i < j + 1 from by omega, if_false]
    rw [e5, e, nI_1]
    exact ih (j + 1) (by omega)
theorem c_fill {v : Int32} {f0 : Nat → Int32} (H : h.1 r = some (.inl (0, (n, .inl f0)))) (hn : n < 2 ^ 31) : Con g mJ7_fill_53178 (d + 1) [.ref r, .int v] h (jPv (fun h' => h' = jset h r (.inl (0, (n, .inl (fun _ => v))))) no2) := by
  have main : Con g mJ7_fill_53178 (d + 1) [.ref r, .int v] h (jPv (fun h' => h' = jset h r (.inl (0, (n, .inl (fun i => if i < n then v else f0 i))))) no2) := by
    refine con_of km_J7_fill_53178.1.2.2.2.2 (Nat.le_of_ble_eq_true rfl) rfl (bJ7_fill_53178_0 ⟨_, _, H, ⟨_, rfl⟩, ?_⟩)
    have := fill_loop (g := g) (d := d) (h := h) (hs := h) (r := r) (v := v) (f0 := f0) hn n 0 (by omega)
    rw [show (fun i => if i < 0 then v else f0 i) = f0 from by funext i; simp, jset_self H] at this
    exact this
  refine main.posteq (fun o h1 hp => ?_)
  cases o with
  | inl x =>
    cases x with
    | none => exact ⟨_, by rw [show h1 = _ from hp]; exact cell_jeq (fun j hj => by simp only [hj, if_true]), rfl⟩
    | some x => exact hp.elim
  | inr E => exact hp.elim
theorem fillL_loop {v : Int64} {f0 : Nat → Int64} (hn : n < 2 ^ 31) : ∀ m j, n = j + m → J g mJ7_fill_d0a16 (d + 1) hs (jPv (fun h' => h' = jset h r (.inl (3, (n, .inr (.inl (fun i => if i < n then v else f0 i)))))) no2) 6 [(0, .ref r), (1, .long v), (3, .int (nI j)), (4, .int (nI n))] [] (jset h r (.inl (3, (n, .inr (.inl (fun i => if i < j then v else f0 i)))))) := by
  intro m
  induction m with
  | zero =>
    intro j hj
    simp only [Nat.add_zero] at hj
    subst hj
    exact bJ7_fill_d0a16_6 ⟨fun c => absurd c (nI_nlt (Nat.le_refl _) hn), fun _ => rfl⟩
  | succ m ih =>
    intro j hj
    refine bJ7_fill_d0a16_6 ⟨fun c => ⟨_, _, jset_at _ _ _, vp_in_nI (by omega) hn, fun h5 e5 => ?_⟩, fun c => absurd (nI_lt (by omega) hn) c⟩
    rw [jset_jset, nI_clamp (by omega)] at e5
    have e : vp_updL (fun i => if i < j then v else f0 i) j v = fun i => if i < j + 1 then v else f0 i := by
      funext i
      by_cases hi : i = j
      · subst hi
        simp [vp_updL]
      · by_cases h2 : i < j
        · simp only [vp_updL, hi, h2, show i < j + 1 from by omega, if_true, if_false]
        · simp only [vp_updL, hi, h2, show ¬ i < j + 1 from by omega, if_false]
    rw [e5, e, nI_1]
    exact ih (j + 1) (by omega)
theorem c_fillL {v : Int64} {f0 : Nat → Int64} (H : h.1 r = some (.inl (3, (n, .inr (.inl f0))))) (hn : n < 2 ^ 31) : Con g mJ7_fill_d0a16 (d + 1) [.ref r, .long v] h (jPv (fun h' => h' = jset h r (.inl (3, (n, .inr (.inl (fun _ => v)))))) no2) := by
  have main : Con g mJ7_fill_d0a16 (d + 1) [.ref r, .long v] h (jPv (fun h' => h' = jset h r (.inl (3, (n, .inr (.inl (fun i => if i < n then v else f0 i)))))) no2) := by
    refine con_of km_J7_fill_d0a16.1.2.2.2.2 (Nat.le_of_ble_eq_true rfl) rfl (bJ7_fill_d0a16_0 ⟨_, _, H, ⟨_, rfl⟩, ?_⟩)
    have := fillL_loop (g := g) (d := d) (h := h) (hs := h) (r := r) (v := v) (f0 := f0) hn n 0 (by omega)
    rw [show (fun i => if i < 0 then v else f0 i) = f0 from by funext i; simp, jset_self H] at this
    exact this
  refine main.posteq (fun o h1 hp => ?_)
  cases o with
  | inl x =>
    cases x with
    | none => exact ⟨_, by rw [show h1 = _ from hp]; exact cell_jeqL (fun j hj => by simp only [hj, if_true]), rfl⟩
    | some x => exact hp.elim
  | inr E => exact hp.elim
end FIL
