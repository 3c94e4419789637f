/-! The reference looks ahead -/
abbrev pN (T : Td) (σ : St) (j : Nat) : St := pasN T T.1.2.2 σ j
abbrev dq (μ ν : MW) : Prop := dif [23, 24, 27] [6, 7, 8, 9, 10] μ ν
abbrev ms (μ ν : MW) : Prop := dif [4, 23, 24, 26, 27, 30, 31, 32] [6, 7, 8, 9, 10, 11, 12, 13, 14] μ ν
def codE : List String → String → Nat → Int32
  | [], _, k => nI k
  | x :: xs, E, k => if E = x then nI k else codE xs E (k + 1)
def cod {α : Type} (xs : List String) (A : An α) : Int32 := match A with
  | .inl E => codE xs E 1
  | .inr _ => 0
/-- what a public call of the reference leaves -/
def mAns {α : Type} (μ : MW) (σ : St) (xs : List String) (A : An α) : α → MW → Prop := fun r ν => ∃ μ', ms μ μ' ∧ μ'.1 4 = cod xs A ∧ (∀ v, A = .inr v → r = v) ∧ ν = mS μ' σ
section MAH
variable {g : jG} {d : Nat} {h : jH} {m : Nat} {μ ν : MW} {i k n : Int32} {T : Td} {σ τ : St} {I A : List Nat}
theorem qr.q {a b : MW} (x : qr a b) : dq a b := x.df.up (by decide) (by decide)
theorem dq.s {a b : MW} (x : dq a b) : ms a b := x.up (by decide) (by decide)
theorem dq.kk {a b : MW} (x : dq a b) : kn b = kn a := dif.kk x (by decide)
theorem qr.asd {a b : MW} (x : qr a b) (y : asd a σ) : asd b σ := dif.asd x.df (by decide) y
theorem ms.tr {a b c : MW} (x : ms a b) (y : ms b c) : ms a c := dif.tr x y
theorem ms_4 (v : Int32) : ms μ (mI μ 4 v) := dif_I (by decide) v
theorem dq.e {a b : MW} (x : dq a b) (E : encT (kn a) T) : encT (kn b) T := by rw [x.kk]; exact E
theorem ne_ni : ¬ nse = iae := by unfold nse iae; decide
theorem cod_nn : codE [nse, iae] nse 1 = 1 := rfl
theorem iae_ni : ¬ iae = nse := fun c => ne_ni c.symm
theorem cod_i {x : String} {xs : List String} {k : Nat} : codE (x :: xs) x k = nI k := if_pos rfl
theorem cod_n {E x : String} {xs : List String} {k : Nat} (c : ¬ E = x) : codE (x :: xs) E k = codE xs E (k + 1) := if_neg c
theorem m_quarterW (B : stB σ) (E : encT (kn μ) T) : Con g mX12_quarter (d + 6) [.ref m] (mw h m (mS μ σ)) (wPv h m (fun ν => ∃ μ', qr μ μ' ∧ μ'.1 23 = pasPaid T σ ∧ μ'.1 24 = pasRuin T T.1.2.2 σ ∧ (∀ i, i < sN σ → μ'.2.1 8 i = pasCame T σ i) ∧ ν = mS μ' (pas T T.1.2.2 σ))) :=
  (m_quarter B E).pv (fun h' q => by obtain ⟨ν, q1, q2, q3, q4, q5⟩ := q; exact ⟨_, ⟨ν, q1, q2, q3, q4, rfl⟩, q5⟩) (fun _ _ f => f)
theorem m_goesOn (B : stB σ) (E : encT (kn μ) T) {n : Nat} (hn : n < 1000000) : Con g mX12_goesOn (d + 7) [.ref m, .int (nI n)] (mw h m (mS μ σ)) (wPv h m (fun ν => ∃ μ', qr μ μ' ∧ ν = mS μ' (pN T σ n))) := by
  have loop : ∀ r j μ', j + r = n → qr μ μ' → J g mX12_goesOn (d + 7) (mw h m (mS μ σ)) (wPv h m (fun ν => ∃ μ', qr μ μ' ∧ ν = mS μ' (pN T σ n))) 2 [(0, .ref m), (1, .int (nI n)), (2, .int (nI j))] [] (mw h m (mS μ' (pN T σ j))) := by
    intro r
    induction r with
    | zero =>
      intro j μ' hj hq
      have : j = n := by omega
      subst this
      exact wX12_goesOn_2 ⟨fun c => absurd c (nI_nlt (by omega) (by omega)), fun _ => ⟨_, ⟨μ', hq, rfl⟩, rfl⟩⟩
    | succ r ih =>
      intro j μ' hj hq
      refine wX12_goesOn_2 ⟨fun _ => ⟨_, m_quarterW (σ := pN T σ j) (stB_pasN B j) (by rw [hq.k]; exact E), fun μ1 q => ?_⟩, fun c => absurd (nI_lt (by omega) (by omega)) c⟩
      obtain ⟨μ2, q1, -, -, -, rfl⟩ := q
      rw [nI_1]
      exact ih (j + 1) μ2 (by omega) (hq.tr q1)
  exact con_of km_X12_goesOn.1.2.2.2.2 (Nat.le_of_ble_eq_true rfl) rfl (wX12_goesOn_0 (loop n 0 μ (by omega) (qr.rf μ)))
theorem m_later (B : stB σ) (E : encT (kn μ) T) {n : Nat} (hn : n < 1000000) {x : Int32} (hx : vp_in x 3240) : Con g mX12_later (d + 8) [.ref m, .int x, .int (nI n)] (mw h m (mS μ σ)) (wPi h m (fun r ν => r = kS (kn μ) (pN T σ n) (ix x) ∧ ∃ μ', dq μ μ' ∧ ν = mS μ' σ)) := by
  refine con_of km_X12_later.1.2.2.2.2 (Nat.le_of_ble_eq_true rfl) rfl (wX12_later_0 ⟨_, m_putsAside (σ := σ), fun μ1 q => ?_⟩)
  obtain ⟨μ2, d2, a2, rfl⟩ := q
  have q2 : dq μ μ2 := d2.up (by decide) (by decide)
  refine ⟨_, m_goesOn (σ := σ) (T := T) B (q2.e E) hn, fun μ3 q => ?_⟩
  obtain ⟨μ4, q4, rfl⟩ := q
  refine ⟨hx, _, m_putsBack (σ := σ) (τ := pN T σ n) (q4.asd a2) (pasN_1 n), fun μ5 q => ⟨_, ⟨?_, μ4, q2.tr q4.q, q⟩, rfl⟩⟩
  show kS (kn μ4) (pN T σ n) (ix x) = _
  rw [q4.k, q2.kk]
theorem fin_1 {α : Type} {xs : List String} {E : String} {r : α} {c : Int32} (h1 : c = codE xs E 1) : mAns μ σ xs (.inl E) r (mI (mS μ σ) 4 c) := ⟨mI μ 4 c, ms_4 c, (mI_at 4 c).trans h1, (fun v f => by cases f), rfl⟩
theorem fin_0 {α : Type} {xs : List String} {v r : α} {μ' : MW} (q : ms μ μ') (h4 : μ'.1 4 = 0) (hv : r = v) : mAns μ σ xs (.inr v) r (mS μ' σ) := ⟨μ', q, h4, (fun w f => by cases f; exact hv), rfl⟩
theorem ts0 {x : Int32} (c : ¬ 0 < x) (h : x = 1 ∨ x = 2 ∨ x = 3) : False := by
  rcases h with h | h | h <;> exact c (by rw [h]; decide)
/-- two reasons why an ask is refused -/
theorem ms_q {a b : MW} {v : Int32} (x : dq (mI a 4 v) b) : ms a b ∧ b.1 4 = v := ⟨(ms_4 v).tr x.s, (x.1 4 (by decide)).trans (mI_at 4 v)⟩
end MAH
