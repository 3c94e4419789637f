/-! The reference: the orders of the households -/
def mvP (σ τ : St) (j i : Nat) : Nat → St
  | 0 => σ
  | k + 1 => setR (mvP σ τ j i k) k (upd ((mvP σ τ j i k).2 k) i (τ.2 k j))
def goR {α : Type} (f : Nat → α → α) : Nat → Nat → α → α
  | 0, _, a => a
  | c + 1, x, a => goR f c (x + 1) (f x a)
def goM {α : Type} (f : List Nat → α → α) (n : Nat) : Nat → List Nat → α → α
  | 0, l, a => f l a
  | r + 1, l, a => goR (fun x a => if l.contains x = true then a else goM f n r (l ++ [x]) a) n 0 a
abbrev Go := Int32 × Int32 × (Nat → Int32)
def lAt (l : List Nat) : Nat → Nat := fun i => l.getD i 0
def goF (lost : List Nat → Int32) (n : Nat) (l : List Nat) (a : Go) : Go := if lost l < a.1 then (lost l, 1, fun i => if i < n then nI (lAt l i) else a.2.2 i) else (a.1, a.2.1 + (if lost l = a.1 then 1 else 0), a.2.2)
def lostO (T : Td) (σ : St) (N : Nat) (l : List Nat) : Int32 := nI (lstN T (mvS σ (lAt l) (sN σ)) N)
def hGo (T : Td) (σ : St) (N : Nat) (b : Nat → Int32) : Go := goM (goF (lostO T σ N) (sN σ)) (sN σ) (sN σ) [] (536870912, 0, b)
def hOrder (T : Td) (σ : St) (b : Nat → Int32) (n w : Int32) : An Int32 := if inN n 1 20 = false then .inl iae else if w = 0 then .inr (hGo T σ (ix n) b).1 else if inN w 10 16 = false then .inl iae else if w - 10 < σ.1 0 then .inr ((hGo T σ (ix n) b).2.2 (ix (w - 10))) else .inr (-1)
def hOrders (T : Td) (σ : St) (b : Nat → Int32) (n : Int32) : An Int32 := if inN n 1 20 = false then .inl iae else .inr (hGo T σ (ix n) b).2.1
def mkl (l : List Nat) : Nat := bset (fun i => l.contains i) 7
def goI (μ : MW) (a : Go) : Prop := μ.1 30 = a.1 ∧ μ.1 31 = a.2.1 ∧ μ.2.1 12 = a.2.2
def ordA (μ : MW) (l : List Nat) : Prop := ∀ i, i < l.length → μ.2.1 11 i = nI (lAt l i)
abbrev gq (μ ν : MW) : Prop := dif [23, 24, 27, 30, 31] [6, 7, 8, 9, 11, 12] μ ν
section MOR
variable {g : jG} {d : Nat} {h : jH} {m : Nat} {μ ν : MW} {i k n w : Int32} {T : Td} {σ τ : St} {I A : List Nat} {N : Nat} {p : Nat → Nat}
theorem kr_0 : ∀ r, r < 4 → (0 : Int32) + 7 * nI r = nI (7 * r) := by decide
theorem asd_at (Y : asd μ σ) {r j : Nat} (hr : r < 6) (hj : j < 7) : μ.2.1 10 (7 * r + j) = σ.2 r j := by
  rw [Y _ (by omega)]
  show kS _ σ (8 + (7 * r + j)) = _
  rw [← Nat.add_assoc]
  exact kS_at rfl hr hj
theorem hs_nI (S : sok σ) {j : Nat} (hj : j < sN σ) : sHas σ (nI j) = true := by
  have h7 := S.2
  unfold sHas
  refine decide_eq_true ⟨?_, ?_⟩
  · rw [Int32.lt_iff_toInt_lt, nI_toInt (by omega), show (0 : Int32).toInt = 0 from rfl]; omega
  · rw [S.1]; exact nI_lt (by omega) (by omega)
theorem mvP_1 {j i : Nat} : ∀ k, (mvP σ τ j i k).1 = σ.1
  | 0 => rfl
  | k + 1 => mvP_1 k
theorem mvP_S {j i : Nat} (S : sok σ) (e : σ.1 0 = τ.1 0) (hj : j < sN σ) (hi : i < sN σ) : mvP σ τ j i 4 = sMove σ τ (nI j) (nI i) := by
  have h7 := S.2
  have St : sok τ := by unfold sok sN at *; rw [← e]; exact S
  have eN : sN τ = sN σ := by unfold sN; rw [e]
  unfold sMove
  rw [if_pos ⟨hs_nI S hi, hs_nI St (by omega)⟩, ix_nI (by omega), ix_nI (by omega)]
  rfl
theorem mov_12 {hs : jH} {P : jO → jH → Prop} (Y : asd μ τ) {j q : Nat} (hj : j < 7) (hq : q < 7) (e11 : μ.2.1 11 j = nI q) (next : J g mX12_moves (d + 2) hs P 2 [(0, .ref m), (1, .int (nI (j + 1)))] [] (mw h m (mS μ (mvP σ τ q j 4)))) : J g mX12_moves (d + 2) hs P 12 [(0, .ref m), (1, .int (nI j)), (2, .int 0)] [] (mw h m (mS μ σ)) := by
  have loop : ∀ r k, k + r = 4 → J g mX12_moves (d + 2) hs P 12 [(0, .ref m), (1, .int (nI j)), (2, .int (nI k))] [] (mw h m (mS μ (mvP σ τ q j k))) := by
    intro r
    induction r with
    | zero =>
      intro k hk
      have : k = 4 := by omega
      subst this
      refine wX12_moves_12 ⟨fun c => absurd c (nI_nlt (a := 4) (b := 4) (by omega) (by omega)), fun _ => ?_⟩
      rw [nI_1]
      exact next
    | succ r ih =>
      intro k hk
      refine wX12_moves_12 ⟨fun _ => ?_, fun c => absurd (nI_lt (b := 4) (by omega) (by omega)) c⟩
      have e1 : (mS μ (mvP σ τ q j k)).2.1 11 (ix (nI j)) = nI q := by rw [ix_nI (by omega)]; exact e11
      rw [e1, kr_0 k (by omega), kr_4 k (by omega), nI_plus (7 * k) q, ix_nI (n := 7 * k + q) (by omega), show (mS μ (mvP σ τ q j k)).2.1 10 (7 * k + q) = τ.2 k q from asd_at Y (by omega) hq]
      refine ⟨vp_in_nI hj (by decide), vp_in_nI (by omega) (by decide), kin (by omega), ?_⟩
      rw [mS_set (b := 8 + 7 * k) (r := k) (j := j) (v := τ.2 k q) (f := upd (kn (mS μ (mvP σ τ q j k))) (ix (nI (8 + 7 * k) + nI j)) (τ.2 k q)) rfl (by omega) hj (by omega) rfl, nI_1]
      exact ih (k + 1) (by omega)
  exact loop 4 0 rfl
theorem m_moves (S : sok σ) (Y : asd μ σ) (hp : ∀ i, i < sN σ → μ.2.1 11 i = nI (p i) ∧ p i < sN σ) : Con g mX12_moves (d + 2) [.ref m] (mw h m (mS μ σ)) (wPv h m (fun ν => ν = mS μ (mvS σ p (sN σ)))) := by
  have h7 := S.2
  have loop : ∀ r j, j + r = sN σ → J g mX12_moves (d + 2) (mw h m (mS μ σ)) (wPv h m (fun ν => ν = mS μ (mvS σ p (sN σ)))) 2 [(0, .ref m), (1, .int (nI j))] [] (mw h m (mS μ (mvS σ p j))) := by
    intro r
    induction r with
    | zero =>
      intro j hj
      have : j = sN σ := by omega
      subst this
      refine wX12_moves_2 ⟨_, m_housesS (σ := mvS σ p (sN σ)), fun c => ?_, fun _ => ⟨_, rfl, rfl⟩⟩
      rw [mvS_1, S.1] at c
      exact absurd c (nI_nlt (by omega) (by omega))
    | succ r ih =>
      intro j hj
      obtain ⟨p1, p2⟩ := hp j (by omega)
      refine wX12_moves_2 ⟨_, m_housesS (σ := mvS σ p j), fun _ => ?_, fun c => ?_⟩
      · have Sj : sok (mvS σ p j) := by unfold sok sN; rw [mvS_1]; exact S
        have eN : sN (mvS σ p j) = sN σ := by unfold sN; rw [mvS_1]
        refine mov_12 (σ := mvS σ p j) Y (j := j) (q := p j) (by omega) (by omega) p1 ?_
        rw [mvP_S Sj (by rw [mvS_1]) (by omega) (by omega)]
        exact ih (j + 1) (by omega)
      · rw [mvS_1, S.1] at c
        exact absurd (nI_lt (by omega) (by omega)) c
  exact con_of km_X12_moves.1.2.2.2.2 (Nat.le_of_ble_eq_true rfl) rfl (wX12_moves_0 (loop (sN σ) 0 (by omega)))
theorem stB_mv (B : stB σ) (hp : ∀ i, i < sN σ → p i < sN σ) : ∀ j, j ≤ sN σ → stB (mvS σ p j) := by
  intro j
  induction j with
  | zero => intro _; exact B
  | succ j ih =>
    intro hj
    have Bj := ih (by omega)
    have S := B.1
    have h7 := S.2
    have eN : sN (mvS σ p j) = sN σ := by unfold sN; rw [mvS_1]
    show stB (sMove (mvS σ p j) σ (nI (p j)) (nI j))
    have hpj := hp j (by omega)
    rw [← mvP_S Bj.1 (by rw [mvS_1]) (by omega) (by omega)]
    refine stB_set (mvP_1 4) Bj (fun x hx => ?_)
    have R := Bj.2.1 x hx
    have R2 := B.2.1 (p j) hpj
    have u : ∀ (r : Nat), r < 4 → (mvP (mvS σ p j) σ (p j) j 4).2 r x = if x = j then σ.2 r (p j) else (mvS σ p j).2 r x := by
      intro r hr
      match r, hr with
      | 0, _ => rfl
      | 1, _ => rfl
      | 2, _ => rfl
      | 3, _ => rfl
    have u4 : (mvP (mvS σ p j) σ (p j) j 4).2 4 x = (mvS σ p j).2 4 x := rfl
    rw [u 0 (by decide), u 1 (by decide), u 2 (by decide), u 3 (by decide), u4]
    by_cases c : x = j
    · rw [if_pos c, if_pos c, if_pos c, if_pos c]
      exact ⟨R2.1, R2.2.1, R2.2.2.1, R2.2.2.2.1, R.2.2.2.2⟩
    · rw [if_neg c, if_neg c, if_neg c, if_neg c]
      exact R
theorem mkl_bit {l : List Nat} {j : Nat} (hj : j < 7) : Nat.testBit (mkl l) j = l.contains j := by
  unfold mkl
  rw [bset_bit, decide_eq_true hj, Bool.true_and]
theorem mkl_add {l : List Nat} {x : Nat} (hx : x < 7) : mkl l ||| 2 ^ x = mkl (l ++ [x]) := by
  apply Nat.eq_of_testBit_eq
  intro j
  rw [Nat.testBit_or, Nat.testBit_two_pow]
  unfold mkl
  rw [bset_bit, bset_bit]
  by_cases hj : j < 7
  · rw [decide_eq_true hj, Bool.true_and, Bool.true_and]
    simp only [List.contains_eq_mem, List.mem_append, List.mem_singleton]
    by_cases c : x = j
    · subst c; simp
    · have : ¬ j = x := fun f => c f.symm
      simp [c, this]
  · have : ¬ x = j := by omega
    simp [hj, this]
theorem gD_at {α : Type} {l : List α} {i : Nat} {x : α} (hi : i < l.length) : l.getD i x = l[i] := by
  rw [List.getD_eq_getElem?_getD, List.getElem?_eq_getElem hi]
  rfl
theorem lAt_l {l : List Nat} {x i : Nat} (hi : i < l.length) : lAt (l ++ [x]) i = lAt l i := by
  unfold lAt
  rw [List.getD_eq_getElem?_getD, List.getD_eq_getElem?_getD, List.getElem?_append_left hi]
theorem lAt_e {l : List Nat} {x : Nat} : lAt (l ++ [x]) l.length = x := by
  unfold lAt
  rw [List.getD_eq_getElem?_getD, List.getElem?_append_right (Nat.le_refl _), Nat.sub_self]
  rfl
theorem gol_74 {hs : jH} {P : jO → jH → Prop} {l : List Nat} {b : Nat → Int32} {N : Nat} (hN : N ≤ 7) (hl : l.length = N) (O : ordA μ l) (next : P (.inl none) (mw h m (mS (mA μ 12 (fun i => if i < N then nI (lAt l i) else b i)) σ))) (eb : μ.2.1 12 = b) : J g mX12_goesOrders (d + 1) hs P 74 [(0, .ref m), (1, .int (nI N)), (5, .int 0)] [] (mw h m (mS μ σ)) := by
  have loop : ∀ r j, j + r = N → J g mX12_goesOrders (d + 1) hs P 74 [(0, .ref m), (1, .int (nI N)), (5, .int (nI j))] [] (mw h m (mS (mA μ 12 (fun i => if i < j then nI (lAt l i) else b i)) σ)) := by
    intro r
    induction r with
    | zero =>
      intro j hj
      have : j = N := by omega
      subst this
      exact wX12_goesOrders_74 ⟨fun c => absurd c (nI_nlt (by omega) (by omega)), fun _ => next⟩
    | succ r ih =>
      intro j hj
      refine wX12_goesOrders_74 ⟨fun _ => ⟨vp_in_nI (by omega) (by decide), vp_in_nI (by omega) (by decide), ?_⟩, fun c => absurd (nI_lt (by omega) (by omega)) c⟩
      have e : upd ((mS (mA μ 12 (fun i => if i < j then nI (lAt l i) else b i)) σ).2.1 12) (ix (nI j)) ((mS (mA μ 12 (fun i => if i < j then nI (lAt l i) else b i)) σ).2.1 11 (ix (nI j))) = fun i => if i < j + 1 then nI (lAt l i) else b i := by
        rw [ix_nI (by omega)]
        funext i
        show upd (fun i => if i < j then nI (lAt l i) else b i) j (μ.2.1 11 j) i = _
        unfold upd
        by_cases c : i = j
        · rw [if_pos c, if_pos (by omega), O j (by omega), c]
        · rw [if_neg c]
          show (if i < j then nI (lAt l i) else b i) = _
          by_cases c2 : i < j
          · rw [if_pos c2, if_pos (by omega)]
          · rw [if_neg c2, if_neg (by omega)]
      rw [e, mS_A (by decide), mA_mA, nI_1]
      exact ih (j + 1) (by omega)
  have z := loop N 0 (by omega)
  have e0 : mA μ 12 (fun i => if i < 0 then nI (lAt l i) else b i) = μ := by
    have e1 : (fun i => if i < 0 then nI (lAt l i) else b i) = μ.2.1 12 := by
      rw [eb]; funext i; exact if_neg (by omega)
    rw [e1]
    unfold mA
    have e2 : (fun i => if i = 12 then μ.2.1 12 else μ.2.1 i) = μ.2.1 := by
      funext i
      by_cases c : i = 12
      · rw [if_pos c, c]
      · rw [if_neg c]
    rw [e2]
  rw [e0] at z
  exact z
/-- a whole order is laid -/
theorem gol_leaf {hs : jH} {l : List Nat} {a : Go} (B : stB σ) (E : encT (kn μ) T) (Y : asd μ σ) (hN : N < 1000000) (hl : l.length = sN σ) (hx : ∀ x, x ∈ l → x < sN σ) (O : ordA μ l) (a0 : goI μ a) : Con g mX12_goesOrders (d + 9) [.ref m, .int (nI (sN σ)), .int k, .int (nI N)] (mw h m (mS μ σ)) (wPv h m (fun ν => ∃ μ', gq μ μ' ∧ ordA μ' l ∧ goI μ' (goF (lostO T σ N) (sN σ) l a) ∧ ν = mS μ' σ)) := by
  have S := B.1
  have h7 := S.2
  have hp : ∀ i, i < sN σ → lAt l i < sN σ := fun i hi => by
    apply hx
    unfold lAt
    rw [gD_at (by omega)]
    exact List.getElem_mem _
  have eN : sN (mvS σ (lAt l) (sN σ)) = sN σ := by unfold sN; rw [mvS_1]
  refine con_of km_X12_goesOrders.1.2.2.2.2 (Nat.le_of_ble_eq_true rfl) rfl (wX12_goesOrders_0 ⟨_, m_housesS (σ := σ), fun _ => ⟨_, m_moves (d := d + 6) (p := lAt l) S Y (fun i hi => ⟨O i (by omega), hp i hi⟩), fun μ1 q => ?_⟩, fun c => absurd S.1.symm c⟩)
  subst q
  refine ⟨_, m_lostFromHere (d := d) (σ := σ) (τ := mvS σ (lAt l) (sN σ)) (T := T) (stB_mv B hp (sN σ) (Nat.le_refl _)) E Y (by rw [mvS_1]) hN, fun r μ2 q => ?_⟩
  obtain ⟨hr, μ3, q1, q2, rfl⟩ := q
  have hr2 : r = lostO T σ N l := hr
  have e30 : (mS μ3 σ).1 30 = a.1 := (q1.1 30 (by decide)).trans a0.1
  have e31 : (mS μ3 σ).1 31 = a.2.1 := (q1.1 31 (by decide)).trans a0.2.1
  have e12 : μ3.2.1 12 = a.2.2 := (q1.2.2 12 (by decide)).trans a0.2.2
  have e11 : μ3.2.1 11 = μ.2.1 11 := q1.2.2 11 (by decide)
  have q3 : gq μ μ3 := q1.up (by decide) (by decide)
  rw [e30, e31]
  have last : ∀ {hs : jH} {v : Int32}, ¬ r < a.1 → v = a.2.1 + (if r = a.1 then 1 else 0) → J g mX12_goesOrders (d + 9) hs (wPv h m (fun ν => ∃ μ', gq μ μ' ∧ ordA μ' l ∧ goI μ' (goF (lostO T σ N) (sN σ) l a) ∧ ν = mS μ' σ)) 52 [(0, .ref m), (1, .int (nI (sN σ))), (4, .int r)] [.int v, .ref m] (mw h m (mS μ3 σ)) := by
    intro hs v hr3 hv
    refine wX12_goesOrders_52 ⟨fun c => ?_, fun _ => ⟨_, ⟨mI μ3 31 v, q3.tr (dif_I (by decide) _), fun i hi => ?_, ?_, rfl⟩, rfl⟩⟩
    · have e : (mI (mS μ3 σ) 31 v).1 30 = a.1 := e30
      rw [e] at c
      exact absurd c hr3
    · show μ3.2.1 11 i = _
      rw [e11]; exact O i hi
    · unfold goF
      rw [← hr2, if_neg hr3]
      exact ⟨e30, (mI_at (μ := μ3) 31 v).trans hv, e12⟩
  refine ⟨fun c => ?_, fun c => ⟨fun c2 => ?_, fun c2 => ?_⟩⟩
  · refine wX12_goesOrders_52 ⟨fun _ => ?_, fun c3 => ?_⟩
    · rw [mS_I, mS_I]
      refine gol_74 (d := d + 8) (μ := mI (mI μ3 31 1) 30 r) (l := l) h7 hl (fun i hi => by show μ3.2.1 11 i = _; rw [e11]; exact O i hi) ⟨_, ⟨_, ((q3.tr (dif_I (by decide) _)).tr (dif_I (by decide) _)).tr (dif_A (by decide) _), fun i hi => ?_, ?_, rfl⟩, rfl⟩ rfl
      · show μ3.2.1 11 i = _
        rw [e11]; exact O i hi
      · unfold goF
        rw [← hr2, if_pos c]
        refine ⟨mI_at (μ := mI μ3 31 1) 30 r, ?_, ?_⟩
        · show (if (31 : Nat) = 30 then r else (mI μ3 31 1).1 31) = 1
          rw [if_neg (by decide)]
          exact mI_at (μ := μ3) 31 1
        · show (fun i => if i < sN σ then nI (lAt l i) else μ3.2.1 12 i) = _
          rw [e12]
    · have e : (mI (mS μ3 σ) 31 1).1 30 = a.1 := e30
      rw [e] at c3
      exact absurd c c3
  · exact wX12_goesOrders_51 (last c (by rw [if_pos c2]))
  · exact wX12_goesOrders_51 (last c (by rw [if_neg c2]))
end MOR
