/-! The debts go on -/
def goTo (T : Td) (σ : St) (i : Nat) : Int32 := nxt T (nI i) (σ.1 0)
def hedgd (T : Td) (σ : St) (i : Nat) : Bool := sHas σ (goTo T σ i) && decide (0 < σ.2 5 (ix (goTo T σ i)))
def lef (T : Td) (σ : St) (i : Nat) : Int32 := if 0 < σ.2 4 i ∧ hedgd T σ i = false ∧ take T σ (nI i) (σ.2 4 i) = true then σ.2 4 i else 0
def cam (T : Td) (σ : St) : Nat → Nat → Int32
  | 0 => fun _ => 0
  | j + 1 => if sHas σ (goTo T σ j) = true then upd (cam T σ j) (ix (goTo T σ j)) (lef T σ j) else cam T σ j
def seaN (T : Td) (σ : St) : Nat → Int32
  | 0 => σ.1 1
  | j + 1 => if sHas σ (goTo T σ j) = true then seaN T σ j else jmin (seaN T σ j + lef T σ j) 999999
def moD (T : Td) (σ : St) (i : Nat) : Int32 := jmin (σ.2 4 i - lef T σ i + cam T σ (sN σ) i) 999999
def mov1 (T : Td) (σ : St) (j : Nat) : St := setI σ 1 (seaN T σ j)
def mov (T : Td) (σ : St) (j : Nat) : St := setR (mov1 T σ (sN σ)) 4 (fst j (moD T σ) (σ.2 4))
theorem take_setI {T : Td} {σ : St} {v i e : Int32} : take T (setI σ 1 v) i e = take T σ i e := rfl
section MOV
variable {g : jG} {d : Nat} {h hs : jH} {s c t : Nat} {σ : St} {κ : Ks} {T : Td}
/-- what the course holds after j houses of the first loop -/
def mK (T : Td) (σ : St) (κ : Ks) (j : Nat) (κ' : Ks) : Prop := κ'.1 = κ.1 ∧ κ'.2.1 0 = cam T σ j ∧ (∀ i, i < j → κ'.2.1 1 i = lef T σ i) ∧ κ'.2.2 = κ.2.2
theorem mK.sim {j : Nat} {κ' κ2 : Ks} (a : mK T σ κ j κ') (b : ksim κ' κ2) : mK T σ κ j κ2 := ⟨b.1.trans a.1, b.2.1.trans a.2.1, fun i hi => (congrFun b.2.2.1 i).trans (a.2.2.1 i hi), b.2.2.2.trans a.2.2.2⟩
theorem move2 (S : sok σ) (hd : apart s 7 c 8) {κ' : Ks} (hk : mK T σ κ (sN σ) κ') : ∀ m j, sN σ = j + m →
    J g mX0_move (d + 1) hs (jPv (fun h' => ∃ κ', kgar (kR κ 0 (cam T σ (sN σ))) κ' ∧ h' = wk h s c (mov T σ (sN σ)) κ') no2) 172 [(0, .ref c), (2, .ref s), (3, .int (nI j))] [] (wk h s c (mov T σ j) κ') := by
  obtain ⟨s1, s2⟩ := S
  have HS := fun (τ : St) (κ : Ks) => wk_S (h := h) (σ := τ) (κ := κ) hd
  intro m
  induction m with
  | zero =>
    intro j hj
    simp only [Nat.add_zero] at hj
    subst hj
    refine bX0_move_172 ⟨_, (HS _ _).1, _, rfl, fun q => ?_, fun _ => ⟨κ', ⟨hk.1, ?_, hk.2.2.2⟩, rfl⟩⟩
    · rw [show (mov T σ (sN σ)).1 0 = nI (sN σ) from s1] at q
      exact absurd q (nI_nlt (Nat.le_refl _) (by omega))
    · rw [hk.2.1]
      rfl
  | succ m ih =>
    intro j hj
    have hix : (nI j).toNatClampNeg = j := nI_clamp (by omega)
    have v1 : vp_in (nI j) 7 := vp_in_nI (by omega) (by decide)
    refine bX0_move_172 ⟨_, (HS _ _).1, _, rfl, fun q => ⟨fun q2 => ?_, fun q2 => absurd (nI_lt (a := j) (b := 7) (by omega) (by decide)) q2⟩, fun q => ?_⟩
    · refine ⟨_, (HS _ _).1, _, rfl, _, (HS _ _).1, _, rfl, _, _, (HS _ _).2.2.2.2.2.1, v1, _, wk_k0, _, rfl, _, _, wk_k (j := 4) (by decide), v1, _, wk_k0, _, rfl, _, _, wk_k (j := 1) (by decide), v1, _, _, (HS _ _).2.2.2.2.2.1, v1, fun h1 q1 => ?_⟩
      replace q1 := q1.trans (wk_setR hd (k := 4) (by decide) _)
      rw [q1, nI_1, hix]
      have es : setR (mov T σ j) 4 (upd ((mov T σ j).2 4) j (jmin ((mov T σ j).2 4 j - κ'.2.1 1 j + κ'.2.1 0 j) 999999)) = mov T σ (j + 1) := by
        refine setR_ext rfl (fun k => ?_)
        by_cases h4 : k = 4
        · subst h4
          show upd (fst j (moD T σ) (σ.2 4)) j _ = fst (j + 1) (moD T σ) (σ.2 4)
          refine fst_upd ?_
          rw [hk.2.1, hk.2.2.1 j (by omega), show (mov T σ j).2 4 j = fst j (moD T σ) (σ.2 4) j from rfl, fst_at]
          rfl
        · simp only [setR, mov, h4, if_false]
      rw [es]
      exact ih (j + 1) (by omega)
    · rw [show (mov T σ j).1 0 = nI (sN σ) from s1] at q
      exact absurd (nI_lt (by omega) (by omega)) q
theorem move1 (S : sok σ) (hd : apart s 7 c 8) (H : TAt h t T) (f1 : TFar t T s 7) (f2 : TFar t T c 8) : ∀ m j κ', sN σ = j + m → mK T σ κ j κ' →
    J g mX0_move (d + 4) hs (jPv (fun h' => ∃ κ', kgar (kR κ 0 (cam T σ (sN σ))) κ' ∧ h' = wk h s c (mov T σ (sN σ)) κ') no2) 10 [(0, .ref c), (1, .ref t), (2, .ref s), (3, .int (nI j))] [] (wk h s c (mov1 T σ j) κ') := by
  have S0 := S
  obtain ⟨s1, s2⟩ := S
  have HS := fun (τ : St) (κ : Ks) => wk_S (h := h) (σ := τ) (κ := κ) hd
  have HT := fun (τ : St) (κ : Ks) => H.wk (σ := τ) (κ := κ) f1 f2
  intro m
  induction m with
  | zero =>
    intro j κ' hj hk
    simp only [Nat.add_zero] at hj
    subst hj
    refine bX0_move_10 ⟨_, (HS _ _).1, _, rfl, fun q => ?_, fun _ => ?_⟩
    · rw [show (mov1 T σ (sN σ)).1 0 = nI (sN σ) from s1] at q
      exact absurd q (nI_nlt (Nat.le_refl _) (by omega))
    · have := move2 (g := g) (d := d + 3) (h := h) (hs := hs) (s := s) (c := c) S0 hd hk (sN σ) 0 (by omega)
      rw [show mov T σ 0 = mov1 T σ (sN σ) from setR_ext rfl (fun k => by
        by_cases h4 : k = 4
        · subst h4
          exact (fst_0 : fst 0 (moD T σ) (σ.2 4) = σ.2 4)
        · simp only [mov, setR, h4, if_false])] at this
      exact this
  | succ m ih =>
    intro j κ' hj hk
    have hix : (nI j).toNatClampNeg = j := nI_clamp (by omega)
    have v1 : vp_in (nI j) 7 := vp_in_nI (by omega) (by decide)
    have S1 : sok (mov1 T σ j) := ⟨s1, s2⟩
    have k118 : ∀ κ', mK T σ κ j κ' → J g mX0_move (d + 4) hs (jPv (fun h' => ∃ κ', kgar (kR κ 0 (cam T σ (sN σ))) κ' ∧ h' = wk h s c (mov T σ (sN σ)) κ') no2) 118 [(0, .ref c), (1, .ref t), (2, .ref s), (3, .int (nI j)), (4, .int (goTo T σ j))] [.int (lef T σ j), .int (nI j), .ref (c + 4)] (wk h s c (mov1 T σ j) κ') := by
      intro κ' hk
      refine bX0_move_118 ⟨_, _, wk_k (j := 4) (by decide), v1, fun h1 q1 => ?_⟩
      replace q1 := q1.trans (wk_left _)
      subst q1
      refine ⟨_, (HS _ _).1, (c_has (HS _ _) S1).pi (fun r h' hr => ?_) (fun E h' f => f.elim)⟩
      obtain ⟨e1, rfl⟩ := hr
      replace e1 : r = bI (sHas σ (goTo T σ j)) := e1
      have hk2 : ∀ i, i < j + 1 → (kR κ' 1 (upd (κ'.2.1 1) (nI j).toNatClampNeg (lef T σ j))).2.1 1 i = lef T σ i := by
        intro i hi
        rw [hix]
        show upd (κ'.2.1 1) j (lef T σ j) i = _
        by_cases hij : i = j
        · subst hij
          simp [upd]
        · simp only [upd, hij, if_false]
          exact hk.2.2.1 i (by omega)
      refine ⟨fun q => ?_, fun q => ?_⟩
      · have b1 := (bI_0 e1).1.mp q
        refine ⟨_, (HS _ _).1, _, rfl, _, wk_k0, _, rfl, _, _, wk_k (j := 4) (by decide), v1, _, (HS _ _).1, Nat.le_of_ble_eq_true rfl, fun h1 q1 => ?_⟩
        replace q1 := q1.trans (wk_setI hd (k := 1) (by decide) _)
        rw [q1, nI_1]
        have es : setI (mov1 T σ j) 1 (jmin ((mov1 T σ j).1 1 + (kR κ' 1 (upd (κ'.2.1 1) (nI j).toNatClampNeg (lef T σ j))).2.1 1 (nI j).toNatClampNeg) 999999) = mov1 T σ (j + 1) := by
          rw [hix]
          have := hk2 j (by omega)
          rw [hix] at this
          rw [this]
          refine Prod.ext (funext fun k => ?_) rfl
          by_cases h1 : k = 1
          · subst h1
            simp [mov1, setI, seaN, b1]
          · simp only [mov1, setI, h1, if_false]
        have := ih (j + 1) (kR κ' 1 (upd (κ'.2.1 1) (nI j).toNatClampNeg (lef T σ j))) (by omega) ⟨hk.1, by simp only [cam, b1, Bool.false_eq_true, if_false]; exact hk.2.1, hk2, hk.2.2.2⟩
        rw [← es] at this
        exact this
      · have b1 := (bI_0 e1).2.mp q
        have v2 := sHas_in S0 b1
        refine ⟨_, wk_k0, _, rfl, _, wk_k0, _, rfl, _, _, wk_k (j := 4) (by decide), v1, _, _, wk_k (j := 1) (by decide), v2, fun h1 q1 => ?_⟩
        replace q1 := q1.trans (wk_came _)
        rw [q1, nI_1]
        have es : mov1 T σ (j + 1) = mov1 T σ j := by simp only [mov1, seaN, b1, if_true]
        have := ih (j + 1) (kR (kR κ' 1 (upd (κ'.2.1 1) (nI j).toNatClampNeg (lef T σ j))) 0 (upd (κ'.2.1 0) (goTo T σ j).toNatClampNeg (lef T σ j))) (by omega) ⟨hk.1, by simp only [cam, b1, if_true]; rw [← hk.2.1]; rfl, hk2, hk.2.2.2⟩
        rw [es] at this
        have e5 := hk2 j (by omega)
        rw [show ((kR κ' 1 (upd (κ'.2.1 1) (nI j).toNatClampNeg (lef T σ j))).2.1 1 (nI j).toNatClampNeg) = lef T σ j from by rw [hix]; rw [hix] at e5; exact e5]
        exact this
    have k96 : ∀ κ' (z : Int32), mK T σ κ j κ' → (z = 0 → lef T σ j = 0) → (¬ z = 0 → lef T σ j = σ.2 4 j) → J g mX0_move (d + 4) hs (jPv (fun h' => ∃ κ', kgar (kR κ 0 (cam T σ (sN σ))) κ' ∧ h' = wk h s c (mov T σ (sN σ)) κ') no2) 96 [(0, .ref c), (1, .ref t), (2, .ref s), (3, .int (nI j)), (4, .int (goTo T σ j))] [.int z] (wk h s c (mov1 T σ j) κ') := by
      intro κ' z hk h0 h1
      refine bX0_move_96 ⟨_, wk_k0, _, rfl, fun q => ?_, fun q => ⟨_, (HS _ _).1, _, rfl, _, _, (HS _ _).2.2.2.2.2.1, v1, ?_⟩⟩
      · have := k118 κ' hk
        rw [h0 q] at this
        exact this
      · have := k118 κ' hk
        rw [h1 q] at this
        rw [hix]
        exact this
    have k95 : ∀ κ', mK T σ κ j κ' → lef T σ j = 0 → J g mX0_move (d + 4) hs (jPv (fun h' => ∃ κ', kgar (kR κ 0 (cam T σ (sN σ))) κ' ∧ h' = wk h s c (mov T σ (sN σ)) κ') no2) 95 [(0, .ref c), (1, .ref t), (2, .ref s), (3, .int (nI j)), (4, .int (goTo T σ j))] [] (wk h s c (mov1 T σ j) κ') :=
      fun κ' hk h0 => bX0_move_95 (k96 κ' 0 hk (fun _ => h0) (fun q => absurd rfl q))
    have k59 : ∀ κ' (z : Int32), mK T σ κ j κ' → z = bI (hedgd T σ j) → J g mX0_move (d + 4) hs (jPv (fun h' => ∃ κ', kgar (kR κ 0 (cam T σ (sN σ))) κ' ∧ h' = wk h s c (mov T σ (sN σ)) κ') no2) 59 [(0, .ref c), (1, .ref t), (2, .ref s), (3, .int (nI j)), (4, .int (goTo T σ j))] [.int z] (wk h s c (mov1 T σ j) κ') := by
      intro κ' z hk hz
      refine bX0_move_59 ⟨_, (HS _ _).1, _, rfl, _, _, (HS _ _).2.2.2.2.2.1, v1, fun q => ⟨fun q2 => ⟨_, (HS _ _).1, _, rfl, _, _, (HS _ _).2.2.2.2.2.1, v1, _, wk_k0, (c_taking S1 hd H f1 f2).pi (fun r h' hr => ?_) (fun E h' f => f.elim)⟩, fun q2 => ?_⟩, fun q => ?_⟩
      · obtain ⟨e1, κ2, e2, rfl⟩ := hr
        rw [hix] at e1 q
        replace e1 : r = bI (take T σ (nI j) (σ.2 4 j)) := e1
        have b0 := (bI_0 hz).1.mp q2
        refine ⟨fun q3 => k95 _ (hk.sim e2) ?_, fun q3 => k96 _ 1 (hk.sim e2) (fun q => absurd q (by decide)) (fun _ => ?_)⟩
        · simp [lef, (bI_0 e1).1.mp q3]
        · simp only [lef, (bI_0 e1).2.mp q3, b0, and_self, and_true]
          exact if_pos q
      · have b0 := (bI_0 hz).2.mp q2
        exact k95 _ hk (by simp [lef, b0])
      · rw [hix] at q
        exact k95 _ hk (by simp only [lef]; exact if_neg (fun e => q e.1))
    refine bX0_move_10 ⟨_, (HS _ _).1, _, rfl, fun q => ⟨fun q2 => ⟨_, (HS _ _).1, _, rfl, _, (HT _ _).1, (c_next (HT _ _)).pi (fun r h' hr => ?_) (fun E h' f => f.elim)⟩, fun q2 => absurd (nI_lt (a := j) (b := 7) (by omega) (by decide)) q2⟩, fun q => ?_⟩
    · obtain ⟨e1, rfl⟩ := hr
      replace e1 : r = goTo T σ j := e1
      subst e1
      refine ⟨_, (HS _ _).1, (c_has (HS _ _) S1).pi (fun r h' hr => ?_) (fun E h' f => f.elim)⟩
      obtain ⟨e1, rfl⟩ := hr
      replace e1 : r = bI (sHas σ (goTo T σ j)) := e1
      refine ⟨fun q => bX0_move_58 (k59 κ' 0 hk ?_), fun q => ⟨_, (HS _ _).1, _, rfl, _, _, (HS _ _).2.2.2.2.2.2, sHas_in S0 ((bI_0 e1).2.mp q), fun q3 => k59 κ' 1 hk ?_, fun q3 => bX0_move_58 (k59 κ' 0 hk ?_)⟩⟩
      · simp [hedgd, (bI_0 e1).1.mp q, bI]
      · replace q3 : 0 < σ.2 5 (ix (goTo T σ j)) := q3
        simp [hedgd, (bI_0 e1).2.mp q, q3, bI]
      · replace q3 : ¬ 0 < σ.2 5 (ix (goTo T σ j)) := q3
        simp [hedgd, q3, bI]
    · rw [show (mov1 T σ j).1 0 = nI (sN σ) from s1] at q
      exact absurd (nI_lt (by omega) (by omega)) q
theorem c_move (S : sok σ) (hd : apart s 7 c 8) (H : TAt h t T) (f1 : TFar t T s 7) (f2 : TFar t T c 8) : Con g mX0_move (d + 4) [.ref c, .ref t, .ref s] (wk h s c σ κ) (jPv (fun h' => ∃ κ', kgar (kR κ 0 (cam T σ (sN σ))) κ' ∧ h' = wk h s c (mov T σ (sN σ)) κ') no2) := by
  refine con_of km_X0_move.1.2.2.2.2 (Nat.le_of_ble_eq_true rfl) rfl (bX0_move_0 ⟨_, wk_k0, _, rfl, (c_fill (wk_k (j := 1) (by decide)) (by decide)).pv (fun h' q => ?_) (fun E h' f => f.elim)⟩)
  replace q := q.trans (wk_came _)
  have := move1 (g := g) (d := d) (hs := wk h s c σ κ) (κ := κ) S hd H f1 f2 (sN σ) 0 (kR κ 0 (fun _ => 0)) (by omega) ⟨rfl, rfl, fun i hi => absurd hi (by omega), rfl⟩
  rw [show mov1 T σ 0 = σ from Prod.ext (funext fun k => by
    by_cases h1 : k = 1
    · subst h1
      rfl
    · simp only [mov1, setI, h1, if_false]) rfl] at this
  rw [q]
  exact this
end MOV
