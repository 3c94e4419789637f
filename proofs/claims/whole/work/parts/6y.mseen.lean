/-! The reference: hidden debts -/
/-- the told street is kept -/
def encB (K : Nat → Int32) (β : St) : Prop := ∀ i, i < 44 → K (52 + i) = s44 β i
def hSeenE (Y : Nat → Ty) (σ : St) (i k : Int32) : Option String := if trOk i = false then some nse else if sHas σ k = false then some nse else if (Y (ix i)).2.1 = -1 then some ise else if (Y (ix i)).1 < 1 ∨ 12 < (Y (ix i)).1 then some iae else if badL (Y (ix i)).2.2 (ix (Y (ix i)).1) 0 = true then some iae else none
def codO (xs : List String) : Option String → Int32
  | some E => codE xs E 1
  | none => 0
/-- what was found up to n -/
def fitsA (T : Td) (β : St) (f : Nat → Int64) (x M n : Nat) (μ : MW) : Prop := μ.1 32 = nI (hidN T β f x M n) ∧ ∀ δ : Ds, ∀ i, i < hidN T β f x M n → μ.2.1 13 i = (hidD T β f x M δ n).2.1 i ∧ ∀ j, j < sN β → μ.2.1 14 (7 * i + j) = (hidD T β f x M δ n).2.2 j i
def hSeen (T : Td) (β σ : St) (Y : Nat → Ty) (i k : Int32) : An Int32 := match hSeenE Y σ i k with
  | some E => .inl E
  | none => .inr (nI (hidN T β (Y (ix i)).2.2 (ix k) (ix (Y (ix i)).1) (99 * sN σ)))
def hHidden (T : Td) (β σ : St) (Y : Nat → Ty) (δ : Ds) (i k n : Int32) : An Int32 := match hSeenE Y σ i k with
  | some E => .inl E
  | none => if n < 0 then .inl iae else .inr (if n < nI (hidN T β (Y (ix i)).2.2 (ix k) (ix (Y (ix i)).1) (99 * sN σ)) then (hidD T β (Y (ix i)).2.2 (ix k) (ix (Y (ix i)).1) δ (99 * sN σ)).2.1 (ix n) else -1)
def tmM (G : Nat → Nat → Int32) (F : Nat) : Nat → Int32 × Int32
  | 0 => (-1, 536870912)
  | j + 1 => if nI (mxc (G j) F F) < (tmM G F j).2 then (nI j, nI (mxc (G j) F F)) else tmM G F j
def hLook (T : Td) (β σ : St) (Y : Nat → Ty) (δ : Ds) (i k : Int32) : An Int32 := match hSeenE Y σ i k with
  | some E => .inl E
  | none => .inr (if hidN T β (Y (ix i)).2.2 (ix k) (ix (Y (ix i)).1) (99 * sN σ) = 0 then -1 else (tmM (hidD T β (Y (ix i)).2.2 (ix k) (ix (Y (ix i)).1) δ (99 * sN σ)).2.2 (hidN T β (Y (ix i)).2.2 (ix k) (ix (Y (ix i)).1) (99 * sN σ)) (sN σ)).1)
section MSE
variable {g : jG} {d : Nat} {h : jH} {m : Nat} {μ ν : MW} {i k n w : Int32} {T : Td} {σ τ β : St} {I A : List Nat} {N : Nat} {v : Int64} {Y : Nat → Ty} {K : Nat → Int32} {f : Nat → Int64} {δ : Ds}
theorem dGs_2 {F : Nat} {came : Nat → Int32} : ∀ j, (dGs δ F came j).2.1 = δ.2.1
  | 0 => rfl
  | j + 1 => dGs_2 j
theorem dGs_3 {F q : Nat} {came : Nat → Int32} : ∀ j, (dGs δ F came j).2.2 q = if q < j then upd (δ.2.2 q) F (came q) else δ.2.2 q
  | 0 => by rw [if_neg (Nat.not_lt_zero q)]; rfl
  | j + 1 => by
    show (if q = j then upd ((dGs δ F came j).2.2 j) F (came j) else (dGs δ F came j).2.2 q) = _
    by_cases c : q = j
    · subst c
      rw [if_pos rfl, if_pos (by omega), dGs_3 q, if_neg (by omega)]
    · rw [if_neg c, dGs_3 j]
      by_cases c2 : q < j
      · rw [if_pos c2, if_pos (by omega)]
      · rw [if_neg c2, if_neg (by omega)]
/-! the fault -/
theorem bad_step {c j : Nat} : badL f (c + 1) j = if inL (f j) (-1) 999999 = false then true else badL f c (j + 1) := by
  show (if f j < -1 ∨ 999999 < f j then true else badL f c (j + 1)) = _
  have e : inL (f j) (-1) 999999 = false ↔ (f j < -1 ∨ 999999 < f j) := by
    unfold inL
    rw [decide_eq_false_iff_not]
    constructor
    · intro c
      by_cases q : f j < -1
      · exact Or.inl q
      · refine Or.inr ?_
        by_cases q2 : 999999 < f j
        · exact q2
        · exact absurd ⟨q, q2⟩ c
    · intro c q
      exact c.elim q.1 q.2
  by_cases q : f j < -1 ∨ 999999 < f j
  · rw [if_pos q, if_pos (e.mpr q)]
  · rw [if_neg q, if_neg (fun c => q (e.mp c))]
theorem m_seenFault (y : tysAt μ Y) (Z : tysOk Y) (S : sok σ) : Con g mX12_seenFault (d + 4) [.ref m, .int i, .int k] (mw h m (mS μ σ)) (wv h m (mS μ σ) (codO [nse, ise, iae] (hSeenE Y σ i k))) := by
  unfold hSeenE
  refine con_of km_X12_seenFault.1.2.2.2.2 (Nat.le_of_ble_eq_true rfl) rfl (wX12_seenFault_0 ⟨_, m_isTray (d := d + 1), fun c => ?_, fun c => ⟨_, m_isHouse (d := d + 1) (σ := σ), fun c2 => ?_, fun c2 => ?_⟩⟩)
  · rw [if_pos (bI0 c)]
    exact ⟨cod_i.symm, rfl⟩
  · rw [if_neg (by rw [bI1 c]; decide), if_pos (has0 S c2)]
    exact ⟨cod_i.symm, rfl⟩
  · have q1 := bI1 c
    obtain ⟨t1, t2⟩ := trOk_n q1
    obtain ⟨M, hM, eM⟩ := Z (ix i) t2
    obtain ⟨y1, y2⟩ := ty_many (y.s (σ := σ)) q1
    have e15 : (mS μ σ).2.1 15 (ix i) = (Y (ix i)).2.1 := (y (ix i) t2).1.1
    rw [if_neg (by rw [q1]; decide), if_neg (by rw [has1 S c2]; decide), e15, y2]
    refine ⟨y1, fun c3 => ?_, fun c3 => ⟨y1, _, m_within (d := d + 2), ?_⟩⟩
    · rw [if_pos c3]
      exact ⟨((cod_n (fun f => ne_nis f.symm)).trans cod_i).symm, rfl⟩
    · rw [if_neg c3]
      have last : ∀ {hs} {b : Bool} {R : Int32}, R = (if b = true then 0 else 3) → J g mX12_seenFault (d + 4) hs (wv h m (mS μ σ) R) 91 [(3, .int (bI b))] [] (mw h m (mS μ σ)) := by
        intro hs b R hR
        refine wX12_seenFault_91 ⟨fun c => ⟨?_, rfl⟩, fun c => ⟨?_, rfl⟩⟩
        · rw [hR, bI0 c]; rfl
        · rw [hR, bI1 c]; rfl
      have loop : ∀ r j b R, j + r = M → R = (if b = true ∧ badL (Y (ix i)).2.2 r j = false then 0 else 3) → J g mX12_seenFault (d + 4) (mw h m (mS μ σ)) (wv h m (mS μ σ) R) 48 [(0, .ref m), (1, .int i), (3, .int (bI b)), (4, .int (nI j))] [] (mw h m (mS μ σ)) := by
        intro r
        induction r with
        | zero =>
          intro j b R hj hR
          refine wX12_seenFault_48 ⟨y1, fun q => ?_, fun _ => last ?_⟩
          · rw [y2, eM] at q
            exact absurd q (nI_nlt (by omega) (by omega))
          · rw [hR]
            cases b <;> rfl
        | succ r ih =>
          intro j b R hj hR
          obtain ⟨z1, z2⟩ := ty_at (y.s (σ := σ)) q1 j (by omega)
          refine wX12_seenFault_48 ⟨y1, fun _ => ⟨fun q => last ?_, fun q => ⟨z1, _, m_within (d := d + 2), ?_⟩⟩, fun q => ?_⟩
          · rw [hR, bI0 q]; rfl
          · rw [z2, nI_1]
            refine ih (j + 1) _ R (by omega) ?_
            rw [hR, bI1 q, bad_step]
            cases inL ((Y (ix i)).2.2 j) (-1) 999999 <;> simp
          · rw [y2, eM] at q
            exact absurd (nI_lt (by omega) (by omega)) q
      have e1 : inL (Y (ix i)).1.toInt64 1 12 = inN (Y (ix i)).1 1 12 := inL_n (a := 1) (b := 12) rfl rfl
      have L := loop M 0 (inL (Y (ix i)).1.toInt64 1 12) _ (by omega) rfl
      have eV : codO [nse, ise, iae] (if (Y (ix i)).1 < 1 ∨ 12 < (Y (ix i)).1 then some iae else if badL (Y (ix i)).2.2 (ix (Y (ix i)).1) 0 = true then some iae else none) = if inL (Y (ix i)).1.toInt64 1 12 = true ∧ badL (Y (ix i)).2.2 M 0 = false then 0 else 3 := by
        rw [e1, show ix (Y (ix i)).1 = M by rw [eM]; exact ix_nI (by omega)]
        by_cases q : (Y (ix i)).1 < 1 ∨ 12 < (Y (ix i)).1
        · rw [if_pos q, if_neg (fun f => by rw [(inN_f 1 12).mpr q] at f; exact absurd f.1 (by decide))]
          exact cod_3
        · rw [if_neg q]
          have q2 : inN (Y (ix i)).1 1 12 = true := by
            cases hh : inN (Y (ix i)).1 1 12 with
            | true => rfl
            | false => exact absurd ((inN_f 1 12).mp hh) q
          by_cases q3 : badL (Y (ix i)).2.2 M 0 = true
          · rw [if_pos q3, if_neg (fun f => by rw [q3] at f; exact absurd f.2 (by decide))]
            exact cod_3
          · have q4 : badL (Y (ix i)).2.2 M 0 = false := by
              cases hh : badL (Y (ix i)).2.2 M 0 with
              | false => rfl
              | true => exact absurd hh q3
            rw [if_neg q3, if_pos ⟨q2, q4⟩]
            rfl
      rw [eV]
      exact L
theorem hSeen_n (c : hSeenE Y σ i k = none) : trOk i = true ∧ sHas σ k = true := by
  unfold hSeenE at c
  by_cases c1 : trOk i = false
  · rw [if_pos c1] at c; cases c
  · rw [if_neg c1] at c
    by_cases c2 : sHas σ k = false
    · rw [if_pos c2] at c; cases c
    · refine ⟨?_, ?_⟩
      · cases hh : trOk i with
        | true => rfl
        | false => exact absurd hh c1
      · cases hh : sHas σ k with
        | true => rfl
        | false => exact absurd hh c2
theorem seen_pos {E : String} (c : hSeenE Y σ i k = some E) : codO [nse, ise, iae] (hSeenE Y σ i k) = codE [nse, ise, iae] E 1 ∧ 0 < codO [nse, ise, iae] (hSeenE Y σ i k) := by
  rw [c]
  refine ⟨rfl, ?_⟩
  have hE : E = nse ∨ E = ise ∨ E = iae := by
    unfold hSeenE at c
    by_cases c1 : trOk i = false
    · rw [if_pos c1] at c; cases c; exact Or.inl rfl
    · rw [if_neg c1] at c
      by_cases c2 : sHas σ k = false
      · rw [if_pos c2] at c; cases c; exact Or.inl rfl
      · rw [if_neg c2] at c
        by_cases c3 : (Y (ix i)).2.1 = -1
        · rw [if_pos c3] at c; cases c; exact Or.inr (Or.inl rfl)
        · rw [if_neg c3] at c
          by_cases c4 : (Y (ix i)).1 < 1 ∨ 12 < (Y (ix i)).1
          · rw [if_pos c4] at c; cases c; exact Or.inr (Or.inr rfl)
          · rw [if_neg c4] at c
            by_cases c5 : badL (Y (ix i)).2.2 (ix (Y (ix i)).1) 0 = true
            · rw [if_pos c5] at c; cases c; exact Or.inr (Or.inr rfl)
            · rw [if_neg c5] at c; cases c
  show 0 < codE [nse, ise, iae] E 1
  rcases hE with rfl | rfl | rfl
  · rw [cod_i]; decide
  · rw [cod_n (fun f => ne_nis f.symm), cod_i]; decide
  · rw [cod_3]; decide
/-! the told street with a hidden debt -/
theorem t99 : ∀ n, n < 693 → nI n / 99 = nI (n / 99) ∧ nI n - nI n / 99 * 99 = nI (n % 99) := by decide +kernel
theorem t99n : ∀ n, n < 8 → nI n * 99 = nI (99 * n) := by decide
theorem t99v : ∀ n, n < 693 → (100 : Int32) * (nI n / 99) + (nI n - nI n / 99 * 99) + 1 = nI (100 * (n / 99) + (n % 99 + 1)) := by decide +kernel
theorem lay_25 {hs : jH} {P : jO → jH → Prop} {i x two : Int32} (b : encB (kn μ) β) (eb : β.1 0 = σ.1 0) {q : Nat} (hq : q < 7) (eq : two / 99 = nI q) (next : J g mX12_laysFits (d + 1) hs P 85 [(0, .ref m), (1, .int i), (2, .int x), (3, .int two), (4, .int 1), (5, .int 0)] [] (mw h m (mS μ (setR β 4 (upd (β.2 4) q (β.2 4 q + ((two - two / 99 * 99) + 1))))))) : J g mX12_laysFits (d + 1) hs P 25 [(0, .ref m), (1, .int i), (2, .int x), (3, .int two), (4, .int 0)] [] (mw h m (mS μ σ)) := by
  have loop : ∀ r j G, j + r = 44 → (∀ y, G y = if 8 ≤ y ∧ y < 8 + j then kn μ (52 + (y - 8)) else kS (kn μ) σ y) → J g mX12_laysFits (d + 1) hs P 25 [(0, .ref m), (1, .int i), (2, .int x), (3, .int two), (4, .int (nI j))] [] (mw h m (mA μ 1 G)) := by
    intro r
    induction r with
    | zero =>
      intro j G hj hG
      have : j = 44 := by omega
      subst this
      have eG : G = kS (kn μ) β := by
        funext y
        rw [hG]
        by_cases c : 8 ≤ y ∧ y < 8 + 44
        · rw [if_pos c, b _ (by omega), show y = 8 + (y - 8) by omega, kS_44 (by omega), show 8 + (y - 8) - 8 = y - 8 by omega]
        · rw [if_neg c]
          by_cases c1 : y = 1
          · rw [c1]; exact eb.symm
          · rw [kS_ot (τ := σ) (by omega), kS_ot (τ := β) (by omega)]
      rw [eG]
      refine wX12_laysFits_25 ⟨fun c => absurd c (nI_nlt (a := 44) (b := 44) (by omega) (by omega)), fun _ => ?_⟩
      show _ ∧ _ ∧ J g mX12_laysFits (d + 1) hs P 85 _ [] (mw h m (mA (mS μ β) 1 (upd (kn (mS μ β)) _ (kn (mS μ β) _ + _))))
      rw [eq]
      refine ⟨kin (b := 36) (by omega), kin (b := 36) (by omega), ?_⟩
      rw [show kn (mS μ β) (ix ((36 : Int32) + nI q)) = β.2 4 q by rw [show ix ((36 : Int32) + nI q) = 36 + q from kx (b := 36) (by omega)]; exact kj (b := 36) (r := 4) rfl (by decide) hq]
      rw [mS_set (b := 36) (r := 4) (j := q) (v := β.2 4 q + ((two - nI q * 99) + 1)) (f := upd (kn (mS μ β)) (ix (36 + nI q)) (β.2 4 q + ((two - nI q * 99) + 1))) rfl (by decide) hq (by omega) rfl]
      rw [eq] at next
      exact next
    | succ r ih =>
      intro j G hj hG
      refine wX12_laysFits_25 ⟨fun _ => ⟨kin (b := 52) (by omega), kin (b := 8) (by omega), ?_⟩, fun c => absurd (nI_lt (b := 44) (by omega) (by omega)) c⟩
      rw [mA_mA, show ix ((52 : Int32) + nI j) = 52 + j from kx (b := 52) (by omega), show ix ((8 : Int32) + nI j) = 8 + j from kx (b := 8) (by omega), nI_1]
      refine ih (j + 1) _ (by omega) (fun y => ?_)
      show upd G (8 + j) (G (52 + j)) y = _
      unfold upd
      by_cases hy : y = 8 + j
      · rw [if_pos hy, if_pos (by omega), hG, if_neg (by omega), kS_ot (by omega), hy, Nat.add_sub_cancel_left]
      · rw [if_neg hy, hG]
        by_cases hc : 8 ≤ y ∧ y < 8 + j
        · rw [if_pos hc, if_pos (by omega)]
        · rw [if_neg hc, if_neg (by omega)]
  exact loop 44 0 _ rfl (fun y => by rw [if_neg (by omega)])
/-- debts as a text tells them -/
def dB (β : St) : Prop := stB β ∧ ∀ i, i < sN β → (β.2 4 i).toInt ≤ 999
theorem stB_hid {two : Nat} (B : dB β) (h : two < 99 * sN β) : stB (hid β two) := by
  obtain ⟨B, D⟩ := B
  refine stB_set (σ := β) rfl B (fun x hx => ?_)
  have R := B.2.1 x hx
  refine ⟨R.1, R.2.1, R.2.2.1, R.2.2.2.1, ?_⟩
  show rng (upd (β.2 4) (two / 99) (β.2 4 (two / 99) + (nI (two % 99) + 1)) x)
  unfold upd
  by_cases c : x = two / 99
  · rw [if_pos c, ← c]
    have := D x hx
    have R5 := R.2.2.2.2
    unfold rng at R5 ⊢
    have e1 : (nI (two % 99) + 1).toInt = (two % 99 : Nat) + 1 := by
      rw [nI_1, nI_toInt (by omega)]; omega
    rw [tI_add (by rw [e1]; omega), e1]
    omega
  · rw [if_neg c]
    exact R.2.2.2.2
end MSE
