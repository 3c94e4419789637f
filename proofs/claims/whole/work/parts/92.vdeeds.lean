/-! What is not a street's stays 0; deeds agree -/
section VDE
variable {g : jG} {d : Nat} {h : jH} {m : Nat} {μ ν : MW} {ω ω' : CW} {i k n w : Int32} {α : Type} {xs : List String} {X : jM} {args : List Value} {dd : Nat} {σ τ : St} {T : Td} {ξ ζ : Hs} {τ' : To}
theorem can_setR {f : Nat → Int32} {r : Nat} (c : can σ) (hr : r < 6) (hf : ∀ j, 7 ≤ j → f j = 0) : can (setR σ r f) := by
  refine ⟨c.1, fun k j hj => ?_, fun k j hk => ?_⟩
  · show (if k = r then f else σ.2 k) j = 0
    split
    · exact hf j hj
    · exact c.2.1 k j hj
  · show (if k = r then f else σ.2 k) j = 0
    rw [if_neg (by omega)]
    exact c.2.2 k j hk
theorem can_setI {r : Nat} {v : Int32} (c : can σ) (hr : r < 3) : can (setI σ r v) := by
  refine ⟨fun k hk => ?_, c.2⟩
  show (if k = r then v else σ.1 k) = 0
  rw [if_neg (by omega)]
  exact c.1 k hk
theorem upd_0 {f : Nat → Int32} {a : Nat} {v : Int32} (ha : a < 7) (hf : ∀ j, 7 ≤ j → f j = 0) : ∀ j, 7 ≤ j → upd f a v j = 0 := by
  intro j hj
  unfold upd
  rw [if_neg (by omega)]
  exact hf j hj
theorem swp_z {f : Nat → Int32} {a b : Nat} (ha : a < 7) (hb : b < 7) (hf : ∀ j, 7 ≤ j → f j = 0) : ∀ j, 7 ≤ j → swp f a b j = 0 := upd_0 hb (upd_0 ha hf)
theorem fst_z {a : Nat} {f f' : Nat → Int32} (ha : a ≤ 7) (hf : ∀ j, 7 ≤ j → f' j = 0) : ∀ j, 7 ≤ j → fst a f f' j = 0 := by
  intro j hj
  unfold fst
  rw [if_neg (by omega)]
  exact hf j hj
theorem can_exch (S : sok σ) (c : can σ) : can (sExch σ i k) := by
  unfold sExch
  split
  · rename_i q
    obtain ⟨i1, -, h7⟩ := sHas_ix S q.1
    obtain ⟨k1, -, -⟩ := sHas_ix S q.2
    have z : ∀ r, ∀ j, 7 ≤ j → swp (σ.2 r) (ix i) (ix k) j = 0 := fun r => swp_z (by omega) (by omega) (c.2.1 r)
    exact can_setR (can_setR (can_setR (can_setR c (by decide) (z 0)) (by decide) (z 1)) (by decide) (z 2)) (by decide) (z 3)
  · exact c
theorem can_give (S : sok σ) (c : can σ) : can (sGive σ i k n) := by
  unfold sGive
  split
  · rename_i q
    obtain ⟨i1, -, h7⟩ := sHas_ix S q.1
    obtain ⟨k1, -, -⟩ := sHas_ix S q.2
    exact can_setR c (by decide) (upd_0 (by omega) (upd_0 (by omega) (c.2.1 2)))
  · exact c
theorem can_pay (S : sok σ) (c : can σ) : can (sPay σ i n) := by
  unfold sPay
  split
  · rename_i q
    obtain ⟨i1, -, h7⟩ := sHas_ix S q
    exact can_setR (can_setR c (by decide) (upd_0 (by omega) (c.2.1 2))) (by decide) (upd_0 (by omega) (c.2.1 4))
  · exact c
theorem can_hedge (S : sok σ) (hi : sHas σ i = true) (c : can σ) : can (setR σ 5 (upd (σ.2 5) (ix i) n)) := by
  obtain ⟨i1, -, h7⟩ := sHas_ix S hi
  exact can_setR c (by decide) (upd_0 (by omega) (c.2.1 5))
theorem can_ruin (S : sok σ) (c : can σ) : can (sRuin σ i) := by
  unfold sRuin
  split
  · rename_i q
    obtain ⟨i1, -, h7⟩ := sHas_ix S q
    exact can_setR (can_setR c (by decide) (upd_0 (by omega) (c.2.1 3))) (by decide) (upd_0 (by omega) (c.2.1 2))
  · exact c
theorem can_stl {j : Nat} (hj : j ≤ 7) (c : can σ) : can (stl T σ j) := can_setR (can_setR c (by decide) (fst_z hj (c.2.1 2))) (by decide) (fst_z hj (c.2.1 4))
theorem can_grw {j : Nat} (hj : j ≤ 7) (c : can σ) : can (grw T σ j) := can_setR c (by decide) (fst_z hj (c.2.1 4))
theorem can_mov {j : Nat} (hj : j ≤ 7) (c : can σ) : can (mov T σ j) := can_setR (can_setI c (by decide)) (by decide) (fst_z hj (c.2.1 4))
theorem can_rui {j : Nat} (hj : j ≤ 7) (c : can σ) : can (rui n σ j) := can_setR (can_setR (can_setR c (by decide) (fst_z hj (c.2.1 3))) (by decide) (fst_z hj (c.2.1 2))) (by decide) (fst_z hj (c.2.1 5))
theorem can_pas (S : sok σ) (c : can σ) : can (pas T n σ) := can_setI (can_rui S.2 (can_mov S.2 (can_grw S.2 (can_stl S.2 c)))) (by decide)
theorem can_pasN {n : Int32} (S : sok σ) (c : can σ) : ∀ j, can (pasN T n σ j) ∧ sok (pasN T n σ j)
  | 0 => ⟨c, S⟩
  | j + 1 => by
    obtain ⟨a, b⟩ := can_pasN S c j
    exact ⟨can_pas b a, sok_0 pas_1 b⟩
theorem can_carF {v : Int64} (S : sok σ) (c : can σ) : can (carF T n σ v) := by
  unfold carF
  split
  · exact can_pas S c
  · split
    · exact can_exch S c
    · split
      · rename_i q
        exact can_hedge S q.2 c
      · split
        · exact can_pay S c
        · exact can_give S c
theorem can_push (O : hok ξ) (H : ∀ j, j < hN ξ → can (hv ξ j)) (c : can σ) : ∀ j, j < hN (hpush ξ σ) → can (hv (hpush ξ σ) j) := by
  intro j hj
  rw [hpush_v O σ hj]
  rw [hpush_N O σ] at hj
  have := O.2.1
  by_cases c1 : hN ξ < 10
  · rw [if_pos c1] at hj ⊢
    by_cases c2 : j = hN ξ
    · rw [if_pos c2]; exact c
    · rw [if_neg c2]; exact H j (by omega)
  · rw [if_neg c1] at hj ⊢
    by_cases c2 : j = 9
    · rw [if_pos c2]; exact c
    · rw [if_neg c2]; exact H (j + 1) (by omega)
theorem stI_push {σ' : St} (x : stI τ' σ ξ) (B : stB σ') (c : can σ') (e : σ'.1 0 = σ.1 0) : stI τ' σ' (hpush ξ σ) :=
  ⟨⟨⟨B, c⟩, x.1.2.1, x.1.2.2.trans e.symm⟩, hpush_ok x.2.1 σ, hB_push x.2.1 x.2.2.1 x.1.1.1 e, can_push x.2.1 x.2.2.2 x.1.1.2⟩
theorem Rel.dp {P : Int32 → MW → Prop} {A : An Int32} (x : Rel ω μ) (C : Con g X dd args (mw h m (mS μ (wS ω))) (wPi h m P)) (hh : ∀ r ν, P r ν → agA xs A ω' r ν) : Con g X dd args (mw h m μ) (wPi h m (agA xs A ω')) := by
  rw [x.self] at C
  exact C.pi (fun r h' q => by
    obtain ⟨ν, q1, q2⟩ := q
    exact ⟨ν, hh r ν q1, q2⟩) (fun E h' f => f)
theorem Rel.push {A : An Int32} {r : Int32} {σ' : St} (x : Rel ω μ) (B : stB σ') (c : can σ') (e : σ'.1 0 = (wS ω).1 0) (q : mDeed (hN (wH ω)) μ (wS ω) σ' xs A r ν) : agA xs A (pS (wPush ω) σ') r ν :=
  x.res (stI_push x.1.2 B c e) (q.r x.1.2.2.1 x.1.1.2.2)
theorem Rel.e7 (x : Rel ω μ) : kn μ 7 = nI (hN (wH ω)) := x.1.1.2.2.1.trans x.1.2.2.1.1
theorem v_swap (x : Rel ω μ) : Con g mX12_swap (d + 40) [.ref m, .int i, .int k] (mw h m μ) (wPi h m (agA [] (fSwap ω i k).1 (fSwap ω i k).2)) := by
  have B : stB (wS ω) := x.1.2.1.1.1
  refine x.dp (m_swap (d := d + 35) (μ := μ) (σ := wS ω) (i := i) (k := k) (N := hN (wH ω)) B x.1.2.2.1.2.1 x.e7) (fun r ν q => ?_)
  unfold fSwap
  rcases q with ⟨c, q⟩ | ⟨c, q⟩
  · rw [if_pos c]
    exact x.push (stB_exch B) (can_exch B.1 x.1.2.1.1.2) (by rw [sExch_1]) q
  · rw [if_neg c]
    exact x.ans q
theorem v_gift (x : Rel ω μ) : Con g mX12_gift (d + 40) [.ref m, .int i, .int k, .int n] (mw h m μ) (wPi h m (agA [] (fGift ω i k n).1 (fGift ω i k n).2)) := by
  have B : stB (wS ω) := x.1.2.1.1.1
  refine x.dp (m_gift (d := d + 35) (μ := μ) (σ := wS ω) (i := i) (k := k) (n := n) (N := hN (wH ω)) B x.1.2.2.1.2.1 x.e7) (fun r ν q => ?_)
  unfold fGift
  rcases q with ⟨c, q⟩ | ⟨c, q⟩
  · rw [if_neg c.1, if_pos c.2]
    have c1 : ¬ n.toInt < 1 ∧ ¬ 999 < n.toInt := ⟨fun z => c.1 (Or.inl (Int32.lt_iff_toInt_lt.mpr z)), fun z => c.1 (Or.inr (Int32.lt_iff_toInt_lt.mpr z))⟩
    obtain ⟨hi, hk, -⟩ := gif_0 c.2
    exact x.push (stB_give B hi hk (by omega) (by omega) (gif_1 c.2)) (can_give B.1 x.1.2.1.1.2) (by rw [sGive_1]) q
  · by_cases c1 : n < 1 ∨ 999 < n
    · rw [if_pos c1] at q ⊢
      exact x.ans q
    · rw [if_neg c1] at q ⊢
      rw [if_neg (fun z => c ⟨c1, z⟩)]
      exact x.ans q
theorem v_payOff (x : Rel ω μ) : Con g mX12_payOff (d + 40) [.ref m, .int i, .int n] (mw h m μ) (wPi h m (agA [] (fPayOff ω i n).1 (fPayOff ω i n).2)) := by
  have B : stB (wS ω) := x.1.2.1.1.1
  refine x.dp (m_payOff (d := d + 35) (μ := μ) (σ := wS ω) (i := i) (n := n) (N := hN (wH ω)) B x.1.2.2.1.2.1 x.e7) (fun r ν q => ?_)
  unfold fPayOff
  rcases q with ⟨c, q⟩ | ⟨c, q⟩
  · rw [if_neg c.1, if_pos c.2]
    have c1 : ¬ n.toInt < 1 ∧ ¬ 999 < n.toInt := ⟨fun z => c.1 (Or.inl (Int32.lt_iff_toInt_lt.mpr z)), fun z => c.1 (Or.inr (Int32.lt_iff_toInt_lt.mpr z))⟩
    exact x.push (stB_pay B (by omega)) (can_pay B.1 x.1.2.1.1.2) (by rw [sPay_1]) q
  · by_cases c1 : n < 1 ∨ 999 < n
    · rw [if_pos c1] at q ⊢
      exact x.ans q
    · rw [if_neg c1] at q ⊢
      rw [if_neg (fun z => c ⟨c1, z⟩)]
      exact x.ans q
theorem v_plant (x : Rel ω μ) : Con g mX12_plant (d + 40) [.ref m, .int i, .int n] (mw h m μ) (wPi h m (agA [nse, iae] (fPlant ω i n).1 (fPlant ω i n).2)) := by
  have B : stB (wS ω) := x.1.2.1.1.1
  refine x.dp (m_plant (d := d + 35) (μ := μ) (σ := wS ω) (i := i) (n := n) (N := hN (wH ω)) B x.1.2.2.1.2.1 x.e7) (fun r ν q => ?_)
  unfold fPlant
  rcases q with ⟨c, c2, q⟩ | ⟨c, q⟩ | ⟨c, c2, q⟩
  · rw [if_neg (by rw [c]; exact fun f => Bool.noConfusion f), if_neg (by rw [c2]; exact fun f => Bool.noConfusion f)]
    exact x.push (stB_hedge B _) (can_hedge B.1 c x.1.2.1.1.2) rfl q
  · rw [if_pos c]
    exact x.ans q
  · rw [if_neg (by rw [c]; exact fun f => Bool.noConfusion f), if_pos c2]
    exact x.ans q
theorem v_quarters (x : Rel ω μ) : Con g mX12_quarters (d + 40) [.ref m, .int n] (mw h m μ) (wPi h m (agA [iae] (fQuarters ω n).1 (fQuarters ω n).2)) := by
  have B : stB (wS ω) := x.1.2.1.1.1
  refine x.dp (m_quarters (d := d + 33) (μ := μ) (σ := wS ω) (T := tT ω) (n := n) (N := hN (wH ω)) B x.1.1.1.1 x.1.2.2.1.2.1 x.e7) (fun r ν q => ?_)
  unfold fQuarters
  rcases q with ⟨c, q⟩ | ⟨c, q⟩
  · rw [if_neg (by rw [c]; exact fun f => Bool.noConfusion f)]
    exact x.push (stB_pasN B _) (can_pasN B.1 x.1.2.1.1.2 _).1 (pasN_1 (ix n)) q
  · rw [if_pos c]
    exact x.ans q
theorem v_undo (x : Rel ω μ) : Con g mX12_undo (d + 40) [.ref m, .int n] (mw h m μ) (wPi h m (agA [iae] (fUndo ω n).1 (fUndo ω n).2)) := by
  refine x.dp (m_undo (d := d + 38) (μ := μ) (σ := wS ω) (n := n) (ξ := wH ω) x.1.2.2.1 x.1.1.2.2 x.1.2.2.2.1) (fun r ν q => ?_)
  unfold fUndo
  rcases q with ⟨c, c2, q⟩ | ⟨c, q⟩
  · rw [if_neg (by rw [c]; exact fun f => Bool.noConfusion f), if_neg c2]
    refine x.res ?_ q
    obtain ⟨en, -, hn2⟩ := inN_nI (a := 1) (b := 10) (by decide) (by decide) c
    have O := x.1.2.2.1
    obtain ⟨hx1, hx2⟩ : ix n ≤ hN (wH ω) ∧ 1 ≤ ix n := by
      rw [Int32.lt_iff_toInt_lt, O.1, nI_toInt (by have := O.2.1; omega)] at c2
      have := congrArg Int32.toInt en
      rw [nI_toInt (by omega)] at this
      have q1 := (of_decide_eq_true c).1
      rw [Int32.lt_iff_toInt_lt] at q1
      have : (1 : Int32).toInt = 1 := rfl
      omega
    have e0 : hN (nI (hN (wH ω) - ix n), (wH ω).2) = hN (wH ω) - ix n := hN_of (by have := O.2.1; omega)
    obtain ⟨b1, b2⟩ := x.1.2.2.2.1 (hN (wH ω) - ix n) (by omega)
    refine ⟨⟨⟨b1, x.1.2.2.2.2 _ (by omega)⟩, x.1.2.1.2.1, x.1.2.1.2.2.trans b2.symm⟩, ⟨?_, ?_, O.2.2⟩, fun j hj => ?_, fun j hj => ?_⟩
    · rw [e0]
    · rw [e0]; have := O.2.1; omega
    · rw [e0] at hj
      obtain ⟨d1, d2⟩ := x.1.2.2.2.1 j (by omega)
      exact ⟨d1, d2.trans b2.symm⟩
    · rw [e0] at hj
      exact x.1.2.2.2.2 j (by omega)
  · have e : (if inN n 1 10 = false then ((.inl iae, ω) : An Int32 × CW) else if (wH ω).1 < n then (.inl iae, ω) else (.inr (nI (hN (wH ω) - ix n)), pS (pH ω (nI (hN (wH ω) - ix n), (wH ω).2)) (hv (wH ω) (hN (wH ω) - ix n)))) = (.inl iae, ω) := by
      by_cases c1 : inN n 1 10 = true
      · rw [if_neg (by rw [c1]; exact fun f => Bool.noConfusion f), if_pos (Decidable.not_not.mp (fun z => c ⟨c1, z⟩))]
      · rw [if_pos (by revert c1; cases inN n 1 10 <;> simp)]
    rw [e]
    exact x.ans q
end VDE
