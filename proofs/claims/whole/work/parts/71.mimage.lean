/-! The reference: images, counts, bytes -/
def hCount (T : Td) (σ : St) (ξ : Hs) (L i : Int32) : Int32 := if i = 0 then T.1.2.1 else if i = 1 then σ.1 0 else if i = 2 then sumN (σ.2 3) (sN σ) else if i = 3 then sumN (σ.2 4) (sN σ) else if i = 4 then sumN (σ.2 2) (sN σ) else if i = 5 then σ.1 1 else if i = 6 then T.1.2.2 else if i = 7 then σ.1 2 else if i = 8 then T.1.1 else if i = 9 then ξ.1 else if i = 10 then L else -1
def hFault (a b i : Int32) : Int32 := if i = 0 then a else if i = 1 then b else -1
def mby (w : Nat → Int32) (j : Nat) : Int32 := ((w (j / 4)).toUInt32 >>> (((24 - (8 * (nI j &&& 3))) : Int32).toUInt32 &&& Int32.toUInt32 31)).toInt32 &&& 255
def w5 (a b c d e : Int32) : Nat → Int32 := fun q => if q = 0 then a else if q = 1 then b else if q = 2 then c else if q = 3 then d else e
section MIM
variable {g : jG} {d : Nat} {h : jH} {m : Nat} {μ ν : MW} {i k n w : Int32} {T : Td} {σ τ β : St} {I A : List Nat} {N L : Nat} {ξ : Hs}
theorem m_thrown : Con g mX12_thrown (d + 1) [.ref m] (mw h m μ) (wv h m μ (μ.1 4)) :=
  con_of km_X12_thrown.1.2.2.2.2 (Nat.le_of_ble_eq_true rfl) rfl (wX12_thrown_0 ⟨rfl, rfl⟩)
theorem m_fault : Con g mX12_fault (d + 1) [.ref m, .int i] (mw h m μ) (wPi h m (fun r ν => r = hFault (μ.1 14) (μ.1 15) i ∧ ν = mI μ 4 0)) := by
  unfold hFault
  refine con_of km_X12_fault.1.2.2.2.2 (Nat.le_of_ble_eq_true rfl) rfl (wX12_fault_0 ⟨fun c => ⟨_, ⟨(if_pos c).symm, rfl⟩, rfl⟩, fun c => ⟨fun c2 => ⟨_, ⟨((if_neg c).trans (if_pos c2)).symm, rfl⟩, rfl⟩, fun c2 => ⟨_, ⟨((if_neg c).trans (if_neg c2)).symm, rfl⟩, rfl⟩⟩⟩)
theorem m_count (S : sok σ) (E : encT (kn μ) T) (e7 : kn μ 7 = ξ.1) : Con g mX12_count (d + 3) [.ref m, .int i] (mw h m (mS μ σ)) (wPi h m (mAns μ σ [] (.inr (hCount T σ ξ (μ.1 6) i)))) := by
  obtain ⟨e0, ⟨e2, -⟩, e3, -⟩ := E
  unfold hCount
  have fin : ∀ {r v : Int32}, r = v → ∃ μ', mAns μ σ [] (.inr v) r μ' ∧ mw h m (mI (mS μ σ) 4 0) = mw h m μ' := fun e => ⟨_, fin_0 (ms_4 0) (mI_at 4 0) e, rfl⟩
  refine con_of km_X12_count.1.2.2.2.2 (Nat.le_of_ble_eq_true rfl) rfl (wX12_count_0 ⟨fun c0 => ?_, fun c0 => ⟨fun c1 => ?_, fun c1 => ⟨fun c2 => ?_, fun c2 => ⟨fun c3 => ?_, fun c3 => ⟨fun c4 => ?_, fun c4 => ⟨fun c5 => ?_, fun c5 => ⟨fun c6 => ?_, fun c6 => ⟨fun c7 => ?_, fun c7 => ⟨fun c8 => ?_, fun c8 => ⟨fun c9 => ?_, fun c9 => ⟨fun c10 => ?_, fun c10 => ?_⟩⟩⟩⟩⟩⟩⟩⟩⟩⟩⟩)
  · rw [if_pos c0]
    exact fin ((kS_ot (τ := σ) (by omega)).trans e0)
  · rw [if_neg c0, if_pos c1]
    exact ⟨_, m_housesS (μ := mI μ 4 0) (σ := σ), fin rfl⟩
  · rw [if_neg c0, if_neg c1, if_pos c2]
    exact ⟨_, m_sumOf (d := d) (μ := mI μ 4 0) (σ := σ) (b := 29) (r := 3) rfl (by decide) S, fin rfl⟩
  · rw [if_neg c0, if_neg c1, if_neg c2, if_pos c3]
    exact ⟨_, m_sumOf (d := d) (μ := mI μ 4 0) (σ := σ) (b := 36) (r := 4) rfl (by decide) S, fin rfl⟩
  · rw [if_neg c0, if_neg c1, if_neg c2, if_neg c3, if_pos c4]
    exact ⟨_, m_sumOf (d := d) (μ := mI μ 4 0) (σ := σ) (b := 22) (r := 2) rfl (by decide) S, fin rfl⟩
  · rw [if_neg c0, if_neg c1, if_neg c2, if_neg c3, if_neg c4, if_pos c5]
    exact fin rfl
  · rw [if_neg c0, if_neg c1, if_neg c2, if_neg c3, if_neg c4, if_neg c5, if_pos c6]
    exact fin ((kS_ot (τ := σ) (by omega)).trans e3)
  · rw [if_neg c0, if_neg c1, if_neg c2, if_neg c3, if_neg c4, if_neg c5, if_neg c6, if_pos c7]
    exact fin rfl
  · rw [if_neg c0, if_neg c1, if_neg c2, if_neg c3, if_neg c4, if_neg c5, if_neg c6, if_neg c7, if_pos c8]
    exact fin ((kS_ot (τ := σ) (by omega)).trans e2)
  · rw [if_neg c0, if_neg c1, if_neg c2, if_neg c3, if_neg c4, if_neg c5, if_neg c6, if_neg c7, if_neg c8, if_pos c9]
    exact fin ((kS_ot (τ := σ) (by omega)).trans e7)
  · rw [if_neg c0, if_neg c1, if_neg c2, if_neg c3, if_neg c4, if_neg c5, if_neg c6, if_neg c7, if_neg c8, if_neg c9, if_pos c10]
    exact fin rfl
  · rw [if_neg c0, if_neg c1, if_neg c2, if_neg c3, if_neg c4, if_neg c5, if_neg c6, if_neg c7, if_neg c8, if_neg c9, if_neg c10]
    exact fin rfl
/-! images -/
theorem t3240 : ∀ a, a < 3 → (3240 : Int32) * nI a = nI (3240 * a) := by decide
theorem grOk_in : inN i 0 2 = grOk i := by
  unfold inN grOk
  refine decide_eq_decide.mpr (and_congr Iff.rfl ?_)
  rw [Int32.lt_iff_toInt_lt, Int32.lt_iff_toInt_lt, show (2 : Int32).toInt = 2 from rfl, show (3 : Int32).toInt = 3 from rfl]
  omega
/-- what is left by an image taken -/
def imgP (μ : MW) (j : Nat) (ν : MW) : Prop := (∀ k, ¬ k = 4 → ν.1 k = μ.1 k) ∧ ν.1 4 = 0 ∧ ν.2.2 = μ.2.2 ∧ (∀ a, ¬ a = 3 → ¬ a = 4 → ν.2.1 a = μ.2.1 a) ∧ ν.2.1 4 = upd (μ.2.1 4) j 1 ∧ ∀ x, ν.2.1 3 x = if 3240 * j ≤ x ∧ x < 3240 * j + 3240 then kn μ (x - 3240 * j) else μ.2.1 3 x
theorem m_image : Con g mX12_image (d + 2) [.ref m, .int i] (mw h m μ) (wPv h m (fun ν => (grOk i = false ∧ ν = mI μ 4 1) ∨ (grOk i = true ∧ imgP μ (ix i) ν))) := by
  have e0 : inL i.toInt64 0 2 = grOk i := (inL_n (a := 0) (b := 2) rfl rfl).trans grOk_in
  refine con_of km_X12_image.1.2.2.2.2 (Nat.le_of_ble_eq_true rfl) rfl (wX12_image_0 ⟨_, m_within, fun c => ?_, fun c => ?_⟩)
  · rw [e0] at c
    exact wX12_image_18 ⟨fun _ => ⟨_, Or.inl ⟨bI0 c, rfl⟩, rfl⟩, fun f => absurd (thr_p (by decide)) f⟩
  · rw [e0] at c
    have c := bI1 c
    obtain ⟨i1, i2⟩ := grOk_ix c
    have loop : ∀ r x G, x + r = 3240 → (∀ y, G y = if 3240 * ix i ≤ y ∧ y < 3240 * ix i + x then kn μ (y - 3240 * ix i) else μ.2.1 3 y) → J g mX12_image (d + 2) (mw h m μ) (wPv h m (fun ν => (grOk i = false ∧ ν = mI μ 4 1) ∨ (grOk i = true ∧ imgP μ (ix i) ν))) 38 [(0, .ref m), (1, .int i), (2, .int (nI x))] [] (mw h m (mA (mA (mI μ 4 0) 4 (upd (μ.2.1 4) (ix i) 1)) 3 G)) := by
      intro r
      induction r with
      | zero =>
        intro x G hx hG
        have : x = 3240 := by omega
        subst this
        refine wX12_image_38 ⟨fun f => absurd f (nI_nlt (a := 3240) (b := 3240) (by omega) (by omega)), fun _ => ⟨mA (mA (mI μ 4 0) 4 (upd (μ.2.1 4) (ix i) 1)) 3 G, Or.inr ⟨c, ?_, ?_, rfl, ?_, rfl, hG⟩, rfl⟩⟩
        · intro k hk; exact if_neg hk
        · exact mI_at (μ := μ) 4 0
        · intro a h3 h4
          show (if a = 3 then _ else if a = 4 then _ else μ.2.1 a) = _
          rw [if_neg h3, if_neg h4]
      | succ r ih =>
        intro x G hx hG
        refine wX12_image_38 ⟨fun _ => ?_, fun f => absurd (nI_lt (b := 3240) (by omega) (by omega)) f⟩
        have e : (3240 : Int32) * i + nI x = nI (3240 * ix i + x) := by
          rw [i1, ix_nI (by omega), t3240 _ i2, nI_add]
        rw [e, ix_nI (by omega), ix_nI (by omega), mA_mA, nI_1]
        refine ⟨mk3240 (by omega), vp_in_nI (by omega) (by decide), ih (x + 1) _ (by omega) (fun y => ?_)⟩
        show upd G (3240 * ix i + x) (μ.2.1 1 x) y = _
        unfold upd
        by_cases q : y = 3240 * ix i + x
        · rw [if_pos q, if_pos (by omega), q, Nat.add_sub_cancel_left]
        · rw [if_neg q, hG]
          by_cases q2 : 3240 * ix i ≤ y ∧ y < 3240 * ix i + x
          · rw [if_pos q2, if_pos (by omega)]
          · rw [if_neg q2, if_neg (by omega)]
    refine wX12_image_18 ⟨fun f => absurd f thr_n, fun _ => ⟨by rw [i1]; exact vp_in_nI i2 (by decide), ?_⟩⟩
    have z := loop 3240 0 (μ.2.1 3) rfl (fun y => by rw [if_neg (by omega)])
    have e3 : mA (mA (mI μ 4 0) 4 (upd (μ.2.1 4) (ix i) 1)) 3 (μ.2.1 3) = mA (mI μ 4 0) 4 (upd (μ.2.1 4) (ix i) 1) := by
      unfold mA
      have e2 : (fun a => if a = 3 then μ.2.1 3 else (fun a => if a = 4 then upd (μ.2.1 4) (ix i) 1 else (mI μ 4 0).2.1 a) a) = fun a => if a = 4 then upd (μ.2.1 4) (ix i) 1 else (mI μ 4 0).2.1 a := by
        funext a
        by_cases q : a = 3
        · rw [if_pos q, q]; rfl
        · rw [if_neg q]
      exact congrArg (fun f => ((mI μ 4 0).1, f, (mI μ 4 0).2.2)) e2
    rw [e3] at z
    exact z
def rstP (μ : MW) (j : Nat) (ν : MW) : Prop := (∀ k, ¬ k = 4 → ν.1 k = μ.1 k) ∧ ν.1 4 = 0 ∧ ν.2.2 = μ.2.2 ∧ (∀ a, ¬ a = 1 → ν.2.1 a = μ.2.1 a) ∧ ∀ x, kn ν x = if x < 3240 then μ.2.1 3 (3240 * j + x) else kn μ x
theorem m_restore : Con g mX12_restore (d + 2) [.ref m, .int i] (mw h m μ) (wPv h m (fun ν => (grOk i = false ∧ ν = mI μ 4 1) ∨ (grOk i = true ∧ μ.2.1 4 (ix i) = 0 ∧ ν = mI μ 4 2) ∨ (grOk i = true ∧ ¬ μ.2.1 4 (ix i) = 0 ∧ rstP μ (ix i) ν))) := by
  have e0 : inL i.toInt64 0 2 = grOk i := (inL_n (a := 0) (b := 2) rfl rfl).trans grOk_in
  refine con_of km_X12_restore.1.2.2.2.2 (Nat.le_of_ble_eq_true rfl) rfl (wX12_restore_0 ⟨_, m_within, fun c => ?_, fun c => ?_⟩)
  · rw [e0] at c
    exact wX12_restore_31 ⟨fun _ => ⟨_, Or.inl ⟨bI0 c, rfl⟩, rfl⟩, fun f => absurd (thr_p (by decide)) f⟩
  · rw [e0] at c
    have c := bI1 c
    obtain ⟨i1, i2⟩ := grOk_ix c
    refine ⟨by rw [i1]; exact vp_in_nI i2 (by decide), fun c2 => ?_, fun c2 => ?_⟩
    · exact wX12_restore_31 ⟨fun _ => ⟨_, Or.inr (Or.inl ⟨c, c2, rfl⟩), rfl⟩, fun f => absurd (thr_p (by decide)) f⟩
    · have loop : ∀ r x G, x + r = 3240 → (∀ y, G y = if y < x then μ.2.1 3 (3240 * ix i + y) else kn μ y) → J g mX12_restore (d + 2) (mw h m μ) (wPv h m (fun ν => (grOk i = false ∧ ν = mI μ 4 1) ∨ (grOk i = true ∧ μ.2.1 4 (ix i) = 0 ∧ ν = mI μ 4 2) ∨ (grOk i = true ∧ ¬ μ.2.1 4 (ix i) = 0 ∧ rstP μ (ix i) ν))) 44 [(0, .ref m), (1, .int i), (2, .int (nI x))] [] (mw h m (mA (mI μ 4 0) 1 G)) := by
        intro r
        induction r with
        | zero =>
          intro x G hx hG
          have : x = 3240 := by omega
          subst this
          refine wX12_restore_44 ⟨fun f => absurd f (nI_nlt (a := 3240) (b := 3240) (by omega) (by omega)), fun _ => ⟨mA (mI μ 4 0) 1 G, Or.inr (Or.inr ⟨c, c2, ?_, ?_, rfl, ?_, hG⟩), rfl⟩⟩
          · intro k hk; exact if_neg hk
          · exact mI_at (μ := μ) 4 0
          · intro a h1
            exact if_neg h1
        | succ r ih =>
          intro x G hx hG
          refine wX12_restore_44 ⟨fun _ => ?_, fun f => absurd (nI_lt (b := 3240) (by omega) (by omega)) f⟩
          have e : (3240 : Int32) * i + nI x = nI (3240 * ix i + x) := by
            rw [i1, ix_nI (by omega), t3240 _ i2, nI_add]
          rw [e, ix_nI (by omega), ix_nI (by omega), mA_mA, nI_1]
          refine ⟨vp_in_nI (by omega) (by decide), mk3240 (by omega), ih (x + 1) _ (by omega) (fun y => ?_)⟩
          show upd G x (μ.2.1 3 (3240 * ix i + x)) y = _
          unfold upd
          by_cases q : y = x
          · rw [if_pos q, if_pos (by omega), q]
          · rw [if_neg q, hG]
            by_cases q2 : y < x
            · rw [if_pos q2, if_pos (by omega)]
            · rw [if_neg q2, if_neg (by omega)]
      refine wX12_restore_31 ⟨fun f => absurd f thr_n, fun _ => ?_⟩
      have z := loop 3240 0 (kn μ) rfl (fun y => by rw [if_neg (by omega)])
      rw [show mA (mI μ 4 0) 1 (kn μ) = mI μ 4 0 from mA_kn (μ := mI μ 4 0)] at z
      exact z
/-! bytes are fed -/
theorem t20 : ∀ j, j < 20 → (nI j < 4 ↔ j / 4 = 0) ∧ (nI j < 8 ↔ j / 4 < 2) ∧ (nI j < 12 ↔ j / 4 < 3) ∧ (nI j < 16 ↔ j / 4 < 4) := by decide +kernel
def fedP (μ : MW) (L : Nat) (w : Nat → Int32) (ν : MW) : Prop := (∀ k, ¬ k = 4 → ¬ k = 6 → ν.1 k = μ.1 k) ∧ ν.1 4 = 0 ∧ ν.1 6 = nI (L + 20) ∧ ν.2.2 = μ.2.2 ∧ (∀ a, ¬ a = 5 → ν.2.1 a = μ.2.1 a) ∧ ∀ x, ν.2.1 5 x = if L ≤ x ∧ x < L + 20 then mby w (x - L) else μ.2.1 5 x
theorem m_feed {a b c d1 e : Int32} (hL : L ≤ 900) (eL : μ.1 6 = nI L) : Con g mX12_feed (d + 1) [.ref m, .int a, .int b, .int c, .int d1, .int e] (mw h m μ) (wPi h m (fun r ν => (900 < L + 20 ∧ r = -1 ∧ ν = mI μ 4 0) ∨ (L + 20 ≤ 900 ∧ r = nI (L + 20) ∧ fedP μ L (w5 a b c d1 e) ν))) := by
  have e6 : (mI μ 4 0).1 6 = nI L := eL
  have e20 : nI L + 20 = nI (L + 20) := nI_add L 20
  refine con_of km_X12_feed.1.2.2.2.2 (Nat.le_of_ble_eq_true rfl) rfl (wX12_feed_0 ?_)
  rw [e6, e20]
  refine ⟨fun q => ⟨_, Or.inl ⟨(nI_lti (a := 900) (by omega) (by omega)).mp q, rfl, rfl⟩, rfl⟩, fun q => ?_⟩
  have hL2 : L + 20 ≤ 900 := by
    have : ¬ 900 < L + 20 := fun f => q ((nI_lti (a := 900) (by omega) (by omega)).mpr f)
    omega
  have loop : ∀ r j G, j + r = 20 → (∀ x, G x = if L ≤ x ∧ x < L + j then mby (w5 a b c d1 e) (x - L) else μ.2.1 5 x) → J g mX12_feed (d + 1) (mw h m μ) (wPi h m (fun r ν => (900 < L + 20 ∧ r = -1 ∧ ν = mI μ 4 0) ∨ (L + 20 ≤ 900 ∧ r = nI (L + 20) ∧ fedP μ L (w5 a b c d1 e) ν))) 23 [(0, .ref m), (1, .int a), (2, .int b), (3, .int c), (4, .int d1), (5, .int e), (6, .int (nI j))] [] (mw h m (mI (mA (mI μ 4 0) 5 G) 6 (nI (L + j)))) := by
    intro r
    induction r with
    | zero =>
      intro j G hj hG
      have : j = 20 := by omega
      subst this
      refine wX12_feed_23 ⟨fun f => absurd f (nI_nlt (a := 20) (b := 20) (by omega) (by omega)), fun _ => ⟨mI (mA (mI μ 4 0) 5 G) 6 (nI (L + 20)), Or.inr ⟨hL2, mI_at (μ := mA (mI μ 4 0) 5 G) 6 _, ?_, ?_, mI_at (μ := mA (mI μ 4 0) 5 G) 6 _, rfl, ?_, hG⟩, rfl⟩⟩
      · intro k h4 h6
        show (if k = 6 then _ else if k = 4 then _ else μ.1 k) = _
        rw [if_neg h6, if_neg h4]
      · rfl
      · intro x hx
        exact if_neg hx
    | succ r ih =>
      intro j G hj hG
      obtain ⟨u1, u2, u3, u4⟩ := t20 j (by omega)
      have main : ∀ s, s = w5 a b c d1 e (j / 4) → J g mX12_feed (d + 1) (mw h m μ) (wPi h m (fun r ν => (900 < L + 20 ∧ r = -1 ∧ ν = mI μ 4 0) ∨ (L + 20 ≤ 900 ∧ r = nI (L + 20) ∧ fedP μ L (w5 a b c d1 e) ν))) 76 [(0, .ref m), (1, .int a), (2, .int b), (3, .int c), (4, .int d1), (5, .int e), (6, .int (nI j))] [.int s] (mw h m (mI (mA (mI μ 4 0) 5 G) 6 (nI (L + j)))) := by
        intro s hs
        refine wX12_feed_76 ?_
        rw [mI_at]
        refine ⟨vp_in_nI (by omega) (by decide), ?_⟩
        rw [ix_nI (by omega), nI_1]
        have ew : mI (mA (mI (mA (mI μ 4 0) 5 G) 6 (nI (L + j))) 5 (upd G (L + j) (mby (w5 a b c d1 e) j))) 6 (nI (L + j) + 1) = mI (mA (mI μ 4 0) 5 (upd G (L + j) (mby (w5 a b c d1 e) j))) 6 (nI (L + (j + 1))) := by
          rw [nI_1]
          unfold mI mA
          refine Prod.ext ?_ (Prod.ext ?_ rfl)
          · funext k
            show (if k = 6 then _ else if k = 6 then _ else _) = (if k = 6 then _ else _)
            by_cases q : k = 6
            · rw [if_pos q, if_pos q, Nat.add_assoc]
            · rw [if_neg q, if_neg q, if_neg q]
          · funext k
            show (if k = 5 then _ else if k = 5 then _ else _) = (if k = 5 then _ else _)
            by_cases q : k = 5
            · rw [if_pos q, if_pos q]
            · rw [if_neg q, if_neg q, if_neg q]
        have z := ih (j + 1) (upd G (L + j) (mby (w5 a b c d1 e) j)) (by omega) (fun x => by
          unfold upd
          by_cases q : x = L + j
          · rw [if_pos q, if_pos (by omega), q, Nat.add_sub_cancel_left]
          · rw [if_neg q, hG]
            by_cases q2 : L ≤ x ∧ x < L + j
            · rw [if_pos q2, if_pos (by omega)]
            · rw [if_neg q2, if_neg (by omega)])
        rw [← ew] at z
        rw [hs]
        exact z
      refine wX12_feed_23 ⟨fun _ => ⟨fun f => main a ?_, fun f1 => ⟨fun f => main b ?_, fun f2 => ⟨fun f => main c ?_, fun f3 => ⟨fun f => main d1 ?_, fun f4 => main e ?_⟩⟩⟩⟩, fun f => absurd (nI_lt (b := 20) (by omega) (by omega)) f⟩
      all_goals unfold w5
      · rw [if_pos (u1.mp f)]
      · rw [if_neg (fun q => f1 (u1.mpr q)), if_pos (by have := u2.mp f; have : ¬ j / 4 = 0 := fun q => f1 (u1.mpr q); omega)]
      · rw [if_neg (fun q => f1 (u1.mpr q)), if_neg (fun q => f2 (u2.mpr (by omega))), if_pos (by have := u3.mp f; have : ¬ j / 4 < 2 := fun q => f2 (u2.mpr q); omega)]
      · rw [if_neg (fun q => f1 (u1.mpr q)), if_neg (fun q => f2 (u2.mpr (by omega))), if_neg (fun q => f3 (u3.mpr (by omega))), if_pos (by have := u4.mp f; have : ¬ j / 4 < 3 := fun q => f3 (u3.mpr q); omega)]
      · rw [if_neg (fun q => f1 (u1.mpr q)), if_neg (fun q => f2 (u2.mpr (by omega))), if_neg (fun q => f3 (u3.mpr (by omega))), if_neg (fun q => f4 (u4.mpr (by omega)))]
  have z := loop 20 0 (μ.2.1 5) rfl (fun x => by rw [if_neg (by omega)])
  have e0 : mI (mA (mI μ 4 0) 5 (μ.2.1 5)) 6 (nI (L + 0)) = mI μ 4 0 := by
    rw [Nat.add_zero, ← e6]
    unfold mI mA
    refine Prod.ext ?_ (Prod.ext ?_ rfl)
    · funext k
      show (if k = 6 then _ else _) = _
      by_cases q : k = 6
      · rw [if_pos q, q]
      · rw [if_neg q]
    · funext k
      show (if k = 5 then _ else _) = _
      by_cases q : k = 5
      · rw [if_pos q, q]
      · rw [if_neg q]
  rw [e0] at z
  exact z
end MIM
