/-! The reference reads on -/
def nxR (b : Nat → Int32) (e : Nat) : Nat → Nat → Nat
  | 0, i => i
  | f + 1, i => if i < e ∧ (b i = 10 ∨ b i = 32) then nxR b e f (i + 1) else i
/-- the place of the next token from i on -/
def nx (b : Nat → Int32) (e i : Nat) : Nat := nxR b e (e - i) i
/-- the reference's name of a token -/
def mtk (k : Int32) : Int32 := if k = 1 then 3 else if k = 3 ∨ 127 < k then 1 else k
def sgM (y : Int32) : Bool := decide (y = 91 ∨ y = 93 ∨ y = 61 ∨ y = 60 ∨ y = 62 ∨ y = 58 ∨ y = 59 ∨ y = 43 ∨ y = 45 ∨ y = 42 ∨ y = 40 ∨ y = 41)
def cu (μ : MW) (a b c d : Int32) : MW := mI (mI (mI (mI μ 8 a) 9 b) 10 c) 11 d
def tape (μ : MW) (b : Nat → Int32) (e : Nat) : Prop := (μ.1 7 = nI e ∧ e ≤ 900) ∧ (byt b ∧ ∀ j, j < e → μ.2.1 5 j = b j &&& 255)
section MTK
variable {g : jG} {d : Nat} {h hs : jH} {m : Nat} {μ ν : MW} {i k n w : Int32} {b : Nat → Int32} {e : Nat} {P : jO → jH → Prop}
theorem mI_c {k j : Nat} {x y : Int32} (hk : ¬ k = j) : mI (mI μ k x) j y = mI (mI μ j y) k x := by
  unfold mI
  refine congrArg (fun f => (f, μ.2)) (funext fun i => ?_)
  show (if i = j then y else if i = k then x else μ.1 i) = (if i = k then x else if i = j then y else μ.1 i)
  by_cases h1 : i = j
  · rw [if_pos h1, if_neg (by omega), if_pos h1]
  · rw [if_neg h1, if_neg h1]
theorem mI_mI {k : Nat} {x y : Int32} : mI (mI μ k x) k y = mI μ k y := by
  unfold mI
  refine congrArg (fun f => (f, μ.2)) (funext fun i => ?_)
  show (if i = k then y else if i = k then x else μ.1 i) = (if i = k then y else μ.1 i)
  by_cases h1 : i = k
  · rw [if_pos h1, if_pos h1]
  · rw [if_neg h1, if_neg h1, if_neg h1]
theorem mI_self {k : Nat} : mI μ k (μ.1 k) = μ := by
  unfold mI
  refine Prod.ext (funext fun i => ?_) rfl
  show (if i = k then μ.1 k else μ.1 i) = μ.1 i
  by_cases h1 : i = k
  · rw [if_pos h1, h1]
  · rw [if_neg h1]
variable {x1 x2 x3 x4 x : Int32}
theorem cu_8 : mI (cu μ x1 x2 x3 x4) 8 x = cu μ x x2 x3 x4 := by
  unfold cu
  rw [mI_c (k := 11) (j := 8) (by decide), mI_c (k := 10) (j := 8) (by decide), mI_c (k := 9) (j := 8) (by decide), mI_mI]
theorem cu_9 : mI (cu μ x1 x2 x3 x4) 9 x = cu μ x1 x x3 x4 := by
  unfold cu
  rw [mI_c (k := 11) (j := 9) (by decide), mI_c (k := 10) (j := 9) (by decide), mI_mI]
theorem cu_10 : mI (cu μ x1 x2 x3 x4) 10 x = cu μ x1 x2 x x4 := by
  unfold cu
  rw [mI_c (k := 11) (j := 10) (by decide), mI_mI]
theorem cu_11 : mI (cu μ x1 x2 x3 x4) 11 x = cu μ x1 x2 x3 x := by
  unfold cu
  rw [mI_mI]
theorem cu_self : cu μ (μ.1 8) (μ.1 9) (μ.1 10) (μ.1 11) = μ := by
  show mI (mI (mI (mI μ 8 (μ.1 8)) 9 (μ.1 9)) 10 (μ.1 10)) 11 (μ.1 11) = μ
  rw [mI_self (μ := μ) (k := 8), mI_self (μ := μ) (k := 9), mI_self (μ := μ) (k := 10), mI_self (μ := μ) (k := 11)]
theorem cu_a8 : (cu μ x1 x2 x3 x4).1 8 = x1 := rfl
theorem cu_a9 : (cu μ x1 x2 x3 x4).1 9 = x2 := rfl
theorem cu_a10 : (cu μ x1 x2 x3 x4).1 10 = x3 := rfl
theorem cu_a11 : (cu μ x1 x2 x3 x4).1 11 = x4 := rfl
theorem cu_cu {y1 y2 y3 y4 : Int32} : cu (cu μ x1 x2 x3 x4) y1 y2 y3 y4 = cu μ y1 y2 y3 y4 := by
  show mI (mI (mI (mI (cu μ x1 x2 x3 x4) 8 y1) 9 y2) 10 y3) 11 y4 = _
  rw [cu_8, cu_9, cu_10, cu_11]
theorem tape.cu (t : tape μ b e) : tape (cu μ x1 x2 x3 x4) b e := t
/-! bytes -/
theorem b_tab : ∀ n, n < 256 → (isLet ((nI n - 128) &&& 255) = isLet (nI n - 128)) ∧ (isDig ((nI n - 128) &&& 255) = isDig (nI n - 128)) ∧ (sgM ((nI n - 128) &&& 255) = sgnB (nI n - 128)) ∧ (((nI n - 128) &&& 255 = 32) ↔ (nI n - 128 = 32)) ∧ (((nI n - 128) &&& 255 = 10) ↔ (nI n - 128 = 10)) := by decide +kernel
theorem b_tab2 : ∀ n, n < 256 → (sgnB (nI n - 128) = true → (nI n - 128) &&& 255 = nI n - 128 ∧ mtk (nI n - 128) = nI n - 128) ∧ (isDig (nI n - 128) = true → (nI n - 128) &&& 255 = nI n - 128) := by decide +kernel
theorem b_tab3 : ∀ n, n < 256 → isDig (nI n - 128) = true → 176 ≤ n ∧ n < 186 ∧ nI n - 128 = nI (n - 128) := by decide +kernel
theorem by_let (B : byt b) (j : Nat) : isLet (b j &&& 255) = isLet (b j) := by
  obtain ⟨n, hn, en⟩ := B j
  rw [en]; exact (b_tab n hn).1
theorem by_dig (B : byt b) (j : Nat) : isDig (b j &&& 255) = isDig (b j) := by
  obtain ⟨n, hn, en⟩ := B j
  rw [en]; exact (b_tab n hn).2.1
theorem by_sgn (B : byt b) (j : Nat) : sgM (b j &&& 255) = sgnB (b j) := by
  obtain ⟨n, hn, en⟩ := B j
  rw [en]; exact (b_tab n hn).2.2.1
theorem by_32 (B : byt b) (j : Nat) : b j &&& 255 = 32 ↔ b j = 32 := by
  obtain ⟨n, hn, en⟩ := B j
  rw [en]; exact (b_tab n hn).2.2.2.1
theorem by_10 (B : byt b) (j : Nat) : b j &&& 255 = 10 ↔ b j = 10 := by
  obtain ⟨n, hn, en⟩ := B j
  rw [en]; exact (b_tab n hn).2.2.2.2
theorem by_s (B : byt b) {j : Nat} (c : sgnB (b j) = true) : b j &&& 255 = b j ∧ mtk (b j) = b j := by
  obtain ⟨n, hn, en⟩ := B j
  rw [en] at c ⊢
  exact (b_tab2 n hn).1 c
theorem by_d (B : byt b) {j : Nat} (c : isDig (b j) = true) : b j &&& 255 = b j ∧ ∃ v, v < 10 ∧ b j = nI (48 + v) := by
  obtain ⟨n, hn, en⟩ := B j
  rw [en] at c ⊢
  refine ⟨(b_tab2 n hn).2 c, ?_⟩
  obtain ⟨h1, h2, h3⟩ := b_tab3 n hn c
  exact ⟨n - 176, by omega, by rw [h3, show 48 + (n - 176) = n - 128 by omega]⟩
theorem m_isLetter : Con g mX12_isLetter (d + 1) [.int x] (mw h m μ) (wv h m μ (bI (isLet x))) := by
  unfold isLet
  refine con_of km_X12_isLetter.1.2.2.2.2 (Nat.le_of_ble_eq_true rfl) rfl (wX12_isLetter_0 ⟨fun c => ⟨?_, rfl⟩, fun c => ⟨fun c2 => ⟨?_, rfl⟩, fun c2 => ⟨?_, rfl⟩⟩⟩)
  · rw [decide_eq_false (fun q => q.1 c)]; rfl
  · rw [decide_eq_false (fun q => q.2 c2)]; rfl
  · rw [decide_eq_true ⟨c, c2⟩]; rfl
theorem m_isDigit : Con g mX12_isDigit (d + 1) [.int x] (mw h m μ) (wv h m μ (bI (isDig x))) := by
  unfold isDig
  refine con_of km_X12_isDigit.1.2.2.2.2 (Nat.le_of_ble_eq_true rfl) rfl (wX12_isDigit_0 ⟨fun c => ⟨?_, rfl⟩, fun c => ⟨fun c2 => ⟨?_, rfl⟩, fun c2 => ⟨?_, rfl⟩⟩⟩)
  · rw [decide_eq_false (fun q => q.1 c)]; rfl
  · rw [decide_eq_false (fun q => q.2 c2)]; rfl
  · rw [decide_eq_true ⟨c, c2⟩]; rfl
theorem m_isSignByte : Con g mX12_isSignByte (d + 1) [.int x] (mw h m μ) (wv h m μ (bI (sgM x))) := by
  unfold sgM
  have one : ∀ {hs}, (x = 91 ∨ x = 93 ∨ x = 61 ∨ x = 60 ∨ x = 62 ∨ x = 58 ∨ x = 59 ∨ x = 43 ∨ x = 45 ∨ x = 42 ∨ x = 40 ∨ x = 41) → J g mX12_isSignByte (d + 1) hs (wv h m μ (bI (decide (x = 91 ∨ x = 93 ∨ x = 61 ∨ x = 60 ∨ x = 62 ∨ x = 58 ∨ x = 59 ∨ x = 43 ∨ x = 45 ∨ x = 42 ∨ x = 40 ∨ x = 41)))) 36 [(0, .int x)] [] (mw h m μ) := fun c => by
    rw [decide_eq_true c]
    exact wX12_isSignByte_36 (wX12_isSignByte_41 ⟨fun f => absurd f (by decide), fun _ => ⟨rfl, rfl⟩⟩)
  refine con_of km_X12_isSignByte.1.2.2.2.2 (Nat.le_of_ble_eq_true rfl) rfl (wX12_isSignByte_0 ⟨fun c => one (by simp [c]), fun c1 => ⟨fun c => one (by simp [c]), fun c2 => ⟨fun c => one (by simp [c]), fun c3 => ⟨fun c => one (by simp [c]), fun c4 => ⟨fun c => one (by simp [c]), fun c5 => ⟨fun c => one (by simp [c]), fun c6 => ?_⟩⟩⟩⟩⟩⟩)
  refine wX12_isSignByte_41 ⟨fun _ => ⟨fun c => ⟨?_, rfl⟩, fun c7 => ⟨fun c => ⟨?_, rfl⟩, fun c8 => ⟨fun c => ⟨?_, rfl⟩, fun c9 => ⟨fun c => ⟨?_, rfl⟩, fun c10 => ⟨fun c => ⟨?_, rfl⟩, fun c11 => ⟨fun c => ⟨?_, rfl⟩, fun c12 => ⟨?_, rfl⟩⟩⟩⟩⟩⟩⟩, fun f => absurd rfl f⟩
  · simp [c, bI]
  · simp [c, bI]
  · simp [c, bI]
  · simp [c, bI]
  · simp [c, bI]
  · simp [c, bI]
  · simp [c1, c2, c3, c4, c5, c6, c7, c8, c9, c10, c11, c12, bI]
theorem m_see {j : Nat} (t : tape μ b e) (hj : j ≤ 900) : Con g mX12_see (d + 1) [.ref m, .int (nI j)] (mw h m μ) (wv h m μ (if j < e then b j &&& 255 else 0)) := by
  obtain ⟨⟨t1, t2⟩, t3, t4⟩ := t
  refine con_of km_X12_see.1.2.2.2.2 (Nat.le_of_ble_eq_true rfl) rfl (wX12_see_0 ⟨fun c => ?_, fun c => ?_⟩)
  · rw [t1] at c
    have c := (nI_lti (by omega) (by omega)).mp c
    rw [if_pos c, ix_nI (by omega), t4 j c]
    exact ⟨vp_in_nI (by omega) (by decide), rfl, rfl⟩
  · rw [t1] at c
    rw [if_neg (fun f => c ((nI_lti (by omega) (by omega)).mpr f))]
    exact ⟨rfl, rfl⟩
theorem nxR_le : ∀ f i, i ≤ nxR b e f i ∧ (i ≤ e → nxR b e f i ≤ e)
  | 0, i => ⟨Nat.le_refl _, id⟩
  | f + 1, i => by
    rw [nxR]
    split
    · rename_i c
      have := nxR_le (f := f) (i := i + 1)
      exact ⟨by omega, fun _ => this.2 (by omega)⟩
    · exact ⟨Nat.le_refl _, id⟩
theorem nx_le {i : Nat} (hi : i ≤ e) : i ≤ nx b e i ∧ nx b e i ≤ e := ⟨(nxR_le _ i).1, (nxR_le _ i).2 hi⟩
theorem nx_y {i : Nat} (hi : i < e) (c : b i = 10 ∨ b i = 32) : nx b e i = nx b e (i + 1) := by
  unfold nx
  rw [show e - i = (e - (i + 1)) + 1 by omega, nxR, if_pos ⟨hi, c⟩]
theorem nx_n {i : Nat} (c : ¬ (i < e ∧ (b i = 10 ∨ b i = 32))) : nx b e i = i := by
  unfold nx
  cases h : e - i with
  | zero => rfl
  | succ f => rw [nxR, if_neg c]
/-! white space -/
theorem rd_39 (t : tape μ b e) : ∀ r i, i + r = e → (J g mX12_readsOn (d + 2) hs P 52 [(0, .ref m)] [] (mw h m (cu μ (nI (nx b e i)) x2 x3 x4))) → (i < e → (b i = 10 ∨ b i = 32) → J g mX12_readsOn (d + 2) hs P 39 [(0, .ref m)] [] (mw h m (cu μ (nI i) x2 x3 x4))) := by
  obtain ⟨⟨t1, t2⟩, t3, t4⟩ := t
  intro r
  induction r with
  | zero => intro i hi next h1; omega
  | succ r ih =>
    intro i hi next h1 h2
    rw [nx_y h1 h2] at next
    refine wX12_readsOn_39 ?_
    rw [cu_a8, nI_1, cu_8, cu_a8, show (cu μ (nI (i + 1)) x2 x3 x4).1 7 = nI e from t1, show (cu μ (nI (i + 1)) x2 x3 x4).2.1 5 = μ.2.1 5 from rfl, ix_nI (by omega)]
    refine ⟨fun c => ?_, fun c => ?_⟩
    · have c := (nI_lti (by omega) (by omega)).mp c
      rw [t4 _ c]
      refine ⟨vp_in_nI (by omega) (by decide), fun q => ?_, fun q => ⟨vp_in_nI (by omega) (by decide), fun q2 => ?_, fun q2 => ?_⟩⟩
      · exact ih (i + 1) (by omega) next c (Or.inr ((by_32 t3 _).mp q))
      · exact ih (i + 1) (by omega) next c (Or.inl ((by_10 t3 _).mp q2))
      · rw [nx_n (fun f => f.2.elim (fun f => q2 ((by_10 t3 _).mpr f)) (fun f => q ((by_32 t3 _).mpr f)))] at next
        exact next
    · rw [nx_n (fun f => c ((nI_lti (by omega) (by omega)).mpr f.1))] at next
      exact next
theorem rd_0 {i : Nat} (t : tape μ b e) (hi : i ≤ e) (next : J g mX12_readsOn (d + 2) hs P 52 [(0, .ref m)] [] (mw h m (cu μ (nI (nx b e i)) x2 x3 x4))) : J g mX12_readsOn (d + 2) hs P 0 [(0, .ref m)] [] (mw h m (cu μ (nI i) x2 x3 x4)) := by
  obtain ⟨⟨t1, t2⟩, t3, t4⟩ := t
  refine wX12_readsOn_0 ?_
  rw [cu_a8, show (cu μ (nI i) x2 x3 x4).1 7 = nI e from t1, show (cu μ (nI i) x2 x3 x4).2.1 5 = μ.2.1 5 from rfl, ix_nI (by omega)]
  refine ⟨fun c => ?_, fun c => ?_⟩
  · have c := (nI_lti (by omega) (by omega)).mp c
    rw [t4 _ c]
    refine ⟨vp_in_nI (by omega) (by decide), fun q => ?_, fun q => ⟨vp_in_nI (by omega) (by decide), fun q2 => ?_, fun q2 => ?_⟩⟩
    · exact rd_39 ⟨⟨t1, t2⟩, t3, t4⟩ (e - i) i (by omega) next c (Or.inr ((by_32 t3 _).mp q))
    · exact rd_39 ⟨⟨t1, t2⟩, t3, t4⟩ (e - i) i (by omega) next c (Or.inl ((by_10 t3 _).mp q2))
    · rw [nx_n (fun f => f.2.elim (fun f => q2 ((by_10 t3 _).mpr f)) (fun f => q ((by_32 t3 _).mpr f)))] at next
      exact next
  · rw [nx_n (fun f => c ((nI_lti (by omega) (by omega)).mpr f.1))] at next
    exact next
end MTK
