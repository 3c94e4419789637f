/-! The reference reads a token -/
section MT2
variable {g : jG} {d : Nat} {h hs : jH} {m : Nat} {μ ν : MW} {i k n w : Int32} {b : Nat → Int32} {e : Nat} {P : jO → jH → Prop} {x1 x2 x3 x4 x : Int32}
theorem letR_0 {f j : Nat} (c : ¬ isLet (b j) = true) : letR b f j = j := by
  cases f with
  | zero => rfl
  | succ f => rw [letR, if_neg c]
theorem rd_94 (t : tape μ b e) : ∀ r j, j + r = e → (J g mX12_readsOn (d + 2) hs P 94 [(0, .ref m)] [] (mw h m (cu μ (nI j) x2 x3 x4)) → True) → P (.inl none) (mw h m (cu μ (nI (letR b (e - j) j)) x2 1 x4)) → J g mX12_readsOn (d + 2) hs P 94 [(0, .ref m)] [] (mw h m (cu μ (nI j) x2 x3 x4)) := by
  have he := t.1.2
  intro r
  induction r with
  | zero =>
    intro j hj _ fin
    have : j = e := by omega
    subst this
    refine wX12_readsOn_94 ⟨_, by rw [cu_a8]; exact m_see (d := d) t.cu he, _, m_isLetter (d := d), fun c => ?_, fun c => ?_⟩
    · rw [cu_10]
      rw [Nat.sub_self] at fin
      exact fin
    · rw [if_neg (Nat.lt_irrefl _)] at c
      exact absurd rfl c
  | succ r ih =>
    intro j hj _ fin
    refine wX12_readsOn_94 ⟨_, by rw [cu_a8]; exact m_see (d := d) t.cu (by omega), _, m_isLetter (d := d), fun c => ?_, fun c => ?_⟩
    · rw [if_pos (by omega), by_let t.2.1] at c
      rw [letR_0 (by rw [bI0 c]; decide)] at fin
      rw [cu_10]
      exact fin
    · rw [if_pos (by omega), by_let t.2.1] at c
      rw [cu_a8, nI_1, cu_8]
      rw [show e - j = (e - (j + 1)) + 1 by omega, letR, if_pos (bI1 c)] at fin
      exact ih (j + 1) (by omega) (fun _ => trivial) fin
theorem p10 : ∀ k, k ≤ 3 → 10 ^ k ≤ 1000 := by decide
/-- a digit more -/
theorem dig_s {v w k : Nat} (hk : k < 3) (hv : v < 10 ^ k) (hw : w < 10) : 10 * v + w < 10 ^ (k + 1) ∧ (10 : Int32) * nI v + nI (48 + w) - 48 = nI (10 * v + w) ∧ jmin (nI v * 10 + nI (48 + w) - 48) 1000 = nI (10 * v + w) := by
  have h3 : 10 ^ k ≤ 100 := by
    rcases (by omega : k = 0 ∨ k = 1 ∨ k = 2) with rfl | rfl | rfl <;> decide
  have tab : ∀ v, v < 100 → ∀ w, w < 10 → (10 : Int32) * nI v + nI (48 + w) - 48 = nI (10 * v + w) ∧ jmin (nI v * 10 + nI (48 + w) - 48) 1000 = nI (10 * v + w) := by decide +kernel
  refine ⟨?_, tab v (by omega) w hw⟩
  rw [Nat.pow_succ]
  omega
theorem digR_0 {f j : Nat} {y : Int32} (c : ¬ isDig (b j) = true) : digR b f j y = (j, y) := by
  cases f with
  | zero => rfl
  | succ f => rw [digR, if_neg c]
theorem rd_141 {s : Nat} (t : tape μ b e) (hs0 : s ≤ 900) (fin : ∀ E0 vl y, digR b (e - (s + 1)) (s + 1) (b s - 48) = (E0, y) → (¬ 3 < E0 - s → vl = y) → P (.inl none) (mw h m (cu μ (nI E0) (nI s) (if 3 < E0 - s then 3 else 2) vl))) : ∀ r j vl y, j + r = e → s < j → digR b (e - (s + 1)) (s + 1) (b s - 48) = digR b (e - j) j y → (j - s ≤ 3 → ∃ v, v < 10 ^ (j - s) ∧ vl = nI v ∧ y = nI v) → J g mX12_readsOn (d + 2) hs P 141 [(0, .ref m)] [] (mw h m (cu μ (nI j) (nI s) x3 vl)) := by
  have he := t.1.2
  have last : ∀ {hs j vl y}, j ≤ e → s < j → digR b (e - (s + 1)) (s + 1) (b s - 48) = (j, y) → (j - s ≤ 3 → ∃ v, v < 10 ^ (j - s) ∧ vl = nI v ∧ y = nI v) → (3 < nI j - nI s → J g mX12_readsOn (d + 2) hs P 231 [] [.int 3, .ref m] (mw h m (cu μ (nI j) (nI s) x3 vl))) ∧ (¬ 3 < nI j - nI s → J g mX12_readsOn (d + 2) hs P 231 [] [.int 2, .ref m] (mw h m (cu μ (nI j) (nI s) x3 vl))) := by
    intro hs j vl y hj hsj hd hv
    have ed : nI j - nI s = nI (j - s) := by
      apply Int32.toInt_inj.mp
      rw [tI_sub (by rw [nI_toInt (by omega), nI_toInt (by omega)]; omega), nI_toInt (by omega), nI_toInt (by omega), nI_toInt (by omega)]
      omega
    rw [ed]
    have z := fin j vl y hd (fun q => by obtain ⟨v, -, e1, e2⟩ := hv (by omega); rw [e1, e2])
    refine ⟨fun c => ?_, fun c => ?_⟩
    · have c := (nI_lti (a := 3) (by omega) (by omega)).mp c
      rw [if_pos c] at z
      refine wX12_readsOn_231 ?_
      rw [cu_10]; exact z
    · have c : ¬ 3 < j - s := fun f => c ((nI_lti (a := 3) (by omega) (by omega)).mpr f)
      rw [if_neg c] at z
      refine wX12_readsOn_231 ?_
      rw [cu_10]; exact z
  intro r
  induction r with
  | zero =>
    intro j vl y hj hsj hd hv
    have : j = e := by omega
    subst this
    refine wX12_readsOn_141 ⟨_, by rw [cu_a8]; exact m_see (d := d) t.cu he, _, m_isDigit (d := d), fun c => ?_, fun c => ?_⟩
    · rw [cu_a8, cu_a9]
      rw [Nat.sub_self] at hd
      exact last (Nat.le_refl _) hsj hd hv
    · rw [if_neg (Nat.lt_irrefl _)] at c
      exact absurd rfl c
  | succ r ih =>
    intro j vl y hj hsj hd hv
    refine wX12_readsOn_141 ⟨_, by rw [cu_a8]; exact m_see (d := d) t.cu (by omega), _, m_isDigit (d := d), fun c => ?_, fun c => ?_⟩
    · rw [if_pos (by omega), by_dig t.2.1] at c
      rw [cu_a8, cu_a9]
      rw [digR_0 (f := e - j) (j := j) (y := y) (by rw [bI0 c]; decide)] at hd
      exact last (by omega) hsj hd hv
    · rw [if_pos (by omega), by_dig t.2.1] at c
      have c := bI1 c
      obtain ⟨d1, w, hw, d2⟩ := by_d t.2.1 c
      have ed : nI j - nI s = nI (j - s) := by
        apply Int32.toInt_inj.mp
        rw [tI_sub (by rw [nI_toInt (by omega), nI_toInt (by omega)]; omega), nI_toInt (by omega), nI_toInt (by omega), nI_toInt (by omega)]
        omega
      rw [show e - j = (e - (j + 1)) + 1 by omega, digR, if_pos c] at hd
      rw [cu_a8, cu_a9, ed]
      refine ⟨fun q => ?_, fun q => ?_⟩
      · have q := (nI_lti (b := 3) (by omega) (by omega)).mp q
        obtain ⟨v, v1, v2, v3⟩ := hv (by omega)
        subst v2
        subst v3
        obtain ⟨g1, g2, g3⟩ := dig_s q v1 hw
        rw [cu_a11, ix_nI (by omega), show (cu μ (nI j) (nI s) x3 (nI v)).2.1 5 j = b j &&& 255 from t.2.2 j (by omega), d1, d2, g2]
        refine ⟨vp_in_nI (by omega) (by decide), wX12_readsOn_196 ?_⟩
        rw [cu_11, cu_a8, nI_1, cu_8]
        refine ih (j + 1) _ (jmin (nI v * 10 + b j - 48) 1000) (by omega) (by omega) hd (fun _ => ⟨10 * v + w, ?_, rfl, ?_⟩)
        · rw [show j + 1 - s = j - s + 1 from Nat.succ_sub (Nat.le_of_lt hsj)]; exact g1
        · rw [d2]; exact g3
      · have q : ¬ j - s < 3 := fun f => q ((nI_lti (b := 3) (by omega) (by omega)).mpr f)
        refine wX12_readsOn_196 ?_
        rw [cu_a11, cu_11, cu_a8, nI_1, cu_8]
        exact ih (j + 1) _ _ (by omega) (by omega) hd (fun f => by omega)
/-- the token that begins at s -/
def tkK (b : Nat → Int32) (e s : Nat) : Int32 := if s < e then (oneF b e s).1 else 0
def tkN (b : Nat → Int32) (e s : Nat) : Int32 := if s < e then (oneF b e s).2.1 else 0
def tkE (b : Nat → Int32) (e s : Nat) : Nat := if s < e then (oneF b e s).2.2 else e
theorem woR_1 {fr to : Nat} : ∀ (f j : Nat) (word : Int32) (a : Nat) (l : Bool), word.toInt + (f : Int) < 2 ^ 31 → 127 < word → mtk (woR b fr to f j word a l) = 1
  | 0, j, word, a, l, _, _ => by rw [woR]; decide
  | f + 1, j, word, a, l, hw, h1 => by
    rw [woR]
    split
    · split
      · unfold mtk
        rw [if_neg (fun c => by rw [c] at h1; exact absurd h1 (by decide)), if_pos (Or.inr h1)]
      · have e1 : (word + 1).toInt = word.toInt + 1 := by
          rw [Int32.lt_iff_toInt_lt, show (127 : Int32).toInt = 127 from rfl] at h1
          rw [tI_add (by rw [show (1 : Int32).toInt = 1 from rfl]; omega)]
          rfl
        refine woR_1 f (j + 1) (word + 1) _ _ (by rw [e1]; omega) ?_
        rw [Int32.lt_iff_toInt_lt, e1] at *
        omega
    · exact woR_1 f (j + 1) word _ _ (by omega) h1
theorem word_1 {fr to : Nat} : mtk (wordF b fr to) = 1 := woR_1 _ _ _ _ _ (by decide) (by decide)
theorem m_readsOn {i0 : Nat} (t : tape μ b e) (hi : i0 ≤ e) : Con g mX12_readsOn (d + 2) [.ref m] (mw h m (cu μ (nI i0) x2 x3 x4)) (wPv h m (fun ν => ∃ vl, (tkK b e (nx b e i0) = 2 → vl = tkN b e (nx b e i0)) ∧ ν = cu μ (nI (tkE b e (nx b e i0))) (nI (nx b e i0)) (mtk (tkK b e (nx b e i0))) vl)) := by
  have he := t.1.2
  obtain ⟨n1, n2⟩ := nx_le (b := b) hi
  refine con_of km_X12_readsOn.1.2.2.2.2 (Nat.le_of_ble_eq_true rfl) rfl (rd_0 t hi ?_)
  generalize nx b e i0 = s at n1 n2 ⊢
  refine wX12_readsOn_52 ?_
  rw [cu_a8, cu_9, cu_a8, show (cu μ (nI s) (nI s) x3 x4).1 7 = nI e from t.1.1, show (cu μ (nI s) (nI s) x3 x4).2.1 5 = μ.2.1 5 from rfl, ix_nI (by omega)]
  refine ⟨fun c => ?_, fun c => ?_⟩
  · have c := (nI_lti (by omega) (by omega)).mp c
    have eK : tkK b e s = (oneF b e s).1 := if_pos c
    have eN : tkN b e s = (oneF b e s).2.1 := if_pos c
    have eE : tkE b e s = (oneF b e s).2.2 := if_pos c
    rw [eK, eN, eE, t.2.2 s c]
    refine ⟨vp_in_nI (by omega) (by decide), _, m_isLetter (d := d), fun q => ?_, fun q => ?_⟩
    · rw [by_let t.2.1] at q
      have ql := bI0 q
      refine ⟨_, m_isDigit (d := d), fun q2 => ?_, fun q2 => ?_⟩
      · rw [by_dig t.2.1] at q2
        have qd := bI0 q2
        have eO : oneF b e s = ((if sgnB (b s) = true then b s else 1), 0, s + 1) := (if_neg (by rw [qd]; decide)).trans (if_neg (by rw [ql]; decide))
        rw [eO]
        refine ⟨_, m_isSignByte (d := d), fun q3 => ?_, fun q3 => ?_⟩
        · rw [by_sgn t.2.1] at q3
          refine wX12_readsOn_250 ?_
          rw [cu_10, cu_a8, nI_1, cu_8, if_neg (by rw [bI0 q3]; decide)]
          exact ⟨_, ⟨x4, fun f => absurd (show (1 : Int32) = 2 from f) (by decide), rfl⟩, rfl⟩
        · rw [by_sgn t.2.1] at q3
          have q3 := bI1 q3
          obtain ⟨z1, z2⟩ := by_s t.2.1 q3
          refine wX12_readsOn_250 ?_
          rw [cu_10, cu_a8, nI_1, cu_8, if_pos q3, z1]
          refine ⟨_, ⟨x4, fun f => ?_, by rw [z2]⟩, rfl⟩
          exfalso
          have f : b s = 2 := f
          rw [f] at q3
          exact absurd q3 (by decide)
      · rw [by_dig t.2.1] at q2
        have qd := bI1 q2
        obtain ⟨d1, w, hw, d2⟩ := by_d t.2.1 qd
        have eO : oneF b e s = ((if 3 < (digR b (e - (s + 1)) (s + 1) (b s - 48)).1 - s then 1 else 2), (digR b (e - (s + 1)) (s + 1) (b s - 48)).2, (digR b (e - (s + 1)) (s + 1) (b s - 48)).1) := if_pos qd
        rw [cu_11]
        -- the first digit
        refine wX12_readsOn_141 ⟨_, by rw [cu_a8]; exact m_see (d := d) t.cu (by omega), _, m_isDigit (d := d), fun f => ?_, fun _ => ?_⟩
        · rw [if_pos c, by_dig t.2.1, qd] at f
          exact absurd f (by decide)
        · rw [cu_a8, cu_a9, show nI s - nI s = 0 from Int32.sub_self _]
          refine ⟨fun _ => ?_, fun f => absurd (by decide) f⟩
          rw [cu_a11, ix_nI (by omega), show (cu μ (nI s) (nI s) x3 0).2.1 5 s = b s &&& 255 from t.2.2 s c, d1]
          refine ⟨vp_in_nI (by omega) (by decide), wX12_readsOn_196 ?_⟩
          rw [cu_11, cu_a8, nI_1, cu_8]
          have e0 : (10 : Int32) * 0 + b s - 48 = nI w := by
            rw [d2]
            have tab : ∀ w, w < 10 → (10 : Int32) * 0 + nI (48 + w) - 48 = nI w := by decide
            exact tab w hw
          have e1 : b s - 48 = nI w := by
            rw [d2]
            have tab : ∀ w, w < 10 → nI (48 + w) - 48 = nI w := by decide
            exact tab w hw
          rw [e0]
          refine rd_141 t (by omega) (fun E0 vl y hd hv => ?_) (e - (s + 1)) (s + 1) (nI w) (b s - 48) (by omega) (by omega) rfl (fun _ => ⟨w, by rw [Nat.add_sub_cancel_left]; omega, rfl, e1⟩)
          rw [eO, hd]
          by_cases q5 : 3 < E0 - s
          · rw [if_pos q5, if_pos q5]
            exact ⟨_, ⟨vl, fun f => absurd (show (1 : Int32) = 2 from f) (by decide), rfl⟩, rfl⟩
          · rw [if_neg q5, if_neg q5]
            exact ⟨_, ⟨vl, fun _ => hv q5, rfl⟩, rfl⟩
    · rw [by_let t.2.1] at q
      have ql := bI1 q
      have qd : isDig (b s) = false := by
        obtain ⟨n, hn, en⟩ := t.2.1 s
        rw [en] at ql ⊢
        have tab : ∀ n, n < 256 → isLet (nI n - 128) = true → isDig (nI n - 128) = false := by decide +kernel
        exact tab n hn ql
      have eO : oneF b e s = (wordF b s (letR b (e - (s + 1)) (s + 1)), 0, letR b (e - (s + 1)) (s + 1)) := (if_neg (by rw [qd]; decide)).trans (if_pos ql)
      rw [eO]
      refine rd_94 t (e - s) s (by omega) (fun _ => trivial) ?_
      have e5 : letR b (e - s) s = letR b (e - (s + 1)) (s + 1) := by
        rw [show e - s = (e - (s + 1)) + 1 by omega, letR, if_pos ql]
      rw [e5]
      refine ⟨_, ⟨x4, fun f => ?_, by rw [word_1]⟩, rfl⟩
      exfalso
      have w1 := word_1 (b := b) (fr := s) (to := letR b (e - (s + 1)) (s + 1))
      have f : wordF b s (letR b (e - (s + 1)) (s + 1)) = 2 := f
      rw [f] at w1
      exact absurd w1 (by decide)
  · have c : ¬ s < e := fun f => c ((nI_lti (by omega) (by omega)).mpr f)
    have es : s = e := by omega
    have eK : tkK b e s = 0 := if_neg c
    have eE : tkE b e s = e := if_neg c
    rw [cu_10, eK, eE]
    refine ⟨_, ⟨x4, fun f => absurd f (by decide), ?_⟩, rfl⟩
    rw [es]
    rfl
end MT2
