/-! The reference's place in the text -/
def tkS (b : Nat → Int32) (e : Nat) : Nat → Nat
  | 0 => nx b e 0
  | p + 1 => nx b e (tkE b e (tkS b e p))
/-- the tokens K, N (n of them) are those of the bytes b -/
def TT (K N : Nat → Int32) (n : Nat) (b : Nat → Int32) (e : Nat) : Prop := ((0 < n ∧ n ≤ 901) ∧ K (n - 1) = 0) ∧ (∀ p, p < n → K p = tkK b e (tkS b e p) ∧ N p = tkN b e (tkS b e p)) ∧ ∀ p, K p = 2 → ∃ j, j < 1000 ∧ N p = nI j
/-- the reference stands at token p -/
def atP (K N : Nat → Int32) (b : Nat → Int32) (e : Nat) (μ : MW) (p : Nat) : Prop := (μ.1 8 = nI (tkE b e (tkS b e p)) ∧ μ.1 9 = nI (tkS b e p)) ∧ μ.1 10 = mtk (K p) ∧ (K p = 2 → μ.1 11 = N p) ∧ μ.1 12 = 0
/-- the reference blames token q -/
def Bd (K : Nat → Int32) (b : Nat → Int32) (e : Nat) (μ : MW) (k : Int32) (q : Nat) : Prop := (μ.1 12 = (if K q = 1 then 1 else k) ∧ ¬ k = 0) ∧ μ.1 13 = nI (tkS b e q)
abbrev pc (μ ν : MW) : Prop := dif [8, 9, 10, 11] [] μ ν
abbrev pb (μ ν : MW) : Prop := dif [8, 9, 10, 11, 12, 13] [] μ ν
def wcode (k : Nat) : Int32 := nI (128 + wix k)
section MPL
variable {g : jG} {d : Nat} {h hs : jH} {m : Nat} {μ ν : MW} {i k w : Int32} {b : Nat → Int32} {e n p : Nat} {K N : Nat → Int32} {c lo hi : Int32}
theorem pc.pb {a b : MW} (x : pc a b) : pb a b := x.up (by decide) (by decide)
theorem pb.ta {a ν : MW} (x : pb a ν) (t : tape a b e) : tape ν b e := ⟨⟨(x.1 7 (by decide)).trans t.1.1, t.1.2⟩, t.2.1, fun j hj => by rw [x.2.2 5 (by decide)]; exact t.2.2 j hj⟩
theorem cu_pc {x1 x2 x3 x4 : Int32} : pc μ (cu μ x1 x2 x3 x4) := (((dif_I (by decide) _).tr (dif_I (by decide) _)).tr (dif_I (by decide) _)).tr (dif_I (by decide) _)
theorem oneF_E {s : Nat} (hs : s < e) : s < tkE b e s ∧ tkE b e s ≤ e := by
  unfold tkE
  rw [if_pos hs]
  exact oneF_le b hs
theorem tkE_le {s : Nat} (hs : s ≤ e) : s ≤ tkE b e s ∧ tkE b e s ≤ e := by
  by_cases c : s < e
  · have := oneF_E (b := b) c
    omega
  · unfold tkE
    rw [if_neg c]
    omega
theorem tkS_le : ∀ p, tkS b e p ≤ e
  | 0 => (nx_le (Nat.zero_le e)).2
  | p + 1 => (nx_le (tkE_le (tkS_le p)).2).2
theorem Bd.ne (x : Bd K b e μ k p) : ¬ μ.1 12 = 0 := by
  rw [x.1.1]
  by_cases c : K p = 1
  · rw [if_pos c]; decide
  · rw [if_neg c]; exact x.1.2
theorem mtk_s (h1 : ¬ c = 1) (h3 : ¬ c = 3) (h7 : ¬ 127 < c) {x : Int32} : mtk x = c ↔ x = c := by
  unfold mtk
  constructor
  · intro f
    by_cases q : x = 1
    · rw [if_pos q] at f; exact absurd f.symm h3
    · rw [if_neg q] at f
      by_cases q2 : x = 3 ∨ 127 < x
      · rw [if_pos q2] at f; exact absurd f.symm h1
      · rw [if_neg q2] at f; exact f
  · intro f
    subst f
    rw [if_neg h1, if_neg (fun q => q.elim h3 h7)]
theorem mtk_3 {x : Int32} : mtk x = 3 ↔ x = 1 := by
  unfold mtk
  constructor
  · intro f
    by_cases q : x = 1
    · exact q
    · rw [if_neg q] at f
      by_cases q2 : x = 3 ∨ 127 < x
      · rw [if_pos q2] at f; exact absurd f (by decide)
      · rw [if_neg q2] at f; exact absurd (Or.inl f) q2
  · intro f
    rw [if_pos f]
theorem TT.nx (x : TT K N n b e) (hp : p < n) (c : ¬ K p = 0) : p + 1 < n := by
  by_cases q : p = n - 1
  · rw [q, x.1.2] at c; exact absurd rfl c
  · omega
/-- on to the next token -/
theorem m_goOn (t : tape μ b e) (X : TT K N n b e) (hp : p < n) (c : ¬ K p = 0) (a : atP K N b e μ p) : Con g mX12_readsOn (d + 2) [.ref m] (mw h m μ) (wPv h m (fun ν => pc μ ν ∧ atP K N b e ν (p + 1))) := by
  obtain ⟨⟨a8, a9⟩, a10, a11, a12⟩ := a
  have hp2 := X.nx hp c
  have e0 : cu μ (nI (tkE b e (tkS b e p))) (μ.1 9) (μ.1 10) (μ.1 11) = μ := by rw [← a8, cu_self]
  have C := m_readsOn (g := g) (d := d) (h := h) (m := m) (x2 := μ.1 9) (x3 := μ.1 10) (x4 := μ.1 11) (i0 := tkE b e (tkS b e p)) t (tkE_le (b := b) (s := tkS b e p) (tkS_le p)).2
  rw [e0] at C
  refine C.pv (fun h' q => ?_) (fun E h' f => f)
  obtain ⟨ν, ⟨vl, hv, rfl⟩, q2⟩ := q
  obtain ⟨k1, k2⟩ := X.2.1 (p + 1) hp2
  have k1 : K (p + 1) = tkK b e (nx b e (tkE b e (tkS b e p))) := k1
  have k2 : N (p + 1) = tkN b e (nx b e (tkE b e (tkS b e p))) := k2
  refine ⟨_, ⟨cu_pc, ⟨rfl, rfl⟩, ?_, ?_, a12⟩, q2⟩
  · show mtk _ = _
    rw [k1]
  · intro f
    show vl = _
    rw [k1] at f
    rw [k2]
    exact hv f
/-- the first token -/
theorem m_first (t : tape μ b e) (X : TT K N n b e) (a8 : μ.1 8 = 0) (a12 : μ.1 12 = 0) : Con g mX12_readsOn (d + 2) [.ref m] (mw h m μ) (wPv h m (fun ν => pc μ ν ∧ atP K N b e ν 0)) := by
  have e0 : cu μ (nI 0) (μ.1 9) (μ.1 10) (μ.1 11) = μ := by rw [show nI 0 = μ.1 8 from a8.symm, cu_self]
  have C := m_readsOn (g := g) (d := d) (h := h) (m := m) (x2 := μ.1 9) (x3 := μ.1 10) (x4 := μ.1 11) t (Nat.zero_le e)
  rw [e0] at C
  refine C.pv (fun h' q => ?_) (fun E h' f => f)
  obtain ⟨ν, ⟨vl, hv, rfl⟩, q2⟩ := q
  obtain ⟨k1, k2⟩ := X.2.1 0 X.1.1.1
  have k1 : K 0 = tkK b e (nx b e 0) := k1
  have k2 : N 0 = tkN b e (nx b e 0) := k2
  refine ⟨_, ⟨cu_pc, ⟨rfl, rfl⟩, ?_, ?_, a12⟩, q2⟩
  · show mtk _ = _
    rw [k1]
  · intro f
    show vl = _
    rw [k1] at f
    rw [k2]
    exact hv f
/-! blame -/
theorem m_blames (a : atP K N b e μ p) (hk : ¬ k = 0) : Con g mX12_blames (d + 1) [.ref m, .int k] (mw h m μ) (wPv h m (fun ν => pb μ ν ∧ Bd K b e ν k p)) := by
  obtain ⟨⟨a8, a9⟩, a10, a11, a12⟩ := a
  have fin : ∀ {v}, v = (if K p = 1 then 1 else k) → pb μ (mI (mI μ 12 v) 13 ((mI μ 12 v).1 9)) ∧ Bd K b e (mI (mI μ 12 v) 13 ((mI μ 12 v).1 9)) k p := fun hv =>
    ⟨(dif_I (by decide) _).tr (dif_I (by decide) _), ⟨hv, hk⟩, a9⟩
  refine con_of km_X12_blames.1.2.2.2.2 (Nat.le_of_ble_eq_true rfl) rfl (wX12_blames_0 ⟨fun _ => ⟨fun f => wX12_blames_22 ⟨_, fin ?_, rfl⟩, fun f => wX12_blames_22 ⟨_, fin ?_, rfl⟩⟩, fun f => absurd a12 f⟩)
  · rw [a10] at f
    rw [if_pos (mtk_3.mp f)]
  · rw [a10] at f
    rw [if_neg (fun q => f (mtk_3.mpr q))]
theorem m_blames_b (a : ¬ μ.1 12 = 0) : Con g mX12_blames (d + 1) [.ref m, .int k] (mw h m μ) (wPv h m (fun ν => ν = μ)) :=
  con_of km_X12_blames.1.2.2.2.2 (Nat.le_of_ble_eq_true rfl) rfl (wX12_blames_0 ⟨fun f => absurd f a, fun _ => ⟨_, rfl, rfl⟩⟩)
/-! signs -/
theorem m_isSignP (a : atP K N b e μ p) (h1 : ¬ c = 1) (h3 : ¬ c = 3) (h7 : ¬ 127 < c) : Con g mX12_isSign (d + 1) [.ref m, .int c] (mw h m μ) (wv h m μ (bI (decide (K p = c)))) := by
  obtain ⟨⟨a8, a9⟩, a10, a11, a12⟩ := a
  refine con_of km_X12_isSign.1.2.2.2.2 (Nat.le_of_ble_eq_true rfl) rfl (wX12_isSign_0 ⟨fun _ => ⟨fun f => ⟨?_, rfl⟩, fun f => ⟨?_, rfl⟩⟩, fun f => absurd a12 f⟩)
  · rw [a10] at f
    rw [decide_eq_true ((mtk_s h1 h3 h7).mp f)]; rfl
  · rw [a10] at f
    rw [decide_eq_false (fun q => f ((mtk_s h1 h3 h7).mpr q))]; rfl
theorem m_isSign_b (a : ¬ μ.1 12 = 0) : Con g mX12_isSign (d + 1) [.ref m, .int c] (mw h m μ) (wv h m μ 0) :=
  con_of km_X12_isSign.1.2.2.2.2 (Nat.le_of_ble_eq_true rfl) rfl (wX12_isSign_0 ⟨fun f => absurd f a, fun _ => ⟨rfl, rfl⟩⟩)
theorem m_mustSign (t : tape μ b e) (X : TT K N n b e) (hp : p < n) (a : atP K N b e μ p) (h0 : ¬ c = 0) (h1 : ¬ c = 1) (h3 : ¬ c = 3) (h7 : ¬ 127 < c) : Con g mX12_mustSign (d + 3) [.ref m, .int c] (mw h m μ) (wPv h m (fun ν => pb μ ν ∧ ((K p = c ∧ p + 1 < n ∧ atP K N b e ν (p + 1)) ∨ (¬ K p = c ∧ Bd K b e ν 2 p)))) := by
  obtain ⟨⟨a8, a9⟩, a10, a11, a12⟩ := a
  refine con_of km_X12_mustSign.1.2.2.2.2 (Nat.le_of_ble_eq_true rfl) rfl (wX12_mustSign_0 ⟨fun f => ?_, fun f => ?_⟩)
  · rw [a10] at f
    have f := (mtk_s h1 h3 h7).mp f
    have f0 : ¬ K p = 0 := by rw [f]; exact h0
    refine wX12_mustSign_13 ⟨fun _ => ⟨_, m_goOn (d := d) t X hp f0 ⟨⟨a8, a9⟩, a10, a11, a12⟩, fun ν q => ⟨_, ⟨q.1.pb, Or.inl ⟨f, X.nx hp f0, q.2⟩⟩, rfl⟩⟩, fun q => absurd a12 q⟩
  · rw [a10] at f
    refine ⟨_, m_blames (d := d + 1) (k := 2) ⟨⟨a8, a9⟩, a10, a11, a12⟩ (by decide), fun ν q => ?_⟩
    exact wX12_mustSign_13 ⟨fun z => absurd z q.2.ne, fun _ => ⟨_, ⟨q.1, Or.inr ⟨fun z => f ((mtk_s h1 h3 h7).mpr z), q.2⟩⟩, rfl⟩⟩
theorem m_mustSign_b (a : ¬ μ.1 12 = 0) : Con g mX12_mustSign (d + 3) [.ref m, .int c] (mw h m μ) (wPv h m (fun ν => ν = μ)) := by
  have last : ∀ {hs}, J g mX12_mustSign (d + 3) hs (wPv h m (fun ν => ν = μ)) 13 [(0, .ref m)] [] (mw h m μ) := wX12_mustSign_13 ⟨fun f => absurd f a, fun _ => ⟨_, rfl, rfl⟩⟩
  refine con_of km_X12_mustSign.1.2.2.2.2 (Nat.le_of_ble_eq_true rfl) rfl (wX12_mustSign_0 ⟨fun f => last, fun f => ⟨_, m_blames_b (d := d + 1) a, fun ν q => ?_⟩⟩)
  rw [q]
  exact last
/-! words -/
theorem tk_word (hp : tkS b e p < e) (hc : mtk (oneF b e (tkS b e p)).1 = 1 ∨ 127 < (oneF b e (tkS b e p)).1) (B : byt b) : (oneF b e (tkS b e p)).1 = wordF b (tkS b e p) (oneF b e (tkS b e p)).2.2 := by
  generalize tkS b e p = s at hp hc ⊢
  by_cases qd : isDig (b s) = true
  · exfalso
    have eO : oneF b e s = ((if 3 < (digR b (e - (s + 1)) (s + 1) (b s - 48)).1 - s then 1 else 2), (digR b (e - (s + 1)) (s + 1) (b s - 48)).2, (digR b (e - (s + 1)) (s + 1) (b s - 48)).1) := if_pos qd
    rw [eO] at hc
    by_cases c3 : 3 < (digR b (e - (s + 1)) (s + 1) (b s - 48)).1 - s
    · rw [if_pos c3] at hc
      exact hc.elim (fun f => absurd (show mtk 1 = 1 from f) (by decide)) (fun f => absurd (show (127 : Int32) < 1 from f) (by decide))
    · rw [if_neg c3] at hc
      exact hc.elim (fun f => absurd (show mtk 2 = 1 from f) (by decide)) (fun f => absurd (show (127 : Int32) < 2 from f) (by decide))
  · by_cases ql : isLet (b s) = true
    · have eO : oneF b e s = (wordF b s (letR b (e - (s + 1)) (s + 1)), 0, letR b (e - (s + 1)) (s + 1)) := (if_neg qd).trans (if_pos ql)
      rw [eO]
    · exfalso
      have eO : oneF b e s = ((if sgnB (b s) = true then b s else 1), 0, s + 1) := (if_neg qd).trans (if_neg ql)
      rw [eO] at hc
      by_cases c3 : sgnB (b s) = true
      · rw [if_pos c3] at hc
        obtain ⟨n, hn, en⟩ := B s
        rw [en] at hc c3
        have tab : ∀ n, n < 256 → sgnB (nI n - 128) = true → ¬ (mtk (nI n - 128) = 1 ∨ 127 < nI n - 128) := by decide +kernel
        exact tab n hn c3 hc
      · rw [if_neg c3] at hc
        exact hc.elim (fun f => absurd (show mtk 1 = 1 from f) (by decide)) (fun f => absurd (show (127 : Int32) < 1 from f) (by decide))
theorem wc_tab : ∀ k, k < 37 → 17 ≤ k → 127 < wcode k ∧ mtk (wcode k) = 1 ∧ ¬ wcode k = 0 := by decide +kernel
theorem m_isWordP {k : Nat} (t : tape μ b e) (X : TT K N n b e) (hp : p < n) (a : atP K N b e μ p) (hk : k < 37) (hk2 : 17 ≤ k) : Con g mX12_isWord (d + 5) [.ref m, .ref (gS g k)] (mw h m μ) (wv h m μ (bI (decide (K p = wcode k)))) := by
  obtain ⟨⟨a8, a9⟩, a10, a11, a12⟩ := a
  obtain ⟨l1, l2⟩ := tkE_le (b := b) (e := e) (s := tkS b e p) (tkS_le p)
  have C := m_isWord (g := g) (d := d) (h := h) (m := m) t hk hk2 a9 a8 l1 l2
  obtain ⟨w1, w2, -⟩ := wix_s k hk hk2
  obtain ⟨t1, t2, t3⟩ := wc_tab k hk hk2
  have eK : K p = tkK b e (tkS b e p) := (X.2.1 p hp).1
  have E : (μ.1 12 = 0 ∧ μ.1 10 = 1 ∧ mtc b (tkS b e p) (tkE b e (tkS b e p)) (sB k) = true) ↔ K p = wcode k := by
    rw [← w1]
    by_cases c : tkS b e p < e
    · have eK2 : K p = (oneF b e (tkS b e p)).1 := eK.trans (if_pos c)
      have eE : tkE b e (tkS b e p) = (oneF b e (tkS b e p)).2.2 := if_pos c
      rw [eE, ← word_iff w2]
      constructor
      · rintro ⟨-, f1, f2⟩
        rw [a10, eK2] at f1
        rw [eK2, tk_word c (Or.inl f1) t.2.1]
        exact f2
      · intro f
        refine ⟨a12, by rw [a10, f]; exact t2, ?_⟩
        rw [eK2] at f
        rw [← tk_word c (Or.inr (by rw [f]; exact t1)) t.2.1]
        exact f
    · have eK2 : K p = 0 := eK.trans (if_neg c)
      constructor
      · rintro ⟨-, f1, -⟩
        rw [a10, eK2] at f1
        exact absurd f1 (by decide)
      · intro f
        rw [eK2] at f
        exact absurd f.symm t3
  have e2 : decide (μ.1 12 = 0 ∧ μ.1 10 = 1 ∧ mtc b (tkS b e p) (tkE b e (tkS b e p)) (sB k) = true) = decide (K p = wcode k) := decide_eq_decide.mpr E
  rw [e2] at C
  exact C
theorem m_isWord_b {k : Nat} (hk : k < 37) (a : ¬ μ.1 12 = 0) : Con g mX12_isWord (d + 5) [.ref m, .ref (gS g k)] (mw h m μ) (wv h m μ 0) :=
  con_of km_X12_isWord.1.2.2.2.2 (Nat.le_of_ble_eq_true rfl) rfl (wX12_isWord_0 ⟨fun f => absurd f a, fun _ => wX12_isWord_39 ⟨fun _ => ⟨Or.inl rfl, rfl, rfl⟩, fun f => absurd rfl f⟩⟩)
theorem m_took {k : Nat} (t : tape μ b e) (X : TT K N n b e) (hp : p < n) (a : atP K N b e μ p) (hk : k < 37) (hk2 : 17 ≤ k) : Con g mX12_took (d + 6) [.ref m, .ref (gS g k)] (mw h m μ) (wPi h m (fun r ν => (K p = wcode k ∧ r = 1 ∧ pc μ ν ∧ p + 1 < n ∧ atP K N b e ν (p + 1)) ∨ (¬ K p = wcode k ∧ r = 0 ∧ ν = μ))) := by
  obtain ⟨t1, t2, t3⟩ := wc_tab k hk hk2
  refine con_of km_X12_took.1.2.2.2.2 (Nat.le_of_ble_eq_true rfl) rfl (wX12_took_0 ⟨_, m_isWordP (d := d) t X hp a hk hk2, fun f => ⟨Or.inl f, _, Or.inr ⟨of_decide_eq_false (bI0 f), f, rfl⟩, rfl⟩, fun f => ?_⟩)
  have f2 := of_decide_eq_true (bI1 f)
  have f0 : ¬ K p = 0 := by rw [f2]; exact t3
  have e1 : bI (decide (K p = wcode k)) = 1 := by rw [bI1 f]; rfl
  exact ⟨_, m_goOn (d := d + 3) t X hp f0 a, fun ν q => ⟨Or.inr e1, _, Or.inl ⟨f2, e1, q.1, X.nx hp f0, q.2⟩, rfl⟩⟩
theorem m_took_b {k : Nat} (hk : k < 37) (a : ¬ μ.1 12 = 0) : Con g mX12_took (d + 6) [.ref m, .ref (gS g k)] (mw h m μ) (wPi h m (fun r ν => r = 0 ∧ ν = μ)) :=
  con_of km_X12_took.1.2.2.2.2 (Nat.le_of_ble_eq_true rfl) rfl (wX12_took_0 ⟨_, m_isWord_b (d := d) hk a, fun _ => ⟨Or.inl rfl, _, ⟨rfl, rfl⟩, rfl⟩, fun f => absurd rfl f⟩)
theorem m_mustWord {k : Nat} (t : tape μ b e) (X : TT K N n b e) (hp : p < n) (a : atP K N b e μ p) (hk : k < 37) (hk2 : 17 ≤ k) : Con g mX12_mustWord (d + 7) [.ref m, .ref (gS g k)] (mw h m μ) (wPv h m (fun ν => pb μ ν ∧ ((K p = wcode k ∧ p + 1 < n ∧ atP K N b e ν (p + 1)) ∨ (¬ K p = wcode k ∧ Bd K b e ν 2 p)))) := by
  refine con_of km_X12_mustWord.1.2.2.2.2 (Nat.le_of_ble_eq_true rfl) rfl (wX12_mustWord_0 ⟨_, m_took (d := d) t X hp a hk hk2, fun r ν q => ?_⟩)
  rcases q with ⟨q1, q2, q3, q4, q5⟩ | ⟨q1, q2, q3⟩
  · subst q2
    exact ⟨fun f => absurd f (by decide), fun _ => ⟨_, ⟨q3.pb, Or.inl ⟨q1, q4, q5⟩⟩, rfl⟩⟩
  · subst q2
    subst q3
    exact ⟨fun _ => ⟨_, m_blames (d := d + 5) (k := 2) a (by decide), fun ν q => ⟨_, ⟨q.1, Or.inr ⟨q1, q.2⟩⟩, rfl⟩⟩, fun f => absurd rfl f⟩
theorem m_mustWord_b {k : Nat} (hk : k < 37) (a : ¬ μ.1 12 = 0) : Con g mX12_mustWord (d + 7) [.ref m, .ref (gS g k)] (mw h m μ) (wPv h m (fun ν => ν = μ)) := by
  refine con_of km_X12_mustWord.1.2.2.2.2 (Nat.le_of_ble_eq_true rfl) rfl (wX12_mustWord_0 ⟨_, m_took_b (d := d) hk a, fun r ν q => ?_⟩)
  obtain ⟨rfl, rfl⟩ := q
  exact ⟨fun _ => ⟨_, m_blames_b (d := d + 5) a, fun ν q => ⟨_, q, rfl⟩⟩, fun f => absurd rfl f⟩
/-! numbers -/
def aNumK (K N : Nat → Int32) (most : Int32) (p : Nat) : Pr Int32 := aNum K N most p
theorem m_number {most : Nat} (hm : most < 1000) (t : tape μ b e) (X : TT K N n b e) (hp : p < n) (a : atP K N b e μ p) : Con g mX12_number (d + 3) [.ref m, .int 0, .int (nI most)] (mw h m μ) (wPi h m (fun r ν => pb μ ν ∧ match aNum K N (nI most) p with
  | .inl (k, q) => Bd K b e ν k q ∧ r = 0
  | .inr (v, q) => atP K N b e ν q ∧ r = v ∧ q = p + 1 ∧ q < n)) := by
  obtain ⟨⟨a8, a9⟩, a10, a11, a12⟩ := a
  have a : atP K N b e μ p := ⟨⟨a8, a9⟩, a10, a11, a12⟩
  unfold aNum
  have bad : ∀ {hs} {k : Int32} {ν : MW}, pb μ ν → Bd K b e ν k p → J g mX12_number (d + 3) hs (wPi h m (fun r ν => pb μ ν ∧ match (.inl (k, p) : Pr Int32) with
    | .inl (k, q) => Bd K b e ν k q ∧ r = 0
    | .inr (v, q) => atP K N b e ν q ∧ r = v ∧ q = p + 1 ∧ q < n)) 36 [(0, .ref m), (1, .int 0)] [] (mw h m ν) := fun q1 q2 =>
    wX12_number_36 ⟨fun f => absurd f q2.ne, fun _ => wX12_number_52 ⟨fun f => absurd f q2.ne, fun _ => ⟨_, ⟨q1, q2, rfl⟩, rfl⟩⟩⟩
  refine con_of km_X12_number.1.2.2.2.2 (Nat.le_of_ble_eq_true rfl) rfl (wX12_number_0 ⟨fun f => ?_, fun f => ?_⟩)
  · rw [a10] at f
    have f := (mtk_s (c := 2) (by decide) (by decide) (by decide)).mp f
    obtain ⟨j, hj, ej⟩ := X.2.2 p f
    have v11 := a11 f
    have f0 : ¬ K p = 0 := by rw [f]; decide
    have ein : inL (μ.1 11).toInt64 (0 : Int32).toInt64 (nI most).toInt64 = decide (j ≤ most) := by
      rw [inL_n (a := 0) (b := nI most) rfl rfl, v11, ej]
      unfold inN
      refine decide_eq_decide.mpr ?_
      rw [Int32.lt_iff_toInt_lt, Int32.lt_iff_toInt_lt, nI_toInt (by omega), nI_toInt (by omega), show (0 : Int32).toInt = 0 from rfl]
      omega
    rw [if_pos f]
    refine ⟨_, m_within (d := d + 1), fun q => ?_, fun q => ?_⟩
    · rw [ein] at q
      have q := of_decide_eq_false (bI0 q)
      rw [if_pos (show nI most < N p by rw [ej]; exact (nI_lti (by omega) (by omega)).mpr (by omega))]
      exact ⟨_, m_blames (d := d + 1) (k := 3) a (by decide), fun ν q => bad q.1 q.2⟩
    · rw [ein] at q
      have q := of_decide_eq_true (bI1 q)
      rw [if_neg (show ¬ nI most < N p by rw [ej]; exact fun z => by have := (nI_lti (by omega) (by omega)).mp z; omega)]
      refine wX12_number_36 ⟨fun _ => ⟨_, m_goOn (d := d) t X hp f0 a, fun ν q => ?_⟩, fun z => absurd a12 z⟩
      exact wX12_number_52 ⟨fun _ => ⟨_, ⟨q.1.pb, q.2, v11, rfl, X.nx hp f0⟩, rfl⟩, fun z => absurd q.2.2.2.2 z⟩
  · rw [a10] at f
    rw [if_neg (fun z => f ((mtk_s (c := 2) (by decide) (by decide) (by decide)).mpr z))]
    exact ⟨_, m_blames (d := d + 1) (k := 2) a (by decide), fun ν q => bad q.1 q.2⟩
theorem m_number_b (a : ¬ μ.1 12 = 0) : Con g mX12_number (d + 3) [.ref m, .int lo, .int hi] (mw h m μ) (wPi h m (fun r ν => r = lo ∧ ν = μ)) := by
  have last : ∀ {hs}, J g mX12_number (d + 3) hs (wPi h m (fun r ν => r = lo ∧ ν = μ)) 36 [(0, .ref m), (1, .int lo)] [] (mw h m μ) := wX12_number_36 ⟨fun f => absurd f a, fun _ => wX12_number_52 ⟨fun f => absurd f a, fun _ => ⟨_, ⟨rfl, rfl⟩, rfl⟩⟩⟩
  refine con_of km_X12_number.1.2.2.2.2 (Nat.le_of_ble_eq_true rfl) rfl (wX12_number_0 ⟨fun f => ⟨_, m_within (d := d + 1), fun _ => ⟨_, m_blames_b (d := d + 1) a, fun ν q => by rw [q]; exact last⟩, fun _ => last⟩, fun f => ⟨_, m_blames_b (d := d + 1) a, fun ν q => by rw [q]; exact last⟩⟩)
end MPL
