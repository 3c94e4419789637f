/-! The two agree: the search's end -/
section TSE
variable {T : Td} {lim : Int32} {σ α ν : St} {n m i j k N : Nat} {ω : CW} {p q p' : Nat → Nat} {all : Int32} {os : Os} {b : Nat → Int32} {t : Nat}
theorem note_0 (hn : n = sN ν) (h7 : n ≤ 7) (B : stB ν) (hp : ∀ i, i < n → p i < n) {l : List Nat} (hl : agr n p (lAt l)) (hH : os.2.2.2.1 = p) (e8 : os.1 0 = 8) : osR n (noteF os (lostBy T ν N p (os.1 0))) (goF (lostO T ν N) n l (536870912, 0, b)) ∧ ∃ k, k < 1000 ∧ (noteF os (lostBy T ν N p (os.1 0))).1 0 = nI k := by
  have Bm : stB (mvS ν p n) := stB_mv (p := p) B (by rw [← hn]; exact hp) n (by omega)
  have em : mvS ν p (sN ν) = mvS ν (lAt l) (sN ν) := mvS_cg (n := n) _ (by omega) hl
  have el : lostO T ν N l = lsV T (mvS ν p n) N := by
    unfold lostO lsV
    rw [← em, ← hn]
  obtain ⟨k1, k2, k3⟩ := los_kk (T := T) (N := N) (k := 8) Bm (by decide)
  have eb : lostBy T ν N p (os.1 0) = lostN T T.1.2.2 (mvS ν p n) (losI T T.1.2.2 (mvS ν p n) (nI 8) N 0) := by
    unfold lostBy
    rw [e8, ← hn]
    rfl
  have l7 := lst_7 (T := T) (lim := T.1.2.2) Bm N
  have ev : lsV T (mvS ν p n) N = nI (lstC T T.1.2.2 (mvS ν p n) N) := rfl
  have c1 : lsV T (mvS ν p n) N < nI 8 := by rw [ev]; exact (nI_lti (by omega) (by omega)).mpr (by omega)
  have c2 : lsV T (mvS ν p n) N < 536870912 := by
    rw [ev]
    exact (nI_lti (b := 536870912) (by omega) (by omega)).mpr (by omega)
  unfold noteF goF
  rw [el, eb, e8, if_pos (show _ < (8 : Int32) from k1.mpr c1), if_pos c2, k2 c1]
  refine ⟨⟨rfl, rfl, fun i hi => ?_⟩, lstC T T.1.2.2 (mvS ν p n) N, by omega, rfl⟩
  show cpy7 (fun i => nI (os.2.2.2.1 i)) os.2.2.1 i = if i < n then nI (lAt l i) else b i
  rw [if_pos hi, hH, ← hl i hi]
  show va_cpy _ _ (0 : Int32).toNatClampNeg (0 : Int32).toNatClampNeg (7 : Int32).toNatClampNeg i = _
  rw [show (0 : Int32).toNatClampNeg = 0 from rfl, show (7 : Int32).toNatClampNeg = 7 from rfl]
  unfold va_cpy
  rw [if_pos (by omega)]
  simp
theorem note_f {x : Int32} : (noteF os x).1 3 = os.1 3 ∧ (noteF os x).1 2 = os.1 2 ∧ (noteF os x).2.1 = os.2.1 ∧ (noteF os x).2.2.2 = os.2.2.2 := by
  unfold noteF
  split
  · exact ⟨rfl, rfl, rfl, rfl⟩
  · split <;> exact ⟨rfl, rfl, rfl, rfl⟩
theorem lostO_0 (h7 : sN ν ≤ 7) (l : List Nat) : ¬ lostO T ν N l < 0 := by
  have e : sN (mvS ν (lAt l) (sN ν)) = sN ν := by unfold sN; rw [mvS_1]
  have := bcnt_max (lstB T (mvS ν (lAt l) (sN ν)) N) (sN (mvS ν (lAt l) (sN ν)))
  unfold lostO lstN
  rw [Int32.lt_iff_toInt_lt, nI_toInt (by omega), show (0 : Int32).toInt = 0 from rfl]
  omega
theorem fold_0 (h7 : sN ν ≤ 7) : ∀ (L : List (List Nat)) (a : Go), a.1 = 0 → (L.foldl (fun a l => goF (lostO T ν N) n l a) a).1 = 0 ∧ (L.foldl (fun a l => goF (lostO T ν N) n l a) a).2.2 = a.2.2
  | [], a, h => ⟨h, rfl⟩
  | l :: L, a, h => by
    have e : goF (lostO T ν N) n l a = (a.1, a.2.1 + (if lostO T ν N l = a.1 then 1 else 0), a.2.2) := if_neg (by rw [h]; exact lostO_0 h7 l)
    obtain ⟨h1, h2⟩ := fold_0 h7 L (goF (lostO T ν N) n l a) (by rw [e]; exact h)
    exact ⟨h1, h2.trans (by rw [e])⟩
theorem lf_lt {l : List Nat} (hl : l.length = n ∧ ∀ x, x ∈ l → x < n) (hi : i < n) : lAt l i < n := by
  apply hl.2
  unfold lAt
  rw [gD_at (by omega)]
  exact List.getElem_mem _
theorem chn_c {l l' : List Nat} {r : List (List Nat)} (h : chn n (l :: l' :: r) = true) : stepL n l = some l' ∧ chn n (l' :: r) = true := by
  have h : (decide (stepL n l = some l') && chn n (l' :: r)) = true := h
  rw [Bool.and_eq_true] at h
  exact ⟨of_decide_eq_true h.1, h.2⟩
theorem sr_go (h7 : sN ν ≤ 7) (B : stB ν) : ∀ (rest : List (List Nat)) (l : List Nat) (os : Os) (m : Nat) (a1 : Go), chn (sN ν) (l :: rest) = true → (∀ z, z ∈ rest → z.length = sN ν ∧ ∀ x, x ∈ z → x < sN ν) → rest.length < m → agr (sN ν) os.2.2.2.1 (lAt l) → osR (sN ν) (noteF os (lostBy T ν N os.2.2.2.1 (os.1 0))) a1 → (∃ k, k < 1000 ∧ (noteF os (lostBy T ν N os.2.2.2.1 (os.1 0))).1 0 = nI k) → ((srF T ν N all m os).1 0 = (rest.foldl (fun a l => goF (lostO T ν N) (sN ν) l a) a1).1 ∧ (∀ i, i < sN ν → (srF T ν N all m os).2.2.1 i = (rest.foldl (fun a l => goF (lostO T ν N) (sN ν) l a) a1).2.2 i)) ∧ (((srF T ν N all m os).1 3 = os.1 3 ∧ (srF T ν N all m os).1 1 = (rest.foldl (fun a l => goF (lostO T ν N) (sN ν) l a) a1).2.1) ∨ ((srF T ν N all m os).1 3 = 0 ∧ all = 0)) ∧ (srF T ν N all m os).2.1 = os.2.1 ∧ (srF T ν N all m os).1 2 = os.1 2 ∧ (srF T ν N all m os).2.2.2.2 = os.2.2.2.2
  | [], l, os, m + 1, a1, h1, h2, h3, h4, h5, h6 => by
    have hs : stepF os.2.2.2.1 (sN ν) = none := by
      have e := step_cg h4
      have h1 : (stepL (sN ν) l).isNone = true := h1
      have h1 : ((stepF (lAt l) (sN ν)).map (tlN (sN ν))).isNone = true := h1
      rw [← e] at h1
      cases hh : stepF os.2.2.2.1 (sN ν) with
      | none => rfl
      | some p => rw [hh] at h1; exact absurd h1 Bool.false_ne_true
    have er : srF T ν N all (m + 1) os = noteF os (lostBy T ν N os.2.2.2.1 (os.1 0)) := by
      show (match stepF os.2.2.2.1 (sN ν) with | none => _ | some p => _) = _
      rw [hs]
    rw [er]
    obtain ⟨n1, n2, n3, n4⟩ := note_f (os := os) (x := lostBy T ν N os.2.2.2.1 (os.1 0))
    exact ⟨⟨h5.1, h5.2.2⟩, Or.inl ⟨n1, h5.2.1⟩, n3, n2, by rw [n4]⟩
  | l' :: r, l, os, m + 1, a1, h1, h2, h3, h4, h5, h6 => by
    obtain ⟨c1, c2⟩ := chn_c h1
    have e := step_cg h4
    have c1 : (stepF (lAt l) (sN ν)).map (tlN (sN ν)) = some l' := c1
    rw [← e] at c1
    cases hs : stepF os.2.2.2.1 (sN ν) with
    | none => rw [hs] at c1; cases c1
    | some p' =>
      rw [hs] at c1
      have c1 : tlN (sN ν) p' = l' := Option.some.inj c1
      have ag : agr (sN ν) p' (lAt l') := fun i hi => by rw [← c1, tl_at hi]
      obtain ⟨n1, n2, n3, n4⟩ := note_f (os := os) (x := lostBy T ν N os.2.2.2.1 (os.1 0))
      have er : srF T ν N all (m + 1) os = if (noteF os (lostBy T ν N os.2.2.2.1 (os.1 0))).1 0 = 0 ∧ all = 0 then oI (oH (noteF os (lostBy T ν N os.2.2.2.1 (os.1 0))) p') 3 0 else srF T ν N all m (oH (noteF os (lostBy T ν N os.2.2.2.1 (os.1 0))) p') := by
        show (match stepF os.2.2.2.1 (sN ν) with | none => _ | some p => _) = _
        rw [hs]
      rw [er]
      generalize hM : noteF os (lostBy T ν N os.2.2.2.1 (os.1 0)) = os1 at h5 h6 n1 n2 n3 n4 ⊢
      by_cases q : os1.1 0 = 0 ∧ all = 0
      · rw [if_pos q]
        obtain ⟨f1, f2⟩ := fold_0 (T := T) (N := N) (n := sN ν) h7 (l' :: r) a1 (h5.1.symm.trans q.1)
        refine ⟨⟨?_, fun i hi => ?_⟩, Or.inr ⟨rfl, q.2⟩, n3, n2, ?_⟩
        · show os1.1 0 = _
          rw [f1]; exact q.1
        · show os1.2.2.1 i = _
          rw [f2]; exact h5.2.2 i hi
        · show os1.2.2.2.2 = _
          rw [n4]
      · rw [if_neg q]
        have hp : ∀ i, i < sN ν → p' i < sN ν := fun i hi => by
          rw [ag i hi]
          exact lf_lt (h2 l' List.mem_cons_self) hi
        obtain ⟨k1, k2⟩ := note_r (T := T) (N := N) (n := sN ν) rfl h7 B hp ag (os := oH os1 p') rfl (show osR (sN ν) (oH os1 p') a1 from h5) h6
        have z := sr_go h7 B r l' (oH os1 p') m (goF (lostO T ν N) (sN ν) l' a1) c2 (fun z hz => h2 z (List.mem_cons_of_mem _ hz)) (by have : (l' :: r).length = r.length + 1 := rfl; omega) ag k1 k2
        obtain ⟨z1, z2, z3, z4, z5⟩ := z
        refine ⟨z1, ?_, z3.trans n3, z4.trans n2, z5.trans ?_⟩
        · rcases z2 with ⟨y1, y2⟩ | y
          · exact Or.inl ⟨y1.trans n1, y2⟩
          · exact Or.inr y
        · show os1.2.2.2.2 = _
          rw [n4]
theorem sr_main {O : Os} (B : stB ν) : (((srF T ν N all 5040 (srBeg O t ν N)).1 0 = (hGo T ν N b).1 ∧ ∀ i, i < sN ν → (srF T ν N all 5040 (srBeg O t ν N)).2.2.1 i = (hGo T ν N b).2.2 i) ∧ ((srF T ν N all 5040 (srBeg O t ν N)).1 3 = 0 → all = 0) ∧ (¬ (srF T ν N all 5040 (srBeg O t ν N)).1 3 = 0 → (srF T ν N all 5040 (srBeg O t ν N)).1 1 = (hGo T ν N b).2.1)) ∧ (srF T ν N all 5040 (srBeg O t ν N)).2.1 = some t ∧ (srF T ν N all 5040 (srBeg O t ν N)).1 2 = nI N ∧ (srF T ν N all 5040 (srBeg O t ν N)).2.2.2.2 = ν := by
  have h7 := B.1.2
  obtain ⟨e1, e2⟩ := lvs_len (sN ν) (by omega)
  have ch := lvs_chn (n := sN ν) h7
  have en := lvs_in (n := sN ν) (sN ν) [] (by simp) (fun x hx => absurd hx List.not_mem_nil)
  have eg : hGo T ν N b = (lvs (sN ν) (sN ν) []).foldl (fun a l => goF (lostO T ν N) (sN ν) l a) (536870912, 0, b) := goM_l _ _ _ _ _
  rw [eg]
  generalize lvs (sN ν) (sN ν) [] = L at e1 e2 ch en ⊢
  cases L with
  | nil => cases e2
  | cons l0 rest =>
    have e2 : l0 = tlN (sN ν) (fun i => i) := Option.some.inj e2
    have ag : agr (sN ν) (srBeg O t ν N).2.2.2.1 (lAt l0) := fun i hi => by
      rw [e2, tl_at hi]
      show idN O.2.2.2.1 i = i
      unfold idN
      rw [if_pos (by omega)]
    have hp : ∀ i, i < sN ν → (srBeg O t ν N).2.2.2.1 i < sN ν := fun i hi => by
      rw [ag i hi]
      exact lf_lt (en l0 List.mem_cons_self) hi
    obtain ⟨k1, k2⟩ := note_0 (T := T) (N := N) (b := b) (n := sN ν) rfl h7 B hp ag (os := srBeg O t ν N) rfl rfl
    have z := sr_go (all := all) h7 B rest l0 (srBeg O t ν N) 5040 _ ch (fun z hz => en z (List.mem_cons_of_mem _ hz)) (by have : (l0 :: rest).length = rest.length + 1 := rfl; omega) ag k1 k2
    obtain ⟨z1, z2, z3, z4, z5⟩ := z
    refine ⟨⟨z1, fun z => ?_, fun z => ?_⟩, z3, z4, z5⟩
    · rcases z2 with ⟨y1, -⟩ | y
      · rw [y1] at z
        exact absurd (show (1 : Int32) = 0 from z) (by decide)
      · exact y.2
    · rcases z2 with ⟨-, y2⟩ | y
      · exact y2
      · exact absurd y.1 z
end TSE
