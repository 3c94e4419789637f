/-! Told deeds, what was seen, trays, counts agree -/
section VTO
variable {g : jG} {d : Nat} {h : jH} {m : Nat} {μ ν : MW} {ω ω' : CW} {i k n w : Int32} {α : Type} {xs : List String} {X : jM} {args : List Value} {dd : Nat} {σ τ : St} {T : Td} {ξ ζ : Hs} {τ' : To} {p : Hs × St} {v : Int64}
theorem stI.car {T : Td} (x : stI τ' p.2 p.1) (c : whyF p.2 v = 0) : stI τ' (carH T p v).2 (carH T p v).1 :=
  stI_push x (stB_carF x.1.1.1 c) (can_carF x.1.1.1.1 x.1.1.2) carF_1
theorem stI.per {T : Td} {f : Nat → Int64} : ∀ m j (p : Hs × St), stI τ' p.2 p.1 → stI τ' (hPer T f m j p).2.2 (hPer T f m j p).2.1
  | 0, _, _, x => x
  | m + 1, j, p, x => by
    by_cases c : whyF p.2 (f j) = 0
    · have e : hPer T f (m + 1) j p = hPer T f m (j + 1) (carH T p (f j)) := if_pos c
      rw [e]
      exact stI.per m (j + 1) _ (x.car c)
    · have e : hPer T f (m + 1) j p = (nI j, p) := if_neg c
      rw [e]
      exact x
theorem stI.yr {T : Td} : ∀ m c y (p : Hs × St), stI τ' p.2 p.1 → stI τ' (hYr T m c y p).2.2.2 (hYr T m c y p).2.2.1
  | 0, _, _, _, x => x
  | m + 1, c, y, p, x => by
    by_cases q : whyF p.2 (drD (p.2.1 0) y).1.toInt64 = 0
    · have e : hYr T (m + 1) c y p = hYr T m (c + 1) (drD (p.2.1 0) y).2 (carH T p (drD (p.2.1 0) y).1.toInt64) := if_pos q
      rw [e]
      exact stI.yr m _ _ _ (x.car q)
    · have e : hYr T (m + 1) c y p = hYr T m c (drD (p.2.1 0) y).2 p := if_neg q
      rw [e]
      exact stI.yr m _ _ _ x
theorem v_perform (x : Rel ω μ) : Con g mX12_perform (d + 40) [.ref m, .int i] (mw h m μ) (wPi h m (agA [nse, ise] (fPerform ω i).1 (fPerform ω i).2)) := by
  have B : stB (wS ω) := x.1.2.1.1.1
  have hI : stI (wT ω) (hPerform (tT ω) (wY ω) (wH ω) (wS ω) i).2.2 (hPerform (tT ω) (wY ω) (wH ω) (wS ω) i).2.1 := by
    unfold hPerform
    cases trE (wY ω) i with
    | some E => exact x.1.2
    | none => exact stI.per _ _ (wH ω, wS ω) x.1.2
  rw [t_perform]
  exact x.dp (m_perform (d := d + 32) (μ := μ) (σ := wS ω) (T := tT ω) (i := i) (ξ := wH ω) (Y := wY ω) B x.1.2.2.1 x.1.2.2.2.1 x.1.1.2.2 x.1.1.1.1 x.2.1.1 x.2.1.2.1) (fun r ν q => x.res hI q)
theorem Rel.seed {s : Int32} (x : Rel ω μ) : Rel (pI ω 3 s) μ := x
theorem v_year {s : Int32} (x : Rel ω μ) : Con g mX12_year (d + 40) [.ref m, .int s, .int n] (mw h m μ) (wPi h m (agA [iae] (fYear ω s n).1 (fYear ω s n).2)) := by
  have B : stB (wS ω) := x.1.2.1.1.1
  have hI : stI (wT ω) (hYear (tT ω) (wH ω) (wS ω) s n).2.2 (hYear (tT ω) (wH ω) (wS ω) s n).2.1 := by
    unfold hYear
    split
    · exact x.1.2
    · exact stI.yr _ _ _ (wH ω, wS ω) x.1.2
  refine x.dp (m_year (d := d + 32) (μ := μ) (σ := wS ω) (T := tT ω) (s := s) (n := n) (ξ := wH ω) B x.1.2.2.1 x.1.2.2.2.1 x.1.1.2.2 x.1.1.1.1) (fun r ν q => ?_)
  have R := x.res hI q
  unfold hYear at R
  unfold fYear
  by_cases c : inN n 1 30 = false
  · rw [if_pos c] at R ⊢
    exact R
  · rw [if_neg c] at R ⊢
    rw [yr_e]
    exact R
theorem v_judge (x : Rel ω μ) : Con g mX12_judge (d + 40) [.ref m, .int i, .int w] (mw h m μ) (wPi h m (agA [nse, ise, iae] (fJudge ω i w) ω)) :=
  x.gi (m_judge (d := d + 32) (μ := μ) (σ := wS ω) (T := tT ω) (i := i) (w := w) (Y := wY ω) x.1.2.1.1.1 x.1.1.1.1 x.2.1.1 x.2.1.2.1) rfl
theorem v_seen (x : Rel ω μ) : Con g mX12_seen (d + 40) [.ref m, .int i, .int k] (mw h m μ) (wPi h m (agA [nse, ise, iae] (fSeen ω i k) ω)) :=
  x.gi (m_seen (d := d + 31) (μ := μ) (σ := wS ω) (T := tT ω) (i := i) (k := k) (Y := wY ω) (β := (wT ω).2.2) x.1.2.1.1.1 x.1.1.1.1 x.1.1.1.2 x.1.2.1.2.1 x.1.2.1.2.2 x.2.1.1 x.2.1.2.1) (t_seen x.1.2.1.2.1.1.1.2 x.1.2.1.2.2 i k)
theorem v_hidden (x : Rel ω μ) : Con g mX12_hidden (d + 40) [.ref m, .int i, .int k, .int n] (mw h m μ) (wPi h m (agA [nse, ise, iae] (fHidden ω i k n) ω)) :=
  x.gi (m_hidden (d := d + 31) (μ := μ) (σ := wS ω) (T := tT ω) (i := i) (k := k) (n := n) (Y := wY ω) (β := (wT ω).2.2) (wD ω) x.1.2.1.1.1 x.1.1.1.1 x.1.1.1.2 x.1.2.1.2.1 x.1.2.1.2.2 x.2.1.1 x.2.1.2.1) (t_hidden x.1.2.1.2.1.1.1.2 x.1.2.1.2.2 i k n)
theorem v_look (x : Rel ω μ) : Con g mX12_look (d + 40) [.ref m, .int i, .int k] (mw h m μ) (wPi h m (agA [nse, ise, iae] (fLook ω i k) ω)) :=
  x.gi (m_look (d := d + 31) (μ := μ) (σ := wS ω) (T := tT ω) (i := i) (k := k) (Y := wY ω) (β := (wT ω).2.2) (wD ω) x.1.2.1.1.1 x.1.1.1.1 x.1.1.1.2 x.1.2.1.2.1 x.1.2.1.2.2 x.2.1.1 x.2.1.2.1) (t_look x.1.2.1.2.1.1.1.2 x.1.2.1.2.2 i k)
theorem v_count (x : Rel ω μ) : Con g mX12_count (d + 40) [.ref m, .int i] (mw h m μ) (wPi h m (agA [] (.inr (fCount ω i)) ω)) := by
  refine x.gi (m_count (d := d + 37) (μ := μ) (σ := wS ω) (T := tT ω) (i := i) (ξ := wH ω) x.1.2.1.1.1.1 x.1.1.1.1 x.1.1.2.2.1) ?_
  obtain ⟨L, h1, h2, -⟩ := x.2.2.2.1.1
  have e6 : μ.1 6 = wI ω 0 := h2.trans h1.1.symm
  have e8 : (if (tT ω).1.1 = 0 then (0 : Int32) else 1) = (tT ω).1.1 := by
    rcases x.1.1.1.1.2.1.2 with c | c
    · rw [if_pos c]; exact c.symm
    · rw [if_neg (by rw [c]; decide)]; exact c.symm
  unfold hCount fCount
  rw [e6, e8]
theorem v_fault (x : Rel ω μ) : Con g mX12_fault (d + 40) [.ref m, .int i] (mw h m μ) (wPi h m (agA [] (.inr (fFault ω i)) ω)) := by
  refine (m_fault (d := d + 39) (μ := μ) (i := i)).pi (fun r h' q => ?_) (fun E h' f => f)
  obtain ⟨ν, q1, q2⟩ := q
  obtain ⟨rfl, rfl⟩ := q1
  refine ⟨_, ⟨mI_at (μ := μ) 4 0, fun v hv => ?_, ?_⟩, q2⟩
  · cases hv
    show hFault _ _ _ = fFault ω i
    unfold hFault fFault
    rw [x.2.2.2.1.2.1, x.2.2.2.1.2.2]
  · exact x
/-- trays are as they can be -/
def tyG (Y : Nat → Ty) : Prop := tysOk Y ∧ srtOk Y
def only (ω ω' : CW) : Prop := wTape ω' = wTape ω ∧ wI ω' = wI ω ∧ wT ω' = wT ω ∧ wS ω' = wS ω ∧ wH ω' = wH ω ∧ wG ω' = wG ω ∧ wZ ω' = wZ ω ∧ wO ω' = wO ω
theorem only.rf : only ω ω := ⟨rfl, rfl, rfl, rfl, rfl, rfl, rfl, rfl⟩
theorem only.y {j : Nat} {θ : Ty} : only ω (pY ω j θ) := ⟨rfl, rfl, rfl, rfl, rfl, rfl, rfl, rfl⟩
theorem tyG.up {Y : Nat → Ty} {j : Nat} {θ : Ty} (x : tyG Y) (h1 : ∃ M, M ≤ 30 ∧ θ.1 = nI M) (h2 : θ.2.1 = -1 ∨ θ.2.1 = 0 ∨ θ.2.1 = 1 ∨ θ.2.1 = 2 ∨ θ.2.1 = 3) : tyG (upY Y j θ) := by
  refine ⟨fun a ha => ?_, fun a ha => ?_⟩
  · show ∃ M, M ≤ 30 ∧ (if a = j then θ else Y a).1 = nI M
    split
    · exact h1
    · exact x.1 a ha
  · show (if a = j then θ else Y a).2.1 = -1 ∨ (if a = j then θ else Y a).2.1 = 0 ∨ (if a = j then θ else Y a).2.1 = 1 ∨ (if a = j then θ else Y a).2.1 = 2 ∨ (if a = j then θ else Y a).2.1 = 3
    split
    · exact h2
    · exact x.2 a ha
theorem g_tray {s : Int32} (x : tyG (wY ω)) : tyG (wY (fTray ω i s n).2) ∧ only ω (fTray ω i s n).2 := by
  unfold fTray
  by_cases c : trOk i = false
  · rw [if_pos c]; exact ⟨x, only.rf⟩
  rw [if_neg c]
  by_cases c2 : inN s 0 3 = false
  · rw [if_pos c2]; exact ⟨x, only.rf⟩
  rw [if_neg c2]
  by_cases c3 : inN n 0 30 = false
  · rw [if_pos c3]; exact ⟨x, only.rf⟩
  rw [if_neg c3]
  refine ⟨?_, only.y⟩
  have h2 : inN s 0 3 = true := by revert c2; cases inN s 0 3 <;> simp
  have h3 : inN n 0 30 = true := by revert c3; cases inN n 0 30 <;> simp
  obtain ⟨a1, -, a2⟩ := inN_nI (a := 0) (b := 3) (by decide) (by decide) h2
  obtain ⟨b1, -, b2⟩ := inN_nI (a := 0) (b := 30) (by decide) (by decide) h3
  refine x.up ⟨ix n, b2, b1⟩ (Or.inr ?_)
  show s = 0 ∨ s = 1 ∨ s = 2 ∨ s = 3
  rw [a1]
  rcases (by omega : ix s = 0 ∨ ix s = 1 ∨ ix s = 2 ∨ ix s = 3) with e | e | e | e <;> rw [e] <;> decide
theorem g_write {p : Int32} {v : Int64} (x : tyG (wY ω)) : tyG (wY (fWrite ω i p v).2) ∧ only ω (fWrite ω i p v).2 := by
  unfold fWrite
  show tyG (wY (match trE (wY ω) i with | some E => _ | none => _ : An Int64 × CW).2) ∧ only ω (match trE (wY ω) i with | some E => _ | none => _ : An Int64 × CW).2
  cases hE : trE (wY ω) i with
  | some E => exact ⟨x, only.rf⟩
  | none =>
    obtain ⟨t1, t2⟩ := trE_n hE
    have h4 := (trOk_n t1).2
    by_cases c : p < 0 ∨ ¬ p < (wY ω (ix i)).1
    · simp only [if_pos c]
      exact ⟨x, only.rf⟩
    · simp only [if_neg c]
      exact ⟨x.up (x.1 _ h4) (x.2 _ h4), only.y⟩
theorem g_copy (x : tyG (wY ω)) : tyG (wY (fCopy ω i k).2) ∧ only ω (fCopy ω i k).2 := by
  unfold fCopy
  by_cases c : trOk i = false
  · rw [if_pos c]; exact ⟨x, only.rf⟩
  rw [if_neg c]
  by_cases c2 : sHas (wS ω) k = false
  · rw [if_pos c2]; exact ⟨x, only.rf⟩
  rw [if_neg c2]
  by_cases c3 : (wY ω (ix i)).2.1 = -1
  · rw [if_pos c3]; exact ⟨x, only.rf⟩
  rw [if_neg c3]
  have h1 : trOk i = true := by revert c; cases trOk i <;> simp
  have h4 := (trOk_n h1).2
  exact ⟨x.up (x.1 _ h4) (x.2 _ h4), only.y⟩
theorem v_write {p : Int32} {v : Int64} (x : Rel ω μ) : Con g mX12_write (d + 40) [.ref m, .int i, .int p, .long v] (mw h m μ) (wPl h m (agA [nse, ise, iob] (fWrite ω i p v).1 (fWrite ω i p v).2)) := by
  have C := m_write (g := g) (d := d + 36) (h := h) (m := m) (μ := μ) (σ := wS ω) (i := i) (p := p) (v := v) (Y := wY ω) x.2.1.1 x.2.1.2.1
  rw [x.self, t_write x.2.1.2.2] at C
  obtain ⟨G, O⟩ := g_write (i := i) (p := p) (v := v) x.2.1.2
  exact C.pl (fun r h' q => by
    obtain ⟨ν, q1, q2⟩ := q
    exact ⟨ν, x.tys G.1 G.2 rfl O q1, q2⟩) (fun E h' f => f)
theorem v_tray {s : Int32} (x : Rel ω μ) : Con g mX12_tray (d + 40) [.ref m, .int i, .int s, .int n] (mw h m μ) (wPv h m (agA [nse, iae] (fTray ω i s n).1 (fTray ω i s n).2 ())) := by
  have C := m_tray (g := g) (d := d + 37) (h := h) (m := m) (μ := μ) (σ := wS ω) (i := i) (s := s) (n := n) (Y := wY ω) x.2.1.1
  rw [x.self, t_tray] at C
  obtain ⟨G, O⟩ := g_tray (i := i) (s := s) (n := n) x.2.1.2
  exact C.pv (fun h' q => by
    obtain ⟨ν, q1, q2⟩ := q
    exact ⟨ν, x.tys G.1 G.2 rfl O q1, q2⟩) (fun E h' f => f)
theorem v_copy (x : Rel ω μ) : Con g mX12_copy (d + 40) [.ref m, .int i, .int k] (mw h m μ) (wPi h m (agA [nse, ise] (fCopy ω i k).1 (fCopy ω i k).2)) := by
  have C := m_copy (g := g) (d := d + 33) (h := h) (m := m) (μ := μ) (σ := wS ω) (T := tT ω) (i := i) (k := k) (Y := wY ω) x.1.2.1.1.1 x.1.1.1.1 x.2.1.1 x.2.1.2.1
  rw [x.self, t_copy x.2.1.2.2] at C
  obtain ⟨G, O⟩ := g_copy (i := i) (k := k) x.2.1.2
  exact C.pi (fun r h' q => by
    obtain ⟨ν, q1, q2⟩ := q
    exact ⟨ν, x.tys G.1 G.2 rfl O q1, q2⟩) (fun E h' f => f)
end VTO
