/-! The reference: perform, year -/
def carH (T : Td) (p : Hs × St) (v : Int64) : Hs × St := (hpush p.1 p.2, carF T T.1.2.2 p.2 v)
def hPer (T : Td) (f : Nat → Int64) : Nat → Nat → Hs × St → Int32 × Hs × St
  | 0, j, p => (nI j, p)
  | m + 1, j, p => if whyF p.2 (f j) = 0 then hPer T f m (j + 1) (carH T p (f j)) else (nI j, p)
def hPerform (T : Td) (Y : Nat → Ty) (ξ : Hs) (σ : St) (i : Int32) : An Int32 × Hs × St := match trE Y i with
  | some E => (.inl E, ξ, σ)
  | none => (.inr (hPer T (Y (ix i)).2.2 (ix (Y (ix i)).1) 0 (ξ, σ)).1, (hPer T (Y (ix i)).2.2 (ix (Y (ix i)).1) 0 (ξ, σ)).2)
def hYr (T : Td) : Nat → Int32 → Int32 → Hs × St → Int32 × Int32 × Hs × St
  | 0, c, x, p => (c, x, p)
  | m + 1, c, x, p => if whyF p.2 (drD (p.2.1 0) x).1.toInt64 = 0 then hYr T m (c + 1) (drD (p.2.1 0) x).2 (carH T p (drD (p.2.1 0) x).1.toInt64) else hYr T m c (drD (p.2.1 0) x).2 p
def hYear (T : Td) (ξ : Hs) (σ : St) (s n : Int32) : An Int32 × Hs × St := if inN n 1 30 = false then (.inl iae, ξ, σ) else (.inr (hYr T (ix n) 0 s (ξ, σ)).1, (hYr T (ix n) 0 s (ξ, σ)).2.2)
def pIn (σ : St) (p : Hs × St) : Prop := stB p.2 ∧ hok p.1 ∧ hB p.1 p.2 ∧ p.2.1 0 = σ.1 0
def pW (μ : MW) (ξ' : Hs) (μ' : MW) : Prop := kfr (kn μ) (kn μ') ∧ encH (kn μ') ξ' ∧ ms (mA μ 1 (kn μ')) μ' ∧ μ'.1 4 = 0
section MPE
variable {g : jG} {d : Nat} {h : jH} {m : Nat} {μ ν : MW} {i k n w : Int32} {T : Td} {σ τ : St} {I A : List Nat} {N : Nat} {K K' : Nat → Int32} {ξ ζ : Hs} {v : Int64} {Y : Nat → Ty} {p : Hs × St}
theorem pIn.car (x : pIn σ p) (c : whyF p.2 v = 0) : pIn σ (carH T p v) := by
  obtain ⟨a, b, c1, e⟩ := x
  exact ⟨stB_carF a c, hpush_ok b _, hB_push b c1 a carF_1, carF_1.trans e⟩
theorem dif_K {a b : MW} {f f' : Nat → Int32} (x : dif I A (mA a 1 f) b) : dif I A (mA a 1 f') (mA b 1 f') := by
  refine ⟨x.1, x.2.1, fun j hj => ?_⟩
  by_cases c : j = 1
  · subst c; rfl
  · have := x.2.2 j hj
    show (if j = 1 then _ else _) = (if j = 1 then _ else _)
    rw [if_neg c, if_neg c, this]
    exact if_neg c
theorem pW.of (e : encH (kn μ) ξ) {μ' : MW} (q : ms μ μ') (q4 : μ'.1 4 = 0) : pW μ ξ μ' := by
  have k := q.kk
  refine ⟨by rw [k]; exact kfr.rf, by rw [k]; exact e, ?_, q4⟩
  rw [k, mA_kn]; exact q
theorem pW.ms {μ' μ2 : MW} (x : pW μ ξ μ') (q : ms μ' μ2) (q4 : μ2.1 4 = 0) : pW μ ξ μ2 := by
  obtain ⟨a, b, c, d⟩ := x
  have k := q.kk
  exact ⟨by rw [k]; exact a, by rw [k]; exact b, by rw [k]; exact ms.tr c q, q4⟩
theorem pW.car {μ' μ2 : MW} (x : pW μ ξ μ') (O : hok ξ) (k : kep (hN ξ) (kn μ') K' σ) (q : qr (mA μ' 1 K') μ2) : pW μ (hpush ξ σ) μ2 := by
  obtain ⟨a, b, c, d⟩ := x
  have e : kn μ2 = K' := q.k
  refine ⟨by rw [e]; exact a.tr k.f, by rw [e]; exact k.hist O b, ?_, (q.1 4 (by decide) (by decide)).trans d⟩
  rw [e]
  exact ms.tr (dif_K c) q.q.s
theorem pW.fin {μ' : MW} {xs : List String} {r v : Int32} (x : pW μ ξ μ') (hv : r = v) : mRes μ ξ σ xs (.inr v) r (mS μ' σ) := ⟨kn μ', x.1, x.2.1, fin_0 x.2.2.1 x.2.2.2 hv⟩
theorem pW.ty {μ' : MW} (x : pW μ ξ μ') (y : tysAt μ Y) : tysAt μ' Y := ms.ty x.2.2.1 (y.of rfl rfl rfl)
theorem pW.e {μ' : MW} (x : pW μ ξ μ') (E : encT (kn μ) T) : encT (kn μ') T := x.1.e E
theorem pW.nn {μ' : MW} (x : pW μ ξ μ') (O : hok ξ) : kn μ' 7 = nI (hN ξ) := x.2.1.1.trans O.1
theorem per_20 {hs : jH} {M : Nat} (hM : M ≤ 30) (eM : (Y (ix i)).1 = nI M) (E : encT (kn μ) T) (c : trOk i = true) (y : tysAt μ Y) : ∀ r j p μ', j + r = M → pIn σ p → pW μ p.1 μ' → J g mX12_perform (d + 8) hs (wPi h m (mRes μ (hPer T (Y (ix i)).2.2 r j p).2.1 (hPer T (Y (ix i)).2.2 r j p).2.2 [nse, ise] (.inr (hPer T (Y (ix i)).2.2 r j p).1))) 20 [(0, .ref m), (1, .int i), (2, .int (nI j))] [] (mw h m (mS μ' p.2)) := by
  intro r
  induction r with
  | zero =>
    intro j p μ' hj I1 q
    obtain ⟨y1, y2⟩ := ty_many (q.ty y) c
    have y3 : (mS μ' p.2).2.1 16 (ix i) = nI M := y2.trans eM
    refine wX12_perform_20 ⟨y1, fun f => ?_, fun _ => ⟨_, q.fin rfl, rfl⟩⟩
    rw [y3] at f
    exact absurd f (nI_nlt (by omega) (by omega))
  | succ r ih =>
    intro j p μ' hj I1 q
    obtain ⟨y1, y2⟩ := ty_many (q.ty y) c
    have y3 : (mS μ' p.2).2.1 16 (ix i) = nI M := y2.trans eM
    obtain ⟨z1, z2⟩ := ty_at (q.ty y) c j (by omega)
    have z3 : (mS μ' p.2).2.2 (ix (30 * i + nI j)) = (Y (ix i)).2.2 j := z2
    obtain ⟨B, O, H, e0⟩ := I1
    refine wX12_perform_20 ⟨y1, fun _ => ⟨z1, ?_⟩, fun f => ?_⟩
    · rw [z3]
      refine ⟨_, m_whyTold (d := d + 2) (σ := p.2) B, fun f => ⟨_, m_keeps (d := d + 6) (σ := p.2) O.2.1 (q.nn O), fun μ1 q1 => ?_⟩, fun f => ?_⟩
      · obtain ⟨K', q2, rfl⟩ := q1
        refine ⟨z1, ?_⟩
        rw [show (mS (mA μ' 1 K') p.2).2.2 (ix (30 * i + nI j)) = (Y (ix i)).2.2 j from z2]
        refine ⟨_, m_does (μ := mA μ' 1 K') (σ := p.2) (T := T) B (q2.e (q.e E)) f, fun μ3 q3 => ?_⟩
        obtain ⟨μ4, q4, rfl⟩ := q3
        rw [nI_1]
        have e : hPer T (Y (ix i)).2.2 (r + 1) j p = hPer T (Y (ix i)).2.2 r (j + 1) (carH T p ((Y (ix i)).2.2 j)) := if_pos f
        rw [e]
        exact ih (j + 1) (carH T p ((Y (ix i)).2.2 j)) μ4 (by omega) (pIn.car (σ := σ) ⟨B, O, H, e0⟩ f) (q.car O q2 q4)
      · have e : hPer T (Y (ix i)).2.2 (r + 1) j p = (nI j, p) := if_neg f
        rw [e]
        exact ⟨_, q.fin rfl, rfl⟩
    · rw [y3] at f
      exact absurd (nI_lt (by omega) (by omega)) f
theorem m_perform (B : stB σ) (O : hok ξ) (H : hB ξ σ) (e : encH (kn μ) ξ) (E : encT (kn μ) T) (y : tysAt μ Y) (Z : tysOk Y) : Con g mX12_perform (d + 8) [.ref m, .int i] (mw h m (mS μ σ)) (wPi h m (mRes μ (hPerform T Y ξ σ i).2.1 (hPerform T Y ξ σ i).2.2 [nse, ise] (hPerform T Y ξ σ i).1)) := by
  unfold hPerform
  refine con_of km_X12_perform.1.2.2.2.2 (Nat.le_of_ble_eq_true rfl) rfl (wX12_perform_0 ⟨_, m_trayFault (d := d + 4) (μ := mS μ σ) (Y := Y) y.s, fun c => ?_, fun c => ?_⟩)
  · cases hE : trE Y i with
    | none =>
      rw [trC_0.mpr hE] at c
      exact absurd c thr_n
    | some E =>
      obtain ⟨c1, c2⟩ := trC_c (xs := []) hE
      exact ⟨_, (fin_1 c1).r e, rfl⟩
  · cases hE : trE Y i with
    | some E => exact absurd (thr_p (trC_c (xs := []) hE).2) c
    | none =>
      obtain ⟨t1, t2⟩ := trE_n hE
      obtain ⟨M, hM, eM⟩ := Z (ix i) (trOk_n t1).2
      rw [trC_0.mpr hE, eM, ix_nI (by omega), mS_I]
      exact per_20 hM eM E t1 y M 0 (ξ, σ) (mI μ 4 0) (by omega) ⟨B, O, H, rfl⟩ (pW.of e (ms_4 0) (mI_at 4 0))
/-! draws -/
theorem m_draw (c : ¬ n < 1) : Con g mX12_draw (d + 1) [.ref m, .int n] (mw h m μ) (wPi h m (fun r ν => r = drv (drw (μ.1 26)) n ∧ ν = mI μ 26 (drw (μ.1 26)))) := by
  refine con_of km_X12_draw.1.2.2.2.2 (Nat.le_of_ble_eq_true rfl) rfl (wX12_draw_0 ⟨fun f => c (by rw [f]; decide), _, ⟨?_, rfl⟩, rfl⟩)
  rw [mI_at]
  exact (if_neg c).symm
theorem sN_1 (S : sok σ) (c : ¬ σ.1 0 = 0) : ¬ σ.1 0 < 1 := fun f => by
  have h7 := S.2
  rw [S.1, Int32.lt_iff_toInt_lt, nI_toInt (by omega), show (1 : Int32).toInt = 1 from rfl] at f
  have : sN σ = 0 := by omega
  rw [S.1, this] at c
  exact c rfl
theorem m_drawn {x q : Int32} (S : sok σ) (c : ¬ σ.1 0 = 0) (hx : μ.1 26 = drw x) (hq : drv (drw x) 6 = q) (c2 : ¬ q < 2) : Con g mX12_drawn (d + 2) [.ref m, .int q] (mw h m (mS μ σ)) (wPi h m (fun r ν => r = (drD (σ.1 0) x).1 ∧ ∃ μ', dif [26] [] μ μ' ∧ μ'.1 26 = (drD (σ.1 0) x).2 ∧ ν = mS μ' σ)) := by
  have c1 := sN_1 S c
  unfold drD
  rw [hq, if_neg c2, if_neg c]
  have s1 : ∀ v, dif [26] [] μ (mI μ 26 v) := fun v => dif_I (by decide) v
  refine con_of km_X12_drawn.1.2.2.2.2 (Nat.le_of_ble_eq_true rfl) rfl (wX12_drawn_0 ⟨_, m_houses, _, m_draw (d := d) (μ := mS μ σ) c1, fun r μ1 q1 => ?_⟩)
  obtain ⟨rfl, rfl⟩ := q1
  rw [mS_I, show (mS μ σ).1 26 = drw x from hx, show kn (mS μ σ) 1 = σ.1 0 from rfl]
  have last : ∀ {hs} {s0 a : Int32} {x2 x3 : Int32}, a = s0 + 10 * x2 + drv (drw (drw (drw x))) (σ.1 0) → x3 = drw (drw (drw x)) → J g mX12_drawn (d + 2) hs (wPi h m (fun r ν => r = (a, x3).1 ∧ ∃ μ', dif [26] [] μ μ' ∧ μ'.1 26 = (a, x3).2 ∧ ν = mS μ' σ)) 49 [(0, .ref m), (2, .int x2)] [.int s0] (mw h m (mS (mI μ 26 (drw (drw x))) σ)) := by
    intro hs s0 a x2 x3 ha hx3
    refine wX12_drawn_49 ⟨_, m_houses (μ := mS (mI μ 26 (drw (drw x))) σ), _, m_draw (d := d) (μ := mS (mI μ 26 (drw (drw x))) σ) c1, fun r μ1 q1 => ?_⟩
    obtain ⟨rfl, rfl⟩ := q1
    rw [mS_I, show (mS (mI μ 26 (drw (drw x))) σ).1 26 = drw (drw x) from mI_at (μ := μ) 26 _, show kn (mS (mI μ 26 (drw (drw x))) σ) 1 = σ.1 0 from rfl]
    exact ⟨_, ⟨ha.symm, _, (s1 _).tr (dif_I (by decide) _), (mI_at 26 _).trans hx3.symm, rfl⟩, rfl⟩
  refine ⟨fun f => ?_, fun f3 => ⟨fun f => ?_, fun f4 => ⟨fun f => ?_, fun f2 => ?_⟩⟩⟩
  · subst f
    rw [if_neg (by decide), if_pos rfl]
    exact wX12_drawn_19 ⟨fun _ => ⟨_, ⟨rfl, _, s1 _, mI_at 26 _, rfl⟩, rfl⟩, fun f => absurd rfl f⟩
  · subst f
    rw [if_neg (by decide), if_neg (by decide), if_pos rfl]
    exact wX12_drawn_19 ⟨fun f => absurd f (by decide), fun _ => ⟨_, ⟨rfl, _, s1 _, mI_at 26 _, rfl⟩, rfl⟩⟩
  · subst f
    rw [if_pos rfl]
    exact last (by rw [Int32.zero_add, Int32.mul_comm]) rfl
  · rw [if_neg f2, if_neg f3, if_neg f4]
    exact last (by rw [Int32.mul_comm 10]) rfl
/-! the year -/
theorem why_none (S : sok σ) (c : σ.1 0 = 0) : ¬ whyF σ (0 : Int32).toInt64 = 0 := by
  intro f
  have e : sHas σ 0 = false := by
    unfold sHas
    rw [c]
    decide
  rw [show whyF σ (0 : Int32).toInt64 = sWhySwap σ 0 0 from (why_n (n := 0) (by decide)).trans (if_pos (by decide))] at f
  have := swp_0 f
  rw [e] at this
  exact absurd this.1 (by decide)
theorem yr_33 {hs : jH} {M : Nat} (hM : M ≤ 30) (E : encT (kn μ) T) : ∀ r j c x p μ', j + r = M → pIn σ p → pW μ p.1 μ' → μ'.1 26 = x → J g mX12_year (d + 8) hs (wPi h m (mRes μ (hYr T r c x p).2.2.1 (hYr T r c x p).2.2.2 [iae] (.inr (hYr T r c x p).1))) 33 [(0, .ref m), (2, .int (nI M)), (3, .int c), (4, .int (nI j))] [] (mw h m (mS μ' p.2)) := by
  intro r
  induction r with
  | zero =>
    intro j c x p μ' hj I1 q hx
    exact wX12_year_33 ⟨fun f => absurd f (nI_nlt (by omega) (by omega)), fun _ => ⟨_, q.fin rfl, rfl⟩⟩
  | succ r ih =>
    intro j c x p μ' hj I1 q hx
    obtain ⟨B, O, H, e0⟩ := I1
    have I1 : pIn σ p := ⟨B, O, H, e0⟩
    have step : ∀ (D : Int32 × Int32) μ3, D = drD (p.2.1 0) x → ms μ' μ3 → μ3.1 4 = 0 → μ3.1 26 = D.2 → J g mX12_year (d + 8) hs (wPi h m (mRes μ (hYr T (r + 1) c x p).2.2.1 (hYr T (r + 1) c x p).2.2.2 [iae] (.inr (hYr T (r + 1) c x p).1))) 79 [(0, .ref m), (2, .int (nI M)), (3, .int c), (4, .int (nI j))] [.int D.1] (mw h m (mS μ3 p.2)) := by
      intro D μ3 hD q3 q4 q5
      subst hD
      have q6 := q.ms q3 q4
      refine wX12_year_79 ⟨_, m_whyTold (d := d + 2) (σ := p.2) B, fun f => ⟨_, m_keeps (d := d + 6) (σ := p.2) O.2.1 (q6.nn O), fun μ1 q1 => ?_⟩, fun f => ?_⟩
      · obtain ⟨K', q2, rfl⟩ := q1
        have C := m_does (g := g) (d := d) (h := h) (m := m) (μ := mA μ3 1 K') (σ := p.2) (T := T) B (q2.e (q6.e E)) f
        rw [i64_32] at C
        refine ⟨_, C, fun μ7 q7 => ?_⟩
        obtain ⟨μ8, q8, rfl⟩ := q7
        rw [nI_1]
        have e : hYr T (r + 1) c x p = hYr T r (c + 1) (drD (p.2.1 0) x).2 (carH T p (drD (p.2.1 0) x).1.toInt64) := if_pos f
        rw [e]
        exact ih (j + 1) _ _ (carH T p (drD (p.2.1 0) x).1.toInt64) μ8 (by omega) (I1.car f) (q6.car O q2 q8) ((q8.1 26 (by decide) (by decide)).trans q5)
      · rw [nI_1]
        have e : hYr T (r + 1) c x p = hYr T r c (drD (p.2.1 0) x).2 p := if_neg f
        rw [e]
        exact ih (j + 1) _ _ p μ3 (by omega) I1 q6 q5
    have s26 : ms μ' (mI μ' 26 (drw x)) := dif_I (by decide) _
    have z4 : (mI μ' 26 (drw x)).1 4 = 0 := q.2.2.2
    refine wX12_year_33 ⟨fun _ => ⟨_, m_draw (d := d + 6) (μ := mS μ' p.2) (n := 6) (by decide), fun r1 μ1 q1 => ?_⟩, fun f => absurd (nI_lt (by omega) (by omega)) f⟩
    obtain ⟨rfl, rfl⟩ := q1
    rw [mS_I, show (mS μ' p.2).1 26 = x from hx]
    have next : (¬ drv (drw x) 6 < 2 → ¬ p.2.1 0 = 0) → J g mX12_year (d + 8) hs (wPi h m (mRes μ (hYr T (r + 1) c x p).2.2.1 (hYr T (r + 1) c x p).2.2.2 [iae] (.inr (hYr T (r + 1) c x p).1))) 63 [(0, .ref m), (2, .int (nI M)), (3, .int c), (4, .int (nI j)), (5, .int (drv (drw x) 6))] [] (mw h m (mS (mI μ' 26 (drw x)) p.2)) := by
      intro hh
      refine wX12_year_63 ⟨fun f => ?_, fun f => ⟨_, m_drawn (d := d + 5) (μ := mI μ' 26 (drw x)) (σ := p.2) (x := x) B.1 (hh f) (mI_at 26 _) rfl f, fun r2 μ2 q2 => ?_⟩⟩
      · exact step (-1, drw x) _ (if_pos f).symm s26 z4 (mI_at 26 _)
      · obtain ⟨rfl, μ3, q3, q4, rfl⟩ := q2
        exact step _ μ3 rfl (s26.tr (q3.up (by decide) (by decide))) ((q3.1 4 (by decide)).trans z4) q4
    refine ⟨fun f => ⟨_, m_houses, fun f2 => ?_, fun f2 => next (fun _ => f2)⟩, fun f => next (fun f2 => ?_)⟩
    · have f2 : p.2.1 0 = 0 := f2
      have nf : ¬ drv (drw x) 6 < 2 := by
        rw [Int32.lt_iff_toInt_lt] at f ⊢
        rw [show (1 : Int32).toInt = 1 from rfl] at f
        rw [show (2 : Int32).toInt = 2 from rfl]
        omega
      have eD : drD (p.2.1 0) x = (0, drw x) := (if_neg nf).trans (if_pos f2)
      have e : hYr T (r + 1) c x p = hYr T r c (drw x) p := by
        have : hYr T (r + 1) c x p = hYr T r c (drD (p.2.1 0) x).2 p := if_neg (by rw [eD]; exact why_none B.1 f2)
        rw [this, eD]
      rw [e, nI_1]
      exact ih (j + 1) _ _ p _ (by omega) I1 (q.ms s26 z4) (mI_at 26 _)
    · exfalso
      rw [Int32.lt_iff_toInt_lt] at f f2
      rw [show (1 : Int32).toInt = 1 from rfl] at f
      rw [show (2 : Int32).toInt = 2 from rfl] at f2
      omega
theorem m_year {s : Int32} (B : stB σ) (O : hok ξ) (H : hB ξ σ) (e : encH (kn μ) ξ) (E : encT (kn μ) T) : Con g mX12_year (d + 8) [.ref m, .int s, .int n] (mw h m (mS μ σ)) (wPi h m (mRes μ (hYear T ξ σ s n).2.1 (hYear T ξ σ s n).2.2 [iae] (hYear T ξ σ s n).1)) := by
  unfold hYear
  refine con_of km_X12_year.1.2.2.2.2 (Nat.le_of_ble_eq_true rfl) rfl (wX12_year_0 ⟨_, m_within, fun c => ?_, fun c => ?_⟩)
  · rw [if_pos (in0 (a := 1) (b := 30) rfl rfl c)]
    exact ⟨_, m_fails, fun r μ1 q => ⟨_, (fin_f q).r e, rfl⟩⟩
  · have hn := in1 (a := 1) (b := 30) rfl rfl c
    have hn2 := of_decide_eq_true hn
    rw [if_neg (by rw [hn]; decide)]
    rw [Int32.lt_iff_toInt_lt, Int32.lt_iff_toInt_lt, show (1 : Int32).toInt = 1 from rfl, show (30 : Int32).toInt = 30 from rfl] at hn2
    have e1 : ix n = n.toInt.toNat := rfl
    have en : n = nI (ix n) := by
      apply Int32.toInt_inj.mp
      rw [e1, nI_toInt (by omega)]
      omega
    have C := yr_33 (g := g) (d := d) (h := h) (m := m) (hs := mw h m (mS μ σ)) (σ := σ) (M := ix n) (by omega) E (ix n) 0 0 s (ξ, σ) (mI (mI μ 4 0) 26 s) (by omega) ⟨B, O, H, rfl⟩ (pW.of e ((ms_4 0).tr (dif_I (by decide) _)) (mI_at (μ := μ) 4 0)) (mI_at 26 _)
    rw [← en] at C
    exact C
end MPE
