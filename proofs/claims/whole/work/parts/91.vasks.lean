/-! Method by method: asks -/
section VAS
variable {g : jG} {d : Nat} {h : jH} {m : Nat} {μ ν : MW} {ω ω' : CW} {i k n w : Int32} {α : Type} {xs : List String} {X : jM} {args : List Value} {dd : Nat}
theorem Rel.gi {A A' : An Int32} (x : Rel ω μ) (C : Con g X dd args (mw h m (mS μ (wS ω))) (wPi h m (mAns μ (wS ω) xs A))) (e : A = A') : Con g X dd args (mw h m μ) (wPi h m (agA xs A' ω)) := by
  rw [x.self] at C
  subst e
  exact C.pi (fun r h' q => by
    obtain ⟨ν, q1, q2⟩ := q
    exact ⟨ν, x.ans q1, q2⟩) (fun E h' f => f)
theorem Rel.gl {A A' : An Int64} (x : Rel ω μ) (C : Con g X dd args (mw h m (mS μ (wS ω))) (wPl h m (mAns μ (wS ω) xs A))) (e : A = A') : Con g X dd args (mw h m μ) (wPl h m (agA xs A' ω)) := by
  rw [x.self] at C
  subst e
  exact C.pl (fun r h' q => by
    obtain ⟨ν, q1, q2⟩ := q
    exact ⟨ν, x.ans q1, q2⟩) (fun E h' f => f)
theorem v_house (x : Rel ω μ) : Con g mX12_house (d + 40) [.ref m, .int i, .int k] (mw h m μ) (wPi h m (agA [nse, iae] (fHouse ω i k) ω)) := by
  have B : stB (wS ω) := x.1.2.1.1.1
  have E : encT (kn μ) (tT ω) := x.1.1.1.1
  exact x.gi (m_house (d := d + 36) (μ := μ) (σ := wS ω) (T := tT ω) (i := i) (k := k) B E) rfl
theorem v_household (x : Rel ω μ) : Con g mX12_household (d + 40) [.ref m, .int i, .int k] (mw h m μ) (wPi h m (agA [nse, iae] (fHold ω i k) ω)) := by
  have B : stB (wS ω) := x.1.2.1.1.1
  have E : encT (kn μ) (tT ω) := x.1.1.1.1
  exact x.gi (m_household (d := d + 36) (μ := μ) (σ := wS ω) (i := i) (k := k) B) rfl
theorem v_pays (x : Rel ω μ) : Con g mX12_pays (d + 40) [.ref m, .int i] (mw h m μ) (wPi h m (agA [nse, ise] (fPays ω i) ω)) := by
  have B : stB (wS ω) := x.1.2.1.1.1
  have E : encT (kn μ) (tT ω) := x.1.1.1.1
  exact x.gi (m_pays (d := d + 34) (μ := μ) (σ := wS ω) (T := tT ω) (i := i) B E) rfl
theorem v_grows (x : Rel ω μ) : Con g mX12_grows (d + 40) [.ref m, .int i, .int n] (mw h m μ) (wPi h m (agA [nse, iae] (fGrows ω i n) ω)) := by
  have B : stB (wS ω) := x.1.2.1.1.1
  have E : encT (kn μ) (tT ω) := x.1.1.1.1
  exact x.gi (m_grows (d := d + 34) (μ := μ) (σ := wS ω) (T := tT ω) (i := i) (n := n) B E) rfl
theorem v_takes (x : Rel ω μ) : Con g mX12_takes (d + 40) [.ref m, .int i, .int n] (mw h m μ) (wPi h m (agA [nse, iae] (fTakes ω i n) ω)) := by
  have B : stB (wS ω) := x.1.2.1.1.1
  have E : encT (kn μ) (tT ω) := x.1.1.1.1
  exact x.gi (m_takes (d := d + 34) (μ := μ) (σ := wS ω) (T := tT ω) (i := i) (n := n) B E) rfl
theorem v_debtIn (x : Rel ω μ) : Con g mX12_debtIn (d + 40) [.ref m, .int i, .int n] (mw h m μ) (wPi h m (agA [nse, iae] (fDebtIn ω i n) ω)) := by
  have B : stB (wS ω) := x.1.2.1.1.1
  have E : encT (kn μ) (tT ω) := x.1.1.1.1
  exact x.gi (m_debtIn (d := d + 31) (μ := μ) (σ := wS ω) (T := tT ω) (i := i) (n := n) B E) rfl
theorem v_cashIn (x : Rel ω μ) : Con g mX12_cashIn (d + 40) [.ref m, .int i, .int n] (mw h m μ) (wPi h m (agA [nse, iae] (fCashIn ω i n) ω)) := by
  have B : stB (wS ω) := x.1.2.1.1.1
  have E : encT (kn μ) (tT ω) := x.1.1.1.1
  exact x.gi (m_cashIn (d := d + 31) (μ := μ) (σ := wS ω) (T := tT ω) (i := i) (n := n) B E) rfl
theorem v_seaIn (x : Rel ω μ) : Con g mX12_seaIn (d + 40) [.ref m, .int n] (mw h m μ) (wPi h m (agA [iae] (fSeaIn ω n) ω)) := by
  have B : stB (wS ω) := x.1.2.1.1.1
  have E : encT (kn μ) (tT ω) := x.1.1.1.1
  exact x.gi (m_seaIn (d := d + 31) (μ := μ) (σ := wS ω) (T := tT ω) (n := n) B E) rfl
theorem v_ruinIn (x : Rel ω μ) : Con g mX12_ruinIn (d + 40) [.ref m, .int i] (mw h m μ) (wPi h m (agA [nse] (fRuinIn ω i) ω)) := by
  have B : stB (wS ω) := x.1.2.1.1.1
  have E : encT (kn μ) (tT ω) := x.1.1.1.1
  exact x.gi (m_ruinIn (d := d + 31) (μ := μ) (σ := wS ω) (T := tT ω) (i := i) B E) rfl
theorem v_lost (x : Rel ω μ) : Con g mX12_lost (d + 40) [.ref m, .int n] (mw h m μ) (wPi h m (agA [iae] (fLost ω n) ω)) := by
  have B : stB (wS ω) := x.1.2.1.1.1
  have E : encT (kn μ) (tT ω) := x.1.1.1.1
  exact x.gi (m_lost (d := d + 30) (μ := μ) (σ := wS ω) (T := tT ω) (n := n) B E) (t_lost B n)
theorem v_burden (x : Rel ω μ) : Con g mX12_burden (d + 40) [.ref m, .int i, .int n] (mw h m μ) (wPl h m (agA [nse, iae] (fBurden ω i n) ω)) := by
  have B : stB (wS ω) := x.1.2.1.1.1
  have E : encT (kn μ) (tT ω) := x.1.1.1.1
  exact x.gl (m_burden (d := d + 31) (μ := μ) (σ := wS ω) (T := tT ω) (i := i) (n := n) B E) rfl
theorem v_heaviest (x : Rel ω μ) : Con g mX12_heaviest (d + 40) [.ref m, .int n] (mw h m μ) (wPi h m (agA [iae] (fHeaviest ω n) ω)) := by
  have B : stB (wS ω) := x.1.2.1.1.1
  have E : encT (kn μ) (tT ω) := x.1.1.1.1
  exact x.gi (m_heaviest (d := d + 31) (μ := μ) (σ := wS ω) (T := tT ω) (n := n) B E) (t_heaviest B n)
theorem v_paid (x : Rel ω μ) : Con g mX12_paid (d + 40) [.ref m, .int n] (mw h m μ) (wPl h m (agA [iae] (fPaid ω n) ω)) := by
  have B : stB (wS ω) := x.1.2.1.1.1
  have E : encT (kn μ) (tT ω) := x.1.1.1.1
  exact x.gl (m_paid (d := d + 31) (μ := μ) (σ := wS ω) (T := tT ω) (n := n) B E) rfl
theorem v_clear (x : Rel ω μ) : Con g mX12_clear (d + 40) [.ref m] (mw h m μ) (wPi h m (agA [] ((.inr (clrL (aN ω) 201 0) : An Int32)) ω)) := by
  have B : stB (wS ω) := x.1.2.1.1.1
  have E : encT (kn μ) (tT ω) := x.1.1.1.1
  exact x.gi (m_clear (d := d + 31) (μ := μ) (σ := wS ω) (T := tT ω)  B E) rfl
theorem v_bestSwap (x : Rel ω μ) : Con g mX12_bestSwap (d + 40) [.ref m, .int n] (mw h m μ) (wPi h m (agA [iae] (fBestSwap ω n) ω)) := by
  have B : stB (wS ω) := x.1.2.1.1.1
  have E : encT (kn μ) (tT ω) := x.1.1.1.1
  exact x.gi (m_bestSwap (d := d + 30) (μ := μ) (σ := wS ω) (T := tT ω) (n := n) B E) (t_bestSwap B n)
theorem v_wouldSwap (x : Rel ω μ) : Con g mX12_wouldSwap (d + 40) [.ref m, .int n] (mw h m μ) (wPi h m (agA [iae] (fWouldSwap ω n) ω)) := by
  have B : stB (wS ω) := x.1.2.1.1.1
  have E : encT (kn μ) (tT ω) := x.1.1.1.1
  exact x.gi (m_wouldSwap (d := d + 30) (μ := μ) (σ := wS ω) (T := tT ω) (n := n) B E) (t_wouldSwap B n)
theorem v_bestHouse (x : Rel ω μ) : Con g mX12_bestHouse (d + 40) [.ref m, .int i, .int n] (mw h m μ) (wPi h m (agA [nse, iae] (fBestHouse ω i n) ω)) := by
  have B : stB (wS ω) := x.1.2.1.1.1
  have E : encT (kn μ) (tT ω) := x.1.1.1.1
  exact x.gi (m_bestHouse (d := d + 30) (μ := μ) (σ := wS ω) (T := tT ω) (i := i) (n := n) B E) (t_bestHouse B i n)
theorem v_hedges (x : Rel ω μ) : Con g mX12_hedges (d + 40) [.ref m, .int i, .int n, .int w] (mw h m μ) (wPi h m (agA [nse, iae, ise] (fHedges ω i n w) ω)) := by
  have B : stB (wS ω) := x.1.2.1.1.1
  have E : encT (kn μ) (tT ω) := x.1.1.1.1
  exact x.gi (m_hedges (d := d + 30) (μ := μ) (σ := wS ω) (T := tT ω) (i := i) (n := n) (w := w) B E) (t_hedges B i n w)
theorem v_bestHedge (x : Rel ω μ) : Con g mX12_bestHedge (d + 40) [.ref m, .int n] (mw h m μ) (wPi h m (agA [iae] (fBestHedge ω n) ω)) := by
  have B : stB (wS ω) := x.1.2.1.1.1
  have E : encT (kn μ) (tT ω) := x.1.1.1.1
  exact x.gi (m_bestHedge (d := d + 30) (μ := μ) (σ := wS ω) (T := tT ω) (n := n) B E) (t_bestHedge B n)
theorem v_saves (x : Rel ω μ) : Con g mX12_saves (d + 40) [.ref m, .int i, .int n] (mw h m μ) (wPi h m (agA [nse, iae, ise] (fSaves ω i n) ω)) := by
  have B : stB (wS ω) := x.1.2.1.1.1
  have E : encT (kn μ) (tT ω) := x.1.1.1.1
  exact x.gi (m_saves (d := d + 30) (μ := μ) (σ := wS ω) (T := tT ω) (i := i) (n := n) B E) (t_saves B i n)
theorem v_leastLimit (x : Rel ω μ) : Con g mX12_leastLimit (d + 40) [.ref m, .int n] (mw h m μ) (wPi h m (agA [iae] (fLeast ω n) ω)) := by
  have B : stB (wS ω) := x.1.2.1.1.1
  have E : encT (kn μ) (tT ω) := x.1.1.1.1
  exact x.gi (m_leastLimit (d := d + 30) (μ := μ) (σ := wS ω) (T := tT ω) (n := n) B E) (t_leastLimit B n)
theorem v_worth (x : Rel ω μ) : Con g mX12_worth (d + 40) [.ref m, .int i, .int n] (mw h m μ) (wPi h m (agA [nse, iae, ise] (fWorth ω i n) ω)) := by
  have B : stB (wS ω) := x.1.2.1.1.1
  have E : encT (kn μ) (tT ω) := x.1.1.1.1
  exact x.gi (m_worth (d := d + 29) (μ := μ) (σ := wS ω) (T := tT ω) (i := i) (n := n) B E) (t_worth B i n)
theorem v_pillar (x : Rel ω μ) : Con g mX12_pillar (d + 40) [.ref m, .int n] (mw h m μ) (wPi h m (agA [iae] (fPillar ω n) ω)) := by
  have B : stB (wS ω) := x.1.2.1.1.1
  have E : encT (kn μ) (tT ω) := x.1.1.1.1
  exact x.gi (m_pillar (d := d + 29) (μ := μ) (σ := wS ω) (T := tT ω) (n := n) B E) (t_pillar B n)
end VAS
