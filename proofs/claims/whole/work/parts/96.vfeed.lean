/-! Bytes fed agree -/
def fdN (ω : CW) (L : Nat) (w : Nat → Int32) : Nat → CW
  | 0 => ω
  | j + 1 => fd1 (fdN ω L w j) (L + j) (w (j / 4)) (24 - 8 * nI (j % 4))
section VFE
variable {g : jG} {d : Nat} {h : jH} {m : Nat} {μ ν : MW} {ω ω' : CW} {i k n w : Int32} {L top : Nat} {W : Nat → Int32}
theorem fd_20 {a b c e f : Int32} : fd20 ω L a b c e f = fdN ω L (w5 a b c e f) 20 := rfl
theorem fdN_r : ∀ j, (fdN ω L W j).2.2 = ω.2.2
  | 0 => rfl
  | j + 1 => fdN_r j
theorem fdN_i : ∀ j k, wI (fdN ω L W j) k = if k = 0 ∧ 0 < j then nI (L + j) else wI ω k
  | 0, k => by rw [if_neg (by omega)]; rfl
  | j + 1, k => by
    show (if k = 0 then nI (L + j + 1) else wI (fdN ω L W j) k) = _
    by_cases c : k = 0
    · rw [if_pos c, if_pos ⟨c, by omega⟩]; rfl
    · rw [if_neg c, if_neg (fun z => c z.1), fdN_i j, if_neg (fun z => c z.1)]
theorem fdN_t : ∀ j y, wTape (fdN ω L W j) y = if L ≤ y ∧ y < L + j then fdB (W ((y - L) / 4)) (24 - 8 * nI ((y - L) % 4)) else wTape ω y
  | 0, y => by rw [if_neg (by omega)]; rfl
  | j + 1, y => by
    show upd (wTape (fdN ω L W j)) (L + j) (fdB (W (j / 4)) (24 - 8 * nI (j % 4))) y = _
    unfold upd
    by_cases c : y = L + j
    · rw [if_pos c, if_pos (by omega), c, Nat.add_sub_cancel_left]
    · rw [if_neg c, fdN_t j]
      by_cases c2 : L ≤ y ∧ y < L + j
      · rw [if_pos c2, if_pos (by omega)]
      · rw [if_neg c2, if_neg (by omega)]
theorem fdB_b (x s : Int32) : ∃ n, n < 256 ∧ fdB x s = nI n - 128 := by
  unfold fdB
  rw [nar_b]
  generalize (x >>> (s &&& 31)).toInt8 = v
  have h1 := Int8.toInt_lt v
  have h2 := Int8.le_toInt v
  refine ⟨(v.toInt + 128).toNat, by omega, ?_⟩
  apply Int32.toInt_inj.mp
  have t : (128 : Int32).toInt = 128 := rfl
  rw [tI_sub (by rw [nI_toInt (by omega), t]; omega), nI_toInt (by omega), t, Int8.toInt_toInt32]
  omega
theorem byt_fd (h : byt (wTape ω)) (j : Nat) : byt (wTape (fdN ω L W j)) := by
  intro y
  rw [fdN_t]
  split
  · exact fdB_b _ _
  · exact h y
theorem Rel.fed (x : Rel ω μ) (eL : wI ω 0 = nI L) (hL : L + 20 ≤ 900) (y : fedP μ L W ν) : Rel (fdN ω L W 20) ν := by
  obtain ⟨p1, p4, p6, p2, pa, pc⟩ := y
  obtain ⟨L', ⟨a1, a2⟩, a3, a4, a5⟩ := x.2.2.2.1.1
  have : L' = L := nI_ij (by omega) (by omega) (a1.symm.trans eL)
  subst this
  have r := fdN_r (ω := ω) (L := L') (W := W) 20
  have e1 : tpR (fdN ω L' W 20) ν := by
    refine ⟨L' + 20, ⟨by rw [fdN_i, if_pos ⟨rfl, by omega⟩], hL⟩, p6, byt_fd a4 20, fun j hj => ?_⟩
    rw [pc, fdN_t]
    by_cases c : L' ≤ j ∧ j < L' + 20
    · rw [if_pos c, if_pos c]
      exact mby_f W (j - L') (by omega)
    · rw [if_neg c, if_neg c]
      exact a5 j (by omega)
  have e2 : wI (fdN ω L' W 20) 1 = wI ω 1 := by rw [fdN_i, if_neg (by omega)]
  have e3 : wI (fdN ω L' W 20) 2 = wI ω 2 := by rw [fdN_i, if_neg (by omega)]
  unfold Rel
  rw [e2, e3]
  unfold wT wS wH wY wG wZ wO
  rw [r]
  exact ⟨⟨by rw [show kn ν = kn μ from pa 1 (by decide)]; exact x.1.1, x.1.2⟩, ⟨x.2.1.1.of (pa 15 (by decide)) (pa 16 (by decide)) p2, x.2.1.2⟩, fun i hi => ⟨(x.2.2.1 i hi).1.of (pa 3 (by decide)) (pa 4 (by decide)), (x.2.2.1 i hi).2⟩, ⟨e1, (p1 14 (by decide) (by decide)).trans x.2.2.2.1.2.1, (p1 15 (by decide) (by decide)).trans x.2.2.2.1.2.2⟩, x.2.2.2.2⟩
theorem v_feed {a b c e f : Int32} (x : Rel ω μ) (eL : wI ω 0 = nI L) (hL : L ≤ 900) : Con g mX12_feed (d + 40) [.ref m, .int a, .int b, .int c, .int e, .int f] (mw h m μ) (wPi h m (agA [] (fFeed ω L a b c e f).1 (fFeed ω L a b c e f).2)) := by
  obtain ⟨L', ⟨a1, a2⟩, a3, a4, a5⟩ := x.2.2.2.1.1
  have : L' = L := nI_ij (by omega) (by omega) (a1.symm.trans eL)
  subst this
  refine (m_feed (d := d + 39) (μ := μ) (a := a) (b := b) (c := c) (d1 := e) (e := f) hL a3).pi (fun r h' q => ?_) (fun E h' f => f)
  obtain ⟨ν, q1, q2⟩ := q
  refine ⟨ν, ?_, q2⟩
  unfold fFeed
  rcases q1 with ⟨c1, rfl, rfl⟩ | ⟨c1, rfl, y⟩
  · rw [if_pos c1]
    exact ⟨mI_at (μ := μ) 4 0, fun v hv => Sum.inr.inj hv, x⟩
  · rw [if_neg (by omega), fd_20]
    exact ⟨y.2.1, fun v hv => Sum.inr.inj hv, x.fed eL c1 y⟩
theorem k_feed {a b c e f : Int32} (x : KO ω top) : KO (fFeed ω L a b c e f).2 top := by
  unfold fFeed
  split
  · exact x
  · exact x.like rfl (fun i _ => rfl) rfl
end VFE
