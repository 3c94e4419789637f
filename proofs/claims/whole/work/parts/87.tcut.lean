/-! The two agree: what is cut for a tray, what is seen, what is told -/
section TCU
variable {T : Td} {lim : Int32} {σ α β ν : St} {n m i j k N F : Nat} {ω : CW} {v : Int64} {f : Nat → Int64} {x M : Nat} {δ : Ds} {Y : Nat → Ty} {ξ : Hs}
theorem cut_bv (a : BitVec 64) (w : Nat) (hw : w = 8 ∨ w = 16 ∨ w = 32) : ((a <<< (64 - w)).sshiftRight (64 - w)).toInt = a.toInt.bmod (2 ^ w) := by
  rw [BitVec.toInt_sshiftRight, BitVec.toInt_shiftLeft, Int.shiftRight_eq_div_pow, BitVec.toInt_eq_toNat_bmod, Nat.shiftLeft_eq]
  generalize a.toNat = n
  rcases hw with rfl | rfl | rfl
  all_goals
    rw [Int.bmod_bmod_of_dvd (by decide), Int.bmod_def, Int.bmod_def]
    simp only [Int.natCast_mul, Int.natCast_pow]
    omega
theorem cut_i (c : Int64) (w : Nat) (hw : w = 8 ∨ w = 16 ∨ w = 32) (hc : (c.toBitVec.smod 64).toNat = 64 - w) : ((v <<< c) >>> c).toInt = v.toInt.bmod (2 ^ w) := by
  rw [← Int64.toInt_toBitVec, Int64.toBitVec_shiftRight, Int64.toBitVec_shiftLeft, BitVec.shiftLeft_eq', BitVec.sshiftRight_eq', hc, cut_bv _ _ hw]
  rfl
theorem cut_e {s : Int32} (hs : s = 0 ∨ s = 1 ∨ s = 2 ∨ s = 3) : mcut s v = ycut s v := by
  rcases hs with rfl | rfl | rfl | rfl
  · have e : (((64 - ((8 : Int32) <<< ((0 : Int32) &&& 31))) : Int32).toInt64 &&& 63) = 56 := by decide
    unfold mcut ycut
    rw [e, if_pos rfl]
    apply Int64.toInt_inj.mp
    rw [cut_i 56 8 (Or.inl rfl) (by decide), Int32.toInt_toInt64, Int8.toInt_toInt32, Int32.toInt_toInt8, Int64.toInt_toInt32, Int.bmod_bmod_of_dvd (by decide)]
  · have e : (((64 - ((8 : Int32) <<< ((1 : Int32) &&& 31))) : Int32).toInt64 &&& 63) = 48 := by decide
    unfold mcut ycut
    rw [e, if_neg (by decide), if_pos rfl]
    apply Int64.toInt_inj.mp
    rw [cut_i 48 16 (Or.inr (Or.inl rfl)) (by decide), Int32.toInt_toInt64, Int16.toInt_toInt32, Int32.toInt_toInt16, Int64.toInt_toInt32, Int.bmod_bmod_of_dvd (by decide)]
  · have e : (((64 - ((8 : Int32) <<< ((2 : Int32) &&& 31))) : Int32).toInt64 &&& 63) = 32 := by decide
    unfold mcut ycut
    rw [e, if_neg (by decide), if_neg (by decide), if_pos rfl]
    apply Int64.toInt_inj.mp
    rw [cut_i 32 32 (Or.inr (Or.inr rfl)) (by decide), Int32.toInt_toInt64, Int64.toInt_toInt32]
  · have e : (((64 - ((8 : Int32) <<< ((3 : Int32) &&& 31))) : Int32).toInt64 &&& 63) = 0 := by decide
    unfold mcut ycut
    rw [e, if_neg (by decide), if_neg (by decide), if_neg (by decide)]
    apply Int64.toInt_inj.mp
    rw [← Int64.toInt_toBitVec, Int64.toBitVec_shiftRight, Int64.toBitVec_shiftLeft, BitVec.shiftLeft_eq', BitVec.sshiftRight_eq', show (Int64.toBitVec 0).smod 64 = 0#64 by decide]
    simp
/-- sorts that a tray may have -/
def srtOk (Y : Nat → Ty) : Prop := ∀ j, j < 4 → (Y j).2.1 = -1 ∨ (Y j).2.1 = 0 ∨ (Y j).2.1 = 1 ∨ (Y j).2.1 = 2 ∨ (Y j).2.1 = 3
theorem srt_c (h : srtOk Y) (hj : j < 4) (c : ¬ (Y j).2.1 = -1) : mcut (Y j).2.1 v = ycut (Y j).2.1 v := cut_e ((h j hj).elim (fun z => absurd z c) id)
theorem upY_f {j : Nat} {θ : Ty} : wY (pY ω j θ) = upY (wY ω) j θ := rfl
theorem t_tray (i s m : Int32) : hTray (wY ω) i s m = ((fTray ω i s m).1, wY (fTray ω i s m).2) := by
  unfold hTray fTray
  by_cases c : trOk i = false
  · rw [if_pos c, if_pos c]
  rw [if_neg c, if_neg c]
  by_cases c2 : inN s 0 3 = false
  · rw [if_pos c2, if_pos c2]
  rw [if_neg c2, if_neg c2]
  by_cases c3 : inN m 0 30 = false
  · rw [if_pos c3, if_pos c3]
  rw [if_neg c3, if_neg c3]
  rfl
theorem t_write (h : srtOk (wY ω)) (i p : Int32) (v : Int64) : hWrite (wY ω) i p v = ((fWrite ω i p v).1, wY (fWrite ω i p v).2) := by
  unfold hWrite fWrite
  show (match trE (wY ω) i with | some E => _ | none => _) = ((match trE (wY ω) i with | some E => _ | none => _ : An Int64 × CW).1, wY (match trE (wY ω) i with | some E => _ | none => _ : An Int64 × CW).2)
  cases hE : trE (wY ω) i with
  | some E => rfl
  | none =>
    obtain ⟨t1, t2⟩ := trE_n hE
    have e := srt_c (v := v) h (trOk_n t1).2 t2
    by_cases c : p < 0 ∨ ¬ p < (wY ω (ix i)).1
    · simp only [if_pos c]
    · simp only [if_neg c, e]
      rfl
theorem cpy_e (h : srtOk (wY ω)) {i : Nat} (hi : i < 4) (c : ¬ (wY ω i).2.1 = -1) (x : Nat) : ∀ j, cpyM (tT ω) (wS ω) (wY ω i).2.1 f x j = cpyF ω (wY ω i).2.1 f x j
  | 0 => rfl
  | j + 1 => by
    show vp_updL (cpyM (tT ω) (wS ω) (wY ω i).2.1 f x j) j (mcut (wY ω i).2.1 (pasCame (tT ω) (pN (tT ω) (wS ω) j) x).toInt64) = vp_updL (cpyF ω (wY ω i).2.1 f x j) j (ycut (wY ω i).2.1 (pasCame (tT ω) (aN ω j) x).toInt64)
    rw [cpy_e h hi c x j, srt_c h hi c]
    rfl
theorem t_copy (h : srtOk (wY ω)) (i k : Int32) : hCopy (tT ω) (wS ω) (wY ω) i k = ((fCopy ω i k).1, wY (fCopy ω i k).2) := by
  unfold hCopy fCopy
  by_cases c : trOk i = false
  · rw [if_pos c, if_pos c]
  rw [if_neg c, if_neg c]
  by_cases c2 : sHas (wS ω) k = false
  · rw [if_pos c2, if_pos c2]
  rw [if_neg c2, if_neg c2]
  by_cases c3 : (wY ω (ix i)).2.1 = -1
  · rw [if_pos c3, if_pos c3]
  rw [if_neg c3, if_neg c3]
  have t1 : trOk i = true := by cases hh : trOk i with | true => rfl | false => exact absurd hh c
  rw [cpy_e h (trOk_n t1).2 c3]
  rfl
/-! what is seen -/
theorem isH_n {two : Nat} (h : 99 * sN β ≤ two) : isHid T β f x M two = false := by
  unfold isHid
  rw [decide_eq_false (by omega), Bool.false_and]
theorem hidN_s : ∀ m, hidN T β f x M (99 * sN β + m) = hidN T β f x M (99 * sN β)
  | 0 => rfl
  | m + 1 => by
    show (if isHid T β f x M (99 * sN β + m) = true then _ else hidN T β f x M (99 * sN β + m)) = _
    rw [isH_n (by omega), if_neg (by decide), hidN_s m]
theorem hidD_s : ∀ m, hidD T β f x M δ (99 * sN β + m) = hidD T β f x M δ (99 * sN β)
  | 0 => rfl
  | m + 1 => by
    show (if isHid T β f x M (99 * sN β + m) = true then _ else hidD T β f x M δ (99 * sN β + m)) = _
    rw [isH_n (by omega), if_neg (by decide), hidD_s m]
theorem hid_693 (h : sN β ≤ 7) : hidN T β f x M 693 = hidN T β f x M (99 * sN β) ∧ hidD T β f x M δ 693 = hidD T β f x M δ (99 * sN β) := by
  have := hidN_s (T := T) (β := β) (f := f) (x := x) (M := M) (693 - 99 * sN β)
  have h2 := hidD_s (T := T) (β := β) (f := f) (x := x) (M := M) (δ := δ) (693 - 99 * sN β)
  rw [show 99 * sN β + (693 - 99 * sN β) = 693 by omega] at this h2
  exact ⟨this, h2⟩
theorem tm_e (G : Nat → Nat → Int32) (hF : F ≤ 693) : ∀ j, (tmM G F j).1 = (tmF G F j).1 ∧ ((j = 0 ∧ (tmM G F j).2 = 536870912) ∨ (tmM G F j).2 = nI (tmF G F j).2)
  | 0 => ⟨rfl, Or.inl ⟨rfl, rfl⟩⟩
  | j + 1 => by
    obtain ⟨h1, h2⟩ := tm_e G hF j
    have b1 := mxc_n (G j) F
    have b2 := tmF_le G F hF j
    have key : nI (mxc (G j) F F) < (tmM G F j).2 ↔ mxc (G j) F F < (tmF G F j).2 := by
      rcases h2 with ⟨z, h2⟩ | h2
      · subst z
        rw [h2]
        have e : (tmF G F 0).2 = 694 := rfl
        rw [e]
        exact ⟨fun _ => by omega, fun _ => (nI_lti (b := 536870912) (by omega) (by omega)).mpr (by omega)⟩
      · rw [h2, nI_lti (by omega) (by omega)]
    show (if nI (mxc (G j) F F) < (tmM G F j).2 then (nI j, nI (mxc (G j) F F)) else tmM G F j).1 = (if mxc (G j) F F < (tmF G F j).2 then (nI j, mxc (G j) F F) else tmF G F j).1 ∧ ((j + 1 = 0 ∧ _) ∨ (if nI (mxc (G j) F F) < (tmM G F j).2 then (nI j, nI (mxc (G j) F F)) else tmM G F j).2 = nI (if mxc (G j) F F < (tmF G F j).2 then (nI j, mxc (G j) F F) else tmF G F j).2)
    by_cases c : mxc (G j) F F < (tmF G F j).2
    · rw [if_pos (key.mpr c), if_pos c]
      exact ⟨rfl, Or.inr rfl⟩
    · rw [if_neg (fun z => c (key.mp z)), if_neg c]
      refine ⟨h1, ?_⟩
      rcases h2 with ⟨z, h2⟩ | h2
      · subst z
        exact absurd (show mxc (G 0) F F < 694 by omega) c
      · exact Or.inr h2
theorem t_seen (h7 : sN (wT ω).2.2 ≤ 7) (e : (wT ω).2.2.1 0 = (wS ω).1 0) (i k : Int32) : hSeen (tT ω) (wT ω).2.2 (wS ω) (wY ω) i k = fSeen ω i k := by
  have eN : sN (wT ω).2.2 = sN (wS ω) := by unfold sN; rw [e]
  unfold hSeen fSeen seenN
  rw [(hid_693 (δ := wD ω) h7).1, eN]
  rfl
theorem t_hidden (h7 : sN (wT ω).2.2 ≤ 7) (e : (wT ω).2.2.1 0 = (wS ω).1 0) (i k n : Int32) : hHidden (tT ω) (wT ω).2.2 (wS ω) (wY ω) (wD ω) i k n = fHidden ω i k n := by
  have eN : sN (wT ω).2.2 = sN (wS ω) := by unfold sN; rw [e]
  unfold hHidden fHidden seenN seenD
  rw [(hid_693 (δ := wD ω) h7).1, (hid_693 (δ := wD ω) h7).2, eN]
  rfl
theorem t_look (h7 : sN (wT ω).2.2 ≤ 7) (e : (wT ω).2.2.1 0 = (wS ω).1 0) (i k : Int32) : hLook (tT ω) (wT ω).2.2 (wS ω) (wY ω) (wD ω) i k = fLook ω i k := by
  have eN : sN (wT ω).2.2 = sN (wS ω) := by unfold sN; rw [e]
  unfold hLook fLook seenN seenD
  rw [(hid_693 (δ := wD ω) h7).1, (hid_693 (δ := wD ω) h7).2, eN]
  have F1 := hidN_le (T := tT ω) (β := (wT ω).2.2) (f := (wY ω (ix i)).2.2) (x := ix k) (M := ix (wY ω (ix i)).1) (99 * sN (wS ω))
  have z := (tm_e (hidD (tT ω) (wT ω).2.2 (wY ω (ix i)).2.2 (ix k) (ix (wY ω (ix i)).1) (wD ω) (99 * sN (wS ω))).2.2 (F := hidN (tT ω) (wT ω).2.2 (wY ω (ix i)).2.2 (ix k) (ix (wY ω (ix i)).1) (99 * sN (wS ω))) (by omega) (sN (wS ω))).1
  rw [z]
  rfl
/-! told deeds -/
theorem t_judge (i w : Int32) : hJudge (tT ω) (wY ω) (wS ω) i w = fJudge ω i w := rfl
theorem per_e (f : Nat → Int64) : ∀ m j (ω : CW), perL f m j ω = ((hPer (tT ω) f m j (wH ω, wS ω)).1, pS (pH ω (hPer (tT ω) f m j (wH ω, wS ω)).2.1) (hPer (tT ω) f m j (wH ω, wS ω)).2.2)
  | 0, _, _ => rfl
  | m + 1, j, ω => by
    by_cases c : whyF (wS ω) (f j) = 0
    · have e1 : fCould ω (f j) = (true, pS (wPush ω) (carF (tT ω) (tL ω) (wS ω) (f j))) := if_pos c
      have e2 : perL f (m + 1) j ω = perL f m (j + 1) (pS (wPush ω) (carF (tT ω) (tL ω) (wS ω) (f j))) := by
        show (if (fCould ω (f j)).1 = true then perL f m (j + 1) (fCould ω (f j)).2 else _) = _
        rw [e1, if_pos rfl]
      have e3 : hPer (tT ω) f (m + 1) j (wH ω, wS ω) = hPer (tT ω) f m (j + 1) (carH (tT ω) (wH ω, wS ω) (f j)) := if_pos c
      rw [e2, e3, per_e f m (j + 1)]
      rfl
    · have e1 : fCould ω (f j) = (false, ω) := if_neg c
      have e2 : perL f (m + 1) j ω = (nI j, ω) := by
        show (if (fCould ω (f j)).1 = true then _ else (nI j, (fCould ω (f j)).2)) = _
        rw [e1, if_neg Bool.false_ne_true]
      have e3 : hPer (tT ω) f (m + 1) j (wH ω, wS ω) = (nI j, (wH ω, wS ω)) := if_neg c
      rw [e2, e3]
      rfl
theorem t_perform (i : Int32) : fPerform ω i = ((hPerform (tT ω) (wY ω) (wH ω) (wS ω) i).1, pS (pH ω (hPerform (tT ω) (wY ω) (wH ω) (wS ω) i).2.1) (hPerform (tT ω) (wY ω) (wH ω) (wS ω) i).2.2) := by
  unfold fPerform hPerform
  show (match trE (wY ω) i with | some E => _ | none => _) = _
  cases trE (wY ω) i with
  | some E => rfl
  | none =>
    simp only []
    rw [per_e]
theorem yr_e : ∀ m c (ω : CW), yrL m c ω = ((hYr (tT ω) m c (wI ω 3) (wH ω, wS ω)).1, pS (pH (pI ω 3 (hYr (tT ω) m c (wI ω 3) (wH ω, wS ω)).2.1) (hYr (tT ω) m c (wI ω 3) (wH ω, wS ω)).2.2.1) (hYr (tT ω) m c (wI ω 3) (wH ω, wS ω)).2.2.2)
  | 0, c, ω => by
    have e : pI ω 3 (wI ω 3) = ω := by
      unfold pI
      have : (fun i => if i = 3 then wI ω 3 else ω.2.1 i) = ω.2.1 := by
        funext i
        by_cases q : i = 3
        · rw [if_pos q, q]
        · rw [if_neg q]
      rw [this]
    show (c, ω) = (c, pS (pH (pI ω 3 (wI ω 3)) (wH ω)) (wS ω))
    rw [e]
    rfl
  | m + 1, c, ω => by
    have pp : ∀ {x y : Int32} {ω : CW}, pI (pI ω 3 x) 3 y = pI ω 3 y := by
      intro x y ω
      unfold pI
      have : (fun i => if i = 3 then y else (fun i => if i = 3 then x else ω.2.1 i) i) = fun i => if i = 3 then y else ω.2.1 i := by
        funext i
        by_cases q : i = 3
        · rw [if_pos q, if_pos q]
        · rw [if_neg q, if_neg q]; exact if_neg q
      exact congrArg (fun f => (ω.1, f, ω.2.2)) this
    by_cases q : whyF (wS ω) (drD ((wS ω).1 0) (wI ω 3)).1.toInt64 = 0
    · have e1 : yrStep ω = (true, pS (wPush (pI ω 3 (drD ((wS ω).1 0) (wI ω 3)).2)) (carF (tT ω) (tL ω) (wS ω) (drD ((wS ω).1 0) (wI ω 3)).1.toInt64)) := if_pos q
      have e2 : hYr (tT ω) (m + 1) c (wI ω 3) (wH ω, wS ω) = hYr (tT ω) m (c + 1) (drD ((wS ω).1 0) (wI ω 3)).2 (carH (tT ω) (wH ω, wS ω) (drD ((wS ω).1 0) (wI ω 3)).1.toInt64) := if_pos q
      show yrL m (if (yrStep ω).1 = true then c + 1 else c) (yrStep ω).2 = _
      rw [e1, if_pos rfl, e2, yr_e m (c + 1)]
      refine Prod.ext rfl ?_
      show pS (pH (pI (pS (wPush (pI ω 3 _)) _) 3 _) _) _ = _
      have e3 : ∀ (y : Int32) (ξ' : Hs) (σ' σ'' : St), pS (pH (pI (pS (wPush (pI ω 3 (drD ((wS ω).1 0) (wI ω 3)).2)) σ') 3 y) ξ') σ'' = pS (pH (pI (pI ω 3 (drD ((wS ω).1 0) (wI ω 3)).2) 3 y) ξ') σ'' := fun _ _ _ _ => rfl
      rw [e3, pp]
      rfl
    · have e1 : yrStep ω = (false, pI ω 3 (drD ((wS ω).1 0) (wI ω 3)).2) := if_neg q
      have e2 : hYr (tT ω) (m + 1) c (wI ω 3) (wH ω, wS ω) = hYr (tT ω) m c (drD ((wS ω).1 0) (wI ω 3)).2 (wH ω, wS ω) := if_neg q
      show yrL m (if (yrStep ω).1 = true then c + 1 else c) (yrStep ω).2 = _
      rw [e1, if_neg Bool.false_ne_true, e2, yr_e m c]
      refine Prod.ext rfl ?_
      show pS (pH (pI (pI ω 3 _) 3 _) _) _ = _
      rw [pp]
      rfl
end TCU
