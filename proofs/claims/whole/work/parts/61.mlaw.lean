/-! The reference weighs a law -/
def mBnd (s : Int64) : Int32 := ((jmaxL ((-1000000)) ((jminL 1000000 s)))).toInt32
def mDone (t : Int32) (a b : Int64) : Int32 := if t = 10 then mBnd (a + b) else if t = 11 then mBnd (a - b) else if t = 12 then mBnd (a * b) else if t = 13 then (if a = b then 1 else 0) else if t = 14 then (if a < b then 1 else 0) else if t = 15 then (if b < a then 1 else 0) else if t = 16 then (if 1 < a + b then 1 else 0) else (if 0 < a + b then 1 else 0)
def mStep (a : Nat → Int32) (c : Int32) (s : List Int32) : Option (List Int32) :=
  if c < 100 then (if c = 18 then (match s with | x :: r => some ((1 - x) :: r) | [] => none) else match s with | y :: x :: r => some (mDone c x.toInt64 y.toInt64 :: r) | _ => none)
  else if s.length < 64 then (if c < 1000 then (if c < 106 then some (a (ix (c - 100)) :: s) else none) else some ((c - 1000) :: s)) else none
def mEv (a : Nat → Int32) : List Int32 → List Int32 → Option (List Int32)
  | [], s => some s
  | c :: cs, s => match mStep a c s with | some s' => mEv a cs s' | none => none
section MLW
variable {g : jG} {d : Nat} {h hs : jH} {m : Nat} {μ : MW} {i k n : Int32}
theorem m_bound {x : Int64} : Con g mX12_bound (d + 1) [.long x] h (jPi (fun r h' => r = mBnd x ∧ h' = h) no2) :=
  con_of km_X12_bound.1.2.2.2.2 (Nat.le_of_ble_eq_true rfl) rfl (bX12_bound_0 ⟨rfl, rfl⟩)
theorem m_done {t : Int32} {x y : Int64} : Con g mX12_done (d + 2) [.int t, .long x, .long y] h (jPi (fun r h' => r = mDone t x y ∧ h' = h) no2) := by
  refine con_of km_X12_done.1.2.2.2.2 (Nat.le_of_ble_eq_true rfl) rfl (bX12_done_0 ⟨fun q => ?_, fun q1 => ⟨fun q => ?_, fun q2 => ⟨fun q => ?_, fun q3 => ⟨fun q => ?_, fun q4 => ⟨fun q => ?_, fun q5 => ⟨fun q => ?_, fun q6 => ⟨fun q => ?_, fun q7 => ?_⟩⟩⟩⟩⟩⟩⟩)
  · rw [show mDone t x y = mBnd (x + y) from if_pos q]; exact m_bound
  · rw [show mDone t x y = mBnd (x - y) from (if_neg q1).trans (if_pos q)]; exact m_bound
  · rw [show mDone t x y = mBnd (x * y) from (if_neg q1).trans ((if_neg q2).trans (if_pos q))]; exact m_bound
  · have e : mDone t x y = if x = y then 1 else 0 := (if_neg q1).trans ((if_neg q2).trans ((if_neg q3).trans (if_pos q)))
    exact ⟨fun c => ⟨(e.trans (if_pos c)).symm, rfl⟩, fun c => ⟨(e.trans (if_neg c)).symm, rfl⟩⟩
  · have e : mDone t x y = if x < y then 1 else 0 := (if_neg q1).trans ((if_neg q2).trans ((if_neg q3).trans ((if_neg q4).trans (if_pos q))))
    exact ⟨fun c => ⟨(e.trans (if_pos c)).symm, rfl⟩, fun c => ⟨(e.trans (if_neg c)).symm, rfl⟩⟩
  · have e : mDone t x y = if y < x then 1 else 0 := (if_neg q1).trans ((if_neg q2).trans ((if_neg q3).trans ((if_neg q4).trans ((if_neg q5).trans (if_pos q)))))
    exact ⟨fun c => ⟨(e.trans (if_pos c)).symm, rfl⟩, fun c => ⟨(e.trans (if_neg c)).symm, rfl⟩⟩
  · have e : mDone t x y = if 1 < x + y then 1 else 0 := (if_neg q1).trans ((if_neg q2).trans ((if_neg q3).trans ((if_neg q4).trans ((if_neg q5).trans ((if_neg q6).trans (if_pos q))))))
    exact ⟨fun c => ⟨(e.trans (if_pos c)).symm, rfl⟩, fun c => ⟨(e.trans (if_neg c)).symm, rfl⟩⟩
  · have e : mDone t x y = if 0 < x + y then 1 else 0 := (if_neg q1).trans ((if_neg q2).trans ((if_neg q3).trans ((if_neg q4).trans ((if_neg q5).trans ((if_neg q6).trans (if_neg q7))))))
    exact ⟨fun c => ⟨(e.trans (if_pos c)).symm, rfl⟩, fun c => ⟨(e.trans (if_neg c)).symm, rfl⟩⟩
/-- a law's code lies in what is known: its length at a, its words from b on -/
def mCode (K : Nat → Int32) (a b : Nat) (code : List Int32) : Prop := K a = nI code.length ∧ code.length ≤ 900 ∧ ∀ j, j < code.length → code[j]? = some (K (b + j))
theorem mA_mA {j : Nat} {f f' : Nat → Int32} : mA (mA μ j f) j f' = mA μ j f' := by
  unfold mA
  refine congrArg (fun F => (μ.1, F, μ.2.2)) (funext fun i => ?_)
  by_cases h : i = j
  · rw [if_pos h, if_pos h]
  · rw [if_neg h, if_neg h]; exact if_neg h
theorem mA_self {j : Nat} : mA μ j (μ.2.1 j) = μ := by
  have : (fun i => if i = j then μ.2.1 j else μ.2.1 i) = μ.2.1 := by
    funext i
    by_cases h : i = j
    · rw [if_pos h, h]
    · rw [if_neg h]
  unfold mA
  rw [this]
theorem law_loop {a b : Nat} {code : List Int32} {v : Int32} (C : mCode (kn μ) a b code) (ha : a < 3240) (hb : b + 900 ≤ 3240) : ∀ (rest done s : List Int32) (S : Nat → Int32), code = done ++ rest → piles S s → s.length ≤ 64 → mEv (μ.2.1 7) rest s = some [v] →
    J g mX12_lawOf (d + 3) hs (jPi (fun r h' => r = v ∧ ∃ S', h' = mw h m (mA μ 6 S')) no2) 5 [(0, .ref m), (1, .int (nI a)), (2, .int (nI b)), (3, .int (nI s.length)), (4, .int (nI done.length))] [] (mw h m (mA μ 6 S)) := by
  obtain ⟨c1, c2, c3⟩ := C
  have hia : ix (nI a) = a := ix_nI (by omega)
  intro rest
  induction rest with
  | nil =>
    intro done s S hd hp hs64 he
    have he' : s = [v] := Option.some.inj he
    subst he'
    rw [List.append_nil] at hd
    subst hd
    refine bX12_lawOf_5 ⟨_, mw_o, _, rfl, _, _, mw_1, mk3240 ha, fun q => ?_, fun _ => ⟨_, mw_o, _, rfl, _, _, mw_6, vp_in_nI (n := 0) (by decide) (by decide), ?_, S, rfl⟩⟩
    · have q' : nI code.length < kn μ (ix (nI a)) := q
      rw [hia, c1] at q'
      exact absurd q' (nI_nlt (Nat.le_refl _) (by omega))
    · exact piles_hd (s := []) hp
  | cons c cs ih =>
    intro done s S hd hp hs64 he
    have hlen : code.length = done.length + (cs.length + 1) := by rw [hd]; simp
    have hg : kn μ (b + done.length) = c := by
      have h1 := c3 done.length (by omega)
      have h2 : code[done.length]? = some c := by rw [hd]; simp
      exact Option.some.inj (h1.symm.trans h2)
    have hlt : nI done.length < kn μ (ix (nI a)) := by rw [hia, c1]; exact nI_lt (by omega) (by omega)
    have nx : nI done.length + 1 = nI (done ++ [c]).length := by rw [nI_1]; simp
    have hnew : code = (done ++ [c]) ++ cs := by rw [hd]; simp
    have hbx : nI b + nI done.length = nI (b + done.length) := nI_plus _ _
    have hib : ix (nI (b + done.length)) = b + done.length := ix_nI (by omega)
    have hv : kn μ (ix (nI b + nI done.length)) = c := by rw [hbx, hib, hg]
    simp only [mEv] at he
    cases hS : mStep (μ.2.1 7) c s with
    | none => rw [hS] at he; exact absurd he (by simp)
    | some s' =>
      rw [hS] at he
      replace he : mEv (μ.2.1 7) cs s' = some [v] := he
      have push : ∀ x : Int32, s' = x :: s → s.length < 64 → J g mX12_lawOf (d + 3) hs (jPi (fun r h' => r = v ∧ ∃ S', h' = mw h m (mA μ 6 S')) no2) 66 [(0, .ref m), (1, .int (nI a)), (2, .int (nI b)), (3, .int (nI s.length)), (4, .int (nI done.length))] [.int x, .int (nI s.length), .ref (m + 6)] (mw h m (mA μ 6 S)) := by
        intro x hx hl
        refine bX12_lawOf_66 ⟨_, _, mw_6, vp_in_nI hl (by decide), fun h5 e5 => ?_⟩
        have e6 : h5 = mw h m (mA μ 6 (upd S s.length x)) := by
          refine e5.trans ((mw_p6 _).trans ?_)
          rw [mA_mA]
          show mw h m (mA μ 6 (upd S (ix (nI s.length)) x)) = _
          rw [ix_nI (by omega)]
        rw [e6, nx, nI_1]
        have := ih (done ++ [c]) s' (upd S s.length x) hnew (by rw [hx]; exact piles_push hp) (by rw [hx]; simp; omega) he
        rw [hx] at this
        exact this
      refine bX12_lawOf_5 ⟨_, mw_o, _, rfl, _, _, mw_1, mk3240 ha, fun _ => ⟨_, mw_o, _, rfl, _, _, mw_1, by rw [hbx]; exact mk3240 (by omega), fun q => ?_, fun q => ⟨_, mw_o, _, rfl, fun q2 => ?_, fun q2 => ?_⟩⟩, fun c => absurd hlt c⟩
      · have q' : kn μ (ix (nI b + nI done.length)) < 100 := q
        rw [hv] at q'
        refine ⟨fun q2 => ?_, fun q2 => ?_⟩
        · have q2' : kn μ (ix (nI b + nI done.length)) = 18 := q2
          rw [hv] at q2'
          unfold mStep at hS
          rw [if_pos q', if_pos q2'] at hS
          cases s with
          | nil => exact absurd hS (by simp)
          | cons x r =>
            replace hS : (1 - x) :: r = s' := Option.some.inj hS
            subst hS
            have hr : r.length < 64 := by simp at hs64; omega
            have hm : nI (x :: r).length - 1 = nI r.length := nI_pred _
            refine ⟨_, mw_o, _, rfl, _, mw_o, _, rfl, _, _, mw_6, by rw [hm]; exact vp_in_nI hr (by decide), _, _, mw_6, by rw [hm]; exact vp_in_nI hr (by decide), fun h5 e5 => ?_⟩
            have e6 : h5 = mw h m (mA μ 6 (upd S r.length (1 - x))) := by
              refine e5.trans ((mw_p6 _).trans ?_)
              rw [mA_mA]
              show mw h m (mA μ 6 (upd S (ix (nI (x :: r).length - 1)) (1 - S (ix (nI (x :: r).length - 1))))) = _
              rw [hm, ix_nI (by omega), piles_hd hp]
            rw [e6, nx]
            exact ih (done ++ [c]) ((1 - x) :: r) (upd S r.length (1 - x)) hnew (piles_push (piles_tl hp)) (by simp at hs64 ⊢; omega) he
        · have q2' : ¬ kn μ (ix (nI b + nI done.length)) = 18 := q2
          rw [hv] at q2'
          unfold mStep at hS
          rw [if_pos q', if_neg q2'] at hS
          match s, hS with
          | y :: x :: r, hS =>
            replace hS : mDone c x.toInt64 y.toInt64 :: r = s' := Option.some.inj hS
            subst hS
            have hr : r.length < 63 := by simp at hs64; omega
            have hm : nI (y :: x :: r).length + (-1) = nI (x :: r).length := nI_dec _
            have hm2 : nI (x :: r).length - 1 = nI r.length := nI_pred _
            have hl1 : (x :: r).length < 64 := by simp; omega
            refine ⟨_, mw_o, _, rfl, _, mw_o, _, rfl, _, _, mw_6, by rw [hm, hm2]; exact vp_in_nI (by omega) (by decide), _, mw_o, _, rfl, _, _, mw_6, by rw [hm]; exact vp_in_nI hl1 (by decide), ?_⟩
            have C := m_done (g := g) (d := d) (h := mw h m (mA μ 6 S)) (t := c) (x := x.toInt64) (y := y.toInt64)
            have a1 : S (ix (nI (y :: x :: r).length + (-1) - 1)) = x := by rw [hm, hm2, ix_nI (by omega)]; exact piles_hd (piles_tl hp)
            have a2 : S (ix (nI (y :: x :: r).length + (-1))) = y := by rw [hm, ix_nI (by omega)]; exact piles_hd hp
            show Con g mX12_done (d + 2) [.int (kn μ (ix (nI b + nI done.length))), .long (S (ix (nI (y :: x :: r).length + (-1) - 1))).toInt64, .long (S (ix (nI (y :: x :: r).length + (-1)))).toInt64] _ _
            rw [a1, a2, hv]
            refine C.pi (fun z h' hz => ?_) (fun E h' f => f.elim)
            obtain ⟨rfl, rfl⟩ := hz
            refine ⟨_, _, mw_6, by rw [hm, hm2]; exact vp_in_nI (by omega) (by decide), fun h5 e5 => ?_⟩
            have e6 : h5 = mw h m (mA μ 6 (upd S r.length (mDone c x.toInt64 y.toInt64))) := by
              refine e5.trans ((mw_p6 _).trans ?_)
              rw [mA_mA]
              show mw h m (mA μ 6 (upd S (ix (nI (y :: x :: r).length + (-1) - 1)) _)) = _
              rw [hm, hm2, ix_nI (by omega)]
            rw [e6, nx, hm]
            exact ih (done ++ [c]) (mDone c x.toInt64 y.toInt64 :: r) (upd S r.length (mDone c x.toInt64 y.toInt64)) hnew (piles_push (piles_tl (piles_tl hp))) (by simp at hs64 ⊢; omega) he
          | [], hS => exact absurd hS (by simp)
          | [x], hS => exact absurd hS (by simp)
      · have q' : ¬ kn μ (ix (nI b + nI done.length)) < 100 := q
        rw [hv] at q'
        have q2' : kn μ (ix (nI b + nI done.length)) < 1000 := q2
        rw [hv] at q2'
        unfold mStep at hS
        rw [if_neg q'] at hS
        by_cases hl : s.length < 64
        · rw [if_pos hl, if_pos q2'] at hS
          by_cases h106 : c < 106
          · rw [if_pos h106] at hS
            refine ⟨_, mw_o, _, rfl, _, _, mw_7, ?_, ?_⟩
            · show vp_in (kn μ (ix (nI b + nI done.length)) - 100) 6
              rw [hv, vp_in_iff]
              simp only [Int32.lt_iff_toInt_lt] at q' h106
              have e1 : (100 : Int32).toInt = 100 := rfl
              have e2 : (106 : Int32).toInt = 106 := rfl
              rw [e1] at q'
              rw [e2] at h106
              have e3 : (c - 100).toInt = c.toInt - 100 := tI_sub (by rw [e1]; omega)
              rw [e3]
              omega
            · show J g mX12_lawOf (d + 3) hs _ 66 _ [.int (μ.2.1 7 (ix (kn μ (ix (nI b + nI done.length)) - 100))), .int (nI s.length), .ref (m + 6)] _
              rw [hv]
              exact push _ (Option.some.inj hS).symm hl
          · rw [if_neg h106] at hS
            exact absurd hS (by simp)
        · rw [if_neg hl] at hS
          exact absurd hS (by simp)
      · have q' : ¬ kn μ (ix (nI b + nI done.length)) < 100 := q
        rw [hv] at q'
        have q2' : ¬ kn μ (ix (nI b + nI done.length)) < 1000 := q2
        rw [hv] at q2'
        unfold mStep at hS
        rw [if_neg q'] at hS
        by_cases hl : s.length < 64
        · rw [if_pos hl, if_neg q2'] at hS
          show J g mX12_lawOf (d + 3) hs _ 66 _ [.int (kn μ (ix (nI b + nI done.length)) - 1000), .int (nI s.length), .ref (m + 6)] _
          rw [hv]
          exact push _ (Option.some.inj hS).symm hl
        · rw [if_neg hl] at hS
          exact absurd hS (by simp)
theorem m_lawOf {a b : Nat} {code : List Int32} {v : Int32} (C : mCode (kn μ) a b code) (ha : a < 3240) (hb : b + 900 ≤ 3240) (he : mEv (μ.2.1 7) code [] = some [v]) : Con g mX12_lawOf (d + 3) [.ref m, .int (nI a), .int (nI b)] (mw h m μ) (jPi (fun r h' => r = v ∧ ∃ S', h' = mw h m (mA μ 6 S')) no2) := by
  refine con_of km_X12_lawOf.1.2.2.2.2 (Nat.le_of_ble_eq_true rfl) rfl (bX12_lawOf_0 ?_)
  have key := law_loop (g := g) (d := d) (h := h) (m := m) (hs := mw h m μ) C ha hb code [] [] (μ.2.1 6) rfl (fun j hj => absurd hj (by simp)) (by simp) he
  rw [mA_self] at key
  exact key
end MLW
