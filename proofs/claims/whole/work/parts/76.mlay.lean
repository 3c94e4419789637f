/-! The reference lays a law -/
def apd (G : Nat → Int32) (k L : Nat) (c : List Int32) : Nat → Int32 := fun x => if x = 4 + k then nI (L + c.length) else if 536 + 900 * k + L ≤ x ∧ x < 536 + 900 * k + L + c.length then c.getD (x - (536 + 900 * k + L)) 0 else G x
def lwS (μ : MW) (k L : Nat) : Prop := (μ.1 17 = nI (4 + k) ∧ μ.1 18 = nI (536 + 900 * k)) ∧ μ.2.1 2 (4 + k) = nI L
/-- the reference's code of a law, and ours -/
def mco (k D : Nat) (c : List Int32) (e : Ex) : Prop := exOK k D e ∧ ∀ q s, s.length + D ≤ 64 → mEv q c s = some (exV (wq k q) e :: s)
def tru (e : Ex) : Prop := ∀ w, exV w e = 0 ∨ exV w e = 1
abbrev pd (μ ν : MW) : Prop := dif [8, 9, 10, 11, 12, 13, 16] [2] μ ν
def okW (k : Nat) (x : Int32) : Prop := ¬ (x < 128 ∨ 134 < x ∨ dom k (ix (x - 128)) = false)
def mWd (x : Int32) : Int32 := if x = 134 then 4 else x - 128
section MLY
variable {g : jG} {d : Nat} {h hs : jH} {m : Nat} {μ ν : MW} {i w : Int32} {b : Nat → Int32} {e n p k L D E : Nat} {K N : Nat → Int32} {G : Nat → Int32}
theorem mEv_app (q : Nat → Int32) : ∀ (c1 c2 s : List Int32), mEv q (c1 ++ c2) s = match mEv q c1 s with | some s' => mEv q c2 s' | none => none := by
  intro c1
  induction c1 with
  | nil => intro c2 s; rfl
  | cons c cs ih =>
    intro c2 s
    show (match mStep q c s with | some s' => mEv q (cs ++ c2) s' | none => none) = _
    simp only [mEv]
    cases mStep q c s with
    | none => rfl
    | some s' => exact ih c2 s'
theorem mBnd_e {s : Int64} : mBnd s = if 1000000 < s then 1000000 else if s < -1000000 then -1000000 else s.toInt32 := by
  unfold mBnd jmaxL jminL
  have n1 : (1000000 : Int64).toInt = 1000000 := rfl
  have n2 : (-1000000 : Int64).toInt = -1000000 := rfl
  by_cases c1 : 1000000 < s
  · have : ¬ s < 1000000 := by
      rw [Int64.lt_iff_toInt_lt, n1] at *; omega
    rw [if_pos c1, if_neg this, if_neg (by decide)]
    decide
  · rw [if_neg c1]
    by_cases c2 : s < 1000000
    · rw [if_pos c2]
      by_cases c3 : s < -1000000
      · rw [if_pos c3, if_pos c3]; decide
      · rw [if_neg c3, if_neg c3]
    · have es : s = 1000000 := by
        apply Int64.toInt_inj.mp
        rw [Int64.lt_iff_toInt_lt, n1] at *
        omega
      subst es
      decide
theorem lt64' {a b : Int32} : (a.toInt64 < b.toInt64) ↔ a < b := lt64
/-- a sign's number in the reference -/
def oNum (t : Int32) : Int32 := if t = 43 then 10 else if t = 45 then 11 else if t = 42 then 12 else if t = 61 then 13 else if t = 60 then 14 else if t = 62 then 15 else if t = 146 then 16 else 17
theorem evJ_43 {x y : Int32} : evJ 43 x y = mBnd (x.toInt64 + y.toInt64) := by
  rw [mBnd_e]
  simp only [evJ, show ¬ (43 : Int32) = 60 from by decide, show ¬ (43 : Int32) = 61 from by decide, show ¬ (43 : Int32) = 62 from by decide, show ¬ (43 : Int32) = 146 from by decide, show ¬ (43 : Int32) = 147 from by decide, if_false, if_true]
theorem evJ_45 {x y : Int32} : evJ 45 x y = mBnd (x.toInt64 - y.toInt64) := by
  rw [mBnd_e]
  simp only [evJ, show ¬ (45 : Int32) = 60 from by decide, show ¬ (45 : Int32) = 61 from by decide, show ¬ (45 : Int32) = 62 from by decide, show ¬ (45 : Int32) = 146 from by decide, show ¬ (45 : Int32) = 147 from by decide, show ¬ (45 : Int32) = 43 from by decide, if_false, if_true]
theorem evJ_42 {x y : Int32} : evJ 42 x y = mBnd (x.toInt64 * y.toInt64) := by
  rw [mBnd_e]
  simp only [evJ, show ¬ (42 : Int32) = 60 from by decide, show ¬ (42 : Int32) = 61 from by decide, show ¬ (42 : Int32) = 62 from by decide, show ¬ (42 : Int32) = 146 from by decide, show ¬ (42 : Int32) = 147 from by decide, show ¬ (42 : Int32) = 43 from by decide, show ¬ (42 : Int32) = 45 from by decide, if_false]
theorem evJ_61 {x y : Int32} : evJ 61 x y = bI (decide (x = y)) := by
  unfold evJ
  rw [if_neg (by decide), if_pos rfl]
theorem evJ_60 {x y : Int32} : evJ 60 x y = bI (decide (x < y)) := by
  unfold evJ
  rw [if_pos rfl]
theorem evJ_62 {x y : Int32} : evJ 62 x y = bI (decide (y < x)) := by
  unfold evJ
  rw [if_neg (by decide), if_neg (by decide), if_pos rfl]
theorem oNum_v {t x y : Int32} (ht : t = 43 ∨ t = 45 ∨ t = 42 ∨ t = 61 ∨ t = 60 ∨ t = 62) : mDone (oNum t) x.toInt64 y.toInt64 = evJ t x y := by
  rcases ht with rfl | rfl | rfl | rfl | rfl | rfl
  · rw [evJ_43, show oNum 43 = 10 from by decide]
    unfold mDone
    rw [if_pos rfl]
  · rw [evJ_45, show oNum 45 = 11 from by decide]
    unfold mDone
    rw [if_neg (by decide), if_pos rfl]
  · rw [evJ_42, show oNum 42 = 12 from by decide]
    unfold mDone
    rw [if_neg (by decide), if_neg (by decide), if_pos rfl]
  · rw [show oNum 61 = 13 from by decide, evJ_61]
    unfold mDone
    rw [if_neg (by decide), if_neg (by decide), if_neg (by decide), if_pos rfl]
    by_cases c : x = y
    · rw [if_pos (by rw [c]), decide_eq_true c]; rfl
    · rw [if_neg (fun f => c (i64_inj f)), decide_eq_false c]; rfl
  · rw [show oNum 60 = 14 from by decide, evJ_60]
    unfold mDone
    rw [if_neg (by decide), if_neg (by decide), if_neg (by decide), if_neg (by decide), if_pos rfl]
    by_cases c : x < y
    · rw [if_pos (lt64.mpr c), decide_eq_true c]; rfl
    · rw [if_neg (fun f => c (lt64.mp f)), decide_eq_false c]; rfl
  · rw [show oNum 62 = 15 from by decide, evJ_62]
    unfold mDone
    rw [if_neg (by decide), if_neg (by decide), if_neg (by decide), if_neg (by decide), if_neg (by decide), if_pos rfl]
    by_cases c : y < x
    · rw [if_pos (lt64.mpr c), decide_eq_true c]; rfl
    · rw [if_neg (fun f => c (lt64.mp f)), decide_eq_false c]; rfl
theorem oNum_t {t x y : Int32} (ht : t = 146 ∨ t = 147) (hx : x = 0 ∨ x = 1) (hy : y = 0 ∨ y = 1) : mDone (oNum t) x.toInt64 y.toInt64 = evJ t x y ∧ (evJ t x y = 0 ∨ evJ t x y = 1) := by
  rcases ht with rfl | rfl <;> rcases hx with rfl | rfl <;> rcases hy with rfl | rfl <;> decide
theorem oNum_b {t x y : Int32} (ht : t = 61 ∨ t = 60 ∨ t = 62) : evJ t x y = 0 ∨ evJ t x y = 1 := by
  rcases ht with rfl | rfl | rfl
  · show bI (decide (x = y)) = 0 ∨ bI (decide (x = y)) = 1
    cases decide (x = y) <;> decide
  · show bI (decide (x < y)) = 0 ∨ bI (decide (x < y)) = 1
    cases decide (x < y) <;> decide
  · show bI (decide (y < x)) = 0 ∨ bI (decide (y < x)) = 1
    cases decide (y < x) <;> decide
theorem exV_op {t : Int32} (ht : opOk t) {e1 e2 : Ex} (h1 : exOK k E e1) (h2 : exOK k D e2) (hE : D + 1 ≤ E) (h64 : E ≤ 64) (w : Nat → Int32) : exV w (exOp t e1 e2) = evJ t (exV w e1) (exV w e2) := by
  have a := evC_op ht (h1.run w [] (by simpa using h64)) (h2.run w [exV w e1] (by simp; omega))
  show (match evC w (exOp t e1 e2) [] with | some (v :: _) => v | _ => 0) = _
  rw [a]
theorem mco_op {t : Int32} (ht : opOk t) {c1 c2 : List Int32} {e1 e2 : Ex} (h1 : mco k E c1 e1) (h2 : mco k D c2 e2) (hE : D + 1 ≤ E) (h64 : E ≤ 64) (hv : ∀ w, mDone (oNum t) (exV w e1).toInt64 (exV w e2).toInt64 = evJ t (exV w e1) (exV w e2)) : mco k E (c1 ++ (c2 ++ [oNum t])) (exOp t e1 e2) := by
  refine ⟨exOK_op ht h1.1 h2.1 hE, fun q s hs => ?_⟩
  rw [mEv_app, h1.2 q s hs]
  show mEv q (c2 ++ [oNum t]) _ = _
  rw [mEv_app, h2.2 q _ (by simp; omega)]
  have e1' : exV (wq k q) (exOp t e1 e2) = evJ t (exV (wq k q) e1) (exV (wq k q) e2) := exV_op ht h1.1 h2.1 hE h64 _
  rw [e1', ← hv]
  have n1 : oNum t < 100 ∧ ¬ oNum t = 18 := by
    rcases ht with rfl | rfl | rfl | rfl | rfl | rfl | rfl | rfl <;> decide
  show (match mStep q (oNum t) (exV (wq k q) e2 :: exV (wq k q) e1 :: s) with | some s' => mEv q [] s' | none => none) = _
  unfold mStep
  rw [if_pos n1.1, if_neg n1.2]
  rfl
theorem exV_neg {e1 : Ex} (h1 : exOK k D e1) (h64 : D ≤ 64) (w : Nat → Int32) : exV w (exNeg e1) = 1 - exV w e1 := by
  have a := evC_neg (h1.run w [] (by simpa using h64))
  show (match evC w (exNeg e1) [] with | some (v :: _) => v | _ => 0) = _
  rw [a]
theorem mco_num {j : Nat} (hj : j < 1000) : mco k 1 [1000 + nI j] (exNum (nI j)) := by
  refine ⟨exOK_num hj, fun q s hs => ?_⟩
  have tab : ∀ j, j < 1000 → ¬ (1000 + nI j < 100) ∧ ¬ (1000 + nI j < 1000) ∧ 1000 + nI j - 1000 = nI j := by decide +kernel
  obtain ⟨t1, t2, t3⟩ := tab j hj
  have e1 : exV (wq k q) (exNum (nI j)) = nI j := by
    unfold exV
    rw [evC_num hj (by decide)]
  show (match mStep q (1000 + nI j) s with | some s' => mEv q [] s' | none => none) = _
  unfold mStep
  rw [if_neg t1, if_pos (by omega), if_neg t2, t3, e1]
  rfl
theorem mco_wrd {x : Int32} (hk : k < 3) (c : okW k x) : mco k 1 [100 + mWd x] (exWrd (ix (x - 128))) ∧ ∃ j, j < 7 ∧ x = nI (128 + j) := by
  unfold okW at c
  have c1 : ¬ x < 128 := fun f => c (Or.inl f)
  have c2 : ¬ 134 < x := fun f => c (Or.inr (Or.inl f))
  have c3 : dom k (ix (x - 128)) = true := by
    cases hh : dom k (ix (x - 128)) with
    | true => rfl
    | false => exact absurd (Or.inr (Or.inr hh)) c
  rw [Int32.lt_iff_toInt_lt, show (128 : Int32).toInt = 128 from rfl] at c1
  rw [Int32.lt_iff_toInt_lt, show (134 : Int32).toInt = 134 from rfl] at c2
  have ex : x = nI (128 + (x.toInt - 128).toNat) := by
    apply Int32.toInt_inj.mp
    rw [nI_toInt (by omega)]
    omega
  generalize hj : (x.toInt - 128).toNat = j at ex
  have j7 : j < 7 := by omega
  subst ex
  have tab : ∀ j, j < 7 → ix (nI (128 + j) - 128) = j ∧ ¬ (100 + mWd (nI (128 + j)) < 100) ∧ 100 + mWd (nI (128 + j)) < 1000 ∧ 100 + mWd (nI (128 + j)) < 106 ∧ ix (100 + mWd (nI (128 + j)) - 100) = (if j = 6 then 4 else j) := by decide +kernel
  obtain ⟨t0, t1, t2, t3, t4⟩ := tab j j7
  rw [t0] at c3 ⊢
  refine ⟨⟨exOK_wrd j7 c3, fun q s hs => ?_⟩, j, j7, rfl⟩
  have e1 : exV (wq k q) (exWrd j) = wq k q j := by
    unfold exV
    rw [evC_wrd j7 (by decide)]
  show (match mStep q (100 + mWd (nI (128 + j))) s with | some s' => mEv q [] s' | none => none) = _
  unfold mStep
  rw [if_neg t1, if_pos (by omega), if_pos t2, if_pos t3, t4, e1]
  unfold wq
  rw [if_pos c3]
  by_cases c6 : j = 6
  · rw [if_pos c6, if_pos c6]; rfl
  · rw [if_neg c6, if_neg c6]; rfl
/-! steps are laid -/
theorem apd_nil (hG : G (4 + k) = nI L) : apd G k L [] = G := by
  funext x
  unfold apd
  by_cases c : x = 4 + k
  · rw [if_pos c, c]; exact hG.symm
  · rw [if_neg c, if_neg (fun f => by have : ([] : List Int32).length = 0 := rfl; omega)]
theorem apd_app {c1 c2 : List Int32} (hk : k < 3) : apd (apd G k L c1) k (L + c1.length) c2 = apd G k L (c1 ++ c2) := by
  funext x
  unfold apd
  rw [List.length_append]
  by_cases c : x = 4 + k
  · rw [if_pos c, if_pos c, Nat.add_assoc]
  · rw [if_neg c, if_neg c, if_neg c]
    by_cases q : 536 + 900 * k + (L + c1.length) ≤ x ∧ x < 536 + 900 * k + (L + c1.length) + c2.length
    · rw [if_pos q, if_pos (by omega)]
      rw [List.getD_eq_getElem?_getD, List.getD_eq_getElem?_getD, List.getElem?_append_right (by omega)]
      rw [show x - (536 + 900 * k + L) - c1.length = x - (536 + 900 * k + (L + c1.length)) by omega]
    · rw [if_neg q]
      by_cases q2 : 536 + 900 * k + L ≤ x ∧ x < 536 + 900 * k + L + c1.length
      · rw [if_pos q2, if_pos (by omega)]
        rw [List.getD_eq_getElem?_getD, List.getD_eq_getElem?_getD, List.getElem?_append_left (by omega)]
      · rw [if_neg q2, if_neg (by omega)]
theorem m_laysStep {v : Int32} (hk : k < 3) (hL : L ≤ 900) (l : lwS μ k L) (a : μ.1 12 = 0) : Con g mX12_laysStep (d + 1) [.ref m, .int v] (mw h m μ) (wPv h m (fun ν => ν = mA μ 2 (apd (μ.2.1 2) k L [v]))) := by
  obtain ⟨⟨l1, l2⟩, l3⟩ := l
  refine con_of km_X12_laysStep.1.2.2.2.2 (Nat.le_of_ble_eq_true rfl) rfl (wX12_laysStep_0 ⟨fun _ => ?_, fun f => absurd a f⟩)
  show _ ∧ _ ∧ vp_in (μ.1 17) 3240 ∧ vp_in (μ.1 17) 3240 ∧ _
  rw [l1, l2, ix_nI (by omega), l3, nI_plus, ix_nI (by omega), mA_mA]
  refine ⟨mk3240 (by omega), mk3240 (by omega), mk3240 (by omega), mk3240 (by omega), _, ?_, rfl⟩
  refine congrArg (mA μ 2) (funext fun x => ?_)
  show upd (upd (μ.2.1 2) (536 + 900 * k + L) v) (ix (μ.1 17)) (upd (μ.2.1 2) (536 + 900 * k + L) v (ix (μ.1 17)) + 1) x = _
  rw [l1, ix_nI (by omega)]
  unfold upd apd
  have l1' : [v].length = 1 := rfl
  by_cases c : x = 4 + k
  · rw [if_pos c, if_pos c, if_neg (by omega), l3, nI_1, l1']
  · rw [if_neg c, if_neg c]
    by_cases c2 : x = 536 + 900 * k + L
    · rw [if_pos c2, if_pos (by rw [l1']; omega), c2, Nat.sub_self]
      rfl
    · rw [if_neg c2, if_neg (by rw [l1']; omega)]
theorem m_laysStep_b {v : Int32} (a : ¬ μ.1 12 = 0) : Con g mX12_laysStep (d + 1) [.ref m, .int v] (mw h m μ) (wPv h m (fun ν => ν = μ)) :=
  con_of km_X12_laysStep.1.2.2.2.2 (Nat.le_of_ble_eq_true rfl) rfl (wX12_laysStep_0 ⟨fun f => absurd f a, fun _ => ⟨_, rfl, rfl⟩⟩)
theorem lwS.lay (l : lwS μ k L) {c : List Int32} : lwS (mA μ 2 (apd (μ.2.1 2) k L c)) k (L + c.length) := ⟨l.1, if_pos rfl⟩
theorem pb.lw (x : pb μ ν) (l : lwS μ k L) : lwS ν k L := ⟨⟨(x.1 17 (by decide)).trans l.1.1, (x.1 18 (by decide)).trans l.1.2⟩, by rw [x.2.2 2 (by decide)]; exact l.2⟩
theorem pb.dd (x : pb μ ν) : pd μ ν := x.up (by decide) (by decide)
theorem pd_A {f : Nat → Int32} : pd μ (mA μ 2 f) := dif_A (by decide) _
theorem pd.ta (x : pd μ ν) (t : tape μ b e) : tape ν b e := ⟨⟨(x.1 7 (by decide)).trans t.1.1, t.1.2⟩, t.2.1, fun j hj => by rw [x.2.2 5 (by decide)]; exact t.2.2 j hj⟩
/-! words of a law -/
theorem m_lawWord (hk : k < 3) (t : tape μ b e) (X : TT K N n b e) (hp : p < n) (a : atP K N b e μ p) (l17 : μ.1 17 = nI (4 + k)) : Con g mX12_lawWord (d + 7) [.ref m] (mw h m μ) (wPi h m (fun r ν => (okW k (K p) ∧ r = mWd (K p) ∧ pc μ ν ∧ p + 1 < n ∧ atP K N b e ν (p + 1)) ∨ (¬ okW k (K p) ∧ r = -1 ∧ ν = μ))) := by
  have T : ∀ q, q < 37 → 17 ≤ q → Con g mX12_took (d + 6) [.ref m, .ref (gS g q)] (mw h m μ) (wPi h m (fun r ν => (K p = wcode q ∧ r = 1 ∧ pc μ ν ∧ p + 1 < n ∧ atP K N b e ν (p + 1)) ∨ (¬ K p = wcode q ∧ r = 0 ∧ ν = μ))) := fun q h1 h2 => m_took (d := d) t X hp a h1 h2
  have yes : ∀ {q} {v : Int32}, okW k (wcode q) → v = mWd (wcode q) → ∀ {ν}, (K p = wcode q ∧ pc μ ν ∧ p + 1 < n ∧ atP K N b e ν (p + 1)) → ∃ μ', ((okW k (K p) ∧ v = mWd (K p) ∧ pc μ μ' ∧ p + 1 < n ∧ atP K N b e μ' (p + 1)) ∨ (¬ okW k (K p) ∧ v = -1 ∧ μ' = μ)) ∧ mw h m ν = mw h m μ' := fun h1 h2 ν f => by
    refine ⟨ν, Or.inl ⟨?_, ?_, f.2⟩, rfl⟩
    · rw [f.1]; exact h1
    · rw [f.1]; exact h2
  have no : ¬ okW k (K p) → ∃ μ', ((okW k (K p) ∧ (-1 : Int32) = mWd (K p) ∧ pc μ μ' ∧ p + 1 < n ∧ atP K N b e μ' (p + 1)) ∨ (¬ okW k (K p) ∧ (-1 : Int32) = -1 ∧ μ' = μ)) ∧ mw h m μ = mw h m μ' := fun f => ⟨μ, Or.inr ⟨f, rfl, rfl⟩, rfl⟩
  have out : ∀ (S : List Int32), (∀ j, j < 7 → dom k j = true → nI (128 + j) ∈ S) → (∀ x, x ∈ S → ¬ K p = x) → ¬ okW k (K p) := fun S h1 h2 c => by
    have c0 := c
    obtain ⟨-, j, j7, ej⟩ := mco_wrd hk c
    refine h2 (nI (128 + j)) (h1 j j7 ?_) ej
    unfold okW at c0
    rw [ej] at c0
    have tab : ∀ j, j < 7 → ix (nI (128 + j) - 128) = j := by decide +kernel
    rw [tab j j7] at c0
    cases hh : dom k j with
    | true => rfl
    | false => exact absurd (Or.inr (Or.inr hh)) c0
  have l5 : μ.1 17 = 5 ↔ k = 1 := by
    rw [l17]
    rcases (by omega : k = 0 ∨ k = 1 ∨ k = 2) with rfl | rfl | rfl <;> decide
  have l6 : μ.1 17 = 6 ↔ k = 2 := by
    rw [l17]
    rcases (by omega : k = 0 ∨ k = 1 ∨ k = 2) with rfl | rfl | rfl <;> decide
  have l4 : μ.1 17 = 4 ↔ k = 0 := by
    rw [l17]
    rcases (by omega : k = 0 ∨ k = 1 ∨ k = 2) with rfl | rfl | rfl <;> decide
  have ok : ∀ k, k < 3 → okW k (wcode 29) ∧ okW k (wcode 20) ∧ okW k (wcode 27) := by
    intro k hk
    rcases (by omega : k = 0 ∨ k = 1 ∨ k = 2) with rfl | rfl | rfl <;> (unfold okW; decide +kernel)
  have ok3 : ¬ k = 1 → okW k (wcode 22) := by
    intro f
    rcases (by omega : k = 0 ∨ k = 2) with rfl | rfl <;> (unfold okW; decide +kernel)
  have ok2 : k = 2 → okW k (wcode 30) := by
    intro f
    subst f
    unfold okW; decide +kernel
  have ok0 : k = 0 → okW k (wcode 31) ∧ okW k (wcode 21) := by
    intro f
    subst f
    unfold okW; decide +kernel
  obtain ⟨o1, o2, o3⟩ := ok k hk
  have tail : ∀ {hs}, ¬ K p = wcode 29 → ¬ K p = wcode 20 → ¬ K p = wcode 27 → (¬ k = 1 → ¬ K p = wcode 22) → J g mX12_lawWord (d + 7) hs (wPi h m (fun r ν => (okW k (K p) ∧ r = mWd (K p) ∧ pc μ ν ∧ p + 1 < n ∧ atP K N b e ν (p + 1)) ∨ (¬ okW k (K p) ∧ r = -1 ∧ ν = μ))) 52 [(0, .ref m)] [] (mw h m μ) := by
    intro hs n1 n2 n3 n4
    have last : ∀ {hs}, (k = 0 → ¬ K p = wcode 31) → (¬ k = 2) → J g mX12_lawWord (d + 7) hs (wPi h m (fun r ν => (okW k (K p) ∧ r = mWd (K p) ∧ pc μ ν ∧ p + 1 < n ∧ atP K N b e ν (p + 1)) ∨ (¬ okW k (K p) ∧ r = -1 ∧ ν = μ))) 95 [(0, .ref m)] [] (mw h m μ) := by
      intro hs n5 n6
      refine wX12_lawWord_95 ⟨fun f => ⟨_, T 21 (by decide) (by decide), fun r ν q => ?_⟩, fun f => ?_⟩
      · have k0 := l4.mp f
        rcases q with ⟨q1, q2, q3⟩ | ⟨q1, q2, q3⟩
        · subst q2
          exact ⟨fun f => absurd f (by decide), fun _ => yes (ok0 k0).2 (by decide) ⟨q1, q3⟩⟩
        · subst q2
          subst q3
          refine ⟨fun _ => no (out [wcode 29, wcode 20, wcode 27, wcode 22, wcode 31, wcode 21] ?_ ?_), fun f => absurd rfl f⟩
          · subst k0; decide +kernel
          · intro x hx
            simp only [List.mem_cons, List.not_mem_nil, or_false] at hx
            rcases hx with rfl | rfl | rfl | rfl | rfl | rfl
            · exact n1
            · exact n2
            · exact n3
            · exact n4 (by omega)
            · exact n5 k0
            · exact q1
      · have k1 : k = 1 := by
          have : ¬ k = 0 := fun z => f (l4.mpr z)
          omega
        refine no (out [wcode 29, wcode 20, wcode 27] ?_ ?_)
        · subst k1; decide +kernel
        · intro x hx
          simp only [List.mem_cons, List.not_mem_nil, or_false] at hx
          rcases hx with rfl | rfl | rfl
          · exact n1
          · exact n2
          · exact n3
    refine wX12_lawWord_52 ⟨fun f => ⟨_, T 30 (by decide) (by decide), fun r ν q => ?_⟩, fun f => ⟨fun f2 => ⟨_, T 31 (by decide) (by decide), fun r ν q => ?_⟩, fun f2 => last (fun z => absurd (l4.mpr z) f2) (fun z => f (l6.mpr z))⟩⟩
    · have k2 := l6.mp f
      rcases q with ⟨q1, q2, q3⟩ | ⟨q1, q2, q3⟩
      · subst q2
        exact ⟨fun f => absurd f (by decide), fun _ => yes (ok2 k2) (by decide) ⟨q1, q3⟩⟩
      · subst q2
        subst q3
        refine ⟨fun _ => no (out [wcode 29, wcode 20, wcode 27, wcode 22, wcode 30] ?_ ?_), fun f => absurd rfl f⟩
        · subst k2; decide +kernel
        · intro x hx
          simp only [List.mem_cons, List.not_mem_nil, or_false] at hx
          rcases hx with rfl | rfl | rfl | rfl | rfl
          · exact n1
          · exact n2
          · exact n3
          · exact n4 (by omega)
          · exact q1
    · have k0 := l4.mp f2
      rcases q with ⟨q1, q2, q3⟩ | ⟨q1, q2, q3⟩
      · subst q2
        exact ⟨fun f => absurd f (by decide), fun _ => yes (ok0 k0).1 (by decide) ⟨q1, q3⟩⟩
      · subst q2
        subst q3
        exact ⟨fun _ => last (fun _ => q1) (by omega), fun f => absurd rfl f⟩
  refine con_of km_X12_lawWord.1.2.2.2.2 (Nat.le_of_ble_eq_true rfl) rfl (wX12_lawWord_0 ⟨_, T 29 (by decide) (by decide), fun r ν q => ?_⟩)
  rcases q with ⟨q1, q2, q3⟩ | ⟨n1, q2, q3⟩
  · subst q2
    exact ⟨fun f => absurd f (by decide), fun _ => yes o1 (by decide) ⟨q1, q3⟩⟩
  · subst q2
    subst q3
    refine ⟨fun _ => ⟨_, T 20 (by decide) (by decide), fun r ν q => ?_⟩, fun f => absurd rfl f⟩
    rcases q with ⟨q1, q2, q3⟩ | ⟨n2, q2, q3⟩
    · subst q2
      exact ⟨fun f => absurd f (by decide), fun _ => yes o2 (by decide) ⟨q1, q3⟩⟩
    · subst q2
      subst q3
      refine ⟨fun _ => ⟨_, T 27 (by decide) (by decide), fun r ν q => ?_⟩, fun f => absurd rfl f⟩
      rcases q with ⟨q1, q2, q3⟩ | ⟨n3, q2, q3⟩
      · subst q2
        exact ⟨fun f => absurd f (by decide), fun _ => yes o3 (by decide) ⟨q1, q3⟩⟩
      · subst q2
        subst q3
        refine ⟨fun _ => ⟨fun f => tail n1 n2 n3 (fun z => absurd (l5.mp f) z), fun f => ⟨_, T 22 (by decide) (by decide), fun r ν q => ?_⟩⟩, fun f => absurd rfl f⟩
        have k1 : ¬ k = 1 := fun z => f (l5.mpr z)
        rcases q with ⟨q1, q2, q3⟩ | ⟨n4, q2, q3⟩
        · subst q2
          exact ⟨fun f => absurd f (by decide), fun _ => yes (ok3 k1) (by decide) ⟨q1, q3⟩⟩
        · subst q2
          subst q3
          exact ⟨fun _ => tail n1 n2 n3 (fun _ => n4), fun f => absurd rfl f⟩
end MLY
