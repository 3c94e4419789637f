/-! The two agree: tokens, bytes -/
section TTK
variable {b : Nat → Int32} {e n m i j k : Nat} {ζ : Zs} {ω : CW} {μ : MW}
theorem zAdd_at {a1 a2 a3 : Int32} : (zAdd ζ m a1 a2 a3).2 0 m = a1 ∧ (zAdd ζ m a1 a2 a3).2 1 m = a2 ∧ (zAdd ζ m a1 a2 a3).2 2 m = a3 := by
  refine ⟨?_, ?_, ?_⟩
  · show upd (ζ.2 0) m a1 m = a1
    unfold upd; rw [if_pos rfl]
  · show upd (ζ.2 1) m a2 m = a2
    unfold upd; rw [if_pos rfl]
  · show upd (ζ.2 2) m a3 m = a3
    unfold upd; rw [if_pos rfl]
theorem zAdd_ne {a1 a2 a3 : Int32} {p : Nat} (hp : ¬ p = m) (k : Nat) : (zAdd ζ m a1 a2 a3).2 k p = ζ.2 k p := by
  show (if k = 0 then upd (ζ.2 0) m a1 else if k = 1 then upd (ζ.2 1) m a2 else if k = 2 then upd (ζ.2 2) m a3 else ζ.2 k) p = _
  by_cases c0 : k = 0
  · rw [if_pos c0, c0]; unfold upd; rw [if_neg hp]
  · rw [if_neg c0]
    by_cases c1 : k = 1
    · rw [if_pos c1, c1]; unfold upd; rw [if_neg hp]
    · rw [if_neg c1]
      by_cases c2 : k = 2
      · rw [if_pos c2, c2]; unfold upd; rw [if_neg hp]
      · rw [if_neg c2]
theorem cutR_t : ∀ f i ζ m, e < i + f → i ≤ e → nx b e i = tkS b e m → (m ≤ (cutR b e f i ζ m).2 ∧ (cutR b e f i ζ m).2 ≤ m + (e - i)) ∧ tkS b e (cutR b e f i ζ m).2 = e ∧ (∀ p k, p < m → (cutR b e f i ζ m).1.2 k p = ζ.2 k p) ∧ ∀ p, m ≤ p → p < (cutR b e f i ζ m).2 → (cutR b e f i ζ m).1.2 0 p = tkK b e (tkS b e p) ∧ (cutR b e f i ζ m).1.2 1 p = tkN b e (tkS b e p) ∧ (cutR b e f i ζ m).1.2 2 p = nI (tkS b e p)
  | 0, i, ζ, m, h1, h2, h3 => by omega
  | f + 1, i, ζ, m, h1, h2, h3 => by
    by_cases c : i < e
    · by_cases w : b i = 10 ∨ b i = 32
      · have er : cutR b e (f + 1) i ζ m = cutR b e f (i + 1) ζ m := (if_pos c).trans (if_pos w)
        rw [er]
        rw [nx_y c w] at h3
        obtain ⟨⟨a1, a2⟩, a3⟩ := cutR_t f (i + 1) ζ m (by omega) (by omega) h3
        exact ⟨⟨a1, by omega⟩, a3⟩
      · have er : cutR b e (f + 1) i ζ m = cutR b e f (oneF b e i).2.2 (zAdd ζ m (oneF b e i).1 (oneF b e i).2.1 (nI i)) (m + 1) := (if_pos c).trans (if_neg w)
        rw [nx_n (fun z => w z.2)] at h3
        have o1 := oneF_le b c
        have eE : tkE b e i = (oneF b e i).2.2 := if_pos c
        have h4 : nx b e (oneF b e i).2.2 = tkS b e (m + 1) := by
          show _ = nx b e (tkE b e (tkS b e m))
          rw [← h3, eE]
        obtain ⟨⟨a1, a2⟩, a3, a4, a5⟩ := cutR_t f (oneF b e i).2.2 (zAdd ζ m (oneF b e i).1 (oneF b e i).2.1 (nI i)) (m + 1) (by omega) (by omega) h4
        rw [er]
        refine ⟨⟨by omega, by omega⟩, a3, fun p k hp => ?_, fun p h5 h6 => ?_⟩
        · rw [a4 p k (by omega), zAdd_ne (by omega)]
        · by_cases q : p = m
          · subst q
            obtain ⟨z1, z2, z3⟩ := zAdd_at (ζ := ζ) (m := p) (a1 := (oneF b e i).1) (a2 := (oneF b e i).2.1) (a3 := nI i)
            rw [a4 p 0 (by omega), a4 p 1 (by omega), a4 p 2 (by omega), z1, z2, z3, ← h3]
            exact ⟨(if_pos c).symm, (if_pos c).symm, rfl⟩
          · exact a5 p (by omega) h6
    · have er : cutR b e (f + 1) i ζ m = (ζ, m) := if_neg c
      rw [er]
      have : i = e := by omega
      subst this
      rw [nx_n (fun z => c z.1)] at h3
      exact ⟨⟨Nat.le_refl _, by omega⟩, h3.symm, fun _ _ _ => rfl, fun p h5 h6 => absurd h6 (by show ¬ p < m; omega)⟩
theorem cut_TT (he : e ≤ 900) (HN : HNum ζ) : TT ((cutF b e ζ).2 0) ((cutF b e ζ).2 1) (ix (cutF b e ζ).1) b e ∧ ∀ q, q < ix (cutF b e ζ).1 → (cutF b e ζ).2 2 q = nI (tkS b e q) := by
  have H := (cutF_tok b he HN).1
  obtain ⟨⟨a1, a2⟩, a3, -, a5⟩ := cutR_t (b := b) (e := e) (e + 1) 0 (0, ζ.2) 0 (by omega) (Nat.zero_le _) rfl
  have eF : cutF b e ζ = zAdd (cutR b e (e + 1) 0 (0, ζ.2) 0).1 (cutR b e (e + 1) 0 (0, ζ.2) 0).2 0 0 (nI e) := rfl
  generalize cutR b e (e + 1) 0 (0, ζ.2) 0 = r at a1 a2 a3 a5 eF
  obtain ⟨z1, z2, z3⟩ := zAdd_at (ζ := r.1) (m := r.2) (a1 := 0) (a2 := 0) (a3 := nI e)
  rw [← eF] at z1 z2 z3
  have en : ix (cutF b e ζ).1 = r.2 + 1 := by
    rw [eF]
    show ix (nI (r.2 + 1)) = _
    exact ix_nI (by omega)
  have ne : ∀ p k, p < r.2 → (cutF b e ζ).2 k p = r.1.2 k p := fun p k hp => by
    rw [eF]; exact zAdd_ne (by omega) k
  rw [en]
  refine ⟨⟨⟨⟨by omega, by omega⟩, ?_⟩, fun p hp => ?_, H⟩, fun q hq => ?_⟩
  · rw [Nat.add_sub_cancel]; exact z1
  · by_cases c : p = r.2
    · rw [c, z1, z2, a3]
      unfold tkK tkN
      rw [if_neg (Nat.lt_irrefl _), if_neg (Nat.lt_irrefl _)]
      exact ⟨rfl, rfl⟩
    · obtain ⟨g1, g2, -⟩ := a5 p (Nat.zero_le _) (by omega)
      rw [ne p 0 (by omega), ne p 1 (by omega)]
      exact ⟨g1, g2⟩
  · by_cases c : q = r.2
    · rw [c, z3, a3]
    · rw [ne q 2 (by omega)]
      exact (a5 q (Nat.zero_le _) (by omega)).2.2
/-! bytes fed -/
theorem bit255 : ∀ i, i < 32 → (255#32).getLsbD i = decide (i < 8) := by decide
theorem bv_byte (a : BitVec 32) (s : Nat) (hs : s ≤ 24) : (((a.sshiftRight s).setWidth 8).signExtend 32) &&& 255#32 = (a >>> s) &&& 255#32 := by
  apply BitVec.eq_of_getLsbD_eq
  intro i hi
  rw [BitVec.getLsbD_and, BitVec.getLsbD_and, bit255 i hi]
  by_cases c : i < 8
  · rw [BitVec.getLsbD_signExtend, BitVec.getLsbD_setWidth, BitVec.getLsbD_sshiftRight, BitVec.getLsbD_ushiftRight]
    have h1 : s + i < 32 := by omega
    simp [c, hi, h1]
  · rw [decide_eq_false c, Bool.and_false, Bool.and_false]
theorem nar_b (z : Int8) : vp_nar .byte z.toInt32 = z.toInt32 := by
  show z.toInt32.toInt8.toInt32 = z.toInt32
  simp
theorem fdB_m (x c k : Int32) (s : Nat) (hs : s ≤ 24) (hc : ((c &&& 31).toBitVec.smod 32).toNat = s) (hk : ((k.toUInt32 &&& Int32.toUInt32 31).toBitVec % 32).toNat = s) : fdB x c &&& 255 = (x.toUInt32 >>> (k.toUInt32 &&& Int32.toUInt32 31)).toInt32 &&& 255 := by
  unfold fdB
  rw [nar_b]
  apply Int32.toBitVec_inj.mp
  rw [Int32.toBitVec_and, Int32.toBitVec_and, Int8.toBitVec_toInt32, Int32.toBitVec_toInt8, Int32.toBitVec_shiftRight, BitVec.sshiftRight_eq', hc]
  have e2 : (x.toUInt32 >>> (k.toUInt32 &&& Int32.toUInt32 31)).toInt32.toBitVec = x.toBitVec >>> s := by
    show (x.toUInt32 >>> (k.toUInt32 &&& Int32.toUInt32 31)).toBitVec = _
    rw [UInt32.toBitVec_shiftRight, BitVec.ushiftRight_eq', hk]
    rfl
  rw [e2, BitVec.signExtend_eq_setWidth_of_le (x.toBitVec.sshiftRight s) (show 8 ≤ 32 by decide)]
  exact bv_byte x.toBitVec s hs
theorem mby_f (w : Nat → Int32) : ∀ j, j < 20 → mby w j = fdB (w (j / 4)) (24 - 8 * nI (j % 4)) &&& 255 := by
  intro j hj
  have tab : ∀ j, j < 20 → (24 : Int32) - (8 * (nI j &&& 3)) = 24 - 8 * nI (j % 4) ∧ (((24 - 8 * nI (j % 4) : Int32) &&& 31).toBitVec.smod 32).toNat = 24 - 8 * (j % 4) ∧ (((24 - 8 * nI (j % 4) : Int32).toUInt32 &&& Int32.toUInt32 31).toBitVec % 32).toNat = 24 - 8 * (j % 4) := by decide +kernel
  obtain ⟨t1, t2, t3⟩ := tab j hj
  unfold mby
  rw [t1]
  exact (fdB_m (w (j / 4)) _ _ _ (by omega) t2 t3).symm
end TTK
