/-! The reference reads a sum -/
/-- what a reading leaves -/
def RX (K N : Nat → Int32) (b : Nat → Int32) (e n k D : Nat) (tr : Bool) (μ : MW) (p L : Nat) (a : Pr Ex) (ν : MW) : Prop := pd μ ν ∧ match a with
  | .inl x => Bd K b e ν x.1 x.2
  | .inr x => (atP K N b e ν x.2 ∧ (p < x.2 ∧ x.2 < n) ∧ ν.1 16 = μ.1 16) ∧ ∃ c : List Int32, (mco k D c x.1 ∧ (tr = true → tru x.1)) ∧ c.length ≤ x.2 - p ∧ ν.2.1 2 = apd (μ.2.1 2) k L c
def rdC (g : jG) (dd : Nat) (h : jH) (m : Nat) (X : jM) (K N : Nat → Int32) (b : Nat → Int32) (e n k D : Nat) (tr : Bool) (j : Nat) (a : Pa) : Prop := ∀ μ p L, tape μ b e → p < n → atP K N b e μ p → lwS μ k L → L ≤ p → μ.1 16 = nI (6 - j) → Con g X dd [.ref m] (mw h m μ) (wPv h m (RX K N b e n k D tr μ p L (a p)))
def rdB (g : jG) (dd : Nat) (h : jH) (m : Nat) (X : jM) : Prop := ∀ μ : MW, ¬ μ.1 12 = 0 → Con g X dd [.ref m] (mw h m μ) (wPv h m (fun ν => ν = μ))
section MSU
variable {g : jG} {d : Nat} {h hs : jH} {m : Nat} {μ ν : MW} {i w : Int32} {b : Nat → Int32} {e n p k L D E j : Nat} {K N : Nat → Int32} {G : Nat → Int32} {tr tr' : Bool}
theorem mco.up {c : List Int32} {ex : Ex} (x : mco k D c ex) (hE : D ≤ E) : mco k E c ex := ⟨x.1.mono hE, fun q s hs => x.2 q s (by omega)⟩
theorem RX.up {a : Pr Ex} (x : RX K N b e n k D tr μ p L a ν) (hE : D ≤ E) : RX K N b e n k E tr μ p L a ν := by
  cases a with
  | inl y => exact x
  | inr y =>
    obtain ⟨x1, x2, c, ⟨x3, x4⟩, x5⟩ := x
    exact ⟨x1, x2, c, ⟨x3.up hE, x4⟩, x5⟩
theorem pd.kk {a b : MW} (x : pd a b) : b.1 17 = a.1 17 ∧ b.1 18 = a.1 18 := ⟨x.1 17 (by decide), x.1 18 (by decide)⟩
theorem RX.lw {y : Ex × Nat} (x : RX K N b e n k D tr μ p L (.inr y) ν) (l : lwS μ k L) (hL : L ≤ p) : ∃ L1, lwS ν k L1 ∧ L1 ≤ y.2 := by
  obtain ⟨x1, ⟨-, x2, -⟩, c, -, x5, x6⟩ := x
  refine ⟨L + c.length, ⟨⟨x1.kk.1.trans l.1.1, x1.kk.2.trans l.1.2⟩, ?_⟩, by omega⟩
  rw [x6]
  exact if_pos rfl
/-- a sign over two parts -/
theorem op_step {t : Int32} (hk : k < 3) (ht : opOk t) (h64 : D + 1 ≤ 64) (h9 : n ≤ 901) (hop : ∀ e1 e2, exOK k (D + 1) e1 → exOK k D e2 → (tr = true → tru e1) → (tr = true → tru e2) → (∀ w, mDone (oNum t) (exV w e1).toInt64 (exV w e2).toInt64 = evJ t (exV w e1) (exV w e2)) ∧ (tr' = true → tru (exOp t e1 e2))) {ex : Ex} {q : Nat} (R1 : RX K N b e n k (D + 1) tr μ p L (.inr (ex, q)) ν) (l : lwS μ k L) (hL : L ≤ p) : ∃ L1, lwS ν k L1 ∧ L1 ≤ q ∧ ∀ ν1 ν2 (x : Ex × Nat), pc ν ν1 → RX K N b e n k D tr ν1 (q + 1) L1 (.inr x) ν2 → ∃ L2, lwS ν2 k L2 ∧ L2 ≤ 900 ∧ ν2.1 12 = 0 ∧ RX K N b e n k (D + 1) tr' μ p L (.inr (exOp t ex x.1, x.2)) (mA ν2 2 (apd (ν2.2.1 2) k L2 [oNum t])) := by
  obtain ⟨x1, ⟨a1, ⟨a2, a3⟩, a4⟩, c, ⟨x3, x4⟩, x5, x6⟩ := R1
  have a2 : p < q := a2
  have a3 : q < n := a3
  have x5 : c.length ≤ q - p := x5
  have l1 : lwS ν k (L + c.length) := ⟨⟨x1.kk.1.trans l.1.1, x1.kk.2.trans l.1.2⟩, by rw [x6]; exact if_pos rfl⟩
  refine ⟨L + c.length, l1, by omega, fun ν1 ν2 x hpc R2 => ?_⟩
  obtain ⟨y1, ⟨b1, ⟨b2, b3⟩, b4⟩, c2, ⟨y3, y4⟩, y5, y6⟩ := R2
  have e2 : ν1.2.1 2 = ν.2.1 2 := hpc.2.2 2 (by decide)
  rw [e2, x6] at y6
  rw [apd_app hk] at y6
  have l2 : lwS ν2 k (L + c.length + c2.length) := by
    refine ⟨⟨y1.kk.1.trans ((hpc.1 17 (by decide)).trans l1.1.1), y1.kk.2.trans ((hpc.1 18 (by decide)).trans l1.1.2)⟩, ?_⟩
    rw [y6]
    unfold apd
    rw [if_pos rfl, List.length_append, Nat.add_assoc]
  obtain ⟨o1, o2⟩ := hop ex x.1 x3.1 y3.1 x4 y4
  refine ⟨L + c.length + c2.length, l2, by omega, b1.2.2.2, ?_, ⟨b1, ⟨by show p < x.2; omega, b3⟩, ?_⟩, c ++ (c2 ++ [oNum t]), ⟨mco_op ht x3 y3 (Nat.le_refl _) h64 o1, o2⟩, ?_, ?_⟩
  · exact dif.tr (dif.tr x1 (hpc.up (by decide) (by decide))) (dif.tr y1 pd_A)
  · exact (b4.trans (hpc.1 16 (by decide))).trans a4
  · show (c ++ (c2 ++ [oNum t])).length ≤ x.2 - p
    rw [List.length_append, List.length_append, show [oNum t].length = 1 from rfl]
    omega
  · show apd (ν2.2.1 2) k (L + c.length + c2.length) [oNum t] = _
    have ea := apd_app (G := μ.2.1 2) (k := k) (L := L) (c1 := c ++ c2) (c2 := [oNum t]) hk
    rw [List.length_append, ← Nat.add_assoc] at ea
    rw [y6, ← List.append_assoc, ← ea]
/-! nesting -/
theorem pd_16 (v : Int32) : pd μ (mI μ 16 v) := dif_I (by decide) v
theorem bad_16 {v x : Int32} {q : Nat} (B : Bd K b e ν x q) : Bd K b e (mI ν 16 v) x q := B
theorem m_goesIn (t : tape μ b e) (X : TT K N n b e) (hp : p < n) (a : atP K N b e μ p) (c : ¬ K p = 0) (hj : j ≤ 6) (e16 : μ.1 16 = nI (6 - j)) : Con g mX12_goesIn (d + 3) [.ref m] (mw h m μ) (wPv h m (fun ν => (pd μ ν ∧ ν.2.1 2 = μ.2.1 2) ∧ ((j = 0 ∧ Bd K b e ν 4 p) ∨ (¬ j = 0 ∧ p + 1 < n ∧ atP K N b e ν (p + 1) ∧ ν.1 16 = nI (6 - j + 1))))) := by
  have e6 : μ.1 16 = 6 ↔ j = 0 := by
    rw [e16]
    rcases (by omega : j = 0 ∨ j = 1 ∨ j = 2 ∨ j = 3 ∨ j = 4 ∨ j = 5 ∨ j = 6) with rfl | rfl | rfl | rfl | rfl | rfl | rfl <;> decide
  refine con_of km_X12_goesIn.1.2.2.2.2 (Nat.le_of_ble_eq_true rfl) rfl (wX12_goesIn_0 ⟨fun f => ⟨_, m_blames (d := d + 1) (k := 4) a (by decide), fun ν q => ?_⟩, fun f => ?_⟩)
  · obtain ⟨q1, q2⟩ := q
    refine wX12_goesIn_14 ⟨fun z => absurd z q2.ne, fun _ => ⟨_, ⟨⟨dif.tr q1.dd (pd_16 _), q1.2.2 2 (by decide)⟩, Or.inl ⟨e6.mp f, q2⟩⟩, rfl⟩⟩
  · refine wX12_goesIn_14 ⟨fun _ => ⟨_, m_goOn (d := d) (μ := mI μ 16 (μ.1 16 + 1)) t X hp c a, fun ν q => ⟨_, ⟨⟨dif.tr (pd_16 _) q.1.pb.dd, q.1.2.2 2 (by decide)⟩, Or.inr ⟨fun z => f (e6.mpr z), X.nx hp c, q.2, ?_⟩⟩, rfl⟩⟩, fun z => absurd a.2.2.2 z⟩
    rw [q.1.1 16 (by decide), mI_at, e16, nI_1]
theorem m_goesIn_b (a : ¬ μ.1 12 = 0) : Con g mX12_goesIn (d + 3) [.ref m] (mw h m μ) (wPv h m (fun ν => ν = mI μ 16 (μ.1 16 + 1))) := by
  have last : ∀ {hs}, J g mX12_goesIn (d + 3) hs (wPv h m (fun ν => ν = mI μ 16 (μ.1 16 + 1))) 14 [(0, .ref m)] [] (mw h m μ) := wX12_goesIn_14 ⟨fun f => absurd f a, fun _ => ⟨_, rfl, rfl⟩⟩
  refine con_of km_X12_goesIn.1.2.2.2.2 (Nat.le_of_ble_eq_true rfl) rfl (wX12_goesIn_0 ⟨fun f => ⟨_, m_blames_b (d := d + 1) a, fun ν q => by rw [q]; exact last⟩, fun f => last⟩)
/-! nothing is read any more -/
theorem atomB {dd : Nat} : rdB g (dd + 1) h m mX12_readAtom := fun μ a =>
  con_of km_X12_readAtom.1.2.2.2.2 (Nat.le_of_ble_eq_true rfl) rfl (wX12_readAtom_0 ⟨fun f => absurd f a, fun _ => ⟨_, rfl, rfl⟩⟩)
theorem termB {dd : Nat} : rdB g (dd + 2) h m mX12_readTerm := fun μ a =>
  con_of km_X12_readTerm.1.2.2.2.2 (Nat.le_of_ble_eq_true rfl) rfl (wX12_readTerm_0 ⟨_, atomB (dd := dd) μ a, fun ν q => by
    rw [q]
    exact wX12_readTerm_4 ⟨_, m_isSign_b (d := dd) a, fun _ => ⟨_, rfl, rfl⟩, fun f => absurd rfl f⟩⟩)
theorem sumB {dd : Nat} : rdB g (dd + 3) h m mX12_readSum := fun μ a =>
  con_of km_X12_readSum.1.2.2.2.2 (Nat.le_of_ble_eq_true rfl) rfl (wX12_readSum_0 ⟨_, termB (dd := dd) μ a, fun ν q => by
    rw [q]
    exact wX12_readSum_4 ⟨_, m_isSign_b (d := dd + 1) a, fun _ => ⟨_, m_isSign_b (d := dd + 1) a, fun _ => ⟨_, rfl, rfl⟩, fun f => absurd rfl f⟩, fun f => absurd rfl f⟩⟩)
/-! an atom -/
theorem atomC {dd : Nat} (hk : k < 3) (hj : j ≤ 6) (X : TT K N n b e) (S : ∀ i, j = i + 1 → rdC g (dd + 7) h m mX12_readSum K N b e n k (2 * i + 3) false i (aSum K N k (aParK K N k i))) : rdC g (dd + 8) h m mX12_readAtom K N b e n k (2 * j + 1) false j (aAtom K N k (aParK K N k j)) := by
  intro μ p L t hp a l hL e16
  have h9 := X.1.1.2
  refine con_of km_X12_readAtom.1.2.2.2.2 (Nat.le_of_ble_eq_true rfl) rfl (wX12_readAtom_0 ⟨fun _ => ⟨_, m_lawWord (d := dd) hk t X hp a l.1.1, fun r ν q => ?_⟩, fun f => absurd a.2.2.2 f⟩)
  rcases q with ⟨q1, q2, q3, q4, q5⟩ | ⟨q1, q2, q3⟩
  · subst q2
    obtain ⟨c1, i, i7, ei⟩ := mco_wrd hk q1
    have tab : ∀ i, i < 7 → ¬ nI (128 + i) = 40 ∧ ¬ nI (128 + i) = 2 ∧ ¬ mWd (nI (128 + i)) = -1 := by decide +kernel
    obtain ⟨t1, t2, t3⟩ := tab i i7
    rw [← ei] at t1 t2 t3
    have ev : aAtom K N k (aParK K N k j) p = .inr (exWrd (ix (K p - 128)), p + 1) := (if_neg t1).trans ((if_neg t2).trans (if_neg q1))
    rw [ev]
    refine ⟨fun f => absurd f t3, fun _ => ⟨_, m_laysStep (d := dd + 6) hk (by omega) (q3.pb.lw l) q5.2.2.2, fun ν2 q6 => ?_⟩⟩
    subst q6
    refine ⟨_, ⟨dif.tr q3.pb.dd pd_A, ⟨q5, ⟨by omega, q4⟩, q3.1 16 (by decide)⟩, [100 + mWd (K p)], ⟨c1.up (by omega), fun f => absurd f (by decide)⟩, by show 1 ≤ p + 1 - p; omega, ?_⟩, rfl⟩
    show apd (ν.2.1 2) k L _ = _
    rw [q3.2.2 2 (by decide)]
  · subst q2
    subst q3
    refine ⟨fun _ => ⟨_, m_isSignP (d := dd + 6) a (by decide) (by decide) (by decide), fun f => ?_, fun f => ?_⟩, fun f => absurd rfl f⟩
    · have f := of_decide_eq_false (bI0 f)
      have C := m_number (g := g) (d := dd + 4) (h := h) (m := m) (most := 999) (by decide) t X hp a
      refine ⟨_, C, fun r ν2 q2 => ?_⟩
      obtain ⟨q3, q4⟩ := q2
      by_cases c2 : K p = 2
      · obtain ⟨v, hv, ev⟩ := X.2.2 p c2
        have en : aNum K N (nI 999) p = .inr (N p, p + 1) := (if_pos c2).trans (if_neg (fun z => by rw [ev] at z; have := (nI_lti (by omega) (by omega)).mp z; omega))
        rw [en] at q4
        obtain ⟨q5, q6, -, q7⟩ := q4
        subst q6
        have ea : aAtom K N k (aParK K N k j) p = .inr (exNum (N p), p + 1) := (if_neg f).trans (if_pos c2)
        rw [ea]
        refine ⟨_, m_laysStep (d := dd + 6) hk (by omega) (q3.lw l) q5.2.2.2, fun ν3 q8 => ?_⟩
        subst q8
        have mc : mco k (2 * j + 1) [1000 + N p] (exNum (N p)) := by rw [ev]; exact (mco_num hv).up (by omega)
        refine ⟨_, ⟨dif.tr q3.dd pd_A, ⟨q5, ⟨by omega, q7⟩, q3.1 16 (by decide)⟩, [1000 + N p], ⟨mc, fun f => absurd f (by decide)⟩, by show 1 ≤ p + 1 - p; omega, ?_⟩, rfl⟩
        show apd (ν2.2.1 2) k L _ = _
        rw [q3.2.2 2 (by decide)]
      · have en : aNum K N (nI 999) p = .inl (2, p) := if_neg c2
        rw [en] at q4
        have nw : K p < 128 ∨ 134 < K p ∨ dom k (ix (K p - 128)) = false := Classical.byContradiction (fun z => q1 z)
        have ea : aAtom K N k (aParK K N k j) p = .inl (2, p) := (if_neg f).trans ((if_neg c2).trans (if_pos nw))
        rw [ea]
        refine ⟨_, m_laysStep_b (d := dd + 6) q4.1.ne, fun ν3 q8 => ?_⟩
        subst q8
        exact ⟨_, ⟨q3.dd, q4.1⟩, rfl⟩
    · have f := of_decide_eq_true (bI1 f)
      have f0 : ¬ K p = 0 := by rw [f]; decide
      have ea : aAtom K N k (aParK K N k j) p = aParK K N k j p := if_pos f
      rw [ea]
      refine ⟨_, m_goesIn (d := dd + 4) t X hp a f0 hj e16, fun ν2 q2 => ?_⟩
      obtain ⟨⟨q3, q4⟩, q5⟩ := q2
      rcases q5 with ⟨q5, q6⟩ | ⟨q5, q6, q7, q8⟩
      · subst q5
        refine ⟨_, sumB (dd := dd + 4) ν2 q6.ne, fun ν3 z => ?_⟩
        subst z
        refine ⟨_, m_mustSign_b (d := dd + 4) q6.ne, fun ν4 z => ?_⟩
        subst z
        exact ⟨_, ⟨dif.tr q3 (pd_16 _), q6⟩, rfl⟩
      · obtain ⟨i, rfl⟩ : ∃ i, j = i + 1 := ⟨j - 1, by omega⟩
        have ep : aParK K N k (i + 1) p = pgo (aSum K N k (aParK K N k i) (p + 1)) (fun e q => if K q = 41 then .inr (e, q + 1) else .inl (2, q)) := rfl
        rw [ep]
        have l2 : lwS ν2 k L := ⟨⟨q3.kk.1.trans l.1.1, q3.kk.2.trans l.1.2⟩, by rw [q4]; exact l.2⟩
        have e16' : ν2.1 16 = nI (6 - i) := by rw [q8, show 6 - (i + 1) + 1 = 6 - i by omega]
        refine ⟨_, S i rfl ν2 (p + 1) L (q3.ta t) q6 q7 l2 (by omega) e16', fun ν3 R => ?_⟩
        obtain ⟨r1, r2⟩ := R
        cases hs : aSum K N k (aParK K N k i) (p + 1) with
        | inl x =>
          rw [hs] at r2
          refine ⟨_, m_mustSign_b (d := dd + 4) r2.ne, fun ν4 z => ?_⟩
          subst z
          exact ⟨_, ⟨dif.tr (dif.tr q3 r1) (pd_16 _), r2⟩, rfl⟩
        | inr x =>
          rw [hs] at r2
          obtain ⟨⟨s1, ⟨s2, s3⟩, s4⟩, c, ⟨s5, s6⟩, s7, s8⟩ := r2
          refine ⟨_, m_mustSign (d := dd + 4) (c := 41) (dif.tr q3 r1 |> fun z => pd.ta z t) X s3 s1 (by decide) (by decide) (by decide) (by decide), fun ν4 z => ?_⟩
          obtain ⟨z1, z2⟩ := z
          rcases z2 with ⟨z2, z3, z4⟩ | ⟨z2, z3⟩
          · have eg : pgo (.inr x : Pr Ex) (fun e q => if K q = 41 then (.inr (e, q + 1) : Pr Ex) else .inl (2, q)) = .inr (x.1, x.2 + 1) := if_pos z2
            rw [eg]
            refine ⟨_, ⟨dif.tr (dif.tr (dif.tr q3 r1) z1.dd) (pd_16 _), ⟨z4, ⟨by show p < x.2 + 1; omega, z3⟩, ?_⟩, c, ⟨s5.up (by omega), fun f => absurd f (by decide)⟩, by show c.length ≤ x.2 + 1 - p; omega, ?_⟩, rfl⟩
            · rw [mI_at, z1.1 16 (by decide), s4, e16', e16]
              have tab : ∀ i, i + 1 ≤ 6 → nI (6 - i) - 1 = nI (6 - (i + 1)) := by
                intro i hi
                rcases (by omega : i = 0 ∨ i = 1 ∨ i = 2 ∨ i = 3 ∨ i = 4 ∨ i = 5) with rfl | rfl | rfl | rfl | rfl | rfl <;> decide
              exact tab i hj
            · show ν4.2.1 2 = _
              rw [z1.2.2 2 (by decide), s8, q4]
          · have eg : pgo (.inr x : Pr Ex) (fun e q => if K q = 41 then (.inr (e, q + 1) : Pr Ex) else .inl (2, q)) = .inl (2, x.2) := if_neg z2
            rw [eg]
            exact ⟨_, ⟨dif.tr (dif.tr (dif.tr q3 r1) z1.dd) (pd_16 _), z3⟩, rfl⟩
end MSU
