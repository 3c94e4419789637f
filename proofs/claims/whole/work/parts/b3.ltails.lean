/-! The law's body: its pieces -/
abbrev mL_law : jM := (yL_law, cL_law, 8, (some (.boolean)), [])
/-- the law's end -/
def PL : jO → jH → Prop := fun o _ => o = .inl (some (.int 1))
abbrev lvL (g : jG) (o : Nat) (i : Int32) : List (Nat × Value) := [(4, .int i), (3, .ref (o + 414)), (2, .ref (o + 396)), (1, .ref o), (0, .ref g.2.2.1)]
section LTL
variable {g : jG} {hs h : jH} {H H1 : jH} {o L j p n : Nat} {xs : Nat → Int32} {ω ω1 ω' : CW} {μ ν : MW} {i k r2 : Int32} {P : jO → jH → Prop} {lv : List (Nat × Value)} {st : List Value} {d : Nat} {off : Int}
/-- an int of the script -/
theorem js_ld {c : Nat} {cI : Int} (n0 n4 : Nat) (hc : Int32.ofInt cI = nI c) (hj : 6 * j + c < L) (hL : L ≤ 3072) (hs0 : h.1 g.2.2.1 = some (.inl (11, (L, .inl xs)))) (d0 : decode cL_law p = .ok (.aload_n 0, 1)) (d1 : decode cL_law (p + 1) = .ok (.iload 4, 2)) (d3 : decode cL_law (p + 3) = .ok (.iconst cI, 1)) (d4 : decode cL_law (p + 4) = .ok (.iadd, 1)) (d5 : decode cL_law (p + 5) = .ok (.iaload, 1))
    (q0 : lv[n0]? = some (0, .ref g.2.2.1)) (q4 : lv[n4]? = some (4, .int (nI (6 * j)))) (K : J g mL_law d hs P (p + 6) lv (.int (xs (6 * j + c)) :: st) h) : J g mL_law d hs P p lv st h := by
  refine jr_aload_n n0 d0 rfl q0 ?_
  refine jr_iload n4 d1 q4 ?_
  refine jr_iconst d3 hc ?_
  refine jr_iadd d4 ?_
  rw [nI_plus]
  refine jr_sald d5 hs0 (vp_in_nI (by omega) (by omega)) ?_
  rw [nI_clamp (by omega)]
  exact K
/-- what the reference threw is what the class threw -/
theorem js_thr (n2 n5 : Nat) (e : ν.1 4 = k) (d0 : decode cL_law p = .ok (.aload_n 2, 1)) (d1 : decode cL_law (p + 1) = .ok (.invokevirtual 158, 3)) (d4 : decode cL_law (p + 4) = .ok (.iload 5, 2)) (d6 : decode cL_law (p + 6) = .ok (.if_icmp .eq 5, 3))
    (q2 : lv[n2]? = some (2, .ref (o + 396))) (q5 : lv[n5]? = some (5, .int k)) (hl : Cond.methodLink RL 158 mX12_thrown.1 ∈ lw_tbl) (K : J g mL_law 121 hs PL (p + 11) lv [] (lh g H1 o ω1 ν)) : J g mL_law 121 hs PL p lv [] (lh g H1 o ω1 ν) := by
  have C : Con g mX12_thrown 120 [.ref (o + 396)] (lh g H1 o ω1 ν) (jPi (fun r h' => r = ν.1 4 ∧ h' = lh g H1 o ω1 ν) (fun E h' => PL (.inr E) h')) := by
    rw [lh_m]
    exact (m_thrown (d := 119)).pi (fun r h' q => q) (fun E h' f => f.elim)
  have R : (lh g H1 o ω1 ν).1 (o + 396) = some (mobj (o + 396) ν) := by rw [lh_m]; exact mw_o
  refine jr_aload_n n2 d0 rfl q2 ?_
  refine jr_cVi (As := []) (st := []) hl km_X12_thrown rfl rfl d1 R (Nat.le_of_ble_eq_true rfl) C (fun r h' hr => ?_)
  obtain ⟨rfl, rfl⟩ := hr
  refine jr_iload n5 d4 q5 ?_
  refine jr_icmp_eq (tgt := p + 11) d6 (by omega) (fun _ => K) (fun c => absurd e c)
/-- behind a call that answers an int -/
theorem js_endI (e1 : ν.1 4 = k) (e2 : k = 0 → ∃ f, H1.1 (o + 414) = some (outc f) ∧ f 0 = r2.toInt64) (hl : Cond.methodLink RL 158 mX12_thrown.1 ∈ lw_tbl) (d0 : decode cL_law p = .ok (.istore 6, 2)) (d2 : decode cL_law (p + 2) = .ok (.aload_n 2, 1)) (d3 : decode cL_law (p + 3) = .ok (.invokevirtual 158, 3)) (d6 : decode cL_law (p + 6) = .ok (.iload 5, 2)) (d8 : decode cL_law (p + 8) = .ok (.if_icmp .eq 5, 3))
    (d13 : decode cL_law (p + 13) = .ok (.iload 5, 2)) (d15 : decode cL_law (p + 15) = .ok (.ifCond .ne 15, 3)) (d18 : decode cL_law (p + 18) = .ok (.aload_n 3, 1)) (d19 : decode cL_law (p + 19) = .ok (.iconst 0, 1)) (d20 : decode cL_law (p + 20) = .ok (.laload, 1)) (d21 : decode cL_law (p + 21) = .ok (.iload 6, 2)) (d23 : decode cL_law (p + 23) = .ok (.i2l, 1)) (d24 : decode cL_law (p + 24) = .ok (.lcmp, 1)) (d25 : decode cL_law (p + 25) = .ok (.ifCond .eq 5, 3)) (d30 : decode cL_law (p + 30) = .ok (.goto off, 3)) (hg : ((p + 30 : Nat) : Int) + off = ((2959 : Nat) : Int))
    (K : J g mL_law 121 hs PL 2959 (lvL g o i) [] (lh g H1 o ω1 ν)) : J g mL_law 121 hs PL p ((5, .int k) :: lvL g o i) [.int r2] (lh g H1 o ω1 ν) := by
  have Z : J g mL_law 121 hs PL (p + 30) ((6, .int r2) :: (5, .int k) :: lvL g o i) [] (lh g H1 o ω1 ν) := jr_goto d30 hg (jr_sub [2, 3, 4, 5, 6] rfl K)
  refine jr_istore (lv' := (6, .int r2) :: (5, .int k) :: lvL g o i) d0 (by decide) rfl ?_
  refine js_thr 4 1 e1 d2 d3 d6 d8 rfl rfl hl ?_
  refine jr_iload 1 d13 rfl ?_
  refine jr_if_ne (tgt := p + 30) d15 (by omega) (fun _ => Z) (fun c => ?_)
  obtain ⟨f, hf, ef⟩ := e2 c
  refine jr_aload_n 3 d18 rfl rfl ?_
  refine jr_iconst (v := 0) d19 rfl ?_
  refine jr_lald d20 ((lh_out (Or.inr (Nat.le_refl _))).trans hf) vin01 ?_
  refine jr_iload 0 d21 rfl ?_
  refine jr_i2l d23 ?_
  refine jr_lcmp_eq (tgt := p + 30) d24 d25 (by omega) (fun _ => Z) (fun c => absurd ef c)
/-- behind a call that answers a long -/
theorem js_endL {r2 : Int64} (e1 : ν.1 4 = k) (e2 : k = 0 → ∃ f, H1.1 (o + 414) = some (outc f) ∧ f 0 = r2) (hl : Cond.methodLink RL 158 mX12_thrown.1 ∈ lw_tbl) (d0 : decode cL_law p = .ok (.lstore 6, 2)) (d2 : decode cL_law (p + 2) = .ok (.aload_n 2, 1)) (d3 : decode cL_law (p + 3) = .ok (.invokevirtual 158, 3)) (d6 : decode cL_law (p + 6) = .ok (.iload 5, 2)) (d8 : decode cL_law (p + 8) = .ok (.if_icmp .eq 5, 3))
    (d13 : decode cL_law (p + 13) = .ok (.iload 5, 2)) (d15 : decode cL_law (p + 15) = .ok (.ifCond .ne 14, 3)) (d18 : decode cL_law (p + 18) = .ok (.aload_n 3, 1)) (d19 : decode cL_law (p + 19) = .ok (.iconst 0, 1)) (d20 : decode cL_law (p + 20) = .ok (.laload, 1)) (d21 : decode cL_law (p + 21) = .ok (.lload 6, 2)) (d23 : decode cL_law (p + 23) = .ok (.lcmp, 1)) (d24 : decode cL_law (p + 24) = .ok (.ifCond .eq 5, 3)) (d29 : decode cL_law (p + 29) = .ok (.goto off, 3)) (hg : ((p + 29 : Nat) : Int) + off = ((2959 : Nat) : Int))
    (K : J g mL_law 121 hs PL 2959 (lvL g o i) [] (lh g H1 o ω1 ν)) : J g mL_law 121 hs PL p ((5, .int k) :: lvL g o i) [.long r2] (lh g H1 o ω1 ν) := by
  have Z : J g mL_law 121 hs PL (p + 29) ((6, .long r2) :: (5, .int k) :: lvL g o i) [] (lh g H1 o ω1 ν) := jr_goto d29 hg (jr_sub [2, 3, 4, 5, 6] rfl K)
  refine jr_lstore (lv' := (6, .long r2) :: (5, .int k) :: lvL g o i) d0 (by decide) rfl ?_
  refine js_thr 4 1 e1 d2 d3 d6 d8 rfl rfl hl ?_
  refine jr_iload 1 d13 rfl ?_
  refine jr_if_ne (tgt := p + 29) d15 (by omega) (fun _ => Z) (fun c => ?_)
  obtain ⟨f, hf, ef⟩ := e2 c
  refine jr_aload_n 3 d18 rfl rfl ?_
  refine jr_iconst (v := 0) d19 rfl ?_
  refine jr_lald d20 ((lh_out (Or.inr (Nat.le_refl _))).trans hf) vin01 ?_
  refine jr_lload 0 d21 rfl ?_
  refine jr_lcmp_eq (tgt := p + 29) d23 d24 (by omega) (fun _ => Z) (fun c => absurd ef c)
/-- behind takes -/
theorem js_endZ (e1 : ν.1 4 = k) (e2 : k = 0 → ∃ f, H1.1 (o + 414) = some (outc f) ∧ f 0 = (if r2 = 0 then 0 else 1 : Int64)) (hl : Cond.methodLink RL 158 mX12_thrown.1 ∈ lw_tbl) (d0 : decode cL_law p = .ok (.istore 6, 2)) (d2 : decode cL_law (p + 2) = .ok (.aload_n 2, 1)) (d3 : decode cL_law (p + 3) = .ok (.invokevirtual 158, 3)) (d6 : decode cL_law (p + 6) = .ok (.iload 5, 2)) (d8 : decode cL_law (p + 8) = .ok (.if_icmp .eq 5, 3))
    (d13 : decode cL_law (p + 13) = .ok (.iload 5, 2)) (d15 : decode cL_law (p + 15) = .ok (.ifCond .ne 22, 3)) (d18 : decode cL_law (p + 18) = .ok (.aload_n 3, 1)) (d19 : decode cL_law (p + 19) = .ok (.iconst 0, 1)) (d20 : decode cL_law (p + 20) = .ok (.laload, 1)) (d21 : decode cL_law (p + 21) = .ok (.iload 6, 2)) (d23 : decode cL_law (p + 23) = .ok (.ifCond .eq 7, 3)) (d26 : decode cL_law (p + 26) = .ok (.lconst 1, 1)) (d27 : decode cL_law (p + 27) = .ok (.goto 4, 3)) (d30 : decode cL_law (p + 30) = .ok (.lconst 0, 1)) (d31 : decode cL_law (p + 31) = .ok (.lcmp, 1)) (d32 : decode cL_law (p + 32) = .ok (.ifCond .eq 5, 3)) (d37 : decode cL_law (p + 37) = .ok (.goto off, 3)) (hg : ((p + 37 : Nat) : Int) + off = ((2959 : Nat) : Int))
    (K : J g mL_law 121 hs PL 2959 (lvL g o i) [] (lh g H1 o ω1 ν)) : J g mL_law 121 hs PL p ((5, .int k) :: lvL g o i) [.int r2] (lh g H1 o ω1 ν) := by
  have Z : J g mL_law 121 hs PL (p + 37) ((6, .int r2) :: (5, .int k) :: lvL g o i) [] (lh g H1 o ω1 ν) := jr_goto d37 hg (jr_sub [2, 3, 4, 5, 6] rfl K)
  refine jr_istore (lv' := (6, .int r2) :: (5, .int k) :: lvL g o i) d0 (by decide) rfl ?_
  refine js_thr 4 1 e1 d2 d3 d6 d8 rfl rfl hl ?_
  refine jr_iload 1 d13 rfl ?_
  refine jr_if_ne (tgt := p + 37) d15 (by omega) (fun _ => Z) (fun c => ?_)
  obtain ⟨f, hf, ef⟩ := e2 c
  refine jr_aload_n 3 d18 rfl rfl ?_
  refine jr_iconst (v := 0) d19 rfl ?_
  refine jr_lald d20 ((lh_out (Or.inr (Nat.le_refl _))).trans hf) vin01 ?_
  refine jr_iload 0 d21 rfl ?_
  refine jr_if_eq (tgt := p + 30) d23 (by omega) (fun c => ?_) (fun c => ?_)
  · refine jr_lconst (v := 0) d30 rfl ?_
    refine jr_lcmp_eq (tgt := p + 37) d31 d32 (by omega) (fun _ => Z) (fun z => absurd (ef.trans (if_pos c)) z)
  · refine jr_lconst (v := 1) d26 rfl ?_
    refine jr_goto (tgt := p + 31) d27 (by omega) ?_
    refine jr_lcmp_eq (tgt := p + 37) d31 d32 (by omega) (fun _ => Z) (fun z => absurd (ef.trans (if_neg c)) z)
/-- behind a call that answers nothing -/
theorem js_endV (e1 : ν.1 4 = k) (hl : Cond.methodLink RL 158 mX12_thrown.1 ∈ lw_tbl) (d0 : decode cL_law p = .ok (.aload_n 2, 1)) (d1 : decode cL_law (p + 1) = .ok (.invokevirtual 158, 3)) (d4 : decode cL_law (p + 4) = .ok (.iload 5, 2)) (d6 : decode cL_law (p + 6) = .ok (.if_icmp .eq 5, 3)) (d11 : decode cL_law (p + 11) = .ok (.goto off, 3)) (hg : ((p + 11 : Nat) : Int) + off = ((2959 : Nat) : Int))
    (K : J g mL_law 121 hs PL 2959 (lvL g o i) [] (lh g H1 o ω1 ν)) : J g mL_law 121 hs PL p ((5, .int k) :: lvL g o i) [] (lh g H1 o ω1 ν) := by
  refine js_thr 3 0 e1 d0 d1 d4 d6 rfl rfl hl ?_
  exact jr_goto d11 hg (jr_sub [1, 2, 3, 4, 5] rfl K)
/-- the reference's call in the law's world -/
theorem lh_mo : (lh g H o ω μ).1 (o + 396) = some (mobj (o + 396) μ) := by rw [lh_m]; exact mw_o
theorem lh_co : (lh g H o ω μ).1 o = some (wobj o ω) := cw_o
theorem mc_i {Q : Int32 → MW → Prop} {X : jM} {As : List Value} (C : ∀ h : jH, Con g X 120 (.ref (o + 396) :: As) (mw h (o + 396) μ) (wPi h (o + 396) Q)) : Con g X 120 (.ref (o + 396) :: As) (lh g H o ω μ) (jPi (fun r h' => ∃ ν, Q r ν ∧ h' = lh g H o ω ν) (fun E h' => PL (.inr E) h')) := by
  rw [lh_m]
  exact (C _).pi (fun r h' q => by
    obtain ⟨ν, q1, q2⟩ := q
    exact ⟨ν, q1, q2.trans lh_m.symm⟩) (fun E h' f => f.elim)
theorem mc_l {Q : Int64 → MW → Prop} {X : jM} {As : List Value} (C : ∀ h : jH, Con g X 120 (.ref (o + 396) :: As) (mw h (o + 396) μ) (wPl h (o + 396) Q)) : Con g X 120 (.ref (o + 396) :: As) (lh g H o ω μ) (jPl (fun r h' => ∃ ν, Q r ν ∧ h' = lh g H o ω ν) (fun E h' => PL (.inr E) h')) := by
  rw [lh_m]
  exact (C _).pl (fun r h' q => by
    obtain ⟨ν, q1, q2⟩ := q
    exact ⟨ν, q1, q2.trans lh_m.symm⟩) (fun E h' f => f.elim)
theorem mc_v {Q : MW → Prop} {X : jM} {As : List Value} (C : ∀ h : jH, Con g X 120 (.ref (o + 396) :: As) (mw h (o + 396) μ) (wPv h (o + 396) Q)) : Con g X 120 (.ref (o + 396) :: As) (lh g H o ω μ) (jPv (fun h' => ∃ ν, Q ν ∧ h' = lh g H o ω ν) (fun E h' => PL (.inr E) h')) := by
  rw [lh_m]
  exact (C _).pv (fun h' q => by
    obtain ⟨ν, q1, q2⟩ := q
    exact ⟨ν, q1, q2.trans lh_m.symm⟩) (fun E h' f => f.elim)
theorem codE_pos {E : String} : ∀ (es : List String) (k : Nat), 0 < k → k + es.length < 100 → ¬ codE es E k = 0
  | [], k, h, h2 => fun e => by
    have e' : nI k = nI 0 := e
    have := nI_ij (by simp at h2; omega) (by omega) e'
    omega
  | x :: es, k, h, h2 => by
    unfold codE
    split
    · intro e
      have e' : nI k = nI 0 := e
      have := nI_ij (by simp at h2; omega) (by omega) e'
      omega
    · exact codE_pos es (k + 1) (by omega) (by simp at h2; omega)
/-- no exception: there was an answer -/
theorem cod_0 {α : Type} {es : List String} {A : An α} (hes : es.length < 50) (e : cod es A = 0) : ∃ v, A = .inr v := by
  cases A with
  | inl E => exact absurd e (codE_pos es 1 (by omega) (by omega))
  | inr v => exact ⟨v, rfl⟩
end LTL
