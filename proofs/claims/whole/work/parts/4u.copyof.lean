/-! Arrays.copyOf of a row, to a shorter one -/
theorem jl_J7_304 : Cond.methodLink RJ7 304 Lib.Math.min.name ∈ lw_tbl := jw_in 862 (by decide +kernel)
theorem jl_J7_150 : Cond.methodLink RJ7 150 arraycopyName ∈ lw_tbl := jw_in 863 (by decide +kernel)
section CPO
variable {g : jG} {d : Nat} {h : jH} {r n m : Nat} {f : Nat → Int32}
theorem c_copyOf (H : h.1 r = some (rowL n f)) (hn : n < 2 ^ 20) (hm : m < n) (hr : ¬ r = h.2.1) (R : jroom g h 1 m) : Con g mJ7_copyOf_59c91 (d + 1) [.ref r, .int (nI m)] h (jPr (fun q h' => q = h.2.1 ∧ h' = jnew h (rowL m (fun i => if i < m then f i else 0)) m) no2) := by
  refine con_of km_J7_copyOf_59c91.1.2.2.2.2 (Nat.le_of_ble_eq_true rfl) rfl ?_
  show J g _ (d + 1) _ _ 0 [(0, .ref r), (1, .int (nI m))] [] h
  refine jr_iload_n 1 dJ7_copyOf_59c91_0 rfl rfl ?_
  refine jr_aload_n 0 dJ7_copyOf_59c91_1 rfl rfl ?_
  refine jr_alen (v := nI n) dJ7_copyOf_59c91_2 (show jTy 0 = some _ from rfl) H rfl ?_
  refine jr_icmp_ne (tgt := 14) dJ7_copyOf_59c91_3 (by decide) (fun _ => ?_) (fun c => absurd ((nI_eq (by omega) (by omega)).mp c) (by omega))
  refine jr_iload_n 1 dJ7_copyOf_59c91_14 rfl rfl ?_
  refine jr_new_int (N := m) rfl (by omega) R dJ7_copyOf_59c91_15 (fun q h1 e1 e2 => ?_)
  subst e1 e2
  refine jr_astore_n (lv' := [(2, .ref h.2.1), (0, .ref r), (1, .int (nI m))]) dJ7_copyOf_59c91_17 rfl (by decide) rfl ?_
  refine jr_aload_n 1 dJ7_copyOf_59c91_18 rfl rfl ?_
  refine jr_iconst (v := 0) dJ7_copyOf_59c91_19 (by decide) ?_
  refine jr_aload_n 0 dJ7_copyOf_59c91_20 rfl rfl ?_
  refine jr_iconst (v := 0) dJ7_copyOf_59c91_21 (by decide) ?_
  refine jr_aload_n 1 dJ7_copyOf_59c91_22 rfl rfl ?_
  refine jr_alen (v := nI n) dJ7_copyOf_59c91_23 (show jTy 0 = some _ from rfl) ((jnew_ne hr).trans H) rfl ?_
  refine jr_iload_n 2 dJ7_copyOf_59c91_24 rfl rfl ?_
  refine jr_mmin jl_J7_304 dJ7_copyOf_59c91_25 (Nat.le_of_ble_eq_true rfl) ?_
  have ej : jmin (nI n) (nI m) = nI m := if_pos (nI_lt hm (by omega))
  rw [ej]
  have em : (nI m).toNatClampNeg = m := nI_clamp (by omega)
  have e0 : (0 : Int32).toNatClampNeg = 0 := rfl
  refine jr_copyiE jl_J7_150 dJ7_copyOf_59c91_28 ((jnew_ne hr).trans H) jnew_at (by decide) (by decide) (nI_pos (by omega)) (by rw [em, e0]; omega) (by rw [em, e0]; omega) (Nat.le_of_ble_eq_true rfl) (fun h1 e1 => ?_)
  refine jr_aload_n 0 dJ7_copyOf_59c91_31 rfl rfl ?_
  refine jr_aret rfl (Or.inr ⟨_, rfl⟩) dJ7_copyOf_59c91_32 ⟨rfl, ?_⟩
  rw [e1, em, e0]
  refine Prod.ext (funext fun q => ?_) rfl
  by_cases hq : q = h.2.1
  · subst hq
    simp only [jset, jnew, rowL, if_true]
    congr 5
    funext i
    simp [va_cpy]
  · simp only [jset, jnew, hq, if_false]
end CPO
