/-! The characters of a constant string, read where they always lay -/
def sB (k : Nat) : List Int32 := match jStr[k]? with | some q => q.2.2.2 | none => []
def sV (g : jG) (k v : Nat) : Prop := k < 37 ∧ va_T .byte v (sB k).length (fun j => .int ((sB k).getD j 0)) (fun q => jB0 g ≤ q) g.2.1 g.2.1.heap
section STRR
variable {g : jG} {μ : jM} {d : Nat} {hs : jH} {P : jO → jH → Prop} {pc : Nat} {lv : List (Nat × Value)} {st : List Value} {h : jH}
theorem jr_compact {index : Nat} (hl : Cond.fieldLink μ.1.cls index "java/lang/String" "COMPACT_STRINGS" "Z" ∈ lw_tbl) (hdg : decode μ.2.1 pc = .ok (.getstatic index, 3)) (k : J g μ d hs P (pc + 3) lv (.int 1 :: st) h) : J g μ d hs P pc lv st h := by
  intro hg p e R s m args below meth c B H ls locs hR hl9 hL hf
  have hW := B.2.2.2.2.2.2.2.1
  exact va_gets B.1 B.2.1 (va_Z.moved hW.alike (hg.2.2.2.2.2.2.2.2.1.kept (j_keep B))) (j_S B hR hL hf) B.2.2.2.1 (j_word hg hW hl rfl) (fun _ hx => hx) hdg (k hg p e R s m args below meth c B H ls locs hR hl9 hL hf)
theorem jr_sioobe {index : Nat} (hl : Cond.fieldLink μ.1.cls index "jdk/internal/util/Preconditions" "SIOOBE_FORMATTER" "Ljava/util/function/BiFunction;" ∈ lw_tbl) (hdg : decode μ.2.1 pc = .ok (.getstatic index, 3)) (k0 : J g μ d hs P (pc + 3) lv (.null :: st) h) (k : ∀ t, J g μ d hs P (pc + 3) lv (.ref t :: st) h) : J g μ d hs P pc lv st h := by
  intro hg p e R s m args below meth c B H ls locs hR hl9 hL hf
  have hW := B.2.2.2.2.2.2.2.1
  rcases hg.2.2.2.2.2.2.2.2.2 with hz | ⟨t, hz⟩
  · exact va_gets B.1 B.2.1 (va_Z.moved hW.alike (hz.kept (j_keep B))) (j_S B hR hL hf) B.2.2.2.1 (j_word hg hW hl rfl) (fun _ hx => hx) hdg (k0 hg p e R s m args below meth c B H ls locs hR hl9 hL hf)
  · exact va_gets B.1 B.2.1 (va_Z.moved hW.alike (hz.kept (j_keep B))) (j_S B hR hL hf) B.2.2.2.1 (j_word hg hW hl rfl) (fun _ hx => hx) hdg (k t hg p e R s m args below meth c B H ls locs hR hl9 hL hf)
theorem jr_coder {index k9 : Nat} (hk : k9 < 37) (hc : μ.1.cls = "java/lang/String") (hl : Cond.fieldLink μ.1.cls index "java/lang/String" "coder" "B" ∈ lw_tbl) (hdg : decode μ.2.1 pc = .ok (.getfield index, 3)) (k : J g μ d hs P (pc + 3) lv (.int 0 :: st) h) : J g μ d hs P pc lv (.ref (gS g k9) :: st) h := by
  intro hg p e R s m args below meth c B H ls locs hR hl9 hL hf
  have hW := B.2.2.2.2.2.2.2.1
  obtain ⟨q9, hq9⟩ : ∃ q, jStr[k9]? = some q := ⟨_, List.getElem?_eq_getElem (show k9 < jStr.length from hk)⟩
  have hE := va_OF.moved hW.alike ((hg.2.2.2.2.2.2.2.1 k9 _ hq9).2.2.1.kept (j_keep B))
  rw [← hc] at hE
  exact vk_getf B.1 B.2.1 hE (j_S B hR hL hf) B.2.2.2.1 (j_word hg hW hl rfl) (fun _ hx => by rw [hc] at hx; exact hx) hdg (k hg p e R s m args below meth c B H ls locs hR hl9 hL hf)
theorem jr_value {index k9 : Nat} (hk : k9 < 37) (hc : μ.1.cls = "java/lang/String") (hl : Cond.fieldLink μ.1.cls index "java/lang/String" "value" "[B" ∈ lw_tbl) (hdg : decode μ.2.1 pc = .ok (.getfield index, 3)) (k : ∀ v, sV g k9 v → J g μ d hs P (pc + 3) lv (.ref v :: st) h) : J g μ d hs P pc lv (.ref (gS g k9) :: st) h := by
  intro hg p e R s m args below meth c B H ls locs hR hl9 hL hf
  have hW := B.2.2.2.2.2.2.2.1
  obtain ⟨q9, hq9⟩ : ∃ q, jStr[k9]? = some q := ⟨_, List.getElem?_eq_getElem (show k9 < jStr.length from hk)⟩
  obtain ⟨v, hv, hT⟩ := (hg.2.2.2.2.2.2.2.1 k9 _ hq9).2.2.2
  have hE := va_OF.moved hW.alike (hv.kept (j_keep B))
  rw [← hc] at hE
  refine vk_getf B.1 B.2.1 hE (j_S B hR hL hf) B.2.2.2.1 (j_word hg hW hl rfl) (fun _ hx => by rw [hc] at hx; exact hx) hdg (k v ⟨hk, ?_⟩ hg p e R s m args below meth c B H ls locs hR hl9 hL hf)
  unfold sB
  rw [hq9]
  exact hT
theorem jr_sbyte {v k9 : Nat} {i : Int32} (hv : sV g k9 v) (hdg : decode μ.2.1 pc = .ok (.baload, 1)) (hin : vp_in i (sB k9).length) (k : J g μ d hs P (pc + 1) lv (.int ((sB k9).getD i.toNatClampNeg 0) :: st) h) : J g μ d hs P pc lv (.int i :: .ref v :: st) h := by
  intro hg p e R s m args below meth c B H ls locs hR hl9 hL hf
  have hW := B.2.2.2.2.2.2.2.1
  exact va_tb B.1 B.2.1 (va_T.moved hW.alike (hv.2.kept (j_keep B))) (j_S B hR hL hf) hin rfl hdg (k hg p e R s m args below meth c B H ls locs hR hl9 hL hf)
theorem jr_slen {v k9 : Nat} (hv : sV g k9 v) (hdg : decode μ.2.1 pc = .ok (.arraylength, 1)) (k : J g μ d hs P (pc + 1) lv (.int (nI (sB k9).length) :: st) h) : J g μ d hs P pc lv (.ref v :: st) h := by
  intro hg p e R s m args below meth c B H ls locs hR hl9 hL hf
  have hW := B.2.2.2.2.2.2.2.1
  exact va_tlen B.1 B.2.1 (va_T.moved hW.alike (hv.2.kept (j_keep B))) (j_S B hR hL hf) rfl hdg (k hg p e R s m args below meth c B H ls locs hR hl9 hL hf)
end STRR
