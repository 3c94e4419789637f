/-- a throw of a class whose constructor passes on by the entry 13 (NoSuchElementException) -/
def jThX (own : String) (ik is ic : Nat) (E text : String) : Prop := Bundle.fit E = true ∧ (∀ n ∈ jchain E, Bundle.fit n = true) ∧ Cond.classLink own ik E ∈ lw_tbl ∧ Cond.initialized E ∈ lw_tbl ∧ (∀ w ∈ (Bundle.ownAtomsX own ic E 13 prog_35_method_4_code (jchain E)).filter vx_no, w ∈ lw_tbl ∧ (goodWord w = true ∨ jdc w = true)) ∧ (jchain E).length = 2 ∧ Cond.stringRef own is text ∈ lw_tbl
section JR8
variable {g : jG} {μ : jM} {d : Nat} {hs : jH} {P : jO → jH → Prop} {pc : Nat} {lv : List (Nat × Value)} {st : List Value} {h : jH}
/-- throw new E("text") in a method without handlers -/
theorem jr_throwX {own : String} {ik is ic : Nat} {E text : String} (hown : own = μ.1.cls) (hth : jThX own ik is ic E text) (hh : μ.2.2.2.2 = []) (hroom : jroom g h 1 6)
    (hsa : jok g → ∃ sa, vk_R own is text sa g.2.1)
    (d0 : decode μ.2.1 pc = .ok (.new ik, 3)) (d3 : decode μ.2.1 (pc + 3) = .ok (.dup, 1)) (d4 : decode μ.2.1 (pc + 4) = .ok (.ldc is, 2)) (d6 : decode μ.2.1 (pc + 6) = .ok (.invokespecial ic, 3)) (d9 : decode μ.2.1 (pc + 9) = .ok (.athrow, 1))
    (hst : (st.map fun v => v.category).sum ≤ 8)
    (k : ∀ n, h.2.1 ≤ n → n ≤ h.2.1 + 1 → P (.inr E) (h.1, n, h.2.2 + 6)) : J g μ d hs P pc lv st h := by
  sorry
/-- throw new E("text") in a method without handlers -/
theorem jr_throwXW {own : String} {ik is ic : Nat} {E text : String} (hown : own = μ.1.cls) (hth : jThX own ik is ic E text) (hh : μ.2.2.2.2 = []) (hroom : jroom g h 1 6)
    (hsa : jok g → ∃ sa, vk_R own is text sa g.2.1)
    (d0 : decode μ.2.1 pc = .ok (.new ik, 3)) (d3 : decode μ.2.1 (pc + 3) = .ok (.dup, 1)) (d4 : decode μ.2.1 (pc + 4) = .ok (.ldc_w is, 3)) (d6 : decode μ.2.1 (pc + 7) = .ok (.invokespecial ic, 3)) (d9 : decode μ.2.1 (pc + 10) = .ok (.athrow, 1))
    (hst : (st.map fun v => v.category).sum ≤ 8)
    (k : ∀ n, h.2.1 ≤ n → n ≤ h.2.1 + 1 → P (.inr E) (h.1, n, h.2.2 + 6)) : J g μ d hs P pc lv st h := by
  sorry
/-- throw new E("text") in a method without handlers -/
theorem jr_throwW {own : String} {ik is ic : Nat} {E text : String} (hown : own = μ.1.cls) (hth : jTh own ik is ic E text) (hh : μ.2.2.2.2 = []) (hroom : jroom g h 1 6)
    (hsa : jok g → ∃ sa, vk_R own is text sa g.2.1)
    (d0 : decode μ.2.1 pc = .ok (.new ik, 3)) (d3 : decode μ.2.1 (pc + 3) = .ok (.dup, 1)) (d4 : decode μ.2.1 (pc + 4) = .ok (.ldc_w is, 3)) (d6 : decode μ.2.1 (pc + 7) = .ok (.invokespecial ic, 3)) (d9 : decode μ.2.1 (pc + 10) = .ok (.athrow, 1))
    (hst : (st.map fun v => v.category).sum ≤ 8)
    (k : ∀ n, h.2.1 ≤ n → n ≤ h.2.1 + 1 → P (.inr E) (h.1, n, h.2.2 + 6)) : J g μ d hs P pc lv st h := by
  sorry
end JR8
theorem jt_X11_180 : jThX RX11 178 180 182 "java/util/NoSuchElementException" "no such house" := ⟨by decide +kernel, by decide +kernel, jw_in 898 (by decide +kernel), jw_in 26 (by decide +kernel), by decide +kernel, rfl, jw_in 907 (by decide +kernel)⟩
theorem jt_X11_402 : jThX RX11 178 402 182 "java/util/NoSuchElementException" "no such tray" := ⟨by decide +kernel, by decide +kernel, jw_in 898 (by decide +kernel), jw_in 26 (by decide +kernel), by decide +kernel, rfl, jw_in 1017 (by decide +kernel)⟩
theorem jt_X11_423 : jThX RX11 178 423 182 "java/util/NoSuchElementException" "no such image" := ⟨by decide +kernel, by decide +kernel, jw_in 898 (by decide +kernel), jw_in 26 (by decide +kernel), by decide +kernel, rfl, jw_in 1405 (by decide +kernel)⟩
