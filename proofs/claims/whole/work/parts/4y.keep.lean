section KEE
variable {g : jG} {d : Nat} {h : jH} {w m t : Nat} {υ : Vs} {word : Int32} {fs : List Value}
theorem c_keepLaw (hm : υ.1 4 = nI m) (hm9 : m < 900) (ht : υ.2.1 = t) (HT : h.1 t = some (.inr (9, fs))) (hf : 6 < fs.length) (t1 : ¬ t = w) (t2 : ¬ t = w + 13) (t3 : ¬ t = h.2.1) (hw : w + 13 < h.2.1) (R : jroom g h 1 m) :
    Con g mX7_keepLaw (d + 2) [.ref w, .int word] (vput h w υ) (jPi (fun r h' => r = 1 ∧ h' = jset (jnew (vput h w υ) (rowL m (fun i => if i < m then υ.2.2 i else 0)) m) t (.inr (9, fs.set (if word = 141 then 4 else if word = 142 then 5 else 6) (.ref h.2.1)))) no2) := by
  have ej : jmax (υ.1 4) 0 = nI m := by
    rw [hm]
    exact if_neg (nI_pos (by omega))
  have s2 : (vput h w υ).2 = h.2 := rfl
  refine con_of km_X7_keepLaw.1.2.2.2.2 (Nat.le_of_ble_eq_true rfl) rfl (bX7_keepLaw_0 ⟨_, vput_0, _, rfl, _, vput_0, _, rfl, ?_⟩)
  rw [ej]
  refine (c_copyOf vput_c (by decide) hm9 (by rw [s2]; omega) R).pr (fun q h' hq => ?_) (fun E h' f => f.elim)
  obtain ⟨rfl, rfl⟩ := hq
  have N0 : (jnew (vput h w υ) (rowL m (fun i => if i < m then υ.2.2 i else 0)) m).1 w = some (vobj w υ) := (jnew_ne (by rw [s2]; omega)).trans vput_0
  have NT : (jnew (vput h w υ) (rowL m (fun i => if i < m then υ.2.2 i else 0)) m).1 υ.2.1 = some (.inr (9, fs)) := by
    rw [ht]
    exact (jnew_ne (by rw [s2]; exact t3)).trans ((vput_ne t1 t2).trans HT)
  refine ⟨fun q => ⟨_, N0, _, rfl, _, NT, by omega, fun h1 q1 => ⟨rfl, ?_⟩⟩, fun q => ⟨fun q2 => ⟨_, N0, _, rfl, _, NT, by omega, fun h1 q1 => ⟨rfl, ?_⟩⟩, fun q2 => ⟨_, N0, _, rfl, _, NT, by omega, fun h1 q1 => ⟨rfl, ?_⟩⟩⟩⟩
  · rw [q1, ht, if_pos q, s2]
  · rw [q1, ht, if_neg q, if_pos q2, s2]
  · rw [q1, ht, if_neg q, if_neg q2, s2]
end KEE
