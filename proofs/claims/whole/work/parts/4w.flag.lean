/-! What is said of a household: the teller at w writes the street at s -/
def flagF (ζ : Zs) (υ : Vs) (σ : St) (i : Nat) : Bool × Vs × St :=
  if υ.1 3 = 140 then (true, skF ζ υ, setR σ 3 (upd (σ.2 3) i 1))
  else (decide (¬ (numToF ζ (skF ζ υ) (if υ.1 3 = 139 then 20 else 999)).1 = -1), (numToF ζ (skF ζ υ) (if υ.1 3 = 139 then 20 else 999)).2,
    setR σ (if υ.1 3 = 131 then 2 else if υ.1 3 = 138 then 4 else 5) (upd (σ.2 (if υ.1 3 = 131 then 2 else if υ.1 3 = 138 then 4 else 5)) i (numToF ζ (skF ζ υ) (if υ.1 3 = 139 then 20 else 999)).1))
section FLG
variable {g : jG} {d : Nat} {h hs : jH} {w s : Nat} {ζ : Zs} {υ : Vs} {σ : St}
def ws (h : jH) (w s : Nat) (υ : Vs) (σ : St) : jH := vput (sput h s σ) w υ
theorem ws_S (hd : apart s 7 w 14) : SAt (ws h w s υ σ) s σ := (sput_SAt h s σ).of (fun q h1 h2 => vput_ne (by unfold apart at hd; omega) (by unfold apart at hd; omega))
theorem ws_Z (hd : apart s 7 w 14) (H : ZAt h (w + 9) ζ) : ZAt (sput h s σ) (w + 9) ζ := fun j hj => (sput_out (by unfold apart at hd; omega)).trans (H j hj)
theorem ws_set (hd : apart s 7 w 14) {k : Nat} (hk : k < 6) (f : Nat → Int32) : jset (ws h w s υ σ) (s + (k + 1)) (.inl (0, (7, .inl f))) = ws h w s υ (setR σ k f) := by
  unfold ws vput
  unfold apart at hd
  rw [← jset_comm (h := jset (sput h s σ) w (vobj w υ)) (a := s + (k + 1)) (by omega), ← jset_comm (h := sput h s σ) (a := s + (k + 1)) (by omega), sput_row h s k hk]
theorem c_flag {i : Nat} (hd : apart s 7 w 14) (H : ZAt h (w + 9) ζ) (hi : i < 7) : Con g mX7_flag (d + 3) [.ref w, .ref s, .int (nI i)] (ws h w s υ σ) (jPi (fun r h' => r = bI (flagF ζ υ σ i).1 ∧ h' = ws h w s (flagF ζ υ σ i).2.1 (flagF ζ υ σ i).2.2) no2) := by
  have Z := fun σ : St => ws_Z (σ := σ) hd H
  have ei : (nI i).toNatClampNeg = i := nI_clamp (by omega)
  have v1 : vp_in (nI i) 7 := vp_in_nI hi (by decide)
  refine con_of km_X7_flag.1.2.2.2.2 (Nat.le_of_ble_eq_true rfl) rfl (bX7_flag_0 ⟨_, vput_0, _, rfl, _, vput_0, (c_skip (Z σ)).pv (fun h' z => ?_) (fun E h' f => f.elim)⟩)
  subst z
  have S1 := fun υ : Vs => ws_S (h := h) (υ := υ) (σ := σ) hd
  have k41 : ∀ x, ¬ υ.1 3 = 140 → x = (if υ.1 3 = 139 then (20 : Int32) else 999) → J g mX7_flag (d + 3) (ws h w s υ σ) (jPi (fun r h' => r = bI (flagF ζ υ σ i).1 ∧ h' = ws h w s (flagF ζ υ σ i).2.1 (flagF ζ υ σ i).2.2) no2) 41 [(1, .ref s), (2, .int (nI i)), (3, .int (υ.1 3))] [.int x, .ref w] (vput (sput h s σ) w (skF ζ υ)) := by
    intro x h140 hx
    refine bX7_flag_41 ⟨_, vput_0, (c_numberTo (Z σ)).pi (fun r h' hr => ?_) (fun E h' f => f.elim)⟩
    obtain ⟨rfl, rfl⟩ := hr
    have k78 : ∀ k : Nat, k < 6 → k = (if υ.1 3 = 131 then 2 else if υ.1 3 = 138 then 4 else 5) → J g mX7_flag (d + 3) (ws h w s υ σ) (jPi (fun r h' => r = bI (flagF ζ υ σ i).1 ∧ h' = ws h w s (flagF ζ υ σ i).2.1 (flagF ζ υ σ i).2.2) no2) 78 [(2, .int (nI i)), (4, .int (numToF ζ (skF ζ υ) x).1)] [.ref (s + (k + 1))] (ws h w s (numToF ζ (skF ζ υ) x).2 σ) := by
      intro k hk ek
      have hrow : (ws h w s (numToF ζ (skF ζ υ) x).2 σ).1 (s + (k + 1)) = some (srow (σ.2 k)) := by
        have S := S1 (numToF ζ (skF ζ υ) x).2
        clear ek
        rcases (by omega : k = 0 ∨ k = 1 ∨ k = 2 ∨ k = 3 ∨ k = 4 ∨ k = 5) with rfl | rfl | rfl | rfl | rfl | rfl
        · exact S.2.1
        · exact S.2.2.1
        · exact S.2.2.2.1
        · exact S.2.2.2.2.1
        · exact S.2.2.2.2.2.1
        · exact S.2.2.2.2.2.2
      refine bX7_flag_78 ⟨_, _, hrow, v1, fun h1 q1 => ?_⟩
      replace q1 := q1.trans (ws_set hd hk _)
      rw [ei] at q1
      have ef : flagF ζ υ σ i = (decide (¬ (numToF ζ (skF ζ υ) x).1 = -1), (numToF ζ (skF ζ υ) x).2, setR σ k (upd (σ.2 k) i (numToF ζ (skF ζ υ) x).1)) := by
        rw [flagF, if_neg h140, ← hx, ← ek]
      rw [ef]
      refine ⟨fun q => ⟨?_, q1⟩, fun q => ⟨?_, q1⟩⟩
      · simp [q, bI]
      · simp [q, bI]
    refine ⟨fun q => ⟨_, (S1 _).1, _, rfl, k78 2 (by decide) (by rw [if_pos q])⟩, fun q => ⟨fun q2 => ⟨_, (S1 _).1, _, rfl, k78 4 (by decide) (by rw [if_neg q, if_pos q2])⟩, fun q2 => ⟨_, (S1 _).1, _, rfl, k78 5 (by decide) (by rw [if_neg q, if_neg q2])⟩⟩⟩
  refine ⟨fun q => ⟨_, (S1 _).1, _, rfl, _, _, (S1 _).2.2.2.2.1, v1, fun h1 q1 => ?_⟩, fun q => ⟨fun q2 => k41 20 q (by rw [if_pos q2]), fun q2 => k41 999 q (by rw [if_neg q2])⟩⟩
  replace q1 := q1.trans (ws_set (k := 3) hd (by decide) _)
  rw [ei] at q1
  rw [flagF, if_pos q]
  exact ⟨rfl, q1⟩
end FLG
