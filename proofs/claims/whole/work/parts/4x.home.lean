/-! A house of the text -/
def flagsR (ζ : Zs) (i : Nat) : Nat → Bool → Vs → St → Bool × Vs × St
  | 0, b, υ, σ => (b, υ, σ)
  | m + 1, b, υ, σ => if b = false then (b, υ, σ) else if isFlagF υ = true then flagsR ζ i m (flagF ζ υ σ i).1 (flagF ζ υ σ i).2.1 (flagF ζ υ σ i).2.2 else (b, υ, σ)
def homeE (r : Bool × Vs × St) (i : Nat) : Bool × Vs × St := (r.1, r.2.1, setI (if r.2.2.2 3 i = 1 then setR r.2.2 2 (upd (r.2.2.2 2) i 0) else r.2.2) 0 (r.2.2.1 0 + 1))
def homeF (ζ : Zs) (υ : Vs) (σ : St) (n : Nat) : Bool × Vs × St :=
  let r1 := numToF ζ (skF ζ υ) 99
  let σ1 := setR σ 0 (upd (σ.2 0) n r1.1)
  let e := expF ζ r1.2 133
  let r2 := numToF ζ e.2 99
  if r1.1 = -1 then (false, r1.2, σ1) else if e.1 = false then (false, e.2, σ1)
  else homeE (flagsR ζ n 900 (decide (¬ r2.1 = -1)) r2.2 (setR σ1 1 (upd (σ1.2 1) n r2.1))) n
section HOM
variable {g : jG} {d : Nat} {h hs : jH} {w s : Nat} {ζ : Zs} {υ : Vs} {σ : St}
theorem ws_int (hd : apart s 7 w 14) {k : Nat} (hk : k < 3) (v : Int32) : jset (ws h w s υ σ) s (.inr (6, [.int (σ.1 0), .int (σ.1 1), .int (σ.1 2), .ref (s + 1), .ref (s + 2), .ref (s + 3), .ref (s + 4), .ref (s + 5), .ref (s + 6)].set k (.int v))) = ws h w s υ (setI σ k v) := by
  unfold ws vput
  unfold apart at hd
  rw [← jset_comm (h := jset (sput h s σ) w (vobj w υ)) (a := s) (by omega), ← jset_comm (h := sput h s σ) (a := s) (by omega), sput_int h s k hk]
theorem home_end {i : Nat} (hd : apart s 7 w 14) (hi : i < 7) {b : Bool} {F : Bool × Vs × St} (e : homeE (b, υ, σ) i = F) : J g mX7_home (d + 1) hs (jPi (fun r h' => r = bI F.1 ∧ h' = ws h w s F.2.1 F.2.2) no2) 122 [(1, .ref s), (2, .int (nI i)), (3, .int (bI b))] [] (ws h w s υ σ) := by
  have S1 := fun σ : St => ws_S (h := h) (υ := υ) (σ := σ) hd
  have ei : (nI i).toNatClampNeg = i := nI_clamp (by omega)
  have v1 : vp_in (nI i) 7 := vp_in_nI hi (by decide)
  have k139 : ∀ τ : St, τ.1 0 = σ.1 0 → (if σ.2 3 i = 1 then setR σ 2 (upd (σ.2 2) i 0) else σ) = τ → J g mX7_home (d + 1) hs (jPi (fun r h' => r = bI F.1 ∧ h' = ws h w s F.2.1 F.2.2) no2) 139 [(1, .ref s), (3, .int (bI b))] [] (ws h w s υ τ) := by
    intro τ h0 ht
    refine bX7_home_139 ⟨_, (S1 _).1, _, rfl, _, (S1 _).1, Nat.le_of_ble_eq_true rfl, fun h1 q1 => ⟨bI_01 b, ?_⟩⟩
    replace q1 := q1.trans (ws_int hd (k := 0) (by decide) _)
    rw [← e, homeE]
    refine ⟨rfl, ?_⟩
    rw [q1]
    show _ = ws h w s υ (setI (if σ.2 3 i = 1 then setR σ 2 (upd (σ.2 2) i 0) else σ) 0 (σ.1 0 + 1))
    rw [ht, h0]
  refine bX7_home_122 ⟨_, (S1 _).1, _, rfl, _, _, (S1 _).2.2.2.2.1, v1, ?_⟩
  rw [ei]
  refine ⟨fun q => ⟨_, (S1 _).1, _, rfl, _, _, (S1 _).2.2.2.1, v1, fun h1 q1 => ?_⟩, fun q => k139 σ rfl (if_neg q)⟩
  replace q1 := q1.trans (ws_set (k := 2) hd (by decide) _)
  rw [q1]
  exact k139 _ rfl (if_pos q)
theorem home_loop {i : Nat} (hd : apart s 7 w 14) (H : ZAt h (w + 9) ζ) (hi : i < 7) {F : Bool × Vs × St} : ∀ m j b υ σ, 900 = j + m → homeE (flagsR ζ i m b υ σ) i = F →
    J g mX7_home (d + 4) hs (jPi (fun r h' => r = bI F.1 ∧ h' = ws h w s F.2.1 F.2.2) no2) 90 [(0, .ref w), (1, .ref s), (2, .int (nI i)), (3, .int (bI b)), (4, .int (nI j))] [] (ws h w s υ σ) := by
  intro m
  induction m with
  | zero =>
    intro j b υ σ hj e
    have : j = 900 := by omega
    subst this
    exact bX7_home_90 ⟨fun q => absurd q (by decide), fun _ => home_end hd hi e⟩
  | succ m ih =>
    intro j b υ σ hj e
    refine bX7_home_90 ⟨fun _ => ⟨fun q => ?_, fun q => ⟨_, vput_0, c_isFlag.pi (fun r h' hr => ?_) (fun E h' f => f.elim)⟩⟩, fun q => absurd (nI_lt (a := j) (b := 900) (by omega) (by decide)) q⟩
    · rw [flagsR, if_pos ((bI_0 rfl).1.mp q)] at e
      exact home_end hd hi e
    · rw [flagsR, if_neg (by rw [(bI_0 rfl).2.mp q]; decide)] at e
      obtain ⟨rfl, rfl⟩ := hr
      refine ⟨fun q2 => ?_, fun q2 => ⟨_, vput_0, (c_flag hd H hi).pi (fun r h' hr => ?_) (fun E h' f => f.elim)⟩⟩
      · rw [if_neg (by rw [(bI_0 rfl).1.mp q2]; decide)] at e
        exact home_end hd hi e
      · rw [if_pos ((bI_0 rfl).2.mp q2)] at e
        obtain ⟨rfl, rfl⟩ := hr
        rw [nI_1]
        exact ih (j + 1) _ _ _ (by omega) e
theorem upd_at (f : Nat → Int32) (n : Nat) (v : Int32) : upd f n v n = v := by simp [upd]
theorem c_home {n : Nat} (hd : apart s 7 w 14) (H : ZAt h (w + 9) ζ) (hn : σ.1 0 = nI n) (hn7 : n < 7) : Con g mX7_home (d + 4) [.ref w, .ref s] (ws h w s υ σ) (jPi (fun r h' => r = bI (homeF ζ υ σ n).1 ∧ h' = ws h w s (homeF ζ υ σ n).2.1 (homeF ζ υ σ n).2.2) no2) := by
  have Z := fun σ : St => ws_Z (σ := σ) hd H
  have S1 := fun (υ : Vs) (σ : St) => ws_S (h := h) (υ := υ) (σ := σ) hd
  have ei : (nI n).toNatClampNeg = n := nI_clamp (by omega)
  have v1 : vp_in (nI n) 7 := vp_in_nI hn7 (by decide)
  refine con_of km_X7_home.1.2.2.2.2 (Nat.le_of_ble_eq_true rfl) rfl (bX7_home_0 ⟨_, (S1 _ _).1, _, rfl, ?_⟩)
  rw [hn, ei]
  refine ⟨fun q => absurd q (nI_pos (by omega)), fun _ => ⟨fun _ => ⟨_, vput_0, (c_skip (Z σ)).pv (fun h' z => ?_) (fun E h' f => f.elim)⟩, fun q => absurd (nI_lt (a := n) (b := 7) hn7 (by decide)) q⟩⟩
  subst z
  refine ⟨_, (S1 _ _).1, _, rfl, _, vput_0, (c_numberTo (Z σ)).pi (fun r h' hr => ?_) (fun E h' f => f.elim)⟩
  obtain ⟨rfl, rfl⟩ := hr
  refine ⟨_, _, (S1 _ _).2.1, v1, fun h1 q1 => ?_⟩
  replace q1 := q1.trans (ws_set (k := 0) hd (by decide) _)
  subst q1
  refine ⟨_, (S1 _ _).1, _, rfl, _, _, (S1 _ _).2.1, v1, ?_⟩
  show (upd (σ.2 0) n (numToF ζ (skF ζ υ) 99).1 n = -1 → _) ∧ (¬ upd (σ.2 0) n (numToF ζ (skF ζ υ) 99).1 n = -1 → _)
  rw [upd_at]
  refine ⟨fun q => ?_, fun q => ⟨_, vput_0, (c_expect (Z _)).pi (fun r h' hr => ?_) (fun E h' f => f.elim)⟩⟩
  · simp only [homeF, q, if_true]
    exact ⟨rfl, by rw [← q]⟩
  · obtain ⟨rfl, rfl⟩ := hr
    refine ⟨fun q2 => ?_, fun q2 => ⟨_, (S1 _ _).1, _, rfl, _, vput_0, (c_numberTo (Z _)).pi (fun r h' hr => ?_) (fun E h' f => f.elim)⟩⟩
    · simp only [homeF, q, if_false, (bI_0 rfl).1.mp q2, if_true]
      exact ⟨rfl, rfl⟩
    · obtain ⟨rfl, rfl⟩ := hr
      refine ⟨_, _, (S1 _ _).2.2.1, v1, fun h1 q1 => ?_⟩
      replace q1 := q1.trans (ws_set (k := 1) hd (by decide) _)
      subst q1
      refine ⟨_, (S1 _ _).1, _, rfl, _, _, (S1 _ _).2.2.1, v1, ?_⟩
      have ef : homeF ζ υ σ n = homeE (flagsR ζ n 900 (decide (¬ (numToF ζ (expF ζ (numToF ζ (skF ζ υ) 99).2 133).2 99).1 = -1)) (numToF ζ (expF ζ (numToF ζ (skF ζ υ) 99).2 133).2 99).2 (setR (setR σ 0 (upd (σ.2 0) n (numToF ζ (skF ζ υ) 99).1)) 1 (upd ((setR σ 0 (upd (σ.2 0) n (numToF ζ (skF ζ υ) 99).1)).2 1) n (numToF ζ (expF ζ (numToF ζ (skF ζ υ) 99).2 133).2 99).1))) n := by
        simp only [homeF, q, if_false, (bI_0 rfl).2.mp q2, Bool.true_eq_false]
      show (upd (σ.2 1) n (numToF ζ (expF ζ (numToF ζ (skF ζ υ) 99).2 133).2 99).1 n = -1 → _) ∧ (¬ upd (σ.2 1) n (numToF ζ (expF ζ (numToF ζ (skF ζ υ) 99).2 133).2 99).1 n = -1 → _)
      rw [upd_at, ef]
      refine ⟨fun q3 => ?_, fun q3 => ?_⟩
      · have := home_loop (g := g) (d := d) (hs := ws h w s υ σ) hd H hn7 (F := homeE (flagsR ζ n 900 (decide (¬ (numToF ζ (expF ζ (numToF ζ (skF ζ υ) 99).2 133).2 99).1 = -1)) (numToF ζ (expF ζ (numToF ζ (skF ζ υ) 99).2 133).2 99).2 (setR (setR σ 0 (upd (σ.2 0) n (numToF ζ (skF ζ υ) 99).1)) 1 (upd ((setR σ 0 (upd (σ.2 0) n (numToF ζ (skF ζ υ) 99).1)).2 1) n (numToF ζ (expF ζ (numToF ζ (skF ζ υ) 99).2 133).2 99).1))) n) 900 0 false _ _ rfl (by rw [show decide (¬ (numToF ζ (expF ζ (numToF ζ (skF ζ υ) 99).2 133).2 99).1 = -1) = false from by simp [q3]])
        exact this
      · have := home_loop (g := g) (d := d) (hs := ws h w s υ σ) hd H hn7 (F := homeE (flagsR ζ n 900 (decide (¬ (numToF ζ (expF ζ (numToF ζ (skF ζ υ) 99).2 133).2 99).1 = -1)) (numToF ζ (expF ζ (numToF ζ (skF ζ υ) 99).2 133).2 99).2 (setR (setR σ 0 (upd (σ.2 0) n (numToF ζ (skF ζ υ) 99).1)) 1 (upd ((setR σ 0 (upd (σ.2 0) n (numToF ζ (skF ζ υ) 99).1)).2 1) n (numToF ζ (expF ζ (numToF ζ (skF ζ υ) 99).2 133).2 99).1))) n) 900 0 true _ _ rfl (by rw [show decide (¬ (numToF ζ (expF ζ (numToF ζ (skF ζ υ) 99).2 133).2 99).1 = -1) = true from by simp [q3]])
        exact this
theorem c_home7 (hd : apart s 7 w 14) (H : ZAt h (w + 9) ζ) (hn : σ.1 0 = nI 7) : Con g mX7_home (d + 4) [.ref w, .ref s] (ws h w s υ σ) (jPi (fun r h' => r = 0 ∧ h' = ws h w s (failF ζ υ 4) σ) no2) := by
  have Z := fun σ : St => ws_Z (σ := σ) hd H
  refine con_of km_X7_home.1.2.2.2.2 (Nat.le_of_ble_eq_true rfl) rfl (bX7_home_0 ⟨_, (ws_S hd).1, _, rfl, ?_⟩)
  rw [hn]
  refine ⟨fun q => absurd q (by decide), fun _ => ⟨fun q => absurd q (by decide), fun _ => bX7_home_15 ⟨_, vput_0, (c_fail (Z σ)).pi (fun r h' hr => ?_) (fun E h' f => f.elim)⟩⟩⟩
  exact ⟨Or.inl hr.1, hr.1, hr.2⟩
end HOM
