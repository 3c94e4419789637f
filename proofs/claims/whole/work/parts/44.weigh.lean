theorem ix_nI {n : Nat} (h : n < 2 ^ 31) : ix (nI n) = n := nI_clamp h
theorem nI_dec (n : Nat) : nI (n + 1) + (-1) = nI n := by
  rw [← Int32.sub_eq_add_neg]
  exact nI_pred n
theorem tI_add {a b : Int32} (h : -2147483648 ≤ a.toInt + b.toInt ∧ a.toInt + b.toInt < 2147483648) : (a + b).toInt = a.toInt + b.toInt := by
  rw [Int32.toInt_add]
  exact Int.bmod_eq_of_le (by omega) (by omega)
theorem tI_sub {a b : Int32} (h : -2147483648 ≤ a.toInt - b.toInt ∧ a.toInt - b.toInt < 2147483648) : (a - b).toInt = a.toInt - b.toInt := by
  rw [Int32.toInt_sub]
  exact Int.bmod_eq_of_le (by omega) (by omega)
theorem tI_mul {a b : Int32} (h : -2147483648 ≤ a.toInt * b.toInt ∧ a.toInt * b.toInt < 2147483648) : (a * b).toInt = a.toInt * b.toInt := by
  rw [Int32.toInt_mul]
  exact Int.bmod_eq_of_le (by omega) (by omega)
section WEI
variable {g : jG} {d : Nat}
theorem piles_push {pl : Nat → Int32} {s : List Int32} {v : Int32} (hp : piles pl s) : piles (upd pl s.length v) (v :: s) := by
  intro j hj
  simp only [List.length_cons] at hj ⊢
  by_cases h : j = s.length
  · subst h
    simp [upd]
  · rw [show s.length + 1 - 1 - j = (s.length - 1 - j) + 1 from by omega, List.getElem?_cons_succ, hp j (by omega)]
    simp only [upd, h, if_false]
theorem piles_tl {pl : Nat → Int32} {s : List Int32} {v : Int32} (hp : piles pl (v :: s)) : piles pl s := by
  intro j hj
  have h := hp j (by simp; omega)
  simp only [List.length_cons] at h
  rw [show s.length + 1 - 1 - j = (s.length - 1 - j) + 1 from by omega, List.getElem?_cons_succ] at h
  exact h
theorem piles_hd {pl : Nat → Int32} {s : List Int32} {v : Int32} (hp : piles pl (v :: s)) : pl s.length = v := by
  have h := hp s.length (by simp)
  simp at h
  exact h.symm
theorem upd_upd (f : Nat → Int32) (i : Nat) (a b : Int32) : upd (upd f i a) i b = upd f i b := by
  funext j
  by_cases hj : j = i <;> simp [upd, hj]
def Wei (h : jH) (b p : Nat) (w : Nat → Int32) (code : List Int32) : Prop := h.1 b = some (.inr (5, [.ref (b + 1), .ref (b + 2)])) ∧ h.1 (b + 1) = some (.inl (0, (7, .inl w))) ∧ (∃ pl, h.1 (b + 2) = some (.inl (0, (64, .inl pl)))) ∧ h.1 p = some (lcell code) ∧ ¬ p = b + 2
theorem weigh_loop {h0 hs : jH} {b p : Nat} {w : Nat → Int32} {code : List Int32} {v : Int32} (H : Wei h0 b p w code) (hc : code.length < 2 ^ 30) :
    ∀ (rest done s : List Int32) (pl : Nat → Int32), code = done ++ rest → piles pl s → s.length ≤ 64 → evC w rest s = some [v] →
      J g mX5_weigh (d + 2) hs (jPi (fun r h' => r = v ∧ ∃ pl', h' = jset h0 (b + 2) (.inl (0, (64, .inl pl')))) no2) 4 [(0, .ref b), (1, .ref p), (2, .int (nI s.length)), (3, .int (nI done.length))] [] (jset h0 (b + 2) (.inl (0, (64, .inl pl)))) := by
  obtain ⟨H1, H2, ⟨pl0, H3⟩, H4, H5⟩ := H
  intro rest
  induction rest with
  | nil =>
    intro done s pl hd hp hs64 he
    simp only [List.append_nil] at hd
    subst hd
    simp only [evC, Option.some.injEq] at he
    subst he
    refine bX5_weigh_4 ⟨_, _, (jset_ne H5).trans H4, ⟨_, rfl⟩, fun c => absurd c (nI_nlt (Nat.le_refl _) (by omega)), fun _ => ⟨fun c => ?_, fun _ => ⟨_, (jset_ne (by omega)).trans H1, _, rfl, _, _, jset_at _ _ _, vp_in_nI (n := 0) (by decide) (by decide), ?_, ?_⟩⟩⟩
    · exact absurd c (by simp only [List.length_singleton]; decide)
    · exact piles_hd hp
    · exact ⟨pl, rfl⟩
  | cons c cs ih =>
    intro done s pl hd hp hs64 he
    have hl : done.length < code.length := by rw [hd]; simp
    have hg : code.getD done.length 0 = c := by rw [hd]; simp
    have hix : (nI done.length).toNatClampNeg = done.length := nI_clamp (by omega)
    have hsx : ∀ n, n ≤ 64 → (nI n).toNatClampNeg = n := fun n hn => nI_clamp (by omega)
    have nx : nI done.length + 1 = nI (done ++ [c]).length := by rw [nI_1]; simp
    have B1 : ∀ (q : Nat → Int32), (jset h0 (b + 2) (.inl (0, (64, .inl q)))).1 b = some (.inr (5, [.ref (b + 1), .ref (b + 2)])) := fun q => (jset_ne (by omega)).trans H1
    have B2 : ∀ (q : Nat → Int32), (jset h0 (b + 2) (.inl (0, (64, .inl q)))).1 (b + 1) = some (.inl (0, (7, .inl w))) := fun q => (jset_ne (by omega)).trans H2
    have B4 : ∀ (q : Nat → Int32), (jset h0 (b + 2) (.inl (0, (64, .inl q)))).1 p = some (lcell code) := fun q => (jset_ne H5).trans H4
    simp only [evC] at he
    have hnew : code = (done ++ [c]) ++ cs := by rw [hd]; simp
    cases hS : evS w c s with
    | none => rw [hS] at he; exact absurd he (by simp)
    | some s' =>
      rw [hS] at he
      replace he : evC w cs s' = some [v] := he
      refine bX5_weigh_4 ⟨_, _, B4 pl, ⟨_, rfl⟩, fun _ => ⟨_, _, B4 pl, vp_in_nI hl (by omega), ?_⟩, fun c' => absurd (nI_lt hl (by omega)) c'⟩
      simp only [hix, hg]
      -- the two ways on
      have push : (c - 1000 < 0 ∨ (¬ c - 1000 < 128 ∧ ¬ 134 < c - 1000)) → J g mX5_weigh (d + 2) hs (jPi (fun r h' => r = v ∧ ∃ pl', h' = jset h0 (b + 2) (.inl (0, (64, .inl pl')))) no2) 40 [(0, .ref b), (1, .ref p), (2, .int (nI s.length)), (3, .int (nI done.length)), (4, .int (c - 1000))] [] (jset h0 (b + 2) (.inl (0, (64, .inl pl)))) := by
        intro hk
        have hlen : s.length < 64 := by
          by_cases q : s.length < 64
          · exact q
          · simp only [evS, hk, if_true, q, if_false] at hS
            exact absurd hS (by simp)
        simp only [evS, hk, hlen, if_true, Option.some.injEq] at hS
        have fin : ∀ x : Int32, x = (if c - 1000 < 0 then c else w (ix (c - 1000 - 128))) → J g mX5_weigh (d + 2) hs (jPi (fun r h' => r = v ∧ ∃ pl', h' = jset h0 (b + 2) (.inl (0, (64, .inl pl')))) no2) 78 [(0, .ref b), (1, .ref p), (2, .int (nI s.length)), (3, .int (nI done.length))] [.int x, .int (nI s.length), .ref (b + 2)] (jset h0 (b + 2) (.inl (0, (64, .inl pl)))) := by
          intro x hx
          refine bX5_weigh_78 ⟨_, _, jset_at _ _ _, vp_in_nI hlen (by decide), fun h5 e5 => ?_⟩
          rw [jset_jset, hsx _ (by omega)] at e5
          rw [e5, nx, nI_1]
          have := ih (done ++ [c]) s' (upd pl s.length x) hnew (by rw [← hS, hx]; exact piles_push hp) (by rw [← hS]; simp; omega) he
          rw [← hS] at this
          exact this
        refine bX5_weigh_40 ⟨_, B1 pl, _, rfl, _, _, jset_at _ _ _, ⟨_, rfl⟩, fun _ => ⟨_, B1 pl, _, rfl, fun q => ⟨_, _, B4 pl, vp_in_nI hl (by omega), ?_⟩, fun q => ⟨_, B1 pl, _, rfl, _, _, B2 pl, ?_, ?_⟩⟩, fun q => absurd (nI_lt hlen (by decide)) q⟩
        · rw [hix, hg]
          exact fin c (by rw [if_pos q])
        · rcases hk with hk | ⟨k1, k2⟩
          · exact absurd hk q
          · rw [vp_in_iff]
            simp only [Int32.lt_iff_toInt_lt, Int32.not_lt, Int32.le_iff_toInt_le] at k1 k2
            have e1 : (128 : Int32).toInt = 128 := rfl
            have e2 : (134 : Int32).toInt = 134 := rfl
            rw [e1] at k1
            rw [e2] at k2
            have e3 : (c - 1000 - 128).toInt = (c - 1000).toInt - 128 := tI_sub (by rw [e1]; omega)
            rw [e3]
            omega
        · exact fin _ (by rw [if_neg q]; rfl)
      have other : ¬ (c - 1000 < 0 ∨ (¬ c - 1000 < 128 ∧ ¬ 134 < c - 1000)) → J g mX5_weigh (d + 2) hs (jPi (fun r h' => r = v ∧ ∃ pl', h' = jset h0 (b + 2) (.inl (0, (64, .inl pl')))) no2) 85 [(0, .ref b), (1, .ref p), (2, .int (nI s.length)), (3, .int (nI done.length)), (4, .int (c - 1000))] [] (jset h0 (b + 2) (.inl (0, (64, .inl pl)))) := by
        intro hk
        simp only [evS, hk, if_false] at hS
        refine bX5_weigh_85 ⟨fun q => ?_, fun q => ?_⟩
        · rw [if_pos q] at hS
          cases s with
          | nil => exact absurd hS (by simp)
          | cons x r =>
            replace hS : (1 - x) :: r = s' := Option.some.inj hS
            subst hS
            have hr : r.length < 64 := by simp at hs64; omega
            have hm : nI (x :: r).length - 1 = nI r.length := nI_pred _
            refine ⟨fun q2 => absurd q2 (nI_nlt (a := (x :: r).length) (b := 1) (by simp) (by simp; omega)), fun _ => ⟨_, B1 pl, _, rfl, _, B1 pl, _, rfl, _, _, jset_at _ _ _, by rw [hm]; exact vp_in_nI hr (by decide), _, _, jset_at _ _ _, by rw [hm]; exact vp_in_nI hr (by decide), fun h5 e5 => ?_⟩⟩
            rw [jset_jset, hm, hsx _ (by omega), piles_hd hp] at e5
            rw [e5, nx]
            exact ih (done ++ [c]) ((1 - x) :: r) (upd pl r.length (1 - x)) hnew (piles_push (piles_tl hp)) (by simp at hs64 ⊢; omega) he
        · rw [if_neg q] at hS
          match s, hS with
          | x :: y :: r, hS =>
            replace hS : evJ (c - 1000) y x :: r = s' := Option.some.inj hS
            subst hS
            have hr : r.length < 63 := by simp at hs64; omega
            have hm : nI (x :: y :: r).length + (-1) = nI (y :: r).length := nI_dec _
            have hm2 : nI (y :: r).length - 1 = nI r.length := nI_pred _
            have hl1 : (y :: r).length < 64 := by simp; omega
            refine ⟨fun q2 => absurd q2 (nI_nlt (a := (x :: y :: r).length) (b := 2) (by simp) (by simp; omega)), fun _ => ⟨_, B1 pl, _, rfl, _, B1 pl, _, rfl, _, _, jset_at _ _ _, by rw [hm, hm2]; exact vp_in_nI (by omega) (by decide), _, B1 pl, _, rfl, _, _, jset_at _ _ _, by rw [hm]; exact vp_in_nI hl1 (by decide), _, B1 pl, ?_⟩⟩
            rw [hm, hm2, hsx _ (by omega), hsx _ (by omega), piles_hd hp, piles_hd (piles_tl hp)]
            refine c_join.pi (fun z h' hz => ?_) (fun E h' f => f.elim)
            obtain ⟨rfl, rfl⟩ := hz
            refine ⟨_, _, jset_at _ _ _, vp_in_nI (by omega) (by decide), fun h5 e5 => ?_⟩
            rw [jset_jset] at e5
            rw [e5, nx]
            exact ih (done ++ [c]) (evJ (c - 1000) y x :: r) (upd pl r.length (evJ (c - 1000) y x)) hnew (piles_push (piles_tl (piles_tl hp))) (by simp at hs64 ⊢; omega) he
          | [], hS => exact absurd hS (by simp)
          | [x], hS => exact absurd hS (by simp)
      refine ⟨fun q => push (Or.inl q), fun q => ⟨fun q2 => ?_, fun q2 => ⟨fun q3 => ?_, fun q3 => push (Or.inr ⟨q2, q3⟩)⟩⟩⟩
      · exact other (fun e => e.elim q (fun e => e.1 q2))
      · exact other (fun e => e.elim q (fun e => e.2 q3))
theorem c_weigh {h : jH} {b p : Nat} {w : Nat → Int32} {code : List Int32} {v : Int32} (H : Wei h b p w code) (hc : code.length < 2 ^ 30) (he : evC w code [] = some [v]) : Con g mX5_weigh (d + 2) [.ref b, .ref p] h (jPi (fun r h' => r = v ∧ ∃ pl', h' = jset h (b + 2) (.inl (0, (64, .inl pl')))) no2) := by
  refine con_of km_X5_weigh.1.2.2.2.2 (Nat.le_of_ble_eq_true rfl) rfl (bX5_weigh_0 ?_)
  obtain ⟨pl, hpl⟩ := H.2.2.1
  have h0 := weigh_loop (g := g) (d := d) (hs := h) H hc code [] [] pl rfl (fun j hj => absurd hj (by simp)) (by simp) he
  have h1 : jset h (b + 2) (.inl (0, (64, .inl pl))) = h := by
    refine Prod.ext (funext fun q => ?_) rfl
    by_cases hq : q = b + 2
    · rw [hq]; exact (jset_at _ _ _).trans hpl.symm
    · exact jset_ne hq
  rw [h1] at h0
  exact h0
end WEI
