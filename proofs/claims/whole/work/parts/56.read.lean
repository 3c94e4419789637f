/-! A text is cut and read -/
def HNum (ζ : Zs) : Prop := ∀ p, ζ.2 0 p = 2 → ∃ j, j < 1000 ∧ ζ.2 1 p = nI j
theorem HNum.add {ζ : Zs} (H : HNum ζ) {m : Nat} {k v x : Int32} (h : k = 2 → ∃ j, j < 1000 ∧ v = nI j) : HNum (zAdd ζ m k v x) := by
  intro p hp
  show ∃ j, j < 1000 ∧ upd (ζ.2 1) m v p = nI j
  replace hp : upd (ζ.2 0) m k p = 2 := hp
  unfold upd at hp ⊢
  by_cases e : p = m
  · rw [if_pos e] at hp ⊢
    exact h hp
  · rw [if_neg e] at hp ⊢
    exact H p hp
theorem dig_in {x : Int32} (h : isDig x = true) : ∃ j, j < 10 ∧ x = nI (48 + j) := by
  have h' := of_decide_eq_true h
  obtain ⟨j, e, a, b⟩ := nI_mid (a := 48) (b := 57) (by omega) (by omega) h'.1 h'.2
  exact ⟨j - 48, by omega, by rw [e]; congr 1; omega⟩
theorem dig10 : ∀ v, v < 100 → ∀ j, j < 10 → jmin (nI v * 10 + nI (48 + j) - 48) 1000 = nI (10 * v + j) := by decide +kernel
theorem dig1 : ∀ j, j < 10 → nI (48 + j) - 48 = nI j := by decide +kernel
/-- digits in a row: a number of at most three is below 1000 -/
theorem digR_num (b : Nat → Int32) : ∀ m j v i, i < j → j ≤ i + 3 → v < 10 ^ (j - i) → (digR b m j (nI v)).1 - i ≤ 3 → ∃ u, u < 1000 ∧ (digR b m j (nI v)).2 = nI u := by
  intro m
  induction m with
  | zero =>
    intro j v i h1 h2 h3 _
    refine ⟨v, ?_, rfl⟩
    have : j - i = 1 ∨ j - i = 2 ∨ j - i = 3 := by omega
    rcases this with e | e | e <;> rw [e] at h3 <;> omega
  | succ m ih =>
    intro j v i h1 h2 h3 h4
    have hv : v < 1000 := by
      have : j - i = 1 ∨ j - i = 2 ∨ j - i = 3 := by omega
      rcases this with e | e | e <;> rw [e] at h3 <;> omega
    unfold digR at h4 ⊢
    by_cases h : isDig (b j) = true
    · rw [if_pos h] at h4 ⊢
      have hle := (digR_le b m (j + 1) (jmin (nI v * 10 + b j - 48) 1000)).1
      have hj : j - i ≤ 2 := by omega
      obtain ⟨x, hx, ex⟩ := dig_in h
      have hv2 : v < 100 := by
        have : j - i = 1 ∨ j - i = 2 := by omega
        rcases this with e | e <;> rw [e] at h3 <;> omega
      rw [ex, dig10 v hv2 x hx] at h4 ⊢
      refine ih (j + 1) (10 * v + x) i (by omega) (by omega) ?_ h4
      have : j - i = 1 ∨ j - i = 2 := by omega
      have e2 : j + 1 - i = (j - i) + 1 := by omega
      rw [e2, Nat.pow_succ]
      omega
    · rw [if_neg h]
      exact ⟨v, hv, rfl⟩
theorem oneF_num (b : Nat → Int32) (e i : Nat) : (oneF b e i).1 = 2 → ∃ j, j < 1000 ∧ (oneF b e i).2.1 = nI j := by
  unfold oneF
  by_cases h : isDig (b i) = true
  · rw [if_pos h]
    dsimp only
    obtain ⟨x, hx, ex⟩ := dig_in h
    rw [ex, dig1 x hx]
    by_cases h3 : 3 < (digR b (e - (i + 1)) (i + 1) (nI x)).1 - i
    · rw [if_pos h3]
      exact fun k => absurd k (by decide)
    · intro _
      have e1 : i + 1 - i = 1 := by omega
      exact digR_num b (e - (i + 1)) (i + 1) x i (by omega) (by omega) (by rw [e1]; omega) (by omega)
  · rw [if_neg h]
    by_cases h2 : isLet (b i) = true
    · rw [if_pos h2]
      dsimp only
      intro _
      exact ⟨0, by decide, rfl⟩
    · rw [if_neg h2]
      dsimp only
      intro _
      exact ⟨0, by decide, rfl⟩
theorem cutR_num (b : Nat → Int32) (e : Nat) : ∀ f i ζ m, HNum ζ → ζ.1 = nI m → HNum (cutR b e f i ζ m).1 ∧ (cutR b e f i ζ m).1.1 = nI (cutR b e f i ζ m).2 := by
  intro f
  induction f with
  | zero => intro i ζ m H h; exact ⟨H, h⟩
  | succ f ih =>
    intro i ζ m H h
    unfold cutR
    split
    · split
      · exact ih _ _ _ H h
      · exact ih _ _ _ (H.add (oneF_num b e i)) rfl
    · exact ⟨H, h⟩
theorem cutR_le (b : Nat → Int32) (e : Nat) : ∀ f i ζ m, i ≤ e → m ≤ i → (cutR b e f i ζ m).2 ≤ e := by
  intro f
  induction f with
  | zero => intro i ζ m h1 h2; exact Nat.le_trans h2 h1
  | succ f ih =>
    intro i ζ m h1 h2
    unfold cutR
    split
    · rename_i hi
      split
      · exact ih _ _ _ (by omega) (by omega)
      · have := oneF_le b hi
        exact ih _ _ _ (by omega) (by omega)
    · show m ≤ e
      omega
theorem cutF_tok (b : Nat → Int32) {e : Nat} (he : e ≤ 900) {ζ : Zs} (H : HNum ζ) : HNum (cutF b e ζ) ∧ ∃ n, Tok (cutF b e ζ) n := by
  have h := cutR_num b e (e + 1) 0 (0, ζ.2) 0 H rfl
  have h2 := cutR_le b e (e + 1) 0 (0, ζ.2) 0 (Nat.zero_le _) (Nat.le_refl _)
  refine ⟨h.1.add (fun k => absurd k (by decide)), (cutR b e (e + 1) 0 (0, ζ.2) 0).2 + 1, rfl, by omega, by omega, ?_⟩
  rw [Nat.add_sub_cancel]
  show upd _ _ _ _ = _
  simp only [upd, if_true]
section MO2
variable {h : jH} {w a z : Nat} {υ : Vs} {ζ : Zs} {σ : St} {L : List va_E} {s : Nat}
theorem jnew_seg {e : va_E} {n : Nat} : jnew h e n = seg h h.2.1 [e] n := by
  refine Prod.ext (funext fun q => ?_) rfl
  by_cases h1 : q = h.2.1
  · subst h1
    have h2 : h.2.1 ≤ h.2.1 ∧ h.2.1 < h.2.1 + [e].length := ⟨Nat.le_refl _, Nat.lt_succ_self _⟩
    simp only [jnew, seg, if_true]
    rw [if_pos h2, Nat.sub_self]
    rfl
  · have h2 : ¬ (h.2.1 ≤ q ∧ q < h.2.1 + [e].length) := by simp; omega
    simp only [jnew, seg, h1, if_false]
    rw [if_neg h2]
theorem seg_jset {e : va_E} {q : Nat} (hq : q < a) : seg (jset h q e) a L s = jset (seg h a L s) q e := by
  refine Prod.ext (funext fun p => ?_) rfl
  by_cases h1 : p = q
  · subst h1
    have h2 : ¬ (a ≤ p ∧ p < a + L.length) := by omega
    simp only [jset, seg, if_true]
    rw [if_neg h2]
  · simp only [jset, seg, h1, if_false]
theorem seg_vput (hw : w + 13 < a) : seg (vput h w υ) a L s = vput (seg h a L s) w υ := by
  unfold vput
  rw [seg_jset hw, seg_jset (by omega)]
theorem seg_zput (hz : z + 4 ≤ a) : seg (zput h z ζ) a L s = zput (seg h a L s) z ζ := by
  refine Prod.ext (funext fun p => ?_) rfl
  unfold zput
  by_cases h1 : z ≤ p ∧ p < z + 4
  · have h2 : ¬ (a ≤ p ∧ p < a + L.length) := by omega
    simp only [seg, ov]
    rw [if_neg h2, if_pos h1, if_pos h1]
  · simp only [seg, ov]
    rw [if_neg h1, if_neg h1]
theorem vput_zput : vput (zput h (w + 9) ζ) w υ = zput (vput h w υ) (w + 9) ζ := by
  unfold vput zput
  rw [ov_jset (by omega), ov_jset (by omega)]
end MO2
section RD6
variable {g : jG} {d : Nat} {hb hs hb0 : jH} {w t n : Nat} {ζ : Zs} {υ : Vs} {σ : St}
theorem rd_113 {x3 : Int32} {T : Td} {P : jO → jH → Prop} (T1 : hb.1 t = some (tobj t T)) (ht : υ.2.1 = t) (wt : w + 14 ≤ t) (k : J g mX7_read (d + 1) hs P 125 [(0, .ref w), (3, .int x3), (4, .int 0)] [] (ws (jset hb t (tobj t ((T.1.1, 1, T.1.2.2), T.2))) w (t + 1) υ σ)) : J g mX7_read (d + 1) hs P 113 [(0, .ref w)] [.int x3] (ws hb w (t + 1) υ σ) := by
  have N : (ws hb w (t + 1) υ σ).1 t = some (tobj t T) := (ws_out (by omega) (by omega) (by omega)).trans T1
  refine bX7_read_113 ⟨_, vput_0, _, congrArg (fun z => some (Value.ref z)) ht, _, N, by simp, fun h1 q1 => ?_⟩
  replace q1 := q1.trans (ws_put (h := hb) (s := t + 1) (by omega) (by omega) (by omega))
  subst q1
  exact k
theorem rd_112 {q : Nat} {k : Int32} {T : Td} (T1 : hb.1 t = some (tobj t T)) (ht : υ.2.1 = t) (wt : w + 14 ≤ t) (L : LF hb0 hb t) (e2 : hb.2 = hb0.2) (B : q < n ∧ υ.1 0 = (if ζ.2 0 q = 1 then 1 else k) ∧ υ.1 1 = ζ.2 2 q) : J g mX7_read (d + 1) hs (jPi (RD g ζ n w t hb0 (.inl (k, q))) no2) 112 [(0, .ref w)] [] (ws hb w (t + 1) υ σ) :=
  bX7_read_112 (rd_113 T1 ht wt (rd_end ⟨_, υ, σ, rfl, L.put _, by show 3 * (hb.2.1 - hb0.2.1) ≤ n; rw [e2]; omega, by show hb.2.2 - hb0.2.2 ≤ n; rw [e2]; omega, ht, rfl, B⟩))
theorem rd_66 (wt : w + 14 ≤ t) (hNO : g.2.2.2.2.2.2 < t) (htb0 : t + 8 ≤ hb.2.1) (H : ZAt hb (w + 9) ζ) (hT : Tok ζ n) (hN : HNum ζ) (R : hb.2.1 + n ≤ jB0 g + 601024 ∧ hb.2.2 + n ≤ 7293034) (V : VL ζ n υ 1) (ht : υ.2.1 = t) (u0 : υ.1 0 = 0) (u1 : υ.1 1 = -1) (TT : TAt hb t ((0, 0, 100), (g.2.2.2.2.2.2, g.2.2.2.2.2.2, g.2.2.2.2.2.2), (none, none, none)))
    (h0 : ζ.2 0 0 = 135) {s1 : Int32} (hs1 : s1 = if ζ.2 0 1 = 136 then 1 else 0) : J g mX7_read (d + 93) hs (jPi (RD g ζ n w t hb (aRead (ζ.2 0) (ζ.2 1))) no2) 66 [(0, .ref w), (3, .int 1)] [.int s1, .ref t] (ws hb w (t + 1) υ (fun _ => 0, fun _ _ => 0)) := by
  have ea : aRead (ζ.2 0) (ζ.2 1) = (if ζ.2 0 1 = 136 ∨ ζ.2 0 1 = 137 then (if ζ.2 0 2 = 59 then aRest (ζ.2 0) (ζ.2 1) 900 (abBeg s1) 3 else .inl (2, 2)) else .inl (2, 1)) := by unfold aRead; rw [if_pos h0, ← hs1]
  have N : ∀ υ' σ', (ws hb w (t + 1) υ' σ').1 t = some (tobj t ((0, 0, 100), (g.2.2.2.2.2.2, g.2.2.2.2.2.2, g.2.2.2.2.2.2), (none, none, none))) := fun υ' σ' => (ws_out (by omega) (by omega) (by omega)).trans TT.1
  have s01 : s1 = 0 ∨ s1 = 1 := by
    rw [hs1]
    split
    · exact Or.inr rfl
    · exact Or.inl rfl
  refine bX7_read_66 ⟨_, N _ _, by simp, s01, fun h1 q1 => ?_⟩
  replace q1 := q1.trans (ws_put (h := hb) (s := t + 1) (by omega) (by omega) (by omega))
  subst q1
  generalize hkk : (if ζ.2 0 1 = 136 then (136 : Int32) else 137) = kk
  have k0 : ¬ kk = 0 := by rw [← hkk]; split <;> decide
  have kiff : ζ.2 0 1 = kk ↔ (ζ.2 0 1 = 136 ∨ ζ.2 0 1 = 137) := by
    rw [← hkk]
    by_cases h : ζ.2 0 1 = 136
    · rw [if_pos h]; exact ⟨Or.inl, fun _ => h⟩
    · rw [if_neg h]; exact ⟨Or.inr, fun k => k.resolve_left h⟩
  have T1 : (jset hb t (tobj t ((s1, 0, 100), (g.2.2.2.2.2.2, g.2.2.2.2.2.2, g.2.2.2.2.2.2), (none, none, none)))).1 t = some (tobj t ((s1, 0, 100), (g.2.2.2.2.2.2, g.2.2.2.2.2.2, g.2.2.2.2.2.2), (none, none, none))) := jset_at _ _ _
  have L1 : LF hb (jset hb t (tobj t ((s1, 0, 100), (g.2.2.2.2.2.2, g.2.2.2.2.2.2, g.2.2.2.2.2.2), (none, none, none)))) t := (LF.rf hb t).put _
  have HS := ws_Z (h := jset hb t (tobj t ((s1, 0, 100), (g.2.2.2.2.2.2, g.2.2.2.2.2.2, g.2.2.2.2.2.2), (none, none, none)))) (s := t + 1) (w := w) (σ := (fun _ => 0, fun _ _ => 0)) (ζ := ζ) (Or.inr (by omega)) (fun i hi => (L1.1 _ (by omega) (by omega)).trans (H i hi))
  have J93 : J g mX7_read (d + 93) hs (jPi (RD g ζ n w t hb (aRead (ζ.2 0) (ζ.2 1))) no2) 93 [(0, .ref w)] [.int kk, .ref w] (ws (jset hb t (tobj t ((s1, 0, 100), (g.2.2.2.2.2.2, g.2.2.2.2.2.2, g.2.2.2.2.2.2), (none, none, none)))) w (t + 1) υ (fun _ => 0, fun _ _ => 0)) := by
    obtain ⟨x1, x2⟩ := tie_expL hT V k0
    refine bX7_read_93 ⟨_, vput_0, ?_⟩
    refine (c_expect HS).pi (fun r h' hr => ?_) (fun E h' f => f.elim)
    obtain ⟨rfl, rfl⟩ := hr
    by_cases hk : ζ.2 0 1 = kk
    · obtain ⟨y1, y2, y3⟩ := x1 hk
      rw [if_pos (kiff.mp hk)] at ea
      rw [y1]
      refine ⟨fun c => absurd c (by decide), fun _ => ⟨_, vput_0, ?_⟩⟩
      obtain ⟨z1, z2⟩ := tie_expL hT y2 (t := 59) (by decide)
      refine (c_expect HS).pi (fun r h' hr => ?_) (fun E h' f => f.elim)
      obtain ⟨rfl, rfl⟩ := hr
      by_cases h59 : ζ.2 0 2 = 59
      · obtain ⟨w1, w2, w3⟩ := z1 h59
        rw [if_pos h59] at ea
        rw [w1]
        refine ⟨fun c => absurd c (by decide), fun _ => ?_⟩
        refine rd_113 T1 (w3.2.2.2.trans (y3.2.2.2.trans ht)) wt ?_
        have hn := V.2.2
        refine rd_loop wt hNO htb0 H hT hN R 900 0 _ (abBeg s1) 3 _ _ rfl w2 (w3.2.2.2.trans (y3.2.2.2.trans ht)) (w3.1.trans (y3.1.trans u0)) (w3.2.1.trans (y3.2.1.trans u1)) ?_ ⟨0, by omega, rfl⟩ (L1.put _) (by show 3 * (hb.2.1 - hb.2.1) ≤ 3; omega) (by show hb.2.2 - hb.2.2 ≤ 3; omega) ea.symm
        have ne : ¬ g.2.2.2.2.2.2 = t := by omega
        exact ⟨((s1, 1, 100), (g.2.2.2.2.2.2, g.2.2.2.2.2.2, g.2.2.2.2.2.2), (none, none, none)), ⟨jset_at _ _ _, TT.2.1.of ((jset_ne ne).trans (jset_ne ne)), TT.2.2.1.of ((jset_ne ne).trans (jset_ne ne)), TT.2.2.2.of ((jset_ne ne).trans (jset_ne ne))⟩, rfl, rfl, Or.inl rfl, Or.inl rfl, Or.inl rfl⟩
      · obtain ⟨w1, w2⟩ := z2 h59
        rw [if_neg h59] at ea
        rw [w1, ea]
        exact ⟨fun _ => rd_112 T1 (w2.2.2.2.trans (y3.2.2.2.trans ht)) wt L1 rfl ⟨w2.1, w2.2.1, w2.2.2.1⟩, fun c => absurd rfl c⟩
    · obtain ⟨y1, y2⟩ := x2 hk
      rw [if_neg (fun k => hk (kiff.mpr k))] at ea
      rw [y1, ea]
      exact ⟨fun _ => rd_112 T1 (y2.2.2.2.trans ht) wt L1 rfl ⟨y2.1, y2.2.1, y2.2.2.1⟩, fun c => absurd rfl c⟩
  refine ⟨fun c => absurd c (by decide), fun _ => ⟨_, vput_0, _, congrArg (fun z => some (Value.ref z)) ht, _, (ws_out (by omega) (by omega) (by omega)).trans T1, _, rfl, fun c => ?_, fun c => ?_⟩⟩
  · have : kk = 137 := by
      rw [← hkk, if_neg]
      intro k
      rw [hs1, if_pos k] at c
      replace c : (1 : Int32) = 0 := c
      exact absurd c (by decide)
    exact this ▸ J93
  · have : kk = 136 := by
      rw [← hkk, if_pos]
      by_cases k : ζ.2 0 1 = 136
      · exact k
      · rw [hs1, if_neg k] at c
        exact absurd rfl c
    exact this ▸ J93
end RD6
section RDC
variable {g : jG} {d : Nat} {h : jH} {w r N e : Nat} {ζ : Zs} {υ : Vs} {b : Nat → Int32}
theorem layTold_SAt {t : Nat} {s : Nat} : SAt (seg h t (layTold g t) s) (t + 1) (fun _ => 0, fun _ _ => 0) := by
  have k : ∀ i, i < 8 → (seg h t (layTold g t) s).1 (t + i) = (layTold g t)[i]? := fun i hi => seg_at _ _ _ _ hi
  exact ⟨k 1 (by decide), k 2 (by decide), k 3 (by decide), k 4 (by decide), k 5 (by decide), k 6 (by decide), k 7 (by decide)⟩
theorem c_read (hr : h.1 r = some (.inl (1, (N, .inl b)))) (ro : ¬ (w ≤ r ∧ r < w + 14)) (rt : r < h.2.1) (hN : N < 2 ^ 30) (he : e ≤ N) (he9 : e ≤ 900) (hb : byt b) (HN : HNum ζ) (wt : w + 14 ≤ h.2.1) (hNO : g.2.2.2.2.2.2 < h.2.1) (nw : ¬ (w ≤ g.2.2.2.2.2.2 ∧ g.2.2.2.2.2.2 < w + 14)) (NL : LawAt h g.2.2.2.2.2.2 0 none)
    (R : h.2.1 + 909 ≤ jB0 g + 601024 ∧ h.2.2 + 959 ≤ 7293034) : ∃ n, Tok (cutF b e ζ) n ∧
    Con g mX7_read (d + 93) [.ref w, .ref r, .int (nI e)] (vput (zput h (w + 9) ζ) w υ) (jPi (RD g (cutF b e ζ) n w h.2.1 (zput (seg h h.2.1 (layTold g h.2.1) 58) (w + 9) (cutF b e ζ)) (aRead ((cutF b e ζ).2 0) ((cutF b e ζ).2 1))) no2) := by
  obtain ⟨HN', n, hT⟩ := cutF_tok b he9 HN
  refine ⟨n, hT, ?_⟩
  generalize ht : h.2.1 = t at *
  have r1 : ∀ υ', (vput (zput h (w + 9) ζ) w υ').2 = h.2 := fun _ => rfl
  have eseg : seg (vput (zput h (w + 9) ζ) w υ) t (layTold g t) 58 = vput (zput (seg h t (layTold g t) 58) (w + 9) ζ) w υ := by
    rw [seg_vput (by omega), seg_zput (by omega)]
  refine con_of km_X7_read.1.2.2.2.2 (Nat.le_of_ble_eq_true rfl) rfl (bX7_read_0 ?_)
  refine ⟨⟨by rw [r1, ht]; omega, by rw [r1]; omega⟩, fun q1 h2 e1 e2 => ?_⟩
  rw [r1, ht] at e1
  replace e1 := e1.symm
  subst e1
  rw [jnew_seg, r1, ht] at e2
  subst e2
  refine (c_initTold (L := []) (by show t + 0 + 8 ≤ _ ∧ h.2.2 + 7 + 51 ≤ _; omega)).pv (fun h' hh => ?_) (fun E h' f => f.elim)
  replace hh : h' = seg (vput (zput h (w + 9) ζ) w υ) t (layTold g t) 58 := hh
  rw [eseg] at hh
  subst hh
  generalize hH : seg h t (layTold g t) 58 = H at *
  refine ⟨_, vput_0, by simp, fun h1 q1 => ?_⟩
  replace q1 := q1.trans (vput_o (υ := υ) (υ' := (υ.1, t, υ.2.2)) rfl)
  subst q1
  refine ⟨_, vput_0, by simp, fun h1 q1 => ?_⟩
  replace q1 := q1.trans (vput_o (υ := (υ.1, t, υ.2.2)) (υ' := vI (υ.1, t, υ.2.2) 0 0) rfl)
  subst q1
  refine ⟨_, vput_0, by simp, fun h1 q1 => ?_⟩
  replace q1 := q1.trans (vput_o (υ := vI (υ.1, t, υ.2.2) 0 0) (υ' := vI (vI (υ.1, t, υ.2.2) 0 0) 1 (-1)) rfl)
  subst q1
  rw [vput_zput]
  have oH : ∀ q, q < t → H.1 q = h.1 q := fun q hq => by rw [← hH]; exact seg_out (by omega)
  have H2 : H.2 = (t + 8, h.2.2 + 58) := by rw [← hH]; rfl
  refine ⟨_, (ov_out (by omega)).trans vput_0, _, rfl, _, zput_0, ?_⟩
  refine (c_cut8 (h := vput H w (vI (vI (υ.1, t, υ.2.2) 0 0) 1 (-1))) ((vput_ne (by omega) (by omega)).trans ((oH r (by omega)).trans hr)) (by omega) hN he he9 hb).pv (fun h' hh => ?_) (fun E h' f => f.elim)
  rw [← vput_zput] at hh
  subst hh
  generalize hZ : cutF b e ζ = ζ' at *
  generalize hH' : zput H (w + 9) ζ' = H' at *
  have HZ : ZAt H' (w + 9) ζ' := by rw [← hH']; exact fun j hj => ov_at _ _ _ _ hj
  refine ⟨_, vput_0, by simp, fun h1 q1 => ?_⟩
  replace q1 := q1.trans (vput_o (υ := vI (vI (υ.1, t, υ.2.2) 0 0) 1 (-1)) (υ' := vI (vI (vI (υ.1, t, υ.2.2) 0 0) 1 (-1)) 2 (-1)) rfl)
  subst q1
  refine ⟨_, vput_0, ?_⟩
  refine (c_skip HZ).pv (fun h' hh => ?_) (fun E h' f => f.elim)
  subst hh
  have esk : skF ζ' (vI (vI (vI (υ.1, t, υ.2.2) 0 0) 1 (-1)) 2 (-1)) = vI (vI (vI (vI (vI (υ.1, t, υ.2.2) 0 0) 1 (-1)) 2 (-1)) 2 0) 3 (ζ'.2 0 0) := by
    unfold skF
    rw [if_neg]
    · show vI (vI _ 2 ((-1 : Int32) + 1)) 3 (ζ'.2 0 (ix ((-1 : Int32) + 1))) = _
      have q1 : (-1 : Int32) + 1 = 0 := by decide
      have q2 : ix (0 : Int32) = 0 := by decide
      rw [q1, q2]
    · show ¬ ((-1 : Int32) + 1 < 0 ∨ ¬ (-1 : Int32) + 1 < ζ'.1 ∨ 900 < (-1 : Int32) + 1)
      rw [hT.1]
      rintro (k | k | k)
      · exact absurd k (by decide)
      · exact k (nI_lt (a := 0) hT.2.1 (by have := hT.2.2.1; omega))
      · exact absurd k (by decide)
  rw [esk]
  generalize hυ : vI (vI (vI (vI (vI (υ.1, t, υ.2.2) 0 0) 1 (-1)) 2 (-1)) 2 0) 3 (ζ'.2 0 0) = υ0
  have V0 : VL ζ' n υ0 0 := by rw [← hυ]; exact ⟨rfl, rfl, hT.2.1⟩
  have u0 : υ0.1 0 = 0 := by rw [← hυ]; rfl
  have u1 : υ0.1 1 = -1 := by rw [← hυ]; rfl
  have ut : υ0.2.1 = t := by rw [← hυ]; rfl
  have H2' : H'.2 = (t + 8, h.2.2 + 58) := by rw [← hH']; exact H2
  have oH' : ∀ q, ¬ (w + 9 ≤ q ∧ q < w + 9 + 4) → H'.1 q = H.1 q := fun q hq => by rw [← hH']; exact ov_out hq
  have S0 : SAt H' (t + 1) (fun _ => 0, fun _ _ => 0) := (show SAt H (t + 1) _ by rw [← hH]; exact layTold_SAt).of (fun q a1 a2 => oH' q (by omega))
  have ews : ∀ υ', vput H' w υ' = ws H' w (t + 1) υ' (fun _ => 0, fun _ _ => 0) := fun υ' => by unfold ws; rw [S0.put]
  have NO' : H'.1 g.2.2.2.2.2.2 = h.1 g.2.2.2.2.2.2 := (oH' _ (by omega)).trans (oH _ hNO)
  have TT : TAt H' t ((0, 0, 100), (g.2.2.2.2.2.2, g.2.2.2.2.2.2, g.2.2.2.2.2.2), (none, none, none)) := by
    refine ⟨(oH' t (by omega)).trans ?_, LawAt.of NL NO', LawAt.of (k := 1) (L := none) NL NO', LawAt.of (k := 2) (L := none) NL NO'⟩
    rw [← hH]
    exact seg_at _ _ _ _ (i := 0) (by rw [layTold_len]; decide)
  obtain ⟨x1, x2⟩ := tie_expL hT V0 (t := 135) (by decide)
  refine ⟨_, vput_0, ?_⟩
  refine (c_expect HZ).pi (fun r h' hr => ?_) (fun E h' f => f.elim)
  obtain ⟨rfl, rfl⟩ := hr
  by_cases h135 : ζ'.2 0 0 = 135
  · obtain ⟨y1, y2, y3⟩ := x1 h135
    rw [y1]
    refine ⟨_, vput_0, _, congrArg (fun z => some (Value.ref z)) (y3.2.2.2.trans ut), _, vput_0, _, rfl, ?_⟩
    have k6 : ∀ (hs : jH) (s1 : Int32), s1 = (if ζ'.2 0 1 = 136 then 1 else 0) → J g mX7_read (d + 93) hs (jPi (RD g ζ' n w t H' (aRead (ζ'.2 0) (ζ'.2 1))) no2) 66 [(0, .ref w), (3, .int 1)] [.int s1, .ref t] (vput H' w (expF ζ' υ0 135).2) := by
      intro hs s1 hs1
      rw [ews]
      exact rd_66 wt (by omega) (by rw [H2']; exact Nat.le_refl _) HZ hT HN' (by rw [H2']; have := hT.2.2.1; show t + 8 + n ≤ _ ∧ h.2.2 + 58 + n ≤ _; omega) y2 (y3.2.2.2.trans ut) (y3.1.trans u0) (y3.2.1.trans u1) TT h135 hs1
    have v3 : (expF ζ' υ0 135).2.1 3 = ζ'.2 0 1 := y2.2.1
    refine ⟨fun c => k6 _ 1 ?_, fun c => k6 _ 0 ?_⟩
    · rw [if_pos (v3.symm.trans c)]
    · rw [if_neg (fun k => c (v3.trans k))]
  · obtain ⟨y1, y2⟩ := x2 h135
    have ea : aRead (ζ'.2 0) (ζ'.2 1) = .inl (2, 0) := by unfold aRead; rw [if_neg h135]
    rw [y1, ea]
    refine ⟨_, vput_0, _, congrArg (fun z => some (Value.ref z)) (y2.2.2.2.trans ut), _, vput_0, _, rfl, ?_⟩
    have k6 : ∀ (hs : jH) (s1 : Int32), (s1 = 0 ∨ s1 = 1) → J g mX7_read (d + 93) hs (jPi (RD g ζ' n w t H' (.inl (2, 0))) no2) 66 [(0, .ref w), (3, .int 0)] [.int s1, .ref t] (vput H' w (expF ζ' υ0 135).2) := by
      intro hs s1 hs1
      rw [ews]
      refine bX7_read_66 ⟨_, (ws_out (by omega) (by omega) (by omega)).trans TT.1, by simp, hs1, fun h1 q1 => ?_⟩
      replace q1 := q1.trans (ws_put (h := H') (s := t + 1) (by omega) (by omega) (by omega))
      subst q1
      refine ⟨fun _ => ?_, fun c => absurd rfl c⟩
      exact rd_112 (T := ((s1, 0, 100), (g.2.2.2.2.2.2, g.2.2.2.2.2.2, g.2.2.2.2.2.2), (none, none, none))) (jset_at _ _ _) (y2.2.2.2.trans ut) wt ((LF.rf H' t).put _) rfl ⟨y2.1, y2.2.1, y2.2.2.1⟩
    exact ⟨fun c => k6 _ 1 (Or.inr rfl), fun c => k6 _ 0 (Or.inl rfl)⟩
end RDC
