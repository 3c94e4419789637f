/-! How often a number stands in a row -/
def cnt (f : Nat → Int32) : Nat → Int32 → Nat
  | 0, _ => 0
  | n + 1, v => cnt f n v + (if f n = v then 1 else 0)
theorem cnt_upd (f : Nat → Int32) (i : Nat) (x v : Int32) : ∀ n, cnt (upd f i x) n v + (if i < n ∧ f i = v then 1 else 0) = cnt f n v + (if i < n ∧ x = v then 1 else 0)
  | 0 => by simp [cnt]
  | n + 1 => by
    have ih := cnt_upd f i x v n
    by_cases hi : i = n
    · subst hi
      simp only [Nat.lt_irrefl, false_and, if_false, Nat.add_zero] at ih
      simp only [cnt, ih, upd, if_true, Nat.lt_succ_self, true_and]
      omega
    · have h1 : (upd f i x) n = f n := by simp only [upd, show ¬ n = i from fun e => hi e.symm, if_false]
      have h2 : (i < n + 1) ↔ (i < n) := by omega
      simp only [cnt, h1, h2]
      omega
theorem cnt_swap (f : Nat → Int32) {i k n : Nat} (hi : i < n) (hk : k < n) (hik : ¬ i = k) (v x : Int32) : cnt (upd (upd f i (f k)) k x) n v = cnt (upd f i x) n v := by
  have a1 := cnt_upd (upd f i (f k)) k x v n
  have a2 := cnt_upd f i (f k) v n
  have a3 := cnt_upd f i x v n
  have e1 : (upd f i (f k)) k = f k := by simp only [upd, show ¬ k = i from fun e => hik e.symm, if_false]
  simp only [hi, hk, true_and, e1] at a1 a2 a3
  omega
def srt (f : Nat → Int32) (n : Nat) : Prop := ∀ a b, a < b → b < n → (f a).toInt ≤ (f b).toInt
theorem div2 {n : Nat} (hn : n < 2 ^ 31) : nI n / 2 = nI (n / 2) := by
  apply Int32.toInt_inj.mp
  have h2 : (2 : Int32).toInt = 2 := rfl
  rw [Int32.toInt_div_of_ne_right _ _ (by decide), nI_toInt (by omega), nI_toInt (by omega), h2, Int.tdiv_eq_ediv_of_nonneg (by omega)]
  omega
theorem subI {a b : Nat} (h : b ≤ a) (ha : a < 2 ^ 31) : nI a - nI b = nI (a - b) := by
  apply Int32.toInt_inj.mp
  rw [tI_sub (by rw [nI_toInt (by omega), nI_toInt (by omega)]; omega), nI_toInt (by omega), nI_toInt (by omega), nI_toInt (by omega)]
  omega
section SRT
variable {g : jG} {d : Nat} {h hs : jH} {r n L : Nat} {f0 : Nat → Int32}
def rowL (L : Nat) (f : Nat → Int32) : va_E := .inl (0, (L, .inl f))
/-- the row is the same but for the order -/
def rearr (n : Nat) (f0 f : Nat → Int32) : Prop := (∀ v, cnt f n v = cnt f0 n v)
def srtPost (h : jH) (r n L : Nat) (f0 : Nat → Int32) : jO → jH → Prop := jPv (fun h' => ∃ f, rearr n f0 f ∧ srt f n ∧ h' = jset h r (rowL L f)) no2
theorem sort_inner {G i : Nat} {mv : Int32} (hL : L < 2 ^ 31) (hn : n ≤ L) (hG : 0 < G) (hG2 : G < 2 ^ 31) (hi : i < n)
    (K : ∀ f, rearr n f0 f → (G = 1 → srt f (i + 1)) → J g mX1_sort (d + 1) hs (srtPost h r n L f0) 11 [(1, .ref r), (2, .int (nI n)), (3, .int (nI G)), (4, .int (nI (i + 1)))] [] (jset h r (rowL L f))) :
    ∀ k to f, to ≤ k → to ≤ i → rearr n f0 (upd f to mv) → (G = 1 → srt f i ∧ (to < i → srt f (i + 1)) ∧ ∀ j, to < j → j ≤ i → mv.toInt < (f j).toInt) →
    J g mX1_sort (d + 1) hs (srtPost h r n L f0) 27 [(1, .ref r), (2, .int (nI n)), (3, .int (nI G)), (4, .int (nI i)), (5, .int mv), (6, .int (nI to))] [] (jset h r (rowL L f)) := by
  have fin : ∀ to f, to ≤ i → rearr n f0 (upd f to mv) → (G = 1 → srt f i ∧ (to < i → srt f (i + 1)) ∧ ∀ j, to < j → j ≤ i → mv.toInt < (f j).toInt) → (G = 1 → 0 < to → (f (to - 1)).toInt ≤ mv.toInt) →
      J g mX1_sort (d + 1) hs (srtPost h r n L f0) 63 [(1, .ref r), (2, .int (nI n)), (3, .int (nI G)), (4, .int (nI i)), (5, .int mv), (6, .int (nI to))] [] (jset h r (rowL L f)) := by
    intro to f hto hr hs1 hs2
    have eto : (nI to).toNatClampNeg = to := nI_clamp (by omega)
    refine bX1_sort_63 ⟨_, _, jset_at _ _ _, vp_in_nI (by omega) hL, fun h1 q1 => ?_⟩
    rw [jset_jset, eto] at q1
    rw [q1, nI_1]
    refine K _ hr (fun hg => ?_)
    obtain ⟨a1, a2, a3⟩ := hs1 hg
    have a4 := hs2 hg
    intro a b hab hb
    by_cases hbt : b = to
    · subst hbt
      have ha : ¬ a = b := by omega
      simp only [upd, ha, if_true, if_false]
      have h5 := a4 (by omega)
      by_cases ha2 : a = b - 1
      · subst ha2; exact h5
      · have := a1 a (b - 1) (by omega) (by omega)
        omega
    · by_cases hat : a = to
      · subst hat
        simp only [upd, hbt, if_true, if_false]
        have := a3 b hab (by omega)
        omega
      · simp only [upd, hbt, hat, if_false]
        by_cases hbi : b < i
        · exact a1 a b hab hbi
        · exact a2 (by omega) a b hab hb
  intro k
  induction k with
  | zero =>
    intro to f hk hto hr hs1
    have : to = 0 := by omega
    subst this
    exact bX1_sort_27 ⟨fun _ => fin 0 f hto hr hs1 (fun _ e => absurd e (by omega)), fun q => absurd (nI_lt (a := 0) hG (by omega)) q⟩
  | succ k ih =>
    intro to f hk hto hr hs1
    refine bX1_sort_27 ⟨fun q => fin to f hto hr hs1 (fun hg e => ?_), fun q => ?_⟩
    · have := (nI_ltI (by omega) (by omega)).mp q
      omega
    · have hGt : G ≤ to := by
        by_cases x : G ≤ to
        · exact x
        · exact absurd (nI_lt (by omega) (by omega)) q
      have e1 : nI to - nI G = nI (to - G) := subI hGt (by omega)
      have e2 : (nI (to - G)).toNatClampNeg = to - G := nI_clamp (by omega)
      have eto : (nI to).toNatClampNeg = to := nI_clamp (by omega)
      rw [e1, e2, eto]
      refine ⟨_, _, jset_at _ _ _, vp_in_nI (by omega) hL, fun q2 => ⟨_, _, jset_at _ _ _, vp_in_nI (by omega) hL, _, _, jset_at _ _ _, vp_in_nI (by omega) hL, fun h1 q1 => ?_⟩, fun q2 => fin to f hto hr hs1 (fun hg _ => ?_)⟩
      · rw [jset_jset] at q1
        rw [q1]
        refine ih (to - G) (upd f to (f (to - G))) (by omega) (by omega) (fun v => ?_) (fun hg => ?_)
        · rw [cnt_swap f (by omega) (by omega) (by omega)]
          exact hr v
        · subst hg
          obtain ⟨a1, a2, a3⟩ := hs1 rfl
          rw [Int32.lt_iff_toInt_lt] at q2
          have full : srt (upd f to (f (to - 1))) (i + 1) := by
            intro a b hab hb
            by_cases hbt : b = to
            · subst hbt
              have ha : ¬ a = b := by omega
              simp only [upd, ha, if_true, if_false]
              by_cases ha2 : a = b - 1
              · subst ha2; exact Int.le_refl _
              · exact a1 a (b - 1) (by omega) (by omega)
            · by_cases hat : a = to
              · subst hat
                simp only [upd, hbt, if_true, if_false]
                exact a2 (by omega) (a - 1) b (by omega) hb
              · simp only [upd, hbt, hat, if_false]
                by_cases hbi : b < i
                · exact a1 a b hab hbi
                · exact a2 (by omega) a b hab hb
          refine ⟨fun a b h1 h2 => full a b h1 (by omega), fun _ => full, fun j h1 h2 => ?_⟩
          by_cases hj : j = to
          · subst hj
            simp only [upd, if_true]
            exact q2
          · simp only [upd, hj, if_false]
            exact a3 j (by omega) h2
      · subst hg
        rw [Int32.lt_iff_toInt_lt] at q2
        omega
theorem sort_mid {G : Nat} (hL : L < 2 ^ 31) (hn : n ≤ L) (hG : 0 < G) (hG2 : G < 2 ^ 31)
    (K : ∀ f, rearr n f0 f → (G = 1 → srt f n) → J g mX1_sort (d + 1) hs (srtPost h r n L f0) 4 [(1, .ref r), (2, .int (nI n)), (3, .int (nI (G / 2)))] [] (jset h r (rowL L f))) :
    ∀ m i f, n ≤ i + m → rearr n f0 f → (G = 1 → srt f i) → (n ≤ i → G = 1 → srt f n) → i < 2 ^ 31 →
    J g mX1_sort (d + 1) hs (srtPost h r n L f0) 11 [(1, .ref r), (2, .int (nI n)), (3, .int (nI G)), (4, .int (nI i))] [] (jset h r (rowL L f)) := by
  intro m
  induction m with
  | zero =>
    intro i f hi hr hs1 hs2 hb
    refine bX1_sort_11 ⟨fun q => absurd q (nI_nlt (by omega) hb), fun _ => ?_⟩
    rw [div2 hG2]
    exact K f hr (hs2 (by omega))
  | succ m ih =>
    intro i f hi hr hs1 hs2 hb
    by_cases hin : i < n
    · have ei : (nI i).toNatClampNeg = i := nI_clamp hb
      refine bX1_sort_11 ⟨fun _ => ⟨_, _, jset_at _ _ _, vp_in_nI (by omega) hL, ?_⟩, fun q => absurd (nI_lt hin (by omega)) q⟩
      rw [ei]
      refine sort_inner hL hn hG hG2 hin (fun f' h1 h2 => ih (i + 1) f' (by omega) h1 h2 (fun h3 h4 => by rw [show n = i + 1 from by omega]; exact h2 h4) (by omega)) i i f (Nat.le_refl _) (Nat.le_refl _) ?_ (fun hg => ⟨hs1 hg, fun e => absurd e (by omega), fun j h1 h2 => absurd h1 (by omega)⟩)
      intro v
      rw [show upd f i (f i) = f from by funext j; by_cases hj : j = i <;> simp [upd, hj]]
      exact hr v
    · refine bX1_sort_11 ⟨fun q => absurd q (nI_nlt (by omega) hb), fun _ => ?_⟩
      rw [div2 hG2]
      exact K f hr (hs2 (by omega))
theorem sort_out (hL : L < 2 ^ 31) (hn : n ≤ L) : ∀ k G f, G ≤ k → G < 2 ^ 31 → rearr n f0 f → (G = 0 → srt f n) →
    J g mX1_sort (d + 1) hs (srtPost h r n L f0) 4 [(1, .ref r), (2, .int (nI n)), (3, .int (nI G))] [] (jset h r (rowL L f)) := by
  intro k
  induction k with
  | zero =>
    intro G f hk hG hr hs1
    have : G = 0 := by omega
    subst this
    exact bX1_sort_4 ⟨fun q => absurd q (by decide), fun _ => ⟨f, hr, hs1 rfl, rfl⟩⟩
  | succ k ih =>
    intro G f hk hG hr hs1
    by_cases h0 : G = 0
    · subst h0
      exact bX1_sort_4 ⟨fun q => absurd q (by decide), fun _ => ⟨f, hr, hs1 rfl, rfl⟩⟩
    · refine bX1_sort_4 ⟨fun _ => ?_, fun q => absurd (nI_lt (a := 0) (by omega) hG) q⟩
      refine sort_mid hL hn (by omega) hG (fun f' h1 h2 => ih (G / 2) f' (by omega) (by omega) h1 (fun h3 => h2 (by omega))) n G f (by omega) hr (fun hg => ?_) (fun h1 hg => ?_) hG
      · intro a b hab hb
        omega
      · intro a b hab hb
        omega
theorem c_sort {e : Nat} (hL : L < 2 ^ 31) (hn : n ≤ L) (H : h.1 r = some (rowL L f0)) : Con g mX1_sort (d + 1) [.ref e, .ref r, .int (nI n)] h (srtPost h r n L f0) := by
  refine con_of km_X1_sort.1.2.2.2.2 (Nat.le_of_ble_eq_true rfl) rfl (bX1_sort_0 ?_)
  rw [div2 (by omega)]
  have := sort_out (g := g) (d := d) (h := h) (hs := h) (r := r) (n := n) (L := L) (f0 := f0) hL hn (n / 2) (n / 2) f0 (Nat.le_refl _) (by omega) (fun _ => rfl) (fun h0 => fun a b hab hb => by omega)
  rw [jset_self H] at this
  exact this
end SRT
/-- how often the number that stands most often in the first n does -/
def mxc (f : Nat → Int32) (n : Nat) : Nat → Nat
  | 0 => 0
  | i + 1 => max (mxc f n i) (cnt f n (f i))
theorem mxc_ge (f : Nat → Int32) (n : Nat) : ∀ i j, j < i → cnt f n (f j) ≤ mxc f n i
  | 0, j, h => by omega
  | i + 1, j, h => by
    rw [mxc]
    by_cases hj : j = i
    · subst hj; omega
    · have := mxc_ge f n i j (by omega)
      omega
theorem mxc_le (f : Nat → Int32) (n m : Nat) : ∀ i, (∀ j, j < i → cnt f n (f j) ≤ m) → mxc f n i ≤ m
  | 0, _ => Nat.zero_le _
  | i + 1, h => by
    rw [mxc]
    have h1 := mxc_le f n m i (fun j hj => h j (by omega))
    have h2 := h i (by omega)
    omega
theorem cnt_pos {f : Nat → Int32} : ∀ {n : Nat} {v : Int32}, 0 < cnt f n v → ∃ i, i < n ∧ f i = v
  | 0, v, h => by simp [cnt] at h
  | n + 1, v, h => by
    rw [cnt] at h
    by_cases hv : f n = v
    · exact ⟨n, by omega, hv⟩
    · simp only [hv, if_false, Nat.add_zero] at h
      obtain ⟨i, h1, h2⟩ := cnt_pos h
      exact ⟨i, by omega, h2⟩
theorem cnt_mono (f : Nat → Int32) (v : Int32) : ∀ a b, a ≤ b → cnt f a v ≤ cnt f b v
  | a, 0, h => by
    have : a = 0 := by omega
    subst this
    exact Nat.le_refl _
  | a, b + 1, h => by
    by_cases hab : a = b + 1
    · subst hab; exact Nat.le_refl _
    · have := cnt_mono f v a b (by omega)
      rw [cnt]
      omega
theorem cnt_le (f : Nat → Int32) (v : Int32) : ∀ n, cnt f n v ≤ n
  | 0 => Nat.le_refl _
  | n + 1 => by
    have := cnt_le f v n
    rw [cnt]
    split <;> omega
theorem mxc_rearr {f f' : Nat → Int32} {n : Nat} (h : rearr n f f') : mxc f' n n = mxc f n n := by
  apply Nat.le_antisymm
  · refine mxc_le _ _ _ _ (fun j hj => ?_)
    rw [h]
    by_cases h0 : 0 < cnt f n (f' j)
    · obtain ⟨i, h1, h2⟩ := cnt_pos h0
      rw [← h2]
      exact mxc_ge f n n i h1
    · omega
  · refine mxc_le _ _ _ _ (fun j hj => ?_)
    rw [← h]
    by_cases h0 : 0 < cnt f' n (f j)
    · obtain ⟨i, h1, h2⟩ := cnt_pos h0
      rw [← h2]
      exact mxc_ge f' n n i h1
    · omega
/-- the longest run as it is found -/
def runs (f : Nat → Int32) : Nat → Nat
  | 0 => 0
  | i + 1 => max (runs f i) (cnt f (i + 1) (f i))
theorem runs_ge (f : Nat → Int32) : ∀ i j, j < i → cnt f (j + 1) (f j) ≤ runs f i
  | 0, j, h => by omega
  | i + 1, j, h => by
    rw [runs]
    by_cases hj : j = i
    · subst hj; omega
    · have := runs_ge f i j (by omega)
      omega
theorem runs_le (f : Nat → Int32) (m : Nat) : ∀ i, (∀ j, j < i → cnt f (j + 1) (f j) ≤ m) → runs f i ≤ m
  | 0, _ => Nat.zero_le _
  | i + 1, h => by
    rw [runs]
    have h1 := runs_le f m i (fun j hj => h j (by omega))
    have h2 := h i (by omega)
    omega
theorem cnt_last {f : Nat → Int32} : ∀ {n : Nat} {v : Int32}, 0 < cnt f n v → ∃ i, i < n ∧ f i = v ∧ cnt f (i + 1) v = cnt f n v
  | 0, v, h => by simp [cnt] at h
  | n + 1, v, h => by
    by_cases hv : f n = v
    · exact ⟨n, by omega, hv, rfl⟩
    · have e : cnt f (n + 1) v = cnt f n v := by simp [cnt, hv]
      rw [e] at h ⊢
      obtain ⟨i, h1, h2, h3⟩ := cnt_last h
      exact ⟨i, by omega, h2, h3⟩
theorem runs_mxc (f : Nat → Int32) (n : Nat) : runs f n = mxc f n n := by
  apply Nat.le_antisymm
  · refine runs_le _ _ _ (fun j hj => ?_)
    exact Nat.le_trans (cnt_mono f _ _ _ (by omega)) (mxc_ge f n n j hj)
  · refine mxc_le _ _ _ _ (fun j hj => ?_)
    by_cases h0 : 0 < cnt f n (f j)
    · obtain ⟨i, h1, h2, h3⟩ := cnt_last h0
      rw [← h3, ← h2]
      exact runs_ge f n i h1
    · omega
theorem cnt_zero {f : Nat → Int32} {v : Int32} : ∀ {n : Nat}, (∀ j, j < n → ¬ f j = v) → cnt f n v = 0
  | 0, _ => rfl
  | n + 1, h => by
    rw [cnt, cnt_zero (fun j hj => h j (by omega))]
    simp [h n (by omega)]
section MAL
variable {g : jG} {d : Nat} {h hs : jH} {r n L : Nat} {f : Nat → Int32}
theorem jmax_nI {a b : Nat} (ha : a < 2 ^ 31) (hb : b < 2 ^ 31) : jmax (nI a) (nI b) = nI (max a b) := by
  unfold jmax
  by_cases hab : a < b
  · rw [if_pos (nI_lt hab hb), Nat.max_eq_right (by omega)]
  · rw [if_neg (fun q => hab ((nI_ltI ha hb).mp q)), Nat.max_eq_left (by omega)]
theorem alike_loop {P : jO → jH → Prop} (hL : L < 2 ^ 31) (hn : n ≤ L) (H : h.1 r = some (rowL L f)) (S : srt f n) (K : P (.inl (some (.int (nI (mxc f n n))))) h) : ∀ m i (run : Int32), n = i + m → (0 < i → run = nI (cnt f i (f (i - 1)))) →
    J g mX1_mostAlike (d + 1) hs P 14 [(1, .ref r), (2, .int (nI n)), (3, .int (nI (runs f i))), (4, .int run), (5, .int (nI i))] [] h := by
  intro m
  induction m with
  | zero =>
    intro i run hi hr
    simp only [Nat.add_zero] at hi
    subst hi
    refine bX1_mostAlike_14 ⟨fun q => absurd q (nI_nlt (Nat.le_refl _) (by omega)), fun _ => ?_⟩
    rw [runs_mxc]
    exact K
  | succ m ih =>
    intro i run hi hr
    have ei : (nI i).toNatClampNeg = i := nI_clamp (by omega)
    have hru : runs f i ≤ n := runs_le _ _ _ (fun j hj => Nat.le_trans (cnt_le _ _ _) (by omega))
    have k46 : ∀ c, c = cnt f (i + 1) (f i) → J g mX1_mostAlike (d + 1) hs P 46 [(1, .ref r), (2, .int (nI n)), (3, .int (nI (runs f i))), (5, .int (nI i))] [.int (nI c)] h := by
      intro c hc
      have hcl : c ≤ n := by rw [hc]; exact Nat.le_trans (cnt_le _ _ _) (by omega)
      refine bX1_mostAlike_46 ?_
      rw [jmax_nI (by omega) (by omega), nI_1, hc]
      exact ih (i + 1) _ (by omega) (fun _ => rfl)
    refine bX1_mostAlike_14 ⟨fun _ => ⟨fun q => ?_, fun q => ?_⟩, fun q => absurd (nI_lt (by omega) (by omega)) q⟩
    · have h0 : 0 < i := (nI_ltI (a := 0) (by decide) (by omega)).mp q
      have e1 : nI i - 1 = nI (i - 1) := by
        obtain ⟨i', rfl⟩ : ∃ i', i = i' + 1 := ⟨i - 1, by omega⟩
        exact nI_pred _
      have e2 : (nI (i - 1)).toNatClampNeg = i - 1 := nI_clamp (by omega)
      rw [e1, ei, e2]
      refine ⟨_, _, H, vp_in_nI (by omega) hL, _, _, H, vp_in_nI (by omega) hL, fun q2 => ?_, fun q2 => bX1_mostAlike_45 ?_⟩
      · rw [hr h0, nI_1]
        refine k46 _ ?_
        rw [cnt, if_pos rfl, q2]
      · refine k46 1 ?_
        rw [cnt, if_pos rfl, cnt_zero]
        intro j hj e
        have h1 := S (i - 1) i (by omega) (by omega)
        have h2 : (f j).toInt ≤ (f (i - 1)).toInt := by
          by_cases hji : j = i - 1
          · subst hji; exact Int.le_refl _
          · exact S j (i - 1) (by omega) (by omega)
        rw [e] at h2
        exact q2 (Int32.toInt_inj.mp (by omega))
    · have h0 : i = 0 := by
        by_cases x : i = 0
        · exact x
        · exact absurd (nI_lt (a := 0) (by omega) (by omega)) q
      subst h0
      refine bX1_mostAlike_45 (k46 1 ?_)
      simp [cnt]
theorem c_mostAlike {e : Nat} {δn : Int32} (hL : L < 2 ^ 31) (hn : n ≤ L) (he : ¬ e = r) (HO : h.1 e = some (dobj e δn)) (H : h.1 r = some (rowL L f)) : Con g mX1_mostAlike (d + 2) [.ref e, .ref r, .int (nI n)] h (jPi (fun v h' => v = nI (mxc f n n) ∧ ∃ f', h' = jset h r (rowL L f')) no2) := by
  refine con_of km_X1_mostAlike.1.2.2.2.2 (Nat.le_of_ble_eq_true rfl) rfl (bX1_mostAlike_0 ⟨_, HO, (c_sort hL hn H).pv (fun h' q => ?_) (fun E h' f => f.elim)⟩)
  obtain ⟨f', h1, h2, rfl⟩ := q
  exact alike_loop hL hn (jset_at _ _ _) h2 ⟨by rw [mxc_rearr h1], f', rfl⟩ n 0 0 (by omega) (fun e => absurd e (by omega))
end MAL
