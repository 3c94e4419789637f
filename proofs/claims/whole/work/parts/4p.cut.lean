/-! The text is cut -/
def cutR (b : Nat → Int32) (e : Nat) : Nat → Nat → Zs → Nat → Zs × Nat
  | 0, _, ζ, m => (ζ, m)
  | f + 1, i, ζ, m => if i < e then (if b i = 10 ∨ b i = 32 then cutR b e f (i + 1) ζ m else cutR b e f (oneF b e i).2.2 (zAdd ζ m (oneF b e i).1 (oneF b e i).2.1 (nI i)) (m + 1)) else (ζ, m)
def cutF (b : Nat → Int32) (e : Nat) (ζ : Zs) : Zs := zAdd (cutR b e (e + 1) 0 (0, ζ.2) 0).1 (cutR b e (e + 1) 0 (0, ζ.2) 0).2 0 0 (nI e)
theorem oneF_le (b : Nat → Int32) {e i : Nat} (hi : i < e) : i < (oneF b e i).2.2 ∧ (oneF b e i).2.2 ≤ e := by
  unfold oneF
  have h1 := digR_le b (e - (i + 1)) (i + 1) (b i - 48)
  have h2 := letR_le b (e - (i + 1)) (i + 1)
  split
  · dsimp only
    omega
  · split
    · dsimp only
      omega
    · dsimp only
      omega
section CUT
variable {g : jG} {d : Nat} {h hs : jH} {z r N e : Nat} {ζ : Zs} {b : Nat → Int32}
theorem dig_loop {P : jO → jH → Prop} {X : jH} {i : Nat} (hr : X.1 r = some (.inl (1, (N, .inl b)))) (hz : ∃ n, X.1 z = some (zobj z n)) (hN : N < 2 ^ 30) (he : e ≤ N) {J0 : Nat × Int32}
    (K : J g mX8_cutOne (d + 6) hs P 67 [(0, .ref z), (2, .int (nI i)), (4, .int (nI J0.1)), (5, .int J0.2)] [] X) : ∀ m j n, e = j + m → digR b m j n = J0 →
    J g mX8_cutOne (d + 6) hs P 23 [(0, .ref z), (1, .ref r), (2, .int (nI i)), (3, .int (nI e)), (4, .int (nI j)), (5, .int n)] [] X := by
  obtain ⟨nz, hz⟩ := hz
  intro m
  induction m with
  | zero =>
    intro j n hj hJ
    subst hJ
    exact bX8_cutOne_23 ⟨fun q => absurd q (nI_nlt (by omega) (by omega)), fun _ => K⟩
  | succ m ih =>
    intro j n hj hJ
    have ej : (nI j).toNatClampNeg = j := nI_clamp (by omega)
    refine bX8_cutOne_23 ⟨fun _ => ⟨_, _, hr, vp_in_nI (by omega) (by omega), _, hz, c_isDigit.pi (fun v h' hv => ?_) (fun E h' f => f.elim)⟩, fun q => absurd (nI_lt (by omega) (by omega)) q⟩
    obtain ⟨e1, rfl⟩ := hv
    rw [ej] at e1
    refine ⟨fun q => ?_, fun q => ⟨_, _, hr, vp_in_nI (by omega) (by omega), ?_⟩⟩
    · rw [digR, if_neg (by rw [(bI_0 e1).1.mp q]; decide)] at hJ
      subst hJ
      exact K
    · rw [digR, if_pos ((bI_0 e1).2.mp q)] at hJ
      rw [ej, nI_1]
      exact ih (j + 1) _ (by omega) hJ
theorem let_loop {P : jO → jH → Prop} {X : jH} {i : Nat} (hr : X.1 r = some (.inl (1, (N, .inl b)))) (hz : ∃ n, X.1 z = some (zobj z n)) (hN : N < 2 ^ 30) (he : e ≤ N) {J0 : Nat}
    (K : J g mX8_cutOne (d + 6) hs P 123 [(0, .ref z), (1, .ref r), (2, .int (nI i)), (4, .int (nI J0))] [] X) : ∀ m j, e = j + m → letR b m j = J0 →
    J g mX8_cutOne (d + 6) hs P 100 [(0, .ref z), (1, .ref r), (2, .int (nI i)), (3, .int (nI e)), (4, .int (nI j))] [] X := by
  obtain ⟨nz, hz⟩ := hz
  intro m
  induction m with
  | zero =>
    intro j hj hJ
    subst hJ
    exact bX8_cutOne_100 ⟨fun q => absurd q (nI_nlt (by omega) (by omega)), fun _ => K⟩
  | succ m ih =>
    intro j hj hJ
    have ej : (nI j).toNatClampNeg = j := nI_clamp (by omega)
    refine bX8_cutOne_100 ⟨fun _ => ⟨_, _, hr, vp_in_nI (by omega) (by omega), _, hz, c_isLetter.pi (fun v h' hv => ?_) (fun E h' f => f.elim)⟩, fun q => absurd (nI_lt (by omega) (by omega)) q⟩
    obtain ⟨e1, rfl⟩ := hv
    rw [ej] at e1
    refine ⟨fun q => ?_, fun q => ?_⟩
    · rw [letR, if_neg (by rw [(bI_0 e1).1.mp q]; decide)] at hJ
      subst hJ
      exact K
    · rw [letR, if_pos ((bI_0 e1).2.mp q)] at hJ
      rw [nI_1]
      exact ih (j + 1) (by omega) hJ
theorem c_cutOne {i m : Nat} (hr : h.1 r = some (.inl (1, (N, .inl b)))) (ho : ¬ (z ≤ r ∧ r < z + 4)) (hN : N < 2 ^ 30) (he : e ≤ N) (hi : i < e) (hm : ζ.1 = nI m) (hl : m ≤ 900) (hb : byt b) :
    Con g mX8_cutOne (d + 6) [.ref z, .ref r, .int (nI i), .int (nI e)] (zput h z ζ) (jPi (fun v h' => v = nI ((oneF b e i).2.2 - 1) ∧ h' = zput h z (zAdd ζ m (oneF b e i).1 (oneF b e i).2.1 (nI i))) no2) := by
  have hr1 : (zput h z ζ).1 r = some (.inl (1, (N, .inl b))) := (ov_out ho).trans hr
  have ei : (nI i).toNatClampNeg = i := nI_clamp (by omega)
  have vi : vp_in (nI i) N := vp_in_nI (by omega) (by omega)
  have L1 := digR_le b (e - (i + 1)) (i + 1) (b i - 48)
  have L2 := letR_le b (e - (i + 1)) (i + 1)
  have dec : ∀ t, 0 < t → nI t - 1 = nI (t - 1) := by
    intro t ht
    obtain ⟨t', rfl⟩ : ∃ t', t = t' + 1 := ⟨t - 1, by omega⟩
    exact nI_pred t'
  refine con_of km_X8_cutOne.1.2.2.2.2 (Nat.le_of_ble_eq_true rfl) rfl (bX8_cutOne_0 ⟨_, _, hr1, vi, _, zput_0, c_isDigit.pi (fun v h' hv => ?_) (fun E h' f => f.elim)⟩)
  obtain ⟨e1, rfl⟩ := hv
  rw [ei] at e1 ⊢
  rw [nI_1]
  refine ⟨fun q => ⟨_, _, hr1, vi, _, zput_0, c_isLetter.pi (fun v2 h' hv => ?_) (fun E h' f => f.elim)⟩, fun q => ⟨_, _, hr1, vi, ?_⟩⟩
  · have b1 := (bI_0 e1).1.mp q
    obtain ⟨e2, rfl⟩ := hv
    refine ⟨fun q2 => ?_, fun q2 => ?_⟩
    · have b2 := (bI_0 e2).1.mp q2
      have hone : oneF b e i = ((if sgnB (b i) = true then b i else 1), 0, i + 1) := by
        unfold oneF
        rw [if_neg (by rw [b1]; decide), if_neg (by rw [b2]; decide)]
      obtain ⟨n, hn, hbn⟩ := hb i
      have hx := byt_255 n hn
      rw [← hbn] at hx
      rw [hone]
      refine ⟨_, _, hr1, vi, ⟨2, by decide, rfl⟩, ?_⟩
      have hidx := c_indexOf (g := g) (d := d + 1) (h := zput h z ζ) (k := 2) (by decide) (by decide) hx.1 hx.2
      refine hidx.pi (fun v3 h' hv => ?_) (fun E h' f => f.elim)
      obtain ⟨e3, rfl⟩ := hv
      have fin : ∀ kk, kk = (if sgnB (b i) = true then b i else 1) → J g mX8_cutOne (d + 6) (zput h z ζ) (jPi (fun v h' => v = nI ((i + 1) - 1) ∧ h' = zput h z (zAdd ζ m (if sgnB (b i) = true then b i else 1) 0 (nI i))) no2) 164 [(2, .int (nI i)), (4, .int (nI (i + 1)))] [.int kk, .ref z] (zput h z ζ) := by
        intro kk hkk
        subst hkk
        refine bX8_cutOne_164 ⟨_, zput_0, (c_add hm hl).pv (fun h' q => ?_) (fun E h' f => f.elim)⟩
        exact ⟨dec _ (by omega), q⟩
      refine ⟨fun q3 => fin 1 ?_, fun q3 => ⟨_, _, hr1, vi, fin _ ?_⟩⟩
      · rw [if_neg]
        simp only [sgnB, decide_eq_true_eq, ← e3]
        exact fun x => x q3
      · rw [if_pos]
        simp only [sgnB, decide_eq_true_eq, ← e3]
        exact q3
    · have b2 := (bI_0 e2).2.mp q2
      have hone : oneF b e i = (wordF b i (letR b (e - (i + 1)) (i + 1)), 0, letR b (e - (i + 1)) (i + 1)) := by
        unfold oneF
        rw [if_neg (by rw [b1]; decide), if_pos b2]
      rw [hone]
      refine let_loop (J0 := letR b (e - (i + 1)) (i + 1)) hr1 ⟨_, zput_0⟩ hN he ?_ (e - (i + 1)) (i + 1) (by omega) rfl
      refine bX8_cutOne_123 ⟨_, zput_0, (c_wordOf hr1 hN (by omega) (by omega)).pi (fun v3 h' hv => ?_) (fun E h' f => f.elim)⟩
      obtain ⟨rfl, rfl⟩ := hv
      refine ⟨_, zput_0, (c_add hm hl).pv (fun h' q => ?_) (fun E h' f => f.elim)⟩
      exact ⟨dec _ (by omega), q⟩
  · have b1 := (bI_0 e1).2.mp q
    have hone : oneF b e i = ((if 3 < (digR b (e - (i + 1)) (i + 1) (b i - 48)).1 - i then 1 else 2), (digR b (e - (i + 1)) (i + 1) (b i - 48)).2, (digR b (e - (i + 1)) (i + 1) (b i - 48)).1) := by
      unfold oneF
      rw [if_pos b1]
    rw [hone]
    refine dig_loop (J0 := digR b (e - (i + 1)) (i + 1) (b i - 48)) hr1 ⟨_, zput_0⟩ hN he ?_ (e - (i + 1)) (i + 1) _ (by omega) rfl
    have fin : ∀ kk, kk = (if 3 < (digR b (e - (i + 1)) (i + 1) (b i - 48)).1 - i then 1 else 2) → J g mX8_cutOne (d + 6) (zput h z ζ) (jPi (fun v h' => v = nI ((digR b (e - (i + 1)) (i + 1) (b i - 48)).1 - 1) ∧ h' = zput h z (zAdd ζ m (if 3 < (digR b (e - (i + 1)) (i + 1) (b i - 48)).1 - i then 1 else 2) (digR b (e - (i + 1)) (i + 1) (b i - 48)).2 (nI i))) no2) 81 [(2, .int (nI i)), (4, .int (nI (digR b (e - (i + 1)) (i + 1) (b i - 48)).1)), (5, .int (digR b (e - (i + 1)) (i + 1) (b i - 48)).2)] [.int kk, .ref z] (zput h z ζ) := by
      intro kk hkk
      subst hkk
      refine bX8_cutOne_81 ⟨_, zput_0, (c_add hm hl).pv (fun h' q => ?_) (fun E h' f => f.elim)⟩
      exact ⟨dec _ (by omega), q⟩
    refine bX8_cutOne_67 ?_
    rw [subI (by omega) (by omega)]
    refine ⟨fun q3 => fin 1 ?_, fun q3 => fin 2 ?_⟩
    · rw [if_pos ((nI_ltI (a := 3) (by decide) (by omega)).mp q3)]
    · rw [if_neg (fun x => q3 (nI_lt (a := 3) x (by omega)))]
theorem cut_loop (hr : h.1 r = some (.inl (1, (N, .inl b)))) (ho : ¬ (z ≤ r ∧ r < z + 4)) (hN : N < 2 ^ 30) (he : e ≤ N) (he9 : e ≤ 900) (hb : byt b) {ζ' : Zs} {m' : Nat} : ∀ f i ζ m, e < i + f → i ≤ e → m ≤ i → ζ.1 = nI m → cutR b e f i ζ m = (ζ', m') →
    J g mX8_cut (d + 7) hs (jPv (fun h' => h' = zput h z (zAdd ζ' m' 0 0 (nI e))) no2) 15 [(0, .ref z), (1, .ref r), (3, .int (nI e)), (4, .int (nI i))] [] (zput h z ζ) := by
  intro f
  induction f with
  | zero =>
    intro i ζ m h1 h2 h3 hm hJ
    omega
  | succ f ih =>
    intro i ζ m h1 h2 h3 hm hJ
    have hr1 : (zput h z ζ).1 r = some (.inl (1, (N, .inl b))) := (ov_out ho).trans hr
    have ei : (nI i).toNatClampNeg = i := nI_clamp (by omega)
    rw [cutR] at hJ
    by_cases hie : i < e
    · rw [if_pos hie] at hJ
      have vi : vp_in (nI i) N := vp_in_nI (by omega) (by omega)
      refine bX8_cut_15 ⟨fun _ => ⟨_, _, hr1, vi, fun q => ?_, fun q => ⟨_, _, hr1, vi, fun q2 => ?_, fun q2 => ⟨_, zput_0, (c_cutOne hr ho hN he hie hm (by omega) hb).pi (fun v h' hv => ?_) (fun E h' f => f.elim)⟩⟩⟩, fun q => absurd (nI_lt hie (by omega)) q⟩
      · rw [ei] at q
        rw [if_pos (Or.inl q)] at hJ
        rw [nI_1]
        exact ih (i + 1) ζ m (by omega) (by omega) (by omega) hm hJ
      · rw [ei] at q2
        rw [if_pos (Or.inr q2)] at hJ
        rw [nI_1]
        exact ih (i + 1) ζ m (by omega) (by omega) (by omega) hm hJ
      · rw [ei] at q q2
        rw [if_neg (fun x => x.elim q q2)] at hJ
        obtain ⟨rfl, rfl⟩ := hv
        have L := oneF_le b hie
        rw [jmax_nI (by omega) (by omega), nI_1, show max i ((oneF b e i).2.2 - 1) + 1 = (oneF b e i).2.2 from by omega]
        exact ih (oneF b e i).2.2 _ (m + 1) (by omega) L.2 (by omega) rfl hJ
    · rw [if_neg hie] at hJ
      obtain ⟨rfl, rfl⟩ := Prod.mk.inj hJ
      refine bX8_cut_15 ⟨fun q => absurd q (nI_nlt (by omega) (by omega)), fun _ => ⟨_, zput_0, (c_add hm (by omega)).pv (fun h' q => q) (fun E h' f => f.elim)⟩⟩
theorem c_cut8 (hr : h.1 r = some (.inl (1, (N, .inl b)))) (ho : ¬ (z ≤ r ∧ r < z + 4)) (hN : N < 2 ^ 30) (he : e ≤ N) (he9 : e ≤ 900) (hb : byt b) : Con g mX8_cut (d + 7) [.ref z, .ref r, .int (nI e)] (zput h z ζ) (jPv (fun h' => h' = zput h z (cutF b e ζ)) no2) := by
  have hr1 : (zput h z ζ).1 r = some (.inl (1, (N, .inl b))) := (ov_out ho).trans hr
  refine con_of km_X8_cut.1.2.2.2.2 (Nat.le_of_ble_eq_true rfl) rfl (bX8_cut_0 ⟨_, _, hr1, ⟨_, rfl⟩, _, zput_0, Nat.le_of_ble_eq_true rfl, fun h1 q1 => ?_⟩)
  replace q1 := q1.trans (zput_n _)
  rw [q1]
  have ej : jmin (nI e) (nI ((N, Sum.inl b) : vp_A).1) = nI e := if_neg (nI_nlt he (by omega))
  rw [ej]
  exact cut_loop (ζ' := (cutR b e (e + 1) 0 (0, ζ.2) 0).1) (m' := (cutR b e (e + 1) 0 (0, ζ.2) 0).2) hr ho hN he he9 hb (e + 1) 0 (0, ζ.2) 0 (by omega) (by omega) (by omega) rfl rfl
end CUT
