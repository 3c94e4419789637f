/-! The reference's words -/
def wds : List (List Int32) := [sB 29, sB 20, sB 27, sB 22, sB 31, sB 21, sB 30, sB 17, sB 18, sB 19, sB 23, sB 24, sB 25, sB 28, sB 32, sB 33, sB 26, sB 34, sB 35, sB 36]
def wix (k : Nat) : Nat := [7, 8, 9, 1, 5, 3, 10, 11, 12, 16, 2, 13, 0, 6, 4, 14, 15, 17, 18, 19].getD (k - 17) 0
/-- these bytes stand there -/
def mtc (b : Nat → Int32) (fr to : Nat) (cs : List Int32) : Bool := decide (fr + cs.length = to ∧ ∀ j, j < cs.length → b (fr + j) = cs.getD j 0)
def wfind (b : Nat → Int32) (fr to : Nat) : List (List Int32) → Int32 → Int32
  | [], _ => 3
  | cs :: r, w => if mtc b fr to cs = true then w else wfind b fr to r (w + 1)
def wjoin : List (List Int32) → List Int32
  | [] => []
  | c :: r => c ++ (32 :: wjoin r)
section MWD
variable {g : jG} {d : Nat} {h hs : jH} {m : Nat} {μ ν : MW} {i k n w : Int32} {b : Nat → Int32} {e fr to : Nat}
theorem wo_one {L : List Int32} (eL : L = sB 1) : ∀ (cs rest : List Int32) (i : Nat) (word : Int32) (a : Nat) (l : Bool), L.drop i = cs ++ (32 :: rest) → (∀ c, c ∈ cs → ¬ c = 32) → woR b fr to (L.length - i) i word a l = if l = true ∧ a + cs.length = to ∧ ∀ j, j < cs.length → b (a + j) = cs.getD j 0 then word else woR b fr to (L.length - (i + cs.length + 1)) (i + cs.length + 1) (word + 1) fr true := by
  intro cs
  induction cs with
  | nil =>
    intro rest i word a l hd hc
    have hi : i < L.length := by
      have := congrArg List.length hd
      rw [List.length_drop] at this
      simp at this
      omega
    have h0 : (sB 1).getD i 0 = 32 := by
      rw [← eL]
      have := congrArg (fun l => l.getD 0 0) hd
      simp [List.getD_eq_getElem?_getD, List.getElem?_drop] at this ⊢
      exact this
    rw [show L.length - i = (L.length - (i + 1)) + 1 by omega, woR, if_pos h0]
    by_cases c : l = true ∧ a = to
    · rw [if_pos c, if_pos ⟨c.1, c.2, fun j hj => absurd hj (Nat.not_lt_zero j)⟩]
    · rw [if_neg c, if_neg (fun f => c ⟨f.1, f.2.1⟩)]
      rfl
  | cons c cs ih =>
    intro rest i word a l hd hc
    have hi : i < L.length := by
      have := congrArg List.length hd
      rw [List.length_drop] at this
      simp at this
      omega
    have h0 : (sB 1).getD i 0 = c := by
      rw [← eL]
      have := congrArg (fun l => l.getD 0 0) hd
      simp [List.getD_eq_getElem?_getD, List.getElem?_drop] at this ⊢
      exact this
    have hd2 : L.drop (i + 1) = cs ++ (32 :: rest) := by
      have := congrArg (fun l => l.drop 1) hd
      simpa [List.drop_drop] using this
    have c32 : ¬ c = 32 := hc c (List.mem_cons_self)
    have hl : (c :: cs).length = cs.length + 1 := rfl
    have E : ((l && decide (a < to ∧ b a = c)) = true ∧ a + 1 + cs.length = to ∧ ∀ j, j < cs.length → b (a + 1 + j) = cs.getD j 0) ↔ (l = true ∧ a + (c :: cs).length = to ∧ ∀ j, j < (c :: cs).length → b (a + j) = (c :: cs).getD j 0) := by
      rw [hl]
      constructor
      · rintro ⟨f1, f2, f3⟩
        rw [Bool.and_eq_true] at f1
        have f4 := of_decide_eq_true f1.2
        refine ⟨f1.1, by omega, fun j hj => ?_⟩
        cases j with
        | zero => exact f4.2
        | succ j =>
          have := f3 j (by omega)
          rw [show a + (j + 1) = a + 1 + j by omega, this]
          rfl
      · rintro ⟨q1, q2, q3⟩
        refine ⟨?_, by omega, fun j hj => ?_⟩
        · have : b a = c := q3 0 (by omega)
          rw [q1, decide_eq_true ⟨(by omega : a < to), this⟩]
          rfl
        · have := q3 (j + 1) (by omega)
          rw [show a + 1 + j = a + (j + 1) by omega, this]
          rfl
    have ei : i + 1 + cs.length + 1 = i + (c :: cs).length + 1 := by rw [hl]; omega
    rw [show L.length - i = (L.length - (i + 1)) + 1 by omega, woR, if_neg (by rw [h0]; exact c32), h0, ih rest (i + 1) word (a + 1) _ hd2 (fun x hx => hc x (List.mem_cons_of_mem _ hx)), ei]
    by_cases q : (l && decide (a < to ∧ b a = c)) = true ∧ a + 1 + cs.length = to ∧ ∀ j, j < cs.length → b (a + 1 + j) = cs.getD j 0
    · rw [if_pos q, if_pos (E.mp q)]
    · rw [if_neg q, if_neg (fun f => q (E.mpr f))]
theorem wo_all {L : List Int32} (eL : L = sB 1) : ∀ (ws : List (List Int32)) (i : Nat) (word : Int32), L.drop i = wjoin ws → (∀ cs, cs ∈ ws → ∀ c, c ∈ cs → ¬ c = 32) → woR b fr to (L.length - i) i word fr true = wfind b fr to ws word := by
  intro ws
  induction ws with
  | nil =>
    intro i word hd _
    have : L.length - i = 0 := by
      have := congrArg List.length hd
      rw [List.length_drop] at this
      exact this
    rw [this]; rfl
  | cons cs ws ih =>
    intro i word hd hc
    rw [wo_one eL cs (wjoin ws) i word fr true hd (hc cs List.mem_cons_self)]
    have hd2 : L.drop (i + cs.length + 1) = wjoin ws := by
      have := congrArg (fun l => l.drop (cs.length + 1)) hd
      simp only [List.drop_drop] at this
      rw [show i + cs.length + 1 = i + (cs.length + 1) by omega, this]
      show (cs ++ (32 :: wjoin ws)).drop (cs.length + 1) = _
      rw [List.drop_append]
      simp
    rw [ih (i + cs.length + 1) (word + 1) hd2 (fun x hx => hc x (List.mem_cons_of_mem _ hx))]
    show _ = if mtc b fr to cs = true then word else _
    by_cases q : fr + cs.length = to ∧ ∀ j, j < cs.length → b (fr + j) = cs.getD j 0
    · rw [if_pos ⟨rfl, q⟩, if_pos (show mtc b fr to cs = true from decide_eq_true q)]
    · rw [if_neg (fun f => q f.2), if_neg (show ¬ mtc b fr to cs = true from fun f => q (of_decide_eq_true f))]
theorem wds_j : sB 1 = wjoin wds := by decide +kernel
theorem wds_32 : ∀ cs, cs ∈ wds → ∀ c, c ∈ cs → ¬ c = 32 := by decide +kernel
theorem wordF_f : wordF b fr to = wfind b fr to wds 128 := by
  have z := wo_all (b := b) (fr := fr) (to := to) (L := sB 1) rfl wds 0 128 (by rw [List.drop_zero]; exact wds_j) wds_32
  rw [Nat.sub_zero] at z
  exact z
theorem mtc_u {cs cs' : List Int32} (h1 : mtc b fr to cs = true) (h2 : mtc b fr to cs' = true) : cs = cs' := by
  obtain ⟨a1, a2⟩ := of_decide_eq_true h1
  obtain ⟨b1, b2⟩ := of_decide_eq_true h2
  have el : cs.length = cs'.length := by omega
  refine List.ext_getElem el (fun j h3 h4 => ?_)
  have e1 := a2 j h3
  have e2 := b2 j h4
  rw [gD_at h3] at e1
  rw [gD_at h4] at e2
  exact e1.symm.trans e2
theorem wf_a : ∀ (ws : List (List Int32)) (v j : Nat), j < ws.length → mtc b fr to (ws.getD j []) = true → (∀ i, i < j → ¬ mtc b fr to (ws.getD i []) = true) → wfind b fr to ws (nI v) = nI (v + j)
  | [], v, j, hj, _, _ => absurd hj (Nat.not_lt_zero j)
  | cs :: ws, v, j, hj, h1, h2 => by
    rw [wfind]
    cases j with
    | zero =>
      rw [if_pos (by simpa using h1)]
      rfl
    | succ j =>
      rw [if_neg (by simpa using h2 0 (by omega)), nI_1, wf_a ws (v + 1) j (by simp at hj; omega) (by simpa using h1) (fun i hi => by simpa using h2 (i + 1) (by omega)), show v + 1 + j = v + (j + 1) by omega]
theorem wf_b : ∀ (ws : List (List Int32)) (v j : Nat), 3 < v → v + ws.length < 1000 → j < ws.length → wfind b fr to ws (nI v) = nI (v + j) → mtc b fr to (ws.getD j []) = true
  | [], v, j, _, _, hj, _ => absurd hj (Nat.not_lt_zero j)
  | cs :: ws, v, j, h3, hv, hj, h1 => by
    have hv2 : v + (ws.length + 1) < 1000 := hv
    have hj2 : j < ws.length + 1 := hj
    have inj : ∀ {a c : Nat}, a < 1000 → c < 1000 → nI a = nI c → a = c := fun ha hc f => by
      have := congrArg Int32.toInt f
      rw [nI_toInt (by omega), nI_toInt (by omega)] at this
      omega
    rw [wfind] at h1
    by_cases c : mtc b fr to cs = true
    · rw [if_pos c] at h1
      have := inj (by omega) (by omega) h1
      have : j = 0 := by omega
      subst this
      simpa using c
    · rw [if_neg c, nI_1] at h1
      cases j with
      | zero =>
        exfalso
        have ge : ∀ (ws : List (List Int32)) (u : Nat), 3 < u → u + ws.length < 1000 → wfind b fr to ws (nI u) = nI 3 ∨ ∃ x, u ≤ x ∧ x < 1000 ∧ wfind b fr to ws (nI u) = nI x := by
          intro ws
          induction ws with
          | nil => intro u _ _; exact Or.inl rfl
          | cons c r ih =>
            intro u h3 hu
            have hu : u + (r.length + 1) < 1000 := hu
            rw [wfind]
            by_cases q : mtc b fr to c = true
            · rw [if_pos q]; exact Or.inr ⟨u, Nat.le_refl _, by omega, rfl⟩
            · rw [if_neg q, nI_1]
              rcases ih (u + 1) (by omega) (by omega) with f | ⟨x, f1, f2, f3⟩
              · exact Or.inl f
              · exact Or.inr ⟨x, by omega, f2, f3⟩
        rcases ge ws (v + 1) (by omega) (by omega) with f | ⟨x, f1, f2, f3⟩
        · rw [f] at h1
          have := inj (by omega) (by omega) h1
          omega
        · rw [f3] at h1
          have := inj f2 (by omega) h1
          omega
      | succ j =>
        have := wf_b ws (v + 1) j (by omega) (by omega) (by omega) (by rw [h1, show v + 1 + j = v + (j + 1) by omega])
        simpa using this
theorem wds_u : ∀ i, i < 20 → ∀ j, j < 20 → wds.getD i [] = wds.getD j [] → i = j := by decide +kernel
theorem word_iff {j : Nat} (hj : j < 20) : wordF b fr to = nI (128 + j) ↔ mtc b fr to (wds.getD j []) = true := by
  rw [wordF_f]
  constructor
  · exact wf_b wds 128 j (by decide) (by decide) hj
  · intro h1
    refine wf_a wds 128 j hj h1 (fun i hi h2 => ?_)
    have := wds_u i (by omega) j hj (mtc_u h2 h1)
    omega
theorem wix_s : ∀ k, k < 37 → 17 ≤ k → wds.getD (wix k) [] = sB k ∧ wix k < 20 ∧ (sB k).length < 10 := by decide +kernel
theorem let_s : ∀ k, k < 37 → 17 ≤ k → ∀ j, j < (sB k).length → ∀ n, n < 256 → ((nI n - 128) &&& 255 = (sB k).getD j 0 ↔ nI n - 128 = (sB k).getD j 0) := by decide +kernel
theorem m_isWord {k s hd : Nat} (t : tape μ b e) (hk : k < 37) (hk2 : 17 ≤ k) (h9 : μ.1 9 = nI s) (h8 : μ.1 8 = nI hd) (h1 : s ≤ hd) (h2 : hd ≤ e) : Con g mX12_isWord (d + 5) [.ref m, .ref (gS g k)] (mw h m μ) (wv h m μ (bI (decide (μ.1 12 = 0 ∧ μ.1 10 = 1 ∧ mtc b s hd (sB k) = true)))) := by
  have he := t.1.2
  obtain ⟨-, -, hl⟩ := wix_s k hk hk2
  have CL : Con g mJ0_length_8abf5 (d + 4) [.ref (gS g k)] (mw h m μ) (wv h m μ (nI (sB k).length)) := (c_length (d := d + 2) hk).pi (fun r h' q => q) (fun E h' f => f)
  have no : ∀ {hs x3} {p : Prop} [Decidable p], ¬ p → J g mX12_isWord (d + 5) hs (wv h m μ (bI (decide p))) 39 [(0, .ref m), (1, .ref (gS g k)), (2, .int 0), (3, .int x3)] [] (mw h m μ) := fun c =>
    wX12_isWord_39 ⟨fun _ => ⟨Or.inl rfl, by rw [decide_eq_false c]; rfl, rfl⟩, fun f => absurd rfl f⟩
  refine con_of km_X12_isWord.1.2.2.2.2 (Nat.le_of_ble_eq_true rfl) rfl (wX12_isWord_0 ⟨fun c1 => ⟨fun c2 => ⟨⟨k, hk, rfl⟩, _, CL, fun c3 => ?_, fun c3 => ?_⟩, fun c2 => no (fun f => c2 f.2.1)⟩, fun c1 => no (fun f => c1 f.1)⟩)
  · have ed : μ.1 8 - μ.1 9 = nI (hd - s) := by
      rw [h8, h9]
      apply Int32.toInt_inj.mp
      rw [tI_sub (by rw [nI_toInt (by omega), nI_toInt (by omega)]; omega), nI_toInt (by omega), nI_toInt (by omega), nI_toInt (by omega)]
      omega
    rw [ed] at c3
    have c3 : hd - s = (sB k).length := by
      have := congrArg Int32.toInt c3
      rw [nI_toInt (by omega), nI_toInt (by omega)] at this
      omega
    have loop : ∀ r j, j + r = (sB k).length → (∀ i, i < j → b (s + i) = (sB k).getD i 0) → J g mX12_isWord (d + 5) (mw h m μ) (wv h m μ (bI (decide (μ.1 12 = 0 ∧ μ.1 10 = 1 ∧ mtc b s hd (sB k) = true)))) 39 [(0, .ref m), (1, .ref (gS g k)), (2, .int 1), (3, .int (nI j))] [] (mw h m μ) := by
      intro r
      induction r with
      | zero =>
        intro j hj hb
        have : j = (sB k).length := by omega
        subst this
        refine wX12_isWord_39 ⟨fun f => absurd f (by decide), fun _ => ⟨⟨k, hk, rfl⟩, _, CL, fun f => absurd f (nI_nlt (by omega) (by omega)), fun _ => ⟨Or.inr rfl, ?_, rfl⟩⟩⟩
        rw [decide_eq_true ⟨c1, c2, decide_eq_true ⟨by omega, hb⟩⟩]; rfl
      | succ r ih =>
        intro j hj hb
        have CC : Con g mJ0_charAt_5068e (d + 4) [.ref (gS g k), .int (nI j)] (mw h m μ) (wv h m μ ((sB k).getD j 0)) := (c_charAt (d := d) hk (by omega)).pi (fun r h' q => q) (fun E h' f => f)
        have e5 : μ.2.1 5 (ix (μ.1 9 + nI j)) = b (s + j) &&& 255 := by
          rw [h9, nI_plus, ix_nI (by omega)]
          exact t.2.2 _ (by omega)
        obtain ⟨n, hn, en⟩ := t.2.1 (s + j)
        refine wX12_isWord_39 ⟨fun f => absurd f (by decide), fun _ => ⟨⟨k, hk, rfl⟩, _, CL, fun _ => ⟨?_, ⟨k, hk, rfl⟩, _, CC, fun f => ?_, fun f => ?_⟩, fun f => absurd (nI_lt (by omega) (by omega)) f⟩⟩
        · rw [h9, nI_plus]; exact vp_in_nI (by omega) (by decide)
        · rw [e5, en] at f
          have f := (let_s k hk hk2 j (by omega) n hn).mp f
          rw [← en] at f
          rw [nI_1]
          refine ih (j + 1) (by omega) (fun i hi => ?_)
          by_cases q : i = j
          · rw [q]; exact f
          · exact hb i (by omega)
        · rw [e5, en] at f
          refine no (fun q => ?_)
          have := (of_decide_eq_true q.2.2).2 j (by omega)
          rw [en] at this
          exact f ((let_s k hk hk2 j (by omega) n hn).mpr this)
    exact loop (sB k).length 0 (by omega) (fun i hi => absurd hi (Nat.not_lt_zero i))
  · refine no (fun f => c3 ?_)
    have := (of_decide_eq_true f.2.2).1
    rw [h8, h9]
    apply Int32.toInt_inj.mp
    rw [tI_sub (by rw [nI_toInt (by omega), nI_toInt (by omega)]; omega), nI_toInt (by omega), nI_toInt (by omega), nI_toInt (by omega)]
    omega
end MWD
