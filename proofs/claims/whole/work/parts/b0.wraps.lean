/-! The law's methods with handlers -/
theorem vin01 : vp_in 0 1 := by unfold vp_in; decide
theorem jPi_in {Q : Int32 → jH → Prop} {X : String → jH → Prop} {v : Option Value} {h : jH} (hp : jPi Q X (.inl v) h) : ∃ r, v = some (.int r) ∧ Q r h := by
  match v, hp with
  | (some (.int r)), hp => exact ⟨r, rfl, hp⟩
theorem jPl_in {Q : Int64 → jH → Prop} {X : String → jH → Prop} {v : Option Value} {h : jH} (hp : jPl Q X (.inl v) h) : ∃ r, v = some (.long r) ∧ Q r h := by
  match v, hp with
  | (some (.long r)), hp => exact ⟨r, rfl, hp⟩
theorem jPv_in {Q : jH → Prop} {X : String → jH → Prop} {v : Option Value} {h : jH} (hp : jPv Q X (.inl v) h) : v = none ∧ Q h := by
  match v, hp with
  | none, hp => exact ⟨rfl, hp⟩
/-- what such a method leaves: 0 and the answer in the long array a, or which exception it was -/
def wrQ {α : Type} (xs : List String) (a : Nat) (c : α → Int64) (Q : α → jH → Prop) (X : String → jH → Prop) : Int32 → jH → Prop := fun k h' => (k = 0 ∧ ∃ v h1, Q v h1 ∧ ∃ f : Nat → Int64, h1.1 a = some (.inl (3, (1, .inr (.inl f)))) ∧ h' = jset h1 a (.inl (3, (1, .inr (.inl (vp_updL f 0 (c v))))))) ∨ ∃ E, X E h' ∧ k = codE xs E 1
def wrV (xs : List String) (Q : jH → Prop) (X : String → jH → Prop) : Int32 → jH → Prop := fun k h' => (k = 0 ∧ Q h') ∨ ∃ E, X E h' ∧ k = codE xs E 1
abbrev mL_street : jM := (yL_street, cL_street, 4, (some (.int)), [(0, 9, 12, 13)])
theorem km_L_street : jMh mL_street 3 := ⟨⟨jw_in 578 (by decide +kernel), jw_in 0 (by decide +kernel), by decide, ⟨by decide +kernel, by decide +kernel, by decide +kernel⟩, by decide +kernel⟩, ⟨_, _, rfl⟩, jw_in 577 (by decide +kernel)⟩
theorem jlc_13 : Cond.classLink RL 13 iae ∈ lw_tbl := jw_in 579 (by decide +kernel)
theorem jcc_iae : Cond.castable iae iae ∈ lw_tbl := jw_in 586 (by decide +kernel)
theorem jl_L_7 : Cond.methodLink RL 7 mX11_street.1 ∈ lw_tbl := jw_in 580 (by decide +kernel)
theorem jk_L_street_0 {g : jG} (hN : jnc g) : jCat g RL [(0, 9, 12, 13)] 4 iae 12 := ⟨[], ⟨0, 9, 12, 13⟩, [], iae, rfl, (fun z hz => nomatch hz), by decide, by decide, jlc_13, jcc_iae, rfl⟩
theorem l_street {g : jG} {d : Nat} {h : jH} {o a : Nat} {fs : List Value} {x1 : Int32} {Q : Int32 → jH → Prop} {X : String → jH → Prop} (hN : jnc g) (ho : h.1 o = some (.inr (11, fs))) (C : Con g mX11_street d [.ref o, .int x1] h (jPi Q X)) (hQ : ∀ r h', Q r h' → ∃ f : Nat → Int64, h'.1 a = some (.inl (3, (1, .inr (.inl f))))) (hX : ∀ E h', X E h' → E = iae) : Con g mL_street (d + 1) [.ref o, .int x1, .ref a] h (jPi (wrQ [iae] a (fun r => r.toInt64) Q X) no2) := by
  refine con_ofH (μ := mL_street) (by decide +kernel) (Nat.le_of_ble_eq_true rfl) ⟨_, _, rfl⟩ ?_
  show J g mL_street (d + 1) h _ 0 [(0, .ref o), (1, .int x1), (2, .ref a)] [] h
  refine jr_aload_n 2 dL_street_0 rfl rfl ?_
  refine jr_iconst dL_street_1 rfl ?_
  refine jr_aload_n 0 dL_street_2 rfl rfl ?_
  refine jr_iload_n 1 dL_street_3 rfl rfl ?_
  refine jr_callVH (P2 := jPi Q X) (st := [.int 0, .ref a]) (As := [.int x1]) jl_L_7 km_X11_street rfl dL_street_4 ho (Nat.le_of_ble_eq_true rfl) C (fun v h' hq => ?_) (fun E h' hq => ?_)
  · obtain ⟨r, rfl, hr⟩ := jPi_in hq
    obtain ⟨f, hf⟩ := hQ r h' hr
    show J g mL_street (d + 1) h _ 7 [(0, .ref o), (1, .int x1), (2, .ref a)] [.int r, .int 0, .ref a] h'
    refine jr_i2l dL_street_7 ?_
    refine jr_last dL_street_8 hf vin01 ?_
    refine jr_goto (tgt := 15) dL_street_9 (by decide) ?_
    refine jr_iconst dL_street_15 rfl ?_
    exact jr_iret (ty := .int) rfl rfl dL_street_16 (Or.inl ⟨rfl, r, h', hr, f, hf, rfl⟩)
  · obtain rfl := hX E h' hq
    refine ⟨_, jk_L_street_0 hN, fun q => ?_⟩
    refine jr_astore_n dL_street_12 rfl (by decide) rfl ?_
    refine jr_iconst dL_street_13 rfl ?_
    exact jr_iret (ty := .int) rfl rfl dL_street_14 (Or.inr ⟨_, hq, Eq.symm (cod_i)⟩)
abbrev mL_house : jM := (yL_house, cL_house, 5, (some (.int)), [(0, 10, 13, 19), (0, 10, 17, 13)])
theorem km_L_house : jMh mL_house 4 := ⟨⟨jw_in 887 (by decide +kernel), jw_in 0 (by decide +kernel), by decide, ⟨by decide +kernel, by decide +kernel, by decide +kernel⟩, by decide +kernel⟩, ⟨_, _, rfl⟩, jw_in 886 (by decide +kernel)⟩
theorem jlc_19 : Cond.classLink RL 19 nse ∈ lw_tbl := jw_in 888 (by decide +kernel)
theorem jcc_nse : Cond.castable nse nse ∈ lw_tbl := jw_in 900 (by decide +kernel)
theorem jl_L_15 : Cond.methodLink RL 15 mX11_house.1 ∈ lw_tbl := jw_in 889 (by decide +kernel)
theorem jk_L_house_0 {g : jG} (hN : jnc g) : jCat g RL [(0, 10, 13, 19), (0, 10, 17, 13)] 5 nse 13 := ⟨[], ⟨0, 10, 13, 19⟩, [⟨0, 10, 17, 13⟩], nse, rfl, (fun z hz => nomatch hz), by decide, by decide, jlc_19, jcc_nse, rfl⟩
theorem jk_L_house_1 {g : jG} (hN : jnc g) : jCat g RL [(0, 10, 13, 19), (0, 10, 17, 13)] 5 iae 17 := ⟨[⟨0, 10, 13, 19⟩], ⟨0, 10, 17, 13⟩, [], iae, rfl, List.forall_mem_cons.mpr ⟨Or.inr ⟨by decide, nse, jlc_19, jnc_at hN 3 rfl⟩, (fun z hz => nomatch hz)⟩, by decide, by decide, jlc_13, jcc_iae, rfl⟩
theorem l_house {g : jG} {d : Nat} {h : jH} {o a : Nat} {fs : List Value} {x1 : Int32} {x2 : Int32} {Q : Int32 → jH → Prop} {X : String → jH → Prop} (hN : jnc g) (ho : h.1 o = some (.inr (11, fs))) (C : Con g mX11_house d [.ref o, .int x1, .int x2] h (jPi Q X)) (hQ : ∀ r h', Q r h' → ∃ f : Nat → Int64, h'.1 a = some (.inl (3, (1, .inr (.inl f))))) (hX : ∀ E h', X E h' → E = nse ∨ E = iae) : Con g mL_house (d + 1) [.ref o, .int x1, .int x2, .ref a] h (jPi (wrQ [nse, iae] a (fun r => r.toInt64) Q X) no2) := by
  refine con_ofH (μ := mL_house) (by decide +kernel) (Nat.le_of_ble_eq_true rfl) ⟨_, _, rfl⟩ ?_
  show J g mL_house (d + 1) h _ 0 [(0, .ref o), (1, .int x1), (2, .int x2), (3, .ref a)] [] h
  refine jr_aload_n 3 dL_house_0 rfl rfl ?_
  refine jr_iconst dL_house_1 rfl ?_
  refine jr_aload_n 0 dL_house_2 rfl rfl ?_
  refine jr_iload_n 1 dL_house_3 rfl rfl ?_
  refine jr_iload_n 2 dL_house_4 rfl rfl ?_
  refine jr_callVH (P2 := jPi Q X) (st := [.int 0, .ref a]) (As := [.int x1, .int x2]) jl_L_15 km_X11_house rfl dL_house_5 ho (Nat.le_of_ble_eq_true rfl) C (fun v h' hq => ?_) (fun E h' hq => ?_)
  · obtain ⟨r, rfl, hr⟩ := jPi_in hq
    obtain ⟨f, hf⟩ := hQ r h' hr
    show J g mL_house (d + 1) h _ 8 [(0, .ref o), (1, .int x1), (2, .int x2), (3, .ref a)] [.int r, .int 0, .ref a] h'
    refine jr_i2l dL_house_8 ?_
    refine jr_last dL_house_9 hf vin01 ?_
    refine jr_goto (tgt := 21) dL_house_10 (by decide) ?_
    refine jr_iconst dL_house_21 rfl ?_
    exact jr_iret (ty := .int) rfl rfl dL_house_22 (Or.inl ⟨rfl, r, h', hr, f, hf, rfl⟩)
  · rcases hX E h' hq with rfl | rfl
    · refine ⟨_, jk_L_house_0 hN, fun q => ?_⟩
      refine jr_astore dL_house_13 (by decide) rfl ?_
      refine jr_iconst dL_house_15 rfl ?_
      exact jr_iret (ty := .int) rfl rfl dL_house_16 (Or.inr ⟨_, hq, Eq.symm (cod_i)⟩)
    · refine ⟨_, jk_L_house_1 hN, fun q => ?_⟩
      refine jr_astore dL_house_17 (by decide) rfl ?_
      refine jr_iconst dL_house_19 rfl ?_
      exact jr_iret (ty := .int) rfl rfl dL_house_20 (Or.inr ⟨_, hq, Eq.symm ((cod_n (by decide)).trans (cod_i))⟩)
abbrev mL_household : jM := (yL_household, cL_household, 5, (some (.int)), [(0, 10, 13, 19), (0, 10, 17, 13)])
theorem km_L_household : jMh mL_household 4 := ⟨⟨jw_in 918 (by decide +kernel), jw_in 0 (by decide +kernel), by decide, ⟨by decide +kernel, by decide +kernel, by decide +kernel⟩, by decide +kernel⟩, ⟨_, _, rfl⟩, jw_in 917 (by decide +kernel)⟩
theorem jl_L_21 : Cond.methodLink RL 21 mX11_household.1 ∈ lw_tbl := jw_in 919 (by decide +kernel)
theorem jk_L_household_0 {g : jG} (hN : jnc g) : jCat g RL [(0, 10, 13, 19), (0, 10, 17, 13)] 5 nse 13 := ⟨[], ⟨0, 10, 13, 19⟩, [⟨0, 10, 17, 13⟩], nse, rfl, (fun z hz => nomatch hz), by decide, by decide, jlc_19, jcc_nse, rfl⟩
theorem jk_L_household_1 {g : jG} (hN : jnc g) : jCat g RL [(0, 10, 13, 19), (0, 10, 17, 13)] 5 iae 17 := ⟨[⟨0, 10, 13, 19⟩], ⟨0, 10, 17, 13⟩, [], iae, rfl, List.forall_mem_cons.mpr ⟨Or.inr ⟨by decide, nse, jlc_19, jnc_at hN 3 rfl⟩, (fun z hz => nomatch hz)⟩, by decide, by decide, jlc_13, jcc_iae, rfl⟩
theorem l_household {g : jG} {d : Nat} {h : jH} {o a : Nat} {fs : List Value} {x1 : Int32} {x2 : Int32} {Q : Int32 → jH → Prop} {X : String → jH → Prop} (hN : jnc g) (ho : h.1 o = some (.inr (11, fs))) (C : Con g mX11_household d [.ref o, .int x1, .int x2] h (jPi Q X)) (hQ : ∀ r h', Q r h' → ∃ f : Nat → Int64, h'.1 a = some (.inl (3, (1, .inr (.inl f))))) (hX : ∀ E h', X E h' → E = nse ∨ E = iae) : Con g mL_household (d + 1) [.ref o, .int x1, .int x2, .ref a] h (jPi (wrQ [nse, iae] a (fun r => r.toInt64) Q X) no2) := by
  refine con_ofH (μ := mL_household) (by decide +kernel) (Nat.le_of_ble_eq_true rfl) ⟨_, _, rfl⟩ ?_
  show J g mL_household (d + 1) h _ 0 [(0, .ref o), (1, .int x1), (2, .int x2), (3, .ref a)] [] h
  refine jr_aload_n 3 dL_household_0 rfl rfl ?_
  refine jr_iconst dL_household_1 rfl ?_
  refine jr_aload_n 0 dL_household_2 rfl rfl ?_
  refine jr_iload_n 1 dL_household_3 rfl rfl ?_
  refine jr_iload_n 2 dL_household_4 rfl rfl ?_
  refine jr_callVH (P2 := jPi Q X) (st := [.int 0, .ref a]) (As := [.int x1, .int x2]) jl_L_21 km_X11_household rfl dL_household_5 ho (Nat.le_of_ble_eq_true rfl) C (fun v h' hq => ?_) (fun E h' hq => ?_)
  · obtain ⟨r, rfl, hr⟩ := jPi_in hq
    obtain ⟨f, hf⟩ := hQ r h' hr
    show J g mL_household (d + 1) h _ 8 [(0, .ref o), (1, .int x1), (2, .int x2), (3, .ref a)] [.int r, .int 0, .ref a] h'
    refine jr_i2l dL_household_8 ?_
    refine jr_last dL_household_9 hf vin01 ?_
    refine jr_goto (tgt := 21) dL_household_10 (by decide) ?_
    refine jr_iconst dL_household_21 rfl ?_
    exact jr_iret (ty := .int) rfl rfl dL_household_22 (Or.inl ⟨rfl, r, h', hr, f, hf, rfl⟩)
  · rcases hX E h' hq with rfl | rfl
    · refine ⟨_, jk_L_household_0 hN, fun q => ?_⟩
      refine jr_astore dL_household_13 (by decide) rfl ?_
      refine jr_iconst dL_household_15 rfl ?_
      exact jr_iret (ty := .int) rfl rfl dL_household_16 (Or.inr ⟨_, hq, Eq.symm (cod_i)⟩)
    · refine ⟨_, jk_L_household_1 hN, fun q => ?_⟩
      refine jr_astore dL_household_17 (by decide) rfl ?_
      refine jr_iconst dL_household_19 rfl ?_
      exact jr_iret (ty := .int) rfl rfl dL_household_20 (Or.inr ⟨_, hq, Eq.symm ((cod_n (by decide)).trans (cod_i))⟩)
abbrev mL_pays : jM := (yL_pays, cL_pays, 4, (some (.int)), [(0, 9, 12, 19), (0, 9, 15, 27)])
theorem km_L_pays : jMh mL_pays 3 := ⟨⟨jw_in 926 (by decide +kernel), jw_in 0 (by decide +kernel), by decide, ⟨by decide +kernel, by decide +kernel, by decide +kernel⟩, by decide +kernel⟩, ⟨_, _, rfl⟩, jw_in 925 (by decide +kernel)⟩
theorem jlc_27 : Cond.classLink RL 27 ise ∈ lw_tbl := jw_in 927 (by decide +kernel)
theorem jcc_ise : Cond.castable ise ise ∈ lw_tbl := jw_in 939 (by decide +kernel)
theorem jl_L_24 : Cond.methodLink RL 24 mX11_pays.1 ∈ lw_tbl := jw_in 928 (by decide +kernel)
theorem jk_L_pays_0 {g : jG} (hN : jnc g) : jCat g RL [(0, 9, 12, 19), (0, 9, 15, 27)] 4 nse 12 := ⟨[], ⟨0, 9, 12, 19⟩, [⟨0, 9, 15, 27⟩], nse, rfl, (fun z hz => nomatch hz), by decide, by decide, jlc_19, jcc_nse, rfl⟩
theorem jk_L_pays_1 {g : jG} (hN : jnc g) : jCat g RL [(0, 9, 12, 19), (0, 9, 15, 27)] 4 ise 15 := ⟨[⟨0, 9, 12, 19⟩], ⟨0, 9, 15, 27⟩, [], ise, rfl, List.forall_mem_cons.mpr ⟨Or.inr ⟨by decide, nse, jlc_19, jnc_at hN 6 rfl⟩, (fun z hz => nomatch hz)⟩, by decide, by decide, jlc_27, jcc_ise, rfl⟩
theorem l_pays {g : jG} {d : Nat} {h : jH} {o a : Nat} {fs : List Value} {x1 : Int32} {Q : Int32 → jH → Prop} {X : String → jH → Prop} (hN : jnc g) (ho : h.1 o = some (.inr (11, fs))) (C : Con g mX11_pays d [.ref o, .int x1] h (jPi Q X)) (hQ : ∀ r h', Q r h' → ∃ f : Nat → Int64, h'.1 a = some (.inl (3, (1, .inr (.inl f))))) (hX : ∀ E h', X E h' → E = nse ∨ E = ise) : Con g mL_pays (d + 1) [.ref o, .int x1, .ref a] h (jPi (wrQ [nse, ise] a (fun r => r.toInt64) Q X) no2) := by
  refine con_ofH (μ := mL_pays) (by decide +kernel) (Nat.le_of_ble_eq_true rfl) ⟨_, _, rfl⟩ ?_
  show J g mL_pays (d + 1) h _ 0 [(0, .ref o), (1, .int x1), (2, .ref a)] [] h
  refine jr_aload_n 2 dL_pays_0 rfl rfl ?_
  refine jr_iconst dL_pays_1 rfl ?_
  refine jr_aload_n 0 dL_pays_2 rfl rfl ?_
  refine jr_iload_n 1 dL_pays_3 rfl rfl ?_
  refine jr_callVH (P2 := jPi Q X) (st := [.int 0, .ref a]) (As := [.int x1]) jl_L_24 km_X11_pays rfl dL_pays_4 ho (Nat.le_of_ble_eq_true rfl) C (fun v h' hq => ?_) (fun E h' hq => ?_)
  · obtain ⟨r, rfl, hr⟩ := jPi_in hq
    obtain ⟨f, hf⟩ := hQ r h' hr
    show J g mL_pays (d + 1) h _ 7 [(0, .ref o), (1, .int x1), (2, .ref a)] [.int r, .int 0, .ref a] h'
    refine jr_i2l dL_pays_7 ?_
    refine jr_last dL_pays_8 hf vin01 ?_
    refine jr_goto (tgt := 18) dL_pays_9 (by decide) ?_
    refine jr_iconst dL_pays_18 rfl ?_
    exact jr_iret (ty := .int) rfl rfl dL_pays_19 (Or.inl ⟨rfl, r, h', hr, f, hf, rfl⟩)
  · rcases hX E h' hq with rfl | rfl
    · refine ⟨_, jk_L_pays_0 hN, fun q => ?_⟩
      refine jr_astore_n dL_pays_12 rfl (by decide) rfl ?_
      refine jr_iconst dL_pays_13 rfl ?_
      exact jr_iret (ty := .int) rfl rfl dL_pays_14 (Or.inr ⟨_, hq, Eq.symm (cod_i)⟩)
    · refine ⟨_, jk_L_pays_1 hN, fun q => ?_⟩
      refine jr_astore_n dL_pays_15 rfl (by decide) rfl ?_
      refine jr_iconst dL_pays_16 rfl ?_
      exact jr_iret (ty := .int) rfl rfl dL_pays_17 (Or.inr ⟨_, hq, Eq.symm ((cod_n (by decide)).trans (cod_i))⟩)
abbrev mL_grows : jM := (yL_grows, cL_grows, 5, (some (.int)), [(0, 10, 13, 19), (0, 10, 17, 13)])
theorem km_L_grows : jMh mL_grows 4 := ⟨⟨jw_in 956 (by decide +kernel), jw_in 0 (by decide +kernel), by decide, ⟨by decide +kernel, by decide +kernel, by decide +kernel⟩, by decide +kernel⟩, ⟨_, _, rfl⟩, jw_in 955 (by decide +kernel)⟩
theorem jl_L_29 : Cond.methodLink RL 29 mX11_grows.1 ∈ lw_tbl := jw_in 957 (by decide +kernel)
theorem jk_L_grows_0 {g : jG} (hN : jnc g) : jCat g RL [(0, 10, 13, 19), (0, 10, 17, 13)] 5 nse 13 := ⟨[], ⟨0, 10, 13, 19⟩, [⟨0, 10, 17, 13⟩], nse, rfl, (fun z hz => nomatch hz), by decide, by decide, jlc_19, jcc_nse, rfl⟩
theorem jk_L_grows_1 {g : jG} (hN : jnc g) : jCat g RL [(0, 10, 13, 19), (0, 10, 17, 13)] 5 iae 17 := ⟨[⟨0, 10, 13, 19⟩], ⟨0, 10, 17, 13⟩, [], iae, rfl, List.forall_mem_cons.mpr ⟨Or.inr ⟨by decide, nse, jlc_19, jnc_at hN 3 rfl⟩, (fun z hz => nomatch hz)⟩, by decide, by decide, jlc_13, jcc_iae, rfl⟩
theorem l_grows {g : jG} {d : Nat} {h : jH} {o a : Nat} {fs : List Value} {x1 : Int32} {x2 : Int32} {Q : Int32 → jH → Prop} {X : String → jH → Prop} (hN : jnc g) (ho : h.1 o = some (.inr (11, fs))) (C : Con g mX11_grows d [.ref o, .int x1, .int x2] h (jPi Q X)) (hQ : ∀ r h', Q r h' → ∃ f : Nat → Int64, h'.1 a = some (.inl (3, (1, .inr (.inl f))))) (hX : ∀ E h', X E h' → E = nse ∨ E = iae) : Con g mL_grows (d + 1) [.ref o, .int x1, .int x2, .ref a] h (jPi (wrQ [nse, iae] a (fun r => r.toInt64) Q X) no2) := by
  refine con_ofH (μ := mL_grows) (by decide +kernel) (Nat.le_of_ble_eq_true rfl) ⟨_, _, rfl⟩ ?_
  show J g mL_grows (d + 1) h _ 0 [(0, .ref o), (1, .int x1), (2, .int x2), (3, .ref a)] [] h
  refine jr_aload_n 3 dL_grows_0 rfl rfl ?_
  refine jr_iconst dL_grows_1 rfl ?_
  refine jr_aload_n 0 dL_grows_2 rfl rfl ?_
  refine jr_iload_n 1 dL_grows_3 rfl rfl ?_
  refine jr_iload_n 2 dL_grows_4 rfl rfl ?_
  refine jr_callVH (P2 := jPi Q X) (st := [.int 0, .ref a]) (As := [.int x1, .int x2]) jl_L_29 km_X11_grows rfl dL_grows_5 ho (Nat.le_of_ble_eq_true rfl) C (fun v h' hq => ?_) (fun E h' hq => ?_)
  · obtain ⟨r, rfl, hr⟩ := jPi_in hq
    obtain ⟨f, hf⟩ := hQ r h' hr
    show J g mL_grows (d + 1) h _ 8 [(0, .ref o), (1, .int x1), (2, .int x2), (3, .ref a)] [.int r, .int 0, .ref a] h'
    refine jr_i2l dL_grows_8 ?_
    refine jr_last dL_grows_9 hf vin01 ?_
    refine jr_goto (tgt := 21) dL_grows_10 (by decide) ?_
    refine jr_iconst dL_grows_21 rfl ?_
    exact jr_iret (ty := .int) rfl rfl dL_grows_22 (Or.inl ⟨rfl, r, h', hr, f, hf, rfl⟩)
  · rcases hX E h' hq with rfl | rfl
    · refine ⟨_, jk_L_grows_0 hN, fun q => ?_⟩
      refine jr_astore dL_grows_13 (by decide) rfl ?_
      refine jr_iconst dL_grows_15 rfl ?_
      exact jr_iret (ty := .int) rfl rfl dL_grows_16 (Or.inr ⟨_, hq, Eq.symm (cod_i)⟩)
    · refine ⟨_, jk_L_grows_1 hN, fun q => ?_⟩
      refine jr_astore dL_grows_17 (by decide) rfl ?_
      refine jr_iconst dL_grows_19 rfl ?_
      exact jr_iret (ty := .int) rfl rfl dL_grows_20 (Or.inr ⟨_, hq, Eq.symm ((cod_n (by decide)).trans (cod_i))⟩)
abbrev mL_takes : jM := (yL_takes, cL_takes, 5, (some (.int)), [(0, 17, 20, 19), (0, 17, 24, 13)])
theorem km_L_takes : jMh mL_takes 4 := ⟨⟨jw_in 970 (by decide +kernel), jw_in 0 (by decide +kernel), by decide, ⟨by decide +kernel, by decide +kernel, by decide +kernel⟩, by decide +kernel⟩, ⟨_, _, rfl⟩, jw_in 969 (by decide +kernel)⟩
theorem jl_L_32 : Cond.methodLink RL 32 mX11_takes.1 ∈ lw_tbl := jw_in 971 (by decide +kernel)
theorem jk_L_takes_0 {g : jG} (hN : jnc g) : jCat g RL [(0, 17, 20, 19), (0, 17, 24, 13)] 5 nse 20 := ⟨[], ⟨0, 17, 20, 19⟩, [⟨0, 17, 24, 13⟩], nse, rfl, (fun z hz => nomatch hz), by decide, by decide, jlc_19, jcc_nse, rfl⟩
theorem jk_L_takes_1 {g : jG} (hN : jnc g) : jCat g RL [(0, 17, 20, 19), (0, 17, 24, 13)] 5 iae 24 := ⟨[⟨0, 17, 20, 19⟩], ⟨0, 17, 24, 13⟩, [], iae, rfl, List.forall_mem_cons.mpr ⟨Or.inr ⟨by decide, nse, jlc_19, jnc_at hN 3 rfl⟩, (fun z hz => nomatch hz)⟩, by decide, by decide, jlc_13, jcc_iae, rfl⟩
theorem l_takes {g : jG} {d : Nat} {h : jH} {o a : Nat} {fs : List Value} {x1 : Int32} {x2 : Int32} {Q : Int32 → jH → Prop} {X : String → jH → Prop} (hN : jnc g) (ho : h.1 o = some (.inr (11, fs))) (C : Con g mX11_takes d [.ref o, .int x1, .int x2] h (jPi Q X)) (hQ : ∀ r h', Q r h' → ∃ f : Nat → Int64, h'.1 a = some (.inl (3, (1, .inr (.inl f))))) (hX : ∀ E h', X E h' → E = nse ∨ E = iae) : Con g mL_takes (d + 1) [.ref o, .int x1, .int x2, .ref a] h (jPi (wrQ [nse, iae] a (fun r => if r = 0 then 0 else 1) Q X) no2) := by
  refine con_ofH (μ := mL_takes) (by decide +kernel) (Nat.le_of_ble_eq_true rfl) ⟨_, _, rfl⟩ ?_
  show J g mL_takes (d + 1) h _ 0 [(0, .ref o), (1, .int x1), (2, .int x2), (3, .ref a)] [] h
  refine jr_aload_n 3 dL_takes_0 rfl rfl ?_
  refine jr_iconst dL_takes_1 rfl ?_
  refine jr_aload_n 0 dL_takes_2 rfl rfl ?_
  refine jr_iload_n 1 dL_takes_3 rfl rfl ?_
  refine jr_iload_n 2 dL_takes_4 rfl rfl ?_
  refine jr_callVH (P2 := jPi Q X) (st := [.int 0, .ref a]) (As := [.int x1, .int x2]) jl_L_32 km_X11_takes rfl dL_takes_5 ho (Nat.le_of_ble_eq_true rfl) C (fun v h' hq => ?_) (fun E h' hq => ?_)
  · obtain ⟨r, rfl, hr⟩ := jPi_in hq
    obtain ⟨f, hf⟩ := hQ r h' hr
    show J g mL_takes (d + 1) h _ 8 [(0, .ref o), (1, .int x1), (2, .int x2), (3, .ref a)] [.int r, .int 0, .ref a] h'
    refine jr_if_eq (tgt := 15) dL_takes_8 (by decide) (fun c => ?_) (fun c => ?_)
    · refine jr_lconst dL_takes_15 rfl ?_
      refine jr_last dL_takes_16 hf vin01 ?_
      refine jr_goto (tgt := 28) dL_takes_17 (by decide) ?_
      refine jr_iconst dL_takes_28 rfl ?_
      exact jr_iret (ty := .int) rfl rfl dL_takes_29 (Or.inl ⟨rfl, r, h', hr, f, hf, by show _ = jset h' a (.inl (3, (1, .inr (.inl (vp_updL f 0 (if r = 0 then 0 else 1)))))); rw [if_pos c]; rfl⟩)
    · refine jr_lconst dL_takes_11 rfl ?_
      refine jr_goto (tgt := 16) dL_takes_12 (by decide) ?_
      refine jr_last dL_takes_16 hf vin01 ?_
      refine jr_goto (tgt := 28) dL_takes_17 (by decide) ?_
      refine jr_iconst dL_takes_28 rfl ?_
      exact jr_iret (ty := .int) rfl rfl dL_takes_29 (Or.inl ⟨rfl, r, h', hr, f, hf, by show _ = jset h' a (.inl (3, (1, .inr (.inl (vp_updL f 0 (if r = 0 then 0 else 1)))))); rw [if_neg c]; rfl⟩)
  · rcases hX E h' hq with rfl | rfl
    · refine ⟨_, jk_L_takes_0 hN, fun q => ?_⟩
      refine jr_astore dL_takes_20 (by decide) rfl ?_
      refine jr_iconst dL_takes_22 rfl ?_
      exact jr_iret (ty := .int) rfl rfl dL_takes_23 (Or.inr ⟨_, hq, Eq.symm (cod_i)⟩)
    · refine ⟨_, jk_L_takes_1 hN, fun q => ?_⟩
      refine jr_astore dL_takes_24 (by decide) rfl ?_
      refine jr_iconst dL_takes_26 rfl ?_
      exact jr_iret (ty := .int) rfl rfl dL_takes_27 (Or.inr ⟨_, hq, Eq.symm ((cod_n (by decide)).trans (cod_i))⟩)
abbrev mL_plant : jM := (yL_plant, cL_plant, 5, (some (.int)), [(0, 10, 13, 19), (0, 10, 17, 13)])
theorem km_L_plant : jMh mL_plant 4 := ⟨⟨jw_in 978 (by decide +kernel), jw_in 0 (by decide +kernel), by decide, ⟨by decide +kernel, by decide +kernel, by decide +kernel⟩, by decide +kernel⟩, ⟨_, _, rfl⟩, jw_in 977 (by decide +kernel)⟩
theorem jl_L_36 : Cond.methodLink RL 36 mX11_plant.1 ∈ lw_tbl := jw_in 979 (by decide +kernel)
theorem jk_L_plant_0 {g : jG} (hN : jnc g) : jCat g RL [(0, 10, 13, 19), (0, 10, 17, 13)] 5 nse 13 := ⟨[], ⟨0, 10, 13, 19⟩, [⟨0, 10, 17, 13⟩], nse, rfl, (fun z hz => nomatch hz), by decide, by decide, jlc_19, jcc_nse, rfl⟩
theorem jk_L_plant_1 {g : jG} (hN : jnc g) : jCat g RL [(0, 10, 13, 19), (0, 10, 17, 13)] 5 iae 17 := ⟨[⟨0, 10, 13, 19⟩], ⟨0, 10, 17, 13⟩, [], iae, rfl, List.forall_mem_cons.mpr ⟨Or.inr ⟨by decide, nse, jlc_19, jnc_at hN 3 rfl⟩, (fun z hz => nomatch hz)⟩, by decide, by decide, jlc_13, jcc_iae, rfl⟩
theorem l_plant {g : jG} {d : Nat} {h : jH} {o a : Nat} {fs : List Value} {x1 : Int32} {x2 : Int32} {Q : Int32 → jH → Prop} {X : String → jH → Prop} (hN : jnc g) (ho : h.1 o = some (.inr (11, fs))) (C : Con g mX11_plant d [.ref o, .int x1, .int x2] h (jPi Q X)) (hQ : ∀ r h', Q r h' → ∃ f : Nat → Int64, h'.1 a = some (.inl (3, (1, .inr (.inl f))))) (hX : ∀ E h', X E h' → E = nse ∨ E = iae) : Con g mL_plant (d + 1) [.ref o, .int x1, .int x2, .ref a] h (jPi (wrQ [nse, iae] a (fun r => r.toInt64) Q X) no2) := by
  refine con_ofH (μ := mL_plant) (by decide +kernel) (Nat.le_of_ble_eq_true rfl) ⟨_, _, rfl⟩ ?_
  show J g mL_plant (d + 1) h _ 0 [(0, .ref o), (1, .int x1), (2, .int x2), (3, .ref a)] [] h
  refine jr_aload_n 3 dL_plant_0 rfl rfl ?_
  refine jr_iconst dL_plant_1 rfl ?_
  refine jr_aload_n 0 dL_plant_2 rfl rfl ?_
  refine jr_iload_n 1 dL_plant_3 rfl rfl ?_
  refine jr_iload_n 2 dL_plant_4 rfl rfl ?_
  refine jr_callVH (P2 := jPi Q X) (st := [.int 0, .ref a]) (As := [.int x1, .int x2]) jl_L_36 km_X11_plant rfl dL_plant_5 ho (Nat.le_of_ble_eq_true rfl) C (fun v h' hq => ?_) (fun E h' hq => ?_)
  · obtain ⟨r, rfl, hr⟩ := jPi_in hq
    obtain ⟨f, hf⟩ := hQ r h' hr
    show J g mL_plant (d + 1) h _ 8 [(0, .ref o), (1, .int x1), (2, .int x2), (3, .ref a)] [.int r, .int 0, .ref a] h'
    refine jr_i2l dL_plant_8 ?_
    refine jr_last dL_plant_9 hf vin01 ?_
    refine jr_goto (tgt := 21) dL_plant_10 (by decide) ?_
    refine jr_iconst dL_plant_21 rfl ?_
    exact jr_iret (ty := .int) rfl rfl dL_plant_22 (Or.inl ⟨rfl, r, h', hr, f, hf, rfl⟩)
  · rcases hX E h' hq with rfl | rfl
    · refine ⟨_, jk_L_plant_0 hN, fun q => ?_⟩
      refine jr_astore dL_plant_13 (by decide) rfl ?_
      refine jr_iconst dL_plant_15 rfl ?_
      exact jr_iret (ty := .int) rfl rfl dL_plant_16 (Or.inr ⟨_, hq, Eq.symm (cod_i)⟩)
    · refine ⟨_, jk_L_plant_1 hN, fun q => ?_⟩
      refine jr_astore dL_plant_17 (by decide) rfl ?_
      refine jr_iconst dL_plant_19 rfl ?_
      exact jr_iret (ty := .int) rfl rfl dL_plant_20 (Or.inr ⟨_, hq, Eq.symm ((cod_n (by decide)).trans (cod_i))⟩)
abbrev mL_quarters : jM := (yL_quarters, cL_quarters, 4, (some (.int)), [(0, 9, 12, 13)])
theorem km_L_quarters : jMh mL_quarters 3 := ⟨⟨jw_in 985 (by decide +kernel), jw_in 0 (by decide +kernel), by decide, ⟨by decide +kernel, by decide +kernel, by decide +kernel⟩, by decide +kernel⟩, ⟨_, _, rfl⟩, jw_in 984 (by decide +kernel)⟩
theorem jl_L_39 : Cond.methodLink RL 39 mX11_quarters.1 ∈ lw_tbl := jw_in 986 (by decide +kernel)
theorem jk_L_quarters_0 {g : jG} (hN : jnc g) : jCat g RL [(0, 9, 12, 13)] 4 iae 12 := ⟨[], ⟨0, 9, 12, 13⟩, [], iae, rfl, (fun z hz => nomatch hz), by decide, by decide, jlc_13, jcc_iae, rfl⟩
theorem l_quarters {g : jG} {d : Nat} {h : jH} {o a : Nat} {fs : List Value} {x1 : Int32} {Q : Int32 → jH → Prop} {X : String → jH → Prop} (hN : jnc g) (ho : h.1 o = some (.inr (11, fs))) (C : Con g mX11_quarters d [.ref o, .int x1] h (jPi Q X)) (hQ : ∀ r h', Q r h' → ∃ f : Nat → Int64, h'.1 a = some (.inl (3, (1, .inr (.inl f))))) (hX : ∀ E h', X E h' → E = iae) : Con g mL_quarters (d + 1) [.ref o, .int x1, .ref a] h (jPi (wrQ [iae] a (fun r => r.toInt64) Q X) no2) := by
  refine con_ofH (μ := mL_quarters) (by decide +kernel) (Nat.le_of_ble_eq_true rfl) ⟨_, _, rfl⟩ ?_
  show J g mL_quarters (d + 1) h _ 0 [(0, .ref o), (1, .int x1), (2, .ref a)] [] h
  refine jr_aload_n 2 dL_quarters_0 rfl rfl ?_
  refine jr_iconst dL_quarters_1 rfl ?_
  refine jr_aload_n 0 dL_quarters_2 rfl rfl ?_
  refine jr_iload_n 1 dL_quarters_3 rfl rfl ?_
  refine jr_callVH (P2 := jPi Q X) (st := [.int 0, .ref a]) (As := [.int x1]) jl_L_39 km_X11_quarters rfl dL_quarters_4 ho (Nat.le_of_ble_eq_true rfl) C (fun v h' hq => ?_) (fun E h' hq => ?_)
  · obtain ⟨r, rfl, hr⟩ := jPi_in hq
    obtain ⟨f, hf⟩ := hQ r h' hr
    show J g mL_quarters (d + 1) h _ 7 [(0, .ref o), (1, .int x1), (2, .ref a)] [.int r, .int 0, .ref a] h'
    refine jr_i2l dL_quarters_7 ?_
    refine jr_last dL_quarters_8 hf vin01 ?_
    refine jr_goto (tgt := 15) dL_quarters_9 (by decide) ?_
    refine jr_iconst dL_quarters_15 rfl ?_
    exact jr_iret (ty := .int) rfl rfl dL_quarters_16 (Or.inl ⟨rfl, r, h', hr, f, hf, rfl⟩)
  · obtain rfl := hX E h' hq
    refine ⟨_, jk_L_quarters_0 hN, fun q => ?_⟩
    refine jr_astore_n dL_quarters_12 rfl (by decide) rfl ?_
    refine jr_iconst dL_quarters_13 rfl ?_
    exact jr_iret (ty := .int) rfl rfl dL_quarters_14 (Or.inr ⟨_, hq, Eq.symm (cod_i)⟩)
abbrev mL_undo : jM := (yL_undo, cL_undo, 4, (some (.int)), [(0, 9, 12, 13)])
theorem km_L_undo : jMh mL_undo 3 := ⟨⟨jw_in 992 (by decide +kernel), jw_in 0 (by decide +kernel), by decide, ⟨by decide +kernel, by decide +kernel, by decide +kernel⟩, by decide +kernel⟩, ⟨_, _, rfl⟩, jw_in 991 (by decide +kernel)⟩
theorem jl_L_42 : Cond.methodLink RL 42 mX11_undo.1 ∈ lw_tbl := jw_in 993 (by decide +kernel)
theorem jk_L_undo_0 {g : jG} (hN : jnc g) : jCat g RL [(0, 9, 12, 13)] 4 iae 12 := ⟨[], ⟨0, 9, 12, 13⟩, [], iae, rfl, (fun z hz => nomatch hz), by decide, by decide, jlc_13, jcc_iae, rfl⟩
theorem l_undo {g : jG} {d : Nat} {h : jH} {o a : Nat} {fs : List Value} {x1 : Int32} {Q : Int32 → jH → Prop} {X : String → jH → Prop} (hN : jnc g) (ho : h.1 o = some (.inr (11, fs))) (C : Con g mX11_undo d [.ref o, .int x1] h (jPi Q X)) (hQ : ∀ r h', Q r h' → ∃ f : Nat → Int64, h'.1 a = some (.inl (3, (1, .inr (.inl f))))) (hX : ∀ E h', X E h' → E = iae) : Con g mL_undo (d + 1) [.ref o, .int x1, .ref a] h (jPi (wrQ [iae] a (fun r => r.toInt64) Q X) no2) := by
  refine con_ofH (μ := mL_undo) (by decide +kernel) (Nat.le_of_ble_eq_true rfl) ⟨_, _, rfl⟩ ?_
  show J g mL_undo (d + 1) h _ 0 [(0, .ref o), (1, .int x1), (2, .ref a)] [] h
  refine jr_aload_n 2 dL_undo_0 rfl rfl ?_
  refine jr_iconst dL_undo_1 rfl ?_
  refine jr_aload_n 0 dL_undo_2 rfl rfl ?_
  refine jr_iload_n 1 dL_undo_3 rfl rfl ?_
  refine jr_callVH (P2 := jPi Q X) (st := [.int 0, .ref a]) (As := [.int x1]) jl_L_42 km_X11_undo rfl dL_undo_4 ho (Nat.le_of_ble_eq_true rfl) C (fun v h' hq => ?_) (fun E h' hq => ?_)
  · obtain ⟨r, rfl, hr⟩ := jPi_in hq
    obtain ⟨f, hf⟩ := hQ r h' hr
    show J g mL_undo (d + 1) h _ 7 [(0, .ref o), (1, .int x1), (2, .ref a)] [.int r, .int 0, .ref a] h'
    refine jr_i2l dL_undo_7 ?_
    refine jr_last dL_undo_8 hf vin01 ?_
    refine jr_goto (tgt := 15) dL_undo_9 (by decide) ?_
    refine jr_iconst dL_undo_15 rfl ?_
    exact jr_iret (ty := .int) rfl rfl dL_undo_16 (Or.inl ⟨rfl, r, h', hr, f, hf, rfl⟩)
  · obtain rfl := hX E h' hq
    refine ⟨_, jk_L_undo_0 hN, fun q => ?_⟩
    refine jr_astore_n dL_undo_12 rfl (by decide) rfl ?_
    refine jr_iconst dL_undo_13 rfl ?_
    exact jr_iret (ty := .int) rfl rfl dL_undo_14 (Or.inr ⟨_, hq, Eq.symm (cod_i)⟩)
abbrev mL_judge : jM := (yL_judge, cL_judge, 5, (some (.int)), [(0, 10, 13, 19), (0, 10, 17, 27), (0, 10, 21, 13)])
theorem km_L_judge : jMh mL_judge 4 := ⟨⟨jw_in 1004 (by decide +kernel), jw_in 0 (by decide +kernel), by decide, ⟨by decide +kernel, by decide +kernel, by decide +kernel⟩, by decide +kernel⟩, ⟨_, _, rfl⟩, jw_in 1003 (by decide +kernel)⟩
theorem jl_L_45 : Cond.methodLink RL 45 mX11_judge.1 ∈ lw_tbl := jw_in 1005 (by decide +kernel)
theorem jk_L_judge_0 {g : jG} (hN : jnc g) : jCat g RL [(0, 10, 13, 19), (0, 10, 17, 27), (0, 10, 21, 13)] 5 nse 13 := ⟨[], ⟨0, 10, 13, 19⟩, [⟨0, 10, 17, 27⟩, ⟨0, 10, 21, 13⟩], nse, rfl, (fun z hz => nomatch hz), by decide, by decide, jlc_19, jcc_nse, rfl⟩
theorem jk_L_judge_1 {g : jG} (hN : jnc g) : jCat g RL [(0, 10, 13, 19), (0, 10, 17, 27), (0, 10, 21, 13)] 5 ise 17 := ⟨[⟨0, 10, 13, 19⟩], ⟨0, 10, 17, 27⟩, [⟨0, 10, 21, 13⟩], ise, rfl, List.forall_mem_cons.mpr ⟨Or.inr ⟨by decide, nse, jlc_19, jnc_at hN 6 rfl⟩, (fun z hz => nomatch hz)⟩, by decide, by decide, jlc_27, jcc_ise, rfl⟩
theorem jk_L_judge_2 {g : jG} (hN : jnc g) : jCat g RL [(0, 10, 13, 19), (0, 10, 17, 27), (0, 10, 21, 13)] 5 iae 21 := ⟨[⟨0, 10, 13, 19⟩, ⟨0, 10, 17, 27⟩], ⟨0, 10, 21, 13⟩, [], iae, rfl, List.forall_mem_cons.mpr ⟨Or.inr ⟨by decide, nse, jlc_19, jnc_at hN 3 rfl⟩, List.forall_mem_cons.mpr ⟨Or.inr ⟨by decide, ise, jlc_27, jnc_at hN 4 rfl⟩, (fun z hz => nomatch hz)⟩⟩, by decide, by decide, jlc_13, jcc_iae, rfl⟩
theorem l_judge {g : jG} {d : Nat} {h : jH} {o a : Nat} {fs : List Value} {x1 : Int32} {x2 : Int32} {Q : Int32 → jH → Prop} {X : String → jH → Prop} (hN : jnc g) (ho : h.1 o = some (.inr (11, fs))) (C : Con g mX11_judge d [.ref o, .int x1, .int x2] h (jPi Q X)) (hQ : ∀ r h', Q r h' → ∃ f : Nat → Int64, h'.1 a = some (.inl (3, (1, .inr (.inl f))))) (hX : ∀ E h', X E h' → E = nse ∨ E = ise ∨ E = iae) : Con g mL_judge (d + 1) [.ref o, .int x1, .int x2, .ref a] h (jPi (wrQ [nse, ise, iae] a (fun r => r.toInt64) Q X) no2) := by
  refine con_ofH (μ := mL_judge) (by decide +kernel) (Nat.le_of_ble_eq_true rfl) ⟨_, _, rfl⟩ ?_
  show J g mL_judge (d + 1) h _ 0 [(0, .ref o), (1, .int x1), (2, .int x2), (3, .ref a)] [] h
  refine jr_aload_n 3 dL_judge_0 rfl rfl ?_
  refine jr_iconst dL_judge_1 rfl ?_
  refine jr_aload_n 0 dL_judge_2 rfl rfl ?_
  refine jr_iload_n 1 dL_judge_3 rfl rfl ?_
  refine jr_iload_n 2 dL_judge_4 rfl rfl ?_
  refine jr_callVH (P2 := jPi Q X) (st := [.int 0, .ref a]) (As := [.int x1, .int x2]) jl_L_45 km_X11_judge rfl dL_judge_5 ho (Nat.le_of_ble_eq_true rfl) C (fun v h' hq => ?_) (fun E h' hq => ?_)
  · obtain ⟨r, rfl, hr⟩ := jPi_in hq
    obtain ⟨f, hf⟩ := hQ r h' hr
    show J g mL_judge (d + 1) h _ 8 [(0, .ref o), (1, .int x1), (2, .int x2), (3, .ref a)] [.int r, .int 0, .ref a] h'
    refine jr_i2l dL_judge_8 ?_
    refine jr_last dL_judge_9 hf vin01 ?_
    refine jr_goto (tgt := 25) dL_judge_10 (by decide) ?_
    refine jr_iconst dL_judge_25 rfl ?_
    exact jr_iret (ty := .int) rfl rfl dL_judge_26 (Or.inl ⟨rfl, r, h', hr, f, hf, rfl⟩)
  · rcases hX E h' hq with rfl | rfl | rfl
    · refine ⟨_, jk_L_judge_0 hN, fun q => ?_⟩
      refine jr_astore dL_judge_13 (by decide) rfl ?_
      refine jr_iconst dL_judge_15 rfl ?_
      exact jr_iret (ty := .int) rfl rfl dL_judge_16 (Or.inr ⟨_, hq, Eq.symm (cod_i)⟩)
    · refine ⟨_, jk_L_judge_1 hN, fun q => ?_⟩
      refine jr_astore dL_judge_17 (by decide) rfl ?_
      refine jr_iconst dL_judge_19 rfl ?_
      exact jr_iret (ty := .int) rfl rfl dL_judge_20 (Or.inr ⟨_, hq, Eq.symm ((cod_n (by decide)).trans (cod_i))⟩)
    · refine ⟨_, jk_L_judge_2 hN, fun q => ?_⟩
      refine jr_astore dL_judge_21 (by decide) rfl ?_
      refine jr_iconst dL_judge_23 rfl ?_
      exact jr_iret (ty := .int) rfl rfl dL_judge_24 (Or.inr ⟨_, hq, Eq.symm ((cod_n (by decide)).trans ((cod_n (by decide)).trans (cod_i)))⟩)
abbrev mL_perform : jM := (yL_perform, cL_perform, 4, (some (.int)), [(0, 9, 12, 19), (0, 9, 15, 27)])
theorem km_L_perform : jMh mL_perform 3 := ⟨⟨jw_in 1041 (by decide +kernel), jw_in 0 (by decide +kernel), by decide, ⟨by decide +kernel, by decide +kernel, by decide +kernel⟩, by decide +kernel⟩, ⟨_, _, rfl⟩, jw_in 1040 (by decide +kernel)⟩
theorem jl_L_48 : Cond.methodLink RL 48 mX11_perform.1 ∈ lw_tbl := jw_in 1042 (by decide +kernel)
theorem jk_L_perform_0 {g : jG} (hN : jnc g) : jCat g RL [(0, 9, 12, 19), (0, 9, 15, 27)] 4 nse 12 := ⟨[], ⟨0, 9, 12, 19⟩, [⟨0, 9, 15, 27⟩], nse, rfl, (fun z hz => nomatch hz), by decide, by decide, jlc_19, jcc_nse, rfl⟩
theorem jk_L_perform_1 {g : jG} (hN : jnc g) : jCat g RL [(0, 9, 12, 19), (0, 9, 15, 27)] 4 ise 15 := ⟨[⟨0, 9, 12, 19⟩], ⟨0, 9, 15, 27⟩, [], ise, rfl, List.forall_mem_cons.mpr ⟨Or.inr ⟨by decide, nse, jlc_19, jnc_at hN 6 rfl⟩, (fun z hz => nomatch hz)⟩, by decide, by decide, jlc_27, jcc_ise, rfl⟩
theorem l_perform {g : jG} {d : Nat} {h : jH} {o a : Nat} {fs : List Value} {x1 : Int32} {Q : Int32 → jH → Prop} {X : String → jH → Prop} (hN : jnc g) (ho : h.1 o = some (.inr (11, fs))) (C : Con g mX11_perform d [.ref o, .int x1] h (jPi Q X)) (hQ : ∀ r h', Q r h' → ∃ f : Nat → Int64, h'.1 a = some (.inl (3, (1, .inr (.inl f))))) (hX : ∀ E h', X E h' → E = nse ∨ E = ise) : Con g mL_perform (d + 1) [.ref o, .int x1, .ref a] h (jPi (wrQ [nse, ise] a (fun r => r.toInt64) Q X) no2) := by
  refine con_ofH (μ := mL_perform) (by decide +kernel) (Nat.le_of_ble_eq_true rfl) ⟨_, _, rfl⟩ ?_
  show J g mL_perform (d + 1) h _ 0 [(0, .ref o), (1, .int x1), (2, .ref a)] [] h
  refine jr_aload_n 2 dL_perform_0 rfl rfl ?_
  refine jr_iconst dL_perform_1 rfl ?_
  refine jr_aload_n 0 dL_perform_2 rfl rfl ?_
  refine jr_iload_n 1 dL_perform_3 rfl rfl ?_
  refine jr_callVH (P2 := jPi Q X) (st := [.int 0, .ref a]) (As := [.int x1]) jl_L_48 km_X11_perform rfl dL_perform_4 ho (Nat.le_of_ble_eq_true rfl) C (fun v h' hq => ?_) (fun E h' hq => ?_)
  · obtain ⟨r, rfl, hr⟩ := jPi_in hq
    obtain ⟨f, hf⟩ := hQ r h' hr
    show J g mL_perform (d + 1) h _ 7 [(0, .ref o), (1, .int x1), (2, .ref a)] [.int r, .int 0, .ref a] h'
    refine jr_i2l dL_perform_7 ?_
    refine jr_last dL_perform_8 hf vin01 ?_
    refine jr_goto (tgt := 18) dL_perform_9 (by decide) ?_
    refine jr_iconst dL_perform_18 rfl ?_
    exact jr_iret (ty := .int) rfl rfl dL_perform_19 (Or.inl ⟨rfl, r, h', hr, f, hf, rfl⟩)
  · rcases hX E h' hq with rfl | rfl
    · refine ⟨_, jk_L_perform_0 hN, fun q => ?_⟩
      refine jr_astore_n dL_perform_12 rfl (by decide) rfl ?_
      refine jr_iconst dL_perform_13 rfl ?_
      exact jr_iret (ty := .int) rfl rfl dL_perform_14 (Or.inr ⟨_, hq, Eq.symm (cod_i)⟩)
    · refine ⟨_, jk_L_perform_1 hN, fun q => ?_⟩
      refine jr_astore_n dL_perform_15 rfl (by decide) rfl ?_
      refine jr_iconst dL_perform_16 rfl ?_
      exact jr_iret (ty := .int) rfl rfl dL_perform_17 (Or.inr ⟨_, hq, Eq.symm ((cod_n (by decide)).trans (cod_i))⟩)
abbrev mL_year : jM := (yL_year, cL_year, 5, (some (.int)), [(0, 10, 13, 13)])
theorem km_L_year : jMh mL_year 4 := ⟨⟨jw_in 1052 (by decide +kernel), jw_in 0 (by decide +kernel), by decide, ⟨by decide +kernel, by decide +kernel, by decide +kernel⟩, by decide +kernel⟩, ⟨_, _, rfl⟩, jw_in 1051 (by decide +kernel)⟩
theorem jl_L_51 : Cond.methodLink RL 51 mX11_year.1 ∈ lw_tbl := jw_in 1053 (by decide +kernel)
theorem jk_L_year_0 {g : jG} (hN : jnc g) : jCat g RL [(0, 10, 13, 13)] 5 iae 13 := ⟨[], ⟨0, 10, 13, 13⟩, [], iae, rfl, (fun z hz => nomatch hz), by decide, by decide, jlc_13, jcc_iae, rfl⟩
theorem l_year {g : jG} {d : Nat} {h : jH} {o a : Nat} {fs : List Value} {x1 : Int32} {x2 : Int32} {Q : Int32 → jH → Prop} {X : String → jH → Prop} (hN : jnc g) (ho : h.1 o = some (.inr (11, fs))) (C : Con g mX11_year d [.ref o, .int x1, .int x2] h (jPi Q X)) (hQ : ∀ r h', Q r h' → ∃ f : Nat → Int64, h'.1 a = some (.inl (3, (1, .inr (.inl f))))) (hX : ∀ E h', X E h' → E = iae) : Con g mL_year (d + 1) [.ref o, .int x1, .int x2, .ref a] h (jPi (wrQ [iae] a (fun r => r.toInt64) Q X) no2) := by
  refine con_ofH (μ := mL_year) (by decide +kernel) (Nat.le_of_ble_eq_true rfl) ⟨_, _, rfl⟩ ?_
  show J g mL_year (d + 1) h _ 0 [(0, .ref o), (1, .int x1), (2, .int x2), (3, .ref a)] [] h
  refine jr_aload_n 3 dL_year_0 rfl rfl ?_
  refine jr_iconst dL_year_1 rfl ?_
  refine jr_aload_n 0 dL_year_2 rfl rfl ?_
  refine jr_iload_n 1 dL_year_3 rfl rfl ?_
  refine jr_iload_n 2 dL_year_4 rfl rfl ?_
  refine jr_callVH (P2 := jPi Q X) (st := [.int 0, .ref a]) (As := [.int x1, .int x2]) jl_L_51 km_X11_year rfl dL_year_5 ho (Nat.le_of_ble_eq_true rfl) C (fun v h' hq => ?_) (fun E h' hq => ?_)
  · obtain ⟨r, rfl, hr⟩ := jPi_in hq
    obtain ⟨f, hf⟩ := hQ r h' hr
    show J g mL_year (d + 1) h _ 8 [(0, .ref o), (1, .int x1), (2, .int x2), (3, .ref a)] [.int r, .int 0, .ref a] h'
    refine jr_i2l dL_year_8 ?_
    refine jr_last dL_year_9 hf vin01 ?_
    refine jr_goto (tgt := 17) dL_year_10 (by decide) ?_
    refine jr_iconst dL_year_17 rfl ?_
    exact jr_iret (ty := .int) rfl rfl dL_year_18 (Or.inl ⟨rfl, r, h', hr, f, hf, rfl⟩)
  · obtain rfl := hX E h' hq
    refine ⟨_, jk_L_year_0 hN, fun q => ?_⟩
    refine jr_astore dL_year_13 (by decide) rfl ?_
    refine jr_iconst dL_year_15 rfl ?_
    exact jr_iret (ty := .int) rfl rfl dL_year_16 (Or.inr ⟨_, hq, Eq.symm (cod_i)⟩)
abbrev mL_debtIn : jM := (yL_debtIn, cL_debtIn, 5, (some (.int)), [(0, 10, 13, 19), (0, 10, 17, 13)])
theorem km_L_debtIn : jMh mL_debtIn 4 := ⟨⟨jw_in 1068 (by decide +kernel), jw_in 0 (by decide +kernel), by decide, ⟨by decide +kernel, by decide +kernel, by decide +kernel⟩, by decide +kernel⟩, ⟨_, _, rfl⟩, jw_in 1067 (by decide +kernel)⟩
theorem jl_L_54 : Cond.methodLink RL 54 mX11_debtIn.1 ∈ lw_tbl := jw_in 1069 (by decide +kernel)
theorem jk_L_debtIn_0 {g : jG} (hN : jnc g) : jCat g RL [(0, 10, 13, 19), (0, 10, 17, 13)] 5 nse 13 := ⟨[], ⟨0, 10, 13, 19⟩, [⟨0, 10, 17, 13⟩], nse, rfl, (fun z hz => nomatch hz), by decide, by decide, jlc_19, jcc_nse, rfl⟩
theorem jk_L_debtIn_1 {g : jG} (hN : jnc g) : jCat g RL [(0, 10, 13, 19), (0, 10, 17, 13)] 5 iae 17 := ⟨[⟨0, 10, 13, 19⟩], ⟨0, 10, 17, 13⟩, [], iae, rfl, List.forall_mem_cons.mpr ⟨Or.inr ⟨by decide, nse, jlc_19, jnc_at hN 3 rfl⟩, (fun z hz => nomatch hz)⟩, by decide, by decide, jlc_13, jcc_iae, rfl⟩
theorem l_debtIn {g : jG} {d : Nat} {h : jH} {o a : Nat} {fs : List Value} {x1 : Int32} {x2 : Int32} {Q : Int32 → jH → Prop} {X : String → jH → Prop} (hN : jnc g) (ho : h.1 o = some (.inr (11, fs))) (C : Con g mX11_debtIn d [.ref o, .int x1, .int x2] h (jPi Q X)) (hQ : ∀ r h', Q r h' → ∃ f : Nat → Int64, h'.1 a = some (.inl (3, (1, .inr (.inl f))))) (hX : ∀ E h', X E h' → E = nse ∨ E = iae) : Con g mL_debtIn (d + 1) [.ref o, .int x1, .int x2, .ref a] h (jPi (wrQ [nse, iae] a (fun r => r.toInt64) Q X) no2) := by
  refine con_ofH (μ := mL_debtIn) (by decide +kernel) (Nat.le_of_ble_eq_true rfl) ⟨_, _, rfl⟩ ?_
  show J g mL_debtIn (d + 1) h _ 0 [(0, .ref o), (1, .int x1), (2, .int x2), (3, .ref a)] [] h
  refine jr_aload_n 3 dL_debtIn_0 rfl rfl ?_
  refine jr_iconst dL_debtIn_1 rfl ?_
  refine jr_aload_n 0 dL_debtIn_2 rfl rfl ?_
  refine jr_iload_n 1 dL_debtIn_3 rfl rfl ?_
  refine jr_iload_n 2 dL_debtIn_4 rfl rfl ?_
  refine jr_callVH (P2 := jPi Q X) (st := [.int 0, .ref a]) (As := [.int x1, .int x2]) jl_L_54 km_X11_debtIn rfl dL_debtIn_5 ho (Nat.le_of_ble_eq_true rfl) C (fun v h' hq => ?_) (fun E h' hq => ?_)
  · obtain ⟨r, rfl, hr⟩ := jPi_in hq
    obtain ⟨f, hf⟩ := hQ r h' hr
    show J g mL_debtIn (d + 1) h _ 8 [(0, .ref o), (1, .int x1), (2, .int x2), (3, .ref a)] [.int r, .int 0, .ref a] h'
    refine jr_i2l dL_debtIn_8 ?_
    refine jr_last dL_debtIn_9 hf vin01 ?_
    refine jr_goto (tgt := 21) dL_debtIn_10 (by decide) ?_
    refine jr_iconst dL_debtIn_21 rfl ?_
    exact jr_iret (ty := .int) rfl rfl dL_debtIn_22 (Or.inl ⟨rfl, r, h', hr, f, hf, rfl⟩)
  · rcases hX E h' hq with rfl | rfl
    · refine ⟨_, jk_L_debtIn_0 hN, fun q => ?_⟩
      refine jr_astore dL_debtIn_13 (by decide) rfl ?_
      refine jr_iconst dL_debtIn_15 rfl ?_
      exact jr_iret (ty := .int) rfl rfl dL_debtIn_16 (Or.inr ⟨_, hq, Eq.symm (cod_i)⟩)
    · refine ⟨_, jk_L_debtIn_1 hN, fun q => ?_⟩
      refine jr_astore dL_debtIn_17 (by decide) rfl ?_
      refine jr_iconst dL_debtIn_19 rfl ?_
      exact jr_iret (ty := .int) rfl rfl dL_debtIn_20 (Or.inr ⟨_, hq, Eq.symm ((cod_n (by decide)).trans (cod_i))⟩)
abbrev mL_cashIn : jM := (yL_cashIn, cL_cashIn, 5, (some (.int)), [(0, 10, 13, 19), (0, 10, 17, 13)])
theorem km_L_cashIn : jMh mL_cashIn 4 := ⟨⟨jw_in 1079 (by decide +kernel), jw_in 0 (by decide +kernel), by decide, ⟨by decide +kernel, by decide +kernel, by decide +kernel⟩, by decide +kernel⟩, ⟨_, _, rfl⟩, jw_in 1078 (by decide +kernel)⟩
theorem jl_L_57 : Cond.methodLink RL 57 mX11_cashIn.1 ∈ lw_tbl := jw_in 1080 (by decide +kernel)
theorem jk_L_cashIn_0 {g : jG} (hN : jnc g) : jCat g RL [(0, 10, 13, 19), (0, 10, 17, 13)] 5 nse 13 := ⟨[], ⟨0, 10, 13, 19⟩, [⟨0, 10, 17, 13⟩], nse, rfl, (fun z hz => nomatch hz), by decide, by decide, jlc_19, jcc_nse, rfl⟩
theorem jk_L_cashIn_1 {g : jG} (hN : jnc g) : jCat g RL [(0, 10, 13, 19), (0, 10, 17, 13)] 5 iae 17 := ⟨[⟨0, 10, 13, 19⟩], ⟨0, 10, 17, 13⟩, [], iae, rfl, List.forall_mem_cons.mpr ⟨Or.inr ⟨by decide, nse, jlc_19, jnc_at hN 3 rfl⟩, (fun z hz => nomatch hz)⟩, by decide, by decide, jlc_13, jcc_iae, rfl⟩
theorem l_cashIn {g : jG} {d : Nat} {h : jH} {o a : Nat} {fs : List Value} {x1 : Int32} {x2 : Int32} {Q : Int32 → jH → Prop} {X : String → jH → Prop} (hN : jnc g) (ho : h.1 o = some (.inr (11, fs))) (C : Con g mX11_cashIn d [.ref o, .int x1, .int x2] h (jPi Q X)) (hQ : ∀ r h', Q r h' → ∃ f : Nat → Int64, h'.1 a = some (.inl (3, (1, .inr (.inl f))))) (hX : ∀ E h', X E h' → E = nse ∨ E = iae) : Con g mL_cashIn (d + 1) [.ref o, .int x1, .int x2, .ref a] h (jPi (wrQ [nse, iae] a (fun r => r.toInt64) Q X) no2) := by
  refine con_ofH (μ := mL_cashIn) (by decide +kernel) (Nat.le_of_ble_eq_true rfl) ⟨_, _, rfl⟩ ?_
  show J g mL_cashIn (d + 1) h _ 0 [(0, .ref o), (1, .int x1), (2, .int x2), (3, .ref a)] [] h
  refine jr_aload_n 3 dL_cashIn_0 rfl rfl ?_
  refine jr_iconst dL_cashIn_1 rfl ?_
  refine jr_aload_n 0 dL_cashIn_2 rfl rfl ?_
  refine jr_iload_n 1 dL_cashIn_3 rfl rfl ?_
  refine jr_iload_n 2 dL_cashIn_4 rfl rfl ?_
  refine jr_callVH (P2 := jPi Q X) (st := [.int 0, .ref a]) (As := [.int x1, .int x2]) jl_L_57 km_X11_cashIn rfl dL_cashIn_5 ho (Nat.le_of_ble_eq_true rfl) C (fun v h' hq => ?_) (fun E h' hq => ?_)
  · obtain ⟨r, rfl, hr⟩ := jPi_in hq
    obtain ⟨f, hf⟩ := hQ r h' hr
    show J g mL_cashIn (d + 1) h _ 8 [(0, .ref o), (1, .int x1), (2, .int x2), (3, .ref a)] [.int r, .int 0, .ref a] h'
    refine jr_i2l dL_cashIn_8 ?_
    refine jr_last dL_cashIn_9 hf vin01 ?_
    refine jr_goto (tgt := 21) dL_cashIn_10 (by decide) ?_
    refine jr_iconst dL_cashIn_21 rfl ?_
    exact jr_iret (ty := .int) rfl rfl dL_cashIn_22 (Or.inl ⟨rfl, r, h', hr, f, hf, rfl⟩)
  · rcases hX E h' hq with rfl | rfl
    · refine ⟨_, jk_L_cashIn_0 hN, fun q => ?_⟩
      refine jr_astore dL_cashIn_13 (by decide) rfl ?_
      refine jr_iconst dL_cashIn_15 rfl ?_
      exact jr_iret (ty := .int) rfl rfl dL_cashIn_16 (Or.inr ⟨_, hq, Eq.symm (cod_i)⟩)
    · refine ⟨_, jk_L_cashIn_1 hN, fun q => ?_⟩
      refine jr_astore dL_cashIn_17 (by decide) rfl ?_
      refine jr_iconst dL_cashIn_19 rfl ?_
      exact jr_iret (ty := .int) rfl rfl dL_cashIn_20 (Or.inr ⟨_, hq, Eq.symm ((cod_n (by decide)).trans (cod_i))⟩)
abbrev mL_ruinIn : jM := (yL_ruinIn, cL_ruinIn, 4, (some (.int)), [(0, 9, 12, 19)])
theorem km_L_ruinIn : jMh mL_ruinIn 3 := ⟨⟨jw_in 1086 (by decide +kernel), jw_in 0 (by decide +kernel), by decide, ⟨by decide +kernel, by decide +kernel, by decide +kernel⟩, by decide +kernel⟩, ⟨_, _, rfl⟩, jw_in 1085 (by decide +kernel)⟩
theorem jl_L_60 : Cond.methodLink RL 60 mX11_ruinIn.1 ∈ lw_tbl := jw_in 1087 (by decide +kernel)
theorem jk_L_ruinIn_0 {g : jG} (hN : jnc g) : jCat g RL [(0, 9, 12, 19)] 4 nse 12 := ⟨[], ⟨0, 9, 12, 19⟩, [], nse, rfl, (fun z hz => nomatch hz), by decide, by decide, jlc_19, jcc_nse, rfl⟩
theorem l_ruinIn {g : jG} {d : Nat} {h : jH} {o a : Nat} {fs : List Value} {x1 : Int32} {Q : Int32 → jH → Prop} {X : String → jH → Prop} (hN : jnc g) (ho : h.1 o = some (.inr (11, fs))) (C : Con g mX11_ruinIn d [.ref o, .int x1] h (jPi Q X)) (hQ : ∀ r h', Q r h' → ∃ f : Nat → Int64, h'.1 a = some (.inl (3, (1, .inr (.inl f))))) (hX : ∀ E h', X E h' → E = nse) : Con g mL_ruinIn (d + 1) [.ref o, .int x1, .ref a] h (jPi (wrQ [nse] a (fun r => r.toInt64) Q X) no2) := by
  refine con_ofH (μ := mL_ruinIn) (by decide +kernel) (Nat.le_of_ble_eq_true rfl) ⟨_, _, rfl⟩ ?_
  show J g mL_ruinIn (d + 1) h _ 0 [(0, .ref o), (1, .int x1), (2, .ref a)] [] h
  refine jr_aload_n 2 dL_ruinIn_0 rfl rfl ?_
  refine jr_iconst dL_ruinIn_1 rfl ?_
  refine jr_aload_n 0 dL_ruinIn_2 rfl rfl ?_
  refine jr_iload_n 1 dL_ruinIn_3 rfl rfl ?_
  refine jr_callVH (P2 := jPi Q X) (st := [.int 0, .ref a]) (As := [.int x1]) jl_L_60 km_X11_ruinIn rfl dL_ruinIn_4 ho (Nat.le_of_ble_eq_true rfl) C (fun v h' hq => ?_) (fun E h' hq => ?_)
  · obtain ⟨r, rfl, hr⟩ := jPi_in hq
    obtain ⟨f, hf⟩ := hQ r h' hr
    show J g mL_ruinIn (d + 1) h _ 7 [(0, .ref o), (1, .int x1), (2, .ref a)] [.int r, .int 0, .ref a] h'
    refine jr_i2l dL_ruinIn_7 ?_
    refine jr_last dL_ruinIn_8 hf vin01 ?_
    refine jr_goto (tgt := 15) dL_ruinIn_9 (by decide) ?_
    refine jr_iconst dL_ruinIn_15 rfl ?_
    exact jr_iret (ty := .int) rfl rfl dL_ruinIn_16 (Or.inl ⟨rfl, r, h', hr, f, hf, rfl⟩)
  · obtain rfl := hX E h' hq
    refine ⟨_, jk_L_ruinIn_0 hN, fun q => ?_⟩
    refine jr_astore_n dL_ruinIn_12 rfl (by decide) rfl ?_
    refine jr_iconst dL_ruinIn_13 rfl ?_
    exact jr_iret (ty := .int) rfl rfl dL_ruinIn_14 (Or.inr ⟨_, hq, Eq.symm (cod_i)⟩)
abbrev mL_lost : jM := (yL_lost, cL_lost, 4, (some (.int)), [(0, 9, 12, 13)])
theorem km_L_lost : jMh mL_lost 3 := ⟨⟨jw_in 1093 (by decide +kernel), jw_in 0 (by decide +kernel), by decide, ⟨by decide +kernel, by decide +kernel, by decide +kernel⟩, by decide +kernel⟩, ⟨_, _, rfl⟩, jw_in 1092 (by decide +kernel)⟩
theorem jl_L_63 : Cond.methodLink RL 63 mX11_lost.1 ∈ lw_tbl := jw_in 1094 (by decide +kernel)
theorem jk_L_lost_0 {g : jG} (hN : jnc g) : jCat g RL [(0, 9, 12, 13)] 4 iae 12 := ⟨[], ⟨0, 9, 12, 13⟩, [], iae, rfl, (fun z hz => nomatch hz), by decide, by decide, jlc_13, jcc_iae, rfl⟩
theorem l_lost {g : jG} {d : Nat} {h : jH} {o a : Nat} {fs : List Value} {x1 : Int32} {Q : Int32 → jH → Prop} {X : String → jH → Prop} (hN : jnc g) (ho : h.1 o = some (.inr (11, fs))) (C : Con g mX11_lost d [.ref o, .int x1] h (jPi Q X)) (hQ : ∀ r h', Q r h' → ∃ f : Nat → Int64, h'.1 a = some (.inl (3, (1, .inr (.inl f))))) (hX : ∀ E h', X E h' → E = iae) : Con g mL_lost (d + 1) [.ref o, .int x1, .ref a] h (jPi (wrQ [iae] a (fun r => r.toInt64) Q X) no2) := by
  refine con_ofH (μ := mL_lost) (by decide +kernel) (Nat.le_of_ble_eq_true rfl) ⟨_, _, rfl⟩ ?_
  show J g mL_lost (d + 1) h _ 0 [(0, .ref o), (1, .int x1), (2, .ref a)] [] h
  refine jr_aload_n 2 dL_lost_0 rfl rfl ?_
  refine jr_iconst dL_lost_1 rfl ?_
  refine jr_aload_n 0 dL_lost_2 rfl rfl ?_
  refine jr_iload_n 1 dL_lost_3 rfl rfl ?_
  refine jr_callVH (P2 := jPi Q X) (st := [.int 0, .ref a]) (As := [.int x1]) jl_L_63 km_X11_lost rfl dL_lost_4 ho (Nat.le_of_ble_eq_true rfl) C (fun v h' hq => ?_) (fun E h' hq => ?_)
  · obtain ⟨r, rfl, hr⟩ := jPi_in hq
    obtain ⟨f, hf⟩ := hQ r h' hr
    show J g mL_lost (d + 1) h _ 7 [(0, .ref o), (1, .int x1), (2, .ref a)] [.int r, .int 0, .ref a] h'
    refine jr_i2l dL_lost_7 ?_
    refine jr_last dL_lost_8 hf vin01 ?_
    refine jr_goto (tgt := 15) dL_lost_9 (by decide) ?_
    refine jr_iconst dL_lost_15 rfl ?_
    exact jr_iret (ty := .int) rfl rfl dL_lost_16 (Or.inl ⟨rfl, r, h', hr, f, hf, rfl⟩)
  · obtain rfl := hX E h' hq
    refine ⟨_, jk_L_lost_0 hN, fun q => ?_⟩
    refine jr_astore_n dL_lost_12 rfl (by decide) rfl ?_
    refine jr_iconst dL_lost_13 rfl ?_
    exact jr_iret (ty := .int) rfl rfl dL_lost_14 (Or.inr ⟨_, hq, Eq.symm (cod_i)⟩)
abbrev mL_seaIn : jM := (yL_seaIn, cL_seaIn, 4, (some (.int)), [(0, 9, 12, 13)])
theorem km_L_seaIn : jMh mL_seaIn 3 := ⟨⟨jw_in 1113 (by decide +kernel), jw_in 0 (by decide +kernel), by decide, ⟨by decide +kernel, by decide +kernel, by decide +kernel⟩, by decide +kernel⟩, ⟨_, _, rfl⟩, jw_in 1112 (by decide +kernel)⟩
theorem jl_L_66 : Cond.methodLink RL 66 mX11_seaIn.1 ∈ lw_tbl := jw_in 1114 (by decide +kernel)
theorem jk_L_seaIn_0 {g : jG} (hN : jnc g) : jCat g RL [(0, 9, 12, 13)] 4 iae 12 := ⟨[], ⟨0, 9, 12, 13⟩, [], iae, rfl, (fun z hz => nomatch hz), by decide, by decide, jlc_13, jcc_iae, rfl⟩
theorem l_seaIn {g : jG} {d : Nat} {h : jH} {o a : Nat} {fs : List Value} {x1 : Int32} {Q : Int32 → jH → Prop} {X : String → jH → Prop} (hN : jnc g) (ho : h.1 o = some (.inr (11, fs))) (C : Con g mX11_seaIn d [.ref o, .int x1] h (jPi Q X)) (hQ : ∀ r h', Q r h' → ∃ f : Nat → Int64, h'.1 a = some (.inl (3, (1, .inr (.inl f))))) (hX : ∀ E h', X E h' → E = iae) : Con g mL_seaIn (d + 1) [.ref o, .int x1, .ref a] h (jPi (wrQ [iae] a (fun r => r.toInt64) Q X) no2) := by
  refine con_ofH (μ := mL_seaIn) (by decide +kernel) (Nat.le_of_ble_eq_true rfl) ⟨_, _, rfl⟩ ?_
  show J g mL_seaIn (d + 1) h _ 0 [(0, .ref o), (1, .int x1), (2, .ref a)] [] h
  refine jr_aload_n 2 dL_seaIn_0 rfl rfl ?_
  refine jr_iconst dL_seaIn_1 rfl ?_
  refine jr_aload_n 0 dL_seaIn_2 rfl rfl ?_
  refine jr_iload_n 1 dL_seaIn_3 rfl rfl ?_
  refine jr_callVH (P2 := jPi Q X) (st := [.int 0, .ref a]) (As := [.int x1]) jl_L_66 km_X11_seaIn rfl dL_seaIn_4 ho (Nat.le_of_ble_eq_true rfl) C (fun v h' hq => ?_) (fun E h' hq => ?_)
  · obtain ⟨r, rfl, hr⟩ := jPi_in hq
    obtain ⟨f, hf⟩ := hQ r h' hr
    show J g mL_seaIn (d + 1) h _ 7 [(0, .ref o), (1, .int x1), (2, .ref a)] [.int r, .int 0, .ref a] h'
    refine jr_i2l dL_seaIn_7 ?_
    refine jr_last dL_seaIn_8 hf vin01 ?_
    refine jr_goto (tgt := 15) dL_seaIn_9 (by decide) ?_
    refine jr_iconst dL_seaIn_15 rfl ?_
    exact jr_iret (ty := .int) rfl rfl dL_seaIn_16 (Or.inl ⟨rfl, r, h', hr, f, hf, rfl⟩)
  · obtain rfl := hX E h' hq
    refine ⟨_, jk_L_seaIn_0 hN, fun q => ?_⟩
    refine jr_astore_n dL_seaIn_12 rfl (by decide) rfl ?_
    refine jr_iconst dL_seaIn_13 rfl ?_
    exact jr_iret (ty := .int) rfl rfl dL_seaIn_14 (Or.inr ⟨_, hq, Eq.symm (cod_i)⟩)
abbrev mL_burden : jM := (yL_burden, cL_burden, 5, (some (.int)), [(0, 9, 12, 19), (0, 9, 16, 13)])
theorem km_L_burden : jMh mL_burden 4 := ⟨⟨jw_in 1120 (by decide +kernel), jw_in 0 (by decide +kernel), by decide, ⟨by decide +kernel, by decide +kernel, by decide +kernel⟩, by decide +kernel⟩, ⟨_, _, rfl⟩, jw_in 1119 (by decide +kernel)⟩
theorem jl_L_69 : Cond.methodLink RL 69 mX11_burden.1 ∈ lw_tbl := jw_in 1121 (by decide +kernel)
theorem jk_L_burden_0 {g : jG} (hN : jnc g) : jCat g RL [(0, 9, 12, 19), (0, 9, 16, 13)] 5 nse 12 := ⟨[], ⟨0, 9, 12, 19⟩, [⟨0, 9, 16, 13⟩], nse, rfl, (fun z hz => nomatch hz), by decide, by decide, jlc_19, jcc_nse, rfl⟩
theorem jk_L_burden_1 {g : jG} (hN : jnc g) : jCat g RL [(0, 9, 12, 19), (0, 9, 16, 13)] 5 iae 16 := ⟨[⟨0, 9, 12, 19⟩], ⟨0, 9, 16, 13⟩, [], iae, rfl, List.forall_mem_cons.mpr ⟨Or.inr ⟨by decide, nse, jlc_19, jnc_at hN 3 rfl⟩, (fun z hz => nomatch hz)⟩, by decide, by decide, jlc_13, jcc_iae, rfl⟩
theorem l_burden {g : jG} {d : Nat} {h : jH} {o a : Nat} {fs : List Value} {x1 : Int32} {x2 : Int32} {Q : Int64 → jH → Prop} {X : String → jH → Prop} (hN : jnc g) (ho : h.1 o = some (.inr (11, fs))) (C : Con g mX11_burden d [.ref o, .int x1, .int x2] h (jPl Q X)) (hQ : ∀ r h', Q r h' → ∃ f : Nat → Int64, h'.1 a = some (.inl (3, (1, .inr (.inl f))))) (hX : ∀ E h', X E h' → E = nse ∨ E = iae) : Con g mL_burden (d + 1) [.ref o, .int x1, .int x2, .ref a] h (jPi (wrQ [nse, iae] a (fun r => r) Q X) no2) := by
  refine con_ofH (μ := mL_burden) (by decide +kernel) (Nat.le_of_ble_eq_true rfl) ⟨_, _, rfl⟩ ?_
  show J g mL_burden (d + 1) h _ 0 [(0, .ref o), (1, .int x1), (2, .int x2), (3, .ref a)] [] h
  refine jr_aload_n 3 dL_burden_0 rfl rfl ?_
  refine jr_iconst dL_burden_1 rfl ?_
  refine jr_aload_n 0 dL_burden_2 rfl rfl ?_
  refine jr_iload_n 1 dL_burden_3 rfl rfl ?_
  refine jr_iload_n 2 dL_burden_4 rfl rfl ?_
  refine jr_callVH (P2 := jPl Q X) (st := [.int 0, .ref a]) (As := [.int x1, .int x2]) jl_L_69 km_X11_burden rfl dL_burden_5 ho (Nat.le_of_ble_eq_true rfl) C (fun v h' hq => ?_) (fun E h' hq => ?_)
  · obtain ⟨r, rfl, hr⟩ := jPl_in hq
    obtain ⟨f, hf⟩ := hQ r h' hr
    show J g mL_burden (d + 1) h _ 8 [(0, .ref o), (1, .int x1), (2, .int x2), (3, .ref a)] [.long r, .int 0, .ref a] h'
    refine jr_last dL_burden_8 hf vin01 ?_
    refine jr_goto (tgt := 20) dL_burden_9 (by decide) ?_
    refine jr_iconst dL_burden_20 rfl ?_
    exact jr_iret (ty := .int) rfl rfl dL_burden_21 (Or.inl ⟨rfl, r, h', hr, f, hf, rfl⟩)
  · rcases hX E h' hq with rfl | rfl
    · refine ⟨_, jk_L_burden_0 hN, fun q => ?_⟩
      refine jr_astore dL_burden_12 (by decide) rfl ?_
      refine jr_iconst dL_burden_14 rfl ?_
      exact jr_iret (ty := .int) rfl rfl dL_burden_15 (Or.inr ⟨_, hq, Eq.symm (cod_i)⟩)
    · refine ⟨_, jk_L_burden_1 hN, fun q => ?_⟩
      refine jr_astore dL_burden_16 (by decide) rfl ?_
      refine jr_iconst dL_burden_18 rfl ?_
      exact jr_iret (ty := .int) rfl rfl dL_burden_19 (Or.inr ⟨_, hq, Eq.symm ((cod_n (by decide)).trans (cod_i))⟩)
abbrev mL_heaviest : jM := (yL_heaviest, cL_heaviest, 4, (some (.int)), [(0, 9, 12, 13)])
theorem km_L_heaviest : jMh mL_heaviest 3 := ⟨⟨jw_in 1134 (by decide +kernel), jw_in 0 (by decide +kernel), by decide, ⟨by decide +kernel, by decide +kernel, by decide +kernel⟩, by decide +kernel⟩, ⟨_, _, rfl⟩, jw_in 1133 (by decide +kernel)⟩
theorem jl_L_73 : Cond.methodLink RL 73 mX11_heaviest.1 ∈ lw_tbl := jw_in 1135 (by decide +kernel)
theorem jk_L_heaviest_0 {g : jG} (hN : jnc g) : jCat g RL [(0, 9, 12, 13)] 4 iae 12 := ⟨[], ⟨0, 9, 12, 13⟩, [], iae, rfl, (fun z hz => nomatch hz), by decide, by decide, jlc_13, jcc_iae, rfl⟩
theorem l_heaviest {g : jG} {d : Nat} {h : jH} {o a : Nat} {fs : List Value} {x1 : Int32} {Q : Int32 → jH → Prop} {X : String → jH → Prop} (hN : jnc g) (ho : h.1 o = some (.inr (11, fs))) (C : Con g mX11_heaviest d [.ref o, .int x1] h (jPi Q X)) (hQ : ∀ r h', Q r h' → ∃ f : Nat → Int64, h'.1 a = some (.inl (3, (1, .inr (.inl f))))) (hX : ∀ E h', X E h' → E = iae) : Con g mL_heaviest (d + 1) [.ref o, .int x1, .ref a] h (jPi (wrQ [iae] a (fun r => r.toInt64) Q X) no2) := by
  refine con_ofH (μ := mL_heaviest) (by decide +kernel) (Nat.le_of_ble_eq_true rfl) ⟨_, _, rfl⟩ ?_
  show J g mL_heaviest (d + 1) h _ 0 [(0, .ref o), (1, .int x1), (2, .ref a)] [] h
  refine jr_aload_n 2 dL_heaviest_0 rfl rfl ?_
  refine jr_iconst dL_heaviest_1 rfl ?_
  refine jr_aload_n 0 dL_heaviest_2 rfl rfl ?_
  refine jr_iload_n 1 dL_heaviest_3 rfl rfl ?_
  refine jr_callVH (P2 := jPi Q X) (st := [.int 0, .ref a]) (As := [.int x1]) jl_L_73 km_X11_heaviest rfl dL_heaviest_4 ho (Nat.le_of_ble_eq_true rfl) C (fun v h' hq => ?_) (fun E h' hq => ?_)
  · obtain ⟨r, rfl, hr⟩ := jPi_in hq
    obtain ⟨f, hf⟩ := hQ r h' hr
    show J g mL_heaviest (d + 1) h _ 7 [(0, .ref o), (1, .int x1), (2, .ref a)] [.int r, .int 0, .ref a] h'
    refine jr_i2l dL_heaviest_7 ?_
    refine jr_last dL_heaviest_8 hf vin01 ?_
    refine jr_goto (tgt := 15) dL_heaviest_9 (by decide) ?_
    refine jr_iconst dL_heaviest_15 rfl ?_
    exact jr_iret (ty := .int) rfl rfl dL_heaviest_16 (Or.inl ⟨rfl, r, h', hr, f, hf, rfl⟩)
  · obtain rfl := hX E h' hq
    refine ⟨_, jk_L_heaviest_0 hN, fun q => ?_⟩
    refine jr_astore_n dL_heaviest_12 rfl (by decide) rfl ?_
    refine jr_iconst dL_heaviest_13 rfl ?_
    exact jr_iret (ty := .int) rfl rfl dL_heaviest_14 (Or.inr ⟨_, hq, Eq.symm (cod_i)⟩)
abbrev mL_paid : jM := (yL_paid, cL_paid, 4, (some (.int)), [(0, 8, 11, 13)])
theorem km_L_paid : jMh mL_paid 3 := ⟨⟨jw_in 1141 (by decide +kernel), jw_in 0 (by decide +kernel), by decide, ⟨by decide +kernel, by decide +kernel, by decide +kernel⟩, by decide +kernel⟩, ⟨_, _, rfl⟩, jw_in 1140 (by decide +kernel)⟩
theorem jl_L_76 : Cond.methodLink RL 76 mX11_paid.1 ∈ lw_tbl := jw_in 1142 (by decide +kernel)
theorem jk_L_paid_0 {g : jG} (hN : jnc g) : jCat g RL [(0, 8, 11, 13)] 4 iae 11 := ⟨[], ⟨0, 8, 11, 13⟩, [], iae, rfl, (fun z hz => nomatch hz), by decide, by decide, jlc_13, jcc_iae, rfl⟩
theorem l_paid {g : jG} {d : Nat} {h : jH} {o a : Nat} {fs : List Value} {x1 : Int32} {Q : Int64 → jH → Prop} {X : String → jH → Prop} (hN : jnc g) (ho : h.1 o = some (.inr (11, fs))) (C : Con g mX11_paid d [.ref o, .int x1] h (jPl Q X)) (hQ : ∀ r h', Q r h' → ∃ f : Nat → Int64, h'.1 a = some (.inl (3, (1, .inr (.inl f))))) (hX : ∀ E h', X E h' → E = iae) : Con g mL_paid (d + 1) [.ref o, .int x1, .ref a] h (jPi (wrQ [iae] a (fun r => r) Q X) no2) := by
  refine con_ofH (μ := mL_paid) (by decide +kernel) (Nat.le_of_ble_eq_true rfl) ⟨_, _, rfl⟩ ?_
  show J g mL_paid (d + 1) h _ 0 [(0, .ref o), (1, .int x1), (2, .ref a)] [] h
  refine jr_aload_n 2 dL_paid_0 rfl rfl ?_
  refine jr_iconst dL_paid_1 rfl ?_
  refine jr_aload_n 0 dL_paid_2 rfl rfl ?_
  refine jr_iload_n 1 dL_paid_3 rfl rfl ?_
  refine jr_callVH (P2 := jPl Q X) (st := [.int 0, .ref a]) (As := [.int x1]) jl_L_76 km_X11_paid rfl dL_paid_4 ho (Nat.le_of_ble_eq_true rfl) C (fun v h' hq => ?_) (fun E h' hq => ?_)
  · obtain ⟨r, rfl, hr⟩ := jPl_in hq
    obtain ⟨f, hf⟩ := hQ r h' hr
    show J g mL_paid (d + 1) h _ 7 [(0, .ref o), (1, .int x1), (2, .ref a)] [.long r, .int 0, .ref a] h'
    refine jr_last dL_paid_7 hf vin01 ?_
    refine jr_goto (tgt := 14) dL_paid_8 (by decide) ?_
    refine jr_iconst dL_paid_14 rfl ?_
    exact jr_iret (ty := .int) rfl rfl dL_paid_15 (Or.inl ⟨rfl, r, h', hr, f, hf, rfl⟩)
  · obtain rfl := hX E h' hq
    refine ⟨_, jk_L_paid_0 hN, fun q => ?_⟩
    refine jr_astore_n dL_paid_11 rfl (by decide) rfl ?_
    refine jr_iconst dL_paid_12 rfl ?_
    exact jr_iret (ty := .int) rfl rfl dL_paid_13 (Or.inr ⟨_, hq, Eq.symm (cod_i)⟩)
abbrev mL_order : jM := (yL_order, cL_order, 5, (some (.int)), [(0, 10, 13, 13)])
theorem km_L_order : jMh mL_order 4 := ⟨⟨jw_in 1148 (by decide +kernel), jw_in 0 (by decide +kernel), by decide, ⟨by decide +kernel, by decide +kernel, by decide +kernel⟩, by decide +kernel⟩, ⟨_, _, rfl⟩, jw_in 1147 (by decide +kernel)⟩
theorem jl_L_80 : Cond.methodLink RL 80 mX11_order.1 ∈ lw_tbl := jw_in 1149 (by decide +kernel)
theorem jk_L_order_0 {g : jG} (hN : jnc g) : jCat g RL [(0, 10, 13, 13)] 5 iae 13 := ⟨[], ⟨0, 10, 13, 13⟩, [], iae, rfl, (fun z hz => nomatch hz), by decide, by decide, jlc_13, jcc_iae, rfl⟩
theorem l_order {g : jG} {d : Nat} {h : jH} {o a : Nat} {fs : List Value} {x1 : Int32} {x2 : Int32} {Q : Int32 → jH → Prop} {X : String → jH → Prop} (hN : jnc g) (ho : h.1 o = some (.inr (11, fs))) (C : Con g mX11_order d [.ref o, .int x1, .int x2] h (jPi Q X)) (hQ : ∀ r h', Q r h' → ∃ f : Nat → Int64, h'.1 a = some (.inl (3, (1, .inr (.inl f))))) (hX : ∀ E h', X E h' → E = iae) : Con g mL_order (d + 1) [.ref o, .int x1, .int x2, .ref a] h (jPi (wrQ [iae] a (fun r => r.toInt64) Q X) no2) := by
  refine con_ofH (μ := mL_order) (by decide +kernel) (Nat.le_of_ble_eq_true rfl) ⟨_, _, rfl⟩ ?_
  show J g mL_order (d + 1) h _ 0 [(0, .ref o), (1, .int x1), (2, .int x2), (3, .ref a)] [] h
  refine jr_aload_n 3 dL_order_0 rfl rfl ?_
  refine jr_iconst dL_order_1 rfl ?_
  refine jr_aload_n 0 dL_order_2 rfl rfl ?_
  refine jr_iload_n 1 dL_order_3 rfl rfl ?_
  refine jr_iload_n 2 dL_order_4 rfl rfl ?_
  refine jr_callVH (P2 := jPi Q X) (st := [.int 0, .ref a]) (As := [.int x1, .int x2]) jl_L_80 km_X11_order rfl dL_order_5 ho (Nat.le_of_ble_eq_true rfl) C (fun v h' hq => ?_) (fun E h' hq => ?_)
  · obtain ⟨r, rfl, hr⟩ := jPi_in hq
    obtain ⟨f, hf⟩ := hQ r h' hr
    show J g mL_order (d + 1) h _ 8 [(0, .ref o), (1, .int x1), (2, .int x2), (3, .ref a)] [.int r, .int 0, .ref a] h'
    refine jr_i2l dL_order_8 ?_
    refine jr_last dL_order_9 hf vin01 ?_
    refine jr_goto (tgt := 17) dL_order_10 (by decide) ?_
    refine jr_iconst dL_order_17 rfl ?_
    exact jr_iret (ty := .int) rfl rfl dL_order_18 (Or.inl ⟨rfl, r, h', hr, f, hf, rfl⟩)
  · obtain rfl := hX E h' hq
    refine ⟨_, jk_L_order_0 hN, fun q => ?_⟩
    refine jr_astore dL_order_13 (by decide) rfl ?_
    refine jr_iconst dL_order_15 rfl ?_
    exact jr_iret (ty := .int) rfl rfl dL_order_16 (Or.inr ⟨_, hq, Eq.symm (cod_i)⟩)
abbrev mL_orders : jM := (yL_orders, cL_orders, 4, (some (.int)), [(0, 9, 12, 13)])
theorem km_L_orders : jMh mL_orders 3 := ⟨⟨jw_in 1184 (by decide +kernel), jw_in 0 (by decide +kernel), by decide, ⟨by decide +kernel, by decide +kernel, by decide +kernel⟩, by decide +kernel⟩, ⟨_, _, rfl⟩, jw_in 1183 (by decide +kernel)⟩
theorem jl_L_83 : Cond.methodLink RL 83 mX11_orders.1 ∈ lw_tbl := jw_in 1185 (by decide +kernel)
theorem jk_L_orders_0 {g : jG} (hN : jnc g) : jCat g RL [(0, 9, 12, 13)] 4 iae 12 := ⟨[], ⟨0, 9, 12, 13⟩, [], iae, rfl, (fun z hz => nomatch hz), by decide, by decide, jlc_13, jcc_iae, rfl⟩
theorem l_orders {g : jG} {d : Nat} {h : jH} {o a : Nat} {fs : List Value} {x1 : Int32} {Q : Int32 → jH → Prop} {X : String → jH → Prop} (hN : jnc g) (ho : h.1 o = some (.inr (11, fs))) (C : Con g mX11_orders d [.ref o, .int x1] h (jPi Q X)) (hQ : ∀ r h', Q r h' → ∃ f : Nat → Int64, h'.1 a = some (.inl (3, (1, .inr (.inl f))))) (hX : ∀ E h', X E h' → E = iae) : Con g mL_orders (d + 1) [.ref o, .int x1, .ref a] h (jPi (wrQ [iae] a (fun r => r.toInt64) Q X) no2) := by
  refine con_ofH (μ := mL_orders) (by decide +kernel) (Nat.le_of_ble_eq_true rfl) ⟨_, _, rfl⟩ ?_
  show J g mL_orders (d + 1) h _ 0 [(0, .ref o), (1, .int x1), (2, .ref a)] [] h
  refine jr_aload_n 2 dL_orders_0 rfl rfl ?_
  refine jr_iconst dL_orders_1 rfl ?_
  refine jr_aload_n 0 dL_orders_2 rfl rfl ?_
  refine jr_iload_n 1 dL_orders_3 rfl rfl ?_
  refine jr_callVH (P2 := jPi Q X) (st := [.int 0, .ref a]) (As := [.int x1]) jl_L_83 km_X11_orders rfl dL_orders_4 ho (Nat.le_of_ble_eq_true rfl) C (fun v h' hq => ?_) (fun E h' hq => ?_)
  · obtain ⟨r, rfl, hr⟩ := jPi_in hq
    obtain ⟨f, hf⟩ := hQ r h' hr
    show J g mL_orders (d + 1) h _ 7 [(0, .ref o), (1, .int x1), (2, .ref a)] [.int r, .int 0, .ref a] h'
    refine jr_i2l dL_orders_7 ?_
    refine jr_last dL_orders_8 hf vin01 ?_
    refine jr_goto (tgt := 15) dL_orders_9 (by decide) ?_
    refine jr_iconst dL_orders_15 rfl ?_
    exact jr_iret (ty := .int) rfl rfl dL_orders_16 (Or.inl ⟨rfl, r, h', hr, f, hf, rfl⟩)
  · obtain rfl := hX E h' hq
    refine ⟨_, jk_L_orders_0 hN, fun q => ?_⟩
    refine jr_astore_n dL_orders_12 rfl (by decide) rfl ?_
    refine jr_iconst dL_orders_13 rfl ?_
    exact jr_iret (ty := .int) rfl rfl dL_orders_14 (Or.inr ⟨_, hq, Eq.symm (cod_i)⟩)
abbrev mL_bestSwap : jM := (yL_bestSwap, cL_bestSwap, 4, (some (.int)), [(0, 9, 12, 13)])
theorem km_L_bestSwap : jMh mL_bestSwap 3 := ⟨⟨jw_in 1191 (by decide +kernel), jw_in 0 (by decide +kernel), by decide, ⟨by decide +kernel, by decide +kernel, by decide +kernel⟩, by decide +kernel⟩, ⟨_, _, rfl⟩, jw_in 1190 (by decide +kernel)⟩
theorem jl_L_86 : Cond.methodLink RL 86 mX11_bestSwap.1 ∈ lw_tbl := jw_in 1192 (by decide +kernel)
theorem jk_L_bestSwap_0 {g : jG} (hN : jnc g) : jCat g RL [(0, 9, 12, 13)] 4 iae 12 := ⟨[], ⟨0, 9, 12, 13⟩, [], iae, rfl, (fun z hz => nomatch hz), by decide, by decide, jlc_13, jcc_iae, rfl⟩
theorem l_bestSwap {g : jG} {d : Nat} {h : jH} {o a : Nat} {fs : List Value} {x1 : Int32} {Q : Int32 → jH → Prop} {X : String → jH → Prop} (hN : jnc g) (ho : h.1 o = some (.inr (11, fs))) (C : Con g mX11_bestSwap d [.ref o, .int x1] h (jPi Q X)) (hQ : ∀ r h', Q r h' → ∃ f : Nat → Int64, h'.1 a = some (.inl (3, (1, .inr (.inl f))))) (hX : ∀ E h', X E h' → E = iae) : Con g mL_bestSwap (d + 1) [.ref o, .int x1, .ref a] h (jPi (wrQ [iae] a (fun r => r.toInt64) Q X) no2) := by
  refine con_ofH (μ := mL_bestSwap) (by decide +kernel) (Nat.le_of_ble_eq_true rfl) ⟨_, _, rfl⟩ ?_
  show J g mL_bestSwap (d + 1) h _ 0 [(0, .ref o), (1, .int x1), (2, .ref a)] [] h
  refine jr_aload_n 2 dL_bestSwap_0 rfl rfl ?_
  refine jr_iconst dL_bestSwap_1 rfl ?_
  refine jr_aload_n 0 dL_bestSwap_2 rfl rfl ?_
  refine jr_iload_n 1 dL_bestSwap_3 rfl rfl ?_
  refine jr_callVH (P2 := jPi Q X) (st := [.int 0, .ref a]) (As := [.int x1]) jl_L_86 km_X11_bestSwap rfl dL_bestSwap_4 ho (Nat.le_of_ble_eq_true rfl) C (fun v h' hq => ?_) (fun E h' hq => ?_)
  · obtain ⟨r, rfl, hr⟩ := jPi_in hq
    obtain ⟨f, hf⟩ := hQ r h' hr
    show J g mL_bestSwap (d + 1) h _ 7 [(0, .ref o), (1, .int x1), (2, .ref a)] [.int r, .int 0, .ref a] h'
    refine jr_i2l dL_bestSwap_7 ?_
    refine jr_last dL_bestSwap_8 hf vin01 ?_
    refine jr_goto (tgt := 15) dL_bestSwap_9 (by decide) ?_
    refine jr_iconst dL_bestSwap_15 rfl ?_
    exact jr_iret (ty := .int) rfl rfl dL_bestSwap_16 (Or.inl ⟨rfl, r, h', hr, f, hf, rfl⟩)
  · obtain rfl := hX E h' hq
    refine ⟨_, jk_L_bestSwap_0 hN, fun q => ?_⟩
    refine jr_astore_n dL_bestSwap_12 rfl (by decide) rfl ?_
    refine jr_iconst dL_bestSwap_13 rfl ?_
    exact jr_iret (ty := .int) rfl rfl dL_bestSwap_14 (Or.inr ⟨_, hq, Eq.symm (cod_i)⟩)
abbrev mL_wouldSwap : jM := (yL_wouldSwap, cL_wouldSwap, 4, (some (.int)), [(0, 9, 12, 13)])
theorem km_L_wouldSwap : jMh mL_wouldSwap 3 := ⟨⟨jw_in 1198 (by decide +kernel), jw_in 0 (by decide +kernel), by decide, ⟨by decide +kernel, by decide +kernel, by decide +kernel⟩, by decide +kernel⟩, ⟨_, _, rfl⟩, jw_in 1197 (by decide +kernel)⟩
theorem jl_L_89 : Cond.methodLink RL 89 mX11_wouldSwap.1 ∈ lw_tbl := jw_in 1199 (by decide +kernel)
theorem jk_L_wouldSwap_0 {g : jG} (hN : jnc g) : jCat g RL [(0, 9, 12, 13)] 4 iae 12 := ⟨[], ⟨0, 9, 12, 13⟩, [], iae, rfl, (fun z hz => nomatch hz), by decide, by decide, jlc_13, jcc_iae, rfl⟩
theorem l_wouldSwap {g : jG} {d : Nat} {h : jH} {o a : Nat} {fs : List Value} {x1 : Int32} {Q : Int32 → jH → Prop} {X : String → jH → Prop} (hN : jnc g) (ho : h.1 o = some (.inr (11, fs))) (C : Con g mX11_wouldSwap d [.ref o, .int x1] h (jPi Q X)) (hQ : ∀ r h', Q r h' → ∃ f : Nat → Int64, h'.1 a = some (.inl (3, (1, .inr (.inl f))))) (hX : ∀ E h', X E h' → E = iae) : Con g mL_wouldSwap (d + 1) [.ref o, .int x1, .ref a] h (jPi (wrQ [iae] a (fun r => r.toInt64) Q X) no2) := by
  refine con_ofH (μ := mL_wouldSwap) (by decide +kernel) (Nat.le_of_ble_eq_true rfl) ⟨_, _, rfl⟩ ?_
  show J g mL_wouldSwap (d + 1) h _ 0 [(0, .ref o), (1, .int x1), (2, .ref a)] [] h
  refine jr_aload_n 2 dL_wouldSwap_0 rfl rfl ?_
  refine jr_iconst dL_wouldSwap_1 rfl ?_
  refine jr_aload_n 0 dL_wouldSwap_2 rfl rfl ?_
  refine jr_iload_n 1 dL_wouldSwap_3 rfl rfl ?_
  refine jr_callVH (P2 := jPi Q X) (st := [.int 0, .ref a]) (As := [.int x1]) jl_L_89 km_X11_wouldSwap rfl dL_wouldSwap_4 ho (Nat.le_of_ble_eq_true rfl) C (fun v h' hq => ?_) (fun E h' hq => ?_)
  · obtain ⟨r, rfl, hr⟩ := jPi_in hq
    obtain ⟨f, hf⟩ := hQ r h' hr
    show J g mL_wouldSwap (d + 1) h _ 7 [(0, .ref o), (1, .int x1), (2, .ref a)] [.int r, .int 0, .ref a] h'
    refine jr_i2l dL_wouldSwap_7 ?_
    refine jr_last dL_wouldSwap_8 hf vin01 ?_
    refine jr_goto (tgt := 15) dL_wouldSwap_9 (by decide) ?_
    refine jr_iconst dL_wouldSwap_15 rfl ?_
    exact jr_iret (ty := .int) rfl rfl dL_wouldSwap_16 (Or.inl ⟨rfl, r, h', hr, f, hf, rfl⟩)
  · obtain rfl := hX E h' hq
    refine ⟨_, jk_L_wouldSwap_0 hN, fun q => ?_⟩
    refine jr_astore_n dL_wouldSwap_12 rfl (by decide) rfl ?_
    refine jr_iconst dL_wouldSwap_13 rfl ?_
    exact jr_iret (ty := .int) rfl rfl dL_wouldSwap_14 (Or.inr ⟨_, hq, Eq.symm (cod_i)⟩)
abbrev mL_bestHouse : jM := (yL_bestHouse, cL_bestHouse, 5, (some (.int)), [(0, 10, 13, 19), (0, 10, 17, 13)])
theorem km_L_bestHouse : jMh mL_bestHouse 4 := ⟨⟨jw_in 1214 (by decide +kernel), jw_in 0 (by decide +kernel), by decide, ⟨by decide +kernel, by decide +kernel, by decide +kernel⟩, by decide +kernel⟩, ⟨_, _, rfl⟩, jw_in 1213 (by decide +kernel)⟩
theorem jl_L_92 : Cond.methodLink RL 92 mX11_bestHouse.1 ∈ lw_tbl := jw_in 1215 (by decide +kernel)
theorem jk_L_bestHouse_0 {g : jG} (hN : jnc g) : jCat g RL [(0, 10, 13, 19), (0, 10, 17, 13)] 5 nse 13 := ⟨[], ⟨0, 10, 13, 19⟩, [⟨0, 10, 17, 13⟩], nse, rfl, (fun z hz => nomatch hz), by decide, by decide, jlc_19, jcc_nse, rfl⟩
theorem jk_L_bestHouse_1 {g : jG} (hN : jnc g) : jCat g RL [(0, 10, 13, 19), (0, 10, 17, 13)] 5 iae 17 := ⟨[⟨0, 10, 13, 19⟩], ⟨0, 10, 17, 13⟩, [], iae, rfl, List.forall_mem_cons.mpr ⟨Or.inr ⟨by decide, nse, jlc_19, jnc_at hN 3 rfl⟩, (fun z hz => nomatch hz)⟩, by decide, by decide, jlc_13, jcc_iae, rfl⟩
theorem l_bestHouse {g : jG} {d : Nat} {h : jH} {o a : Nat} {fs : List Value} {x1 : Int32} {x2 : Int32} {Q : Int32 → jH → Prop} {X : String → jH → Prop} (hN : jnc g) (ho : h.1 o = some (.inr (11, fs))) (C : Con g mX11_bestHouse d [.ref o, .int x1, .int x2] h (jPi Q X)) (hQ : ∀ r h', Q r h' → ∃ f : Nat → Int64, h'.1 a = some (.inl (3, (1, .inr (.inl f))))) (hX : ∀ E h', X E h' → E = nse ∨ E = iae) : Con g mL_bestHouse (d + 1) [.ref o, .int x1, .int x2, .ref a] h (jPi (wrQ [nse, iae] a (fun r => r.toInt64) Q X) no2) := by
  refine con_ofH (μ := mL_bestHouse) (by decide +kernel) (Nat.le_of_ble_eq_true rfl) ⟨_, _, rfl⟩ ?_
  show J g mL_bestHouse (d + 1) h _ 0 [(0, .ref o), (1, .int x1), (2, .int x2), (3, .ref a)] [] h
  refine jr_aload_n 3 dL_bestHouse_0 rfl rfl ?_
  refine jr_iconst dL_bestHouse_1 rfl ?_
  refine jr_aload_n 0 dL_bestHouse_2 rfl rfl ?_
  refine jr_iload_n 1 dL_bestHouse_3 rfl rfl ?_
  refine jr_iload_n 2 dL_bestHouse_4 rfl rfl ?_
  refine jr_callVH (P2 := jPi Q X) (st := [.int 0, .ref a]) (As := [.int x1, .int x2]) jl_L_92 km_X11_bestHouse rfl dL_bestHouse_5 ho (Nat.le_of_ble_eq_true rfl) C (fun v h' hq => ?_) (fun E h' hq => ?_)
  · obtain ⟨r, rfl, hr⟩ := jPi_in hq
    obtain ⟨f, hf⟩ := hQ r h' hr
    show J g mL_bestHouse (d + 1) h _ 8 [(0, .ref o), (1, .int x1), (2, .int x2), (3, .ref a)] [.int r, .int 0, .ref a] h'
    refine jr_i2l dL_bestHouse_8 ?_
    refine jr_last dL_bestHouse_9 hf vin01 ?_
    refine jr_goto (tgt := 21) dL_bestHouse_10 (by decide) ?_
    refine jr_iconst dL_bestHouse_21 rfl ?_
    exact jr_iret (ty := .int) rfl rfl dL_bestHouse_22 (Or.inl ⟨rfl, r, h', hr, f, hf, rfl⟩)
  · rcases hX E h' hq with rfl | rfl
    · refine ⟨_, jk_L_bestHouse_0 hN, fun q => ?_⟩
      refine jr_astore dL_bestHouse_13 (by decide) rfl ?_
      refine jr_iconst dL_bestHouse_15 rfl ?_
      exact jr_iret (ty := .int) rfl rfl dL_bestHouse_16 (Or.inr ⟨_, hq, Eq.symm (cod_i)⟩)
    · refine ⟨_, jk_L_bestHouse_1 hN, fun q => ?_⟩
      refine jr_astore dL_bestHouse_17 (by decide) rfl ?_
      refine jr_iconst dL_bestHouse_19 rfl ?_
      exact jr_iret (ty := .int) rfl rfl dL_bestHouse_20 (Or.inr ⟨_, hq, Eq.symm ((cod_n (by decide)).trans (cod_i))⟩)
abbrev mL_hedges : jM := (yL_hedges, cL_hedges, 6, (some (.int)), [(0, 12, 15, 19), (0, 12, 19, 13), (0, 12, 23, 27)])
theorem km_L_hedges : jMh mL_hedges 5 := ⟨⟨jw_in 1221 (by decide +kernel), jw_in 0 (by decide +kernel), by decide, ⟨by decide +kernel, by decide +kernel, by decide +kernel⟩, by decide +kernel⟩, ⟨_, _, rfl⟩, jw_in 1220 (by decide +kernel)⟩
theorem jl_L_95 : Cond.methodLink RL 95 mX11_hedges.1 ∈ lw_tbl := jw_in 1222 (by decide +kernel)
theorem jk_L_hedges_0 {g : jG} (hN : jnc g) : jCat g RL [(0, 12, 15, 19), (0, 12, 19, 13), (0, 12, 23, 27)] 7 nse 15 := ⟨[], ⟨0, 12, 15, 19⟩, [⟨0, 12, 19, 13⟩, ⟨0, 12, 23, 27⟩], nse, rfl, (fun z hz => nomatch hz), by decide, by decide, jlc_19, jcc_nse, rfl⟩
theorem jk_L_hedges_1 {g : jG} (hN : jnc g) : jCat g RL [(0, 12, 15, 19), (0, 12, 19, 13), (0, 12, 23, 27)] 7 iae 19 := ⟨[⟨0, 12, 15, 19⟩], ⟨0, 12, 19, 13⟩, [⟨0, 12, 23, 27⟩], iae, rfl, List.forall_mem_cons.mpr ⟨Or.inr ⟨by decide, nse, jlc_19, jnc_at hN 3 rfl⟩, (fun z hz => nomatch hz)⟩, by decide, by decide, jlc_13, jcc_iae, rfl⟩
theorem jk_L_hedges_2 {g : jG} (hN : jnc g) : jCat g RL [(0, 12, 15, 19), (0, 12, 19, 13), (0, 12, 23, 27)] 7 ise 23 := ⟨[⟨0, 12, 15, 19⟩, ⟨0, 12, 19, 13⟩], ⟨0, 12, 23, 27⟩, [], ise, rfl, List.forall_mem_cons.mpr ⟨Or.inr ⟨by decide, nse, jlc_19, jnc_at hN 6 rfl⟩, List.forall_mem_cons.mpr ⟨Or.inr ⟨by decide, iae, jlc_13, jnc_at hN 7 rfl⟩, (fun z hz => nomatch hz)⟩⟩, by decide, by decide, jlc_27, jcc_ise, rfl⟩
theorem l_hedges {g : jG} {d : Nat} {h : jH} {o a : Nat} {fs : List Value} {x1 : Int32} {x2 : Int32} {x3 : Int32} {Q : Int32 → jH → Prop} {X : String → jH → Prop} (hN : jnc g) (ho : h.1 o = some (.inr (11, fs))) (C : Con g mX11_hedges d [.ref o, .int x1, .int x2, .int x3] h (jPi Q X)) (hQ : ∀ r h', Q r h' → ∃ f : Nat → Int64, h'.1 a = some (.inl (3, (1, .inr (.inl f))))) (hX : ∀ E h', X E h' → E = nse ∨ E = iae ∨ E = ise) : Con g mL_hedges (d + 1) [.ref o, .int x1, .int x2, .int x3, .ref a] h (jPi (wrQ [nse, iae, ise] a (fun r => r.toInt64) Q X) no2) := by
  refine con_ofH (μ := mL_hedges) (by decide +kernel) (Nat.le_of_ble_eq_true rfl) ⟨_, _, rfl⟩ ?_
  show J g mL_hedges (d + 1) h _ 0 [(0, .ref o), (1, .int x1), (2, .int x2), (3, .int x3), (4, .ref a)] [] h
  refine jr_aload 4 dL_hedges_0 rfl ?_
  refine jr_iconst dL_hedges_2 rfl ?_
  refine jr_aload_n 0 dL_hedges_3 rfl rfl ?_
  refine jr_iload_n 1 dL_hedges_4 rfl rfl ?_
  refine jr_iload_n 2 dL_hedges_5 rfl rfl ?_
  refine jr_iload_n 3 dL_hedges_6 rfl rfl ?_
  refine jr_callVH (P2 := jPi Q X) (st := [.int 0, .ref a]) (As := [.int x1, .int x2, .int x3]) jl_L_95 km_X11_hedges rfl dL_hedges_7 ho (Nat.le_of_ble_eq_true rfl) C (fun v h' hq => ?_) (fun E h' hq => ?_)
  · obtain ⟨r, rfl, hr⟩ := jPi_in hq
    obtain ⟨f, hf⟩ := hQ r h' hr
    show J g mL_hedges (d + 1) h _ 10 [(0, .ref o), (1, .int x1), (2, .int x2), (3, .int x3), (4, .ref a)] [.int r, .int 0, .ref a] h'
    refine jr_i2l dL_hedges_10 ?_
    refine jr_last dL_hedges_11 hf vin01 ?_
    refine jr_goto (tgt := 27) dL_hedges_12 (by decide) ?_
    refine jr_iconst dL_hedges_27 rfl ?_
    exact jr_iret (ty := .int) rfl rfl dL_hedges_28 (Or.inl ⟨rfl, r, h', hr, f, hf, rfl⟩)
  · rcases hX E h' hq with rfl | rfl | rfl
    · refine ⟨_, jk_L_hedges_0 hN, fun q => ?_⟩
      refine jr_astore dL_hedges_15 (by decide) rfl ?_
      refine jr_iconst dL_hedges_17 rfl ?_
      exact jr_iret (ty := .int) rfl rfl dL_hedges_18 (Or.inr ⟨_, hq, Eq.symm (cod_i)⟩)
    · refine ⟨_, jk_L_hedges_1 hN, fun q => ?_⟩
      refine jr_astore dL_hedges_19 (by decide) rfl ?_
      refine jr_iconst dL_hedges_21 rfl ?_
      exact jr_iret (ty := .int) rfl rfl dL_hedges_22 (Or.inr ⟨_, hq, Eq.symm ((cod_n (by decide)).trans (cod_i))⟩)
    · refine ⟨_, jk_L_hedges_2 hN, fun q => ?_⟩
      refine jr_astore dL_hedges_23 (by decide) rfl ?_
      refine jr_iconst dL_hedges_25 rfl ?_
      exact jr_iret (ty := .int) rfl rfl dL_hedges_26 (Or.inr ⟨_, hq, Eq.symm ((cod_n (by decide)).trans ((cod_n (by decide)).trans (cod_i)))⟩)
abbrev mL_bestHedge : jM := (yL_bestHedge, cL_bestHedge, 4, (some (.int)), [(0, 9, 12, 13)])
theorem km_L_bestHedge : jMh mL_bestHedge 3 := ⟨⟨jw_in 1244 (by decide +kernel), jw_in 0 (by decide +kernel), by decide, ⟨by decide +kernel, by decide +kernel, by decide +kernel⟩, by decide +kernel⟩, ⟨_, _, rfl⟩, jw_in 1243 (by decide +kernel)⟩
theorem jl_L_99 : Cond.methodLink RL 99 mX11_bestHedge.1 ∈ lw_tbl := jw_in 1245 (by decide +kernel)
theorem jk_L_bestHedge_0 {g : jG} (hN : jnc g) : jCat g RL [(0, 9, 12, 13)] 4 iae 12 := ⟨[], ⟨0, 9, 12, 13⟩, [], iae, rfl, (fun z hz => nomatch hz), by decide, by decide, jlc_13, jcc_iae, rfl⟩
theorem l_bestHedge {g : jG} {d : Nat} {h : jH} {o a : Nat} {fs : List Value} {x1 : Int32} {Q : Int32 → jH → Prop} {X : String → jH → Prop} (hN : jnc g) (ho : h.1 o = some (.inr (11, fs))) (C : Con g mX11_bestHedge d [.ref o, .int x1] h (jPi Q X)) (hQ : ∀ r h', Q r h' → ∃ f : Nat → Int64, h'.1 a = some (.inl (3, (1, .inr (.inl f))))) (hX : ∀ E h', X E h' → E = iae) : Con g mL_bestHedge (d + 1) [.ref o, .int x1, .ref a] h (jPi (wrQ [iae] a (fun r => r.toInt64) Q X) no2) := by
  refine con_ofH (μ := mL_bestHedge) (by decide +kernel) (Nat.le_of_ble_eq_true rfl) ⟨_, _, rfl⟩ ?_
  show J g mL_bestHedge (d + 1) h _ 0 [(0, .ref o), (1, .int x1), (2, .ref a)] [] h
  refine jr_aload_n 2 dL_bestHedge_0 rfl rfl ?_
  refine jr_iconst dL_bestHedge_1 rfl ?_
  refine jr_aload_n 0 dL_bestHedge_2 rfl rfl ?_
  refine jr_iload_n 1 dL_bestHedge_3 rfl rfl ?_
  refine jr_callVH (P2 := jPi Q X) (st := [.int 0, .ref a]) (As := [.int x1]) jl_L_99 km_X11_bestHedge rfl dL_bestHedge_4 ho (Nat.le_of_ble_eq_true rfl) C (fun v h' hq => ?_) (fun E h' hq => ?_)
  · obtain ⟨r, rfl, hr⟩ := jPi_in hq
    obtain ⟨f, hf⟩ := hQ r h' hr
    show J g mL_bestHedge (d + 1) h _ 7 [(0, .ref o), (1, .int x1), (2, .ref a)] [.int r, .int 0, .ref a] h'
    refine jr_i2l dL_bestHedge_7 ?_
    refine jr_last dL_bestHedge_8 hf vin01 ?_
    refine jr_goto (tgt := 15) dL_bestHedge_9 (by decide) ?_
    refine jr_iconst dL_bestHedge_15 rfl ?_
    exact jr_iret (ty := .int) rfl rfl dL_bestHedge_16 (Or.inl ⟨rfl, r, h', hr, f, hf, rfl⟩)
  · obtain rfl := hX E h' hq
    refine ⟨_, jk_L_bestHedge_0 hN, fun q => ?_⟩
    refine jr_astore_n dL_bestHedge_12 rfl (by decide) rfl ?_
    refine jr_iconst dL_bestHedge_13 rfl ?_
    exact jr_iret (ty := .int) rfl rfl dL_bestHedge_14 (Or.inr ⟨_, hq, Eq.symm (cod_i)⟩)
abbrev mL_saves : jM := (yL_saves, cL_saves, 5, (some (.int)), [(0, 10, 13, 19), (0, 10, 17, 13), (0, 10, 21, 27)])
theorem km_L_saves : jMh mL_saves 4 := ⟨⟨jw_in 1251 (by decide +kernel), jw_in 0 (by decide +kernel), by decide, ⟨by decide +kernel, by decide +kernel, by decide +kernel⟩, by decide +kernel⟩, ⟨_, _, rfl⟩, jw_in 1250 (by decide +kernel)⟩
theorem jl_L_102 : Cond.methodLink RL 102 mX11_saves.1 ∈ lw_tbl := jw_in 1252 (by decide +kernel)
theorem jk_L_saves_0 {g : jG} (hN : jnc g) : jCat g RL [(0, 10, 13, 19), (0, 10, 17, 13), (0, 10, 21, 27)] 5 nse 13 := ⟨[], ⟨0, 10, 13, 19⟩, [⟨0, 10, 17, 13⟩, ⟨0, 10, 21, 27⟩], nse, rfl, (fun z hz => nomatch hz), by decide, by decide, jlc_19, jcc_nse, rfl⟩
theorem jk_L_saves_1 {g : jG} (hN : jnc g) : jCat g RL [(0, 10, 13, 19), (0, 10, 17, 13), (0, 10, 21, 27)] 5 iae 17 := ⟨[⟨0, 10, 13, 19⟩], ⟨0, 10, 17, 13⟩, [⟨0, 10, 21, 27⟩], iae, rfl, List.forall_mem_cons.mpr ⟨Or.inr ⟨by decide, nse, jlc_19, jnc_at hN 3 rfl⟩, (fun z hz => nomatch hz)⟩, by decide, by decide, jlc_13, jcc_iae, rfl⟩
theorem jk_L_saves_2 {g : jG} (hN : jnc g) : jCat g RL [(0, 10, 13, 19), (0, 10, 17, 13), (0, 10, 21, 27)] 5 ise 21 := ⟨[⟨0, 10, 13, 19⟩, ⟨0, 10, 17, 13⟩], ⟨0, 10, 21, 27⟩, [], ise, rfl, List.forall_mem_cons.mpr ⟨Or.inr ⟨by decide, nse, jlc_19, jnc_at hN 6 rfl⟩, List.forall_mem_cons.mpr ⟨Or.inr ⟨by decide, iae, jlc_13, jnc_at hN 7 rfl⟩, (fun z hz => nomatch hz)⟩⟩, by decide, by decide, jlc_27, jcc_ise, rfl⟩
theorem l_saves {g : jG} {d : Nat} {h : jH} {o a : Nat} {fs : List Value} {x1 : Int32} {x2 : Int32} {Q : Int32 → jH → Prop} {X : String → jH → Prop} (hN : jnc g) (ho : h.1 o = some (.inr (11, fs))) (C : Con g mX11_saves d [.ref o, .int x1, .int x2] h (jPi Q X)) (hQ : ∀ r h', Q r h' → ∃ f : Nat → Int64, h'.1 a = some (.inl (3, (1, .inr (.inl f))))) (hX : ∀ E h', X E h' → E = nse ∨ E = iae ∨ E = ise) : Con g mL_saves (d + 1) [.ref o, .int x1, .int x2, .ref a] h (jPi (wrQ [nse, iae, ise] a (fun r => r.toInt64) Q X) no2) := by
  refine con_ofH (μ := mL_saves) (by decide +kernel) (Nat.le_of_ble_eq_true rfl) ⟨_, _, rfl⟩ ?_
  show J g mL_saves (d + 1) h _ 0 [(0, .ref o), (1, .int x1), (2, .int x2), (3, .ref a)] [] h
  refine jr_aload_n 3 dL_saves_0 rfl rfl ?_
  refine jr_iconst dL_saves_1 rfl ?_
  refine jr_aload_n 0 dL_saves_2 rfl rfl ?_
  refine jr_iload_n 1 dL_saves_3 rfl rfl ?_
  refine jr_iload_n 2 dL_saves_4 rfl rfl ?_
  refine jr_callVH (P2 := jPi Q X) (st := [.int 0, .ref a]) (As := [.int x1, .int x2]) jl_L_102 km_X11_saves rfl dL_saves_5 ho (Nat.le_of_ble_eq_true rfl) C (fun v h' hq => ?_) (fun E h' hq => ?_)
  · obtain ⟨r, rfl, hr⟩ := jPi_in hq
    obtain ⟨f, hf⟩ := hQ r h' hr
    show J g mL_saves (d + 1) h _ 8 [(0, .ref o), (1, .int x1), (2, .int x2), (3, .ref a)] [.int r, .int 0, .ref a] h'
    refine jr_i2l dL_saves_8 ?_
    refine jr_last dL_saves_9 hf vin01 ?_
    refine jr_goto (tgt := 25) dL_saves_10 (by decide) ?_
    refine jr_iconst dL_saves_25 rfl ?_
    exact jr_iret (ty := .int) rfl rfl dL_saves_26 (Or.inl ⟨rfl, r, h', hr, f, hf, rfl⟩)
  · rcases hX E h' hq with rfl | rfl | rfl
    · refine ⟨_, jk_L_saves_0 hN, fun q => ?_⟩
      refine jr_astore dL_saves_13 (by decide) rfl ?_
      refine jr_iconst dL_saves_15 rfl ?_
      exact jr_iret (ty := .int) rfl rfl dL_saves_16 (Or.inr ⟨_, hq, Eq.symm (cod_i)⟩)
    · refine ⟨_, jk_L_saves_1 hN, fun q => ?_⟩
      refine jr_astore dL_saves_17 (by decide) rfl ?_
      refine jr_iconst dL_saves_19 rfl ?_
      exact jr_iret (ty := .int) rfl rfl dL_saves_20 (Or.inr ⟨_, hq, Eq.symm ((cod_n (by decide)).trans (cod_i))⟩)
    · refine ⟨_, jk_L_saves_2 hN, fun q => ?_⟩
      refine jr_astore dL_saves_21 (by decide) rfl ?_
      refine jr_iconst dL_saves_23 rfl ?_
      exact jr_iret (ty := .int) rfl rfl dL_saves_24 (Or.inr ⟨_, hq, Eq.symm ((cod_n (by decide)).trans ((cod_n (by decide)).trans (cod_i)))⟩)
abbrev mL_leastLimit : jM := (yL_leastLimit, cL_leastLimit, 4, (some (.int)), [(0, 9, 12, 13)])
theorem km_L_leastLimit : jMh mL_leastLimit 3 := ⟨⟨jw_in 1258 (by decide +kernel), jw_in 0 (by decide +kernel), by decide, ⟨by decide +kernel, by decide +kernel, by decide +kernel⟩, by decide +kernel⟩, ⟨_, _, rfl⟩, jw_in 1257 (by decide +kernel)⟩
theorem jl_L_105 : Cond.methodLink RL 105 mX11_leastLimit.1 ∈ lw_tbl := jw_in 1259 (by decide +kernel)
theorem jk_L_leastLimit_0 {g : jG} (hN : jnc g) : jCat g RL [(0, 9, 12, 13)] 4 iae 12 := ⟨[], ⟨0, 9, 12, 13⟩, [], iae, rfl, (fun z hz => nomatch hz), by decide, by decide, jlc_13, jcc_iae, rfl⟩
theorem l_leastLimit {g : jG} {d : Nat} {h : jH} {o a : Nat} {fs : List Value} {x1 : Int32} {Q : Int32 → jH → Prop} {X : String → jH → Prop} (hN : jnc g) (ho : h.1 o = some (.inr (11, fs))) (C : Con g mX11_leastLimit d [.ref o, .int x1] h (jPi Q X)) (hQ : ∀ r h', Q r h' → ∃ f : Nat → Int64, h'.1 a = some (.inl (3, (1, .inr (.inl f))))) (hX : ∀ E h', X E h' → E = iae) : Con g mL_leastLimit (d + 1) [.ref o, .int x1, .ref a] h (jPi (wrQ [iae] a (fun r => r.toInt64) Q X) no2) := by
  refine con_ofH (μ := mL_leastLimit) (by decide +kernel) (Nat.le_of_ble_eq_true rfl) ⟨_, _, rfl⟩ ?_
  show J g mL_leastLimit (d + 1) h _ 0 [(0, .ref o), (1, .int x1), (2, .ref a)] [] h
  refine jr_aload_n 2 dL_leastLimit_0 rfl rfl ?_
  refine jr_iconst dL_leastLimit_1 rfl ?_
  refine jr_aload_n 0 dL_leastLimit_2 rfl rfl ?_
  refine jr_iload_n 1 dL_leastLimit_3 rfl rfl ?_
  refine jr_callVH (P2 := jPi Q X) (st := [.int 0, .ref a]) (As := [.int x1]) jl_L_105 km_X11_leastLimit rfl dL_leastLimit_4 ho (Nat.le_of_ble_eq_true rfl) C (fun v h' hq => ?_) (fun E h' hq => ?_)
  · obtain ⟨r, rfl, hr⟩ := jPi_in hq
    obtain ⟨f, hf⟩ := hQ r h' hr
    show J g mL_leastLimit (d + 1) h _ 7 [(0, .ref o), (1, .int x1), (2, .ref a)] [.int r, .int 0, .ref a] h'
    refine jr_i2l dL_leastLimit_7 ?_
    refine jr_last dL_leastLimit_8 hf vin01 ?_
    refine jr_goto (tgt := 15) dL_leastLimit_9 (by decide) ?_
    refine jr_iconst dL_leastLimit_15 rfl ?_
    exact jr_iret (ty := .int) rfl rfl dL_leastLimit_16 (Or.inl ⟨rfl, r, h', hr, f, hf, rfl⟩)
  · obtain rfl := hX E h' hq
    refine ⟨_, jk_L_leastLimit_0 hN, fun q => ?_⟩
    refine jr_astore_n dL_leastLimit_12 rfl (by decide) rfl ?_
    refine jr_iconst dL_leastLimit_13 rfl ?_
    exact jr_iret (ty := .int) rfl rfl dL_leastLimit_14 (Or.inr ⟨_, hq, Eq.symm (cod_i)⟩)
abbrev mL_worth : jM := (yL_worth, cL_worth, 5, (some (.int)), [(0, 10, 13, 19), (0, 10, 17, 13), (0, 10, 21, 27)])
theorem km_L_worth : jMh mL_worth 4 := ⟨⟨jw_in 1266 (by decide +kernel), jw_in 0 (by decide +kernel), by decide, ⟨by decide +kernel, by decide +kernel, by decide +kernel⟩, by decide +kernel⟩, ⟨_, _, rfl⟩, jw_in 1265 (by decide +kernel)⟩
theorem jl_L_108 : Cond.methodLink RL 108 mX11_worth.1 ∈ lw_tbl := jw_in 1267 (by decide +kernel)
theorem jk_L_worth_0 {g : jG} (hN : jnc g) : jCat g RL [(0, 10, 13, 19), (0, 10, 17, 13), (0, 10, 21, 27)] 5 nse 13 := ⟨[], ⟨0, 10, 13, 19⟩, [⟨0, 10, 17, 13⟩, ⟨0, 10, 21, 27⟩], nse, rfl, (fun z hz => nomatch hz), by decide, by decide, jlc_19, jcc_nse, rfl⟩
theorem jk_L_worth_1 {g : jG} (hN : jnc g) : jCat g RL [(0, 10, 13, 19), (0, 10, 17, 13), (0, 10, 21, 27)] 5 iae 17 := ⟨[⟨0, 10, 13, 19⟩], ⟨0, 10, 17, 13⟩, [⟨0, 10, 21, 27⟩], iae, rfl, List.forall_mem_cons.mpr ⟨Or.inr ⟨by decide, nse, jlc_19, jnc_at hN 3 rfl⟩, (fun z hz => nomatch hz)⟩, by decide, by decide, jlc_13, jcc_iae, rfl⟩
theorem jk_L_worth_2 {g : jG} (hN : jnc g) : jCat g RL [(0, 10, 13, 19), (0, 10, 17, 13), (0, 10, 21, 27)] 5 ise 21 := ⟨[⟨0, 10, 13, 19⟩, ⟨0, 10, 17, 13⟩], ⟨0, 10, 21, 27⟩, [], ise, rfl, List.forall_mem_cons.mpr ⟨Or.inr ⟨by decide, nse, jlc_19, jnc_at hN 6 rfl⟩, List.forall_mem_cons.mpr ⟨Or.inr ⟨by decide, iae, jlc_13, jnc_at hN 7 rfl⟩, (fun z hz => nomatch hz)⟩⟩, by decide, by decide, jlc_27, jcc_ise, rfl⟩
theorem l_worth {g : jG} {d : Nat} {h : jH} {o a : Nat} {fs : List Value} {x1 : Int32} {x2 : Int32} {Q : Int32 → jH → Prop} {X : String → jH → Prop} (hN : jnc g) (ho : h.1 o = some (.inr (11, fs))) (C : Con g mX11_worth d [.ref o, .int x1, .int x2] h (jPi Q X)) (hQ : ∀ r h', Q r h' → ∃ f : Nat → Int64, h'.1 a = some (.inl (3, (1, .inr (.inl f))))) (hX : ∀ E h', X E h' → E = nse ∨ E = iae ∨ E = ise) : Con g mL_worth (d + 1) [.ref o, .int x1, .int x2, .ref a] h (jPi (wrQ [nse, iae, ise] a (fun r => r.toInt64) Q X) no2) := by
  refine con_ofH (μ := mL_worth) (by decide +kernel) (Nat.le_of_ble_eq_true rfl) ⟨_, _, rfl⟩ ?_
  show J g mL_worth (d + 1) h _ 0 [(0, .ref o), (1, .int x1), (2, .int x2), (3, .ref a)] [] h
  refine jr_aload_n 3 dL_worth_0 rfl rfl ?_
  refine jr_iconst dL_worth_1 rfl ?_
  refine jr_aload_n 0 dL_worth_2 rfl rfl ?_
  refine jr_iload_n 1 dL_worth_3 rfl rfl ?_
  refine jr_iload_n 2 dL_worth_4 rfl rfl ?_
  refine jr_callVH (P2 := jPi Q X) (st := [.int 0, .ref a]) (As := [.int x1, .int x2]) jl_L_108 km_X11_worth rfl dL_worth_5 ho (Nat.le_of_ble_eq_true rfl) C (fun v h' hq => ?_) (fun E h' hq => ?_)
  · obtain ⟨r, rfl, hr⟩ := jPi_in hq
    obtain ⟨f, hf⟩ := hQ r h' hr
    show J g mL_worth (d + 1) h _ 8 [(0, .ref o), (1, .int x1), (2, .int x2), (3, .ref a)] [.int r, .int 0, .ref a] h'
    refine jr_i2l dL_worth_8 ?_
    refine jr_last dL_worth_9 hf vin01 ?_
    refine jr_goto (tgt := 25) dL_worth_10 (by decide) ?_
    refine jr_iconst dL_worth_25 rfl ?_
    exact jr_iret (ty := .int) rfl rfl dL_worth_26 (Or.inl ⟨rfl, r, h', hr, f, hf, rfl⟩)
  · rcases hX E h' hq with rfl | rfl | rfl
    · refine ⟨_, jk_L_worth_0 hN, fun q => ?_⟩
      refine jr_astore dL_worth_13 (by decide) rfl ?_
      refine jr_iconst dL_worth_15 rfl ?_
      exact jr_iret (ty := .int) rfl rfl dL_worth_16 (Or.inr ⟨_, hq, Eq.symm (cod_i)⟩)
    · refine ⟨_, jk_L_worth_1 hN, fun q => ?_⟩
      refine jr_astore dL_worth_17 (by decide) rfl ?_
      refine jr_iconst dL_worth_19 rfl ?_
      exact jr_iret (ty := .int) rfl rfl dL_worth_20 (Or.inr ⟨_, hq, Eq.symm ((cod_n (by decide)).trans (cod_i))⟩)
    · refine ⟨_, jk_L_worth_2 hN, fun q => ?_⟩
      refine jr_astore dL_worth_21 (by decide) rfl ?_
      refine jr_iconst dL_worth_23 rfl ?_
      exact jr_iret (ty := .int) rfl rfl dL_worth_24 (Or.inr ⟨_, hq, Eq.symm ((cod_n (by decide)).trans ((cod_n (by decide)).trans (cod_i)))⟩)
abbrev mL_pillar : jM := (yL_pillar, cL_pillar, 4, (some (.int)), [(0, 9, 12, 13)])
theorem km_L_pillar : jMh mL_pillar 3 := ⟨⟨jw_in 1278 (by decide +kernel), jw_in 0 (by decide +kernel), by decide, ⟨by decide +kernel, by decide +kernel, by decide +kernel⟩, by decide +kernel⟩, ⟨_, _, rfl⟩, jw_in 1277 (by decide +kernel)⟩
theorem jl_L_111 : Cond.methodLink RL 111 mX11_pillar.1 ∈ lw_tbl := jw_in 1279 (by decide +kernel)
theorem jk_L_pillar_0 {g : jG} (hN : jnc g) : jCat g RL [(0, 9, 12, 13)] 4 iae 12 := ⟨[], ⟨0, 9, 12, 13⟩, [], iae, rfl, (fun z hz => nomatch hz), by decide, by decide, jlc_13, jcc_iae, rfl⟩
theorem l_pillar {g : jG} {d : Nat} {h : jH} {o a : Nat} {fs : List Value} {x1 : Int32} {Q : Int32 → jH → Prop} {X : String → jH → Prop} (hN : jnc g) (ho : h.1 o = some (.inr (11, fs))) (C : Con g mX11_pillar d [.ref o, .int x1] h (jPi Q X)) (hQ : ∀ r h', Q r h' → ∃ f : Nat → Int64, h'.1 a = some (.inl (3, (1, .inr (.inl f))))) (hX : ∀ E h', X E h' → E = iae) : Con g mL_pillar (d + 1) [.ref o, .int x1, .ref a] h (jPi (wrQ [iae] a (fun r => r.toInt64) Q X) no2) := by
  refine con_ofH (μ := mL_pillar) (by decide +kernel) (Nat.le_of_ble_eq_true rfl) ⟨_, _, rfl⟩ ?_
  show J g mL_pillar (d + 1) h _ 0 [(0, .ref o), (1, .int x1), (2, .ref a)] [] h
  refine jr_aload_n 2 dL_pillar_0 rfl rfl ?_
  refine jr_iconst dL_pillar_1 rfl ?_
  refine jr_aload_n 0 dL_pillar_2 rfl rfl ?_
  refine jr_iload_n 1 dL_pillar_3 rfl rfl ?_
  refine jr_callVH (P2 := jPi Q X) (st := [.int 0, .ref a]) (As := [.int x1]) jl_L_111 km_X11_pillar rfl dL_pillar_4 ho (Nat.le_of_ble_eq_true rfl) C (fun v h' hq => ?_) (fun E h' hq => ?_)
  · obtain ⟨r, rfl, hr⟩ := jPi_in hq
    obtain ⟨f, hf⟩ := hQ r h' hr
    show J g mL_pillar (d + 1) h _ 7 [(0, .ref o), (1, .int x1), (2, .ref a)] [.int r, .int 0, .ref a] h'
    refine jr_i2l dL_pillar_7 ?_
    refine jr_last dL_pillar_8 hf vin01 ?_
    refine jr_goto (tgt := 15) dL_pillar_9 (by decide) ?_
    refine jr_iconst dL_pillar_15 rfl ?_
    exact jr_iret (ty := .int) rfl rfl dL_pillar_16 (Or.inl ⟨rfl, r, h', hr, f, hf, rfl⟩)
  · obtain rfl := hX E h' hq
    refine ⟨_, jk_L_pillar_0 hN, fun q => ?_⟩
    refine jr_astore_n dL_pillar_12 rfl (by decide) rfl ?_
    refine jr_iconst dL_pillar_13 rfl ?_
    exact jr_iret (ty := .int) rfl rfl dL_pillar_14 (Or.inr ⟨_, hq, Eq.symm (cod_i)⟩)
abbrev mL_seen : jM := (yL_seen, cL_seen, 5, (some (.int)), [(0, 10, 13, 19), (0, 10, 17, 27), (0, 10, 21, 13)])
theorem km_L_seen : jMh mL_seen 4 := ⟨⟨jw_in 1285 (by decide +kernel), jw_in 0 (by decide +kernel), by decide, ⟨by decide +kernel, by decide +kernel, by decide +kernel⟩, by decide +kernel⟩, ⟨_, _, rfl⟩, jw_in 1284 (by decide +kernel)⟩
theorem jl_L_114 : Cond.methodLink RL 114 mX11_seen.1 ∈ lw_tbl := jw_in 1286 (by decide +kernel)
theorem jk_L_seen_0 {g : jG} (hN : jnc g) : jCat g RL [(0, 10, 13, 19), (0, 10, 17, 27), (0, 10, 21, 13)] 5 nse 13 := ⟨[], ⟨0, 10, 13, 19⟩, [⟨0, 10, 17, 27⟩, ⟨0, 10, 21, 13⟩], nse, rfl, (fun z hz => nomatch hz), by decide, by decide, jlc_19, jcc_nse, rfl⟩
theorem jk_L_seen_1 {g : jG} (hN : jnc g) : jCat g RL [(0, 10, 13, 19), (0, 10, 17, 27), (0, 10, 21, 13)] 5 ise 17 := ⟨[⟨0, 10, 13, 19⟩], ⟨0, 10, 17, 27⟩, [⟨0, 10, 21, 13⟩], ise, rfl, List.forall_mem_cons.mpr ⟨Or.inr ⟨by decide, nse, jlc_19, jnc_at hN 6 rfl⟩, (fun z hz => nomatch hz)⟩, by decide, by decide, jlc_27, jcc_ise, rfl⟩
theorem jk_L_seen_2 {g : jG} (hN : jnc g) : jCat g RL [(0, 10, 13, 19), (0, 10, 17, 27), (0, 10, 21, 13)] 5 iae 21 := ⟨[⟨0, 10, 13, 19⟩, ⟨0, 10, 17, 27⟩], ⟨0, 10, 21, 13⟩, [], iae, rfl, List.forall_mem_cons.mpr ⟨Or.inr ⟨by decide, nse, jlc_19, jnc_at hN 3 rfl⟩, List.forall_mem_cons.mpr ⟨Or.inr ⟨by decide, ise, jlc_27, jnc_at hN 4 rfl⟩, (fun z hz => nomatch hz)⟩⟩, by decide, by decide, jlc_13, jcc_iae, rfl⟩
theorem l_seen {g : jG} {d : Nat} {h : jH} {o a : Nat} {fs : List Value} {x1 : Int32} {x2 : Int32} {Q : Int32 → jH → Prop} {X : String → jH → Prop} (hN : jnc g) (ho : h.1 o = some (.inr (11, fs))) (C : Con g mX11_seen d [.ref o, .int x1, .int x2] h (jPi Q X)) (hQ : ∀ r h', Q r h' → ∃ f : Nat → Int64, h'.1 a = some (.inl (3, (1, .inr (.inl f))))) (hX : ∀ E h', X E h' → E = nse ∨ E = ise ∨ E = iae) : Con g mL_seen (d + 1) [.ref o, .int x1, .int x2, .ref a] h (jPi (wrQ [nse, ise, iae] a (fun r => r.toInt64) Q X) no2) := by
  refine con_ofH (μ := mL_seen) (by decide +kernel) (Nat.le_of_ble_eq_true rfl) ⟨_, _, rfl⟩ ?_
  show J g mL_seen (d + 1) h _ 0 [(0, .ref o), (1, .int x1), (2, .int x2), (3, .ref a)] [] h
  refine jr_aload_n 3 dL_seen_0 rfl rfl ?_
  refine jr_iconst dL_seen_1 rfl ?_
  refine jr_aload_n 0 dL_seen_2 rfl rfl ?_
  refine jr_iload_n 1 dL_seen_3 rfl rfl ?_
  refine jr_iload_n 2 dL_seen_4 rfl rfl ?_
  refine jr_callVH (P2 := jPi Q X) (st := [.int 0, .ref a]) (As := [.int x1, .int x2]) jl_L_114 km_X11_seen rfl dL_seen_5 ho (Nat.le_of_ble_eq_true rfl) C (fun v h' hq => ?_) (fun E h' hq => ?_)
  · obtain ⟨r, rfl, hr⟩ := jPi_in hq
    obtain ⟨f, hf⟩ := hQ r h' hr
    show J g mL_seen (d + 1) h _ 8 [(0, .ref o), (1, .int x1), (2, .int x2), (3, .ref a)] [.int r, .int 0, .ref a] h'
    refine jr_i2l dL_seen_8 ?_
    refine jr_last dL_seen_9 hf vin01 ?_
    refine jr_goto (tgt := 25) dL_seen_10 (by decide) ?_
    refine jr_iconst dL_seen_25 rfl ?_
    exact jr_iret (ty := .int) rfl rfl dL_seen_26 (Or.inl ⟨rfl, r, h', hr, f, hf, rfl⟩)
  · rcases hX E h' hq with rfl | rfl | rfl
    · refine ⟨_, jk_L_seen_0 hN, fun q => ?_⟩
      refine jr_astore dL_seen_13 (by decide) rfl ?_
      refine jr_iconst dL_seen_15 rfl ?_
      exact jr_iret (ty := .int) rfl rfl dL_seen_16 (Or.inr ⟨_, hq, Eq.symm (cod_i)⟩)
    · refine ⟨_, jk_L_seen_1 hN, fun q => ?_⟩
      refine jr_astore dL_seen_17 (by decide) rfl ?_
      refine jr_iconst dL_seen_19 rfl ?_
      exact jr_iret (ty := .int) rfl rfl dL_seen_20 (Or.inr ⟨_, hq, Eq.symm ((cod_n (by decide)).trans (cod_i))⟩)
    · refine ⟨_, jk_L_seen_2 hN, fun q => ?_⟩
      refine jr_astore dL_seen_21 (by decide) rfl ?_
      refine jr_iconst dL_seen_23 rfl ?_
      exact jr_iret (ty := .int) rfl rfl dL_seen_24 (Or.inr ⟨_, hq, Eq.symm ((cod_n (by decide)).trans ((cod_n (by decide)).trans (cod_i)))⟩)
abbrev mL_hidden : jM := (yL_hidden, cL_hidden, 6, (some (.int)), [(0, 12, 15, 19), (0, 12, 19, 27), (0, 12, 23, 13)])
theorem km_L_hidden : jMh mL_hidden 5 := ⟨⟨jw_in 1316 (by decide +kernel), jw_in 0 (by decide +kernel), by decide, ⟨by decide +kernel, by decide +kernel, by decide +kernel⟩, by decide +kernel⟩, ⟨_, _, rfl⟩, jw_in 1315 (by decide +kernel)⟩
theorem jl_L_117 : Cond.methodLink RL 117 mX11_hidden.1 ∈ lw_tbl := jw_in 1317 (by decide +kernel)
theorem jk_L_hidden_0 {g : jG} (hN : jnc g) : jCat g RL [(0, 12, 15, 19), (0, 12, 19, 27), (0, 12, 23, 13)] 7 nse 15 := ⟨[], ⟨0, 12, 15, 19⟩, [⟨0, 12, 19, 27⟩, ⟨0, 12, 23, 13⟩], nse, rfl, (fun z hz => nomatch hz), by decide, by decide, jlc_19, jcc_nse, rfl⟩
theorem jk_L_hidden_1 {g : jG} (hN : jnc g) : jCat g RL [(0, 12, 15, 19), (0, 12, 19, 27), (0, 12, 23, 13)] 7 ise 19 := ⟨[⟨0, 12, 15, 19⟩], ⟨0, 12, 19, 27⟩, [⟨0, 12, 23, 13⟩], ise, rfl, List.forall_mem_cons.mpr ⟨Or.inr ⟨by decide, nse, jlc_19, jnc_at hN 6 rfl⟩, (fun z hz => nomatch hz)⟩, by decide, by decide, jlc_27, jcc_ise, rfl⟩
theorem jk_L_hidden_2 {g : jG} (hN : jnc g) : jCat g RL [(0, 12, 15, 19), (0, 12, 19, 27), (0, 12, 23, 13)] 7 iae 23 := ⟨[⟨0, 12, 15, 19⟩, ⟨0, 12, 19, 27⟩], ⟨0, 12, 23, 13⟩, [], iae, rfl, List.forall_mem_cons.mpr ⟨Or.inr ⟨by decide, nse, jlc_19, jnc_at hN 3 rfl⟩, List.forall_mem_cons.mpr ⟨Or.inr ⟨by decide, ise, jlc_27, jnc_at hN 4 rfl⟩, (fun z hz => nomatch hz)⟩⟩, by decide, by decide, jlc_13, jcc_iae, rfl⟩
theorem l_hidden {g : jG} {d : Nat} {h : jH} {o a : Nat} {fs : List Value} {x1 : Int32} {x2 : Int32} {x3 : Int32} {Q : Int32 → jH → Prop} {X : String → jH → Prop} (hN : jnc g) (ho : h.1 o = some (.inr (11, fs))) (C : Con g mX11_hidden d [.ref o, .int x1, .int x2, .int x3] h (jPi Q X)) (hQ : ∀ r h', Q r h' → ∃ f : Nat → Int64, h'.1 a = some (.inl (3, (1, .inr (.inl f))))) (hX : ∀ E h', X E h' → E = nse ∨ E = ise ∨ E = iae) : Con g mL_hidden (d + 1) [.ref o, .int x1, .int x2, .int x3, .ref a] h (jPi (wrQ [nse, ise, iae] a (fun r => r.toInt64) Q X) no2) := by
  refine con_ofH (μ := mL_hidden) (by decide +kernel) (Nat.le_of_ble_eq_true rfl) ⟨_, _, rfl⟩ ?_
  show J g mL_hidden (d + 1) h _ 0 [(0, .ref o), (1, .int x1), (2, .int x2), (3, .int x3), (4, .ref a)] [] h
  refine jr_aload 4 dL_hidden_0 rfl ?_
  refine jr_iconst dL_hidden_2 rfl ?_
  refine jr_aload_n 0 dL_hidden_3 rfl rfl ?_
  refine jr_iload_n 1 dL_hidden_4 rfl rfl ?_
  refine jr_iload_n 2 dL_hidden_5 rfl rfl ?_
  refine jr_iload_n 3 dL_hidden_6 rfl rfl ?_
  refine jr_callVH (P2 := jPi Q X) (st := [.int 0, .ref a]) (As := [.int x1, .int x2, .int x3]) jl_L_117 km_X11_hidden rfl dL_hidden_7 ho (Nat.le_of_ble_eq_true rfl) C (fun v h' hq => ?_) (fun E h' hq => ?_)
  · obtain ⟨r, rfl, hr⟩ := jPi_in hq
    obtain ⟨f, hf⟩ := hQ r h' hr
    show J g mL_hidden (d + 1) h _ 10 [(0, .ref o), (1, .int x1), (2, .int x2), (3, .int x3), (4, .ref a)] [.int r, .int 0, .ref a] h'
    refine jr_i2l dL_hidden_10 ?_
    refine jr_last dL_hidden_11 hf vin01 ?_
    refine jr_goto (tgt := 27) dL_hidden_12 (by decide) ?_
    refine jr_iconst dL_hidden_27 rfl ?_
    exact jr_iret (ty := .int) rfl rfl dL_hidden_28 (Or.inl ⟨rfl, r, h', hr, f, hf, rfl⟩)
  · rcases hX E h' hq with rfl | rfl | rfl
    · refine ⟨_, jk_L_hidden_0 hN, fun q => ?_⟩
      refine jr_astore dL_hidden_15 (by decide) rfl ?_
      refine jr_iconst dL_hidden_17 rfl ?_
      exact jr_iret (ty := .int) rfl rfl dL_hidden_18 (Or.inr ⟨_, hq, Eq.symm (cod_i)⟩)
    · refine ⟨_, jk_L_hidden_1 hN, fun q => ?_⟩
      refine jr_astore dL_hidden_19 (by decide) rfl ?_
      refine jr_iconst dL_hidden_21 rfl ?_
      exact jr_iret (ty := .int) rfl rfl dL_hidden_22 (Or.inr ⟨_, hq, Eq.symm ((cod_n (by decide)).trans (cod_i))⟩)
    · refine ⟨_, jk_L_hidden_2 hN, fun q => ?_⟩
      refine jr_astore dL_hidden_23 (by decide) rfl ?_
      refine jr_iconst dL_hidden_25 rfl ?_
      exact jr_iret (ty := .int) rfl rfl dL_hidden_26 (Or.inr ⟨_, hq, Eq.symm ((cod_n (by decide)).trans ((cod_n (by decide)).trans (cod_i)))⟩)
abbrev mL_look : jM := (yL_look, cL_look, 5, (some (.int)), [(0, 10, 13, 19), (0, 10, 17, 27), (0, 10, 21, 13)])
theorem km_L_look : jMh mL_look 4 := ⟨⟨jw_in 1324 (by decide +kernel), jw_in 0 (by decide +kernel), by decide, ⟨by decide +kernel, by decide +kernel, by decide +kernel⟩, by decide +kernel⟩, ⟨_, _, rfl⟩, jw_in 1323 (by decide +kernel)⟩
theorem jl_L_120 : Cond.methodLink RL 120 mX11_look.1 ∈ lw_tbl := jw_in 1325 (by decide +kernel)
theorem jk_L_look_0 {g : jG} (hN : jnc g) : jCat g RL [(0, 10, 13, 19), (0, 10, 17, 27), (0, 10, 21, 13)] 5 nse 13 := ⟨[], ⟨0, 10, 13, 19⟩, [⟨0, 10, 17, 27⟩, ⟨0, 10, 21, 13⟩], nse, rfl, (fun z hz => nomatch hz), by decide, by decide, jlc_19, jcc_nse, rfl⟩
theorem jk_L_look_1 {g : jG} (hN : jnc g) : jCat g RL [(0, 10, 13, 19), (0, 10, 17, 27), (0, 10, 21, 13)] 5 ise 17 := ⟨[⟨0, 10, 13, 19⟩], ⟨0, 10, 17, 27⟩, [⟨0, 10, 21, 13⟩], ise, rfl, List.forall_mem_cons.mpr ⟨Or.inr ⟨by decide, nse, jlc_19, jnc_at hN 6 rfl⟩, (fun z hz => nomatch hz)⟩, by decide, by decide, jlc_27, jcc_ise, rfl⟩
theorem jk_L_look_2 {g : jG} (hN : jnc g) : jCat g RL [(0, 10, 13, 19), (0, 10, 17, 27), (0, 10, 21, 13)] 5 iae 21 := ⟨[⟨0, 10, 13, 19⟩, ⟨0, 10, 17, 27⟩], ⟨0, 10, 21, 13⟩, [], iae, rfl, List.forall_mem_cons.mpr ⟨Or.inr ⟨by decide, nse, jlc_19, jnc_at hN 3 rfl⟩, List.forall_mem_cons.mpr ⟨Or.inr ⟨by decide, ise, jlc_27, jnc_at hN 4 rfl⟩, (fun z hz => nomatch hz)⟩⟩, by decide, by decide, jlc_13, jcc_iae, rfl⟩
theorem l_look {g : jG} {d : Nat} {h : jH} {o a : Nat} {fs : List Value} {x1 : Int32} {x2 : Int32} {Q : Int32 → jH → Prop} {X : String → jH → Prop} (hN : jnc g) (ho : h.1 o = some (.inr (11, fs))) (C : Con g mX11_look d [.ref o, .int x1, .int x2] h (jPi Q X)) (hQ : ∀ r h', Q r h' → ∃ f : Nat → Int64, h'.1 a = some (.inl (3, (1, .inr (.inl f))))) (hX : ∀ E h', X E h' → E = nse ∨ E = ise ∨ E = iae) : Con g mL_look (d + 1) [.ref o, .int x1, .int x2, .ref a] h (jPi (wrQ [nse, ise, iae] a (fun r => r.toInt64) Q X) no2) := by
  refine con_ofH (μ := mL_look) (by decide +kernel) (Nat.le_of_ble_eq_true rfl) ⟨_, _, rfl⟩ ?_
  show J g mL_look (d + 1) h _ 0 [(0, .ref o), (1, .int x1), (2, .int x2), (3, .ref a)] [] h
  refine jr_aload_n 3 dL_look_0 rfl rfl ?_
  refine jr_iconst dL_look_1 rfl ?_
  refine jr_aload_n 0 dL_look_2 rfl rfl ?_
  refine jr_iload_n 1 dL_look_3 rfl rfl ?_
  refine jr_iload_n 2 dL_look_4 rfl rfl ?_
  refine jr_callVH (P2 := jPi Q X) (st := [.int 0, .ref a]) (As := [.int x1, .int x2]) jl_L_120 km_X11_look rfl dL_look_5 ho (Nat.le_of_ble_eq_true rfl) C (fun v h' hq => ?_) (fun E h' hq => ?_)
  · obtain ⟨r, rfl, hr⟩ := jPi_in hq
    obtain ⟨f, hf⟩ := hQ r h' hr
    show J g mL_look (d + 1) h _ 8 [(0, .ref o), (1, .int x1), (2, .int x2), (3, .ref a)] [.int r, .int 0, .ref a] h'
    refine jr_i2l dL_look_8 ?_
    refine jr_last dL_look_9 hf vin01 ?_
    refine jr_goto (tgt := 25) dL_look_10 (by decide) ?_
    refine jr_iconst dL_look_25 rfl ?_
    exact jr_iret (ty := .int) rfl rfl dL_look_26 (Or.inl ⟨rfl, r, h', hr, f, hf, rfl⟩)
  · rcases hX E h' hq with rfl | rfl | rfl
    · refine ⟨_, jk_L_look_0 hN, fun q => ?_⟩
      refine jr_astore dL_look_13 (by decide) rfl ?_
      refine jr_iconst dL_look_15 rfl ?_
      exact jr_iret (ty := .int) rfl rfl dL_look_16 (Or.inr ⟨_, hq, Eq.symm (cod_i)⟩)
    · refine ⟨_, jk_L_look_1 hN, fun q => ?_⟩
      refine jr_astore dL_look_17 (by decide) rfl ?_
      refine jr_iconst dL_look_19 rfl ?_
      exact jr_iret (ty := .int) rfl rfl dL_look_20 (Or.inr ⟨_, hq, Eq.symm ((cod_n (by decide)).trans (cod_i))⟩)
    · refine ⟨_, jk_L_look_2 hN, fun q => ?_⟩
      refine jr_astore dL_look_21 (by decide) rfl ?_
      refine jr_iconst dL_look_23 rfl ?_
      exact jr_iret (ty := .int) rfl rfl dL_look_24 (Or.inr ⟨_, hq, Eq.symm ((cod_n (by decide)).trans ((cod_n (by decide)).trans (cod_i)))⟩)
abbrev mL_tray : jM := (yL_tray, cL_tray, 5, (some (.int)), [(0, 7, 10, 19), (0, 7, 14, 13)])
theorem km_L_tray : jMh mL_tray 4 := ⟨⟨jw_in 1345 (by decide +kernel), jw_in 0 (by decide +kernel), by decide, ⟨by decide +kernel, by decide +kernel, by decide +kernel⟩, by decide +kernel⟩, ⟨_, _, rfl⟩, jw_in 1344 (by decide +kernel)⟩
theorem jl_L_123 : Cond.methodLink RL 123 mX11_tray.1 ∈ lw_tbl := jw_in 1346 (by decide +kernel)
theorem jk_L_tray_0 {g : jG} (hN : jnc g) : jCat g RL [(0, 7, 10, 19), (0, 7, 14, 13)] 4 nse 10 := ⟨[], ⟨0, 7, 10, 19⟩, [⟨0, 7, 14, 13⟩], nse, rfl, (fun z hz => nomatch hz), by decide, by decide, jlc_19, jcc_nse, rfl⟩
theorem jk_L_tray_1 {g : jG} (hN : jnc g) : jCat g RL [(0, 7, 10, 19), (0, 7, 14, 13)] 4 iae 14 := ⟨[⟨0, 7, 10, 19⟩], ⟨0, 7, 14, 13⟩, [], iae, rfl, List.forall_mem_cons.mpr ⟨Or.inr ⟨by decide, nse, jlc_19, jnc_at hN 3 rfl⟩, (fun z hz => nomatch hz)⟩, by decide, by decide, jlc_13, jcc_iae, rfl⟩
theorem l_tray {g : jG} {d : Nat} {h : jH} {o : Nat} {fs : List Value} {x1 : Int32} {x2 : Int32} {x3 : Int32} {Q : jH → Prop} {X : String → jH → Prop} (hN : jnc g) (ho : h.1 o = some (.inr (11, fs))) (C : Con g mX11_tray d [.ref o, .int x1, .int x2, .int x3] h (jPv Q X)) (hX : ∀ E h', X E h' → E = nse ∨ E = iae) : Con g mL_tray (d + 1) [.ref o, .int x1, .int x2, .int x3] h (jPi (wrV [nse, iae] Q X) no2) := by
  refine con_ofH (μ := mL_tray) (by decide +kernel) (Nat.le_of_ble_eq_true rfl) ⟨_, _, rfl⟩ ?_
  show J g mL_tray (d + 1) h _ 0 [(0, .ref o), (1, .int x1), (2, .int x2), (3, .int x3)] [] h
  refine jr_aload_n 0 dL_tray_0 rfl rfl ?_
  refine jr_iload_n 1 dL_tray_1 rfl rfl ?_
  refine jr_iload_n 2 dL_tray_2 rfl rfl ?_
  refine jr_iload_n 3 dL_tray_3 rfl rfl ?_
  refine jr_callVH (P2 := jPv Q X) (st := []) (As := [.int x1, .int x2, .int x3]) jl_L_123 km_X11_tray rfl dL_tray_4 ho (Nat.le_of_ble_eq_true rfl) C (fun v h' hq => ?_) (fun E h' hq => ?_)
  · obtain ⟨rfl, hr⟩ := jPv_in hq
    show J g mL_tray (d + 1) h _ 7 [(0, .ref o), (1, .int x1), (2, .int x2), (3, .int x3)] [] h'
    refine jr_goto (tgt := 18) dL_tray_7 (by decide) ?_
    refine jr_iconst dL_tray_18 rfl ?_
    exact jr_iret (ty := .int) rfl rfl dL_tray_19 (Or.inl ⟨rfl, hr⟩)
  · rcases hX E h' hq with rfl | rfl
    · refine ⟨_, jk_L_tray_0 hN, fun q => ?_⟩
      refine jr_astore dL_tray_10 (by decide) rfl ?_
      refine jr_iconst dL_tray_12 rfl ?_
      exact jr_iret (ty := .int) rfl rfl dL_tray_13 (Or.inr ⟨_, hq, Eq.symm (cod_i)⟩)
    · refine ⟨_, jk_L_tray_1 hN, fun q => ?_⟩
      refine jr_astore dL_tray_14 (by decide) rfl ?_
      refine jr_iconst dL_tray_16 rfl ?_
      exact jr_iret (ty := .int) rfl rfl dL_tray_17 (Or.inr ⟨_, hq, Eq.symm ((cod_n (by decide)).trans (cod_i))⟩)
abbrev mL_write : jM := (yL_write, cL_write, 7, (some (.int)), [(0, 11, 14, 19), (0, 11, 18, 27), (0, 11, 22, 131)])
theorem km_L_write : jMh mL_write 5 := ⟨⟨jw_in 1357 (by decide +kernel), jw_in 0 (by decide +kernel), by decide, ⟨by decide +kernel, by decide +kernel, by decide +kernel⟩, by decide +kernel⟩, ⟨_, _, rfl⟩, jw_in 1356 (by decide +kernel)⟩
theorem jlc_131 : Cond.classLink RL 131 iob ∈ lw_tbl := jw_in 1358 (by decide +kernel)
theorem jcc_iob : Cond.castable iob iob ∈ lw_tbl := jw_in 1365 (by decide +kernel)
theorem jl_L_127 : Cond.methodLink RL 127 mX11_write.1 ∈ lw_tbl := jw_in 1359 (by decide +kernel)
theorem jk_L_write_0 {g : jG} (hN : jnc g) : jCat g RL [(0, 11, 14, 19), (0, 11, 18, 27), (0, 11, 22, 131)] 7 nse 14 := ⟨[], ⟨0, 11, 14, 19⟩, [⟨0, 11, 18, 27⟩, ⟨0, 11, 22, 131⟩], nse, rfl, (fun z hz => nomatch hz), by decide, by decide, jlc_19, jcc_nse, rfl⟩
theorem jk_L_write_1 {g : jG} (hN : jnc g) : jCat g RL [(0, 11, 14, 19), (0, 11, 18, 27), (0, 11, 22, 131)] 7 ise 18 := ⟨[⟨0, 11, 14, 19⟩], ⟨0, 11, 18, 27⟩, [⟨0, 11, 22, 131⟩], ise, rfl, List.forall_mem_cons.mpr ⟨Or.inr ⟨by decide, nse, jlc_19, jnc_at hN 6 rfl⟩, (fun z hz => nomatch hz)⟩, by decide, by decide, jlc_27, jcc_ise, rfl⟩
theorem jk_L_write_2 {g : jG} (hN : jnc g) : jCat g RL [(0, 11, 14, 19), (0, 11, 18, 27), (0, 11, 22, 131)] 7 iob 22 := ⟨[⟨0, 11, 14, 19⟩, ⟨0, 11, 18, 27⟩], ⟨0, 11, 22, 131⟩, [], iob, rfl, List.forall_mem_cons.mpr ⟨Or.inr ⟨by decide, nse, jlc_19, jnc_at hN 9 rfl⟩, List.forall_mem_cons.mpr ⟨Or.inr ⟨by decide, ise, jlc_27, jnc_at hN 11 rfl⟩, (fun z hz => nomatch hz)⟩⟩, by decide, by decide, jlc_131, jcc_iob, rfl⟩
theorem l_write {g : jG} {d : Nat} {h : jH} {o a : Nat} {fs : List Value} {x1 : Int32} {x2 : Int32} {x3 : Int64} {Q : Int64 → jH → Prop} {X : String → jH → Prop} (hN : jnc g) (ho : h.1 o = some (.inr (11, fs))) (C : Con g mX11_write d [.ref o, .int x1, .int x2, .long x3] h (jPl Q X)) (hQ : ∀ r h', Q r h' → ∃ f : Nat → Int64, h'.1 a = some (.inl (3, (1, .inr (.inl f))))) (hX : ∀ E h', X E h' → E = nse ∨ E = ise ∨ E = iob) : Con g mL_write (d + 1) [.ref o, .int x1, .int x2, .long x3, .ref a] h (jPi (wrQ [nse, ise, iob] a (fun r => r) Q X) no2) := by
  refine con_ofH (μ := mL_write) (by decide +kernel) (Nat.le_of_ble_eq_true rfl) ⟨_, _, rfl⟩ ?_
  show J g mL_write (d + 1) h _ 0 [(0, .ref o), (1, .int x1), (2, .int x2), (3, .long x3), (5, .ref a)] [] h
  refine jr_aload 4 dL_write_0 rfl ?_
  refine jr_iconst dL_write_2 rfl ?_
  refine jr_aload_n 0 dL_write_3 rfl rfl ?_
  refine jr_iload_n 1 dL_write_4 rfl rfl ?_
  refine jr_iload_n 2 dL_write_5 rfl rfl ?_
  refine jr_lload_n 3 dL_write_6 rfl rfl ?_
  refine jr_callVH (P2 := jPl Q X) (st := [.int 0, .ref a]) (As := [.int x1, .int x2, .long x3]) jl_L_127 km_X11_write rfl dL_write_7 ho (Nat.le_of_ble_eq_true rfl) C (fun v h' hq => ?_) (fun E h' hq => ?_)
  · obtain ⟨r, rfl, hr⟩ := jPl_in hq
    obtain ⟨f, hf⟩ := hQ r h' hr
    show J g mL_write (d + 1) h _ 10 [(0, .ref o), (1, .int x1), (2, .int x2), (3, .long x3), (5, .ref a)] [.long r, .int 0, .ref a] h'
    refine jr_last dL_write_10 hf vin01 ?_
    refine jr_goto (tgt := 26) dL_write_11 (by decide) ?_
    refine jr_iconst dL_write_26 rfl ?_
    exact jr_iret (ty := .int) rfl rfl dL_write_27 (Or.inl ⟨rfl, r, h', hr, f, hf, rfl⟩)
  · rcases hX E h' hq with rfl | rfl | rfl
    · refine ⟨_, jk_L_write_0 hN, fun q => ?_⟩
      refine jr_astore dL_write_14 (by decide) rfl ?_
      refine jr_iconst dL_write_16 rfl ?_
      exact jr_iret (ty := .int) rfl rfl dL_write_17 (Or.inr ⟨_, hq, Eq.symm (cod_i)⟩)
    · refine ⟨_, jk_L_write_1 hN, fun q => ?_⟩
      refine jr_astore dL_write_18 (by decide) rfl ?_
      refine jr_iconst dL_write_20 rfl ?_
      exact jr_iret (ty := .int) rfl rfl dL_write_21 (Or.inr ⟨_, hq, Eq.symm ((cod_n (by decide)).trans (cod_i))⟩)
    · refine ⟨_, jk_L_write_2 hN, fun q => ?_⟩
      refine jr_astore dL_write_22 (by decide) rfl ?_
      refine jr_iconst dL_write_24 rfl ?_
      exact jr_iret (ty := .int) rfl rfl dL_write_25 (Or.inr ⟨_, hq, Eq.symm ((cod_n (by decide)).trans ((cod_n (by decide)).trans (cod_i)))⟩)
abbrev mL_copy : jM := (yL_copy, cL_copy, 5, (some (.int)), [(0, 10, 13, 19), (0, 10, 17, 27)])
theorem km_L_copy : jMh mL_copy 4 := ⟨⟨jw_in 1389 (by decide +kernel), jw_in 0 (by decide +kernel), by decide, ⟨by decide +kernel, by decide +kernel, by decide +kernel⟩, by decide +kernel⟩, ⟨_, _, rfl⟩, jw_in 1388 (by decide +kernel)⟩
theorem jl_L_133 : Cond.methodLink RL 133 mX11_copy.1 ∈ lw_tbl := jw_in 1390 (by decide +kernel)
theorem jk_L_copy_0 {g : jG} (hN : jnc g) : jCat g RL [(0, 10, 13, 19), (0, 10, 17, 27)] 5 nse 13 := ⟨[], ⟨0, 10, 13, 19⟩, [⟨0, 10, 17, 27⟩], nse, rfl, (fun z hz => nomatch hz), by decide, by decide, jlc_19, jcc_nse, rfl⟩
theorem jk_L_copy_1 {g : jG} (hN : jnc g) : jCat g RL [(0, 10, 13, 19), (0, 10, 17, 27)] 5 ise 17 := ⟨[⟨0, 10, 13, 19⟩], ⟨0, 10, 17, 27⟩, [], ise, rfl, List.forall_mem_cons.mpr ⟨Or.inr ⟨by decide, nse, jlc_19, jnc_at hN 6 rfl⟩, (fun z hz => nomatch hz)⟩, by decide, by decide, jlc_27, jcc_ise, rfl⟩
theorem l_copy {g : jG} {d : Nat} {h : jH} {o a : Nat} {fs : List Value} {x1 : Int32} {x2 : Int32} {Q : Int32 → jH → Prop} {X : String → jH → Prop} (hN : jnc g) (ho : h.1 o = some (.inr (11, fs))) (C : Con g mX11_copy d [.ref o, .int x1, .int x2] h (jPi Q X)) (hQ : ∀ r h', Q r h' → ∃ f : Nat → Int64, h'.1 a = some (.inl (3, (1, .inr (.inl f))))) (hX : ∀ E h', X E h' → E = nse ∨ E = ise) : Con g mL_copy (d + 1) [.ref o, .int x1, .int x2, .ref a] h (jPi (wrQ [nse, ise] a (fun r => r.toInt64) Q X) no2) := by
  refine con_ofH (μ := mL_copy) (by decide +kernel) (Nat.le_of_ble_eq_true rfl) ⟨_, _, rfl⟩ ?_
  show J g mL_copy (d + 1) h _ 0 [(0, .ref o), (1, .int x1), (2, .int x2), (3, .ref a)] [] h
  refine jr_aload_n 3 dL_copy_0 rfl rfl ?_
  refine jr_iconst dL_copy_1 rfl ?_
  refine jr_aload_n 0 dL_copy_2 rfl rfl ?_
  refine jr_iload_n 1 dL_copy_3 rfl rfl ?_
  refine jr_iload_n 2 dL_copy_4 rfl rfl ?_
  refine jr_callVH (P2 := jPi Q X) (st := [.int 0, .ref a]) (As := [.int x1, .int x2]) jl_L_133 km_X11_copy rfl dL_copy_5 ho (Nat.le_of_ble_eq_true rfl) C (fun v h' hq => ?_) (fun E h' hq => ?_)
  · obtain ⟨r, rfl, hr⟩ := jPi_in hq
    obtain ⟨f, hf⟩ := hQ r h' hr
    show J g mL_copy (d + 1) h _ 8 [(0, .ref o), (1, .int x1), (2, .int x2), (3, .ref a)] [.int r, .int 0, .ref a] h'
    refine jr_i2l dL_copy_8 ?_
    refine jr_last dL_copy_9 hf vin01 ?_
    refine jr_goto (tgt := 21) dL_copy_10 (by decide) ?_
    refine jr_iconst dL_copy_21 rfl ?_
    exact jr_iret (ty := .int) rfl rfl dL_copy_22 (Or.inl ⟨rfl, r, h', hr, f, hf, rfl⟩)
  · rcases hX E h' hq with rfl | rfl
    · refine ⟨_, jk_L_copy_0 hN, fun q => ?_⟩
      refine jr_astore dL_copy_13 (by decide) rfl ?_
      refine jr_iconst dL_copy_15 rfl ?_
      exact jr_iret (ty := .int) rfl rfl dL_copy_16 (Or.inr ⟨_, hq, Eq.symm (cod_i)⟩)
    · refine ⟨_, jk_L_copy_1 hN, fun q => ?_⟩
      refine jr_astore dL_copy_17 (by decide) rfl ?_
      refine jr_iconst dL_copy_19 rfl ?_
      exact jr_iret (ty := .int) rfl rfl dL_copy_20 (Or.inr ⟨_, hq, Eq.symm ((cod_n (by decide)).trans (cod_i))⟩)
abbrev mL_image : jM := (yL_image, cL_image, 3, (some (.int)), [(0, 5, 8, 19)])
theorem km_L_image : jMh mL_image 2 := ⟨⟨jw_in 1396 (by decide +kernel), jw_in 0 (by decide +kernel), by decide, ⟨by decide +kernel, by decide +kernel, by decide +kernel⟩, by decide +kernel⟩, ⟨_, _, rfl⟩, jw_in 1395 (by decide +kernel)⟩
theorem jl_L_136 : Cond.methodLink RL 136 mX11_image.1 ∈ lw_tbl := jw_in 1397 (by decide +kernel)
theorem jk_L_image_0 {g : jG} (hN : jnc g) : jCat g RL [(0, 5, 8, 19)] 2 nse 8 := ⟨[], ⟨0, 5, 8, 19⟩, [], nse, rfl, (fun z hz => nomatch hz), by decide, by decide, jlc_19, jcc_nse, rfl⟩
theorem l_image {g : jG} {d : Nat} {h : jH} {o : Nat} {fs : List Value} {x1 : Int32} {Q : jH → Prop} {X : String → jH → Prop} (hN : jnc g) (ho : h.1 o = some (.inr (11, fs))) (C : Con g mX11_image d [.ref o, .int x1] h (jPv Q X)) (hX : ∀ E h', X E h' → E = nse) : Con g mL_image (d + 1) [.ref o, .int x1] h (jPi (wrV [nse] Q X) no2) := by
  refine con_ofH (μ := mL_image) (by decide +kernel) (Nat.le_of_ble_eq_true rfl) ⟨_, _, rfl⟩ ?_
  show J g mL_image (d + 1) h _ 0 [(0, .ref o), (1, .int x1)] [] h
  refine jr_aload_n 0 dL_image_0 rfl rfl ?_
  refine jr_iload_n 1 dL_image_1 rfl rfl ?_
  refine jr_callVH (P2 := jPv Q X) (st := []) (As := [.int x1]) jl_L_136 km_X11_image rfl dL_image_2 ho (Nat.le_of_ble_eq_true rfl) C (fun v h' hq => ?_) (fun E h' hq => ?_)
  · obtain ⟨rfl, hr⟩ := jPv_in hq
    show J g mL_image (d + 1) h _ 5 [(0, .ref o), (1, .int x1)] [] h'
    refine jr_goto (tgt := 11) dL_image_5 (by decide) ?_
    refine jr_iconst dL_image_11 rfl ?_
    exact jr_iret (ty := .int) rfl rfl dL_image_12 (Or.inl ⟨rfl, hr⟩)
  · obtain rfl := hX E h' hq
    refine ⟨_, jk_L_image_0 hN, fun q => ?_⟩
    refine jr_astore_n dL_image_8 rfl (by decide) rfl ?_
    refine jr_iconst dL_image_9 rfl ?_
    exact jr_iret (ty := .int) rfl rfl dL_image_10 (Or.inr ⟨_, hq, Eq.symm (cod_i)⟩)
abbrev mL_restore : jM := (yL_restore, cL_restore, 3, (some (.int)), [(0, 5, 8, 19), (0, 5, 11, 27)])
theorem km_L_restore : jMh mL_restore 2 := ⟨⟨jw_in 1412 (by decide +kernel), jw_in 0 (by decide +kernel), by decide, ⟨by decide +kernel, by decide +kernel, by decide +kernel⟩, by decide +kernel⟩, ⟨_, _, rfl⟩, jw_in 1411 (by decide +kernel)⟩
theorem jl_L_140 : Cond.methodLink RL 140 mX11_restore.1 ∈ lw_tbl := jw_in 1413 (by decide +kernel)
theorem jk_L_restore_0 {g : jG} (hN : jnc g) : jCat g RL [(0, 5, 8, 19), (0, 5, 11, 27)] 2 nse 8 := ⟨[], ⟨0, 5, 8, 19⟩, [⟨0, 5, 11, 27⟩], nse, rfl, (fun z hz => nomatch hz), by decide, by decide, jlc_19, jcc_nse, rfl⟩
theorem jk_L_restore_1 {g : jG} (hN : jnc g) : jCat g RL [(0, 5, 8, 19), (0, 5, 11, 27)] 2 ise 11 := ⟨[⟨0, 5, 8, 19⟩], ⟨0, 5, 11, 27⟩, [], ise, rfl, List.forall_mem_cons.mpr ⟨Or.inr ⟨by decide, nse, jlc_19, jnc_at hN 6 rfl⟩, (fun z hz => nomatch hz)⟩, by decide, by decide, jlc_27, jcc_ise, rfl⟩
theorem l_restore {g : jG} {d : Nat} {h : jH} {o : Nat} {fs : List Value} {x1 : Int32} {Q : jH → Prop} {X : String → jH → Prop} (hN : jnc g) (ho : h.1 o = some (.inr (11, fs))) (C : Con g mX11_restore d [.ref o, .int x1] h (jPv Q X)) (hX : ∀ E h', X E h' → E = nse ∨ E = ise) : Con g mL_restore (d + 1) [.ref o, .int x1] h (jPi (wrV [nse, ise] Q X) no2) := by
  refine con_ofH (μ := mL_restore) (by decide +kernel) (Nat.le_of_ble_eq_true rfl) ⟨_, _, rfl⟩ ?_
  show J g mL_restore (d + 1) h _ 0 [(0, .ref o), (1, .int x1)] [] h
  refine jr_aload_n 0 dL_restore_0 rfl rfl ?_
  refine jr_iload_n 1 dL_restore_1 rfl rfl ?_
  refine jr_callVH (P2 := jPv Q X) (st := []) (As := [.int x1]) jl_L_140 km_X11_restore rfl dL_restore_2 ho (Nat.le_of_ble_eq_true rfl) C (fun v h' hq => ?_) (fun E h' hq => ?_)
  · obtain ⟨rfl, hr⟩ := jPv_in hq
    show J g mL_restore (d + 1) h _ 5 [(0, .ref o), (1, .int x1)] [] h'
    refine jr_goto (tgt := 14) dL_restore_5 (by decide) ?_
    refine jr_iconst dL_restore_14 rfl ?_
    exact jr_iret (ty := .int) rfl rfl dL_restore_15 (Or.inl ⟨rfl, hr⟩)
  · rcases hX E h' hq with rfl | rfl
    · refine ⟨_, jk_L_restore_0 hN, fun q => ?_⟩
      refine jr_astore_n dL_restore_8 rfl (by decide) rfl ?_
      refine jr_iconst dL_restore_9 rfl ?_
      exact jr_iret (ty := .int) rfl rfl dL_restore_10 (Or.inr ⟨_, hq, Eq.symm (cod_i)⟩)
    · refine ⟨_, jk_L_restore_1 hN, fun q => ?_⟩
      refine jr_astore_n dL_restore_11 rfl (by decide) rfl ?_
      refine jr_iconst dL_restore_12 rfl ?_
      exact jr_iret (ty := .int) rfl rfl dL_restore_13 (Or.inr ⟨_, hq, Eq.symm ((cod_n (by decide)).trans (cod_i))⟩)
