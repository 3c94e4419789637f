theorem laySt_len (a : Nat) : (laySt a).length = 7 := rfl
section CT2
variable {g : jG} {d : Nat} {h : jH} {a s : Nat} {L : List va_E}
def layTold (g : jG) (b : Nat) : List va_E := .inr (9, [.ref (b + 1), .int 0, .int 0, .int 100, .ref g.2.2.2.2.2.2, .ref g.2.2.2.2.2.2, .ref g.2.2.2.2.2.2]) :: laySt (b + 1)
set_option maxRecDepth 20000 in
theorem c_initTold (R : a + L.length + 8 ≤ jB0 g + 601024 ∧ h.2.2 + s + 51 ≤ 7293034) : Con g mX9_init (d + 2) [.ref (a + L.length)] (seg h a (L ++ [.inr (9, [.null, .int 0, .int 0, .int 0, .null, .null, .null])]) s) (jPv (fun h' => h' = seg h a (L ++ layTold g (a + L.length)) (s + 51)) no2) := by
  obtain ⟨r1, r2⟩ := R
  refine con_of km_X9_init.1.2.2.2.2 (Nat.le_of_ble_eq_true rfl) rfl (bX9_init_0 ?_)
  refine ⟨⟨by rw [seg_sz]; simp [laySt_len]; omega, by rw [seg_sz]; simp; omega⟩, fun q1 h1 e1 f1 => ?_⟩
  rw [seg_new, ← List.append_assoc] at f1
  subst f1
  rw [seg_sz] at e1
  dsimp only at e1
  subst e1
  refine (c_initSt ⟨by simp [laySt_len]; omega, by omega⟩).pv (fun h1 f1 => ?_) (fun E h' f => f.elim)
  rw [List.append_assoc] at f1
  subst f1
  refine ⟨_, seg_at0 _ _ _ _ _ _, Nat.le_of_ble_eq_true rfl, fun h1 f1 => ?_⟩
  replace f1 := f1.trans (seg_set0 _ _ _ _ _ _ _)
  subst f1
  refine ⟨_, seg_at0 _ _ _ _ _ _, Nat.le_of_ble_eq_true rfl, fun h1 f1 => ?_⟩
  replace f1 := f1.trans (seg_set0 _ _ _ _ _ _ _)
  subst f1
  refine ⟨_, seg_at0 _ _ _ _ _ _, Nat.le_of_ble_eq_true rfl, fun h1 f1 => ?_⟩
  replace f1 := f1.trans (seg_set0 _ _ _ _ _ _ _)
  subst f1
  refine ⟨_, seg_at0 _ _ _ _ _ _, Nat.le_of_ble_eq_true rfl, fun h1 f1 => ?_⟩
  replace f1 := f1.trans (seg_set0 _ _ _ _ _ _ _)
  subst f1
  refine ⟨_, seg_at0 _ _ _ _ _ _, Nat.le_of_ble_eq_true rfl, fun h1 f1 => ?_⟩
  replace f1 := f1.trans (seg_set0 _ _ _ _ _ _ _)
  subst f1
  show seg _ _ _ _ = _
  first | rfl | (simp only [List.length_append, List.length_cons, List.length_nil, laySt_len]; rfl)
theorem layTold_len : (layTold g a).length = 8 := rfl
def laySca (b : Nat) : List va_E := [.inr (5, [.ref (b + 1), .ref (b + 2)]), zrow 7, zrow 64]
set_option maxRecDepth 20000 in
theorem c_initSca (R : a + L.length + 3 ≤ jB0 g + 601024 ∧ h.2.2 + s + 71 ≤ 7293034) : Con g mX5_init (d + 1) [.ref (a + L.length)] (seg h a (L ++ [.inr (5, [.null, .null])]) s) (jPv (fun h' => h' = seg h a (L ++ laySca (a + L.length)) (s + 71)) no2) := by
  obtain ⟨r1, r2⟩ := R
  refine con_of km_X5_init.1.2.2.2.2 (Nat.le_of_ble_eq_true rfl) rfl (bX5_init_0 ?_)
  refine ⟨7, rfl, by decide, ⟨by rw [seg_sz]; simp [laySt_len, layTold_len]; omega, by rw [seg_sz]; simp; omega⟩, fun q1 h1 e1 f1 => ?_⟩
  rw [seg_new] at f1
  subst f1
  rw [seg_sz] at e1
  simp only [List.length_append, List.length_cons, List.length_nil, laySt_len, layTold_len] at e1
  subst e1
  refine ⟨_, seg_at0 _ _ _ _ _ _, Nat.le_of_ble_eq_true rfl, fun h1 f1 => ?_⟩
  replace f1 := f1.trans (seg_set0 _ _ _ _ _ _ _)
  subst f1
  refine ⟨64, rfl, by decide, ⟨by rw [seg_sz]; simp [laySt_len, layTold_len]; omega, by rw [seg_sz]; simp; omega⟩, fun q2 h1 e2 f1 => ?_⟩
  rw [seg_new] at f1
  subst f1
  rw [seg_sz] at e2
  simp only [List.length_append, List.length_cons, List.length_nil, laySt_len, layTold_len] at e2
  subst e2
  refine ⟨_, seg_at0 _ _ _ _ _ _, Nat.le_of_ble_eq_true rfl, fun h1 f1 => ?_⟩
  replace f1 := f1.trans (seg_set0 _ _ _ _ _ _ _)
  subst f1
  show seg _ _ _ _ = _
  first | rfl | (simp only [List.length_append, List.length_cons, List.length_nil, laySt_len, layTold_len]; rfl)
theorem laySca_len : (laySca a).length = 3 := rfl
def layCrs (g : jG) (b : Nat) : List va_E := .inr (0, [.ref (b + 1), .int 0, .int 0, .ref (b + 2), .ref (b + 3), .ref (b + 4), .ref (b + 5), .ref (b + 8), .ref (b + 15)]) :: zrow 7 :: zlrow 7 :: zlrow 7 :: zrow 7 :: (laySca (b + 5) ++ laySt (b + 8) ++ layTold g (b + 15))
set_option maxRecDepth 20000 in
theorem c_initCrs (R : a + L.length + 23 ≤ jB0 g + 601024 ∧ h.2.2 + s + 210 ≤ 7293034) : Con g mX0_init (d + 3) [.ref (a + L.length)] (seg h a (L ++ [.inr (0, [.null, .int 0, .int 0, .null, .null, .null, .null, .null, .null])]) s) (jPv (fun h' => h' = seg h a (L ++ layCrs g (a + L.length)) (s + 210)) no2) := by
  obtain ⟨r1, r2⟩ := R
  refine con_of km_X0_init.1.2.2.2.2 (Nat.le_of_ble_eq_true rfl) rfl (bX0_init_0 ?_)
  refine ⟨7, rfl, by decide, ⟨by rw [seg_sz]; simp [laySt_len, laySca_len, layTold_len]; omega, by rw [seg_sz]; simp; omega⟩, fun q1 h1 e1 f1 => ?_⟩
  rw [seg_new] at f1
  subst f1
  rw [seg_sz] at e1
  simp only [List.length_append, List.length_cons, List.length_nil, laySt_len, laySca_len, layTold_len] at e1
  subst e1
  refine ⟨_, seg_at0 _ _ _ _ _ _, Nat.le_of_ble_eq_true rfl, fun h1 f1 => ?_⟩
  replace f1 := f1.trans (seg_set0 _ _ _ _ _ _ _)
  subst f1
  refine ⟨7, rfl, by decide, ⟨by rw [seg_sz]; simp [laySt_len, laySca_len, layTold_len]; omega, by rw [seg_sz]; simp; omega⟩, fun q2 h1 e2 f1 => ?_⟩
  rw [seg_new] at f1
  subst f1
  rw [seg_sz] at e2
  simp only [List.length_append, List.length_cons, List.length_nil, laySt_len, laySca_len, layTold_len] at e2
  subst e2
  refine ⟨_, seg_at0 _ _ _ _ _ _, Nat.le_of_ble_eq_true rfl, fun h1 f1 => ?_⟩
  replace f1 := f1.trans (seg_set0 _ _ _ _ _ _ _)
  subst f1
  refine ⟨7, rfl, by decide, ⟨by rw [seg_sz]; simp [laySt_len, laySca_len, layTold_len]; omega, by rw [seg_sz]; simp; omega⟩, fun q3 h1 e3 f1 => ?_⟩
  rw [seg_new] at f1
  subst f1
  rw [seg_sz] at e3
  simp only [List.length_append, List.length_cons, List.length_nil, laySt_len, laySca_len, layTold_len] at e3
  subst e3
  refine ⟨_, seg_at0 _ _ _ _ _ _, Nat.le_of_ble_eq_true rfl, fun h1 f1 => ?_⟩
  replace f1 := f1.trans (seg_set0 _ _ _ _ _ _ _)
  subst f1
  refine ⟨7, rfl, by decide, ⟨by rw [seg_sz]; simp [laySt_len, laySca_len, layTold_len]; omega, by rw [seg_sz]; simp; omega⟩, fun q4 h1 e4 f1 => ?_⟩
  rw [seg_new] at f1
  subst f1
  rw [seg_sz] at e4
  simp only [List.length_append, List.length_cons, List.length_nil, laySt_len, laySca_len, layTold_len] at e4
  subst e4
  refine ⟨_, seg_at0 _ _ _ _ _ _, Nat.le_of_ble_eq_true rfl, fun h1 f1 => ?_⟩
  replace f1 := f1.trans (seg_set0 _ _ _ _ _ _ _)
  subst f1
  refine ⟨⟨by rw [seg_sz]; simp [laySt_len, laySca_len, layTold_len]; omega, by rw [seg_sz]; simp; omega⟩, fun q5 h1 e5 f1 => ?_⟩
  rw [seg_new, ← List.append_assoc] at f1
  subst f1
  rw [seg_sz] at e5
  dsimp only at e5
  subst e5
  refine (c_initSca ⟨by simp [laySt_len, laySca_len, layTold_len]; omega, by omega⟩).pv (fun h1 f1 => ?_) (fun E h' f => f.elim)
  rw [List.append_assoc] at f1
  subst f1
  refine ⟨_, seg_at0 _ _ _ _ _ _, Nat.le_of_ble_eq_true rfl, fun h1 f1 => ?_⟩
  replace f1 := f1.trans (seg_set0 _ _ _ _ _ _ _)
  subst f1
  refine ⟨⟨by rw [seg_sz]; simp [laySt_len, laySca_len, layTold_len]; omega, by rw [seg_sz]; simp; omega⟩, fun q6 h1 e6 f1 => ?_⟩
  rw [seg_new, ← List.append_assoc] at f1
  subst f1
  rw [seg_sz] at e6
  dsimp only at e6
  subst e6
  refine (c_initSt ⟨by simp [laySt_len, laySca_len, layTold_len]; omega, by omega⟩).pv (fun h1 f1 => ?_) (fun E h' f => f.elim)
  rw [List.append_assoc] at f1
  subst f1
  refine ⟨_, seg_at0 _ _ _ _ _ _, Nat.le_of_ble_eq_true rfl, fun h1 f1 => ?_⟩
  replace f1 := f1.trans (seg_set0 _ _ _ _ _ _ _)
  subst f1
  refine ⟨⟨by rw [seg_sz]; simp [laySt_len, laySca_len, layTold_len]; omega, by rw [seg_sz]; simp; omega⟩, fun q7 h1 e7 f1 => ?_⟩
  rw [seg_new, ← List.append_assoc] at f1
  subst f1
  rw [seg_sz] at e7
  dsimp only at e7
  subst e7
  refine (c_initTold ⟨by simp [laySt_len, laySca_len, layTold_len]; omega, by omega⟩).pv (fun h1 f1 => ?_) (fun E h' f => f.elim)
  rw [List.append_assoc] at f1
  subst f1
  refine ⟨_, seg_at0 _ _ _ _ _ _, Nat.le_of_ble_eq_true rfl, fun h1 f1 => ?_⟩
  replace f1 := f1.trans (seg_set0 _ _ _ _ _ _ _)
  subst f1
  show seg _ _ _ _ = _
  first | rfl | (simp only [List.length_append, List.length_cons, List.length_nil, laySt_len, laySca_len, layTold_len]; rfl)
theorem layCrs_len : (layCrs g a).length = 23 := rfl
def layTray (b : Nat) : List va_E := [.inr (10, [.int 0, .int (-1), .ref (b + 1)]), zlrow 30]
set_option maxRecDepth 20000 in
theorem c_initTray (R : a + L.length + 2 ≤ jB0 g + 601024 ∧ h.2.2 + s + 30 ≤ 7293034) : Con g mX10_init (d + 1) [.ref (a + L.length)] (seg h a (L ++ [.inr (10, [.int 0, .int 0, .null])]) s) (jPv (fun h' => h' = seg h a (L ++ layTray (a + L.length)) (s + 30)) no2) := by
  obtain ⟨r1, r2⟩ := R
  refine con_of km_X10_init.1.2.2.2.2 (Nat.le_of_ble_eq_true rfl) rfl (bX10_init_0 ?_)
  refine ⟨_, seg_at0 _ _ _ _ _ _, Nat.le_of_ble_eq_true rfl, fun h1 f1 => ?_⟩
  replace f1 := f1.trans (seg_set0 _ _ _ _ _ _ _)
  subst f1
  refine ⟨30, rfl, by decide, ⟨by rw [seg_sz]; simp [laySt_len, laySca_len, layTold_len, layCrs_len]; omega, by rw [seg_sz]; simp; omega⟩, fun q2 h1 e2 f1 => ?_⟩
  rw [seg_new] at f1
  subst f1
  rw [seg_sz] at e2
  simp only [List.length_append, List.length_cons, List.length_nil, laySt_len, laySca_len, layTold_len, layCrs_len] at e2
  subst e2
  refine ⟨_, seg_at0 _ _ _ _ _ _, Nat.le_of_ble_eq_true rfl, fun h1 f1 => ?_⟩
  replace f1 := f1.trans (seg_set0 _ _ _ _ _ _ _)
  subst f1
  show seg _ _ _ _ = _
  first | rfl | (simp only [List.length_append, List.length_cons, List.length_nil, laySt_len, laySca_len, layTold_len, layCrs_len]; rfl)
theorem layTray_len : (layTray a).length = 2 := rfl
def layOrd (b : Nat) : List va_E := .inr (4, [.ref (b + 1), .int 0, .int 0, .ref (b + 2), .ref (b + 9), .null, .int 0, .int 0]) :: zrow 7 :: (laySt (b + 2) ++ [zrow 7])
set_option maxRecDepth 20000 in
theorem c_initOrd (R : a + L.length + 10 ≤ jB0 g + 601024 ∧ h.2.2 + s + 65 ≤ 7293034) : Con g mX4_init (d + 2) [.ref (a + L.length)] (seg h a (L ++ [.inr (4, [.null, .int 0, .int 0, .null, .null, .null, .int 0, .int 0])]) s) (jPv (fun h' => h' = seg h a (L ++ layOrd (a + L.length)) (s + 65)) no2) := by
  obtain ⟨r1, r2⟩ := R
  refine con_of km_X4_init.1.2.2.2.2 (Nat.le_of_ble_eq_true rfl) rfl (bX4_init_0 ?_)
  refine ⟨7, rfl, by decide, ⟨by rw [seg_sz]; simp [laySt_len, laySca_len, layTold_len, layCrs_len, layTray_len]; omega, by rw [seg_sz]; simp; omega⟩, fun q1 h1 e1 f1 => ?_⟩
  rw [seg_new] at f1
  subst f1
  rw [seg_sz] at e1
  simp only [List.length_append, List.length_cons, List.length_nil, laySt_len, laySca_len, layTold_len, layCrs_len, layTray_len] at e1
  subst e1
  refine ⟨_, seg_at0 _ _ _ _ _ _, Nat.le_of_ble_eq_true rfl, fun h1 f1 => ?_⟩
  replace f1 := f1.trans (seg_set0 _ _ _ _ _ _ _)
  subst f1
  refine ⟨⟨by rw [seg_sz]; simp [laySt_len, laySca_len, layTold_len, layCrs_len, layTray_len]; omega, by rw [seg_sz]; simp; omega⟩, fun q2 h1 e2 f1 => ?_⟩
  rw [seg_new, ← List.append_assoc] at f1
  subst f1
  rw [seg_sz] at e2
  dsimp only at e2
  subst e2
  refine (c_initSt ⟨by simp [laySt_len, laySca_len, layTold_len, layCrs_len, layTray_len]; omega, by omega⟩).pv (fun h1 f1 => ?_) (fun E h' f => f.elim)
  rw [List.append_assoc] at f1
  subst f1
  refine ⟨_, seg_at0 _ _ _ _ _ _, Nat.le_of_ble_eq_true rfl, fun h1 f1 => ?_⟩
  replace f1 := f1.trans (seg_set0 _ _ _ _ _ _ _)
  subst f1
  refine ⟨7, rfl, by decide, ⟨by rw [seg_sz]; simp [laySt_len, laySca_len, layTold_len, layCrs_len, layTray_len]; omega, by rw [seg_sz]; simp; omega⟩, fun q3 h1 e3 f1 => ?_⟩
  rw [seg_new] at f1
  subst f1
  rw [seg_sz] at e3
  simp only [List.length_append, List.length_cons, List.length_nil, laySt_len, laySca_len, layTold_len, layCrs_len, layTray_len] at e3
  subst e3
  refine ⟨_, seg_at0 _ _ _ _ _ _, Nat.le_of_ble_eq_true rfl, fun h1 f1 => ?_⟩
  replace f1 := f1.trans (seg_set0 _ _ _ _ _ _ _)
  subst f1
  show seg _ _ _ _ = _
  first | rfl | (simp only [List.length_append, List.length_cons, List.length_nil, laySt_len, laySca_len, layTold_len, layCrs_len, layTray_len]; rfl)
theorem layOrd_len : (layOrd a).length = 10 := rfl
def layTok (b : Nat) : List va_E := [.inr (8, [.ref (b + 1), .ref (b + 2), .ref (b + 3), .int 0]), zrow 901, zrow 901, zrow 901]
set_option maxRecDepth 20000 in
theorem c_initTok (R : a + L.length + 4 ≤ jB0 g + 601024 ∧ h.2.2 + s + 2703 ≤ 7293034) : Con g mX8_init (d + 1) [.ref (a + L.length)] (seg h a (L ++ [.inr (8, [.null, .null, .null, .int 0])]) s) (jPv (fun h' => h' = seg h a (L ++ layTok (a + L.length)) (s + 2703)) no2) := by
  obtain ⟨r1, r2⟩ := R
  refine con_of km_X8_init.1.2.2.2.2 (Nat.le_of_ble_eq_true rfl) rfl (bX8_init_0 ?_)
  refine ⟨901, rfl, by decide, ⟨by rw [seg_sz]; simp [laySt_len, laySca_len, layTold_len, layCrs_len, layTray_len, layOrd_len]; omega, by rw [seg_sz]; simp; omega⟩, fun q1 h1 e1 f1 => ?_⟩
  rw [seg_new] at f1
  subst f1
  rw [seg_sz] at e1
  simp only [List.length_append, List.length_cons, List.length_nil, laySt_len, laySca_len, layTold_len, layCrs_len, layTray_len, layOrd_len] at e1
  subst e1
  refine ⟨_, seg_at0 _ _ _ _ _ _, Nat.le_of_ble_eq_true rfl, fun h1 f1 => ?_⟩
  replace f1 := f1.trans (seg_set0 _ _ _ _ _ _ _)
  subst f1
  refine ⟨901, rfl, by decide, ⟨by rw [seg_sz]; simp [laySt_len, laySca_len, layTold_len, layCrs_len, layTray_len, layOrd_len]; omega, by rw [seg_sz]; simp; omega⟩, fun q2 h1 e2 f1 => ?_⟩
  rw [seg_new] at f1
  subst f1
  rw [seg_sz] at e2
  simp only [List.length_append, List.length_cons, List.length_nil, laySt_len, laySca_len, layTold_len, layCrs_len, layTray_len, layOrd_len] at e2
  subst e2
  refine ⟨_, seg_at0 _ _ _ _ _ _, Nat.le_of_ble_eq_true rfl, fun h1 f1 => ?_⟩
  replace f1 := f1.trans (seg_set0 _ _ _ _ _ _ _)
  subst f1
  refine ⟨901, rfl, by decide, ⟨by rw [seg_sz]; simp [laySt_len, laySca_len, layTold_len, layCrs_len, layTray_len, layOrd_len]; omega, by rw [seg_sz]; simp; omega⟩, fun q3 h1 e3 f1 => ?_⟩
  rw [seg_new] at f1
  subst f1
  rw [seg_sz] at e3
  simp only [List.length_append, List.length_cons, List.length_nil, laySt_len, laySca_len, layTold_len, layCrs_len, layTray_len, layOrd_len] at e3
  subst e3
  refine ⟨_, seg_at0 _ _ _ _ _ _, Nat.le_of_ble_eq_true rfl, fun h1 f1 => ?_⟩
  replace f1 := f1.trans (seg_set0 _ _ _ _ _ _ _)
  subst f1
  show seg _ _ _ _ = _
  first | rfl | (simp only [List.length_append, List.length_cons, List.length_nil, laySt_len, laySca_len, layTold_len, layCrs_len, layTray_len, layOrd_len]; rfl)
theorem layTok_len : (layTok a).length = 4 := rfl
def layTel (g : jG) (b : Nat) : List va_E := .inr (7, [.ref (b + 1), .int 0, .int 0, .ref (b + 9), .int 0, .int 0, .ref (b + 13), .int 0, .int 0]) :: (layTold g (b + 1) ++ layTok (b + 9) ++ [zrow 900])
set_option maxRecDepth 20000 in
theorem c_initTel (R : a + L.length + 14 ≤ jB0 g + 601024 ∧ h.2.2 + s + 3665 ≤ 7293034) : Con g mX7_init (d + 3) [.ref (a + L.length)] (seg h a (L ++ [.inr (7, [.null, .int 0, .int 0, .null, .int 0, .int 0, .null, .int 0, .int 0])]) s) (jPv (fun h' => h' = seg h a (L ++ layTel g (a + L.length)) (s + 3665)) no2) := by
  obtain ⟨r1, r2⟩ := R
  refine con_of km_X7_init.1.2.2.2.2 (Nat.le_of_ble_eq_true rfl) rfl (bX7_init_0 ?_)
  refine ⟨⟨by rw [seg_sz]; simp [laySt_len, laySca_len, layTold_len, layCrs_len, layTray_len, layOrd_len, layTok_len]; omega, by rw [seg_sz]; simp; omega⟩, fun q1 h1 e1 f1 => ?_⟩
  rw [seg_new, ← List.append_assoc] at f1
  subst f1
  rw [seg_sz] at e1
  dsimp only at e1
  subst e1
  refine (c_initTold ⟨by simp [laySt_len, laySca_len, layTold_len, layCrs_len, layTray_len, layOrd_len, layTok_len]; omega, by omega⟩).pv (fun h1 f1 => ?_) (fun E h' f => f.elim)
  rw [List.append_assoc] at f1
  subst f1
  refine ⟨_, seg_at0 _ _ _ _ _ _, Nat.le_of_ble_eq_true rfl, fun h1 f1 => ?_⟩
  replace f1 := f1.trans (seg_set0 _ _ _ _ _ _ _)
  subst f1
  refine ⟨⟨by rw [seg_sz]; simp [laySt_len, laySca_len, layTold_len, layCrs_len, layTray_len, layOrd_len, layTok_len]; omega, by rw [seg_sz]; simp; omega⟩, fun q2 h1 e2 f1 => ?_⟩
  rw [seg_new, ← List.append_assoc] at f1
  subst f1
  rw [seg_sz] at e2
  dsimp only at e2
  subst e2
  refine (c_initTok ⟨by simp [laySt_len, laySca_len, layTold_len, layCrs_len, layTray_len, layOrd_len, layTok_len]; omega, by omega⟩).pv (fun h1 f1 => ?_) (fun E h' f => f.elim)
  rw [List.append_assoc] at f1
  subst f1
  refine ⟨_, seg_at0 _ _ _ _ _ _, Nat.le_of_ble_eq_true rfl, fun h1 f1 => ?_⟩
  replace f1 := f1.trans (seg_set0 _ _ _ _ _ _ _)
  subst f1
  refine ⟨900, rfl, by decide, ⟨by rw [seg_sz]; simp [laySt_len, laySca_len, layTold_len, layCrs_len, layTray_len, layOrd_len, layTok_len]; omega, by rw [seg_sz]; simp; omega⟩, fun q3 h1 e3 f1 => ?_⟩
  rw [seg_new] at f1
  subst f1
  rw [seg_sz] at e3
  simp only [List.length_append, List.length_cons, List.length_nil, laySt_len, laySca_len, layTold_len, layCrs_len, layTray_len, layOrd_len, layTok_len] at e3
  subst e3
  refine ⟨_, seg_at0 _ _ _ _ _ _, Nat.le_of_ble_eq_true rfl, fun h1 f1 => ?_⟩
  replace f1 := f1.trans (seg_set0 _ _ _ _ _ _ _)
  subst f1
  show seg _ _ _ _ = _
  first | rfl | (simp only [List.length_append, List.length_cons, List.length_nil, laySt_len, laySca_len, layTold_len, layCrs_len, layTray_len, layOrd_len, layTok_len]; rfl)
theorem layTel_len : (layTel g a).length = 14 := rfl
end CT2
