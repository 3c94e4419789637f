/-! The class's constructor -/
section INI
variable {g : jG} {d : Nat} {h hs : jH} {o s K : Nat} {x : va_E} {M : List va_E}
theorem hd_at : (seg h o (x :: M) s).1 o = some x := seg_at0 h o [] M s x
theorem hd_set {e : va_E} : jset (seg h o (x :: M) s) o e = seg h o (e :: M) s := seg_set0 h o [] M s x e
theorem hd_mk {e : va_E} {n : Nat} : jnew (seg h o (x :: M) s) e n = seg h o (x :: (M ++ [e])) (s + n) := seg_new h o [x] M s e n
theorem hd_sz (hM : M.length + 1 = K) : (seg h o (x :: M) s).2.1 = o + K := by subst hM; rfl
theorem len_app {L : List va_E} {n : Nat} (hM : M.length + 1 = K) (e : L.length = n) : (M ++ L).length + 1 = K + n := by rw [List.length_append]; omega
theorem hd_Told (hM : M.length + 1 = K) (R : o + K + 8 ≤ jB0 g + 601024 ∧ h.2.2 + s + 51 ≤ 7293034) : Con g mX9_init (d + 2) [.ref (o + K)] (seg h o (x :: (M ++ [.inr (9, [.null, .int 0, .int 0, .int 0, .null, .null, .null])])) s) (jPv (fun h' => h' = seg h o (x :: (M ++ layTold g (o + K))) (s + 51)) no2) := by subst hM; exact c_initTold (a := o) (L := x :: M) R
theorem hd_Tel (hM : M.length + 1 = K) (R : o + K + 14 ≤ jB0 g + 601024 ∧ h.2.2 + s + 3665 ≤ 7293034) : Con g mX7_init (d + 3) [.ref (o + K)] (seg h o (x :: (M ++ [.inr (7, [.null, .int 0, .int 0, .null, .int 0, .int 0, .null, .int 0, .int 0])])) s) (jPv (fun h' => h' = seg h o (x :: (M ++ layTel g (o + K))) (s + 3665)) no2) := by subst hM; exact c_initTel (a := o) (L := x :: M) R
theorem hd_St (hM : M.length + 1 = K) (R : o + K + 7 ≤ jB0 g + 601024 ∧ h.2.2 + s + 42 ≤ 7293034) : Con g mX6_init (d + 1) [.ref (o + K)] (seg h o (x :: (M ++ [newSt])) s) (jPv (fun h' => h' = seg h o (x :: (M ++ laySt (o + K))) (s + 42)) no2) := by subst hM; exact c_initSt (a := o) (L := x :: M) R
theorem hd_Hist (hM : M.length + 1 = K) (R : o + K + 72 ≤ jB0 g + 601024 ∧ h.2.2 + s + 520 ≤ 7293034) : Con g mX2_init (d + 2) [.ref (o + K)] (seg h o (x :: (M ++ [newHist])) s) (jPv (fun h' => h' = seg h o (x :: (M ++ layHist (o + K))) (s + 520)) no2) := by subst hM; exact c_initHist (a := o) (L := x :: M) R
theorem hd_Img (hM : M.length + 1 = K) (R : o + K + 80 ≤ jB0 g + 601024 ∧ h.2.2 + s + 573 ≤ 7293034) : Con g mX3_init (d + 3) [.ref (o + K)] (seg h o (x :: (M ++ [.inr (3, [.null, .null, .null])])) s) (jPv (fun h' => h' = seg h o (x :: (M ++ layImg (o + K))) (s + 573)) no2) := by subst hM; exact c_initImg (a := o) (L := x :: M) R
theorem hd_Tray (hM : M.length + 1 = K) (R : o + K + 2 ≤ jB0 g + 601024 ∧ h.2.2 + s + 30 ≤ 7293034) : Con g mX10_init (d + 1) [.ref (o + K)] (seg h o (x :: (M ++ [.inr (10, [.int 0, .int 0, .null])])) s) (jPv (fun h' => h' = seg h o (x :: (M ++ layTray (o + K))) (s + 30)) no2) := by subst hM; exact c_initTray (a := o) (L := x :: M) R
theorem hd_Crs (hM : M.length + 1 = K) (R : o + K + 23 ≤ jB0 g + 601024 ∧ h.2.2 + s + 210 ≤ 7293034) : Con g mX0_init (d + 3) [.ref (o + K)] (seg h o (x :: (M ++ [.inr (0, [.null, .int 0, .int 0, .null, .null, .null, .null, .null, .null])])) s) (jPv (fun h' => h' = seg h o (x :: (M ++ layCrs g (o + K))) (s + 210)) no2) := by subst hM; exact c_initCrs (a := o) (L := x :: M) R
theorem hd_Ord (hM : M.length + 1 = K) (R : o + K + 10 ≤ jB0 g + 601024 ∧ h.2.2 + s + 65 ≤ 7293034) : Con g mX4_init (d + 2) [.ref (o + K)] (seg h o (x :: (M ++ [.inr (4, [.null, .int 0, .int 0, .null, .null, .null, .int 0, .int 0])])) s) (jPv (fun h' => h' = seg h o (x :: (M ++ layOrd (o + K))) (s + 65)) no2) := by subst hM; exact c_initOrd (a := o) (L := x :: M) R
theorem hd_Doors (hM : M.length + 1 = K) (R : o + K + 10 ≤ jB0 g + 601024 ∧ h.2.2 + s + 5551 ≤ 7293034) : Con g mX1_init (d + 1) [.ref (o + K)] (seg h o (x :: (M ++ [.inr (1, [.null, .int 0, .null])])) s) (jPv (fun h' => h' = seg h o (x :: (M ++ layDoors (o + K))) (s + 5551)) no2) := by subst hM; exact c_initDoors (a := o) (L := x :: M) R
def fsA (o : Nat) (v9 v10 v11 v12 : Value) : List Value := [.ref (o + 1), .int 0, .int 0, .int (-1), .ref (o + 10), .ref (o + 2), .ref (o + 24), .ref (o + 31), .ref (o + 103), v9, v10, v11, v12, .int 0]
def gimg (o i : Nat) : va_E := .inl (5, (3, .inr (.inr (.inr (.inr (fun j => if j < i then some (o + (104 + 80 * j)) else none))))))
def imgs (o : Nat) : Nat → List va_E
  | 0 => []
  | i + 1 => imgs o i ++ layImg (o + (104 + 80 * i))
theorem imgs_len (o i : Nat) : (imgs o i).length = 80 * i := by
  induction i with
  | zero => rfl
  | succ i ih => simp only [imgs, List.length_append, ih, layImg_len]; omega
def yrow2 (o i : Nat) : va_E := .inl (6, (4, .inr (.inr (.inr (.inr (fun j => if j < i then some (o + (345 + 2 * j)) else none))))))
def trsL (o : Nat) : Nat → List va_E
  | 0 => []
  | i + 1 => trsL o i ++ layTray (o + (345 + 2 * i))
theorem trsL_len (o i : Nat) : (trsL o i).length = 2 * i := by
  induction i with
  | zero => rfl
  | succ i ih => simp only [trsL, List.length_append, ih, layTray_len]; omega
def lastL (g : jG) (o : Nat) (M : List va_E) : List va_E := .inr (11, fsA o (.ref (o + 344)) (.ref (o + 353)) (.ref (o + 376)) (.ref (o + 386))) :: (M ++ layCrs g (o + 353) ++ layOrd (o + 376) ++ layDoors (o + 386))
/-- a cell behind a known stretch -/
theorem md_at {N : List va_E} {e : va_E} (hM : M.length + 1 = K) : (seg h o (x :: (M ++ e :: N)) s).1 (o + K) = some e := by
  subst hM; exact seg_at0 h o (x :: M) N s e
theorem md_set {N : List va_E} {e e' : va_E} (hM : M.length + 1 = K) : jset (seg h o (x :: (M ++ e :: N)) s) (o + K) e' = seg h o (x :: (M ++ e' :: N)) s := by
  subst hM; exact seg_set0 h o (x :: M) N s e e'
set_option maxRecDepth 20000 in
theorem init_110 {M6 : List va_E} (hM6 : M6.length + 1 = 344) (R : o + 396 ≤ jB0 g + 601024 ∧ h.2.2 + s + 6000 ≤ 7293034) : ∀ m i, 4 = i + m →
    J g mX11_init (d + 4) hs (jPv (fun h' => h' = seg h o (lastL g o (M6 ++ yrow2 o 4 :: trsL o 4)) (s + (33 * 4 + 5846))) no2) 110 [(0, .ref o), (1, .int (nI i))] [] (seg h o (.inr (11, fsA o (.ref (o + 344)) .null .null .null) :: (M6 ++ yrow2 o i :: trsL o i)) (s + 33 * i)) := by
  obtain ⟨r1, r2⟩ := R
  intro m
  induction m with
  | zero =>
    intro i hi
    have : i = 4 := by omega
    subst this
    have h1 : (M6 ++ yrow2 o 4 :: trsL o 4).length + 1 = 353 := by simp only [List.length_append, List.length_cons, trsL_len]; omega
    generalize hMg : M6 ++ yrow2 o 4 :: trsL o 4 = M7 at *
    have ey : (seg h o (.inr (11, fsA o (.ref (o + 344)) .null .null .null) :: M7) (s + 33 * 4)).1 (o + 344) = some (yrow2 o 4) := by rw [← hMg]; exact md_at hM6
    refine bX11_init_110 ⟨_, hd_at, _, rfl, _, _, ey, ⟨_, rfl⟩, fun q => absurd q (nI_nlt (a := 4) (b := 4) (Nat.le_refl _) (by decide)), fun _ => ?_⟩
    refine ⟨⟨by rw [hd_sz h1]; omega, by rw [seg_sz]; dsimp only; omega⟩, fun q h2 e1 f1 => ?_⟩
    replace f1 := f1.trans hd_mk
    subst f1
    replace e1 := e1.trans (hd_sz h1)
    subst e1
    refine (hd_Crs h1 ⟨by omega, by omega⟩).pv (fun h2 f1 => ?_) (fun E h' f => f.elim)
    subst f1
    refine ⟨_, hd_at, Nat.le_of_ble_eq_true rfl, fun h2 f1 => ?_⟩
    replace f1 := f1.trans hd_set
    subst f1
    have h2 : (M7 ++ layCrs g (o + 353)).length + 1 = 376 := len_app h1 layCrs_len
    refine ⟨⟨by rw [hd_sz h2]; omega, by rw [seg_sz]; dsimp only; omega⟩, fun q h2' e1 f1 => ?_⟩
    replace f1 := f1.trans hd_mk
    subst f1
    replace e1 := e1.trans (hd_sz h2)
    subst e1
    refine (hd_Ord h2 ⟨by omega, by omega⟩).pv (fun h2 f1 => ?_) (fun E h' f => f.elim)
    subst f1
    refine ⟨_, hd_at, Nat.le_of_ble_eq_true rfl, fun h2 f1 => ?_⟩
    replace f1 := f1.trans hd_set
    subst f1
    have h3 : (M7 ++ layCrs g (o + 353) ++ layOrd (o + 376)).length + 1 = 386 := len_app h2 layOrd_len
    refine ⟨⟨by rw [hd_sz h3]; omega, by rw [seg_sz]; dsimp only; omega⟩, fun q h2' e1 f1 => ?_⟩
    replace f1 := f1.trans hd_mk
    subst f1
    replace e1 := e1.trans (hd_sz h3)
    subst e1
    refine (hd_Doors h3 ⟨by omega, by omega⟩).pv (fun h2 f1 => ?_) (fun E h' f => f.elim)
    subst f1
    refine ⟨_, hd_at, Nat.le_of_ble_eq_true rfl, fun h2 f1 => ?_⟩
    replace f1 := f1.trans hd_set
    subst f1
    rfl
  | succ m ih =>
    intro i hi
    have hl : (M6 ++ yrow2 o i :: trsL o i).length + 1 = 345 + 2 * i := by simp only [List.length_append, List.length_cons, trsL_len]; omega
    have hix : (nI i).toNatClampNeg = i := nI_clamp (by omega)
    refine bX11_init_110 ⟨_, hd_at, _, rfl, _, _, md_at hM6, ⟨_, rfl⟩, fun _ => ⟨_, hd_at, _, rfl, ⟨by rw [hd_sz hl]; omega, by rw [seg_sz]; dsimp only; omega⟩, fun q h2 e1 f1 => ?_⟩, fun q => absurd (nI_lt (a := i) (b := 4) (by omega) (by decide)) q⟩
    replace f1 := f1.trans hd_mk
    subst f1
    replace e1 := e1.trans (hd_sz hl)
    subst e1
    refine (hd_Tray hl ⟨by omega, by omega⟩).pv (fun h2 f1 => ?_) (fun E h' f => f.elim)
    have ea : (M6 ++ yrow2 o i :: trsL o i) ++ layTray (o + (345 + 2 * i)) = M6 ++ yrow2 o i :: trsL o (i + 1) := by
      simp only [trsL, List.append_assoc, List.cons_append]
    have e0 : (seg h o (.inr (11, fsA o (.ref (o + 344)) .null .null .null) :: ((M6 ++ yrow2 o i :: trsL o i) ++ layTray (o + (345 + 2 * i)))) (s + 33 * i + 3 + 30)).1 (o + (345 + 2 * i)) = some (.inr (10, [.int 0, .int (-1), .ref (o + (345 + 2 * i) + 1)])) := md_at hl
    subst f1
    rw [ea] at e0 ⊢
    refine ⟨_, _, md_at hM6, vp_in_nI (by omega) (by decide), _, e0, fun h2 f1 => ?_⟩
    replace f1 := f1.trans (md_set hM6)
    have ez : (.inl (6, (4, .inr (.inr (.inr (.inr (va_up (fun j => if j < i then some (o + (345 + 2 * j)) else none) (nI i).toNatClampNeg (some (o + (345 + 2 * i))))))))) : va_E) = yrow2 o (i + 1) := by
      have : va_up (fun j => if j < i then some (o + (345 + 2 * j)) else none) i (some (o + (345 + 2 * i))) = (fun j => if j < i + 1 then some (o + (345 + 2 * j)) else none) := by
        funext j
        by_cases hj : j = i
        · subst hj
          simp [va_up]
        · by_cases h2 : j < i
          · simp only [va_up, hj, h2, show j < i + 1 from by omega, if_true, if_false]
          · simp only [va_up, hj, h2, show ¬ j < i + 1 from by omega, if_false]
      unfold yrow2
      rw [hix, this]
    rw [ez] at f1
    rw [f1, nI_1]
    have := ih (i + 1) (by omega)
    rw [show s + 33 * (i + 1) = s + 33 * i + 3 + 30 from by omega] at this
    exact this
set_option maxRecDepth 20000 in
theorem init_72 {M5 : List va_E} (hM5 : M5.length + 1 = 103) (R : o + 396 ≤ jB0 g + 601024 ∧ h.2.2 + s + 8000 ≤ 7293034) : ∀ m i, 3 = i + m →
    J g mX11_init (d + 4) hs (jPv (fun h' => h' = seg h o (lastL g o ((M5 ++ gimg o 3 :: imgs o 3) ++ yrow2 o 4 :: trsL o 4)) (s + 576 * 3 + 4 + (33 * 4 + 5846))) no2) 72 [(0, .ref o), (1, .int (nI i))] [] (seg h o (.inr (11, fsA o .null .null .null .null) :: (M5 ++ gimg o i :: imgs o i)) (s + 576 * i)) := by
  obtain ⟨r1, r2⟩ := R
  intro m
  induction m with
  | zero =>
    intro i hi
    have : i = 3 := by omega
    subst this
    have h1 : (M5 ++ gimg o 3 :: imgs o 3).length + 1 = 344 := by simp only [List.length_append, List.length_cons, imgs_len]; omega
    have ey : (seg h o (.inr (11, fsA o .null .null .null .null) :: (M5 ++ gimg o 3 :: imgs o 3)) (s + 576 * 3)).1 (o + 103) = some (gimg o 3) := md_at hM5
    generalize hMg : M5 ++ gimg o 3 :: imgs o 3 = M6 at *
    refine bX11_init_72 ⟨_, hd_at, _, rfl, _, _, ey, ⟨_, rfl⟩, fun q => absurd q (nI_nlt (a := 3) (b := 3) (Nat.le_refl _) (by decide)), fun _ => ⟨4, rfl, by decide, ⟨by rw [hd_sz h1]; omega, by rw [seg_sz]; dsimp only; omega⟩, fun q h2 e1 f1 => ?_⟩⟩
    replace f1 := f1.trans hd_mk
    subst f1
    replace e1 := e1.trans (hd_sz h1)
    subst e1
    refine ⟨_, hd_at, Nat.le_of_ble_eq_true rfl, fun h2 f1 => ?_⟩
    replace f1 := f1.trans hd_set
    subst f1
    have key := init_110 (g := g) (d := d) (h := h) (hs := hs) (o := o) (s := s + 576 * 3 + 4) h1 ⟨r1, by omega⟩ 4 0 rfl
    have e4 : (.inl (6, (4, .inr (.inr (.inr (.inr (fun _ => none)))))) : va_E) = yrow2 o 0 := by
      unfold yrow2
      have : (fun j => if j < 0 then some (o + (345 + 2 * j)) else none) = (fun _ => none) := by
        funext j
        exact if_neg (Nat.not_lt_zero j)
      rw [this]
    rw [← e4] at key
    exact key
  | succ m ih =>
    intro i hi
    have hl : (M5 ++ gimg o i :: imgs o i).length + 1 = 104 + 80 * i := by simp only [List.length_append, List.length_cons, imgs_len]; omega
    have hix : (nI i).toNatClampNeg = i := nI_clamp (by omega)
    refine bX11_init_72 ⟨_, hd_at, _, rfl, _, _, md_at hM5, ⟨_, rfl⟩, fun _ => ⟨_, hd_at, _, rfl, ⟨by rw [hd_sz hl]; omega, by rw [seg_sz]; dsimp only; omega⟩, fun q h2 e1 f1 => ?_⟩, fun q => absurd (nI_lt (a := i) (b := 3) (by omega) (by decide)) q⟩
    replace f1 := f1.trans hd_mk
    subst f1
    replace e1 := e1.trans (hd_sz hl)
    subst e1
    refine (hd_Img hl ⟨by omega, by omega⟩).pv (fun h2 f1 => ?_) (fun E h' f => f.elim)
    have ea : (M5 ++ gimg o i :: imgs o i) ++ layImg (o + (104 + 80 * i)) = M5 ++ gimg o i :: imgs o (i + 1) := by
      simp only [imgs, List.append_assoc, List.cons_append]
    have e0 : (seg h o (.inr (11, fsA o .null .null .null .null) :: ((M5 ++ gimg o i :: imgs o i) ++ layImg (o + (104 + 80 * i)))) (s + 576 * i + 3 + 573)).1 (o + (104 + 80 * i)) = some (.inr (3, [.null, .ref (o + (104 + 80 * i) + 1), .ref (o + (104 + 80 * i) + 8)])) := md_at hl
    subst f1
    rw [ea] at e0 ⊢
    refine ⟨_, _, md_at hM5, vp_in_nI (by omega) (by decide), _, e0, fun h2 f1 => ?_⟩
    replace f1 := f1.trans (md_set hM5)
    have ez : (.inl (5, (3, .inr (.inr (.inr (.inr (va_up (fun j => if j < i then some (o + (104 + 80 * j)) else none) (nI i).toNatClampNeg (some (o + (104 + 80 * i))))))))) : va_E) = gimg o (i + 1) := by
      have : va_up (fun j => if j < i then some (o + (104 + 80 * j)) else none) i (some (o + (104 + 80 * i))) = (fun j => if j < i + 1 then some (o + (104 + 80 * j)) else none) := by
        funext j
        by_cases hj : j = i
        · subst hj
          simp [va_up]
        · by_cases h2 : j < i
          · simp only [va_up, hj, h2, show j < i + 1 from by omega, if_true, if_false]
          · simp only [va_up, hj, h2, show ¬ j < i + 1 from by omega, if_false]
      unfold gimg
      rw [hix, this]
    rw [ez] at f1
    rw [f1, nI_1]
    have := ih (i + 1) (by omega)
    rw [show s + 576 * (i + 1) = s + 576 * i + 3 + 573 from by omega] at this
    exact this
def obj0 : va_E := .inr (11, [.null, .int 0, .int 0, .int 0, .null, .null, .null, .null, .null, .null, .null, .null, .null, .int 0])
def bodyL (g : jG) (o : Nat) : List va_E := [.inl (1, (900, .inl (fun _ => 0)))] ++ layTold g (o + 2) ++ layTel g (o + 10) ++ laySt (o + 24) ++ layHist (o + 31)
set_option maxRecDepth 20000 in
theorem c_init11 (R : o + 396 ≤ jB0 g + 601024 ∧ h.2.2 + s + 14000 ≤ 7293034) : Con g mX11_init (d + 4) [.ref o] (seg h o [obj0] s) (jPv (fun h' => h' = seg h o (lastL g o ((bodyL g o ++ gimg o 3 :: imgs o 3) ++ yrow2 o 4 :: trsL o 4)) (s + 12918)) no2) := by
  obtain ⟨r1, r2⟩ := R
  refine con_of plD (Nat.le_of_ble_eq_true rfl) rfl (bX11_init_0 ?_)
  have h0 : ([] : List va_E).length + 1 = 1 := rfl
  refine ⟨900, rfl, by decide, ⟨by rw [hd_sz h0]; omega, by rw [seg_sz]; dsimp only; omega⟩, fun q h2 e1 f1 => ?_⟩
  replace f1 := f1.trans (hd_mk (M := []))
  subst f1
  replace e1 := e1.trans (hd_sz h0)
  subst e1
  refine ⟨_, hd_at, Nat.le_of_ble_eq_true rfl, fun h2 f1 => ?_⟩
  replace f1 := f1.trans hd_set
  subst f1
  refine ⟨_, hd_at, Nat.le_of_ble_eq_true rfl, fun h2 f1 => ?_⟩
  replace f1 := f1.trans hd_set
  subst f1
  have h1 : ([] ++ [(.inl (1, (900, .inl (fun _ => 0))) : va_E)]).length + 1 = 2 := rfl
  refine ⟨⟨by rw [hd_sz h1]; omega, by rw [seg_sz]; dsimp only; omega⟩, fun q h2 e1 f1 => ?_⟩
  replace f1 := f1.trans hd_mk
  subst f1
  replace e1 := e1.trans (hd_sz h1)
  subst e1
  refine (hd_Told h1 ⟨by omega, by omega⟩).pv (fun h2 f1 => ?_) (fun E h' f => f.elim)
  subst f1
  refine ⟨_, hd_at, Nat.le_of_ble_eq_true rfl, fun h2 f1 => ?_⟩
  replace f1 := f1.trans hd_set
  subst f1
  have h2 : (([] ++ [(.inl (1, (900, .inl (fun _ => 0))) : va_E)]) ++ layTold g (o + 2)).length + 1 = 10 := len_app h1 layTold_len
  refine ⟨⟨by rw [hd_sz h2]; omega, by rw [seg_sz]; dsimp only; omega⟩, fun q h2' e1 f1 => ?_⟩
  replace f1 := f1.trans hd_mk
  subst f1
  replace e1 := e1.trans (hd_sz h2)
  subst e1
  refine (hd_Tel (d := d) h2 ⟨by omega, by omega⟩).pv (fun h2 f1 => ?_) (fun E h' f => f.elim)
  subst f1
  refine ⟨_, hd_at, Nat.le_of_ble_eq_true rfl, fun h2 f1 => ?_⟩
  replace f1 := f1.trans hd_set
  subst f1
  have h3 : ((([] ++ [(.inl (1, (900, .inl (fun _ => 0))) : va_E)]) ++ layTold g (o + 2)) ++ layTel g (o + 10)).length + 1 = 24 := len_app h2 layTel_len
  refine ⟨⟨by rw [hd_sz h3]; omega, by rw [seg_sz]; dsimp only; omega⟩, fun q h2' e1 f1 => ?_⟩
  replace f1 := f1.trans hd_mk
  subst f1
  replace e1 := e1.trans (hd_sz h3)
  subst e1
  refine (hd_St h3 ⟨by omega, by omega⟩).pv (fun h2 f1 => ?_) (fun E h' f => f.elim)
  subst f1
  refine ⟨_, hd_at, Nat.le_of_ble_eq_true rfl, fun h2 f1 => ?_⟩
  replace f1 := f1.trans hd_set
  subst f1
  have h4 : (((([] ++ [(.inl (1, (900, .inl (fun _ => 0))) : va_E)]) ++ layTold g (o + 2)) ++ layTel g (o + 10)) ++ laySt (o + 24)).length + 1 = 31 := len_app h3 (laySt_len _)
  refine ⟨⟨by rw [hd_sz h4]; omega, by rw [seg_sz]; dsimp only; omega⟩, fun q h2' e1 f1 => ?_⟩
  replace f1 := f1.trans hd_mk
  subst f1
  replace e1 := e1.trans (hd_sz h4)
  subst e1
  refine (hd_Hist h4 ⟨by omega, by omega⟩).pv (fun h2 f1 => ?_) (fun E h' f => f.elim)
  subst f1
  refine ⟨_, hd_at, Nat.le_of_ble_eq_true rfl, fun h2 f1 => ?_⟩
  replace f1 := f1.trans hd_set
  subst f1
  have h5 : ((((([] ++ [(.inl (1, (900, .inl (fun _ => 0))) : va_E)]) ++ layTold g (o + 2)) ++ layTel g (o + 10)) ++ laySt (o + 24)) ++ layHist (o + 31)).length + 1 = 103 := len_app h4 (layHist_len _)
  refine ⟨3, rfl, by decide, ⟨by rw [hd_sz h5]; omega, by rw [seg_sz]; dsimp only; omega⟩, fun q h2' e1 f1 => ?_⟩
  replace f1 := f1.trans hd_mk
  subst f1
  replace e1 := e1.trans (hd_sz h5)
  subst e1
  refine ⟨_, hd_at, Nat.le_of_ble_eq_true rfl, fun h2 f1 => ?_⟩
  replace f1 := f1.trans hd_set
  subst f1
  have e4 : (.inl (5, (3, .inr (.inr (.inr (.inr (fun _ => none)))))) : va_E) = gimg o 0 := by
    unfold gimg
    have : (fun j => if j < 0 then some (o + (104 + 80 * j)) else none) = (fun _ => none) := by
      funext j
      exact if_neg (Nat.not_lt_zero j)
    rw [this]
  have key := init_72 (g := g) (d := d) (h := h) (hs := seg h o [obj0] s) (o := o) (s := s + 900 + 7 + 51 + 9 + 3665 + 9 + 42 + 2 + 520 + 3) (M5 := bodyL g o) h5 ⟨r1, by omega⟩ 3 0 rfl
  rw [← e4] at key
  rw [show s + 900 + 7 + 51 + 9 + 3665 + 9 + 42 + 2 + 520 + 3 + 576 * 3 + 4 + (33 * 4 + 5846) = s + 12918 from by omega] at key
  exact key
end INI
