/-! The reference begins -/
def μ0 : MW := (fun i => if i = 15 then -1 else 0, fun j => if j = 1 then upd (fun _ => 0) 3 100 else if j = 15 then upd (upd (upd (upd (fun _ => 0) 0 (-1)) 1 (-1)) 2 (-1)) 3 (-1) else fun _ => 0, fun _ => 0)
def newM : va_E := .inr (12, [.null, .null, .null, .null, .int 0, .null, .int 0, .int 0, .int 0, .int 0, .int 0, .int 0, .int 0, .int 0, .int 0, .int 0, .int 0, .int 0, .int 0, .null, .null, .null, .null, .int 0, .int 0, .null, .int 0, .int 0, .null, .null, .int 0, .int 0, .int 0, .null, .null, .null, .null, .null])
def layM (m : Nat) : List va_E := (List.range 18).map (mcell m μ0)
section MIN
variable {g : jG} {d : Nat} {h : jH} {o s : Nat}
theorem lay_mw : seg h o (layM o) s = mw (h.1, o + 18, h.2.2 + s) o μ0 := by
  refine Prod.ext (funext fun q => ?_) rfl
  show (if o ≤ q ∧ q < o + 18 then (layM o)[q - o]? else h.1 q) = (if o ≤ q ∧ q < o + 18 then some (mcell o μ0 (q - o)) else h.1 q)
  by_cases hq : o ≤ q ∧ q < o + 18
  · rw [if_pos hq, if_pos hq]
    unfold layM
    rw [List.getElem?_map, List.getElem?_range (by omega)]
    rfl
  · rw [if_neg hq, if_neg hq]
theorem rm_ok {x : va_E} {M : List va_E} {K n c t : Nat} (r1 : o + 18 ≤ jB0 g + 601024) (r2 : h.2.2 + s + t ≤ 7293034) (hM : M.length + 1 = K) (hK : K < 18) (hc : c + n ≤ t) : jroom g (seg h o (x :: M) (s + c)) 1 n := by
  subst hM
  have aux : ∀ a b c n t x : Nat, a + b + t ≤ x → c + n ≤ t → a + (b + c) + n ≤ x := fun a b c n t x h1 h2 => by omega
  exact ⟨by rw [seg_sz]; show o + (M.length + 1) + 1 ≤ _; omega, by rw [seg_sz]; exact aux _ _ _ _ _ _ r2 hc⟩
theorem md_mk {x e : va_E} {M : List va_E} {n c c' : Nat} (hc : c + n = c') : jnew (seg h o (x :: M) (s + c)) e n = seg h o (x :: (M ++ [e])) (s + c') := by
  subst hc
  rw [← Nat.add_assoc]
  exact hd_mk
theorem c_initM (R : o + 18 ≤ jB0 g + 601024 ∧ h.2.2 + s + 22917 ≤ 7293034) : Con g mX12_init (d + 1) [.ref o] (seg h o [newM] s) (jPv (fun h' => h' = seg h o (layM o) (s + 22917)) no2) := by
  obtain ⟨r1, r2⟩ := R
  refine con_of km_X12_init.1.2.2.2.2 (Nat.le_of_ble_eq_true rfl) rfl (bX12_init_0 ?_)
  refine ⟨3240, rfl, by decide, rm_ok (c := 0) r1 r2 (K := 1) rfl (by decide) (Nat.le_of_ble_eq_true rfl), fun q h2 e1 f1 => ?_⟩
  replace f1 := f1.trans (md_mk (c := 0) (c' := 3240) rfl)
  subst f1
  replace e1 := e1.trans (hd_sz (K := 1) rfl)
  subst e1
  refine ⟨_, hd_at, Nat.le_of_ble_eq_true rfl, fun h2 f1 => ?_⟩
  replace f1 := f1.trans hd_set
  change h2 = seg h o (.inr (12, [.ref (o + 1), .null, .null, .null, .int 0, .null, .int 0, .int 0, .int 0, .int 0, .int 0, .int 0, .int 0, .int 0, .int 0, .int 0, .int 0, .int 0, .int 0, .null, .null, .null, .null, .int 0, .int 0, .null, .int 0, .int 0, .null, .null, .int 0, .int 0, .int 0, .null, .null, .null, .null, .null]) :: [zrow 3240]) (s + 3240) at f1
  subst f1
  refine ⟨3240, rfl, by decide, rm_ok (c := 3240) r1 r2 (K := 2) rfl (by decide) (Nat.le_of_ble_eq_true rfl), fun q h2 e1 f1 => ?_⟩
  replace f1 := f1.trans (md_mk (c := 3240) (c' := 6480) rfl)
  subst f1
  replace e1 := e1.trans (hd_sz (K := 2) rfl)
  subst e1
  refine ⟨_, hd_at, Nat.le_of_ble_eq_true rfl, fun h2 f1 => ?_⟩
  replace f1 := f1.trans hd_set
  change h2 = seg h o (.inr (12, [.ref (o + 1), .ref (o + 2), .null, .null, .int 0, .null, .int 0, .int 0, .int 0, .int 0, .int 0, .int 0, .int 0, .int 0, .int 0, .int 0, .int 0, .int 0, .int 0, .null, .null, .null, .null, .int 0, .int 0, .null, .int 0, .int 0, .null, .null, .int 0, .int 0, .int 0, .null, .null, .null, .null, .null]) :: [zrow 3240, zrow 3240]) (s + 6480) at f1
  subst f1
  refine ⟨9720, rfl, by decide, rm_ok (c := 6480) r1 r2 (K := 3) rfl (by decide) (Nat.le_of_ble_eq_true rfl), fun q h2 e1 f1 => ?_⟩
  replace f1 := f1.trans (md_mk (c := 6480) (c' := 16200) rfl)
  subst f1
  replace e1 := e1.trans (hd_sz (K := 3) rfl)
  subst e1
  refine ⟨_, hd_at, Nat.le_of_ble_eq_true rfl, fun h2 f1 => ?_⟩
  replace f1 := f1.trans hd_set
  change h2 = seg h o (.inr (12, [.ref (o + 1), .ref (o + 2), .ref (o + 3), .null, .int 0, .null, .int 0, .int 0, .int 0, .int 0, .int 0, .int 0, .int 0, .int 0, .int 0, .int 0, .int 0, .int 0, .int 0, .null, .null, .null, .null, .int 0, .int 0, .null, .int 0, .int 0, .null, .null, .int 0, .int 0, .int 0, .null, .null, .null, .null, .null]) :: [zrow 3240, zrow 3240, zrow 9720]) (s + 16200) at f1
  subst f1
  refine ⟨3, rfl, by decide, rm_ok (c := 16200) r1 r2 (K := 4) rfl (by decide) (Nat.le_of_ble_eq_true rfl), fun q h2 e1 f1 => ?_⟩
  replace f1 := f1.trans (md_mk (c := 16200) (c' := 16203) rfl)
  subst f1
  replace e1 := e1.trans (hd_sz (K := 4) rfl)
  subst e1
  refine ⟨_, hd_at, Nat.le_of_ble_eq_true rfl, fun h2 f1 => ?_⟩
  replace f1 := f1.trans hd_set
  change h2 = seg h o (.inr (12, [.ref (o + 1), .ref (o + 2), .ref (o + 3), .ref (o + 4), .int 0, .null, .int 0, .int 0, .int 0, .int 0, .int 0, .int 0, .int 0, .int 0, .int 0, .int 0, .int 0, .int 0, .int 0, .null, .null, .null, .null, .int 0, .int 0, .null, .int 0, .int 0, .null, .null, .int 0, .int 0, .int 0, .null, .null, .null, .null, .null]) :: [zrow 3240, zrow 3240, zrow 9720, .inl (2, (3, .inl (fun _ => 0)))]) (s + 16203) at f1
  subst f1
  refine ⟨900, rfl, by decide, rm_ok (c := 16203) r1 r2 (K := 5) rfl (by decide) (Nat.le_of_ble_eq_true rfl), fun q h2 e1 f1 => ?_⟩
  replace f1 := f1.trans (md_mk (c := 16203) (c' := 17103) rfl)
  subst f1
  replace e1 := e1.trans (hd_sz (K := 5) rfl)
  subst e1
  refine ⟨_, hd_at, Nat.le_of_ble_eq_true rfl, fun h2 f1 => ?_⟩
  replace f1 := f1.trans hd_set
  change h2 = seg h o (.inr (12, [.ref (o + 1), .ref (o + 2), .ref (o + 3), .ref (o + 4), .int 0, .ref (o + 5), .int 0, .int 0, .int 0, .int 0, .int 0, .int 0, .int 0, .int 0, .int 0, .int 0, .int 0, .int 0, .int 0, .null, .null, .null, .null, .int 0, .int 0, .null, .int 0, .int 0, .null, .null, .int 0, .int 0, .int 0, .null, .null, .null, .null, .null]) :: [zrow 3240, zrow 3240, zrow 9720, .inl (2, (3, .inl (fun _ => 0))), zrow 900]) (s + 17103) at f1
  subst f1
  refine ⟨_, hd_at, Nat.le_of_ble_eq_true rfl, fun h2 f1 => ?_⟩
  replace f1 := f1.trans hd_set
  change h2 = seg h o (.inr (12, [.ref (o + 1), .ref (o + 2), .ref (o + 3), .ref (o + 4), .int 0, .ref (o + 5), .int 0, .int 0, .int 0, .int 0, .int 0, .int 0, .int 0, .int 0, .int 0, .int (-1), .int 0, .int 0, .int 0, .null, .null, .null, .null, .int 0, .int 0, .null, .int 0, .int 0, .null, .null, .int 0, .int 0, .int 0, .null, .null, .null, .null, .null]) :: [zrow 3240, zrow 3240, zrow 9720, .inl (2, (3, .inl (fun _ => 0))), zrow 900]) (s + 17103) at f1
  subst f1
  refine ⟨64, rfl, by decide, rm_ok (c := 17103) r1 r2 (K := 6) rfl (by decide) (Nat.le_of_ble_eq_true rfl), fun q h2 e1 f1 => ?_⟩
  replace f1 := f1.trans (md_mk (c := 17103) (c' := 17167) rfl)
  subst f1
  replace e1 := e1.trans (hd_sz (K := 6) rfl)
  subst e1
  refine ⟨_, hd_at, Nat.le_of_ble_eq_true rfl, fun h2 f1 => ?_⟩
  replace f1 := f1.trans hd_set
  change h2 = seg h o (.inr (12, [.ref (o + 1), .ref (o + 2), .ref (o + 3), .ref (o + 4), .int 0, .ref (o + 5), .int 0, .int 0, .int 0, .int 0, .int 0, .int 0, .int 0, .int 0, .int 0, .int (-1), .int 0, .int 0, .int 0, .ref (o + 6), .null, .null, .null, .int 0, .int 0, .null, .int 0, .int 0, .null, .null, .int 0, .int 0, .int 0, .null, .null, .null, .null, .null]) :: [zrow 3240, zrow 3240, zrow 9720, .inl (2, (3, .inl (fun _ => 0))), zrow 900, zrow 64]) (s + 17167) at f1
  subst f1
  refine ⟨6, rfl, by decide, rm_ok (c := 17167) r1 r2 (K := 7) rfl (by decide) (Nat.le_of_ble_eq_true rfl), fun q h2 e1 f1 => ?_⟩
  replace f1 := f1.trans (md_mk (c := 17167) (c' := 17173) rfl)
  subst f1
  replace e1 := e1.trans (hd_sz (K := 7) rfl)
  subst e1
  refine ⟨_, hd_at, Nat.le_of_ble_eq_true rfl, fun h2 f1 => ?_⟩
  replace f1 := f1.trans hd_set
  change h2 = seg h o (.inr (12, [.ref (o + 1), .ref (o + 2), .ref (o + 3), .ref (o + 4), .int 0, .ref (o + 5), .int 0, .int 0, .int 0, .int 0, .int 0, .int 0, .int 0, .int 0, .int 0, .int (-1), .int 0, .int 0, .int 0, .ref (o + 6), .ref (o + 7), .null, .null, .int 0, .int 0, .null, .int 0, .int 0, .null, .null, .int 0, .int 0, .int 0, .null, .null, .null, .null, .null]) :: [zrow 3240, zrow 3240, zrow 9720, .inl (2, (3, .inl (fun _ => 0))), zrow 900, zrow 64, zrow 6]) (s + 17173) at f1
  subst f1
  refine ⟨7, rfl, by decide, rm_ok (c := 17173) r1 r2 (K := 8) rfl (by decide) (Nat.le_of_ble_eq_true rfl), fun q h2 e1 f1 => ?_⟩
  replace f1 := f1.trans (md_mk (c := 17173) (c' := 17180) rfl)
  subst f1
  replace e1 := e1.trans (hd_sz (K := 8) rfl)
  subst e1
  refine ⟨_, hd_at, Nat.le_of_ble_eq_true rfl, fun h2 f1 => ?_⟩
  replace f1 := f1.trans hd_set
  change h2 = seg h o (.inr (12, [.ref (o + 1), .ref (o + 2), .ref (o + 3), .ref (o + 4), .int 0, .ref (o + 5), .int 0, .int 0, .int 0, .int 0, .int 0, .int 0, .int 0, .int 0, .int 0, .int (-1), .int 0, .int 0, .int 0, .ref (o + 6), .ref (o + 7), .ref (o + 8), .null, .int 0, .int 0, .null, .int 0, .int 0, .null, .null, .int 0, .int 0, .int 0, .null, .null, .null, .null, .null]) :: [zrow 3240, zrow 3240, zrow 9720, .inl (2, (3, .inl (fun _ => 0))), zrow 900, zrow 64, zrow 6, zrow 7]) (s + 17180) at f1
  subst f1
  refine ⟨7, rfl, by decide, rm_ok (c := 17180) r1 r2 (K := 9) rfl (by decide) (Nat.le_of_ble_eq_true rfl), fun q h2 e1 f1 => ?_⟩
  replace f1 := f1.trans (md_mk (c := 17180) (c' := 17187) rfl)
  subst f1
  replace e1 := e1.trans (hd_sz (K := 9) rfl)
  subst e1
  refine ⟨_, hd_at, Nat.le_of_ble_eq_true rfl, fun h2 f1 => ?_⟩
  replace f1 := f1.trans hd_set
  change h2 = seg h o (.inr (12, [.ref (o + 1), .ref (o + 2), .ref (o + 3), .ref (o + 4), .int 0, .ref (o + 5), .int 0, .int 0, .int 0, .int 0, .int 0, .int 0, .int 0, .int 0, .int 0, .int (-1), .int 0, .int 0, .int 0, .ref (o + 6), .ref (o + 7), .ref (o + 8), .ref (o + 9), .int 0, .int 0, .null, .int 0, .int 0, .null, .null, .int 0, .int 0, .int 0, .null, .null, .null, .null, .null]) :: [zrow 3240, zrow 3240, zrow 9720, .inl (2, (3, .inl (fun _ => 0))), zrow 900, zrow 64, zrow 6, zrow 7, zrow 7]) (s + 17187) at f1
  subst f1
  refine ⟨44, rfl, by decide, rm_ok (c := 17187) r1 r2 (K := 10) rfl (by decide) (Nat.le_of_ble_eq_true rfl), fun q h2 e1 f1 => ?_⟩
  replace f1 := f1.trans (md_mk (c := 17187) (c' := 17231) rfl)
  subst f1
  replace e1 := e1.trans (hd_sz (K := 10) rfl)
  subst e1
  refine ⟨_, hd_at, Nat.le_of_ble_eq_true rfl, fun h2 f1 => ?_⟩
  replace f1 := f1.trans hd_set
  change h2 = seg h o (.inr (12, [.ref (o + 1), .ref (o + 2), .ref (o + 3), .ref (o + 4), .int 0, .ref (o + 5), .int 0, .int 0, .int 0, .int 0, .int 0, .int 0, .int 0, .int 0, .int 0, .int (-1), .int 0, .int 0, .int 0, .ref (o + 6), .ref (o + 7), .ref (o + 8), .ref (o + 9), .int 0, .int 0, .ref (o + 10), .int 0, .int 0, .null, .null, .int 0, .int 0, .int 0, .null, .null, .null, .null, .null]) :: [zrow 3240, zrow 3240, zrow 9720, .inl (2, (3, .inl (fun _ => 0))), zrow 900, zrow 64, zrow 6, zrow 7, zrow 7, zrow 44]) (s + 17231) at f1
  subst f1
  refine ⟨7, rfl, by decide, rm_ok (c := 17231) r1 r2 (K := 11) rfl (by decide) (Nat.le_of_ble_eq_true rfl), fun q h2 e1 f1 => ?_⟩
  replace f1 := f1.trans (md_mk (c := 17231) (c' := 17238) rfl)
  subst f1
  replace e1 := e1.trans (hd_sz (K := 11) rfl)
  subst e1
  refine ⟨_, hd_at, Nat.le_of_ble_eq_true rfl, fun h2 f1 => ?_⟩
  replace f1 := f1.trans hd_set
  change h2 = seg h o (.inr (12, [.ref (o + 1), .ref (o + 2), .ref (o + 3), .ref (o + 4), .int 0, .ref (o + 5), .int 0, .int 0, .int 0, .int 0, .int 0, .int 0, .int 0, .int 0, .int 0, .int (-1), .int 0, .int 0, .int 0, .ref (o + 6), .ref (o + 7), .ref (o + 8), .ref (o + 9), .int 0, .int 0, .ref (o + 10), .int 0, .int 0, .ref (o + 11), .null, .int 0, .int 0, .int 0, .null, .null, .null, .null, .null]) :: [zrow 3240, zrow 3240, zrow 9720, .inl (2, (3, .inl (fun _ => 0))), zrow 900, zrow 64, zrow 6, zrow 7, zrow 7, zrow 44, zrow 7]) (s + 17238) at f1
  subst f1
  refine ⟨7, rfl, by decide, rm_ok (c := 17238) r1 r2 (K := 12) rfl (by decide) (Nat.le_of_ble_eq_true rfl), fun q h2 e1 f1 => ?_⟩
  replace f1 := f1.trans (md_mk (c := 17238) (c' := 17245) rfl)
  subst f1
  replace e1 := e1.trans (hd_sz (K := 12) rfl)
  subst e1
  refine ⟨_, hd_at, Nat.le_of_ble_eq_true rfl, fun h2 f1 => ?_⟩
  replace f1 := f1.trans hd_set
  change h2 = seg h o (.inr (12, [.ref (o + 1), .ref (o + 2), .ref (o + 3), .ref (o + 4), .int 0, .ref (o + 5), .int 0, .int 0, .int 0, .int 0, .int 0, .int 0, .int 0, .int 0, .int 0, .int (-1), .int 0, .int 0, .int 0, .ref (o + 6), .ref (o + 7), .ref (o + 8), .ref (o + 9), .int 0, .int 0, .ref (o + 10), .int 0, .int 0, .ref (o + 11), .ref (o + 12), .int 0, .int 0, .int 0, .null, .null, .null, .null, .null]) :: [zrow 3240, zrow 3240, zrow 9720, .inl (2, (3, .inl (fun _ => 0))), zrow 900, zrow 64, zrow 6, zrow 7, zrow 7, zrow 44, zrow 7, zrow 7]) (s + 17245) at f1
  subst f1
  refine ⟨693, rfl, by decide, rm_ok (c := 17245) r1 r2 (K := 13) rfl (by decide) (Nat.le_of_ble_eq_true rfl), fun q h2 e1 f1 => ?_⟩
  replace f1 := f1.trans (md_mk (c := 17245) (c' := 17938) rfl)
  subst f1
  replace e1 := e1.trans (hd_sz (K := 13) rfl)
  subst e1
  refine ⟨_, hd_at, Nat.le_of_ble_eq_true rfl, fun h2 f1 => ?_⟩
  replace f1 := f1.trans hd_set
  change h2 = seg h o (.inr (12, [.ref (o + 1), .ref (o + 2), .ref (o + 3), .ref (o + 4), .int 0, .ref (o + 5), .int 0, .int 0, .int 0, .int 0, .int 0, .int 0, .int 0, .int 0, .int 0, .int (-1), .int 0, .int 0, .int 0, .ref (o + 6), .ref (o + 7), .ref (o + 8), .ref (o + 9), .int 0, .int 0, .ref (o + 10), .int 0, .int 0, .ref (o + 11), .ref (o + 12), .int 0, .int 0, .int 0, .ref (o + 13), .null, .null, .null, .null]) :: [zrow 3240, zrow 3240, zrow 9720, .inl (2, (3, .inl (fun _ => 0))), zrow 900, zrow 64, zrow 6, zrow 7, zrow 7, zrow 44, zrow 7, zrow 7, zrow 693]) (s + 17938) at f1
  subst f1
  refine ⟨4851, rfl, by decide, rm_ok (c := 17938) r1 r2 (K := 14) rfl (by decide) (Nat.le_of_ble_eq_true rfl), fun q h2 e1 f1 => ?_⟩
  replace f1 := f1.trans (md_mk (c := 17938) (c' := 22789) rfl)
  subst f1
  replace e1 := e1.trans (hd_sz (K := 14) rfl)
  subst e1
  refine ⟨_, hd_at, Nat.le_of_ble_eq_true rfl, fun h2 f1 => ?_⟩
  replace f1 := f1.trans hd_set
  change h2 = seg h o (.inr (12, [.ref (o + 1), .ref (o + 2), .ref (o + 3), .ref (o + 4), .int 0, .ref (o + 5), .int 0, .int 0, .int 0, .int 0, .int 0, .int 0, .int 0, .int 0, .int 0, .int (-1), .int 0, .int 0, .int 0, .ref (o + 6), .ref (o + 7), .ref (o + 8), .ref (o + 9), .int 0, .int 0, .ref (o + 10), .int 0, .int 0, .ref (o + 11), .ref (o + 12), .int 0, .int 0, .int 0, .ref (o + 13), .ref (o + 14), .null, .null, .null]) :: [zrow 3240, zrow 3240, zrow 9720, .inl (2, (3, .inl (fun _ => 0))), zrow 900, zrow 64, zrow 6, zrow 7, zrow 7, zrow 44, zrow 7, zrow 7, zrow 693, zrow 4851]) (s + 22789) at f1
  subst f1
  refine ⟨4, rfl, by decide, rm_ok (c := 22789) r1 r2 (K := 15) rfl (by decide) (Nat.le_of_ble_eq_true rfl), fun q h2 e1 f1 => ?_⟩
  replace f1 := f1.trans (md_mk (c := 22789) (c' := 22793) rfl)
  subst f1
  replace e1 := e1.trans (hd_sz (K := 15) rfl)
  subst e1
  refine ⟨_, _, md_at (K := 15) rfl, vp_in_nI (n := 0) (N := 4) (by decide) (by decide), fun h2 f1 => ?_⟩
  replace f1 := f1.trans (md_set (K := 15) rfl)
  subst f1
  refine ⟨_, _, md_at (K := 15) rfl, vp_in_nI (n := 1) (N := 4) (by decide) (by decide), fun h2 f1 => ?_⟩
  replace f1 := f1.trans (md_set (K := 15) rfl)
  subst f1
  refine ⟨_, _, md_at (K := 15) rfl, vp_in_nI (n := 2) (N := 4) (by decide) (by decide), fun h2 f1 => ?_⟩
  replace f1 := f1.trans (md_set (K := 15) rfl)
  subst f1
  refine ⟨_, _, md_at (K := 15) rfl, vp_in_nI (n := 3) (N := 4) (by decide) (by decide), fun h2 f1 => ?_⟩
  replace f1 := f1.trans (md_set (K := 15) rfl)
  subst f1
  refine ⟨_, hd_at, Nat.le_of_ble_eq_true rfl, fun h2 f1 => ?_⟩
  replace f1 := f1.trans hd_set
  change h2 = seg h o (.inr (12, [.ref (o + 1), .ref (o + 2), .ref (o + 3), .ref (o + 4), .int 0, .ref (o + 5), .int 0, .int 0, .int 0, .int 0, .int 0, .int 0, .int 0, .int 0, .int 0, .int (-1), .int 0, .int 0, .int 0, .ref (o + 6), .ref (o + 7), .ref (o + 8), .ref (o + 9), .int 0, .int 0, .ref (o + 10), .int 0, .int 0, .ref (o + 11), .ref (o + 12), .int 0, .int 0, .int 0, .ref (o + 13), .ref (o + 14), .ref (o + 15), .null, .null]) :: [zrow 3240, zrow 3240, zrow 9720, .inl (2, (3, .inl (fun _ => 0))), zrow 900, zrow 64, zrow 6, zrow 7, zrow 7, zrow 44, zrow 7, zrow 7, zrow 693, zrow 4851, .inl (0, (4, .inl (upd (upd (upd (upd (fun _ => 0) 0 (-1)) 1 (-1)) 2 (-1)) 3 (-1))))]) (s + 22793) at f1
  subst f1
  refine ⟨4, rfl, by decide, rm_ok (c := 22793) r1 r2 (K := 16) rfl (by decide) (Nat.le_of_ble_eq_true rfl), fun q h2 e1 f1 => ?_⟩
  replace f1 := f1.trans (md_mk (c := 22793) (c' := 22797) rfl)
  subst f1
  replace e1 := e1.trans (hd_sz (K := 16) rfl)
  subst e1
  refine ⟨_, hd_at, Nat.le_of_ble_eq_true rfl, fun h2 f1 => ?_⟩
  replace f1 := f1.trans hd_set
  change h2 = seg h o (.inr (12, [.ref (o + 1), .ref (o + 2), .ref (o + 3), .ref (o + 4), .int 0, .ref (o + 5), .int 0, .int 0, .int 0, .int 0, .int 0, .int 0, .int 0, .int 0, .int 0, .int (-1), .int 0, .int 0, .int 0, .ref (o + 6), .ref (o + 7), .ref (o + 8), .ref (o + 9), .int 0, .int 0, .ref (o + 10), .int 0, .int 0, .ref (o + 11), .ref (o + 12), .int 0, .int 0, .int 0, .ref (o + 13), .ref (o + 14), .ref (o + 15), .ref (o + 16), .null]) :: [zrow 3240, zrow 3240, zrow 9720, .inl (2, (3, .inl (fun _ => 0))), zrow 900, zrow 64, zrow 6, zrow 7, zrow 7, zrow 44, zrow 7, zrow 7, zrow 693, zrow 4851, .inl (0, (4, .inl (upd (upd (upd (upd (fun _ => 0) 0 (-1)) 1 (-1)) 2 (-1)) 3 (-1)))), zrow 4]) (s + 22797) at f1
  subst f1
  refine ⟨120, rfl, by decide, rm_ok (c := 22797) r1 r2 (K := 17) rfl (by decide) (Nat.le_of_ble_eq_true rfl), fun q h2 e1 f1 => ?_⟩
  replace f1 := f1.trans (md_mk (c := 22797) (c' := 22917) rfl)
  subst f1
  replace e1 := e1.trans (hd_sz (K := 17) rfl)
  subst e1
  refine ⟨_, hd_at, Nat.le_of_ble_eq_true rfl, fun h2 f1 => ?_⟩
  replace f1 := f1.trans hd_set
  change h2 = seg h o (.inr (12, [.ref (o + 1), .ref (o + 2), .ref (o + 3), .ref (o + 4), .int 0, .ref (o + 5), .int 0, .int 0, .int 0, .int 0, .int 0, .int 0, .int 0, .int 0, .int 0, .int (-1), .int 0, .int 0, .int 0, .ref (o + 6), .ref (o + 7), .ref (o + 8), .ref (o + 9), .int 0, .int 0, .ref (o + 10), .int 0, .int 0, .ref (o + 11), .ref (o + 12), .int 0, .int 0, .int 0, .ref (o + 13), .ref (o + 14), .ref (o + 15), .ref (o + 16), .ref (o + 17)]) :: [zrow 3240, zrow 3240, zrow 9720, .inl (2, (3, .inl (fun _ => 0))), zrow 900, zrow 64, zrow 6, zrow 7, zrow 7, zrow 44, zrow 7, zrow 7, zrow 693, zrow 4851, .inl (0, (4, .inl (upd (upd (upd (upd (fun _ => 0) 0 (-1)) 1 (-1)) 2 (-1)) 3 (-1)))), zrow 4, zlrow 120]) (s + 22917) at f1
  subst f1
  refine ⟨_, hd_at, _, rfl, _, _, md_at (K := 1) (M := []) rfl, vp_in_nI (n := 3) (N := 3240) (by decide) (by decide), fun h2 f1 => ?_⟩
  replace f1 := f1.trans (md_set (K := 1) (M := []) rfl)
  rw [f1]
  rfl
end MIN
