/-! The class's world at its beginning -/
def flat : Rg → List va_E
  | [] => []
  | x :: L => (List.range x.1).map x.2 ++ flat L
theorem flat_at : ∀ (L : Rg) (j : Nat), j < (flat L).length → (flat L)[j]? = some (pick L j) := by
  intro L
  induction L with
  | nil => intro j h; exact absurd h (Nat.not_lt_zero j)
  | cons x L ih =>
    intro j h
    have hl : ((List.range x.1).map x.2).length = x.1 := by simp
    show ((List.range x.1).map x.2 ++ flat L)[j]? = some (if j < x.1 then x.2 j else pick L (j - x.1))
    have h' : j < ((List.range x.1).map x.2 ++ flat L).length := h
    rw [List.length_append, hl] at h'
    by_cases hj : j < x.1
    · rw [if_pos hj, List.getElem?_append_left (by omega), List.getElem?_map, List.getElem?_range hj]
      rfl
    · rw [if_neg hj, List.getElem?_append_right (by omega), hl]
      exact ih _ (by omega)
def σ0 : St := (fun _ => 0, fun _ _ => 0)
def ξ0 : Hs := (0, fun i => i, fun _ => σ0)
def T0 (g : jG) : Td := ((0, 0, 100), (g.2.2.2.2.2.2, g.2.2.2.2.2.2, g.2.2.2.2.2.2), (none, none, none))
def ω0 (g : jG) (o : Nat) : CW := (fun _ => 0, fun i => if i = 2 then -1 else 0, (fun _ => 0, o + 11, fun _ => 0), (0, fun _ _ => 0), (o + 2, T0 g, σ0), σ0, ξ0, fun _ => (none, σ0, ξ0), fun _ => (0, -1, fun _ => 0), (fun _ => 0, fun _ _ => 0, fun _ _ => 0, o + 368), σ0, (fun _ => 0, none, fun _ => 0, fun _ => 0, σ0), (0, fun _ => 0, fun _ _ => 0))
section BEG
variable {g : jG} {b : Nat}
theorem reg_told : (List.range 8).map (tcells g b) = layTold g b := rfl
theorem reg_st : (List.range 7).map (scell b σ0) = laySt b := rfl
theorem reg_tok : (List.range 4).map (zcell b (0, fun _ _ => 0)) = layTok b := rfl
theorem reg_tray : (List.range 2).map (ycl b (0, -1, fun _ => 0)) = layTray b := rfl
theorem reg_ord : (List.range 10).map (ocell b (fun _ => 0, none, fun _ => 0, fun _ => 0, σ0)) = layOrd b := rfl
theorem reg_doors : (List.range 10).map (dcell b (0, fun _ => 0, fun _ _ => 0)) = layDoors b := rfl
theorem reg_k {t : Nat} (ht : t = b + 15) : (List.range 8).map (kcell b (fun _ => 0, fun _ _ => 0, fun _ _ => 0, t)) = [.inr (0, [.ref (b + 1), .int 0, .int 0, .ref (b + 2), .ref (b + 3), .ref (b + 4), .ref (b + 5), .ref (b + 8), .ref (b + 15)]), zrow 7, zlrow 7, zlrow 7, zrow 7] ++ laySca (b + 5) := by subst ht; rfl
theorem reg_hist : (List.range 72).map (hcell b ξ0) = layHist b := by
  have h10 : ∀ k, k < 10 → (List.range 7).map (fun j => hcell b ξ0 (2 + 7 * k + j)) = laySt (b + (2 + 7 * k)) := by
    intro k hk
    rw [← reg_st]
    refine List.map_congr_left (fun j hj => ?_)
    have hj7 := List.mem_range.mp hj
    unfold hcell
    rw [if_neg (by omega), if_neg (by omega), show (2 + 7 * k + j - 2) / 7 = k from by omega, show (2 + 7 * k + j - 2) % 7 = j from by omega]
    rfl
  have sp : ∀ (n : Nat) (f : Nat → va_E), (List.range (n + 7)).map f = (List.range n).map f ++ (List.range 7).map (fun j => f (n + j)) := by
    intro n f
    rw [List.range_add, List.map_append, List.map_map]
    rfl
  have st : ∀ k, k ≤ 10 → (List.range (2 + 7 * k)).map (hcell b ξ0) = hobj b 0 :: zrefs b 10 :: laySts b k := by
    intro k
    induction k with
    | zero => intro _; rfl
    | succ k ih =>
      intro hk
      rw [show 2 + 7 * (k + 1) = 2 + 7 * k + 7 from by omega, sp, ih (by omega), h10 k (by omega)]
      rfl
  exact st 10 (Nat.le_refl _)
theorem flat_cons {n : Nat} {c : Nat → va_E} {L : Rg} : flat ((n, c) :: L) = (List.range n).map c ++ flat L := rfl
theorem flat_nil : flat [] = [] := rfl
theorem reg_1 {e : va_E} : (List.range 1).map (fun _ => e) = [e] := rfl
set_option maxRecDepth 20000 in
theorem last_flat {o : Nat} : lastL g o ((bodyL g o ++ gimg o 3 :: imgs o 3) ++ yrow2 o 4 :: trsL o 4) = flat (regs g o (ω0 g o)) := by
  have e : regs g o (ω0 g o) = [(1, fun _ => wobj o (ω0 g o)), (1, fun _ => .inl (1, (900, .inl (fun _ => 0)))), (8, tcells g (o + 2)), (1, fun _ => vobj (o + 10) (fun _ => 0, o + 11, fun _ => 0)), (8, tcells g (o + 11)), (4, zcell (o + 19) (0, fun _ _ => 0)), (1, fun _ => rowL 900 (fun _ => 0)), (7, scell (o + 24) σ0), (72, hcell (o + 31) ξ0), (1, fun _ => grefs o),
    (1, fun _ => gobj (o + 104) none), (7, scell (o + 105) σ0), (72, hcell (o + 112) ξ0), (1, fun _ => gobj (o + 184) none), (7, scell (o + 185) σ0), (72, hcell (o + 192) ξ0), (1, fun _ => gobj (o + 264) none), (7, scell (o + 265) σ0), (72, hcell (o + 272) ξ0),
    (1, fun _ => yrefs o), (2, ycl (o + 345) (0, -1, fun _ => 0)), (2, ycl (o + 347) (0, -1, fun _ => 0)), (2, ycl (o + 349) (0, -1, fun _ => 0)), (2, ycl (o + 351) (0, -1, fun _ => 0)), (8, kcell (o + 353) (fun _ => 0, fun _ _ => 0, fun _ _ => 0, o + 368)), (7, scell (o + 361) σ0), (8, tcells g (o + 368)), (10, ocell (o + 376) (fun _ => 0, none, fun _ => 0, fun _ => 0, σ0)), (10, dcell (o + 386) (0, fun _ => 0, fun _ _ => 0))] := rfl
  rw [e]
  simp only [flat_cons, flat_nil, reg_1, reg_told, reg_st, reg_tok, reg_tray, reg_ord, reg_doors, reg_hist, reg_k (show o + 368 = o + 353 + 15 from rfl), lastL, bodyL, imgs, trsL, layImg, layTel, layCrs, List.append_assoc, List.cons_append, List.nil_append, List.append_nil]
  rfl
theorem cw_begin {o s : Nat} {h : jH} : seg h o (lastL g o ((bodyL g o ++ gimg o 3 :: imgs o 3) ++ yrow2 o 4 :: trsL o 4)) s = cw g (h.1, o + 396, h.2.2 + s) o (ω0 g o) := by
  rw [last_flat]
  have hl : (flat (regs g o (ω0 g o))).length = 396 := by
    rw [← last_flat]
    simp only [lastL, bodyL, List.length_append, List.length_cons, List.length_nil, imgs_len, trsL_len, layTold_len, layTel_len, laySt_len, layHist_len, layCrs_len, layOrd_len, layDoors_len]
  refine Prod.ext (funext fun q => ?_) (Prod.ext ?_ rfl)
  · show (if o ≤ q ∧ q < o + (flat (regs g o (ω0 g o))).length then (flat (regs g o (ω0 g o)))[q - o]? else h.1 q) = (if o ≤ q ∧ q < o + 396 then some (pick (regs g o (ω0 g o)) (q - o)) else h.1 q)
    rw [hl]
    by_cases hq : o ≤ q ∧ q < o + 396
    · rw [if_pos hq, if_pos hq]
      exact flat_at _ _ (by omega)
    · rw [if_neg hq, if_neg hq]
  · show o + (flat (regs g o (ω0 g o))).length = o + 396
    rw [hl]
/-- a new object -/
theorem w_new {d : Nat} {h : jH} (R : h.2.1 + 396 ≤ jB0 g + 601024 ∧ h.2.2 + 14014 ≤ 7293034) : Con g mX11_init (d + 4) [.ref h.2.1] (jnew h obj0 14) (jPv (fun h' => h' = cw g (h.1, h.2.1 + 396, h.2.2 + 12932) h.2.1 (ω0 g h.2.1)) no2) := by
  rw [jnew_seg]
  refine (c_init11 (s := 14) ⟨R.1, by omega⟩).pv (fun h' e => ?_) (fun E h' f => f)
  rw [e, cw_begin]
end BEG
