/-! The class's methods: hedges, gifts, limits -/
def ruiW (ω : CW) (α : St) (i : Int32) (m : Nat) : Bool := sGone (pasN (tT ω) (tL ω) α (ruI (tT ω) (tL ω) α i m 0)) i
def hdg (f : Nat → Int32) (s : Nat) (v : Int32) (j : Nat) : Nat → Int32 := fun k => if k < j ∧ Nat.testBit s k = true then v else f k
def hdgS (ω : CW) (s : Nat) (v : Int32) (j : Nat) : St := setR (wS ω) 5 (hdg ((wS ω).2 5) s v j)
def hedL (ω : CW) (i : Int32) (n : Nat) : Nat → Nat → Int32 → Int32 → Int32 × Int32
  | 0, _, f, b => (f, b)
  | m + 1, s, f, b => if nI (popN 7 s) < f ∧ ruiW ω (hdgS ω s (nI n) (sN (wS ω))) i n = false then hedL ω i n m (s + 1) (nI (popN 7 s)) (nI s) else hedL ω i n m (s + 1) f b
def hedV (r : Int32 × Int32) (w : Int32) : Int32 := if r.2 = -1 ∨ w = 1 then r.2 else r.1
def fHedges (ω : CW) (i n w : Int32) : An Int32 := if sHas (wS ω) i = false then .inl nse else if inN n 1 20 = false then .inl iae else if inN w 0 1 = false then .inl iae else if sGone (wS ω) i = true then .inl ise else .inr (hedV (hedL ω i (ix n) (2 ^ sN (wS ω)) 0 8 (-1)) w)
def bhgL (ω : CW) (n : Nat) : Nat → Nat → Int32 → Int32 → Int32
  | 0, _, _, b => b
  | m + 1, j, f, b => if losW ω (setR (wS ω) 5 (upd ((wS ω).2 5) j (nI n))) f n < f then bhgL ω n m (j + 1) (losW ω (setR (wS ω) 5 (upd ((wS ω).2 5) j (nI n))) f n) (nI j) else bhgL ω n m (j + 1) f b
def fBestHedge (ω : CW) (n : Int32) : An Int32 := if inN n 1 20 = false then .inl iae else .inr (bhgL ω (ix n) (sN (wS ω)) 0 (lostW ω (ix n)) (-1))
def savL (ω : CW) (i : Int32) (n : Nat) : Nat → Nat → Int32
  | 0, _ => -1
  | m + 1, j => if ruiW ω (setR (wS ω) 2 (upd ((wS ω).2 2) (ix i) (jmin ((wS ω).2 2 (ix i) + nI j) 999999))) i n = false then nI j else savL ω i n m (j + 1)
def fSaves (ω : CW) (i n : Int32) : An Int32 := if sHas (wS ω) i = false then .inl nse else if inN n 1 20 = false then .inl iae else if sGone (wS ω) i = true then .inl ise else .inr (savL ω i (ix n) 1000 0)
def grtI (α : St) : Nat → Nat → Int32 → Int32
  | 0, _, x => x
  | m + 1, j, x => grtI α m (j + 1) (if sGone α (nI j) = true then x else jmax x (α.2 4 j))
def grtO (ω : CW) : Nat → Nat → Int32 → Int32
  | 0, _, x => x
  | m + 1, j, x => grtO ω m (j + 1) (grtI (pasN (tT ω) 999999 (wS ω) (j + 1)) (sN (wS ω)) 0 x)
def fLeast (ω : CW) (n : Int32) : An Int32 := if inN n 1 20 = false then .inl iae else .inr (if 999 < grtO ω (ix n) 0 0 then -1 else grtO ω (ix n) 0 0)
def lwo (ω : CW) (i : Int32) (m : Nat) : Int32 := losW ω (sRuin (wS ω) i) 7 m - (if sGone (pasN (tT ω) (tL ω) (wS ω) (losI (tT ω) (tL ω) (wS ω) 7 m 0)) i = true then losW ω (wS ω) 7 m - 1 else losW ω (wS ω) 7 m)
def fWorth (ω : CW) (i n : Int32) : An Int32 := if sHas (wS ω) i = false then .inl nse else if inN n 1 20 = false then .inl iae else if sGone (wS ω) i = true then .inl ise else .inr (lwo ω i (ix n))
def pilL (ω : CW) (n : Nat) : Nat → Int32
  | 0 => -1
  | m + 1 => if sHas (wS ω) (nI m) = true ∧ sGone (wS ω) (nI m) = false ∧ 0 < lwo ω (nI m) n then nI m else pilL ω n m
def fPillar (ω : CW) (n : Int32) : An Int32 := if inN n 1 20 = false then .inl iae else .inr (pilL ω (ix n) 7)
theorem bit_in : ∀ s, s < 128 → ∀ k, k < 7 → (((nI s >>> (nI k &&& 31)) &&& 1) = 1 ↔ Nat.testBit s k = true) := by decide +kernel
theorem shl_in : ∀ n, n < 8 → ((1 : Int32) <<< ((jmin (nI n) 7) &&& 31)) = nI (2 ^ n) := by decide +kernel
section CM5
variable {g : jG} {d : Nat} {h : jH} {o : Nat} {ω : CW} {α : St} {κ : Ks} {i k n : Int32}
theorem ak_set {r : Nat} (hr : r < 6) (f : Nat → Int32) : jset (cw g h o (ak ω α κ)) (o + 361 + (r + 1)) (.inl (0, (7, .inl f))) = cw g h o (ak ω (setR α r f) κ) := by
  have e : cw g h o (ak ω α κ) = sput (cw g h o (ak ω α κ)) (o + 361) α := (cw_pA (ω := ak ω α κ) α).symm
  rw [e, sput_row _ _ r hr]
  exact cw_pA (ω := ak ω α κ) (setR α r f)
theorem a_lossesX {m : Nat} (S : sok α) (T : toAt (cw g h o ω) o (wT ω)) (hm : m < 2 ^ 31) (ht : κ.2.2.2 = (wT ω).1) : Con g mX0_losses (d + 6) [.ref (o + 353), .int (nI m), .int k] (cw g h o (ak ω α κ)) (jPi (fun r h' => r = losW ω α k m ∧ ∃ κ', kold κ κ' ∧ h' = cw g h o (ak ω (pasN (tT ω) (tL ω) α (losI (tT ω) (tL ω) α k m 0)) κ')) no2) := by
  have T' := T.mv (ω' := ak ω α κ)
  have C := c_losses (g := g) (d := d) (h := cw g h o (ak ω α κ)) (c := o + 353) (κ := κ) (x2 := k) S T'.1 (T'.far (by omega) (by omega)) hm ht
  rw [w_wkA] at C
  exact C.pi (fun r h' ⟨e, κ', e1, e'⟩ => ⟨e, κ', e1, e'.trans w_wkA⟩) (fun E h' f => f)
theorem saved_loop {N s : Nat} (hN : N < 2 ^ 31) (hs7 : s < 128) (S : sok (wS ω)) (T : toAt (cw g h o ω) o (wT ω)) {hs : jH} : ∀ m j κ, κ.2.2.2 = (wT ω).1 → sN (wS ω) = j + m → J g mX11_isSavedBy (d + 7) hs (jPi (fun r h' => r = bI (!ruiW ω (hdgS ω s (nI N) (sN (wS ω))) i N) ∧ ∃ α' κ', h' = cw g h o (ak ω α' κ')) no2) 20 [(0, .ref o), (1, .int (nI s)), (2, .int i), (3, .int (nI N)), (4, .ref (o + 361)), (5, .int (nI j))] [] (cw g h o (ak ω (hdgS ω s (nI N) j) κ)) := by
  have h7 := S.2
  intro m
  induction m with
  | zero =>
    intro j κ ht hj
    have ej : sN (wS ω) = j := by omega
    refine bX11_isSavedBy_20 ⟨_, ak_A.1, _, rfl, fun c => ?_, fun _ => bX11_isSavedBy_62 ⟨_, ak_o, _, rfl, _, ak_k, ?_⟩⟩
    · have c' : nI j < (wS ω).1 0 := c
      rw [S.1] at c'
      exact absurd c' (nI_nlt (by omega) (by omega))
    · refine (a_ruins (ω := ω) (α := hdgS ω s (nI N) j) (κ := κ) (i := i) (sok_like rfl S) T hN ht).pi (fun r h' hr => ?_) (fun E h' f => f.elim)
      obtain ⟨rfl, α', κ', ko, rfl⟩ := hr
      rw [ej]
      refine ⟨fun q => ⟨?_, α', κ', rfl⟩, fun q => ⟨?_, α', κ', rfl⟩⟩
      · rw [show ruiW ω (hdgS ω s (nI N) j) i N = false from (bI_0 rfl).1.mp q]
        rfl
      · rw [show ruiW ω (hdgS ω s (nI N) j) i N = true from (bI_0 rfl).2.mp q]
        rfl
  | succ m ih =>
    intro j κ ht hj
    have hjn : nI j < (hdgS ω s (nI N) j).1 0 := by show nI j < (wS ω).1 0; rw [S.1]; exact nI_lt (by omega) (by omega)
    have hji : vp_in (nI j) 7 := vp_in_nI (by omega) (by decide)
    have hix : ix (nI j) = j := ix_nI (by omega)
    refine bX11_isSavedBy_20 ⟨_, ak_A.1, _, rfl, fun _ => ⟨fun _ => ⟨fun q => ⟨_, ak_A.1, _, rfl, _, _, ak_A.2.2.2.2.2.2, hji, fun h1 q1 => ?_⟩, fun q => ?_⟩, fun c => absurd (nI_lt (a := j) (b := 7) (by omega) (by omega)) c⟩, fun c => absurd hjn c⟩
    · replace q1 := q1.trans (ak_set (r := 5) (by decide) _)
      subst q1
      rw [nI_1]
      have ef : setR (hdgS ω s (nI N) j) 5 (upd ((hdgS ω s (nI N) j).2 5) (ix (nI j)) (nI N)) = hdgS ω s (nI N) (j + 1) := by
        rw [hix]
        unfold hdgS
        rw [setR_setR]
        congr 1
        funext x
        show upd (hdg ((wS ω).2 5) s (nI N) j) j (nI N) x = _
        unfold upd hdg
        have qb := (bit_in s hs7 j (by omega)).mp q
        by_cases hx : x = j
        · subst hx
          rw [if_pos rfl, if_pos ⟨Nat.lt_succ_self _, qb⟩]
        · rw [if_neg hx]
          by_cases hl : x < j ∧ Nat.testBit s x = true
          · rw [if_pos hl, if_pos ⟨by omega, hl.2⟩]
          · rw [if_neg hl, if_neg (fun c => hl ⟨by omega, c.2⟩)]
      rw [show (setR (hdgS ω s (nI N) j) 5 (upd ((hdgS ω s (nI N) j).2 5) (Int32.toNatClampNeg (nI j)) (nI N))) = hdgS ω s (nI N) (j + 1) from ef]
      exact ih (j + 1) κ ht (by omega)
    · rw [nI_1]
      have ef : hdgS ω s (nI N) j = hdgS ω s (nI N) (j + 1) := by
        unfold hdgS
        congr 1
        funext x
        unfold hdg
        by_cases hl : x < j ∧ Nat.testBit s x = true
        · rw [if_pos hl, if_pos ⟨by omega, hl.2⟩]
        · rw [if_neg hl, if_neg]
          rintro ⟨c1, c2⟩
          by_cases hx : x = j
          · subst hx
            exact q ((bit_in s hs7 x (by omega)).mpr c2)
          · exact hl ⟨by omega, c2⟩
      rw [ef]
      exact ih (j + 1) κ ht (by omega)
theorem w_isSavedBy {N s : Nat} (hN : N < 2 ^ 31) (hs7 : s < 128) (S : sok (wS ω)) (T : toAt (cw g h o ω) o (wT ω)) : Con g mX11_isSavedBy (d + 7) [.ref o, .int (nI s), .int i, .int (nI N)] (cw g h o (ak ω α κ)) (jPi (fun r h' => r = bI (!ruiW ω (hdgS ω s (nI N) (sN (wS ω))) i N) ∧ ∃ α' κ', h' = cw g h o (ak ω α' κ')) no2) := by
  refine con_of km_X11_isSavedBy.1.2.2.2.2 (Nat.le_of_ble_eq_true rfl) rfl (bX11_isSavedBy_0 ⟨_, ak_o, _, rfl, _, ak_o, _, rfl, _, ak_o, _, rfl, _, ak_k, ?_⟩)
  refine a_from.pr (fun r h' hr => ?_) (fun E h' f => f.elim)
  obtain ⟨rfl, rfl⟩ := hr
  have e0 : hdgS ω s (nI N) 0 = wS ω := by
    unfold hdgS
    refine Prod.ext rfl (funext fun r => ?_)
    show (if r = 5 then hdg ((wS ω).2 5) s (nI N) 0 else (wS ω).2 r) = (wS ω).2 r
    by_cases hr : r = 5
    · subst hr
      rw [if_pos rfl]
      funext x
      exact if_neg (fun c => absurd c.1 (Nat.not_lt_zero x))
    · rw [if_neg hr]
  have key := saved_loop (g := g) (d := d) (h := h) (o := o) (ω := ω) (i := i) (hs := cw g h o (ak ω α κ)) hN hs7 S T (sN (wS ω)) 0 (kT κ (wT ω).1) rfl (Nat.zero_add _).symm
  rw [e0] at key
  exact key
end CM5
