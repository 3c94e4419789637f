/-! COURSE at c (ahead, a street of its own, at c + 8); ints 0 paidNow, 1 ruinedNow; rows 0 came, 1 left, 2 words, 3 pile; longs 0 burdens, 1 kept; and the address of told. -/
abbrev Ks : Type := (Nat → Int32) × (Nat → Nat → Int32) × (Nat → Nat → Int64) × Nat
def lrow (f : Nat → Int64) : va_E := .inl (3, (7, .inr (.inl f)))
def kobj (c : Nat) (κ : Ks) : va_E := .inr (0, [.ref (c + 1), .int (κ.1 0), .int (κ.1 1), .ref (c + 2), .ref (c + 3), .ref (c + 4), .ref (c + 5), .ref (c + 8), .ref κ.2.2.2])
def kcell (c : Nat) (κ : Ks) (j : Nat) : va_E :=
  if j = 0 then kobj c κ else if j = 1 then srow (κ.2.1 0) else if j = 2 then lrow (κ.2.2.1 0) else if j = 3 then lrow (κ.2.2.1 1) else if j = 4 then srow (κ.2.1 1)
  else if j = 5 then .inr (5, [.ref (c + 6), .ref (c + 7)]) else if j = 6 then srow (κ.2.1 2) else .inl (0, (64, .inl (κ.2.1 3)))
def kput (h : jH) (c : Nat) (κ : Ks) : jH := ov h c 8 (kcell c κ)
def kI (κ : Ks) (k : Nat) (v : Int32) : Ks := (fun i => if i = k then v else κ.1 i, κ.2)
def kR (κ : Ks) (k : Nat) (f : Nat → Int32) : Ks := (κ.1, fun i => if i = k then f else κ.2.1 i, κ.2.2)
def kL (κ : Ks) (k : Nat) (f : Nat → Int64) : Ks := (κ.1, κ.2.1, fun i => if i = k then f else κ.2.2.1 i, κ.2.2.2)
def kT (κ : Ks) (t : Nat) : Ks := (κ.1, κ.2.1, κ.2.2.1, t)
/-- the same but for what is only for a while: words, pile -/
def ksim (κ κ' : Ks) : Prop := κ'.1 = κ.1 ∧ κ'.2.1 0 = κ.2.1 0 ∧ κ'.2.1 1 = κ.2.1 1 ∧ κ'.2.2 = κ.2.2
/-- .. and left -/
def kgar (κ κ' : Ks) : Prop := κ'.1 = κ.1 ∧ κ'.2.1 0 = κ.2.1 0 ∧ κ'.2.2 = κ.2.2
theorem ksim_rf (κ : Ks) : ksim κ κ := ⟨rfl, rfl, rfl, rfl⟩
theorem ksim.tr {κ κ' κ2 : Ks} (a : ksim κ κ') (b : ksim κ' κ2) : ksim κ κ2 := ⟨b.1.trans a.1, b.2.1.trans a.2.1, b.2.2.1.trans a.2.2.1, b.2.2.2.trans a.2.2.2⟩
theorem ksim.gar {κ κ' : Ks} (a : ksim κ κ') : kgar κ κ' := ⟨a.1, a.2.1, a.2.2.2⟩
theorem kgar_rf (κ : Ks) : kgar κ κ := ⟨rfl, rfl, rfl⟩
theorem kgar.tr {κ κ' κ2 : Ks} (a : kgar κ κ') (b : kgar κ' κ2) : kgar κ κ2 := ⟨b.1.trans a.1, b.2.1.trans a.2.1, b.2.2.trans a.2.2⟩
theorem ksim_R {κ κ' : Ks} (a : ksim κ κ') {k : Nat} (hk : 1 < k) (f : Nat → Int32) : ksim κ (kR κ' k f) := ⟨a.1, by simp only [kR, show ¬ 0 = k from by omega, if_false]; exact a.2.1, by simp only [kR, show ¬ 1 = k from by omega, if_false]; exact a.2.2.1, a.2.2.2⟩
/-- a street at s and a course at c, over a heap -/
def wk (h : jH) (s c : Nat) (σ : St) (κ : Ks) : jH := kput (sput h s σ) c κ
def apart (s n c m : Nat) : Prop := s + n ≤ c ∨ c + m ≤ s
section WW
variable {h : jH} {s c : Nat} {σ τ : St} {κ κ' : Ks}
theorem wk_2 : (wk h s c σ κ).2 = h.2 := rfl
theorem wk_k {j : Nat} (hj : j < 8) : (wk h s c σ κ).1 (c + j) = some (kcell c κ j) := ov_at _ _ _ _ hj
theorem wk_k0 : (wk h s c σ κ).1 c = some (kobj c κ) := wk_k (j := 0) (by decide)
theorem wk_out {q : Nat} (h1 : ¬ (s ≤ q ∧ q < s + 7)) (h2 : ¬ (c ≤ q ∧ q < c + 8)) : (wk h s c σ κ).1 q = h.1 q := (ov_out h2).trans (sput_out h1)
theorem wk_S (hd : apart s 7 c 8) : SAt (wk h s c σ κ) s σ := (sput_SAt h s σ).of (fun q h1 h2 => ov_out (by unfold apart at hd; omega))
theorem wk_sput (hd : apart s 7 c 8) : sput (wk h s c σ κ) s τ = wk h s c τ κ := by
  unfold wk kput
  rw [← sput_sput h s σ τ]
  exact ov_comm (h := sput h s σ) (b := c) (n := 8) (c := s) (m := 7) (A := kcell c κ) (B := scell s τ) (by unfold apart at hd; omega)
theorem wk_setR (hd : apart s 7 c 8) {k : Nat} (hk : k < 6) (f : Nat → Int32) : jset (wk h s c σ κ) (s + (k + 1)) (.inl (0, (7, .inl f))) = wk h s c (setR σ k f) κ := by
  rw [← wk_sput hd (σ := σ) (τ := σ), sput_row _ _ k hk, wk_sput hd]
theorem wk_setI (hd : apart s 7 c 8) {k : Nat} (hk : k < 3) (v : Int32) : jset (wk h s c σ κ) s (.inr (6, [.int (σ.1 0), .int (σ.1 1), .int (σ.1 2), .ref (s + 1), .ref (s + 2), .ref (s + 3), .ref (s + 4), .ref (s + 5), .ref (s + 6)].set k (.int v))) = wk h s c (setI σ k v) κ := by
  rw [← wk_sput hd (σ := σ) (τ := σ), sput_int _ _ k hk, wk_sput hd]
theorem wk_kset {j : Nat} (hj : j < 8) {e : va_E} (he : ∀ i, i < 8 → (if i = j then e else kcell c κ i) = kcell c κ' i) : jset (wk h s c σ κ) (c + j) e = wk h s c σ κ' := by
  unfold wk kput
  rw [ov_set _ _ _ _ hj]
  exact ov_congr he
theorem le8 {P : Nat → Prop} (h0 : P 0) (h1 : P 1) (h2 : P 2) (h3 : P 3) (h4 : P 4) (h5 : P 5) (h6 : P 6) (h7 : P 7) : ∀ i, i < 8 → P i := by
  intro i hi
  rcases (by omega : i = 0 ∨ i = 1 ∨ i = 2 ∨ i = 3 ∨ i = 4 ∨ i = 5 ∨ i = 6 ∨ i = 7) with rfl | rfl | rfl | rfl | rfl | rfl | rfl | rfl <;> assumption
theorem wk_came (f : Nat → Int32) : jset (wk h s c σ κ) (c + 1) (.inl (0, (7, .inl f))) = wk h s c σ (kR κ 0 f) := wk_kset (j := 1) (by decide) (le8 rfl rfl rfl rfl rfl rfl rfl rfl)
theorem wk_left (f : Nat → Int32) : jset (wk h s c σ κ) (c + 4) (.inl (0, (7, .inl f))) = wk h s c σ (kR κ 1 f) := wk_kset (j := 4) (by decide) (le8 rfl rfl rfl rfl rfl rfl rfl rfl)
theorem wk_words (f : Nat → Int32) : jset (wk h s c σ κ) (c + 6) (.inl (0, (7, .inl f))) = wk h s c σ (kR κ 2 f) := wk_kset (j := 6) (by decide) (le8 rfl rfl rfl rfl rfl rfl rfl rfl)
theorem wk_pile (f : Nat → Int32) : jset (wk h s c σ κ) (c + 7) (.inl (0, (64, .inl f))) = wk h s c σ (kR κ 3 f) := wk_kset (j := 7) (by decide) (le8 rfl rfl rfl rfl rfl rfl rfl rfl)
theorem wk_burd (f : Nat → Int64) : jset (wk h s c σ κ) (c + 2) (.inl (3, (7, .inr (.inl f)))) = wk h s c σ (kL κ 0 f) := wk_kset (j := 2) (by decide) (le8 rfl rfl rfl rfl rfl rfl rfl rfl)
theorem wk_kept (f : Nat → Int64) : jset (wk h s c σ κ) (c + 3) (.inl (3, (7, .inr (.inl f)))) = wk h s c σ (kL κ 1 f) := wk_kset (j := 3) (by decide) (le8 rfl rfl rfl rfl rfl rfl rfl rfl)
theorem wk_paid (v : Int32) : jset (wk h s c σ κ) c (.inr (0, [.ref (c + 1), .int (κ.1 0), .int (κ.1 1), .ref (c + 2), .ref (c + 3), .ref (c + 4), .ref (c + 5), .ref (c + 8), .ref κ.2.2.2].set 1 (.int v))) = wk h s c σ (kI κ 0 v) := wk_kset (j := 0) (by decide) (le8 rfl rfl rfl rfl rfl rfl rfl rfl)
theorem wk_ruined (v : Int32) : jset (wk h s c σ κ) c (.inr (0, [.ref (c + 1), .int (κ.1 0), .int (κ.1 1), .ref (c + 2), .ref (c + 3), .ref (c + 4), .ref (c + 5), .ref (c + 8), .ref κ.2.2.2].set 2 (.int v))) = wk h s c σ (kI κ 1 v) := wk_kset (j := 0) (by decide) (le8 rfl rfl rfl rfl rfl rfl rfl rfl)
theorem wk_told (t : Nat) : jset (wk h s c σ κ) c (.inr (0, [.ref (c + 1), .int (κ.1 0), .int (κ.1 1), .ref (c + 2), .ref (c + 3), .ref (c + 4), .ref (c + 5), .ref (c + 8), .ref κ.2.2.2].set 8 (.ref t))) = wk h s c σ (kT κ t) := wk_kset (j := 0) (by decide) (le8 rfl rfl rfl rfl rfl rfl rfl rfl)
end WW
/-! TOLD: ring, lines, limit; the addresses of the three laws; the laws as functions of the words -/
abbrev Law : Type := Option ((Nat → Int32) → Int32)
abbrev Td : Type := (Int32 × Int32 × Int32) × (Nat × Nat × Nat) × (Law × Law × Law)
def dom (k j : Nat) : Bool := if k = 0 then decide (j < 6) else if k = 1 then decide (j < 3) else decide (j < 4 ∨ j = 6)
def mask (k : Nat) (w : Nat → Int32) : Nat → Int32 := fun j => if dom k j = true then w j else 0
def LawAt (h : jH) (p k : Nat) (L : Law) : Prop := match L with
  | none => ∃ (t : Nat) (z : vp_A), h.1 p = some (.inl (t, z)) ∧ (∃ ty : FieldType, jTy t = some ty) ∧ z.1 = 0
  | some f => ∃ code, 0 < code.length ∧ code.length < 2 ^ 30 ∧ h.1 p = some (lcell code) ∧ ∀ w, evC w code [] = some [f (mask k w)]
def tobj (t : Nat) (T : Td) : va_E := .inr (9, [.ref (t + 1), .int T.1.1, .int T.1.2.1, .int T.1.2.2, .ref T.2.1.1, .ref T.2.1.2.1, .ref T.2.1.2.2])
def TAt (h : jH) (t : Nat) (T : Td) : Prop := h.1 t = some (tobj t T) ∧ LawAt h T.2.1.1 0 T.2.2.1 ∧ LawAt h T.2.1.2.1 1 T.2.2.2.1 ∧ LawAt h T.2.1.2.2 2 T.2.2.2.2
theorem LawAt.of {h h' : jH} {p k : Nat} {L : Law} (H : LawAt h p k L) (e : h'.1 p = h.1 p) : LawAt h' p k L := by
  cases L with
  | none =>
    obtain ⟨t, z, h1, h2⟩ := H
    exact ⟨t, z, e.trans h1, h2⟩
  | some f =>
    obtain ⟨code, h0, h1, h2, h3⟩ := H
    exact ⟨code, h0, h1, e.trans h2, h3⟩
/-- none of the told's cells lies there -/
def TFar (t : Nat) (T : Td) (b n : Nat) : Prop := ¬ (b ≤ t ∧ t < b + n) ∧ ¬ (b ≤ T.2.1.1 ∧ T.2.1.1 < b + n) ∧ ¬ (b ≤ T.2.1.2.1 ∧ T.2.1.2.1 < b + n) ∧ ¬ (b ≤ T.2.1.2.2 ∧ T.2.1.2.2 < b + n)
theorem TAt.wk {h : jH} {t s c : Nat} {T : Td} {σ : St} {κ : Ks} (H : TAt h t T) (f1 : TFar t T s 7) (f2 : TFar t T c 8) : TAt (wk h s c σ κ) t T :=
  ⟨(wk_out f1.1 f2.1).trans H.1, H.2.1.of (wk_out f1.2.1 f2.2.1), H.2.2.1.of (wk_out f1.2.2.1 f2.2.2.1), H.2.2.2.of (wk_out f1.2.2.2 f2.2.2.2)⟩
def envP (debt house quarter cash earns spends : Int32) : Nat → Int32 := fun j => if j = 0 then debt else if j = 1 then house else if j = 2 then quarter - quarter / 1000 * 1000 else if j = 3 then cash else if j = 4 then earns else if j = 5 then spends else 0
def envG (debt house quarter : Int32) : Nat → Int32 := fun j => if j = 0 then debt else if j = 1 then house else if j = 2 then quarter - quarter / 1000 * 1000 else 0
def envT (debt house quarter cash own : Int32) : Nat → Int32 := fun j => if j = 0 then debt else if j = 1 then house else if j = 2 then quarter - quarter / 1000 * 1000 else if j = 3 then cash else if j = 6 then own else 0
def pay (T : Td) (σ : St) (i cash debt : Int32) : Int32 := match T.2.2.1 with
  | none => jmin cash debt
  | some f => if jmin cash debt = 0 ∨ sHas σ i = false then jmin cash debt else jmax (jmin (f (envP debt i (σ.1 2) cash (σ.2 0 (ix i)) (σ.2 1 (ix i)))) (jmin cash debt)) 0
def grow (T : Td) (σ : St) (i debt : Int32) : Int32 := match T.2.2.2.1 with
  | none => 0
  | some f => if debt = 0 then 0 else jmax (jmin (f (envG debt i (σ.1 2))) 999) 0
def nxt (T : Td) (i n : Int32) : Int32 := if i + 1 < n then i + 1 else if T.1.1 = 0 then -1 else 0
def take (T : Td) (σ : St) (i debt : Int32) : Bool := match T.2.2.2.2 with
  | none => true
  | some f => if sHas σ (nxt T i (σ.1 0)) = false then true else decide (f (envT debt (nxt T i (σ.1 0)) (σ.1 2) (σ.2 2 (ix (nxt T i (σ.1 0)))) (σ.2 4 (ix (nxt T i (σ.1 0))))) = 1)
theorem wk_Wei {h : jH} {s c p : Nat} {σ : St} {κ : Ks} {code : List Int32} (h1 : ¬ (s ≤ p ∧ p < s + 7)) (h2 : ¬ (c ≤ p ∧ p < c + 8)) (hp : h.1 p = some (lcell code)) : Wei (wk h s c σ κ) (c + 5) p (κ.2.1 2) code :=
  ⟨wk_k (j := 5) (by decide), wk_k (j := 6) (by decide), ⟨_, wk_k (j := 7) (by decide)⟩, (wk_out h1 h2).trans hp, by omega⟩
section CRS
variable {g : jG} {d : Nat} {h : jH} {s c t : Nat} {σ : St} {κ : Ks} {T : Td} {i cash debt : Int32}
theorem c_next {n : Int32} (H : TAt h t T) : Con g mX9_next (d + 1) [.ref t, .int i, .int n] h (jPi (fun r h' => r = nxt T i n ∧ h' = h) no2) := by
  refine con_of km_X9_next.1.2.2.2.2 (Nat.le_of_ble_eq_true rfl) rfl (bX9_next_0 ?_)
  exact ⟨fun c => ⟨by simp [nxt, c], rfl⟩, fun c => ⟨_, H.1, _, rfl, fun c2 => ⟨by simp [nxt, c, c2], rfl⟩, fun c2 => ⟨by simp [nxt, c, c2], rfl⟩⟩⟩
theorem c_putW (hd : apart s 7 c 8) {x1 x2 x3 x4 : Int32} : Con g mX5_put (d + 1) [.ref (c + 5), .int x1, .int x2, .int x3, .int x4] (wk h s c σ κ) (jPv (fun h' => h' = wk h s c σ (kR κ 2 (upd (upd (upd (upd (κ.2.1 2) 0 x1) 1 x2) 2 (x3 - x3 / 1000 * 1000)) 3 x4))) no2) := by
  refine (c_put (b := c + 5) (pa := c + 7) (wk_k (j := 5) (by decide)) (wk_k (j := 6) (by decide))).pv (fun h' q => ?_) (fun E h' f => f)
  rw [q]
  exact wk_words _
theorem c_weighW {p : Nat} {k : Nat} {f : (Nat → Int32) → Int32} (h1 : ¬ (s ≤ p ∧ p < s + 7)) (h2 : ¬ (c ≤ p ∧ p < c + 8)) (H : LawAt h p k (some f)) : Con g mX5_weigh (d + 2) [.ref (c + 5), .ref p] (wk h s c σ κ) (jPi (fun r h' => r = f (mask k (κ.2.1 2)) ∧ ∃ κ', ksim κ κ' ∧ h' = wk h s c σ κ') no2) := by
  obtain ⟨code, k0, k1, k2, k3⟩ := H
  refine (c_weigh (wk_Wei h1 h2 k2) k1 (k3 _)).pi (fun r h' q => ⟨q.1, ?_⟩) (fun E h' f => f)
  obtain ⟨pl, e⟩ := q.2
  exact ⟨_, ksim_R (ksim_rf κ) (k := 3) (by decide) pl, e.trans (wk_pile pl)⟩
theorem c_payment (S : sok σ) (hd : apart s 7 c 8) (H : TAt h t T) (f1 : TFar t T s 7) (f2 : TFar t T c 8) : Con g mX0_payment (d + 3) [.ref c, .ref t, .ref s, .int i, .int cash, .int debt] (wk h s c σ κ) (jPi (fun r h' => r = pay T σ i cash debt ∧ ∃ κ', ksim κ κ' ∧ h' = wk h s c σ κ') no2) := by
  refine con_of km_X0_payment.1.2.2.2.2 (Nat.le_of_ble_eq_true rfl) rfl (bX0_payment_0 ?_)
  have HT := fun κ : Ks => H.wk (σ := σ) (κ := κ) f1 f2
  have HS := fun κ : Ks => wk_S (h := h) (σ := σ) (κ := κ) hd
  cases hL : T.2.2.1 with
  | none =>
    have hl := (HT κ).2.1
    rw [hL] at hl
    obtain ⟨tt, z, e1, e2, e3⟩ := hl
    refine ⟨_, (HT κ).1, _, rfl, _, _, e1, e2, fun _ => ⟨by simp only [pay, hL], κ, ksim_rf κ, rfl⟩, fun q => absurd (by rw [e3]; exact nI_0) q⟩
  | some f =>
    have hl := (HT κ).2.1
    rw [hL] at hl
    obtain ⟨code, k0, k1, k2, k3⟩ := hl
    refine ⟨_, (HT κ).1, _, rfl, _, _, k2, ⟨_, rfl⟩, fun q => absurd q (nI_ne0 k0 (by omega)), fun _ => ⟨fun q => ⟨by simp [pay, hL, q], κ, ksim_rf κ, rfl⟩, fun q => ⟨_, (HS κ).1, (c_has (HS κ) S).pi (fun r h' hr => ?_) (fun E h' f => f.elim)⟩⟩⟩
    obtain ⟨e1, rfl⟩ := hr
    refine ⟨fun c => ⟨by simp [pay, hL, (bI_0 e1).1.mp c], κ, ksim_rf κ, rfl⟩, fun c => ?_⟩
    have b1 := (bI_0 e1).2.mp c
    have v1 := sHas_in S b1
    refine ⟨_, wk_k0, _, rfl, _, (HS κ).1, _, rfl, _, wk_k (j := 5) (by decide), (c_putW hd).pv (fun h' q => ?_) (fun E h' f => f.elim)⟩
    subst q
    refine ⟨_, wk_k0, _, rfl, _, wk_k (j := 5) (by decide), _, rfl, _, (HS _).1, _, rfl, _, _, (HS _).2.1, v1, _, _, wk_k (j := 6) (by decide), vp_in_nI (n := 4) (by decide) (by decide), fun h1 q1 => ?_⟩
    replace q1 := q1.trans (wk_words _)
    subst q1
    refine ⟨_, wk_k0, _, rfl, _, wk_k (j := 5) (by decide), _, rfl, _, (HS _).1, _, rfl, _, _, (HS _).2.2.1, v1, _, _, wk_k (j := 6) (by decide), vp_in_nI (n := 5) (by decide) (by decide), fun h1 q1 => ?_⟩
    replace q1 := q1.trans (wk_words _)
    subst q1
    have hl2 := H.2.1
    rw [hL] at hl2
    refine ⟨_, wk_k0, _, rfl, _, (HT _).1, _, rfl, _, wk_k (j := 5) (by decide), (c_weighW f1.2.1 f2.2.1 hl2).pi (fun r h' hr => ?_) (fun E h' f => f.elim)⟩
    obtain ⟨e2, κ', e3, e4⟩ := hr
    refine ⟨?_, κ', ksim.tr ?_ e3, e4⟩
    · rw [e2]
      simp only [pay, hL]
      rw [if_neg (by simp [q, b1])]
      congr 2
      congr 1
      funext j
      by_cases hj : j < 6
      · rcases (by omega : j = 0 ∨ j = 1 ∨ j = 2 ∨ j = 3 ∨ j = 4 ∨ j = 5) with rfl | rfl | rfl | rfl | rfl | rfl <;> rfl
      · simp [mask, dom, hj, envP, show ¬ j = 0 from by omega, show ¬ j = 1 from by omega, show ¬ j = 2 from by omega, show ¬ j = 3 from by omega, show ¬ j = 4 from by omega, show ¬ j = 5 from by omega]
    · exact ksim_R (ksim_R (ksim_R (ksim_rf κ) (by decide) _) (by decide) _) (by decide) _
theorem c_growth (hd : apart s 7 c 8) (H : TAt h t T) (f1 : TFar t T s 7) (f2 : TFar t T c 8) : Con g mX0_growth (d + 3) [.ref c, .ref t, .ref s, .int i, .int debt] (wk h s c σ κ) (jPi (fun r h' => r = grow T σ i debt ∧ ∃ κ', ksim κ κ' ∧ h' = wk h s c σ κ') no2) := by
  refine con_of km_X0_growth.1.2.2.2.2 (Nat.le_of_ble_eq_true rfl) rfl (bX0_growth_0 ?_)
  have HT := fun κ : Ks => H.wk (σ := σ) (κ := κ) f1 f2
  have HS := fun κ : Ks => wk_S (h := h) (σ := σ) (κ := κ) hd
  cases hL : T.2.2.2.1 with
  | none =>
    have hl := (HT κ).2.2.1
    rw [hL] at hl
    obtain ⟨tt, z, e1, e2, e3⟩ := hl
    refine ⟨_, (HT κ).1, _, rfl, _, _, e1, e2, fun _ => ⟨by simp only [grow, hL], κ, ksim_rf κ, rfl⟩, fun q => absurd (by rw [e3]; exact nI_0) q⟩
  | some f =>
    have hl := (HT κ).2.2.1
    rw [hL] at hl
    obtain ⟨code, k0, k1, k2, k3⟩ := hl
    refine ⟨_, (HT κ).1, _, rfl, _, _, k2, ⟨_, rfl⟩, fun q => absurd q (nI_ne0 k0 (by omega)), fun _ => ⟨fun q => ⟨by simp [grow, hL, q], κ, ksim_rf κ, rfl⟩, fun q => ?_⟩⟩
    refine ⟨_, wk_k0, _, rfl, _, (HS κ).1, _, rfl, _, wk_k (j := 5) (by decide), (c_putW hd).pv (fun h' q => ?_) (fun E h' f => f.elim)⟩
    subst q
    have hl2 := H.2.2.1
    rw [hL] at hl2
    refine ⟨_, wk_k0, _, rfl, _, (HT _).1, _, rfl, _, wk_k (j := 5) (by decide), (c_weighW f1.2.2.1 f2.2.2.1 hl2).pi (fun r h' hr => ?_) (fun E h' f => f.elim)⟩
    obtain ⟨e2, κ', e3, e4⟩ := hr
    refine ⟨?_, κ', ksim.tr (ksim_R (ksim_rf κ) (by decide) _) e3, e4⟩
    rw [e2]
    simp only [grow, hL]
    rw [if_neg q]
    congr 2
    congr 1
    funext j
    by_cases hj : j < 3
    · rcases (by omega : j = 0 ∨ j = 1 ∨ j = 2) with rfl | rfl | rfl <;> rfl
    · simp [mask, dom, hj, envG, show ¬ j = 0 from by omega, show ¬ j = 1 from by omega, show ¬ j = 2 from by omega]
theorem c_taking (S : sok σ) (hd : apart s 7 c 8) (H : TAt h t T) (f1 : TFar t T s 7) (f2 : TFar t T c 8) : Con g mX0_taking (d + 3) [.ref c, .ref t, .ref s, .int i, .int debt] (wk h s c σ κ) (jPi (fun r h' => r = bI (take T σ i debt) ∧ ∃ κ', ksim κ κ' ∧ h' = wk h s c σ κ') no2) := by
  refine con_of km_X0_taking.1.2.2.2.2 (Nat.le_of_ble_eq_true rfl) rfl (bX0_taking_0 ?_)
  have HT := fun κ : Ks => H.wk (σ := σ) (κ := κ) f1 f2
  have HS := fun κ : Ks => wk_S (h := h) (σ := σ) (κ := κ) hd
  refine ⟨_, (HS κ).1, _, rfl, _, (HT κ).1, (c_next (HT κ)).pi (fun r h' hr => ?_) (fun E h' f => f.elim)⟩
  obtain ⟨e0, rfl⟩ := hr
  replace e0 : r = nxt T i (σ.1 0) := e0
  cases hL : T.2.2.2.2 with
  | none =>
    have hl := (HT κ).2.2.2
    rw [hL] at hl
    obtain ⟨tt, z, e1, e2, e3⟩ := hl
    refine ⟨_, (HT κ).1, _, rfl, _, _, e1, e2, fun _ => ⟨by simp only [take, hL]; rfl, κ, ksim_rf κ, rfl⟩, fun q => absurd (by rw [e3]; exact nI_0) q⟩
  | some f =>
    have hl := (HT κ).2.2.2
    rw [hL] at hl
    obtain ⟨code, k0, k1, k2, k3⟩ := hl
    refine ⟨_, (HT κ).1, _, rfl, _, _, k2, ⟨_, rfl⟩, fun q => absurd q (nI_ne0 k0 (by omega)), fun _ => ⟨_, (HS κ).1, (c_has (HS κ) S).pi (fun r2 h' hr => ?_) (fun E h' f => f.elim)⟩⟩
    obtain ⟨e1, rfl⟩ := hr
    rw [e0] at e1
    refine ⟨fun q => ⟨by simp [take, hL, (bI_0 e1).1.mp q, bI], κ, ksim_rf κ, rfl⟩, fun q => ?_⟩
    have b1 := (bI_0 e1).2.mp q
    have v1 := sHas_in S b1
    rw [← e0] at v1
    refine ⟨_, wk_k0, _, rfl, _, (HS κ).1, _, rfl, _, (HS κ).1, _, rfl, _, _, (HS κ).2.2.2.1, v1, _, wk_k (j := 5) (by decide), (c_putW hd).pv (fun h' q => ?_) (fun E h' f => f.elim)⟩
    subst q
    refine ⟨_, wk_k0, _, rfl, _, wk_k (j := 5) (by decide), _, rfl, _, (HS _).1, _, rfl, _, _, (HS _).2.2.2.2.2.1, v1, _, _, wk_k (j := 6) (by decide), vp_in_nI (n := 6) (by decide) (by decide), fun h1 q1 => ?_⟩
    replace q1 := q1.trans (wk_words _)
    subst q1
    have hl2 := H.2.2.2
    rw [hL] at hl2
    refine ⟨_, wk_k0, _, rfl, _, (HT _).1, _, rfl, _, wk_k (j := 5) (by decide), (c_weighW f1.2.2.2 f2.2.2.2 hl2).pi (fun r3 h' hr => ?_) (fun E h' f => f.elim)⟩
    obtain ⟨e2, κ', e3, e4⟩ := hr
    have ek : ksim κ κ' := ksim.tr (ksim_R (ksim_R (ksim_rf κ) (by decide) _) (by decide) _) e3
    have ee : r3 = f (envT debt (nxt T i (σ.1 0)) (σ.1 2) (σ.2 2 (ix (nxt T i (σ.1 0)))) (σ.2 4 (ix (nxt T i (σ.1 0))))) := by
      rw [e2, ← e0]
      congr 1
      funext j
      by_cases hj : j < 7
      · rcases (by omega : j = 0 ∨ j = 1 ∨ j = 2 ∨ j = 3 ∨ j = 4 ∨ j = 5 ∨ j = 6) with rfl | rfl | rfl | rfl | rfl | rfl | rfl <;> rfl
      · simp [mask, dom, envT, show ¬ j < 4 from by omega, show ¬ j = 6 from by omega, show ¬ j = 0 from by omega, show ¬ j = 1 from by omega, show ¬ j = 2 from by omega, show ¬ j = 3 from by omega]
    refine ⟨fun q => ⟨?_, κ', ek, e4⟩, fun q => ⟨?_, κ', ek, e4⟩⟩
    · simp [take, hL, b1, ← ee, q, bI]
    · simp [take, hL, b1, ← ee, q, bI]
end CRS
