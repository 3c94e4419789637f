/-! Quarters ahead -/
def pasN (T : Td) (lim : Int32) (α : St) : Nat → St
  | 0 => α
  | i + 1 => pas T lim (pasN T lim α i)
def lostN (T : Td) (lim : Int32) (α : St) (i : Nat) : Int32 := sumN (fun k => pasRuin T lim (pasN T lim α k)) i
/-- where losses stops, m quarters before the end -/
def losI (T : Td) (lim : Int32) (α : St) (enough : Int32) : Nat → Nat → Nat
  | 0, i => i
  | m + 1, i => if enough < lostN T lim α i then i else losI T lim α enough m (i + 1)
def ruI (T : Td) (lim : Int32) (α : St) (x : Int32) : Nat → Nat → Nat
  | 0, i => i
  | m + 1, i => if sGone (pasN T lim α i) x = true then i else ruI T lim α x m (i + 1)
def burN (T : Td) (lim : Int32) (α : St) : Nat → Nat → Int64
  | 0 => fun _ => 0
  | i + 1 => fun x => if x < 7 then burN T lim α i x + (pasCame T (pasN T lim α i) x).toInt64 else burN T lim α i x
theorem pas_1 {T : Td} {lim : Int32} {α : St} : (pas T lim α).1 0 = α.1 0 := rfl
theorem pasN_1 {T : Td} {lim : Int32} {α : St} (i : Nat) : (pasN T lim α i).1 0 = α.1 0 := by
  induction i with
  | zero => rfl
  | succ i ih => exact ih
theorem sok_0 {σ τ : St} (h1 : τ.1 0 = σ.1 0) (S : sok σ) : sok τ := by
  unfold sok sN at *
  rw [h1]
  exact S
/-- burdens, kept and told are the same -/
def kold (κ κ' : Ks) : Prop := κ'.2.2 = κ.2.2
section AHE
variable {g : jG} {d : Nat} {h hs : jH} {c t b : Nat} {α ν : St} {κ : Ks} {T : Td}
theorem ap8 : apart (c + 8) 7 c 8 := Or.inr (Nat.le_refl _)
theorem c_from (H : SAt h b ν) (hb : apart b 7 c 15) : Con g mX0_from (d + 2) [.ref c, .ref t, .ref b] (wk h (c + 8) c α κ) (jPr (fun r h' => r = c + 8 ∧ h' = wk h (c + 8) c ν (kT κ t)) no2) := by
  refine con_of km_X0_from.1.2.2.2.2 (Nat.le_of_ble_eq_true rfl) rfl (bX0_from_0 ⟨_, wk_k0, Nat.le_of_ble_eq_true rfl, fun h1 q1 => ?_⟩)
  replace q1 := q1.trans (wk_told _)
  subst q1
  have H1 : SAt (wk h (c + 8) c α (kT κ t)) b ν := H.of (fun q h1 h2 => wk_out (by unfold apart at hb; omega) (by unfold apart at hb; omega))
  have H2 := wk_S (h := h) (σ := α) (κ := kT κ t) (ap8 (c := c))
  refine ⟨_, wk_k0, _, rfl, _, H2.1, (c_takeOver H1 (by unfold apart at hb; omega) H2).pv (fun h' q => ?_) (fun E h' f => f.elim)⟩
  rw [wk_sput ap8] at q
  subst q
  exact ⟨_, wk_k0, _, rfl, rfl, rfl⟩
theorem losses_loop {x2 : Int32} (S : sok α) (H : TAt h t T) (f : TFar t T c 15) {n : Nat} (hn : n < 2 ^ 31) : ∀ m i κ', n = i + m → κ'.2.2.2 = t → kold κ κ' →
    J g mX0_losses (d + 6) hs (jPi (fun r h' => r = lostN T T.1.2.2 α (losI T T.1.2.2 α x2 m i) ∧ ∃ κ', kold κ κ' ∧ h' = wk h (c + 8) c (pasN T T.1.2.2 α (losI T T.1.2.2 α x2 m i)) κ') no2) 5
      [(0, .ref c), (1, .int (nI n)), (2, .int x2), (3, .int (lostN T T.1.2.2 α i)), (4, .int (nI i))] [] (wk h (c + 8) c (pasN T T.1.2.2 α i) κ') := by
  have f1 : TFar t T (c + 8) 7 := by unfold TFar at *; omega
  have f2 : TFar t T c 8 := by unfold TFar at *; omega
  intro m
  induction m with
  | zero =>
    intro i κ' hi ht hk
    simp only [Nat.add_zero] at hi
    subst hi
    exact bX0_losses_5 ⟨fun q => absurd q (nI_nlt (Nat.le_refl _) hn), fun _ => ⟨rfl, κ', hk, rfl⟩⟩
  | succ m ih =>
    intro i κ' hi ht hk
    refine bX0_losses_5 ⟨fun _ => ⟨fun q => ?_, fun q => ?_⟩, fun q => absurd (nI_lt (by omega) hn) q⟩
    · rw [losI, if_pos q]
      exact ⟨rfl, κ', hk, rfl⟩
    · rw [losI, if_neg q]
      have HT := H.wk (σ := pasN T T.1.2.2 α i) (κ := κ') f1 f2
      subst ht
      refine ⟨_, wk_k0, _, rfl, _, wk_k0, _, rfl, _, wk_k0, _, rfl, _, HT.1, _, rfl, _, wk_k0, (c_pass (sok_0 (pasN_1 i) S) ap8 H f1 f2).pv (fun h' q => ?_) (fun E h' f => f.elim)⟩
      obtain ⟨κ2, k2, rfl⟩ := q
      refine ⟨_, wk_k0, _, rfl, ?_⟩
      rw [nI_1, show κ2.1 1 = pasRuin T T.1.2.2 (pasN T T.1.2.2 α i) from by rw [k2.1]; rfl]
      exact ih (i + 1) κ2 (by omega) (by rw [k2.2.2]; rfl) (k2.2.2.trans hk)
theorem c_losses {x2 : Int32} (S : sok α) (H : TAt h t T) (f : TFar t T c 15) {n : Nat} (hn : n < 2 ^ 31) (ht : κ.2.2.2 = t) :
    Con g mX0_losses (d + 6) [.ref c, .int (nI n), .int x2] (wk h (c + 8) c α κ) (jPi (fun r h' => r = lostN T T.1.2.2 α (losI T T.1.2.2 α x2 n 0) ∧ ∃ κ', kold κ κ' ∧ h' = wk h (c + 8) c (pasN T T.1.2.2 α (losI T T.1.2.2 α x2 n 0)) κ') no2) := by
  refine con_of km_X0_losses.1.2.2.2.2 (Nat.le_of_ble_eq_true rfl) rfl (bX0_losses_0 ?_)
  exact losses_loop S H f hn n 0 κ (by omega) ht rfl
theorem ruins_end {x1 : Int32} {P : jO → jH → Prop} (S : sok α) {κ' : Ks} (K : P (.inl (some (.int (bI (sGone α x1))))) (wk h (c + 8) c α κ')) :
    J g mX0_ruins (d + 3) hs P 43 [(0, .ref c), (1, .int x1)] [] (wk h (c + 8) c α κ') := by
  have H2 := wk_S (h := h) (σ := α) (κ := κ') (ap8 (c := c))
  refine bX0_ruins_43 ⟨_, wk_k0, _, rfl, _, H2.1, (c_isGone H2 S).pi (fun r h' hr => ?_) (fun E h' f => f.elim)⟩
  obtain ⟨e1, rfl⟩ := hr
  rw [e1]
  refine ⟨?_, K⟩
  cases sGone α x1
  · exact Or.inl rfl
  · exact Or.inr rfl
theorem ruins_loop {x1 : Int32} (S : sok α) (H : TAt h t T) (f : TFar t T c 15) {n : Nat} (hn : n < 2 ^ 31) : ∀ m i κ', n = i + m → κ'.2.2.2 = t → kold κ κ' →
    J g mX0_ruins (d + 6) hs (jPi (fun r h' => r = bI (sGone (pasN T T.1.2.2 α (ruI T T.1.2.2 α x1 m i)) x1) ∧ ∃ κ', kold κ κ' ∧ h' = wk h (c + 8) c (pasN T T.1.2.2 α (ruI T T.1.2.2 α x1 m i)) κ') no2) 2
      [(0, .ref c), (1, .int x1), (2, .int (nI n)), (3, .int (nI i))] [] (wk h (c + 8) c (pasN T T.1.2.2 α i) κ') := by
  have f1 : TFar t T (c + 8) 7 := by unfold TFar at *; omega
  have f2 : TFar t T c 8 := by unfold TFar at *; omega
  intro m
  induction m with
  | zero =>
    intro i κ' hi ht hk
    simp only [Nat.add_zero] at hi
    subst hi
    exact bX0_ruins_2 ⟨fun q => absurd q (nI_nlt (Nat.le_refl _) hn), fun _ => ruins_end (d := d + 3) (sok_0 (pasN_1 n) S) ⟨rfl, κ', hk, rfl⟩⟩
  | succ m ih =>
    intro i κ' hi ht hk
    have HT := H.wk (σ := pasN T T.1.2.2 α i) (κ := κ') f1 f2
    have H2 := wk_S (h := h) (σ := pasN T T.1.2.2 α i) (κ := κ') (ap8 (c := c))
    subst ht
    refine bX0_ruins_2 ⟨fun _ => ⟨_, wk_k0, _, rfl, _, H2.1, (c_isGone H2 (sok_0 (pasN_1 i) S)).pi (fun r h' hr => ?_) (fun E h' f => f.elim)⟩, fun q => absurd (nI_lt (by omega) hn) q⟩
    obtain ⟨e1, rfl⟩ := hr
    refine ⟨fun q => ?_, fun q => ?_⟩
    · have b1 := (bI_0 e1).1.mp q
      simp only [ruI, b1, Bool.false_eq_true, if_false]
      refine ⟨_, wk_k0, _, rfl, _, wk_k0, _, rfl, _, wk_k0, _, rfl, _, HT.1, _, rfl, _, wk_k0, (c_pass (sok_0 (pasN_1 i) S) ap8 H f1 f2).pv (fun h' q => ?_) (fun E h' f => f.elim)⟩
      obtain ⟨κ2, k2, rfl⟩ := q
      rw [nI_1]
      exact ih (i + 1) κ2 (by omega) (by rw [k2.2.2]; rfl) (k2.2.2.trans hk)
    · have b1 := (bI_0 e1).2.mp q
      rw [ruI, if_pos b1]
      exact ruins_end (d := d + 3) (sok_0 (pasN_1 i) S) ⟨rfl, κ', hk, rfl⟩
theorem c_ruins {x1 : Int32} (S : sok α) (H : TAt h t T) (f : TFar t T c 15) {n : Nat} (hn : n < 2 ^ 31) (ht : κ.2.2.2 = t) :
    Con g mX0_ruins (d + 6) [.ref c, .int x1, .int (nI n)] (wk h (c + 8) c α κ) (jPi (fun r h' => r = bI (sGone (pasN T T.1.2.2 α (ruI T T.1.2.2 α x1 n 0)) x1) ∧ ∃ κ', kold κ κ' ∧ h' = wk h (c + 8) c (pasN T T.1.2.2 α (ruI T T.1.2.2 α x1 n 0)) κ') no2) := by
  refine con_of km_X0_ruins.1.2.2.2.2 (Nat.le_of_ble_eq_true rfl) rfl (bX0_ruins_0 ?_)
  exact ruins_loop S H f hn n 0 κ (by omega) ht rfl
theorem kL_kL (κ : Ks) (k : Nat) (f f' : Nat → Int64) : kL (kL κ k f) k f' = kL κ k f' := by
  refine Prod.ext rfl (Prod.ext rfl (Prod.ext (funext fun i => ?_) rfl))
  by_cases hi : i = k <;> simp only [kL, hi, if_true, if_false]
def fstL (j : Nat) (f f' : Nat → Int64) : Nat → Int64 := fun i => if i < j then f i else f' i
theorem fstL_upd {j : Nat} {f f' : Nat → Int64} {v : Int64} (e : v = f j) : vp_updL (fstL j f f') j v = fstL (j + 1) f f' := by
  funext i
  by_cases hi : i = j
  · subst hi
    simp [vp_updL, fstL, e]
  · by_cases h2 : i < j
    · simp only [vp_updL, fstL, hi, h2, show i < j + 1 from by omega, if_true, if_false]
    · simp only [vp_updL, fstL, hi, h2, show ¬ i < j + 1 from by omega, if_false]
theorem fstL_at {j : Nat} {f f' : Nat → Int64} : fstL j f f' j = f' j := by simp [fstL]
/-- the inner loop of addBurdens -/
theorem addB_inner {P : jO → jH → Prop} {x1 x2 : Int32} {β : Nat → Int64} {κ' : Ks} {F : Nat → Int64} (hF : ∀ x, x < 7 → F x = β x + (κ'.2.1 0 x).toInt64)
    (K : J g mX0_addBurdens (d + 1) hs P 10 [(0, .ref c), (1, .int x1), (2, .int (x2 + 1))] [] (wk h (c + 8) c α (kL κ' 0 (fstL 7 F β)))) : ∀ m j, 7 = j + m →
    J g mX0_addBurdens (d + 1) hs P 36 [(0, .ref c), (1, .int x1), (2, .int x2), (3, .int (nI j))] [] (wk h (c + 8) c α (kL κ' 0 (fstL j F β))) := by
  intro m
  induction m with
  | zero =>
    intro j hj
    have : j = 7 := by omega
    subst this
    exact bX0_addBurdens_36 ⟨fun q => absurd q (by decide), fun _ => K⟩
  | succ m ih =>
    intro j hj
    have hix : (nI j).toNatClampNeg = j := nI_clamp (by omega)
    have v1 : vp_in (nI j) 7 := vp_in_nI (by omega) (by decide)
    refine bX0_addBurdens_36 ⟨fun _ => ⟨_, wk_k0, _, rfl, _, _, wk_k (j := 2) (by decide), v1, _, wk_k0, _, rfl, _, _, wk_k (j := 1) (by decide), v1, _, _, wk_k (j := 2) (by decide), v1, fun h1 q1 => ?_⟩, fun q => absurd (nI_lt (a := j) (b := 7) (by omega) (by decide)) q⟩
    replace q1 := q1.trans (wk_burd _)
    rw [q1, nI_1, hix, kL_kL]
    have e : vp_updL ((kL κ' 0 (fstL j F β)).2.2.1 0) j ((kL κ' 0 (fstL j F β)).2.2.1 0 j + ((kL κ' 0 (fstL j F β)).2.1 0 j).toInt64) = fstL (j + 1) F β := by
      show vp_updL (fstL j F β) j (fstL j F β j + (κ'.2.1 0 j).toInt64) = _
      refine fstL_upd ?_
      rw [fstL_at, hF j (by omega)]
    rw [e]
    exact ih (j + 1) (by omega)
theorem addB_loop (S : sok α) (H : TAt h t T) (f : TFar t T c 15) {n : Nat} (hn : n < 2 ^ 31) : ∀ m i κ', n = i + m → κ'.2.2.2 = t → κ'.2.2.1 0 = burN T T.1.2.2 α i → κ'.2.2.1 1 = κ.2.2.1 1 →
    J g mX0_addBurdens (d + 6) hs (jPv (fun h' => ∃ κ', κ'.2.2.2 = t ∧ κ'.2.2.1 0 = burN T T.1.2.2 α n ∧ κ'.2.2.1 1 = κ.2.2.1 1 ∧ h' = wk h (c + 8) c (pasN T T.1.2.2 α n) κ') no2) 10
      [(0, .ref c), (1, .int (nI n)), (2, .int (nI i))] [] (wk h (c + 8) c (pasN T T.1.2.2 α i) κ') := by
  have f1 : TFar t T (c + 8) 7 := by unfold TFar at *; omega
  have f2 : TFar t T c 8 := by unfold TFar at *; omega
  intro m
  induction m with
  | zero =>
    intro i κ' hi ht hb hk
    simp only [Nat.add_zero] at hi
    subst hi
    exact bX0_addBurdens_10 ⟨fun q => absurd q (nI_nlt (Nat.le_refl _) hn), fun _ => ⟨κ', ht, hb, hk, rfl⟩⟩
  | succ m ih =>
    intro i κ' hi ht hb hk
    have HT := H.wk (σ := pasN T T.1.2.2 α i) (κ := κ') f1 f2
    subst ht
    refine bX0_addBurdens_10 ⟨fun _ => ⟨_, wk_k0, _, rfl, _, wk_k0, _, rfl, _, wk_k0, _, rfl, _, HT.1, _, rfl, _, wk_k0, (c_pass (sok_0 (pasN_1 i) S) ap8 H f1 f2).pv (fun h' q => ?_) (fun E h' f => f.elim)⟩, fun q => absurd (nI_lt (by omega) hn) q⟩
    obtain ⟨κ2, k2, rfl⟩ := q
    have hb2 : κ2.2.2.1 0 = burN T T.1.2.2 α i := by rw [k2.2.2]; exact hb
    have e2 : κ2 = kL κ2 0 (fstL 0 (burN T T.1.2.2 α (i + 1)) (κ2.2.2.1 0)) := by
      refine Prod.ext rfl (Prod.ext rfl (Prod.ext (funext fun x => ?_) rfl))
      by_cases hx : x = 0
      · subst hx
        funext y
        simp [kL, fstL]
      · simp only [kL, hx, if_false]
    rw [e2]
    refine addB_inner (d := d + 5) (β := κ2.2.2.1 0) (κ' := κ2) (F := burN T T.1.2.2 α (i + 1)) ?_ ?_ 7 0 (by omega)
    · intro x hx
      rw [hb2, show κ2.2.1 0 = pasCame T (pasN T T.1.2.2 α i) from by rw [k2.2.1]; rfl]
      simp only [burN, hx, if_true]
    · rw [nI_1]
      refine ih (i + 1) _ (by omega) (by show κ2.2.2.2 = _; rw [k2.2.2]; rfl) ?_ ?_
      · funext x
        show fstL 7 _ _ x = _
        by_cases hx : x < 7
        · simp only [fstL, hx, if_true]
        · rw [hb2]
          simp only [fstL, burN, hx, if_false]
      · show κ2.2.2.1 1 = _
        rw [k2.2.2]
        exact hk
theorem c_addBurdens (S : sok α) (H : TAt h t T) (f : TFar t T c 15) {n : Nat} (hn : n < 2 ^ 31) (ht : κ.2.2.2 = t) :
    Con g mX0_addBurdens (d + 6) [.ref c, .int (nI n)] (wk h (c + 8) c α κ) (jPv (fun h' => ∃ κ', κ'.2.2.2 = t ∧ κ'.2.2.1 0 = burN T T.1.2.2 α n ∧ κ'.2.2.1 1 = κ.2.2.1 1 ∧ h' = wk h (c + 8) c (pasN T T.1.2.2 α n) κ') no2) := by
  refine con_of km_X0_addBurdens.1.2.2.2.2 (Nat.le_of_ble_eq_true rfl) rfl (bX0_addBurdens_0 ⟨_, wk_k0, _, rfl, (c_fillL (wk_k (j := 2) (by decide)) (by decide)).pv (fun h' q => ?_) (fun E h' f => f.elim)⟩)
  replace q := q.trans (wk_burd _)
  rw [q]
  exact addB_loop (κ := κ) S H f hn n 0 _ (by omega) ht rfl rfl
theorem c_keepBurdens : Con g mX0_keepBurdens (d + 1) [.ref c] (wk h (c + 8) c α κ) (jPv (fun h' => h' = wk h (c + 8) c α (kL κ 1 (fstL 7 (κ.2.2.1 0) (κ.2.2.1 1)))) no2) := by
  refine con_of km_X0_keepBurdens.1.2.2.2.2 (Nat.le_of_ble_eq_true rfl) rfl (bX0_keepBurdens_0 ⟨_, wk_k0, _, rfl, _, wk_k0, _, rfl, _, _, wk_k (j := 2) (by decide), _, _, wk_k (j := 3) (by decide), by decide, by decide, by decide, by decide, by decide, fun h1 q1 => ?_⟩)
  replace q1 := q1.trans (wk_kept _)
  rw [show va_cpy (κ.2.2.1 0) (κ.2.2.1 1) (0 : Int32).toNatClampNeg (0 : Int32).toNatClampNeg (7 : Int32).toNatClampNeg = fstL 7 (κ.2.2.1 0) (κ.2.2.1 1) from by
    funext i
    have e0 : (0 : Int32).toNatClampNeg = 0 := rfl
    have e7 : (7 : Int32).toNatClampNeg = 7 := rfl
    rw [e0, e7]
    simp [va_cpy, fstL]] at q1
  exact q1
end AHE
