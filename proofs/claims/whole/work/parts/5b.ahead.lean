/-! The class's world while it looks ahead: α the street ahead, κ the course -/
def ak (ω : CW) (α : St) (κ : Ks) : CW := pK (pA ω α) κ
abbrev tT (ω : CW) : Td := (wT ω).2.1
abbrev tL (ω : CW) : Int32 := (wT ω).2.1.1.2.2
def aN (ω : CW) (i : Nat) : St := pasN (tT ω) (tL ω) (wS ω) i
section AKK
variable {g : jG} {d : Nat} {h : jH} {o : Nat} {ω : CW} {α : St} {κ : Ks} {i k n : Int32}
theorem scr_ak : scr ω (ak ω α κ) := scr.rf ω
theorem ak_o : (cw g h o (ak ω α κ)).1 o = some (wobj o ω) := cw_o (ω := ak ω α κ)
theorem ak_k : (cw g h o (ak ω α κ)).1 (o + 353) = some (kcell (o + 353) κ 0) := cw_k (ω := ak ω α κ)
theorem ak_S : SAt (cw g h o (ak ω α κ)) (o + 24) (wS ω) := cw_S (ω := ak ω α κ)
theorem ak_A : SAt (cw g h o (ak ω α κ)) (o + 361) α := cw_A (ω := ak ω α κ)
theorem ak_T {τ : To} (T : toAt (cw g h o ω) o τ) : toAt (cw g h o (ak ω α κ)) o τ := T.mv
theorem ak_t {τ : To} (T : toAt (cw g h o ω) o τ) : (cw g h o (ak ω α κ)).1 τ.1 = some (tobj τ.1 τ.2.1) := (ak_T T).1.1
theorem sok_aN (S : sok (wS ω)) (j : Nat) : sok (aN ω j) := sok_0 (pasN_1 j) S
theorem a_pass (S : sok α) (T : toAt (cw g h o ω) o (wT ω)) : Con g mX0_pass (d + 5) [.ref (o + 353), .ref (wT ω).1, .ref (o + 361), .int n] (cw g h o (ak ω α κ)) (jPv (fun h' => ∃ κ', kgar (kpas (tT ω) n α κ) κ' ∧ h' = cw g h o (ak ω (pas (tT ω) n α) κ')) no2) := w_passA (ω := ak ω α κ) S T.mv
theorem a_from0 : Con g mX0_from (d + 2) [.ref (o + 353), .ref (wT ω).1, .ref (o + 24)] (cw g h o ω) (jPr (fun r h' => r = o + 361 ∧ h' = cw g h o (ak ω (wS ω) (kT (wK ω) (wT ω).1))) no2) := w_from
theorem a_from : Con g mX0_from (d + 2) [.ref (o + 353), .ref (wT ω).1, .ref (o + 24)] (cw g h o (ak ω α κ)) (jPr (fun r h' => r = o + 361 ∧ h' = cw g h o (ak ω (wS ω) (kT κ (wT ω).1))) no2) := w_from (ω := ak ω α κ)
theorem a_losses {m : Nat} (S : sok α) (T : toAt (cw g h o ω) o (wT ω)) (hm : m < 2 ^ 31) (ht : κ.2.2.2 = (wT ω).1) : Con g mX0_losses (d + 6) [.ref (o + 353), .int (nI m), .int k] (cw g h o (ak ω α κ)) (jPi (fun r h' => r = lostN (tT ω) (tL ω) α (losI (tT ω) (tL ω) α k m 0) ∧ ∃ α' κ', kold κ κ' ∧ h' = cw g h o (ak ω α' κ')) no2) := w_losses (ω := ak ω α κ) S T.mv hm ht
theorem a_ruins {m : Nat} (S : sok α) (T : toAt (cw g h o ω) o (wT ω)) (hm : m < 2 ^ 31) (ht : κ.2.2.2 = (wT ω).1) : Con g mX0_ruins (d + 6) [.ref (o + 353), .int i, .int (nI m)] (cw g h o (ak ω α κ)) (jPi (fun r h' => r = bI (sGone (pasN (tT ω) (tL ω) α (ruI (tT ω) (tL ω) α i m 0)) i) ∧ ∃ α' κ', kold κ κ' ∧ h' = cw g h o (ak ω α' κ')) no2) := w_ruins (ω := ak ω α κ) S T.mv hm ht
theorem a_addBurdens {m : Nat} (S : sok α) (T : toAt (cw g h o ω) o (wT ω)) (hm : m < 2 ^ 31) (ht : κ.2.2.2 = (wT ω).1) : Con g mX0_addBurdens (d + 6) [.ref (o + 353), .int (nI m)] (cw g h o (ak ω α κ)) (jPv (fun h' => ∃ α' κ', κ'.2.2.2 = (wT ω).1 ∧ κ'.2.2.1 0 = burN (tT ω) (tL ω) α m ∧ κ'.2.2.1 1 = κ.2.2.1 1 ∧ h' = cw g h o (ak ω α' κ')) no2) := w_addBurdens (ω := ak ω α κ) S T.mv hm ht
theorem a_keepBurdens : Con g mX0_keepBurdens (d + 1) [.ref (o + 353)] (cw g h o (ak ω α κ)) (jPv (fun h' => h' = cw g h o (ak ω α (kL κ 1 (fstL 7 (κ.2.2.1 0) (κ.2.2.1 1))))) no2) := w_keepBurdens (ω := ak ω α κ)
theorem a_exchange (S : sok α) : Con g mX6_exchange (d + 2) [.ref (o + 361), .int i, .int k] (cw g h o (ak ω α κ)) (jPv (fun h' => h' = cw g h o (ak ω (sExch α i k) κ)) no2) := w_exchangeA (ω := ak ω α κ) S
theorem a_ruin (S : sok α) : Con g mX6_ruin (d + 2) [.ref (o + 361), .int i] (cw g h o (ak ω α κ)) (jPv (fun h' => h' = cw g h o (ak ω (sRuin α i) κ)) no2) := w_ruinA (ω := ak ω α κ) S
theorem a_isGoneA (S : sok α) : Con g mX6_isGone (d + 2) [.ref (o + 361), .int i] (cw g h o (ak ω α κ)) (jPi (fun r h' => r = bI (sGone α i) ∧ h' = cw g h o (ak ω α κ)) no2) := c_isGone ak_A S
/-! quarters -/
def qN (ω : CW) (j : Nat) : CW := pS (wPush ω) (aN ω j)
theorem quarters_loop (S : sok (wS ω)) (T : toAt (cw g h o ω) o (wT ω)) {N : Nat} (hN : N < 2 ^ 31) {hs : jH} : ∀ m j κ, N = j + m → J g mX11_quarters (d + 6) hs (ansI g h o (.inr (lostN (tT ω) (tL ω) (wS ω) N), qN ω N)) 23 [(0, .ref o), (1, .int (nI N)), (2, .int (lostN (tT ω) (tL ω) (wS ω) j)), (3, .int (nI j))] [] (cw g h o (pK (qN ω j) κ)) := by
  intro m
  induction m with
  | zero =>
    intro j κ hj
    have : j = N := by omega
    subst this
    exact bX11_quarters_23 ⟨fun c => absurd c (nI_nlt (Nat.le_refl _) hN), fun _ => ⟨rfl, fin.of (scr_K _ _)⟩⟩
  | succ m ih =>
    intro j κ hj
    refine bX11_quarters_23 ⟨fun _ => ?_, fun c => absurd (nI_lt (by omega) hN) c⟩
    refine ⟨_, cw_o, _, rfl, _, cw_o, _, rfl, _, cw_o, _, rfl, _, cw_o, _, rfl, _, (T.mv (ω' := pK (qN ω j) κ)).1.1, _, rfl, _, cw_k, ?_⟩
    refine (w_pass (ω := pK (qN ω j) κ) (sok_aN S j) T.mv).pv (fun h' hr => ?_) (fun E h' f => f.elim)
    obtain ⟨κ', kg, rfl⟩ := hr
    refine ⟨_, cw_o, _, rfl, _, cw_k, _, rfl, ?_⟩
    have e1 : κ'.1 1 = pasRuin (tT ω) (tL ω) (aN ω j) := by rw [kg.1]; rfl
    have key := ih (j + 1) κ' (by omega)
    rw [nI_1]
    show J g mX11_quarters (d + 6) hs _ 23 [(0, .ref o), (1, .int (nI N)), (2, .int (lostN (tT ω) (tL ω) (wS ω) j + κ'.1 1)), (3, .int (nI (j + 1)))] [] _
    rw [e1]
    exact key
def fQuarters (ω : CW) (n : Int32) : An Int32 × CW := if inN n 1 99 = false then (.inl iae, ω) else (.inr (lostN (tT ω) (tL ω) (wS ω) (ix n)), qN ω (ix n))
theorem inN_nI {a b : Nat} (ha : a < 2 ^ 31) (hb : b < 2 ^ 31) (e : inN n (nI a) (nI b) = true) : n = nI (ix n) ∧ a ≤ ix n ∧ ix n ≤ b := by
  have hn := of_decide_eq_true e
  obtain ⟨j, ej, j1, j2⟩ := nI_mid ha hb hn.1 hn.2
  subst ej
  rw [ix_nI (by omega)]
  exact ⟨rfl, j1, j2⟩
theorem w_quarters (R : jroom g h 1 6) (S : sok (wS ω)) (O : hok (wH ω)) (T : toAt (cw g h o ω) o (wT ω)) : Con g mX11_quarters (d + 6) [.ref o, .int n] (cw g h o ω) (ansI g h o (fQuarters ω n)) := by
  refine con_of plD (Nat.le_of_ble_eq_true rfl) rfl (bX11_quarters_0 ⟨_, cw_o, ?_⟩)
  refine (w_checkWithin R).pv (fun h' hr => ?_) (fun E h' f => f.2.ans (R := fQuarters ω n) (by unfold fQuarters; rw [if_pos f.1]) (by unfold fQuarters; rw [if_pos f.1]; exact scr.rf _))
  obtain ⟨hn, rfl⟩ := hr
  have e : fQuarters ω n = (.inr (lostN (tT ω) (tL ω) (wS ω) (ix n)), qN ω (ix n)) := if_neg (by rw [hn]; decide)
  obtain ⟨en, n1, n2⟩ := inN_nI (a := 1) (b := 99) (by omega) (by omega) hn
  refine ⟨_, cw_o, _, rfl, _, cw_o, _, rfl, _, cw_h, ?_⟩
  refine (w_remember O).pv (fun h' hr => ?_) (fun E h' f => f.elim)
  subst hr
  rw [e]
  have key := quarters_loop (g := g) (d := d) (hs := cw g h o ω) S T (N := ix n) (by omega) (ix n) 0 (wK ω) (by omega)
  rw [← en] at key
  exact key
/-! streets ahead -/
theorem streetIn_loop (S : sok (wS ω)) (T : toAt (cw g h o ω) o (wT ω)) {N : Nat} (hN : N < 2 ^ 31) {hs : jH} {X : String → jH → Prop} {C : Prop} (hC : C) : ∀ m j κ, N = j + m → J g mX11_streetIn (d + 6) hs (jPr (fun r h' => C ∧ r = o + 361 ∧ ∃ κ', h' = cw g h o (ak ω (aN ω N) κ')) X) 27 [(0, .ref o), (1, .int (nI N)), (2, .ref (o + 361)), (3, .int (nI j))] [] (cw g h o (ak ω (aN ω j) κ)) := by
  intro m
  induction m with
  | zero =>
    intro j κ hj
    have : j = N := by omega
    subst this
    exact bX11_streetIn_27 ⟨fun c => absurd c (nI_nlt (Nat.le_refl _) hN), fun _ => ⟨hC, rfl, κ, rfl⟩⟩
  | succ m ih =>
    intro j κ hj
    refine bX11_streetIn_27 ⟨fun _ => ?_, fun c => absurd (nI_lt (by omega) hN) c⟩
    refine ⟨_, ak_o, _, rfl, _, ak_o, _, rfl, _, ak_o, _, rfl, _, ak_t T, _, rfl, _, ak_k, ?_⟩
    refine (a_pass (sok_aN S j) T).pv (fun h' hr => ?_) (fun E h' f => f.elim)
    obtain ⟨κ', kg, rfl⟩ := hr
    rw [nI_1]
    exact ih (j + 1) κ' (by omega)
theorem w_streetIn (R : jroom g h 1 6) (S : sok (wS ω)) (T : toAt (cw g h o ω) o (wT ω)) : Con g mX11_streetIn (d + 6) [.ref o, .int n] (cw g h o ω) (jPr (fun r h' => inN n 0 200 = true ∧ r = o + 361 ∧ ∃ κ', h' = cw g h o (ak ω (aN ω (ix n)) κ')) (fun E h' => inN n 0 200 = false ∧ thx g h o ω iae E h')) := by
  refine con_of km_X11_streetIn.1.2.2.2.2 (Nat.le_of_ble_eq_true rfl) rfl (bX11_streetIn_0 ⟨_, cw_o, ?_⟩)
  refine (w_checkWithin R).pv (fun h' hr => ?_) (fun E h' f => f)
  obtain ⟨hn, rfl⟩ := hr
  obtain ⟨en, n1, n2⟩ := inN_nI (a := 0) (b := 200) (by omega) (by omega) hn
  refine ⟨_, cw_o, _, rfl, _, cw_o, _, rfl, _, cw_o, _, rfl, _, cw_k, ?_⟩
  refine a_from0.pr (fun r h' hr => ?_) (fun E h' f => f.elim)
  obtain ⟨rfl, rfl⟩ := hr
  have key := streetIn_loop (g := g) (d := d) (hs := cw g h o ω) (X := fun E h' => inN n 0 200 = false ∧ thx g h o ω iae E h') S T (N := ix n) (by omega) hn (ix n) 0 (kT (wK ω) (wT ω).1) (by omega)
  rw [← en] at key
  exact key
end AKK
