/-! The search for hidden debts -/
theorem sok_2 {σ : St} {k : Nat} {f : Nat → Int32} (S : sok σ) : sok (setR σ k f) := S
/-- the told street with a hidden debt -/
def hid (β : St) (two : Nat) : St := setR β 4 (upd (β.2 4) (two / 99) (β.2 4 (two / 99) + (nI (two % 99) + 1)))
def isHid (T : Td) (β : St) (f : Nat → Int64) (x M two : Nat) : Bool := decide (two / 99 < sN β) && fitR T (hid β two) f x M 0
/-- how many of the first n hide; the doors after them -/
def hidN (T : Td) (β : St) (f : Nat → Int64) (x M : Nat) : Nat → Nat
  | 0 => 0
  | n + 1 => if isHid T β f x M n = true then hidN T β f x M n + 1 else hidN T β f x M n
def hidD (T : Td) (β : St) (f : Nat → Int64) (x M : Nat) (δ : Ds) : Nat → Ds
  | 0 => dN δ 0
  | n + 1 => if isHid T β f x M n = true then dNote (hidD T β f x M δ n) (hidN T β f x M n) (nI (100 * (n / 99) + (n % 99 + 1))) (pasCame T (pasN T T.1.2.2 (hid β n) M)) else hidD T β f x M δ n
theorem hidN_le {T : Td} {β : St} {f : Nat → Int64} {x M : Nat} : ∀ n, hidN T β f x M n ≤ n
  | 0 => Nat.le_refl _
  | n + 1 => by
    rw [hidN]
    have := hidN_le (T := T) (β := β) (f := f) (x := x) (M := M) n
    split <;> omega
theorem hidD_1 {T : Td} {β : St} {f : Nat → Int64} {x M : Nat} {δ : Ds} : ∀ n, (hidD T β f x M δ n).1 = nI (hidN T β f x M n)
  | 0 => rfl
  | n + 1 => by
    rw [hidD, hidN]
    split
    · rfl
    · exact hidD_1 n
section FND
variable {g : jG} {d : Nat} {h hs : jH} {c t y e : Nat} {α β : St} {κ : Ks} {T : Td} {θ : Ty} {δ : Ds}
def wd (h : jH) (e c : Nat) (δ : Ds) (α : St) (κ : Ks) : jH := wk (dput h e δ) (c + 8) c α κ
theorem wd_dput (hd : apart e 10 c 15) : wd h e c δ α κ = dput (wk h (c + 8) c α κ) e δ := by
  unfold wd wk kput dput
  unfold apart at hd
  rw [sput_ov, sput_ov]
  rw [ov_comm (h := h) (b := e) (n := 10) (c := c + 8) (m := 7) (by omega), ov_comm (b := e) (n := 10) (c := c) (m := 8) (by omega)]
theorem wd_out {q : Nat} (h1 : ¬ (e ≤ q ∧ q < e + 10)) (h2 : ¬ (c ≤ q ∧ q < c + 15)) : (wd h e c δ α κ).1 q = h.1 q := (wk_out (by omega) (by omega)).trans (ov_out h1)
theorem TAt.dp (H : TAt h t T) (f : TFar t T e 10) : TAt (dput h e δ) t T := ⟨(ov_out f.1).trans H.1, H.2.1.of (ov_out f.2.1), H.2.2.1.of (ov_out f.2.2.1), H.2.2.2.of (ov_out f.2.2.2)⟩
theorem div99 {n : Nat} (hn : n < 693) : nI n / 99 = nI (n / 99) := by
  apply Int32.toInt_inj.mp
  have h99 : (99 : Int32).toInt = 99 := rfl
  rw [Int32.toInt_div_of_ne_right _ _ (by decide), nI_toInt (by omega), nI_toInt (by omega), h99, Int.tdiv_eq_ediv_of_nonneg (by omega)]
  omega
theorem mod99 {n : Nat} (hn : n < 693) : nI n - nI n / 99 * 99 = nI (n % 99) := by
  rw [div99 hn]
  apply Int32.toInt_inj.mp
  have h99 : (99 : Int32).toInt = 99 := rfl
  have e1 : (nI (n / 99) * 99).toInt = (n / 99 : Nat) * 99 := by rw [tI_mul (by rw [nI_toInt (by omega), h99]; omega), nI_toInt (by omega), h99]
  rw [tI_sub (by rw [nI_toInt (by omega), e1]; omega), e1, nI_toInt (by omega), nI_toInt (by omega)]
  omega
theorem find_loop {x M : Nat} (B : sok β) (HB : SAt h (t + 1) β) (H : TAt h t T) (f : TFar t T c 15) (f2 : TFar t T e 10) (hd : apart e 10 c 15) (hb : apart (t + 1) 7 c 15) (hb2 : apart (t + 1) 7 e 10) (Y : YAt h y θ) (hy : apart y 2 c 15) (hy2 : apart y 2 e 10) (hx : x < sN β) (hM : M ≤ 30) (hm : θ.1 = nI M) : ∀ m n α κ, 693 = n + m →
    J g mX1_find (d + 7) hs (jPv (fun h' => ∃ α' κ', h' = wd h e c (hidD T β θ.2.2 x M δ 693) α' κ') no2) 8
      [(0, .ref e), (1, .ref c), (2, .ref t), (3, .ref y), (4, .int (nI x)), (5, .int (nI n))] [] (wd h e c (hidD T β θ.2.2 x M δ n) α κ) := by
  have B0 := B
  obtain ⟨s1, s2⟩ := B
  have f1 : TFar t T (c + 8) 7 := by unfold TFar at *; omega
  have f3 : TFar t T c 8 := by unfold TFar at *; omega
  have BB : ∀ δ α κ, SAt (wd h e c δ α κ) (t + 1) β := fun δ α κ => HB.of (fun q h1 h2 => wd_out (by unfold apart at hb2; omega) (by unfold apart at hb; omega))
  have BD : ∀ δ, SAt (dput h e δ) (t + 1) β := fun δ => HB.of (fun q h1 h2 => ov_out (by unfold apart at hb2; omega))
  have HD : ∀ δ, TAt (dput h e δ) t T := fun δ => H.dp f2
  have HW : ∀ δ α κ, TAt (wd h e c δ α κ) t T := fun δ α κ => (HD δ).wk f1 f3
  have YD : ∀ δ, YAt (dput h e δ) y θ := fun δ => ⟨(ov_out (by unfold apart at hy2; omega)).trans Y.1, (ov_out (by unfold apart at hy2; omega)).trans Y.2⟩
  have D0 : ∀ δ α κ, (wd h e c δ α κ).1 e = some (dobj e δ.1) := fun δ α κ => by rw [wd_dput hd]; exact dput_0
  have D1 : ∀ δ α κ, (wd h e c δ α κ).1 (e + 1) = some (d693 δ.2.1) := fun δ α κ => by rw [wd_dput hd]; exact dput_1
  intro m
  induction m with
  | zero =>
    intro n α κ hn
    have : n = 693 := by omega
    subst this
    exact bX1_find_8 ⟨_, D0 _ _ _, _, rfl, _, _, D1 _ _ _, ⟨_, rfl⟩, fun q => absurd q (nI_nlt (a := 693) (b := 693) (Nat.le_refl _) (by decide)), fun _ => ⟨α, κ, rfl⟩⟩
  | succ m ih =>
    intro n α κ hn
    have h99 := div99 (n := n) (by omega)
    have m99 := mod99 (n := n) (by omega)
    rw [h99] at m99
    have hix : (nI (n / 99)).toNatClampNeg = n / 99 := nI_clamp (by omega)
    refine bX1_find_8 ⟨_, D0 _ _ _, _, rfl, _, _, D1 _ _ _, ⟨_, rfl⟩, fun _ => ⟨_, (HW _ _ _).1, _, rfl, _, (BB _ _ _).1, (c_has (BB _ _ _) B0).pi (fun r h' hr => ?_) (fun E h' f => f.elim)⟩, fun q => absurd (nI_lt (a := n) (b := 693) (by omega) (by decide)) q⟩
    obtain ⟨e1, rfl⟩ := hr
    rw [h99] at e1
    have hh : sHas β (nI (n / 99)) = decide (n / 99 < sN β) := by
      simp only [sHas]
      rw [s1]
      have a1 := nI_pos (n := n / 99) (by omega)
      have a2 := nI_ltI (a := n / 99) (b := sN β) (by omega) (by omega)
      simp only [a1, not_false_eq_true, true_and, a2]
    rw [hh] at e1
    refine ⟨fun q => ?_, fun q => ?_⟩
    · have b1 := (bI_0 e1).1.mp q
      have e2 : isHid T β θ.2.2 x M n = false := by rw [isHid, b1]; rfl
      rw [nI_1]
      have := ih (n + 1) α κ (by omega)
      rw [show hidD T β θ.2.2 x M δ (n + 1) = hidD T β θ.2.2 x M δ n from by simp [hidD, e2]] at this
      exact this
    · have b1 := (bI_0 e1).2.mp q
      have hlt : n / 99 < sN β := by simpa using b1
      refine ⟨_, (HW _ _ _).1, _, rfl, _, wk_k0, (c_from (BD _) hb).pr (fun r h' q => ?_) (fun E h' f => f.elim)⟩
      obtain ⟨rfl, rfl⟩ := q
      have HC := fun (δ : Ds) (α : St) (κ : Ks) => wk_S (h := dput h e δ) (σ := α) (κ := κ) (ap8 (c := c))
      have v1 : vp_in (nI (n / 99)) 7 := vp_in_nI (by omega) (by decide)
      refine ⟨_, (HC _ _ _).1, _, rfl, _, _, (HC _ _ _).2.2.2.2.2.1, by rw [h99]; exact v1, _, _, (HC _ _ _).2.2.2.2.2.1, by rw [h99]; exact v1, fun h1 q1 => ?_⟩
      replace q1 := q1.trans (wk_setR ap8 (k := 4) (by decide) _)
      rw [h99, hix, m99] at q1
      subst q1
      have hS2 : sHas (hid β n) (nI x) = true := by
        simp only [sHas, decide_eq_true_eq]
        refine ⟨nI_pos (by omega), ?_⟩
        show nI x < β.1 0
        rw [s1]
        exact nI_lt hx (by omega)
      refine ⟨_, D0 _ (hid β n) _, (c_fits (α := hid β n) (sok_2 B0) (HD _) f (YD _) hy hS2 (by omega) hM hm).pi (fun r h' hr => ?_) (fun E h' f => f.elim)⟩
      obtain ⟨e2, α', κ', hα, rfl⟩ := hr
      refine ⟨fun q2 => ?_, fun q2 => ?_⟩
      · have e3 : isHid T β θ.2.2 x M n = false := by rw [isHid, (bI_0 e2).1.mp q2, Bool.and_false]
        rw [nI_1]
        have := ih (n + 1) α' κ' (by omega)
        rw [show hidD T β θ.2.2 x M δ (n + 1) = hidD T β θ.2.2 x M δ n from by simp [hidD, e3]] at this
        exact this
      · have b2 := (bI_0 e2).2.mp q2
        have e3 : isHid T β θ.2.2 x M n = true := by rw [isHid, b1, b2]; rfl
        have hα := hα b2
        subst hα
        refine ⟨_, (HW _ _ _).1, _, rfl, _, wk_k0, (c_pass (sok_0 (pasN_1 M) (sok_2 B0)) ap8 (HD _) f1 f3).pv (fun h' q => ?_) (fun E h' f => f.elim)⟩
        obtain ⟨κ2, k2, rfl⟩ := q
        have e4 : κ2.2.1 0 = pasCame T (pasN T T.1.2.2 (hid β n) M) := by rw [k2.2.1]; rfl
        refine ⟨_, wk_k0, _, rfl, _, D0 _ _ _, ?_⟩
        rw [h99, m99]
        have e5 : nI (n / 99) * 100 + (nI (n % 99) + 1) = nI (100 * (n / 99) + (n % 99 + 1)) := by
          apply Int32.toInt_inj.mp
          have h100 : (100 : Int32).toInt = 100 := rfl
          have h1 : (1 : Int32).toInt = 1 := rfl
          have x1 : (nI (n / 99) * 100).toInt = (n / 99 : Nat) * 100 := by rw [tI_mul (by rw [nI_toInt (by omega), h100]; omega), nI_toInt (by omega), h100]
          have x2 : (nI (n % 99) + 1).toInt = (n % 99 : Nat) + 1 := by rw [tI_add (by rw [nI_toInt (by omega), h1]; omega), nI_toInt (by omega), h1]
          rw [tI_add (by rw [x1, x2]; omega), x1, x2, nI_toInt (by omega)]
          omega
        rw [e5]
        have W1 : (wk h (c + 8) c (pas T T.1.2.2 (pasN T T.1.2.2 (hid β n) M)) κ2).1 (c + 1) = some (srow (κ2.2.1 0)) := wk_k (j := 1) (by decide)
        have key := c_dnote (g := g) (d := d + 5) (h := wk h (c + 8) c (pas T T.1.2.2 (pasN T T.1.2.2 (hid β n) M)) κ2) (e := e) (δ := hidD T β θ.2.2 x M δ n) (two := nI (100 * (n / 99) + (n % 99 + 1))) W1 (by unfold apart at hd; omega) (Nat.lt_of_le_of_lt (hidN_le n) (by omega)) (hidD_1 n)
        rw [← wd_dput hd, ← wd_dput hd] at key
        refine key.pv (fun h' q => ?_) (fun E h' f => f.elim)
        rw [e4] at q
        rw [q, nI_1]
        have := ih (n + 1) (pas T T.1.2.2 (pasN T T.1.2.2 (hid β n) M)) κ2 (by omega)
        rw [show hidD T β θ.2.2 x M δ (n + 1) = dNote (hidD T β θ.2.2 x M δ n) (hidN T β θ.2.2 x M n) (nI (100 * (n / 99) + (n % 99 + 1))) (pasCame T (pasN T T.1.2.2 (hid β n) M)) from by rw [hidD, if_pos e3]] at this
        exact this
theorem c_find {x M : Nat} (B : sok β) (HB : SAt h (t + 1) β) (H : TAt h t T) (f : TFar t T c 15) (f2 : TFar t T e 10) (hd : apart e 10 c 15) (hb : apart (t + 1) 7 c 15) (hb2 : apart (t + 1) 7 e 10) (Y : YAt h y θ) (hy : apart y 2 c 15) (hy2 : apart y 2 e 10) (hx : x < sN β) (hM : M ≤ 30) (hm : θ.1 = nI M) :
    Con g mX1_find (d + 7) [.ref e, .ref c, .ref t, .ref y, .int (nI x)] (wd h e c δ α κ) (jPv (fun h' => ∃ α' κ', h' = wd h e c (hidD T β θ.2.2 x M δ 693) α' κ') no2) := by
  refine con_of km_X1_find.1.2.2.2.2 (Nat.le_of_ble_eq_true rfl) rfl (bX1_find_0 ⟨_, by rw [wd_dput hd]; exact dput_0, Nat.le_of_ble_eq_true rfl, fun h1 q1 => ?_⟩)
  rw [wd_dput hd] at q1
  replace q1 := q1.trans (dput_n _)
  rw [← wd_dput hd] at q1
  rw [q1]
  exact find_loop B HB H f f2 hd hb hb2 Y hy hy2 hx hM hm 693 0 α κ rfl
end FND
