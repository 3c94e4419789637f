def swp (f : Nat → Int32) (i k : Nat) : Nat → Int32 := upd (upd f i (f k)) k (f i)
theorem jset_jset (h : jH) (a : Nat) (e e' : va_E) : jset (jset h a e) a e' = jset h a e' := by
  refine Prod.ext (funext fun q => ?_) rfl
  by_cases hq : q = a <;> simp only [jset, hq, if_true, if_false]
theorem jset_at (h : jH) (a : Nat) (e : va_E) : (jset h a e).1 a = some e := by simp [jset]
theorem jset_ne {h : jH} {a q : Nat} {e : va_E} (hq : ¬ q = a) : (jset h a e).1 q = h.1 q := by simp only [jset, hq, if_false]
section STR2
variable {g : jG} {d : Nat} {h : jH} {a b r : Nat} {σ τ : St} {i k n : Int32}
theorem c_exchangeIn {N : Nat} {f : Nat → Int32} (H : h.1 r = some (.inl (0, (N, .inl f)))) (hi : vp_in i N) (hk : vp_in k N) : Con g mX6_exchangeIn (d + 1) [.ref a, .ref r, .int i, .int k] h (jPv (fun h' => h' = jset h r (.inl (0, (N, .inl (swp f (ix i) (ix k)))))) no2) := by
  refine con_of km_X6_exchangeIn.1.2.2.2.2 (Nat.le_of_ble_eq_true rfl) rfl (bX6_exchangeIn_0 ?_)
  refine ⟨_, _, H, hi, _, _, H, hk, _, _, H, hi, fun h1 e1 => ?_⟩
  subst e1
  refine ⟨_, _, jset_at _ _ _, hk, fun h2 e2 => ?_⟩
  show h2 = _
  rw [e2, jset_jset]
  rfl
def sExch (σ : St) (i k : Int32) : St := if sHas σ i = true ∧ sHas σ k = true then setR (setR (setR (setR σ 0 (swp (σ.2 0) (ix i) (ix k))) 1 (swp (σ.2 1) (ix i) (ix k))) 2 (swp (σ.2 2) (ix i) (ix k))) 3 (swp (σ.2 3) (ix i) (ix k)) else σ
theorem c_exchange (S : sok σ) : Con g mX6_exchange (d + 2) [.ref a, .int i, .int k] (sput h a σ) (jPv (fun h' => h' = sput h a (sExch σ i k)) no2) := by
  refine con_of km_X6_exchange.1.2.2.2.2 (Nat.le_of_ble_eq_true rfl) rfl (bX6_exchange_0 ?_)
  have H := sput_SAt h a σ
  refine ⟨_, H.1, (c_has H S).pi (fun r h' hr => ?_) (fun E h' f => f.elim)⟩
  obtain ⟨e1, e2⟩ := hr
  subst e2
  cases hb : sHas σ i with
  | false => exact ⟨fun _ => by simp [jPv, sExch, hb], fun c => absurd (by rw [e1, hb]; rfl) c⟩
  | true =>
    refine ⟨fun c => absurd (c.symm.trans e1) (by rw [hb]; decide), fun c => ⟨_, H.1, (c_has H S).pi (fun r h' hr => ?_) (fun E h' f => f.elim)⟩⟩
    obtain ⟨e3, e4⟩ := hr
    subst e4
    cases hb2 : sHas σ k with
    | false => exact ⟨fun _ => by simp [jPv, sExch, hb, hb2], fun c => absurd (by rw [e3, hb2]; rfl) c⟩
    | true =>
      refine ⟨fun c => absurd (c.symm.trans e3) (by rw [hb2]; decide), fun c => ?_⟩
      refine ⟨_, H.1, _, rfl, _, H.1, (c_exchangeIn H.2.1 (sHas_in S hb) (sHas_in S hb2)).pv (fun h1 q1 => ?_) (fun E h' f => f.elim)⟩
      rw [sput_row h a 0 (by decide)] at q1
      subst q1
      have H := sput_SAt h a (setR σ 0 (swp (σ.2 0) (ix i) (ix k)))
      refine ⟨_, H.1, _, rfl, _, H.1, (c_exchangeIn H.2.2.1 (sHas_in S hb) (sHas_in S hb2)).pv (fun h1 q1 => ?_) (fun E h' f => f.elim)⟩
      rw [sput_row h a 1 (by decide)] at q1
      subst q1
      have H := sput_SAt h a (setR (setR σ 0 (swp (σ.2 0) (ix i) (ix k))) 1 (swp (σ.2 1) (ix i) (ix k)))
      refine ⟨_, H.1, _, rfl, _, H.1, (c_exchangeIn H.2.2.2.1 (sHas_in S hb) (sHas_in S hb2)).pv (fun h1 q1 => ?_) (fun E h' f => f.elim)⟩
      rw [sput_row h a 2 (by decide)] at q1
      subst q1
      have H := sput_SAt h a (setR (setR (setR σ 0 (swp (σ.2 0) (ix i) (ix k))) 1 (swp (σ.2 1) (ix i) (ix k))) 2 (swp (σ.2 2) (ix i) (ix k)))
      refine ⟨_, H.1, _, rfl, _, H.1, (c_exchangeIn H.2.2.2.2.1 (sHas_in S hb) (sHas_in S hb2)).pv (fun h1 q1 => ?_) (fun E h' f => f.elim)⟩
      rw [sput_row h a 3 (by decide)] at q1
      show h1 = _
      rw [q1, sExch, if_pos ⟨hb, hb2⟩]
      rfl
def sRuin (σ : St) (i : Int32) : St := if sHas σ i = true then setR (setR σ 3 (upd (σ.2 3) (ix i) 1)) 2 (upd (σ.2 2) (ix i) 0) else σ
theorem c_ruin (S : sok σ) : Con g mX6_ruin (d + 2) [.ref a, .int i] (sput h a σ) (jPv (fun h' => h' = sput h a (sRuin σ i)) no2) := by
  refine con_of km_X6_ruin.1.2.2.2.2 (Nat.le_of_ble_eq_true rfl) rfl (bX6_ruin_0 ?_)
  have H := sput_SAt h a σ
  refine ⟨_, H.1, (c_has H S).pi (fun r h' hr => ?_) (fun E h' f => f.elim)⟩
  obtain ⟨e1, e2⟩ := hr
  subst e2
  cases hb : sHas σ i with
  | false => exact ⟨fun _ => by simp [jPv, sRuin, hb], fun c => absurd (by rw [e1, hb]; rfl) c⟩
  | true =>
    refine ⟨fun c => absurd (c.symm.trans e1) (by rw [hb]; decide), fun c => ⟨_, H.1, _, rfl, _, _, H.2.2.2.2.1, sHas_in S hb, fun h1 q1 => ?_⟩⟩
    rw [sput_row h a 3 (by decide)] at q1
    subst q1
    have H := sput_SAt h a (setR σ 3 (upd (σ.2 3) (ix i) 1))
    refine ⟨_, H.1, _, rfl, _, _, H.2.2.2.1, sHas_in S hb, fun h1 q1 => ?_⟩
    rw [sput_row h a 2 (by decide)] at q1
    show h1 = _
    rw [q1, sRuin, if_pos hb]
    rfl
def sGive (σ : St) (i k n : Int32) : St := if sHas σ i = true ∧ sHas σ k = true then setR σ 2 (upd (upd (σ.2 2) (ix i) (σ.2 2 (ix i) - n)) (ix k) (jmin (upd (σ.2 2) (ix i) (σ.2 2 (ix i) - n) (ix k) + n) 999999)) else σ
theorem setR_setR (σ : St) (k : Nat) (f f' : Nat → Int32) : setR (setR σ k f) k f' = setR σ k f' := by
  refine Prod.ext rfl (funext fun q => ?_)
  by_cases hq : q = k <;> simp only [setR, hq, if_true, if_false]
theorem c_give (S : sok σ) : Con g mX6_give (d + 2) [.ref a, .int i, .int k, .int n] (sput h a σ) (jPv (fun h' => h' = sput h a (sGive σ i k n)) no2) := by
  refine con_of km_X6_give.1.2.2.2.2 (Nat.le_of_ble_eq_true rfl) rfl (bX6_give_0 ?_)
  have H := sput_SAt h a σ
  refine ⟨_, H.1, (c_has H S).pi (fun r h' hr => ?_) (fun E h' f => f.elim)⟩
  obtain ⟨e1, e2⟩ := hr
  subst e2
  cases hb : sHas σ i with
  | false => exact ⟨fun _ => by simp [jPv, sGive, hb], fun c => absurd (by rw [e1, hb]; rfl) c⟩
  | true =>
    refine ⟨fun c => absurd (c.symm.trans e1) (by rw [hb]; decide), fun c => ⟨_, H.1, (c_has H S).pi (fun r h' hr => ?_) (fun E h' f => f.elim)⟩⟩
    obtain ⟨e3, e4⟩ := hr
    subst e4
    cases hb2 : sHas σ k with
    | false => exact ⟨fun _ => by simp [jPv, sGive, hb, hb2], fun c => absurd (by rw [e3, hb2]; rfl) c⟩
    | true =>
      refine ⟨fun c => absurd (c.symm.trans e3) (by rw [hb2]; decide), fun c => ?_⟩
      refine ⟨_, H.1, _, rfl, _, _, H.2.2.2.1, sHas_in S hb, _, _, H.2.2.2.1, sHas_in S hb, fun h1 q1 => ?_⟩
      rw [sput_row h a 2 (by decide)] at q1
      subst q1
      have H := sput_SAt h a (setR σ 2 (upd (σ.2 2) (ix i) (σ.2 2 (ix i) - n)))
      refine ⟨_, H.1, _, rfl, _, H.1, _, rfl, _, _, H.2.2.2.1, sHas_in S hb2, _, _, H.2.2.2.1, sHas_in S hb2, fun h1 q1 => ?_⟩
      rw [sput_row h a 2 (by decide), setR_setR] at q1
      show h1 = _
      rw [q1, sGive, if_pos ⟨hb, hb2⟩]
      rfl
def sPaid (σ : St) (i n : Int32) : Int32 := jmin n (jmin (σ.2 2 (ix i)) (σ.2 4 (ix i)))
def sPay (σ : St) (i n : Int32) : St := if sHas σ i = true then setR (setR σ 2 (upd (σ.2 2) (ix i) (σ.2 2 (ix i) - sPaid σ i n))) 4 (upd (σ.2 4) (ix i) (σ.2 4 (ix i) - sPaid σ i n)) else σ
theorem c_payBack (S : sok σ) : Con g mX6_payBack (d + 2) [.ref a, .int i, .int n] (sput h a σ) (jPi (fun r h' => h' = sput h a (sPay σ i n) ∧ r = (if sHas σ i = true then sPaid σ i n else 0)) no2) := by
  refine con_of km_X6_payBack.1.2.2.2.2 (Nat.le_of_ble_eq_true rfl) rfl (bX6_payBack_0 ?_)
  have H := sput_SAt h a σ
  refine ⟨_, H.1, (c_has H S).pi (fun r h' hr => ?_) (fun E h' f => f.elim)⟩
  obtain ⟨e1, e2⟩ := hr
  subst e2
  cases hb : sHas σ i with
  | false => exact ⟨fun _ => by simp [jPi, sPay, hb], fun c => absurd (by rw [e1, hb]; rfl) c⟩
  | true =>
    have hv := sHas_in S hb
    refine ⟨fun c => absurd (c.symm.trans e1) (by rw [hb]; decide), fun c => ⟨_, H.1, _, rfl, _, _, H.2.2.2.1, hv, _, H.1, _, rfl, _, _, H.2.2.2.2.2.1, hv, _, H.1, _, rfl, _, _, H.2.2.2.1, hv, _, _, H.2.2.2.1, hv, fun h1 q1 => ?_⟩⟩
    rw [sput_row h a 2 (by decide)] at q1
    subst q1
    have H := sput_SAt h a (setR σ 2 (upd (σ.2 2) (ix i) (σ.2 2 (ix i) - sPaid σ i n)))
    refine ⟨_, H.1, _, rfl, _, _, H.2.2.2.2.2.1, hv, _, _, H.2.2.2.2.2.1, hv, fun h1 q1 => ?_⟩
    erw [sput_row h a 4 (by decide)] at q1
    refine ⟨?_, by rw [if_pos rfl]; rfl⟩
    rw [q1, sPay, if_pos hb]
    rfl
def sWhySwap (σ : St) (i k : Int32) : Int32 := if sHas σ i = true ∧ sHas σ k = true ∧ ¬ i = k then 0 else 1
def sWhyGift (σ : St) (i k n : Int32) : Int32 := if ¬ (sHas σ i = true ∧ sHas σ k = true ∧ ¬ i = k) then 1 else if sGone σ i = true ∨ sGone σ k = true then 2 else if σ.2 2 (ix i) < n then 3 else 0
def sWhyPay (σ : St) (i : Int32) : Int32 := if ¬ sHas σ i = true then 1 else if sGone σ i = true then 2 else if σ.2 2 (ix i) = 0 ∨ σ.2 4 (ix i) = 0 then 3 else 0
theorem bI_0 {b : Bool} {r : Int32} (e : r = bI b) : (r = 0 ↔ b = false) ∧ (¬ r = 0 ↔ b = true) := by
  subst e
  cases b <;> simp [bI]
theorem bI_1 {b : Bool} {r : Int32} (e : r = bI b) : (r = 1 ↔ b = true) ∧ (¬ r = 1 ↔ b = false) := by
  subst e
  cases b <;> simp [bI]
theorem c_whyNoSwap (H : SAt h a σ) (S : sok σ) : Con g mX6_whyNoSwap (d + 2) [.ref a, .int i, .int k] h (jPi (fun r h' => r = sWhySwap σ i k ∧ h' = h) no2) := by
  refine con_of km_X6_whyNoSwap.1.2.2.2.2 (Nat.le_of_ble_eq_true rfl) rfl (bX6_whyNoSwap_0 ?_)
  refine ⟨_, H.1, (c_has H S).pi (fun r h' hr => ?_) (fun E h' f => f.elim)⟩
  obtain ⟨e1, rfl⟩ := hr
  refine ⟨fun c => ⟨by simp [sWhySwap, (bI_0 e1).1.mp c], rfl⟩, fun c => ⟨_, H.1, (c_has H S).pi (fun r h' hr => ?_) (fun E h' f => f.elim)⟩⟩
  have b1 := (bI_0 e1).2.mp c
  obtain ⟨e2, rfl⟩ := hr
  refine ⟨fun c => ⟨by simp [sWhySwap, (bI_0 e2).1.mp c], rfl⟩, fun c => ?_⟩
  have b2 := (bI_0 e2).2.mp c
  exact ⟨fun c => ⟨by simp [sWhySwap, b1, b2, c], rfl⟩, fun c => ⟨by simp [sWhySwap, b1, b2, c], rfl⟩⟩
theorem c_whyNoGift (H : SAt h a σ) (S : sok σ) : Con g mX6_whyNoGift (d + 3) [.ref a, .int i, .int k, .int n] h (jPi (fun r h' => r = sWhyGift σ i k n ∧ h' = h) no2) := by
  refine con_of km_X6_whyNoGift.1.2.2.2.2 (Nat.le_of_ble_eq_true rfl) rfl (bX6_whyNoGift_0 ?_)
  refine ⟨_, H.1, (c_has H S).pi (fun r h' hr => ?_) (fun E h' f => f.elim)⟩
  obtain ⟨e1, rfl⟩ := hr
  refine ⟨fun c => ⟨by simp [sWhyGift, (bI_0 e1).1.mp c], rfl⟩, fun c => ⟨_, H.1, (c_has H S).pi (fun r h' hr => ?_) (fun E h' f => f.elim)⟩⟩
  have b1 := (bI_0 e1).2.mp c
  obtain ⟨e2, rfl⟩ := hr
  refine ⟨fun c => ⟨by simp [sWhyGift, (bI_0 e2).1.mp c], rfl⟩, fun c => ?_⟩
  have b2 := (bI_0 e2).2.mp c
  refine ⟨fun c => ⟨by simp [sWhyGift, c], rfl⟩, fun c3 => ⟨_, H.1, (c_isGone H S).pi (fun r h' hr => ?_) (fun E h' f => f.elim)⟩⟩
  obtain ⟨e4, rfl⟩ := hr
  refine ⟨fun c => ⟨_, H.1, (c_isGone H S).pi (fun r h' hr => ?_) (fun E h' f => f.elim)⟩, fun c => ⟨by simp [sWhyGift, b1, b2, c3, (bI_0 e4).2.mp c], rfl⟩⟩
  have b4 := (bI_0 e4).1.mp c
  obtain ⟨e5, rfl⟩ := hr
  refine ⟨fun c => ⟨_, H.1, _, rfl, _, _, H.2.2.2.1, sHas_in S b1, ?_⟩, fun c => ⟨by simp [sWhyGift, b1, b2, c3, (bI_0 e5).2.mp c], rfl⟩⟩
  have b5 := (bI_0 e5).1.mp c
  refine ⟨fun c => ⟨?_, rfl⟩, fun c => ⟨?_, rfl⟩⟩
  · simp only [sWhyGift, b1, b2, c3, b4, b5, ix, not_true_eq_false, not_false_eq_true, and_self, if_false, Bool.false_eq_true, or_self, c, if_true]
  · simp only [sWhyGift, b1, b2, c3, b4, b5, ix, not_true_eq_false, not_false_eq_true, and_self, if_false, Bool.false_eq_true, or_self, c]
end STR2
