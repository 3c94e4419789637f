/-! The reference: trays are laid, written, copied onto -/
def mcut (s : Int32) (v : Int64) : Int64 := (v <<< (((64 - ((8 : Int32) <<< (s &&& 31))) : Int32).toInt64 &&& 63)) >>> (((64 - ((8 : Int32) <<< (s &&& 31))) : Int32).toInt64 &&& 63)
def upY (Y : Nat → Ty) (i : Nat) (θ : Ty) : Nat → Ty := fun j => if j = i then θ else Y j
def dfy (μ ν : MW) : Prop := (∀ k, ¬ k ∈ [4, 23, 24, 26, 27, 30, 31, 32] → ν.1 k = μ.1 k) ∧ ∀ j, ¬ j ∈ [6, 7, 8, 9, 10, 11, 12, 13, 14, 15, 16] → ν.2.1 j = μ.2.1 j
/-- what a call at the trays leaves -/
def mTys {α : Type} (μ : MW) (σ : St) (Y' : Nat → Ty) (xs : List String) (A : An α) : α → MW → Prop := fun r ν => ∃ μ', dfy μ μ' ∧ tysAt μ' Y' ∧ μ'.1 4 = cod xs A ∧ (∀ v, A = .inr v → r = v) ∧ ν = mS μ' σ
def hTray (Y : Nat → Ty) (i s n : Int32) : An Unit × (Nat → Ty) := if trOk i = false then (.inl nse, Y) else if inN s 0 3 = false then (.inl iae, Y) else if inN n 0 30 = false then (.inl iae, Y) else (.inr (), upY Y (ix i) (n, s, fun _ => 0))
def hWrite (Y : Nat → Ty) (i p : Int32) (v : Int64) : An Int64 × (Nat → Ty) := match trE Y i with
  | some E => (.inl E, Y)
  | none => if p < 0 ∨ ¬ p < (Y (ix i)).1 then (.inl iob, Y) else (.inr (mcut (Y (ix i)).2.1 v), upY Y (ix i) ((Y (ix i)).1, (Y (ix i)).2.1, vp_updL (Y (ix i)).2.2 (ix p) (mcut (Y (ix i)).2.1 v)))
def cpyM (T : Td) (σ : St) (s : Int32) (f : Nat → Int64) (x : Nat) : Nat → Nat → Int64
  | 0 => f
  | j + 1 => vp_updL (cpyM T σ s f x j) j (mcut s (pasCame T (pN T σ j) x).toInt64)
def hCopy (T : Td) (σ : St) (Y : Nat → Ty) (i k : Int32) : An Int32 × (Nat → Ty) := if trOk i = false then (.inl nse, Y) else if sHas σ k = false then (.inl nse, Y) else if (Y (ix i)).2.1 = -1 then (.inl ise, Y) else (.inr (Y (ix i)).1, upY Y (ix i) ((Y (ix i)).1, (Y (ix i)).2.1, cpyM T σ (Y (ix i)).2.1 (Y (ix i)).2.2 (ix k) (ix (Y (ix i)).1)))
section MTY
variable {g : jG} {d : Nat} {h : jH} {m : Nat} {μ ν : MW} {i k n w : Int32} {T : Td} {σ τ : St} {I A : List Nat} {N : Nat} {v : Int64} {Y : Nat → Ty}
theorem dfy.rf : dfy μ μ := ⟨fun _ _ => rfl, fun _ _ => rfl⟩
theorem dfy.tr {a b c : MW} (x : dfy a b) (y : dfy b c) : dfy a c := ⟨fun k hk => (y.1 k hk).trans (x.1 k hk), fun j hj => (y.2 j hj).trans (x.2 j hj)⟩
theorem ms.y {a b : MW} (x : ms a b) : dfy a b := ⟨fun k hk => x.1 k hk, fun j hj => x.2.2 j (fun c => hj (List.mem_append_left [15, 16] c))⟩
theorem dfy.kk {a b : MW} (x : dfy a b) : kn b = kn a := x.2 1 (by decide)
theorem dfy_N {f : Nat → Int64} : dfy μ (mN μ f) := ⟨fun _ _ => rfl, fun _ _ => rfl⟩
theorem dfy_A {j : Nat} (hj : j = 15 ∨ j = 16) {f : Nat → Int32} : dfy μ (mA μ j f) := ⟨fun _ _ => rfl, fun i hi => if_neg (fun c => hi (by rw [c]; rcases hj with rfl | rfl <;> decide))⟩
theorem mAns.t {α : Type} {xs : List String} {A : An α} {r : α} (x : mAns μ σ xs A r ν) (y : tysAt μ Y) : mTys μ σ Y xs A r ν := by
  obtain ⟨μ', q, a, b, c⟩ := x
  exact ⟨μ', q.y, q.ty y, a, b, c⟩
theorem upY_self {j : Nat} : upY Y j (Y j) = Y := by
  funext k
  unfold upY
  by_cases c : k = j
  · rw [if_pos c, c]
  · rw [if_neg c]
theorem upY_up {j : Nat} {a b : Ty} : upY (upY Y j a) j b = upY Y j b := by
  funext k
  unfold upY
  by_cases c : k = j
  · rw [if_pos c, if_pos c]
  · rw [if_neg c, if_neg c, if_neg c]
theorem upY_at {j : Nat} {a : Ty} : upY Y j a j = a := if_pos rfl
/-- a number of a tray is written -/
theorem ty_set {t p : Nat} {f : Nat → Int64} {a b : Int32} {x : Int64} (y : tysAt μ (upY Y t (a, b, f))) (ht : t < 4) (hp : p < 30) : tysAt (mN μ (vp_updL μ.2.2 (30 * t + p) x)) (upY Y t (a, b, vp_updL f p x)) := by
  intro j hj
  obtain ⟨y1, y2⟩ := y j hj
  unfold upY at y1 y2 ⊢
  by_cases c : j = t
  · subst c
    rw [if_pos rfl] at y1 y2 ⊢
    refine ⟨y1, fun k hk => ?_⟩
    show vp_updL μ.2.2 (30 * j + p) x (30 * j + k) = vp_updL f p x k
    unfold vp_updL
    by_cases c2 : k = p
    · rw [if_pos (by omega), if_pos c2]
    · rw [if_neg (by omega), if_neg c2]
      exact y2 k hk
  · rw [if_neg c] at y1 y2 ⊢
    refine ⟨y1, fun k hk => ?_⟩
    show vp_updL μ.2.2 (30 * t + p) x (30 * j + k) = _
    unfold vp_updL
    rw [if_neg (by omega)]
    exact y2 k hk
theorem m_cut {p : Nat} (y : tysAt μ Y) (c : trOk i = true) (hp : p < 30) : Con g mX12_cut (d + 1) [.ref m, .int i, .int (nI p), .long v] (mw h m μ) (wPl h m (fun r ν => r = mcut (Y (ix i)).2.1 v ∧ ν = mN μ (vp_updL μ.2.2 (30 * ix i + p) (mcut (Y (ix i)).2.1 v)))) := by
  obtain ⟨t1, t2⟩ := trOk_n c
  have e : (30 : Int32) * i + nI p = nI (30 * ix i + p) := by
    rw [t1, ix_nI (by omega), m30 _ t2, nI_add]
  have e2 : μ.2.1 15 (ix i) = (Y (ix i)).2.1 := (y (ix i) t2).1.1
  have z := wX12_cut_0 (g := g) (hs := mw h m μ) (P := wPl h m (fun r ν => r = mcut (Y (ix i)).2.1 v ∧ ν = mN μ (vp_updL μ.2.2 (30 * ix i + p) (mcut (Y (ix i)).2.1 v)))) (d := d) (h := h) (m := m) (μ := μ) (x1 := i) (x2 := nI p) (x3 := v)
  rw [e, e2, ix_nI (n := 30 * ix i + p) (by omega)] at z
  refine con_of km_X12_cut.1.2.2.2.2 (Nat.le_of_ble_eq_true rfl) rfl (z ⟨(ty_many y c).1, vp_in_nI (by omega) (by decide), vp_in_nI (by omega) (by decide), _, ⟨?_, rfl⟩, rfl⟩)
  show vp_updL _ _ _ _ = _
  unfold vp_updL
  rw [if_pos rfl]
  rfl
theorem inN_m {M : Nat} (hM : M ≤ 30) : inN n 0 (nI M - 1) = false ↔ (n < 0 ∨ ¬ n < nI M) := by
  rw [inN_f, Int32.lt_iff_toInt_lt, Int32.lt_iff_toInt_lt, Int32.lt_iff_toInt_lt, tI_sub (by rw [nI_toInt (by omega), show (1 : Int32).toInt = 1 from rfl]; omega), nI_toInt (by omega), show (1 : Int32).toInt = 1 from rfl, show (0 : Int32).toInt = 0 from rfl]
  omega
theorem cod_3b : codE [nse, ise, iob] iob 1 = 3 := by unfold nse ise iob; decide
theorem m_write {p : Int32} (y : tysAt μ Y) (Z : tysOk Y) : Con g mX12_write (d + 4) [.ref m, .int i, .int p, .long v] (mw h m (mS μ σ)) (wPl h m (mTys μ σ (hWrite Y i p v).2 [nse, ise, iob] (hWrite Y i p v).1)) := by
  unfold hWrite
  refine con_of km_X12_write.1.2.2.2.2 (Nat.le_of_ble_eq_true rfl) rfl (wX12_write_0 ⟨_, m_trayFault (d := d) (μ := mS μ σ) (Y := Y) y.s, fun c => ?_, fun c => ?_⟩)
  · cases hE : trE Y i with
    | none =>
      rw [trC_0.mpr hE] at c
      exact absurd c thr_n
    | some E =>
      obtain ⟨c1, c2⟩ := trC_c (xs := [iob]) hE
      exact ⟨_, (fin_1 c1).t y, rfl⟩
  · cases hE : trE Y i with
    | some E => exact absurd (thr_p (trC_c (xs := []) hE).2) c
    | none =>
      obtain ⟨t1, t2⟩ := trE_n hE
      obtain ⟨t3, t4⟩ := trOk_n t1
      obtain ⟨M, hM, eM⟩ := Z (ix i) t4
      rw [trC_0.mpr hE, mS_I]
      have yi : tysAt (mI μ 4 0) Y := y.mi
      obtain ⟨m1, m2⟩ := ty_many (yi.s (σ := σ)) t1
      rw [m2]
      refine ⟨m1, _, m_within, fun c2 => ?_, fun c2 => ?_⟩
      · have c3 := in0 (a := 0) (b := (Y (ix i)).1 - 1) rfl rfl c2
        rw [eM] at c3
        have c4 := (inN_m hM).mp c3
        rw [← eM] at c4
        show ∃ Q20 : Int32 → MW → Prop, _
        simp only [if_pos c4]
        refine ⟨_, m_fails, fun r ν q => ⟨_, ⟨mI (mI μ 4 0) 4 3, dfy.tr (ms_4 0).y (ms_4 3).y, tysAt.mi (tysAt.mi y), (mI_at 4 3).trans cod_3b.symm, (fun w f => by cases f), ?_⟩, rfl⟩⟩
        rw [q.2]; rfl
      · have c3 := in1 (a := 0) (b := (Y (ix i)).1 - 1) rfl rfl c2
        rw [eM] at c3
        have c4 : ¬ (p < 0 ∨ ¬ p < nI M) := fun f => by rw [(inN_m hM).mpr f] at c3; exact absurd c3 (by decide)
        have c5 : ¬ (p < 0 ∨ ¬ p < (Y (ix i)).1) := by rw [eM]; exact c4
        have ep : p = nI (ix p) ∧ ix p < 30 := by
          rw [Int32.lt_iff_toInt_lt, Int32.lt_iff_toInt_lt, nI_toInt (by omega), show (0 : Int32).toInt = 0 from rfl] at c4
          have e1 : ix p = p.toInt.toNat := rfl
          refine ⟨?_, by omega⟩
          apply Int32.toInt_inj.mp
          rw [e1, nI_toInt (by omega)]
          omega
        have C := m_cut (g := g) (d := d + 2) (h := h) (m := m) (μ := mS (mI μ 4 0) σ) (Y := Y) (v := v) (yi.s (σ := σ)) t1 ep.2
        rw [← ep.1] at C
        show ∃ Q27 : Int64 → MW → Prop, _
        simp only [if_neg c5]
        refine ⟨_, C, fun r ν q => ⟨_, ⟨mN (mI μ 4 0) (vp_updL (mI μ 4 0).2.2 (30 * ix i + ix p) (mcut (Y (ix i)).2.1 v)), dfy.tr (ms_4 0).y dfy_N, ty_set (f := (Y (ix i)).2.2) (a := (Y (ix i)).1) (b := (Y (ix i)).2.1) (by rw [show ((Y (ix i)).1, (Y (ix i)).2.1, (Y (ix i)).2.2) = Y (ix i) from rfl, upY_self]; exact yi) t4 ep.2, mI_at (μ := μ) 4 0, (fun w f => by cases f; exact q.1), q.2⟩, rfl⟩⟩
/-! a tray is laid -/
theorem tra_69 {hs : jH} {P : jO → jH → Prop} (c : trOk i = true) {s : Int32} (y2 : ∀ j, j < 4 → ((μ.2.1 15 j = (upY Y (ix i) (n, s, fun _ => 0) j).2.1 ∧ μ.2.1 16 j = (upY Y (ix i) (n, s, fun _ => 0) j).1) ∧ (¬ j = ix i → ∀ k, k < 30 → μ.2.2 (30 * j + k) = (Y j).2.2 k))) (next : ∀ f, tysAt (mN μ f) (upY Y (ix i) (n, s, fun _ => 0)) → P (.inl none) (mw h m (mN μ f))) : J g mX12_tray (d + 1) hs P 69 [(0, .ref m), (1, .int i), (4, .int 0)] [] (mw h m μ) := by
  obtain ⟨t1, t2⟩ := trOk_n c
  have loop : ∀ r j f, j + r = 30 → (∀ x, f x = if 30 * ix i ≤ x ∧ x < 30 * ix i + j then 0 else μ.2.2 x) → J g mX12_tray (d + 1) hs P 69 [(0, .ref m), (1, .int i), (4, .int (nI j))] [] (mw h m (mN μ f)) := by
    intro r
    induction r with
    | zero =>
      intro j f hj hf
      have : j = 30 := by omega
      subst this
      refine wX12_tray_69 ⟨fun q => absurd q (nI_nlt (b := 30) (a := 30) (by omega) (by omega)), fun _ => next f (fun j hj => ?_)⟩
      obtain ⟨a1, a2⟩ := y2 j hj
      refine ⟨a1, fun k hk => ?_⟩
      show f (30 * j + k) = _
      rw [hf]
      by_cases q : j = ix i
      · rw [if_pos (by omega), q, upY_at]
      · rw [if_neg (by omega), a2 q k hk]
        unfold upY
        rw [if_neg q]
    | succ r ih =>
      intro j f hj hf
      refine wX12_tray_69 ⟨fun _ => ?_, fun q => absurd (nI_lt (b := 30) (by omega) (by omega)) q⟩
      have e : (30 : Int32) * i + nI j = nI (30 * ix i + j) := by
        rw [t1, ix_nI (by omega), m30 _ t2, nI_add]
      rw [e, ix_nI (n := 30 * ix i + j) (by omega), nI_1]
      refine ⟨vp_in_nI (by omega) (by decide), ih (j + 1) _ (by omega) (fun x => ?_)⟩
      show vp_updL f (30 * ix i + j) 0 x = _
      unfold vp_updL
      by_cases q : x = 30 * ix i + j
      · rw [if_pos q, if_pos (by omega)]
      · rw [if_neg q, hf]
        by_cases q2 : 30 * ix i ≤ x ∧ x < 30 * ix i + j
        · rw [if_pos q2, if_pos (by omega)]
        · rw [if_neg q2, if_neg (by omega)]
  exact loop 30 0 μ.2.2 rfl (fun x => by rw [if_neg (by omega)])
theorem m_tray {s : Int32} (y : tysAt μ Y) : Con g mX12_tray (d + 3) [.ref m, .int i, .int s, .int n] (mw h m (mS μ σ)) (wPv h m (mTys μ σ (hTray Y i s n).2 [nse, iae] (hTray Y i s n).1 ())) := by
  unfold hTray
  have ref : ∀ {hs} {E0 : String} {c : Int32}, c = codE [nse, iae] E0 1 → 0 < c → J g mX12_tray (d + 3) hs (wPv h m (mTys μ σ Y [nse, iae] (.inl E0 : An Unit) ())) 41 [(0, .ref m), (1, .int i), (2, .int s), (3, .int n)] [.int c, .ref m] (mw h m (mS μ σ)) := fun e2 e3 =>
    wX12_tray_41 ⟨fun _ => ⟨_, (fin_1 e2).t y, rfl⟩, fun f => absurd (thr_p e3) f⟩
  refine con_of km_X12_tray.1.2.2.2.2 (Nat.le_of_ble_eq_true rfl) rfl (wX12_tray_0 ⟨_, m_isTray, fun c => ?_, fun c => ⟨_, m_within, fun c2 => ?_, fun c2 => ⟨_, m_within, fun c3 => ?_, fun c3 => ?_⟩⟩⟩)
  · have q := bI0 c
    simp only [if_pos q]
    exact ref cod_i.symm (by decide)
  · have q : ¬ trOk i = false := by rw [bI1 c]; decide
    have q2 := in0 (a := 0) (b := 3) rfl rfl c2
    simp only [if_neg q, if_pos q2]
    exact wX12_tray_36 (ref cod_2.symm (by decide))
  · have q : ¬ trOk i = false := by rw [bI1 c]; decide
    have q2 : ¬ inN s 0 3 = false := by rw [in1 (a := 0) (b := 3) rfl rfl c2]; decide
    have q3 := in0 (a := 0) (b := 30) rfl rfl c3
    simp only [if_neg q, if_neg q2, if_pos q3]
    exact wX12_tray_36 (ref cod_2.symm (by decide))
  · have q1 := bI1 c
    have q : ¬ trOk i = false := by rw [q1]; decide
    have q2 : ¬ inN s 0 3 = false := by rw [in1 (a := 0) (b := 3) rfl rfl c2]; decide
    have q3 : ¬ inN n 0 30 = false := by rw [in1 (a := 0) (b := 30) rfl rfl c3]; decide
    simp only [if_neg q, if_neg q2, if_neg q3]
    obtain ⟨t1, t2⟩ := trOk_n q1
    have vi : vp_in i 4 := (ty_many y q1).1
    refine wX12_tray_41 ⟨fun f => absurd f thr_n, fun _ => ⟨vi, vi, ?_⟩⟩
    rw [mS_I, mS_A (by decide), mS_A (by decide)]
    have y2 : ∀ j, j < 4 → (((mS (mA (mA (mI μ 4 0) 15 (upd ((mS (mI μ 4 0) σ).2.1 15) (ix i) s)) 16 (upd ((mS (mA (mI μ 4 0) 15 (upd ((mS (mI μ 4 0) σ).2.1 15) (ix i) s)) σ).2.1 16) (ix i) n)) σ).2.1 15 j = (upY Y (ix i) (n, s, fun _ => 0) j).2.1 ∧ (mS (mA (mA (mI μ 4 0) 15 (upd ((mS (mI μ 4 0) σ).2.1 15) (ix i) s)) 16 (upd ((mS (mA (mI μ 4 0) 15 (upd ((mS (mI μ 4 0) σ).2.1 15) (ix i) s)) σ).2.1 16) (ix i) n)) σ).2.1 16 j = (upY Y (ix i) (n, s, fun _ => 0) j).1) ∧ (¬ j = ix i → ∀ k, k < 30 → (mS (mA (mA (mI μ 4 0) 15 (upd ((mS (mI μ 4 0) σ).2.1 15) (ix i) s)) 16 (upd ((mS (mA (mI μ 4 0) 15 (upd ((mS (mI μ 4 0) σ).2.1 15) (ix i) s)) σ).2.1 16) (ix i) n)) σ).2.2 (30 * j + k) = (Y j).2.2 k)) := by
      intro j hj
      obtain ⟨⟨a1, a2⟩, a3⟩ := y j hj
      refine ⟨⟨?_, ?_⟩, fun _ => a3⟩
      · show upd (μ.2.1 15) (ix i) s j = _
        unfold upd upY
        by_cases c : j = ix i
        · rw [if_pos c, if_pos c]
        · rw [if_neg c, if_neg c, a1]
      · show upd (μ.2.1 16) (ix i) n j = _
        unfold upd upY
        by_cases c : j = ix i
        · rw [if_pos c, if_pos c]
        · rw [if_neg c, if_neg c, a2]
    refine tra_69 (d := d + 2) (Y := Y) (n := n) (s := s) q1 y2 (fun f yf => ⟨_, ⟨mN (mA (mA (mI μ 4 0) 15 (upd ((mS (mI μ 4 0) σ).2.1 15) (ix i) s)) 16 (upd ((mS (mA (mI μ 4 0) 15 (upd ((mS (mI μ 4 0) σ).2.1 15) (ix i) s)) σ).2.1 16) (ix i) n)) f, dfy.tr (dfy.tr (ms_4 0).y (dfy_A (Or.inl rfl))) (dfy.tr (dfy_A (Or.inr rfl)) dfy_N), yf.of rfl rfl rfl, mI_at (μ := μ) 4 0, (fun w f => by cases f; rfl), rfl⟩, rfl⟩)
/-! copied onto a tray -/
theorem m_copy (B : stB σ) (E : encT (kn μ) T) (y : tysAt μ Y) (Z : tysOk Y) : Con g mX12_copy (d + 7) [.ref m, .int i, .int k] (mw h m (mS μ σ)) (wPi h m (mTys μ σ (hCopy T σ Y i k).2 [nse, ise] (hCopy T σ Y i k).1)) := by
  have S := B.1
  have h7 := S.2
  unfold hCopy
  have ref : ∀ {hs} {E0 : String} {c : Int32}, c = codE [nse, ise] E0 1 → 0 < c → J g mX12_copy (d + 7) hs (wPi h m (mTys μ σ Y [nse, ise] (.inl E0 : An Int32))) 36 [(0, .ref m), (1, .int i), (2, .int k)] [.int c, .ref m] (mw h m (mS μ σ)) := fun e2 e3 =>
    wX12_copy_36 ⟨fun _ => ⟨_, (fin_1 e2).t y, rfl⟩, fun f => absurd (thr_p e3) f⟩
  refine con_of km_X12_copy.1.2.2.2.2 (Nat.le_of_ble_eq_true rfl) rfl (wX12_copy_0 ⟨_, m_isTray, fun c => ?_, fun c => ⟨_, m_isHouse (σ := σ), fun c2 => ?_, fun c2 => ?_⟩⟩)
  · have q := bI0 c
    simp only [if_pos q]
    exact wX12_copy_17 (ref cod_i.symm (by decide))
  · have q : ¬ trOk i = false := by rw [bI1 c]; decide
    have q2 := has0 S c2
    simp only [if_neg q, if_pos q2]
    exact wX12_copy_17 (ref cod_i.symm (by decide))
  · have q1 := bI1 c
    have q : ¬ trOk i = false := by rw [q1]; decide
    have hh := has1 S c2
    have q2 : ¬ sHas σ k = false := by rw [hh]; decide
    obtain ⟨t1, t2⟩ := trOk_n q1
    obtain ⟨k1, k2, -⟩ := sHas_ix S hh
    have e15 : (mS μ σ).2.1 15 (ix i) = (Y (ix i)).2.1 := (y (ix i) t2).1.1
    simp only [if_neg q, if_neg q2]
    refine ⟨(ty_many y q1).1, fun c3 => ?_, fun c3 => ?_⟩
    · rw [e15] at c3
      simp only [if_pos c3]
      exact ref ((cod_n (fun f => ne_nis f.symm)).trans cod_i).symm (by decide)
    · rw [e15] at c3
      simp only [if_neg c3]
      obtain ⟨M, hM, eM⟩ := Z (ix i) t2
      refine wX12_copy_36 ⟨fun f => absurd f thr_n, fun _ => ?_⟩
      rw [mS_I]
      refine ⟨_, m_putsAside (d := d + 5) (σ := σ), fun μ1 q1' => ?_⟩
      obtain ⟨μ2, d2, a2, rfl⟩ := q1'
      have loop : ∀ r j μ', j + r = M → dfy μ μ' → μ'.1 4 = 0 → asd μ' σ → tysAt μ' (upY Y (ix i) ((Y (ix i)).1, (Y (ix i)).2.1, cpyM T σ (Y (ix i)).2.1 (Y (ix i)).2.2 (ix k) j)) → J g mX12_copy (d + 7) (mw h m (mS μ σ)) (wPi h m (mTys μ σ (upY Y (ix i) ((Y (ix i)).1, (Y (ix i)).2.1, cpyM T σ (Y (ix i)).2.1 (Y (ix i)).2.2 (ix k) M)) [nse, ise] (.inr (Y (ix i)).1))) 54 [(0, .ref m), (1, .int i), (2, .int k), (3, .int (nI j))] [] (mw h m (mS μ' (pN T σ j))) := by
        intro r
        induction r with
        | zero =>
          intro j μ' hj q5 q6 q7 q8
          have : j = M := by omega
          subst this
          obtain ⟨y1, y2⟩ := ty_many q8 q1
          rw [upY_at] at y2
          have y3 : (mS μ' (pN T σ j)).2.1 16 (ix i) = nI j := y2.trans eM
          refine wX12_copy_54 ⟨y1, fun f => ?_, fun _ => ⟨_, m_putsBack (d := d + 5) (τ := pN T σ j) q7 pN_1, fun μ7 q9 => ?_⟩⟩
          · rw [y3] at f
            exact absurd f (nI_nlt (by omega) (by omega))
          · subst q9
            exact ⟨y1, _, ⟨μ', q5, q8, q6, (fun w f => by cases f; exact y2), rfl⟩, rfl⟩
        | succ r ih =>
          intro j μ' hj q5 q6 q7 q8
          obtain ⟨y1, y2⟩ := ty_many q8 q1
          rw [upY_at] at y2
          have y3 : (mS μ' (pN T σ j)).2.1 16 (ix i) = nI M := y2.trans eM
          have Bj := stB_pasN (T := T) (lim := T.1.2.2) B j
          refine wX12_copy_54 ⟨y1, fun _ => ⟨_, m_quarterW (d := d) (σ := pN T σ j) Bj (by rw [q5.kk]; exact E), fun μ3 q9 => ?_⟩, fun f => ?_⟩
          · obtain ⟨μ4, q10, -, -, q11, rfl⟩ := q9
            have y4 := dif.ty (qr.df q10) (by decide) (by decide) q8
            have C := m_cut (g := g) (d := d + 5) (h := h) (m := m) (μ := mS μ4 (pas T T.1.2.2 (pN T σ j))) (i := i) (v := (pasCame T (pN T σ j) (ix k)).toInt64) (p := j) y4.s q1 (by omega)
            rw [upY_at] at C
            have e8 : (mS μ4 (pas T T.1.2.2 (pN T σ j))).2.1 8 (ix k) = pasCame T (pN T σ j) (ix k) := q11 (ix k) (by rw [pN_N]; exact k1)
            rw [e8]
            refine ⟨by rw [k2]; exact vp_in_nI (by omega) (by decide), _, C, fun r2 μ5 q12 => ?_⟩
            obtain ⟨-, rfl⟩ := q12
            rw [nI_1]
            exact ih (j + 1) (mN μ4 (vp_updL μ4.2.2 (30 * ix i + j) (mcut (Y (ix i)).2.1 (pasCame T (pN T σ j) (ix k)).toInt64))) (by omega) (q5.tr (dfy.tr q10.q.s.y dfy_N)) ((q10.1 4 (by decide) (by decide)).trans q6) (q10.asd q7) (ty_set y4 t2 (by omega))
          · rw [y3] at f
            exact absurd (nI_lt (by omega) (by omega)) f
      have L := loop M 0 μ2 (by omega) (dfy.tr (ms_4 0).y (ms.y (d2.up (by decide) (by decide)))) ((d2.1 4 (by decide)).trans (mI_at 4 0)) a2 (by
        show tysAt μ2 (upY Y (ix i) (Y (ix i)))
        rw [upY_self]
        exact dif.ty d2 (by decide) (by decide) y.mi)
      have eM2 : ix (Y (ix i)).1 = M := by rw [eM]; exact ix_nI (by omega)
      simp only [eM2]
      exact L
end MTY
