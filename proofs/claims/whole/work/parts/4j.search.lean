/-! The search through the orders -/
def mvS (ν : St) (p : Nat → Nat) : Nat → St
  | 0 => ν
  | j + 1 => sMove (mvS ν p j) ν (nI (p j)) (nI j)
theorem sMove_1 {σ τ : St} {i k : Int32} : (sMove σ τ i k).1 = σ.1 := by
  unfold sMove
  split <;> rfl
theorem mvS_1 {ν : St} {p : Nat → Nat} : ∀ j, (mvS ν p j).1 = ν.1
  | 0 => rfl
  | j + 1 => by rw [mvS, sMove_1, mvS_1 j]
/-- what is lost by an order, counted as far as it matters -/
def lostBy (T : Td) (ν : St) (N : Nat) (p : Nat → Nat) (few : Int32) : Int32 := lostN T T.1.2.2 (mvS ν p (sN ν)) (losI T T.1.2.2 (mvS ν p (sN ν)) few N 0)
def srF (T : Td) (ν : St) (N : Nat) (all : Int32) : Nat → Os → Os
  | 0, ω => ω
  | m + 1, ω => match stepF ω.2.2.2.1 (sN ν) with
    | none => noteF ω (lostBy T ν N ω.2.2.2.1 (ω.1 0))
    | some p => if (noteF ω (lostBy T ν N ω.2.2.2.1 (ω.1 0))).1 0 = 0 ∧ all = 0 then oI (oH (noteF ω (lostBy T ν N ω.2.2.2.1 (ω.1 0))) p) 3 0 else srF T ν N all m (oH (noteF ω (lostBy T ν N ω.2.2.2.1 (ω.1 0))) p)
def idN (p : Nat → Nat) : Nat → Nat := fun i => if i < 7 then i else p i
def srBeg (ω : Os) (t : Nat) (ν : St) (N : Nat) : Os := oI (oH (oI (oS (oI (oT ω (some t)) 2 (nI N)) ν) 3 1) (idN ω.2.2.2.1)) 0 8
def srHit (ω : Os) (t : Nat) (ν : St) (N : Nat) (all : Int32) : Prop := ω.2.1 = some t ∧ ω.1 2 = nI N ∧ seq ω.2.2.2.2 ν ∧ (¬ ω.1 3 = 0 ∨ all = 0)
theorem noteF_H {ω : Os} {x : Int32} : (noteF ω x).2.2.2 = ω.2.2.2 := by
  unfold noteF
  split
  · rfl
  · split <;> rfl
section SRC
variable {g : jG} {d : Nat} {h hs : jH} {o c t b : Nat} {ω : Os} {α ν : St} {κ : Ks} {T : Td} {N : Nat} {all : Int32}
/-- orders at o, the course at c -/
def wo (h : jH) (o c : Nat) (ω : Os) (α : St) (κ : Ks) : jH := wk (oput h o ω) (c + 8) c α κ
theorem wo_oput (hd : apart o 10 c 15) : wo h o c ω α κ = oput (wk h (c + 8) c α κ) o ω := by
  unfold wo wk kput oput
  unfold apart at hd
  rw [sput_ov, sput_ov]
  rw [ov_comm (h := h) (b := o) (n := 10) (c := c + 8) (m := 7) (by omega), ov_comm (b := o) (n := 10) (c := c) (m := 8) (by omega)]
theorem wo_out {q : Nat} (h1 : ¬ (o ≤ q ∧ q < o + 10)) (h2 : ¬ (c ≤ q ∧ q < c + 15)) : (wo h o c ω α κ).1 q = h.1 q := (wk_out (by omega) (by omega)).trans (ov_out h1)
theorem TAt.op (H : TAt h t T) (f : TFar t T o 10) : TAt (oput h o ω) t T := ⟨(ov_out f.1).trans H.1, H.2.1.of (ov_out f.2.1), H.2.2.1.of (ov_out f.2.2.1), H.2.2.2.of (ov_out f.2.2.2)⟩
theorem move_loop {P : jO → jH → Prop} {x8 : Int32} (hd : apart o 10 c 15) (hb : apart b 7 c 15) (hbo : apart b 7 o 10) (H : SAt h b ν) (S : sok ν) (hp : p7 ω.2.2.2.1)
    (K : J g mX4_search (d + 7) hs P 175 [(0, .ref o), (1, .ref c), (2, .ref t), (3, .ref b), (4, .int (nI N)), (5, .int all), (8, .int x8)] [] (wo h o c ω (mvS ν ω.2.2.2.1 (sN ν)) κ)) : ∀ m j, sN ν = j + m →
    J g mX4_search (d + 7) hs P 138 [(0, .ref o), (1, .ref c), (2, .ref t), (3, .ref b), (4, .int (nI N)), (5, .int all), (8, .int x8), (9, .ref (c + 8)), (10, .int (nI j))] [] (wo h o c ω (mvS ν ω.2.2.2.1 j) κ) := by
  have S0 := S
  obtain ⟨s1, s2⟩ := S
  have HB : ∀ α κ, SAt (wo h o c ω α κ) b ν := fun α κ => H.of (fun q h1 h2 => wo_out (by unfold apart at hbo; omega) (by unfold apart at hb; omega))
  intro m
  induction m with
  | zero =>
    intro j hj
    simp only [Nat.add_zero] at hj
    subst hj
    refine bX4_search_138 ⟨_, (HB _ _).1, _, rfl, fun q => ?_, fun _ => K⟩
    rw [s1] at q
    exact absurd q (nI_nlt (Nat.le_refl _) (by omega))
  | succ m ih =>
    intro j hj
    have hix : (nI j).toNatClampNeg = j := nI_clamp (by omega)
    have v1 : vp_in (nI j) 7 := vp_in_nI (by omega) (by decide)
    refine bX4_search_138 ⟨_, (HB _ _).1, _, rfl, fun q => ⟨fun q2 => ?_, fun q2 => absurd (nI_lt (a := j) (b := 7) (by omega) (by decide)) q2⟩, fun q => ?_⟩
    · have HC := wk_S (h := oput h o ω) (σ := mvS ν ω.2.2.2.1 j) (κ := κ) (ap8 (c := c))
      refine ⟨_, by rw [wo_oput hd]; exact oput_0, _, rfl, _, _, by rw [wo_oput hd]; exact oput_9, v1, _, HC.1, (c_moveIn (HB _ _) (by unfold apart at hb; omega) (sok_like (mvS_1 j) S0) S0 HC).pv (fun h' q => ?_) (fun E h' f => f.elim)⟩
      rw [hix] at q
      replace q := q.trans (wk_sput ap8)
      rw [q, nI_1]
      exact ih (j + 1) (by omega)
    · rw [s1] at q
      exact absurd (nI_lt (by omega) (by omega)) q
theorem search_loop (hd : apart o 10 c 15) (hb : apart b 7 c 15) (hbo : apart b 7 o 10) (H : SAt h b ν) (S : sok ν) (HT : TAt h t T) (f : TFar t T c 15) (f2 : TFar t T o 10) (hN : N < 2 ^ 31) : ∀ m i (ω : Os) α κ, 5040 = i + m → p7 ω.2.2.2.1 →
    J g mX4_search (d + 7) hs (jPv (fun h' => ∃ α' κ', h' = wo h o c (srF T ν N all m ω) α' κ') no2) 114 [(0, .ref o), (1, .ref c), (2, .ref t), (3, .ref b), (4, .int (nI N)), (5, .int all), (7, .int 1), (8, .int (nI i))] [] (wo h o c ω α κ) := by
  have S0 := S
  obtain ⟨s1, s2⟩ := S
  have HB : ∀ ω α κ, SAt (wo h o c ω α κ) b ν := fun ω α κ => H.of (fun q h1 h2 => wo_out (by unfold apart at hbo; omega) (by unfold apart at hb; omega))
  have stop : ∀ i ω α κ x7, i < 5040 → x7 = 0 → J g mX4_search (d + 7) hs (jPv (fun h' => ∃ α' κ', h' = wo h o c ω α' κ') no2) 114 [(0, .ref o), (1, .ref c), (2, .ref t), (3, .ref b), (4, .int (nI N)), (5, .int all), (7, .int x7), (8, .int (nI (i + 1)))] [] (wo h o c ω α κ) :=
    fun i ω α κ x7 hi hx => bX4_search_114 ⟨fun q => ⟨fun _ => ⟨α, κ, rfl⟩, fun q2 => absurd hx q2⟩, fun q => ⟨α, κ, rfl⟩⟩
  intro m
  induction m with
  | zero =>
    intro i ω α κ hi hp
    have : i = 5040 := by omega
    subst this
    exact bX4_search_114 ⟨fun q => absurd q (by decide), fun _ => ⟨α, κ, rfl⟩⟩
  | succ m ih =>
    intro i ω α κ hi hp
    refine bX4_search_114 ⟨fun _ => ⟨fun q => absurd q (by decide), fun _ => ⟨_, wk_k0, (c_from ((H.of (fun q h1 h2 => ov_out (by unfold apart at hbo; omega)))) hb).pr (fun r h' q => ?_) (fun E h' f => f.elim)⟩⟩, fun q => absurd (nI_lt (a := i) (b := 5040) (by omega) (by decide)) q⟩
    obtain ⟨rfl, rfl⟩ := q
    refine move_loop (d := d) (N := N) hd hb hbo H S0 hp ?_ (sN ν) 0 (by omega)
    have Sm : sok (mvS ν ω.2.2.2.1 (sN ν)) := sok_like (mvS_1 _) S0
    refine bX4_search_175 ⟨_, by rw [wo_oput hd]; exact oput_0, _, rfl, _, wk_k0, (c_losses Sm (HT.op f2) f hN rfl).pi (fun r h' q => ?_) (fun E h' f => f.elim)⟩
    obtain ⟨e1, κ2, k2, rfl⟩ := q
    rw [show wk (oput h o ω) (c + 8) c (pasN T T.1.2.2 (mvS ν ω.2.2.2.1 (sN ν)) (losI T T.1.2.2 (mvS ν ω.2.2.2.1 (sN ν)) (ω.1 0) N 0)) κ2 = wo h o c ω (pasN T T.1.2.2 (mvS ν ω.2.2.2.1 (sN ν)) (losI T T.1.2.2 (mvS ν ω.2.2.2.1 (sN ν)) (ω.1 0) N 0)) κ2 from rfl]
    generalize pasN T T.1.2.2 (mvS ν ω.2.2.2.1 (sN ν)) (losI T T.1.2.2 (mvS ν ω.2.2.2.1 (sN ν)) (ω.1 0) N 0) = β
    rw [wo_oput hd]
    refine ⟨_, oput_0, c_note.pv (fun h' q => ?_) (fun E h' f => f.elim)⟩
    rw [← wo_oput hd] at q
    subst q
    have ej : jmin (ν.1 0) 7 = nI (sN ν) := by
      rw [s1]
      exact if_neg (nI_nlt (a := 7) (b := sN ν) s2 (by decide))
    refine ⟨_, (HB _ _ _).1, _, rfl, _, by rw [wo_oput hd]; exact oput_0, ?_⟩
    rw [ej, wo_oput hd]
    have hp2 : p7 (noteF ω r).2.2.2.1 := by rw [noteF_H]; exact hp
    refine (c_step s2 hp2).pi (fun r2 h' q => ?_) (fun E h' f => f.elim)
    have e2 : r = lostBy T ν N ω.2.2.2.1 (ω.1 0) := e1
    subst e2
    unfold stepPost at q
    rw [noteF_H] at q
    cases hS : stepF ω.2.2.2.1 (sN ν) with
    | none =>
      rw [hS] at q
      obtain ⟨e3, e4⟩ := q
      rw [← wo_oput hd] at e4
      subst e4
      refine ⟨fun _ => ?_, fun q => absurd e3 q⟩
      rw [nI_1]
      simp only [srF, hS]
      exact stop i _ β κ2 r2 (by omega) e3
    | some p =>
      rw [hS] at q
      obtain ⟨e3, e4⟩ := q
      rw [← wo_oput hd] at e4
      subst e4
      simp only [srF, hS]
      refine ⟨fun q => absurd (e3.symm.trans q) (by decide), fun _ => ⟨_, by rw [wo_oput hd]; exact oput_0, _, rfl, fun q => ⟨fun q2 => ?_, fun q2 => ?_⟩, fun q => ?_⟩⟩
      · rw [if_pos ⟨q, q2⟩]
        refine ⟨_, by rw [wo_oput hd]; exact oput_0, Nat.le_of_ble_eq_true rfl, fun h1 q1 => ?_⟩
        rw [wo_oput hd] at q1
        replace q1 := q1.trans (oput_all _)
        rw [← wo_oput hd] at q1
        rw [q1, nI_1]
        exact stop i _ β κ2 0 (by omega) rfl
      · rw [if_neg (fun e => q2 e.2), nI_1, e3]
        exact ih (i + 1) _ β κ2 (by omega) (stepF_7 hp hS)
      · rw [if_neg (fun e => q e.1), nI_1, e3]
        exact ih (i + 1) _ β κ2 (by omega) (stepF_7 hp hS)
theorem search_id {P : jO → jH → Prop} (hd : apart o 10 c 15) {p0 : Nat → Nat} (K : J g mX4_search (d + 7) hs P 114 [(0, .ref o), (1, .ref c), (2, .ref t), (3, .ref b), (4, .int (nI N)), (5, .int all), (7, .int 1), (8, .int 0)] [] (wo h o c (oI (oH ω (idN p0)) 0 8) α κ)) : ∀ m j, 7 = j + m →
    J g mX4_search (d + 7) hs P 80 [(0, .ref o), (1, .ref c), (2, .ref t), (3, .ref b), (4, .int (nI N)), (5, .int all), (7, .int (nI j))] [] (wo h o c (oH ω (fun i => if i < j then i else p0 i)) α κ) := by
  intro m
  induction m with
  | zero =>
    intro j hj
    have : j = 7 := by omega
    subst this
    refine bX4_search_80 ⟨fun q => absurd q (by decide), fun _ => ⟨_, by rw [wo_oput hd]; exact oput_0, Nat.le_of_ble_eq_true rfl, fun h1 q1 => ?_⟩⟩
    rw [wo_oput hd] at q1
    replace q1 := q1.trans (oput_few _)
    rw [← wo_oput hd] at q1
    rw [q1]
    exact K
  | succ m ih =>
    intro j hj
    have hix : (nI j).toNatClampNeg = j := nI_clamp (by omega)
    have v1 : vp_in (nI j) 7 := vp_in_nI (by omega) (by decide)
    refine bX4_search_80 ⟨fun _ => ⟨_, by rw [wo_oput hd]; exact oput_0, _, rfl, _, _, by rw [wo_oput hd]; exact oput_9, v1, fun h1 q1 => ?_⟩, fun q => absurd (nI_lt (a := j) (b := 7) (by omega) (by decide)) q⟩
    rw [wo_oput hd] at q1
    replace q1 := q1.trans (oput_H (fun i => if i < j + 1 then i else p0 i) (by
      funext i
      rw [hix]
      by_cases hi : i = j
      · subst hi
        simp [upd]
      · by_cases h2 : i < j
        · simp only [upd, hi, if_false, oH, h2, if_true, show i < j + 1 from by omega]
        · simp only [upd, hi, if_false, oH, h2, show ¬ i < j + 1 from by omega]))
    rw [← wo_oput hd] at q1
    rw [q1, nI_1]
    exact ih (j + 1) (by omega)
theorem search_miss (hd : apart o 10 c 15) (hb : apart b 7 c 15) (hbo : apart b 7 o 10) (H : SAt h b ν) (S : sok ν) (HT : TAt h t T) (f : TFar t T c 15) (f2 : TFar t T o 10) (hN : N < 2 ^ 31) (hp : p7 ω.2.2.2.1) :
    J g mX4_search (d + 7) hs (jPv (fun h' => ∃ α' κ', h' = wo h o c (srF T ν N all 5040 (srBeg ω t ν N)) α' κ') no2) 53 [(0, .ref o), (1, .ref c), (2, .ref t), (3, .ref b), (4, .int (nI N)), (5, .int all)] [] (wo h o c ω α κ) := by
  have HB : ∀ ω α κ, SAt (wo h o c ω α κ) b ν := fun ω α κ => H.of (fun q h1 h2 => wo_out (by unfold apart at hbo; omega) (by unfold apart at hb; omega))
  refine bX4_search_53 ⟨_, by rw [wo_oput hd]; exact oput_0, Nat.le_of_ble_eq_true rfl, fun h1 q1 => ?_⟩
  rw [wo_oput hd] at q1
  replace q1 := q1.trans (oput_tol _)
  subst q1
  refine ⟨_, oput_0, Nat.le_of_ble_eq_true rfl, fun h1 q1 => ?_⟩
  replace q1 := q1.trans (oput_qua _)
  subst q1
  have H1 : SAt (oput (wk h (c + 8) c α κ) o (oI (oT ω (some t)) 2 (nI N))) b ν := by
    rw [← wo_oput hd]
    exact HB _ _ _
  refine ⟨_, oput_0, _, rfl, _, oput_S.1, (c_takeOver H1 (by unfold apart at hbo; omega) oput_S).pv (fun h' q => ?_) (fun E h' f => f.elim)⟩
  replace q := q.trans (oput_s _)
  subst q
  refine ⟨_, oput_0, Nat.le_of_ble_eq_true rfl, fun h1 q1 => ?_⟩
  replace q1 := q1.trans (oput_all _)
  rw [← wo_oput hd] at q1
  subst q1
  have e0 : oI (oS (oI (oT ω (some t)) 2 (nI N)) ν) 3 1 = oH (oI (oS (oI (oT ω (some t)) 2 (nI N)) ν) 3 1) (fun i => if i < 0 then i else ω.2.2.2.1 i) := by
    have : (fun i => if i < 0 then i else ω.2.2.2.1 i) = ω.2.2.2.1 := by funext i; simp
    rw [this]
    rfl
  rw [e0]
  refine search_id hd ?_ 7 0 rfl
  have hp2 : p7 (idN ω.2.2.2.1) := by
    intro i
    unfold idN
    split
    · assumption
    · exact hp i
  exact search_loop hd hb hbo H S HT f f2 hN 5040 0 (oI (oH (oI (oS (oI (oT ω (some t)) 2 (nI N)) ν) 3 1) (idN ω.2.2.2.1)) 0 8) α κ rfl hp2
theorem search_top {P : jO → jH → Prop} (hd : apart o 10 c 15) (hb : apart b 7 c 15) (hbo : apart b 7 o 10) (H : SAt h b ν) (hN : N < 2 ^ 31)
    (K1 : ¬ srHit ω t ν N all → J g mX4_search (d + 7) hs P 53 [(0, .ref o), (1, .ref c), (2, .ref t), (3, .ref b), (4, .int (nI N)), (5, .int all)] [] (wo h o c ω α κ)) (K2 : srHit ω t ν N all → P (.inl none) (wo h o c ω α κ)) :
    J g mX4_search (d + 7) hs P 0 [(0, .ref o), (1, .ref c), (2, .ref t), (3, .ref b), (4, .int (nI N)), (5, .int all)] [] (wo h o c ω α κ) := by
  have HB : SAt (wo h o c ω α κ) b ν := H.of (fun q h1 h2 => wo_out (by unfold apart at hbo; omega) (by unfold apart at hb; omega))
  have H0 : (wo h o c ω α κ).1 o = some (oobj o ω) := by rw [wo_oput hd]; exact oput_0
  have HS : SAt (wo h o c ω α κ) (o + 2) ω.2.2.2.2 := by rw [wo_oput hd]; exact oput_S
  have m32 : ¬ srHit ω t ν N all → J g mX4_search (d + 7) hs P 32 [(0, .ref o), (1, .ref c), (2, .ref t), (3, .ref b), (4, .int (nI N)), (5, .int all)] [] (wo h o c ω α κ) :=
    fun nh => bX4_search_32 (bX4_search_33 ⟨fun _ => K1 nh, fun q => absurd rfl q⟩)
  have sm : ω.2.1 = some t → (¬ ω.1 2 = nI N → J g mX4_search (d + 7) hs P 32 [(0, .ref o), (1, .ref c), (2, .ref t), (3, .ref b), (4, .int (nI N)), (5, .int all)] [] (wo h o c ω α κ)) ∧ (ω.1 2 = nI N → Con g mX6_isLike (d + 6) [.ref (o + 2), .ref b] (wo h o c ω α κ) (jPi (fun r h' => (r = 0 → J g mX4_search (d + 7) hs P 32 [(0, .ref o), (1, .ref c), (2, .ref t), (3, .ref b), (4, .int (nI N)), (5, .int all)] [] h') ∧ (¬ r = 0 → J g mX4_search (d + 7) hs P 33 [(0, .ref o), (1, .ref c), (2, .ref t), (3, .ref b), (4, .int (nI N)), (5, .int all)] [.int 1] h')) (fun E h' => P (.inr E) h'))) := by
    intro ht
    refine ⟨fun q => m32 (fun e => q e.2.1), fun q => (c_isLike HS HB).pi (fun r h' hr => ?_) (fun E h' f => f.elim)⟩
    obtain ⟨e1, rfl⟩ := hr
    refine ⟨fun q2 => ?_, fun q2 => ?_⟩
    · rcases e1 with ⟨_, e⟩ | ⟨e, _⟩
      · exact m32 (fun x => e x.2.2.1)
      · exact absurd (e.symm.trans q2) (by decide)
    · have hq : seq ω.2.2.2.2 ν := by
        rcases e1 with ⟨e, _⟩ | ⟨_, e⟩
        · exact absurd e q2
        · exact e
      refine bX4_search_33 ⟨fun q3 => absurd q3 (by decide), fun _ => ⟨_, H0, _, rfl, fun q3 => ⟨fun q4 => K2 ⟨ht, q, hq, Or.inr q4⟩, fun q4 => K1 (fun e => ?_)⟩, fun q3 => K2 ⟨ht, q, hq, Or.inl q3⟩⟩⟩
      rcases e.2.2.2 with e | e
      · exact e q3
      · exact q4 e
  refine bX4_search_0 ⟨_, H0, ?_⟩
  cases hT : ω.2.1 with
  | none => exact Or.inl ⟨rfl, fun q => absurd q (by simp), fun _ => m32 (fun e => absurd (hT.symm.trans e.1) (by simp))⟩
  | some v =>
    refine Or.inr ⟨v, rfl, fun q => ?_, fun q => m32 (fun e => q (by rw [← hT]; exact e.1))⟩
    have ht : ω.2.1 = some t := hT.trans q
    exact ⟨_, H0, _, rfl, fun q2 => ⟨_, H0, _, rfl, _, HS.1, (sm ht).2 q2⟩, fun q2 => (sm ht).1 q2⟩
theorem c_search (hd : apart o 10 c 15) (hb : apart b 7 c 15) (hbo : apart b 7 o 10) (H : SAt h b ν) (S : sok ν) (HT : TAt h t T) (f : TFar t T c 15) (f2 : TFar t T o 10) (hN : N < 2 ^ 31) (hp : p7 ω.2.2.2.1) :
    Con g mX4_search (d + 7) [.ref o, .ref c, .ref t, .ref b, .int (nI N), .int all] (wo h o c ω α κ) (jPv (fun h' => srHit ω t ν N all ∧ h' = wo h o c ω α κ ∨ ¬ srHit ω t ν N all ∧ ∃ α' κ', h' = wo h o c (srF T ν N all 5040 (srBeg ω t ν N)) α' κ') no2) := by
  by_cases hh : srHit ω t ν N all
  · exact con_of km_X4_search.1.2.2.2.2 (Nat.le_of_ble_eq_true rfl) rfl (search_top hd hb hbo H hN (fun nh => absurd hh nh) (fun _ => Or.inl ⟨hh, rfl⟩))
  · have main : Con g mX4_search (d + 7) [.ref o, .ref c, .ref t, .ref b, .int (nI N), .int all] (wo h o c ω α κ) (jPv (fun h' => ∃ α' κ', h' = wo h o c (srF T ν N all 5040 (srBeg ω t ν N)) α' κ') no2) :=
      con_of km_X4_search.1.2.2.2.2 (Nat.le_of_ble_eq_true rfl) rfl (search_top hd hb hbo H hN (fun _ => search_miss hd hb hbo H S HT f f2 hN hp) (fun e => absurd e hh))
    exact main.pv (fun h' q => Or.inr ⟨hh, q⟩) (fun E h' f => f)
end SRC
