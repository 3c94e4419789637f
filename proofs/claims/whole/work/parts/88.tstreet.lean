/-! The class reads a street: where its fault lies -/
section CMQ
variable {g : jG} {d : Nat} {h : jH} {o : Nat} {ω : CW} {α : St} {κ : Ks} {i k n : Int32}
theorem w_streetQ {L : Nat} (eL : wI ω 0 = nI L) (hL : L ≤ 900) (hby : byt (wTape ω)) (HN : HNum (wZ ω)) (ho : o + 396 ≤ h.2.1) (hNO : g.2.2.2.2.2.2 < o) (NL : LawAt h g.2.2.2.2.2.2 0 none) (R : h.2.1 + 909 ≤ jB0 g + 601024 ∧ h.2.2 + 959 ≤ 7293034) :
    Con g mX11_street (d + 94) [.ref o, .int n] (cw g h o ω) (jPi (fun r h' => (¬ n < 0 ∧ ¬ wI ω 0 < n) ∧ match aRead ((cutF (wTape ω) (ix n) (wZ ω)).2 0) ((cutF (wTape ω) (ix n) (wZ ω)).2 1) with
      | .inl (k, q) => q < ix (cutF (wTape ω) (ix n) (wZ ω)).1 ∧ StBad g h o ω (if (cutF (wTape ω) (ix n) (wZ ω)).2 0 q = 1 then 1 else k) ((cutF (wTape ω) (ix n) (wZ ω)).2 2 q) r h'
      | .inr (A, _) => StOk g h o ω A r h') (fun E h' => (n < 0 ∨ wI ω 0 < n) ∧ thx g h o ω iae E h')) :=
  w_street (n := n) eL hL hby HN ho hNO NL R
end CMQ
