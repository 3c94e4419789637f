/-! The two agree: all orders, one after the other -/
def lvR (r : List Nat → List (List Nat)) (l : List Nat) : Nat → Nat → List (List Nat)
  | 0, _ => []
  | c + 1, x => (if l.contains x = true then [] else r (l ++ [x])) ++ lvR r l c (x + 1)
def lvs (n : Nat) : Nat → List Nat → List (List Nat)
  | 0, l => [l]
  | r + 1, l => lvR (lvs n r) l n 0
def tlN (n : Nat) (p : Nat → Nat) : List Nat := (List.range' 0 n).map p
def stepL (n : Nat) (l : List Nat) : Option (List Nat) := (stepF (lAt l) n).map (tlN n)
def chn (n : Nat) : List (List Nat) → Bool
  | [] => true
  | [l] => (stepL n l).isNone
  | l :: l' :: r => decide (stepL n l = some l') && chn n (l' :: r)
section TPE
variable {n : Nat}
theorem chn7 : (∀ n, n < 7 → chn n (lvs n n []) = true) := by decide +kernel
theorem chn8 : chn 7 (lvs 7 7 []) = true := by decide +kernel
end TPE
