/-! the triangle modulo a prime -/
def tmS (p j a b : Nat) : Nat := (j + 1) * (a + p - b) % p
def tmn (p : Nat) : Nat → List Nat → List Nat
  | k, a :: b :: l => tmS p k a b :: tmn p (k + 1) (b :: l)
  | _, _ => []
def tmw (p : Nat) : Nat → List Nat
  | 0 => (List.range (p - 1)).map (fun j => (j + 1) ^ (p - 2) % p)
  | n + 1 => tmn p 0 (tmw p n)
def tck (p : Nat) : Bool := (List.range (p - 1)).all (fun n => (match tmw p n with | [] => 0 | a :: _ => if n = 1 then (a + p - 1) % p else a) == bwS p n)
theorem tck_c : ∀ p ∈ prN, tck p = true := by decide +kernel
