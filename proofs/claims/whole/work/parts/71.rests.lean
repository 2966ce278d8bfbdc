/-! what the three ways must give modulo a prime -/
def pck (p : Nat) : Bool := (List.range (p - 1)).all (fun k => k == 0 || psum k p % (p * p) == p * bwS p k)
theorem pck_c : ∀ p ∈ prN, pck p = true := by decide +kernel
