/-! FRACTIONS: greatest common divisors, and a fraction as it is told -/
def xfib : Nat → Nat
  | 0 => 0
  | 1 => 1
  | n + 2 => xfib (n + 1) + xfib n
theorem gcd_step {g l : Int} : Int.gcd g l = Int.gcd l (g % l) := by
  rw [Int.gcd_comm l, Int.gcd_emod, Int.gcd_comm]
section GCD
variable {l0 l2 : Int64} {w : xW}
/-- the state of the class's loop -/
def gG (l0 l2 : Int64) (w : xW) (g l i : Int) (res : Int) : Prop := xGo 18 9 [some (.long l0), none, some (.long l2), none, some (.long (jL g)), none, some (.long (jL l)), none, some (.int (jI i)), none, none] [] w (some (.long (jL res)), w)
theorem gG_end {g i : Int} (hg : 0 < g) (h64 : in64 g) (hi : 0 ≤ i) (hi2 : i ≤ 100) : gG l0 l2 w g 0 i (Int.gcd g 0) := by
  have e : ((Int.gcd g 0 : Nat) : Int) = g := by rw [Int.gcd_zero_right]; exact Int.natAbs_of_nonneg (Int.le_of_lt hg)
  rw [e]
  unfold gG
  have hn : ¬ (jL g ≤ (0 : Int64)) := by rw [show (0 : Int64) = jL 0 from rfl, jL_le h64 z64]; omega
  refine S_18_9 ⟨fun _ => ⟨fun h => absurd h hn, fun _ => rfl⟩, fun _ => ⟨fun _ => ⟨fun h => absurd h hn, fun _ => rfl⟩, fun h => absurd ?_ h⟩⟩
  rw [show (0 : Int64) = jL 0 from rfl, jL_le z64 z64]
  omega
theorem gG_step {g l i : Int} (hl : 0 < l) (hg : l < g) (h64 : in64 g) (hi : 0 ≤ i) (hi2 : i < 100) (h : gG l0 l2 w l (g % l) (i + 1) (Int.gcd l (g % l))) : gG l0 l2 w g l i (Int.gcd g l) := by
  rw [gcd_step (g := g)]
  have l64 : in64 l := ⟨by have := h64.1; omega, by have := h64.2; omega⟩
  have i32 : in32 i := ⟨by omega, by omega⟩
  unfold gG at *
  refine S_18_9 ⟨fun q => ?_, fun _ => ⟨fun q => ?_, fun _ => ⟨?_, fun v hv v3 hv3 => ?_⟩⟩⟩
  · rw [show (100 : Int32) = jI 100 from rfl, jI_le ⟨by decide, by decide⟩ i32] at q
    omega
  · rw [show (0 : Int64) = jL 0 from rfl, jL_le l64 z64] at q
    omega
  · rw [show (0 : Int64) = jL 0 from rfl, jL_eq l64 z64]
    omega
  · rw [jL_remN h64 (by omega) l64] at hv
    rw [show (1 : Int32) = jI 1 from rfl, jI_add] at hv3
    rw [hv, hv3]
    exact h
theorem gG_all : ∀ n : Nat, (∀ g l i : Int, 0 ≤ l → l < g → in64 g → 0 ≤ i → i + n ≤ 100 → g < xfib (n + 2) → gG l0 l2 w g l i (Int.gcd g l)) ∧ (∀ g l i : Int, 0 ≤ l → l < g → in64 g → 0 ≤ i → i + n ≤ 100 → l < xfib (n + 1) → gG l0 l2 w g l i (Int.gcd g l))
  | 0 => by
    refine ⟨fun g l i h1 h2 _ _ _ h6 => ?_, fun g l i h1 h2 h3 h4 h5 h6 => ?_⟩
    · have : (xfib 2 : Int) = 1 := rfl
      omega
    · have : (xfib 1 : Int) = 1 := rfl
      have e : l = 0 := by omega
      subst e
      exact gG_end (by omega) h3 h4 (by omega)
  | n + 1 => by
    obtain ⟨iA, iB⟩ := gG_all n
    have B : ∀ g l i : Int, 0 ≤ l → l < g → in64 g → 0 ≤ i → i + (n + 1 : Nat) ≤ 100 → l < xfib (n + 1 + 1) → gG l0 l2 w g l i (Int.gcd g l) := by
      intro g l i h1 h2 h3 h4 h5 h6
      by_cases hl : l = 0
      · subst hl
        exact gG_end (by omega) h3 h4 (by omega)
      · have l64 : in64 l := ⟨by have := h3.1; omega, by have := h3.2; omega⟩
        exact gG_step (by omega) h2 h3 h4 (by omega) (iA l (g % l) (i + 1) (Int.emod_nonneg _ hl) (Int.emod_lt_of_pos _ (by omega)) l64 (by omega) (by omega) h6)
    refine ⟨fun g l i h1 h2 h3 h4 h5 h6 => ?_, B⟩
    by_cases hc : l < xfib (n + 1 + 1)
    · exact B g l i h1 h2 h3 h4 h5 hc
    · have hp : 0 < l := by
        apply Int.lt_of_not_ge
        intro q
        have e : l = 0 := by omega
        subst e
        have h7 : xfib (n + 1 + 2) = xfib (n + 1 + 1) + xfib (n + 1) := rfl
        have h8 : xfib (n + 1 + 1) = xfib (n + 1) + xfib n := rfl
        omega
      have l64 : in64 l := ⟨by have := h3.1; omega, by have := h3.2; omega⟩
      have h7 : xfib (n + 1 + 2) = xfib (n + 1 + 1) + xfib (n + 1) := rfl
      have hr : g % l ≤ g - l := by
        have e1 := Int.mul_ediv_add_emod g l
        have e2 : 1 ≤ g / l := by rw [Int.le_ediv_iff_mul_le hp]; omega
        have e3 : l * 1 ≤ l * (g / l) := Int.mul_le_mul_of_nonneg_left e2 (by omega)
        omega
      exact gG_step hp h2 h3 h4 (by omega) (iB l (g % l) (i + 1) (Int.emod_nonneg _ (by omega)) (Int.emod_lt_of_pos _ hp) l64 (by omega) (by omega) (by omega))
end GCD
theorem C_gcd {a b : Int} (h0 : 0 ≤ a) (h1 : a < b) (hb : in64 b) (w : xW) : xCall 18 [.long (jL a), .long (jL b)] w (some (.long (jL (Int.gcd b a))), w) := by
  refine E_18 (S_18_0 ?_)
  have hf : (9223372036854775807 : Int) < (xfib (98 + 2) : Nat) := by decide +kernel
  exact (gG_all 98).1 b a 0 h0 h1 hb (by omega) (by omega) (by have := hb.2; omega)
