/-! FRACTIONS: greatest common divisors, and a fraction as it is told -/
def xfib : Nat → Nat
  | 0 => 0
  | 1 => 1
  | n + 2 => xfib (n + 1) + xfib n
theorem gcd_step {g l : Int} (hg : 0 ≤ g) (hl : 0 ≤ l) : Int.gcd g l = Int.gcd l (g % l) := by
  obtain ⟨m, rfl⟩ := Int.eq_ofNat_of_zero_le hg
  obtain ⟨n, rfl⟩ := Int.eq_ofNat_of_zero_le hl
  rw [← Int.natCast_emod, Int.gcd_natCast_natCast, Int.gcd_natCast_natCast, Nat.gcd_comm m n, Nat.gcd_rec n m, Nat.gcd_comm]
section GCD
variable {l0 l2 : Int64} {w : xW}
/-- the state of the class's loop -/
def gG (l0 l2 : Int64) (w : xW) (g l i : Int) (res : Int) : Prop := xGo 18 9 [some (.long l0), none, some (.long l2), none, some (.long (jL g)), none, some (.long (jL l)), none, some (.int (jI i)), none, none] [] w (some (.long (jL res)), w)
theorem gG_end {g i : Int} (hg : 0 < g) (h64 : in64 g) (hi : 0 ≤ i) (hi2 : i ≤ 100) : gG l0 l2 w g 0 i (Int.gcd g 0) := by
  have e : ((Int.gcd g 0 : Nat) : Int) = g := by rw [Int.gcd_zero_right]; exact Int.natAbs_of_nonneg (Int.le_of_lt hg)
  rw [e]
  unfold gG
  have hn : ¬ (jL g ≤ (0 : Int64)) := by rw [show (0 : Int64) = jL 0 from rfl, jL_le h64 z64]; omega
  refine S_18_9 ⟨fun _ => ⟨fun h => absurd h hn, fun _ => rfl⟩, fun _ => ⟨fun _ => ⟨fun h => absurd h hn, fun _ => rfl⟩, fun h => absurd ?_ h⟩⟩
  rw [show (0 : Int64) = jL 0 from rfl, jL_le z64 z64]
  omega
theorem gG_step {g l i : Int} (hl : 0 < l) (hg : l < g) (h64 : in64 g) (hi : 0 ≤ i) (hi2 : i < 100) (h : gG l0 l2 w l (g % l) (i + 1) (Int.gcd l (g % l))) : gG l0 l2 w g l i (Int.gcd g l) := by
  rw [gcd_step (g := g) (by omega) (by omega)]
  have l64 : in64 l := ⟨by have := h64.1; omega, by have := h64.2; omega⟩
  have i32 : in32 i := ⟨by omega, by omega⟩
  unfold gG at *
  refine S_18_9 ⟨fun q => ?_, fun _ => ⟨fun q => ?_, fun _ => ⟨?_, fun v hv v3 hv3 => ?_⟩⟩⟩
  · rw [show (100 : Int32) = jI 100 from rfl, jI_le ⟨by decide, by decide⟩ i32] at q
    omega
  · rw [show (0 : Int64) = jL 0 from rfl, jL_le l64 z64] at q
    omega
  · rw [show (0 : Int64) = jL 0 from rfl, jL_eq l64 z64]
    omega
  · rw [jL_remN h64 (by omega) l64] at hv
    rw [show (1 : Int32) = jI 1 from rfl, jI_add] at hv3
    rw [hv, hv3]
    exact h
theorem gG_all : ∀ n : Nat, (∀ g l i : Int, 0 ≤ l → l < g → in64 g → 0 ≤ i → i + n ≤ 100 → g < xfib (n + 2) → gG l0 l2 w g l i (Int.gcd g l)) ∧ (∀ g l i : Int, 0 ≤ l → l < g → in64 g → 0 ≤ i → i + n ≤ 100 → l < xfib (n + 1) → gG l0 l2 w g l i (Int.gcd g l))
  | 0 => by
    refine ⟨fun g l i h1 h2 _ _ _ h6 => ?_, fun g l i h1 h2 h3 h4 h5 h6 => ?_⟩
    · have : ((xfib (0 + 2) : Nat) : Int) = 1 := rfl
      omega
    · have : ((xfib (0 + 1) : Nat) : Int) = 1 := rfl
      have e : l = 0 := by omega
      subst e
      exact gG_end (by omega) h3 h4 (by omega)
  | n + 1 => by
    obtain ⟨iA, iB⟩ := gG_all n
    have B : ∀ g l i : Int, 0 ≤ l → l < g → in64 g → 0 ≤ i → i + (n + 1 : Nat) ≤ 100 → l < xfib (n + 1 + 1) → gG l0 l2 w g l i (Int.gcd g l) := by
      intro g l i h1 h2 h3 h4 h5 h6
      by_cases hl : l = 0
      · subst hl
        exact gG_end (by omega) h3 h4 (by omega)
      · have l64 : in64 l := ⟨by have := h3.1; omega, by have := h3.2; omega⟩
        exact gG_step (by omega) h2 h3 h4 (by omega) (iA l (g % l) (i + 1) (Int.emod_nonneg _ hl) (Int.emod_lt_of_pos _ (by omega)) l64 (by omega) (by omega) h6)
    refine ⟨fun g l i h1 h2 h3 h4 h5 h6 => ?_, B⟩
    by_cases hc : l < xfib (n + 1 + 1)
    · exact B g l i h1 h2 h3 h4 h5 hc
    · have hp : 0 < l := by
        apply Int.lt_of_not_ge
        intro q
        have e : l = 0 := by omega
        subst e
        have h7 : xfib (n + 1 + 2) = xfib (n + 1 + 1) + xfib (n + 1) := rfl
        have h8 : xfib (n + 1 + 1) = xfib (n + 1) + xfib n := rfl
        omega
      have l64 : in64 l := ⟨by have := h3.1; omega, by have := h3.2; omega⟩
      have h7 : xfib (n + 1 + 2) = xfib (n + 1 + 1) + xfib (n + 1) := rfl
      have hr : g % l ≤ g - l := by
        have e1 := Int.mul_ediv_add_emod g l
        have e2 : 1 ≤ g / l := by rw [Int.le_ediv_iff_mul_le hp]; omega
        have e3 : l * 1 ≤ l * (g / l) := Int.mul_le_mul_of_nonneg_left e2 (by omega)
        omega
      exact gG_step hp h2 h3 h4 (by omega) (iB l (g % l) (i + 1) (Int.emod_nonneg _ (by omega)) (Int.emod_lt_of_pos _ hp) l64 (by omega) (by omega) (by omega))
end GCD
theorem C_gcd {a b : Int} (h0 : 0 ≤ a) (h1 : a < b) (hb : in64 b) (w : xW) : xCall 18 [.long (jL a), .long (jL b)] w (some (.long (jL (Int.gcd b a))), w) := by
  refine E_18 (S_18_0 ?_)
  have hf : (9223372036854775807 : Int) < (xfib (98 + 2) : Nat) := by decide +kernel
  exact (gG_all 98).1 b a 0 h0 h1 hb (by omega) (by omega) (by have := hb.2; omega)
/-- a fraction's cell -/
def frac (x y z : Int) : xC := .inr (5, [.long (jL x), .long (jL y), .long (jL z)])
/-- in lowest terms: the whole number, what is above, what is below -/
def nfW (a na nb : Int) : Int := a + na / nb
def nfG (na nb : Int) : Int := (Int.gcd nb (na % nb) : Nat)
def nfA (na nb : Int) : Int := (na % nb) / nfG na nb
def nfB (na nb : Int) : Int := nb / nfG na nb
theorem nfG_pos {na nb : Int} (hb : 0 < nb) : 0 < nfG na nb := by
  unfold nfG
  have : 0 < Int.gcd nb (na % nb) := Int.gcd_pos_of_ne_zero_left _ (by omega)
  omega
theorem nfG_le {na nb : Int} (hb : 0 < nb) : nfG na nb ≤ nb := by
  unfold nfG
  have h := Int.gcd_dvd_left (a := nb) (b := na % nb)
  exact Int.le_of_dvd hb h
theorem C_become {w : xW} {a : Nat} {x y z nw na nb : Int} (h : w[a]? = some (frac x y z)) (hb : 0 < nb) (h2 : in64 na) (h3 : in64 nb) :
    xCall 16 [.ref a, .long (jL nw), .long (jL na), .long (jL nb)] w (none, w.set a (frac (nfW nw na nb) (nfA na nb) (nfB na nb))) := by
  have m0 := Int.emod_nonneg na (Int.ne_of_gt hb)
  have m1 := Int.emod_lt_of_pos na hb
  have g0 := nfG_pos (na := na) hb
  have g1 := nfG_le (na := na) hb
  have m64 : in64 (na % nb) := ⟨by omega, by have := h3.2; omega⟩
  have g64 : in64 (nfG na nb) := ⟨by omega, by have := h3.2; omega⟩
  have hg : ¬ jL (nfG na nb) = 0 := by
    rw [show (0 : Int64) = jL 0 from rfl, jL_eq g64 z64]
    omega
  refine E_16 (S_16_0 ⟨fun _ => ⟨_, _, C_floorMod h2 h3 hb w, _, _, C_gcd m0 m1 h3 w, _, _, C_floorDiv h2 h3 hb w, _, h, fun v12 e12 => ⟨by simp, fun w14 e14 => ⟨hg, fun v16 e16 => ⟨by simp, fun w18 e18 => ⟨hg, fun v20 e20 => ⟨by simp, fun w22 e22 => ?_⟩⟩⟩⟩⟩⟩, fun q => absurd ?_ q⟩)
  · rw [jL_add] at e12
    rw [show (jL ((Int.gcd nb (na % nb) : Nat) : Int)) = jL (nfG na nb) from rfl, jL_divN m64 m0 g64] at e16
    rw [show (jL ((Int.gcd nb (na % nb) : Nat) : Int)) = jL (nfG na nb) from rfl, jL_divN h3 (Int.le_of_lt hb) g64] at e20
    subst e12; subst e16; subst e20; subst e14; subst e18; subst e22
    rw [List.set_set, List.set_set]
    rfl
  · rw [show (0 : Int64) = jL 0 from rfl, jL_lt z64 h3]
    exact hb
theorem C_told {w : xW} {a : Nat} {x y z i : Int} (hi : 0 ≤ i ∧ i ≤ 2) (h : w[a]? = some (frac x y z)) : xCall 117 [.ref a, .int (jI i)] w (some (.long (jL (if i = 0 then x else if i = 1 then y else z))), w) := by
  have i32 : in32 i := ⟨by omega, by omega⟩
  have e1 : (1 : Int32) = jI 1 := rfl
  have o32 : in32 1 := ⟨by decide, by decide⟩
  refine E_117 (S_117_0 ?_)
  rw [show (0 : Int32) = jI 0 from rfl, e1, jI_eq i32 z32, jI_eq i32 o32]
  refine ⟨fun c => ⟨fun d => ⟨_, h, _, rfl, ?_⟩, fun d => ⟨_, h, _, rfl, ?_⟩⟩, fun c => ⟨_, h, _, rfl, ?_⟩⟩
  · rw [if_neg c, if_neg d]
  · rw [if_neg c, if_pos (Decidable.not_not.mp d)]
  · rw [if_pos (Decidable.not_not.mp c)]
theorem C_multiply {w : xW} {a : Nat} {x y z f : Int} (h : w[a]? = some (frac x y z)) (hz : 0 < z) (h2 : in64 (f * y)) (h3 : in64 z) :
    xCall 43 [.ref a, .long (jL f)] w (none, w.set a (frac (nfW (f * x) (f * y) z) (nfA (f * y) z) (nfB (f * y) z))) := by
  refine E_43 (S_43_0 ⟨_, h, _, rfl, _, rfl, _, rfl, _, ?_, rfl⟩)
  rw [jL_mul, jL_mul]
  exact C_become h hz h2 h3
theorem C_divide {w : xW} {a : Nat} {x y z d : Int} (h : w[a]? = some (frac x y z)) (hz : 0 < z) (hd : 0 < d) (d64 : in64 d) (x64 : in64 x) (h2 : in64 (x % d * z + y)) (h3 : in64 (z * d)) :
    xCall 44 [.ref a, .long (jL d)] w (none, w.set a (frac (nfW (x / d) (x % d * z + y) (z * d)) (nfA (x % d * z + y) (z * d)) (nfB (x % d * z + y) (z * d)))) := by
  refine E_44 (S_44_0 ⟨fun q => ?_, fun _ => ⟨_, h, _, rfl, _, _, C_floorMod x64 d64 hd w, _, h, _, rfl, _, _, C_floorDiv x64 d64 hd w, _, h, _, rfl, _, rfl, _, ?_, rfl⟩⟩)
  · rw [show (0 : Int64) = jL 0 from rfl, jL_le d64 z64] at q
    omega
  · rw [jL_mul, jL_add, jL_mul]
    exact C_become h (Int.mul_pos hz hd) h2 h3
/-- the line's upper number -/
theorem C_overLine {w : xW} {a : Nat} {x y z : Int} (h : w[a]? = some (frac x y z)) : xCall 150 [.ref a] w (some (.long (jL (x * z + y))), w) := by
  refine E_150 (S_150_0 ?_)
  refine ⟨_, h, _, rfl, _, rfl, _, rfl, ?_⟩
  rw [jL_mul, jL_add]
