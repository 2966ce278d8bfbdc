/-! WHAT MAKES 1 WITH A NUMBER, MODULO ANOTHER -/
/-- u and v are what the loop has beside g and l -/
def iInv (a m g l u v : Int) : Prop := m ∣ (u * a - g) ∧ m ∣ (v * a - l) ∧ Int.gcd g l = 1 ∧ -m ≤ u ∧ u ≤ m ∧ ∃ s : Int, (s = 1 ∨ s = -1) ∧ 0 ≤ s * v ∧ s * u ≤ 0 ∧ g * (s * v) + l * (-(s * u)) = m
theorem iInv.v_le {a m g l u v : Int} (h : iInv a m g l u v) (hg : 0 < g) (hl : 0 ≤ l) : -m ≤ v ∧ v ≤ m := by
  obtain ⟨-, -, -, -, -, s, hs, h1, h2, h3⟩ := h
  have e1 : s * v ≤ g * (s * v) := by
    have := Int.mul_le_mul_of_nonneg_right (show 1 ≤ g by omega) h1
    omega
  have e2 : 0 ≤ l * (-(s * u)) := Int.mul_nonneg hl (by omega)
  rcases hs with rfl | rfl <;> omega
theorem iInv.step {a m g l u v : Int} (h : iInv a m g l u v) (hg : 0 < g) (hl : 0 < l) : iInv a m l (g % l) v (u - g / l * v) := by
  have hv := h.v_le hg (Int.le_of_lt hl)
  obtain ⟨d1, d2, d3, d4, d5, s, hs, h1, h2, h3⟩ := h
  have em : g % l = g - l * (g / l) := Int.emod_def g l
  have hq : 0 ≤ g / l := Int.ediv_nonneg (Int.le_of_lt hg) (Int.le_of_lt hl)
  refine ⟨d2, ?_, by rw [← gcd_step (Int.le_of_lt hg) (Int.le_of_lt hl)]; exact d3, hv.1, hv.2, -s, by omega, ?_, ?_, ?_⟩
  · have e : (u - g / l * v) * a - g % l = (u * a - g) - g / l * (v * a - l) := by
      rw [em, Int.sub_mul, Int.mul_sub, Int.mul_assoc, Int.mul_comm (g / l) l]
      omega
    rw [e]
    exact Int.dvd_sub d1 (Int.dvd_mul_of_dvd_right d2)
  · have e : -s * (u - g / l * v) = -(s * u) + g / l * (s * v) := by
      rw [Int.neg_mul, Int.mul_sub, Int.mul_left_comm s]
      omega
    rw [e]
    have := Int.mul_nonneg hq h1
    omega
  · rw [Int.neg_mul]
    omega
  · have e1 : -s * (u - g / l * v) = -(s * u) + g / l * (s * v) := by
      rw [Int.neg_mul, Int.mul_sub, Int.mul_left_comm s]
      omega
    have e2 : -(-s * v) = s * v := by
      rw [Int.neg_mul]
      omega
    rw [e1, e2, em, Int.mul_add, Int.sub_mul]
    have e3 : l * (g / l * (s * v)) = l * (g / l) * (s * v) := by rw [Int.mul_assoc]
    omega
section INV
variable {l0 : Int64} {a m : Int} {w : xW}
def iGo (l0 : Int64) (a m : Int) (w : xW) (g l u v i : Int) : Prop := ∃ x : Nat, (x : Int) < m ∧ m ∣ ((x : Int) * a - 1) ∧ xGo 53 27 [some (.long l0), none, some (.long (jL m)), none, some (.long (jL g)), none, some (.long (jL l)), none, some (.long (jL u)), none, some (.long (jL v)), none, some (.int (jI i)), none, none, none, none, none, none] [] w (some (.long (jL x)), w)
theorem iGo_end {g u v i : Int} (h : iInv a m g 0 u v) (hm : 0 < m) (hm2 : m ≤ 3037000499) (hg : 0 < g) (hi : 0 ≤ i) (hi2 : i ≤ 100) : iGo l0 a m w g 0 u v i := by
  obtain ⟨d1, -, d3, d4, d5, -⟩ := h
  have e : g = 1 := by
    rw [Int.gcd_zero_right] at d3
    omega
  subst e
  have m0 := Int.emod_nonneg u (Int.ne_of_gt hm)
  have m1 := Int.emod_lt_of_pos u hm
  refine ⟨(u % m).toNat, by omega, ?_, ?_⟩
  · rw [Int.toNat_of_nonneg m0]
    have e : u % m * a - 1 = (u * a - 1) - m * (u / m * a) := by
      rw [Int.emod_def, Int.sub_mul, Int.mul_assoc]
      omega
    rw [e]
    exact Int.dvd_sub d1 (Int.dvd_mul_right _ _)
  · rw [Int.toNat_of_nonneg m0]
    have c := C_floorMod (a := u) (b := m) s64 s64 hm w
    refine S_53_27 ⟨fun _ => ⟨_, _, c, rfl⟩, fun _ => ⟨fun _ => ⟨_, _, c, rfl⟩, fun q => absurd ?_ q⟩⟩
    rw [show (0 : Int64) = jL 0 from rfl, jL_le z64 z64]
    omega
theorem iGo_step {g l u v i : Int} (h : iInv a m g l u v) (hm : 0 < m) (hm2 : m ≤ 3037000499) (hl : 0 < l) (hg : l < g) (hgm : g ≤ m) (hi : 0 ≤ i) (hi2 : i < 100) (n : iGo l0 a m w l (g % l) v (u - g / l * v) (i + 1)) : iGo l0 a m w g l u v i := by
  obtain ⟨x, hx1, hx2, n⟩ := n
  refine ⟨x, hx1, hx2, ?_⟩
  have hq0 : 0 ≤ g / l := Int.ediv_nonneg (by omega) (by omega)
  refine S_53_27 (bI_le 100 i s32 s32 (fun c => by omega) (fun _ => bL_le l 0 s64 z64 (fun c => by omega) (fun _ => ⟨ne_L l 0 s64 z64 (by omega), fun v8 e8 v9 e9 v10 e10 v11 e11 => ?_⟩)))
  rw [jL_divN s64 (by omega) s64] at e8
  rw [e8, jL_mul, jL_sub, show g - g / l * l = g % l by rw [Int.emod_def, Int.mul_comm]] at e9
  rw [e8, jL_mul, jL_sub] at e10
  rw [show (1 : Int32) = jI 1 from rfl, jI_add] at e11
  subst e9; subst e10; subst e11
  exact n
theorem iGo_all (hm : 0 < m) (hm2 : m ≤ 3037000499) : ∀ n : Nat, (∀ g l u v i : Int, iInv a m g l u v → 0 ≤ l → l < g → g ≤ m → 0 ≤ i → i + n ≤ 100 → g < xfib (n + 2) → iGo l0 a m w g l u v i) ∧ (∀ g l u v i : Int, iInv a m g l u v → 0 ≤ l → l < g → g ≤ m → 0 ≤ i → i + n ≤ 100 → l < xfib (n + 1) → iGo l0 a m w g l u v i)
  | 0 => by
    refine ⟨fun g l u v i _ h1 h2 _ _ _ h6 => ?_, fun g l u v i h0 h1 h2 h3 h4 h5 h6 => ?_⟩
    · have : ((xfib (0 + 2) : Nat) : Int) = 1 := rfl
      omega
    · have : ((xfib (0 + 1) : Nat) : Int) = 1 := rfl
      have e : l = 0 := by omega
      subst e
      exact iGo_end h0 hm hm2 (by omega) h4 (by omega)
  | n + 1 => by
    obtain ⟨iA, iB⟩ := iGo_all hm hm2 n
    have B : ∀ g l u v i : Int, iInv a m g l u v → 0 ≤ l → l < g → g ≤ m → 0 ≤ i → i + (n + 1 : Nat) ≤ 100 → l < xfib (n + 1 + 1) → iGo l0 a m w g l u v i := by
      intro g l u v i h0 h1 h2 h3 h4 h5 h6
      by_cases hl : l = 0
      · subst hl
        exact iGo_end h0 hm hm2 (by omega) h4 (by omega)
      · exact iGo_step h0 hm hm2 (by omega) h2 h3 h4 (by omega) (iA l (g % l) _ _ (i + 1) (h0.step (by omega) (by omega)) (Int.emod_nonneg _ hl) (Int.emod_lt_of_pos _ (by omega)) (by omega) (by omega) (by omega) h6)
    refine ⟨fun g l u v i h0 h1 h2 h3 h4 h5 h6 => ?_, B⟩
    by_cases hc : l < xfib (n + 1 + 1)
    · exact B g l u v i h0 h1 h2 h3 h4 h5 hc
    · have h7 : xfib (n + 1 + 2) = xfib (n + 1 + 1) + xfib (n + 1) := rfl
      have h8 : xfib (n + 1 + 1) = xfib (n + 1) + xfib n := rfl
      have hp : 0 < l := by
        apply Int.lt_of_not_ge
        intro q
        have e : l = 0 := by omega
        subst e
        omega
      have hr : g % l ≤ g - l := by
        have e1 := Int.mul_ediv_add_emod g l
        have e2 : 1 ≤ g / l := by rw [Int.le_ediv_iff_mul_le hp]; omega
        have e3 : l * 1 ≤ l * (g / l) := Int.mul_le_mul_of_nonneg_left e2 (by omega)
        omega
      exact iGo_step h0 hm hm2 hp h2 h3 h4 (by omega) (iB l (g % l) _ _ (i + 1) (h0.step (by omega) hp) (Int.emod_nonneg _ (by omega)) (Int.emod_lt_of_pos _ hp) (by omega) (by omega) (by omega) (by omega))
end INV
/-- Modulo.inverse -/
theorem C_inverse {a m : Int} (ha : in64 a) (hm : 2 ≤ m) (hm2 : m ≤ 3037000499) (hg : Int.gcd m (a % m) = 1) (w : xW) : ∃ x : Nat, (x : Int) < m ∧ m ∣ ((x : Int) * a - 1) ∧ xCall 53 [.long (jL a), .long (jL m)] w (some (.long (jL x)), w) := by
  have m0 := Int.emod_nonneg a (show m ≠ 0 by omega)
  have m1 := Int.emod_lt_of_pos a (show 0 < m by omega)
  have hI : iInv a m m (a % m) 0 1 := by
    refine ⟨⟨-1, by omega⟩, ?_, hg, by omega, by omega, 1, Or.inl rfl, by omega, by omega, by omega⟩
    rw [Int.one_mul, Int.emod_def]
    exact ⟨a / m, by omega⟩
  have hf : (3037000499 : Int) < (xfib (98 + 2) : Nat) := by decide +kernel
  obtain ⟨x, h1, h2, h3⟩ := (iGo_all (l0 := jL a) (w := w) (by omega) hm2 98).1 m (a % m) 0 1 0 hI m0 m1 (by omega) (by omega) (by omega) (by omega)
  refine ⟨x, h1, h2, E_53 (S_53_0 (bL_lt 0 m z64 s64 (fun _ => ⟨_, _, C_floorMod ha s64 (by omega) w, h3⟩) (fun c => by omega)))⟩
