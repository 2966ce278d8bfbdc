/-! POWERS, AND THEIR SUMS, MODULO A NUMBER -/
theorem pw_odd (R S M h : Nat) : (R * S % M) * (S * S % M) ^ h % M = R * S ^ (2 * h + 1) % M := by
  rw [Nat.mul_mod, Nat.mod_mod, Nat.pow_mod, Nat.mod_mod, ← Nat.pow_mod, ← Nat.mul_mod]
  congr 1
  rw [← Nat.pow_two, ← Nat.pow_mul, Nat.pow_succ, Nat.mul_assoc, Nat.mul_comm S]
theorem pw_even (R S M h : Nat) : R * (S * S % M) ^ h % M = R * S ^ (2 * h) % M := by
  rw [Nat.mul_mod, Nat.pow_mod, Nat.mod_mod, ← Nat.pow_mod, ← Nat.mul_mod]
  congr 1
  rw [← Nat.pow_two, ← Nat.pow_mul]
theorem mul_lt64 {a b M : Nat} (ha : a < M) (hb : b < M) (hM : M ≤ 3037000499) : in64 ((a : Int) * (b : Int)) := by
  have h : a * b ≤ 3037000499 * 3037000499 := Nat.mul_le_mul (by omega) (by omega)
  have e : (a : Int) * (b : Int) = ((a * b : Nat) : Int) := by simp
  rw [e]
  exact ⟨by omega, by omega⟩
theorem jL_mulmod {a b M : Nat} (ha : a < M) (hb : b < M) (hM : M ≤ 3037000499) : lrem (jL (a : Int) * jL (b : Int)) (jL (M : Int)) = jL ((a * b % M : Nat) : Int) := by
  rw [jL_mul, jL_remN (mul_lt64 ha hb hM) (by have : (0 : Int) ≤ ((a * b : Nat) : Int) := by omega
                                              simpa using this) s64]
  simp
theorem L_power {l0 : Int64} {n M : Nat} {w : xW} (hn : n < 2 ^ 31) (hM : M ≤ 3037000499) : ∀ (k i R S : Nat), i + k = 31 → R < M → S < M →
    xGo 50 23 [some (.long l0), none, some (.int (jI n)), some (.long (jL M)), none, some (.long (jL R)), none, some (.long (jL S)), none, some (.int (jI i))] [] w (some (.long (jL ((R * S ^ (n / 2 ^ i) % M : Nat) : Int))), w)
  | 0, i, R, S, hi, hR, hS => by
    have e : n / 2 ^ i = 0 := by rw [show i = 31 by omega]; exact Nat.div_eq_of_lt hn
    rw [e, Nat.pow_zero, Nat.mul_one, Nat.mod_eq_of_lt hR]
    refine S_50_23 (bI_le 31 i s32 s32 (fun _ => rfl) (fun c => ?_))
    omega
  | k + 1, i, R, S, hi, hR, hS => by
    refine S_50_23 (bI_le 31 i s32 s32 (fun c => by omega) (fun _ => ?_))
    have hq : n / 2 ^ i < 2 ^ 31 := Nat.lt_of_le_of_lt (Nat.div_le_self _ _) hn
    rw [jI_shr hn (by omega), jI_and1 hq]
    have hM0 : ¬ jL (M : Int) = 0 := ne_L M 0 s64 z64 (by omega)
    have hd : n / 2 ^ (i + 1) = n / 2 ^ i / 2 := by rw [Nat.pow_succ, Nat.div_div_eq_div_mul]
    generalize n / 2 ^ i = q at hq hd ⊢
    refine bI_le (q : Nat) 0 s32 z32 (fun c => ?_) (fun c => bI_ne (q % 2 : Nat) 1 s32 s32 (fun c2 => ⟨hM0, fun v2 e2 v3 e3 => ?_⟩) (fun c2 => ⟨hM0, fun v5 e5 => ⟨hM0, fun v7 e7 v8 e8 => ?_⟩⟩))
    · have e : q = 0 := by omega
      rw [e, Nat.pow_zero, Nat.mul_one, Nat.mod_eq_of_lt hR]
    · rw [jL_mulmod hS hS hM] at e2
      rw [show (1 : Int32) = jI 1 from rfl, jI_add] at e3
      subst e2; subst e3
      have ih := L_power (l0 := l0) (w := w) hn hM k (i + 1) R (S * S % M) (by omega) hR (Nat.mod_lt _ (by omega))
      rw [hd, pw_even, show 2 * (q / 2) = q by omega] at ih
      exact ih
    · rw [jL_mulmod hR hS hM] at e5
      rw [jL_mulmod hS hS hM] at e7
      rw [show (1 : Int32) = jI 1 from rfl, jI_add] at e8
      subst e5; subst e7; subst e8
      have ih := L_power (l0 := l0) (w := w) hn hM k (i + 1) (R * S % M) (S * S % M) (by omega) (Nat.mod_lt _ (by omega)) (Nat.mod_lt _ (by omega))
      rw [hd, pw_odd, show 2 * (q / 2) + 1 = q by omega] at ih
      exact ih
/-- Modulo.power -/
theorem C_power {b : Int} (hb : in64 b) {n M : Nat} (hn : n < 2 ^ 31) (h0 : 0 < M) (hM : M ≤ 3037000499) (w : xW) : xCall 50 [.long (jL b), .int (jI n), .long (jL M)] w (some (.long (jL (((b % M).toNat ^ n % M : Nat) : Int))), w) := by
  have m0 := Int.emod_nonneg b (b := (M : Int)) (by omega)
  have m1 := Int.emod_lt_of_pos b (b := (M : Int)) (by omega)
  refine E_50 (S_50_0 (bL_lt 0 M z64 s64 (fun _ => ⟨ne_L M 0 s64 z64 (by omega), fun v e => ⟨_, _, C_floorMod hb s64 (by omega) w, ?_⟩⟩) (fun c => by omega)))
  have e1 : lrem (1 : Int64) (jL M) = jL ((1 % M : Nat) : Int) := by
    rw [show (1 : Int64) = jL 1 from rfl, jL_remN s64 (by omega) s64]
    simp
  rw [e1] at e
  subst e
  have hS : (b % M).toNat < M := by omega
  have e2 : jL (b % M) = jL (((b % M).toNat : Nat) : Int) := by rw [Int.toNat_of_nonneg m0]
  rw [e2]
  have ih := L_power (l0 := jL b) (w := w) hn hM 31 0 (1 % M) (b % M).toNat (by omega) (Nat.mod_lt _ h0) hS
  rw [Nat.pow_zero, Nat.div_one, Nat.mul_mod, Nat.mod_mod, ← Nat.mul_mod, Nat.one_mul] at ih
  exact ih
theorem C_powerN {a n M : Nat} (ha : a < 2 ^ 31) (hn : n < 2 ^ 31) (h0 : 0 < M) (hM : M ≤ 3037000499) (w : xW) : xCall 50 [.long (jL a), .int (jI n), .long (jL M)] w (some (.long (jL ((a ^ n % M : Nat) : Int))), w) := by
  have h := C_power (b := (a : Int)) s64 hn h0 hM w
  rw [← Int.natCast_emod, Int.toNat_natCast, ← Nat.pow_mod] at h
  exact h
/-- the powers of all from 1 to below p -/
def psum (n : Nat) : Nat → Nat
  | 0 => 0
  | a + 1 => psum n a + (if a = 0 then 0 else a ^ n)
theorem psum_1 (n : Nat) : psum n 1 = 0 := rfl
theorem psum_s {n a : Nat} (h : 0 < a) : psum n (a + 1) = psum n a + a ^ n := by
  show psum n a + (if a = 0 then 0 else a ^ n) = _
  rw [if_neg (by omega)]
/-- the class's sum of residues of powers: below a times M, and alike the sum of powers modulo M -/
theorem L_powerSum {n p M : Nat} {w : xW} (hn : n < 2 ^ 31) (hp : p < 2 ^ 20) (h0 : 0 < M) (hM : M ≤ 3037000499) : ∀ (k a T : Nat), a + k = p → 0 < a → T ≤ a * M → T % M = psum n a % M →
    xGo 49 14 [some (.int (jI n)), some (.int (jI p)), some (.long (jL M)), none, some (.long (jL T)), none, some (.int (jI a))] [] w (some (.long (jL ((psum n p % M : Nat) : Int))), w) := by
  intro k
  induction k with
  | zero =>
    intro a T ha h1 hT e
    have ea : a = p := by omega
    subst ea
    have hTb : a * M ≤ 2 ^ 20 * 3037000499 := Nat.mul_le_mul (by omega) hM
    refine S_49_14 (bI_le a a s32 s32 (fun _ => ⟨ne_L M 0 s64 z64 (by omega), ?_⟩) (fun c => by omega))
    rw [jL_remN s64 (by omega) s64, ← e]
    simp
  | succ k ih =>
    intro a T ha h1 hT e
    have hTb : a * M ≤ 2 ^ 20 * 3037000499 := Nat.mul_le_mul (by omega) hM
    refine S_49_14 (bI_le p a s32 s32 (fun c => by omega) (fun _ => ⟨jL ((a ^ n % M : Nat) : Int), w, ?_, fun v5 e5 v6 e6 => ?_⟩))
    · rw [jI_toL s32]
      exact C_powerN (by omega) hn h0 hM w
    · rw [jL_add] at e5
      rw [show (1 : Int32) = jI 1 from rfl, jI_add] at e6
      subst e5; subst e6
      have hlt : a ^ n % M < M := Nat.mod_lt _ h0
      have ih2 := ih (a + 1) (T + a ^ n % M) (by omega) (by omega) (by rw [Nat.add_mul]; omega) (by rw [psum_s h1, Nat.add_mod, Nat.mod_mod, e, ← Nat.add_mod])
      exact ih2
theorem C_powerSum {n p M : Nat} (hn : n < 2 ^ 31) (h1 : 0 < p) (hp : p < 2 ^ 20) (h0 : 0 < M) (hM : M ≤ 3037000499) (w : xW) : xCall 49 [.int (jI n), .int (jI p), .long (jL M)] w (some (.long (jL ((psum n p % M : Nat) : Int))), w) := by
  refine E_49 (S_49_0 (bL_lt 0 M z64 s64 (fun _ => ?_) (fun c => by omega)))
  exact L_powerSum hn hp h0 hM (p - 1) 1 0 (by omega) (by omega) (by omega) rfl
/-- the residue of an entry by power sums -/
theorem C_byPowerSum {n p : Nat} (hn : n < 2 ^ 31) (h1 : 0 < p) (hp : p ≤ 50000) (w : xW) : xCall 91 [.int (jI n), .int (jI p)] w (some (.long (jL ((psum n p % (p * p) / p : Nat) : Int))), w) := by
  have hpp : p * p ≤ 50000 * 50000 := Nat.mul_le_mul hp hp
  have hp0 : 0 < p * p := Nat.mul_pos h1 h1
  refine E_91 (S_91_0 (bI_le p 0 s32 z32 (fun c => by omega) (fun _ => ⟨jL ((psum n p % (p * p) : Nat) : Int), w, ?_, ?_, ?_⟩)))
  · rw [jI_toL s32, jL_mul]
    exact C_powerSum hn h1 (by omega) hp0 (by omega) w
  · rw [jI_toL s32]
    exact ne_L p 0 s64 z64 (by omega)
  · have hlt : psum n p % (p * p) < p * p := Nat.mod_lt _ hp0
    rw [jI_toL s32, jL_divN s64 (by omega) s64]
    rfl
