/-! THE MODEL'S OWN ARITHMETIC -/
theorem L_mpower {a n p : Nat} {w : xW} (ha : a < 2 ^ 31) (hn : n < 2 ^ 31) (h2 : 2 ≤ p) (hp : p < 2 ^ 31) : ∀ (k i : Nat), i + k = n →
    xGo 216 5 [some (.int (jI a)), some (.int (jI n)), some (.int (jI p)), some (.long (jL ((a ^ i % p : Nat) : Int))), none, some (.int (jI i))] [] w (some (.int (jI ((a ^ n % p : Nat) : Int))), w) := by
  intro k
  induction k with
  | zero =>
    intro i hi
    have e : i = n := by omega
    subst e
    refine S_216_5 (bI_le i i s32 s32 (fun _ => ?_) (fun c => by omega))
    rw [jL_toI]
  | succ k ih =>
    intro i hi
    have hlt : a ^ i % p < p := Nat.mod_lt _ (by omega)
    have hb : a ^ i % p * a ≤ 2 ^ 31 * 2 ^ 31 := Nat.mul_le_mul (by omega) (by omega)
    refine S_216_5 (bI_le n i s32 s32 (fun c => by omega) (fun _ => ⟨?_, fun v e v3 e3 => ?_⟩))
    · rw [jI_toL s32]
      exact ne_L p 0 s64 z64 (by omega)
    · have e4 : ((a ^ i % p : Nat) : Int) * (a : Int) = ((a ^ i % p * a : Nat) : Int) := by simp
      rw [jI_toL s32, jI_toL s32, jL_mul, e4, jL_remN s64 (by omega) s64, ← Int.natCast_emod] at e
      rw [show (1 : Int32) = jI 1 from rfl, jI_add] at e3
      have e5 : a ^ i % p * a % p = a ^ (i + 1) % p := by rw [Nat.mul_mod, Nat.mod_mod, ← Nat.mul_mod, Nat.pow_succ]
      rw [e5] at e
      subst e; subst e3
      exact ih (i + 1) (by omega)
theorem C_mpower {a n p : Nat} (ha : a < 2 ^ 31) (hn : n < 2 ^ 31) (h2 : 2 ≤ p) (hp : p < 2 ^ 31) (w : xW) : xCall 216 [.int (jI a), .int (jI n), .int (jI p)] w (some (.int (jI ((a ^ n % p : Nat) : Int))), w) := by
  refine E_216 (S_216_0 ?_)
  have h := L_mpower (w := w) ha hn h2 hp n 0 (by omega)
  rw [Nat.pow_zero, Nat.mod_eq_of_lt (by omega)] at h
  exact h
theorem L_bigPower {l0 : Int64} {i2 : Int32} {M : Nat} {w : xW} (hM : M ≤ 3037000499) : ∀ (k n R S : Nat), n ≤ k → n < 2 ^ 31 → R < M → S < M →
    xGo 240 11 [some (.long l0), none, some (.int i2), some (.long (jL M)), none, some (.long (jL R)), none, some (.long (jL S)), none, some (.int (jI n))] [] w (some (.long (jL ((R * S ^ n % M : Nat) : Int))), w) := by
  intro k
  induction k with
  | zero =>
    intro n R S hk hn hR hS
    have e : n = 0 := by omega
    subst e
    refine S_240_11 (bI_le (0 : Nat) 0 s32 z32 (fun _ => ?_) (fun c => by omega))
    rw [Nat.pow_zero, Nat.mul_one, Nat.mod_eq_of_lt hR]
  | succ k ih =>
    intro n R S hk hn hR hS
    have hM0 : ¬ jL (M : Int) = 0 := ne_L M 0 s64 z64 (by omega)
    have er : irem (jI (n : Int)) (2 : Int32) = jI ((n % 2 : Nat) : Int) := by
      rw [show (2 : Int32) = jI 2 from rfl, jI_remN s32 (by omega) s32]
      rfl
    have ed : jI (n : Int) / (2 : Int32) = jI ((n / 2 : Nat) : Int) := by
      rw [show (2 : Int32) = jI 2 from rfl, jI_divN s32 (by omega) s32]
      rfl
    refine S_240_11 ?_
    rw [er, ed]
    refine bI_le n 0 s32 z32 (fun c => ?_) (fun c => bI_ne (n % 2 : Nat) 1 s32 s32 (fun c2 => ⟨hM0, fun v2 e2 v3 e3 => ?_⟩) (fun c2 => ⟨hM0, fun v5 e5 => ⟨hM0, fun v7 e7 v8 e8 => ?_⟩⟩))
    · have e : n = 0 := by omega
      subst e
      rw [Nat.pow_zero, Nat.mul_one, Nat.mod_eq_of_lt hR]
    · rw [jL_mulmod hS hS hM] at e2
      subst e2; subst e3
      have h := ih (n / 2) R (S * S % M) (by omega) (by omega) hR (Nat.mod_lt _ (by omega))
      rw [pw_even, show 2 * (n / 2) = n by omega] at h
      exact h
    · rw [jL_mulmod hR hS hM] at e5
      rw [jL_mulmod hS hS hM] at e7
      subst e5; subst e7; subst e8
      have h := ih (n / 2) (R * S % M) (S * S % M) (by omega) (by omega) (Nat.mod_lt _ (by omega)) (Nat.mod_lt _ (by omega))
      rw [pw_odd, show 2 * (n / 2) + 1 = n by omega] at h
      exact h
theorem C_bigPower {a n M : Nat} (ha : a < 2 ^ 62) (hn : n < 2 ^ 31) (h2 : 2 ≤ M) (hM : M ≤ 3037000499) (w : xW) : xCall 240 [.long (jL a), .int (jI n), .long (jL M)] w (some (.long (jL ((a ^ n % M : Nat) : Int))), w) := by
  refine E_240 (S_240_0 ⟨ne_L M 0 s64 z64 (by omega), fun v e => ?_⟩)
  rw [jL_remN s64 (by omega) s64, ← Int.natCast_emod] at e
  subst e
  have h := L_bigPower (l0 := jL a) (i2 := jI n) (w := w) hM n n 1 (a % M) (Nat.le_refl _) hn (by omega) (Nat.mod_lt _ (by omega))
  rw [Nat.one_mul, ← Nat.pow_mod] at h
  exact h
theorem L_powersBy {n p M : Nat} {w : xW} (hn : n < 2 ^ 31) (h1 : 0 < p) (hp : p < 2 ^ 20) (h2 : 2 ≤ M) (hM : M ≤ 3037000499) : ∀ (k a : Nat), a + k = p → 0 < a →
    xGo 255 6 [some (.int (jI n)), some (.int (jI p)), some (.long (jL M)), none, some (.long (jL ((psum n a % M : Nat) : Int))), none, some (.int (jI a))] [] w (some (.long (jL ((psum n p % M / p : Nat) : Int))), w) := by
  intro k
  induction k with
  | zero =>
    intro a ha h0
    have e : a = p := by omega
    subst e
    have hlt : psum n a % M < M := Nat.mod_lt _ (by omega)
    refine S_255_6 (bI_le a a s32 s32 (fun _ => ⟨?_, ?_⟩) (fun c => by omega))
    · rw [jI_toL s32]
      exact ne_L a 0 s64 z64 (by omega)
    · rw [jI_toL s32, jL_divN s64 (by omega) s64]
      rfl
  | succ k ih =>
    intro a ha h0
    have hlt : psum n a % M < M := Nat.mod_lt _ (by omega)
    have hlt2 : a ^ n % M < M := Nat.mod_lt _ (by omega)
    refine S_255_6 (bI_le p a s32 s32 (fun c => by omega) (fun _ => ⟨jL ((a ^ n % M : Nat) : Int), w, ?_, ne_L M 0 s64 z64 (by omega), fun v e v7 e7 => ?_⟩))
    · rw [jI_toL s32]
      exact C_bigPower (by omega) hn h2 hM w
    · rw [jL_add, jL_remN s64 (by omega) s64, ← Int.natCast_add, ← Int.natCast_emod, ← Nat.add_mod, ← psum_s h0] at e
      rw [show (1 : Int32) = jI 1 from rfl, jI_add] at e7
      subst e; subst e7
      exact ih (a + 1) (by omega) (by omega)
theorem C_powersBy {n p M : Nat} (hn : n < 2 ^ 31) (h1 : 0 < p) (hp : p < 2 ^ 20) (h2 : 2 ≤ M) (hM : M ≤ 3037000499) (w : xW) : xCall 255 [.int (jI n), .int (jI p), .long (jL M)] w (some (.long (jL ((psum n p % M / p : Nat) : Int))), w) := by
  refine E_255 (S_255_0 ?_)
  exact L_powersBy hn h1 hp h2 hM (p - 1) 1 (by omega) (by omega)
