/-! byPowers -/
def byPowS (n p : Int) : Int := if (0 ≤ n ∧ n ≤ 38) ∧ isPr p then (if 2 ≤ n ∧ n % 2 = 0 ∧ n % (p - 1) ≠ 0 then ((psum n.toNat p.toNat % (p.toNat * p.toNat) / p.toNat : Nat) : Int) else -3) else -1
theorem in_modp {m q : Nat} (h1 : 3 ≤ q) (h2 : q ≤ 199) : in32 ((m : Int) % ((q : Int) - 1)) := by
  have a1 := Int.emod_nonneg (m : Int) (b := (q : Int) - 1) (by omega)
  have a2 := Int.emod_lt_of_pos (m : Int) (b := (q : Int) - 1) (by omega)
  exact ⟨by omega, by omega⟩
theorem ne_p1 {q : Nat} (h1 : 3 ≤ q) (h2 : q ≤ 199) : ¬ (jI (q : Int) - (1 : Int32)) = 0 := by
  rw [show (1 : Int32) = jI 1 from rfl, jI_sub]
  exact ne_I _ 0 s32 z32 (by omega)
theorem c_byPowers {E : eT} {t : Int} {ws : Nat → Int} {me : memT} {n p : Int} (hn : in32 n) (hp : in32 p) : cAns E t ws me E t ws me 90 [.int (jI n), .int (jI p)] (.int (jI (byPowS n p))) := by
  intro w h
  refine ⟨w, E_90 (S_90_0 ⟨_, _, C_isEntry hn w, ?_⟩), h, xsame.rf⟩
  unfold byPowS
  refine bz_0 (fun c => by rw [if_neg (fun z => c z.1)]; rfl) (fun c => ⟨_, _, C_isPrime hp h.1.noP, bz_n (fun g => ⟨_, _, C_isEven hn w, bz_0 (fun d => ?_) (fun d => ?_)⟩) (fun g => by rw [if_neg (fun z => g z.2)]; rfl)⟩)
  · rw [if_pos ⟨c, g⟩, if_neg (by omega)]
    rfl
  · obtain ⟨q, hq, rfl, h1, h2⟩ := isPr_nat g
    obtain ⟨m, rfl⟩ := Int.eq_ofNat_of_zero_le c.1
    rw [if_pos ⟨c, g⟩, irem_p hn (by omega) (by omega) (by omega)]
    refine ⟨ne_p1 h1 h2, bI_ne _ 0 (in_modp h1 h2) z32 (fun z => ⟨_, _, C_byPowerSum (by omega) (by omega) (by omega) w, ?_⟩) (fun z => ?_)⟩
    · rw [jL_toI, if_pos ⟨d.1, d.2, z⟩]
      simp
    · rw [if_neg (fun y => y.2.2 z)]
      rfl
theorem L_mbyPowers {n q : Nat} {w : xW} (hn : n ≤ 38) (h1 : 3 ≤ q) (h2 : q ≤ 199) : ∀ (k a : Nat), a + k = q → 0 < a →
    xGo 231 51 [some (.ref 39), some (.int (jI n)), some (.int (jI q)), some (.int (jI ((psum n a % (q * q) : Nat) : Int))), some (.int (jI a))] [] w (some (.int (jI ((psum n q % (q * q) / q : Nat) : Int))), w) := by
  have hqq : q * q ≤ 199 * 199 := Nat.mul_le_mul h2 h2
  have hqq2 : 3 * 3 ≤ q * q := Nat.mul_le_mul h1 h1
  intro k
  induction k with
  | zero =>
    intro a ha h0
    have e : a = q := by omega
    subst e
    have hlt : psum n a % (a * a) < a * a := Nat.mod_lt _ (by omega)
    refine S_231_51 (bI_le a a s32 s32 (fun _ => ⟨ne_I a 0 s32 z32 (by omega), ?_⟩) (fun c => by omega))
    rw [jI_divN s32 (by omega) s32]
    rfl
  | succ k ih =>
    intro a ha h0
    have hlt : psum n a % (q * q) < q * q := Nat.mod_lt _ (by omega)
    have hlt2 : a ^ n % (q * q) < q * q := Nat.mod_lt _ (by omega)
    refine S_231_51 ?_
    rw [jI_mul, ← Int.natCast_mul]
    refine bI_le q a s32 s32 (fun c => by omega) (fun _ => ⟨_, _, C_mpower (by omega) (by omega) (by omega) (by omega) w, ne_I _ 0 s32 z32 (by omega), fun v e v7 e7 => ?_⟩)
    rw [jI_add, jI_remN s32 (by omega) s32, ← Int.natCast_add, ← Int.natCast_emod, ← Nat.add_mod, ← psum_s h0] at e
    rw [show (1 : Int32) = jI 1 from rfl, jI_add] at e7
    subst e; subst e7
    exact ih (a + 1) (by omega) (by omega)
theorem m_byPowers {E : eT} {t : Int} {ws : Nat → Int} {me : memT} {n p : Int} (hn : in32 n) (hp : in32 p) : mAns E t ws me E t ws me 231 [.int (jI n), .int (jI p)] (.int (jI (byPowS n p))) := by
  intro w h
  obtain ⟨fs, h39, hl, h'⟩ := h.begin
  refine ⟨_, E_231 (S_231_0 ⟨fs, h39, hl, fun w4 e4 => ?_⟩), h', xsame.set (by decide)⟩
  subst e4
  obtain ⟨-, ⟨th, sw, sr, dr, h39'⟩, -⟩ := id h'
  unfold byPowS
  refine ⟨_, _, C_misEntry hn _, bz_0 (fun c => by rw [if_neg (fun z => c z.1)]; rfl) (fun c => ⟨_, h39', _, _, C_misPrime h' hp, bz_n (fun g => ?_) (fun g => by rw [if_neg (fun z => g z.2)]; rfl)⟩)⟩
  rw [if_pos ⟨c, g⟩]
  refine bI_lt n 2 hn s32 (fun d => by rw [if_neg (by omega)]; rfl) (fun d => ?_)
  rw [irem2 hn (by omega)]
  refine bI_eq (n % 2) 1 s32 s32 (fun e => by rw [if_neg (by omega)]; rfl) (fun e => ?_)
  obtain ⟨q, hq, rfl, h1, h2⟩ := isPr_nat g
  obtain ⟨m, rfl⟩ := Int.eq_ofNat_of_zero_le c.1
  rw [irem_p hn (by omega) (by omega) (by omega)]
  refine ⟨ne_p1 h1 h2, bI_ne _ 0 (in_modp h1 h2) z32 (fun z => ?_) (fun z => ?_)⟩
  · rw [if_pos ⟨d, by omega, z⟩]
    exact L_mbyPowers (by omega) h1 h2 (q - 1) 1 (by omega) (by omega)
  · rw [if_neg (fun y => y.2.2 z)]
    rfl
/-! wilson -/
def xfac : Nat → Nat
  | 0 => 1
  | n + 1 => xfac n * (n + 1)
def wilS (p : Int) : Int := if isPr p then (((xfac (p.toNat - 1) % (p.toNat * p.toNat) + 1) / p.toNat % p.toNat : Nat) : Int) else -1
theorem fac_end {q : Nat} {w : xW} (h1 : 3 ≤ q) (h2 : q ≤ 199) : (¬ (jI (q : Int)).toInt64 = 0) ∧ (¬ (jI (q : Int)).toInt64 = 0) ∧ (some (Value.int (jI (((xfac (q - 1) % (q * q) + 1) / q % q : Nat) : Int))), w) = (some (.int (lrem ((jL ((xfac (q - 1) % (q * q) : Nat) : Int) + (1 : Int64)) / (jI (q : Int)).toInt64) (jI (q : Int)).toInt64).toInt32), w) := by
  have hqq : q * q ≤ 199 * 199 := Nat.mul_le_mul h2 h2
  have hqq2 : 3 * 3 ≤ q * q := Nat.mul_le_mul h1 h1
  have hlt : xfac (q - 1) % (q * q) < q * q := Nat.mod_lt _ (by omega)
  rw [jI_toL s32]
  have hq : ¬ jL (q : Int) = 0 := ne_L q 0 s64 z64 (by omega)
  refine ⟨hq, hq, ?_⟩
  generalize xfac (q - 1) % (q * q) = x at hlt
  have hd : (x + 1) / q ≤ x + 1 := Nat.div_le_self _ _
  rw [show (1 : Int64) = jL 1 from rfl, jL_add, jL_divN s64 (by omega) s64]
  have e : ((x : Int) + 1) / (q : Int) = (((x + 1) / q : Nat) : Int) := by simp
  rw [e]
  generalize (x + 1) / q = y at hd
  rw [jL_remN s64 (by omega) s64, ← Int.natCast_emod, jL_toI]
theorem fac_step {q a : Nat} (h1 : 3 ≤ q) (h2 : q ≤ 199) (ha : 2 ≤ a) (hq : a < q) : lrem (jL ((xfac (a - 1) % (q * q) : Nat) : Int) * (jI (a : Int)).toInt64) (jL ((q * q : Nat) : Int)) = jL ((xfac (a + 1 - 1) % (q * q) : Nat) : Int) := by
  have hqq : q * q ≤ 199 * 199 := Nat.mul_le_mul h2 h2
  have hqq2 : 3 * 3 ≤ q * q := Nat.mul_le_mul h1 h1
  have hqa : q ≤ q * q := Nat.le_mul_of_pos_left q (by omega)
  have hlt : xfac (a - 1) % (q * q) < q * q := Nat.mod_lt _ (by omega)
  rw [jI_toL s32, jL_mulmod hlt (by omega) (by omega)]
  congr 2
  obtain ⟨b, rfl⟩ : ∃ b, a = b + 1 := ⟨a - 1, by omega⟩
  rw [Nat.add_sub_cancel, Nat.add_sub_cancel, Nat.mul_mod, Nat.mod_mod, ← Nat.mul_mod]
  rfl
theorem L_wilson {q : Nat} {w : xW} (h1 : 3 ≤ q) (h2 : q ≤ 199) : ∀ (k a : Nat), a + k = q → 2 ≤ a →
    xGo 141 21 [some (.ref 0), some (.int (jI q)), some (.long (jL ((q * q : Nat) : Int))), none, some (.long (jL ((xfac (a - 1) % (q * q) : Nat) : Int))), none, some (.int (jI a))] [] w (some (.int (jI (((xfac (q - 1) % (q * q) + 1) / q % q : Nat) : Int))), w) := by
  have hqq : q * q ≤ 199 * 199 := Nat.mul_le_mul h2 h2
  have hqq2 : 3 * 3 ≤ q * q := Nat.mul_le_mul h1 h1
  intro k
  induction k with
  | zero =>
    intro a ha h0
    have e : a = q := by omega
    subst e
    exact S_141_21 (bI_le a a s32 s32 (fun _ => fac_end h1 h2) (fun c => by omega))
  | succ k ih =>
    intro a ha h0
    refine S_141_21 (bI_le q a s32 s32 (fun c => by omega) (fun _ => ⟨ne_L _ 0 s64 z64 (by omega), fun v e v5 e5 => ?_⟩))
    rw [fac_step h1 h2 h0 (by omega)] at e
    rw [show (1 : Int32) = jI 1 from rfl, jI_add] at e5
    subst e; subst e5
    exact ih (a + 1) (by omega) (by omega)
theorem c_wilson {E : eT} {t : Int} {ws : Nat → Int} {me : memT} {p : Int} (hp : in32 p) : cAns E t ws me E t ws me 141 [.int (jI p)] (.int (jI (wilS p))) := by
  intro w h
  refine ⟨w, E_141 (S_141_0 ⟨_, _, C_isPrime hp h.1.noP, ?_⟩), h, xsame.rf⟩
  unfold wilS
  refine bz_n (fun g v e => ?_) (fun g => by rw [if_neg g]; rfl)
  obtain ⟨q, hq, rfl, h1, h2⟩ := isPr_nat g
  have hqq2 : 3 * 3 ≤ q * q := Nat.mul_le_mul h1 h1
  rw [if_pos g]
  rw [jI_toL s32, jL_mul, ← Int.natCast_mul] at e
  subst e
  have h := L_wilson (w := w) h1 h2 (q - 2) 2 (by omega) (by omega)
  rw [show xfac (2 - 1) % (q * q) = 1 from Nat.mod_eq_of_lt (by show 1 < q * q; omega)] at h
  exact h
theorem L_mwilson {q : Nat} {w : xW} (h1 : 3 ≤ q) (h2 : q ≤ 199) : ∀ (k a : Nat), a + k = q → 2 ≤ a →
    xGo 264 20 [some (.ref 39), some (.int (jI q)), some (.long (jL ((xfac (a - 1) % (q * q) : Nat) : Int))), none, some (.int (jI a))] [] w (some (.int (jI (((xfac (q - 1) % (q * q) + 1) / q % q : Nat) : Int))), w) := by
  have hqq : q * q ≤ 199 * 199 := Nat.mul_le_mul h2 h2
  have hqq2 : 3 * 3 ≤ q * q := Nat.mul_le_mul h1 h1
  intro k
  induction k with
  | zero =>
    intro a ha h0
    have e : a = q := by omega
    subst e
    exact S_264_20 (bI_le a a s32 s32 (fun _ => fac_end h1 h2) (fun c => by omega))
  | succ k ih =>
    intro a ha h0
    refine S_264_20 ?_
    rw [jI_mul, ← Int.natCast_mul, jI_toL (a := ((q * q : Nat) : Int)) s32]
    refine bI_le q a s32 s32 (fun c => by omega) (fun _ => ⟨ne_L _ 0 s64 z64 (by omega), fun v e v5 e5 => ?_⟩)
    rw [fac_step h1 h2 h0 (by omega)] at e
    rw [show (1 : Int32) = jI 1 from rfl, jI_add] at e5
    subst e; subst e5
    exact ih (a + 1) (by omega) (by omega)
theorem m_wilson {E : eT} {t : Int} {ws : Nat → Int} {me : memT} {p : Int} (hp : in32 p) : mAns E t ws me E t ws me 264 [.int (jI p)] (.int (jI (wilS p))) := by
  intro w h
  obtain ⟨fs, h39, hl, h'⟩ := h.begin
  refine ⟨_, E_264 (S_264_0 ⟨fs, h39, hl, fun w4 e4 => ?_⟩), h', xsame.set (by decide)⟩
  subst e4
  refine ⟨_, _, C_misPrime h' hp, ?_⟩
  unfold wilS
  refine bz_n (fun g => ?_) (fun g => by rw [if_neg g]; rfl)
  obtain ⟨q, hq, rfl, h1, h2⟩ := isPr_nat g
  have hqq2 : 3 * 3 ≤ q * q := Nat.mul_le_mul h1 h1
  rw [if_pos g]
  have h := L_mwilson (w := w.set 39 (.inr (12, fs.set 0 (.int (0 : Int32))))) h1 h2 (q - 2) 2 (by omega) (by omega)
  rw [show xfac (2 - 1) % (q * q) = 1 from Nat.mod_eq_of_lt (by show 1 < q * q; omega)] at h
  exact h
