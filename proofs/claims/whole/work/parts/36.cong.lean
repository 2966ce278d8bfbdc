/-! CONGRUENCES -/
def cg (m x y : Int) : Prop := m ∣ x - y
section CG
variable {m x y z a b d : Int}
theorem cg.rf : cg m x x := ⟨0, by omega⟩
theorem cg.sm (h : cg m x y) : cg m y x := by
  obtain ⟨k, hk⟩ := h
  exact ⟨-k, by rw [Int.mul_neg, ← hk]; omega⟩
theorem cg.tr (h1 : cg m x y) (h2 : cg m y z) : cg m x z := by
  have := Int.dvd_add h1 h2
  rwa [show x - y + (y - z) = x - z by omega] at this
theorem cg.add (h1 : cg m x y) (h2 : cg m a b) : cg m (x + a) (y + b) := by
  have := Int.dvd_add h1 h2
  rwa [show x - y + (a - b) = x + a - (y + b) by omega] at this
theorem cg.sub (h1 : cg m x y) (h2 : cg m a b) : cg m (x - a) (y - b) := by
  have := Int.dvd_sub h1 h2
  rwa [show x - y - (a - b) = x - a - (y - b) by omega] at this
theorem cg.mul (h1 : cg m x y) (h2 : cg m a b) : cg m (x * a) (y * b) := by
  have := Int.dvd_add (Int.dvd_mul_of_dvd_right (b := x) h2) (Int.dvd_mul_of_dvd_left (c := b) h1)
  rw [Int.mul_sub, Int.sub_mul] at this
  rwa [show x * a - x * b + (x * b - y * b) = x * a - y * b by omega] at this
theorem cg.pow (h : cg m x y) : ∀ n : Nat, cg m (x ^ n) (y ^ n)
  | 0 => by rw [Int.pow_zero, Int.pow_zero]; exact cg.rf
  | n + 1 => by
    rw [Int.pow_succ, Int.pow_succ]
    exact (cg.pow h n).mul h
theorem cg.mod : cg m (x % m) x := ⟨-(x / m), by rw [Int.emod_def, Int.mul_neg]; omega⟩
theorem cg.tmod : cg m (Int.tmod x m) x := ⟨-(Int.tdiv x m), by rw [Int.tmod_def, Int.mul_neg]; omega⟩
theorem cg.eq (h : cg m x y) : x % m = y % m := emod_of_dvd_sub h
theorem cg_eq (h : x = y) : cg m x y := by rw [h]; exact cg.rf
theorem cg.of_dvd (h : cg m x y) (hd : d ∣ m) : cg d x y := Int.dvd_trans hd h
theorem cg.lt (h : cg m x y) (h1 : 0 ≤ x) (h2 : x < m) (h3 : 0 ≤ y) (h4 : y < m) : x = y := by
  have := h.eq
  rwa [Int.emod_eq_of_lt h1 h2, Int.emod_eq_of_lt h3 h4] at this
theorem tm_b (h : 0 < m) : -m < Int.tmod x m ∧ Int.tmod x m < m := by
  have e := Int.tmod_eq_emod (a := x) (b := m)
  have h1 := Int.emod_nonneg x (show m ≠ 0 by omega)
  have h2 := Int.emod_lt_of_pos x h
  have h3 : (m.natAbs : Int) = m := Int.natAbs_of_nonneg (by omega)
  rw [e]
  split
  · omega
  · rename_i hq
    have : x % m ≠ 0 := fun q => hq (Or.inr (Int.dvd_of_emod_eq_zero q))
    omega
theorem cg_nat {a b : Nat} : cg m ((a * b : Nat) : Int) ((a : Int) * (b : Int)) := cg_eq (Int.natCast_mul a b)
theorem cg_nmod {a M : Nat} : cg (M : Int) ((a % M : Nat) : Int) (a : Int) := by
  rw [Int.natCast_emod]
  exact cg.mod
/-- what makes 1 with a number, as the class works it out -/
theorem C_invN (ha : in64 a) (hm : 2 ≤ m) (hm2 : m ≤ 3037000499) (h0 : 0 ≤ y) (h1 : y < m) (hy : cg m (y * a) 1) (w : xW) : xCall 53 [.long (jL a), .long (jL m)] w (some (.long (jL y)), w) := by
  have hg : Int.gcd m (a % m) = 1 := by
    have g1 := Int.gcd_dvd_left (a := m) (b := a % m)
    have g2 := Int.gcd_dvd_right (a := m) (b := a % m)
    have g3 : ((Int.gcd m (a % m) : Nat) : Int) ∣ a := by
      have e := Int.mul_ediv_add_emod a m
      have q3 := Int.dvd_add (Int.dvd_mul_of_dvd_left (c := a / m) g1) g2
      rw [e] at q3
      exact q3
    have g4 : ((Int.gcd m (a % m) : Nat) : Int) ∣ 1 := by
      have e : (1 : Int) = y * a - (y * a - 1) := by omega
      rw [e]
      exact Int.dvd_sub (Int.dvd_mul_of_dvd_right g3) (Int.dvd_trans g1 hy)
    have := Int.eq_one_of_dvd_one (by omega) g4
    omega
  obtain ⟨x, hx1, hx2, hx3⟩ := C_inverse ha hm hm2 hg w
  have e : (x : Int) = y := cg.lt (m := m) (inv_uniq hx2 hy) (by omega) hx1 h0 h1
  rw [e] at hx3
  exact hx3
end CG
/-! Fermat and Euler, of primes 3 to 199 -/
theorem fi_cg {x : Int} {p : Nat} (h3 : 3 ≤ p) : cg p (fi x p) (x ^ (p - 2)) := by
  unfold fi
  have m0 := Int.emod_nonneg x (b := (p : Int)) (by omega)
  refine cg_nmod.tr ?_
  rw [Int.natCast_pow, Int.toNat_of_nonneg m0]
  exact cg.mod.pow _
theorem prN_b : ∀ q ∈ prN, 3 ≤ q ∧ q ≤ 199 := by decide
theorem fermatI {x : Int} {p : Nat} (hp : p ∈ prN) (h : ¬ (p : Int) ∣ x) : cg p (x ^ (p - 1)) 1 := by
  have h3 := prN_b p hp
  have h1 : cg p (fi x p * x) 1 := fi_one hp h
  have h2 := ((fi_cg (x := x) (p := p) h3.1).mul (cg.rf (x := x))).sm.tr h1
  rw [← Int.pow_succ, show (p - 2).succ = p - 1 by omega] at h2
  exact h2
def gsm (y : Int) : Nat → Int
  | 0 => 0
  | n + 1 => gsm y n + y ^ n
theorem gsm_mul (y : Int) : ∀ n, (y - 1) * gsm y n = y ^ n - 1
  | 0 => by simp [gsm]
  | n + 1 => by
    show (y - 1) * (gsm y n + y ^ n) = _
    rw [Int.mul_add, gsm_mul y n, Int.sub_mul, Int.pow_succ, Int.mul_comm y]
    omega
theorem gsm_cg {m y : Int} (h : cg m y 1) : ∀ n : Nat, cg m (gsm y n) n
  | 0 => cg.rf
  | n + 1 => by
    have e := (h.pow n)
    rw [Int.one_pow] at e
    exact (gsm_cg h n).add e
theorem lift1 {p : Nat} {q y : Int} (h1 : cg p y 1) (h2 : cg q y 1) : cg (q * p) (y ^ p) 1 := by
  unfold cg
  rw [← gsm_mul]
  refine Int.mul_dvd_mul h2 ?_
  have h := gsm_cg h1 p
  have := Int.dvd_add h (Int.dvd_refl (p : Int))
  rwa [show gsm y p - (p : Int) + (p : Int) = gsm y p by omega] at this
theorem euler2 {x : Int} {p : Nat} (hp : p ∈ prN) (h : ¬ (p : Int) ∣ x) : cg ((p : Int) * p) (x ^ (p * (p - 1) - 1) * x) 1 := by
  have h3 := prN_b p hp
  have f := fermatI hp h
  have g := lift1 f f
  rw [← Int.pow_mul] at g
  rw [← Int.pow_succ]
  have e : (p * (p - 1) - 1).succ = (p - 1) * p := by
    rw [Nat.mul_comm p]
    have : 0 < (p - 1) * p := Nat.mul_pos (by omega) (by omega)
    omega
  rw [e]
  exact g
theorem euler3 {x : Int} {p : Nat} (hp : p ∈ prN) (h : ¬ (p : Int) ∣ x) : cg ((p : Int) * p * p) (x ^ (p * p * (p - 1) - 1) * x) 1 := by
  have h3 := prN_b p hp
  have f := fermatI hp h
  have g := lift1 f f
  have g2 := lift1 (g.of_dvd (Int.dvd_mul_right _ _)) g
  rw [← Int.pow_mul, ← Int.pow_mul] at g2
  rw [← Int.pow_succ]
  have e : (p * p * (p - 1) - 1).succ = (p - 1) * (p * p) := by
    rw [Nat.mul_comm (p * p)]
    have : 0 < (p - 1) * (p * p) := Nat.mul_pos (by omega) (Nat.mul_pos (by omega) (by omega))
    omega
  rw [e]
  exact g2
theorem small_ndvd {p a : Nat} (h0 : 0 < a) (h1 : a < p) : ¬ (p : Int) ∣ (a : Int) := by
  intro h
  have := Int.le_of_dvd (by omega) h
  omega
/-! harmonic -/
def haI (p a : Nat) : Nat := a ^ (p * p * (p - 1) - 1) % (p * p * p)
def haT (p : Nat) : Nat → Nat
  | 0 => 0
  | a + 1 => haT p a + (if a = 0 then 0 else haI p a)
theorem haT_le {p : Nat} (hp : 0 < p) : ∀ a, haT p a ≤ a * (p * p * p)
  | 0 => Nat.zero_le _
  | a + 1 => by
    have ih := haT_le hp a
    have h : haI p a < p * p * p := Nat.mod_lt _ (Nat.mul_pos (Nat.mul_pos hp hp) hp)
    show haT p a + (if a = 0 then 0 else haI p a) ≤ _
    rw [Nat.add_mul, Nat.one_mul]
    split <;> omega
def haS (p : Int) : Int := if isPr p ∧ 5 ≤ p then ((haT p.toNat p.toNat % (p.toNat * p.toNat * p.toNat) / (p.toNat * p.toNat) : Nat) : Int) else -1
theorem pcub {q : Nat} (h1 : 3 ≤ q) (h2 : q ≤ 199) : 9 ≤ q * q ∧ q * q ≤ 39601 ∧ 27 ≤ q * q * q ∧ q * q * q ≤ 7880599 := by
  have a1 : 3 * 3 ≤ q * q := Nat.mul_le_mul h1 h1
  have a2 : q * q ≤ 199 * 199 := Nat.mul_le_mul h2 h2
  have a3 : 3 * 3 * 3 ≤ q * q * q := Nat.mul_le_mul a1 h1
  have a4 : q * q * q ≤ 199 * 199 * 199 := Nat.mul_le_mul a2 h2
  omega
section A6
variable {c : Nat} {E : eT} {t : Int} {ws : Nat → Int} {me : memT}
theorem c_harmonic {p : Int} (hp : in32 p) : cAns E t ws me E t ws me 140 [.int (jI p)] (.int (jI (haS p))) := by
  intro w h
  refine ⟨w, Z_140 h.1 ⟨_, _, _, C_isPrime hp h.1.noP, h.1, fun d => by unfold haS; rw [if_neg (fun z => d z.1)], fun d => ⟨hp, fun e => ?_, fun e => by unfold haS; rw [if_neg (by omega)]⟩⟩, h, xsame.rf⟩
  unfold haS
  rw [if_pos ⟨d, e⟩]
  obtain ⟨q, hq, rfl, h1, h2⟩ := isPr_nat d
  have pc := pcub h1 h2
  rw [Int.toNat_natCast, ← Int.natCast_mul, ← Int.natCast_mul]
  have L : ∀ (k a : Nat), a + k = q → 0 < a → xGo 140 32 [some (.ref 0), some (.int (jI (q : Int))), some (.long (jL ((q * q : Nat) : Int))), none, some (.long (jL ((q * q * q : Nat) : Int))), none, some (.long (jL ((haT q a : Nat) : Int))), none, some (.int (jI (a : Int)))] [] w (some (.int (jI ((haT q q % (q * q * q) / (q * q) : Nat) : Int))), w) := by
    intro k
    induction k with
    | zero =>
      intro a ha h0
      have e : a = q := by omega
      subst e
      have hT := haT_le (p := a) (by omega) a
      have hT2 : a * (a * a * a) ≤ 199 * 7880599 := Nat.mul_le_mul h2 pc.2.2.2
      have hm : haT a a % (a * a * a) < a * a * a := Nat.mod_lt _ (by omega)
      refine Z_140_32 h.1 ⟨s32, s32, fun _ => ⟨s64, s64, by omega, ((haT a a % (a * a * a) : Nat) : Int), by rw [tmN (by omega)]; rfl, s64n (by omega), s64, by omega, ((haT a a % (a * a * a) / (a * a) : Nat) : Int), by rw [tdN (by omega)]; rfl, rfl⟩, fun c => by omega⟩
    | succ k ih =>
      intro a ha h0
      have hI : haI q a < q * q * q := Nat.mod_lt _ (by omega)
      have hy : cg ((q * q * q : Nat) : Int) (((haI q a : Nat) : Int) * (a : Int)) 1 := by
        have e3 := euler3 (x := (a : Int)) hq (small_ndvd h0 (by omega))
        rw [← Int.natCast_mul, ← Int.natCast_mul] at e3
        refine cg.tr (cg.mul ?_ cg.rf) e3
        unfold haI
        refine cg_nmod.tr ?_
        rw [Int.natCast_pow]
        exact cg.rf
      refine Z_140_32 h.1 ⟨s32, s32, fun c => by omega, fun _ => ⟨_, _, C_invN (y := ((haI q a : Nat) : Int)) s64 (by omega) (by omega) (by omega) (by omega) hy w, h.1, ?_⟩⟩
      have ih2 := ih (a + 1) (by omega) (by omega)
      rw [show haT q (a + 1) = haT q a + haI q a from by show haT q a + (if a = 0 then 0 else _) = _; rw [if_neg (by omega)], Int.natCast_add] at ih2
      exact ih2
  exact L (q - 1) 1 (by omega) (by omega)
theorem m_harmonic {p : Int} (hp : in32 p) : mAns E t ws me E t ws me 263 [.int (jI p)] (.int (jI (haS p))) := by
  intro w h0
  have h := h0.p0 (v := jI 0)
  refine ⟨_, Z_263 h0.1 (fun w2 e _ => ?_), h, sm_pF (by decide)⟩
  subst e
  revert h
  generalize pF w 39 0 (.int (jI 0)) = w
  intro h
  refine ⟨_, _, _, C_misPrime h hp, h.1, fun d => by unfold haS; rw [if_neg (fun z => d z.1)], fun d => ⟨hp, fun e => ?_, fun e => by unfold haS; rw [if_neg (by omega)]⟩⟩
  unfold haS
  rw [if_pos ⟨d, e⟩]
  obtain ⟨q, hq, rfl, h1, h2⟩ := isPr_nat d
  have pc := pcub h1 h2
  rw [Int.toNat_natCast, ← Int.natCast_mul, ← Int.natCast_mul]
  have L : ∀ (k a : Nat), a + k = q → 0 < a → xGo 263 35 [some (.ref 39), some (.int (jI (q : Int))), some (.long (jL ((q * q * q : Nat) : Int))), none, some (.long (jL ((haT q a % (q * q * q) : Nat) : Int))), none, some (.int (jI (a : Int)))] [] w (some (.int (jI ((haT q q % (q * q * q) / (q * q) : Nat) : Int))), w) := by
    intro k
    induction k with
    | zero =>
      intro a ha h0
      have e : a = q := by omega
      subst e
      have hm : haT a a % (a * a * a) < a * a * a := Nat.mod_lt _ (by omega)
      refine Z_263_35 h.1 ⟨s32, s32, fun _ => ⟨s64n (by omega), by rw [← Int.natCast_mul]; exact s64, by rw [← Int.natCast_mul]; omega, ((haT a a % (a * a * a) / (a * a) : Nat) : Int), by rw [tdN (by omega), ← Int.natCast_mul]; rfl, rfl⟩, fun c => by omega⟩
    | succ k ih =>
      intro a ha h0
      have hm : haT q a % (q * q * q) < q * q * q := Nat.mod_lt _ (by omega)
      have hI : haI q a < q * q * q := Nat.mod_lt _ (by omega)
      have hb : q * q * (q - 1) ≤ 39601 * 199 := Nat.mul_le_mul pc.2.1 (by omega)
      have hb2 : 9 * 2 ≤ q * q * (q - 1) := Nat.mul_le_mul pc.1 (by omega)
      have pw := C_bigPower (a := a) (n := q * q * (q - 1) - 1) (M := q * q * q) (by omega) (by omega) (by omega) (by omega) w
      have ee : (((q * q * (q - 1) - 1 : Nat) : Nat) : Int) = (q : Int) * q * ((q : Int) - 1) - 1 := by
        rw [Int.ofNat_sub (by omega), Int.natCast_mul, Int.natCast_mul, Int.ofNat_sub (by omega)]
        rfl
      rw [ee] at pw
      refine Z_263_35 h.1 ⟨s32, s32, fun c => by omega, fun _ => ⟨((haI q a : Nat) : Int), _, pw, h.1, by rw [← Int.natCast_add]; exact s64n (by omega), s64, by omega, (((haT q a % (q * q * q) + haI q a) % (q * q * q) : Nat) : Int), by rw [← Int.natCast_add, tmN (by omega)]; rfl, ?_⟩⟩
      have ih2 := ih (a + 1) (by omega) (by omega)
      rw [show haT q (a + 1) = haT q a + haI q a from by show haT q a + (if a = 0 then 0 else _) = _; rw [if_neg (by omega)]] at ih2
      rw [show (haT q a % (q * q * q) + haI q a) % (q * q * q) = (haT q a + haI q a) % (q * q * q) by rw [Nat.add_mod, Nat.mod_mod, ← Nat.add_mod]]
      exact ih2
  have e1 : haT q 1 % (q * q * q) = 0 := by
    show 0 % (q * q * q) = 0
    exact Nat.zero_mod _
  have L1 := L (q - 1) 1 (by omega) (by omega)
  rw [e1] at L1
  exact L1
/-! classNumber -/
def sgR (a p : Nat) : Nat := a ^ ((p - 1) / 2) % p
def sgS (a p : Nat) : Int := if sgR a p ≤ 1 then (sgR a p : Int) else -1
theorem sgR_3 : ∀ p ∈ prN, ∀ a, a < p + 1 → sgR a p = 0 ∨ sgR a p = 1 ∨ sgR a p = p - 1 := by decide +kernel
theorem sgS_b (a p : Nat) : -1 ≤ sgS a p ∧ sgS a p ≤ 1 := by
  unfold sgS
  split <;> omega
theorem C_signOf {a p : Nat} (hp : p ∈ prN) (ha : a ≤ p) (w : xW) (hC : CS w) : xCall 143 [.int (jI a), .int (jI p)] w (some (.int (jI (sgS a p))), w) := by
  have h3 := prN_b p hp
  have hlt : sgR a p < p := Nat.mod_lt _ (by omega)
  have pw := C_powerN (a := a) (n := (p - 1) / 2) (M := p) (by omega) (by omega) (by omega) (by omega) w
  refine Z_143 hC ⟨s32, s32, (((p - 1) / 2 : Nat) : Int), ?_, s32, ((sgR a p : Nat) : Int), _, pw, hC, s64n (by omega), fun d => ?_, fun d => ?_⟩
  · rw [tdN (by omega)]
    omega
  · unfold sgS
    rw [if_pos (by omega)]
  · unfold sgS
    rw [if_neg (by omega)]
theorem C_msignOf {a p : Nat} (hp : p ∈ prN) (ha : a < p) (w : xW) (hC : CS w) : xCall 266 [.int (jI a), .int (jI p)] w (some (.int (jI (sgS a p))), w) := by
  have h3 := prN_b p hp
  have h3' := sgR_3 p hp a (by omega)
  have hlt : sgR a p < p := Nat.mod_lt _ (by omega)
  have pw := C_mpower (a := a) (n := (p - 1) / 2) (p := p) (by omega) (by omega) (by omega) (by omega) w
  refine Z_266 hC ⟨s32, s32, by omega, (a : Int), ?_, s32, (((p - 1) / 2 : Nat) : Int), ?_, ((sgR a p : Nat) : Int), _, pw, hC, s32n (by omega), fun d => ?_, fun d => ?_⟩
  · rw [tmN (by omega), Int.emod_eq_of_lt (by omega) (by omega)]
  · rw [tdN (by omega)]
    omega
  · unfold sgS
    rw [if_pos (by omega)]
  · unfold sgS
    rw [if_neg (by omega)]
def cnT (p : Nat) : Nat → Int
  | 0 => 0
  | a + 1 => cnT p a - sgS a p * a
theorem cnT_b (p : Nat) : ∀ a : Nat, a ≤ 200 → -(200 * a) ≤ cnT p a ∧ cnT p a ≤ 200 * a
  | 0, _ => by simp [cnT]
  | a + 1, h => by
    have ih := cnT_b p a (by omega)
    have s := sgS_b a p
    show _ ≤ cnT p a - sgS a p * a ∧ cnT p a - sgS a p * a ≤ _
    have : sgS a p = -1 ∨ sgS a p = 0 ∨ sgS a p = 1 := by omega
    rcases this with e | e | e <;> rw [e] <;> omega
def cnS (p : Int) : Int := if isPr p ∧ 7 ≤ p ∧ p % 4 = 3 then Int.tdiv (cnT p.toNat p.toNat) p else -1
theorem c_classNumber {p : Int} (hp : in32 p) : cAns E t ws me E t ws me 142 [.int (jI p)] (.int (jI (cnS p))) := by
  intro w h
  refine ⟨w, Z_142 h.1 ⟨_, _, _, C_isPrime hp h.1.noP, h.1, fun d => by unfold cnS; rw [if_neg (fun z => d z.1)], fun d => ⟨hp, fun e => by unfold cnS; rw [if_neg (by omega)], fun e => ⟨_, tmN (by omega), s32, fun f => ?_, fun f => by unfold cnS; rw [if_neg (by omega)]⟩⟩⟩, h, xsame.rf⟩
  unfold cnS
  rw [if_pos ⟨d, e, f⟩]
  obtain ⟨q, hq, rfl, h1, h2⟩ := isPr_nat d
  rw [Int.toNat_natCast]
  have L : ∀ (k a : Nat), a + k = q → xGo 142 26 [some (.ref 0), some (.int (jI (q : Int))), some (.int (jI (cnT q a))), some (.int (jI (a : Int)))] [] w (some (.int (jI (Int.tdiv (cnT q q) q))), w) := by
    intro k
    induction k with
    | zero =>
      intro a ha
      have e : a = q := by omega
      subst e
      have b := cnT_b a a (by omega)
      exact Z_142_26 h.1 ⟨s32, s32, fun _ => ⟨s32, by omega, _, rfl, rfl⟩, fun c => by omega⟩
    | succ k ih =>
      intro a ha
      exact Z_142_26 h.1 ⟨s32, s32, fun c => by omega, fun _ => ⟨_, _, C_signOf hq (by omega) w h.1, h.1, ih (a + 1) (by omega)⟩⟩
  have L1 := L (q - 1) 1 (by omega)
  have e1 : cnT q 1 = 0 := by
    show (0 : Int) - sgS 0 q * ((0 : Nat) : Int) = 0
    simp
  rw [e1] at L1
  exact L1
theorem m_classNumber {p : Int} (hp : in32 p) : mAns E t ws me E t ws me 265 [.int (jI p)] (.int (jI (cnS p))) := by
  intro w h0
  have h := h0.p0 (v := jI 0)
  refine ⟨_, Z_265 h0.1 (fun w2 e _ => ?_), h, sm_pF (by decide)⟩
  subst e
  revert h
  generalize pF w 39 0 (.int (jI 0)) = w
  intro h
  refine ⟨_, _, _, C_misPrime h hp, h.1, fun d => by unfold cnS; rw [if_neg (fun z => d z.1)], fun d => ⟨hp, fun e => by unfold cnS; rw [if_neg (by omega)], fun e => ⟨_, tmN (by omega), s32, fun f => ?_, fun f => by unfold cnS; rw [if_neg (by omega)]⟩⟩⟩
  unfold cnS
  rw [if_pos ⟨d, e, f⟩]
  obtain ⟨q, hq, rfl, h1, h2⟩ := isPr_nat d
  rw [Int.toNat_natCast]
  have L : ∀ (k a : Nat), a + k = q → xGo 265 32 [some (.ref 39), some (.int (jI (q : Int))), some (.int (jI (cnT q a))), some (.int (jI (a : Int)))] [] w (some (.int (jI (Int.tdiv (cnT q q) q))), w) := by
    intro k
    induction k with
    | zero =>
      intro a ha
      have e : a = q := by omega
      subst e
      have b := cnT_b a a (by omega)
      exact Z_265_32 h.1 ⟨s32, s32, fun _ => ⟨s32, by omega, _, rfl, rfl⟩, fun c => by omega⟩
    | succ k ih =>
      intro a ha
      refine Z_265_32 h.1 ⟨s32, s32, fun c => by omega, fun _ => ⟨_, _, C_msignOf hq (by omega) w h.1, h.1, ?_⟩⟩
      rw [Int.mul_comm (a : Int)]
      exact ih (a + 1) (by omega)
  have L1 := L (q - 1) 1 (by omega)
  have e1 : cnT q 1 = 0 := by
    show (0 : Int) - sgS 0 q * ((0 : Nat) : Int) = 0
    simp
  rw [e1] at L1
  exact L1
end A6
