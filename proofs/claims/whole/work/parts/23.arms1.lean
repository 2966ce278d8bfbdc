/-! ARMS: what the class answers, and the model -/
/-- the cells of the class, and of the model -/
def cAll : List Nat := List.range 39
def mAll : List Nat := (List.range 28).map (· + 39)
def cAns (E : eT) (t : Int) (ws : Nat → Int) (me : memT) (E' : eT) (t' : Int) (ws' : Nat → Int) (me' : memT) (k : Nat) (as : List Value) (v : Value) : Prop :=
  ∀ w, cst E t ws me w → ∃ w1, xCall k (.ref 0 :: as) w (some v, w1) ∧ cst E' t' ws' me' w1 ∧ xsame cAll w w1
def mAns (E : eT) (t : Int) (ws : Nat → Int) (me : memT) (E' : eT) (t' : Int) (ws' : Nat → Int) (me' : memT) (k : Nat) (as : List Value) (v : Value) : Prop :=
  ∀ w, mst E t ws me w → ∃ w1, xCall k (.ref 39 :: as) w (some v, w1) ∧ mst E' t' ws' me' w1 ∧ xsame mAll w w1
theorem L_misPrime {p : Int} {w : xW} (hp : in32 p) {th tp mm : Int32} {sw sr dr : Int64} (h39 : w[39]? = some (mMain th tp 46 mm sw sr dr)) {f : Nat → Int32} (h44 : w[44]? = some (aI 46 f)) (hf : ∀ j, j < 46 → f j = xpr j) : ∀ (k i : Nat), i + k = 46 →
    xGo 228 2 [some (.ref 39), some (.int (jI p)), some (.int (jI i))] [] w (some (.int (bz ((xprimes.drop i).any (fun q => q == jI p) = true))), w) := by
  intro k
  induction k with
  | zero =>
    intro i hi
    have e : i = 46 := by omega
    subst e
    exact S_228_2 ⟨_, h39, _, rfl, bI_le 46 (46 : Nat) s32 s32 (fun _ => rfl) (fun c => by omega)⟩
  | succ k ih =>
    intro i hi
    have hx : in32 (i : Int) := s32
    have hfi : f (jI (i : Int)).toNatClampNeg = xpr i := by
      rw [jI_nat hx, Int.toNat_natCast]
      exact hf i (by omega)
    refine S_228_2 ⟨_, h39, _, rfl, bI_le 46 i s32 hx (fun c => by omega) (fun _ => ⟨_, rfl, _, _, h44, jI_in hx (by omega) (by omega), ?_⟩)⟩
    rw [hfi, xpr_drop (by omega), List.any_cons]
    refine ⟨fun c v e => ?_, fun c => ?_⟩
    · rw [show (1 : Int32) = jI 1 from rfl, jI_add] at e
      subst e
      have : (xpr i == jI p) = false := by rw [beq_eq_false_iff_ne]; exact c
      rw [this, Bool.false_or]
      exact ih (i + 1) (by omega)
    · have : (xpr i == jI p) = true := by rw [beq_iff_eq]; exact Decidable.not_not.mp c
      rw [this, Bool.true_or, bz_t rfl]
theorem prAll : ∀ p : Nat, p < 200 → ((xprimes.drop 1).any (fun q => q == jI (p : Int)) = true ↔ p ∈ prN) := by decide +kernel
theorem xprimes_in : ∀ q ∈ xprimes, 0 ≤ q.toInt ∧ q.toInt < 200 := by decide +kernel
theorem C_misPrime {E : eT} {t : Int} {ws : Nat → Int} {me : memT} {w : xW} (h : mst E t ws me w) {p : Int} (hp : in32 p) : xCall 228 [.ref 39, .int (jI p)] w (some (.int (bz (isPr p))), w) := by
  obtain ⟨hC, ⟨th, sw, sr, dr, h39⟩, -, -, -, -, ⟨f44, h44, k44⟩, -, -⟩ := h
  have qq := L_misPrime hp h39 h44 k44 45 1 (by omega)
  have e : bz (isPr p) = bz ((xprimes.drop 1).any (fun q => q == jI p) = true) := bz_e (by
    by_cases hr : 0 ≤ p ∧ p < 200
    · obtain ⟨q, rfl⟩ := Int.eq_ofNat_of_zero_le hr.1
      rw [prAll q (by omega)]
      exact ⟨fun z => z.2, fun z => ⟨hr.1, z⟩⟩
    · refine ⟨fun z => ?_, fun z => ?_⟩
      · obtain ⟨q0, -, e, h1, h2⟩ := isPr_nat z
        omega
      · exfalso
        obtain ⟨q, hq1, hq2⟩ := List.any_eq_true.mp z
        rw [beq_iff_eq] at hq2
        have := xprimes_in q (List.mem_of_mem_drop hq1)
        rw [hq2, jI_toInt hp] at this
        exact hr this)
  rw [e]
  exact E_228 (S_228_0 qq)
/-! far -/
def farS (n p : Int) : Int := if 2 ≤ n ∧ n ≤ 1000000 ∧ n % 2 = 0 ∧ isPr p then (if n % (p - 1) = 0 then -3 else ((psum n.toNat p.toNat % (p.toNat * p.toNat) / p.toNat : Nat) : Int)) else -1
theorem irem_p {n p : Int} (hn : in32 n) (h : 0 ≤ n) (h1 : 3 ≤ p) (h2 : p ≤ 199) : irem (jI n) (jI p - (1 : Int32)) = jI (n % (p - 1)) := by
  rw [show (1 : Int32) = jI 1 from rfl, jI_sub, jI_remN hn h s32]
theorem c_far {E : eT} {t : Int} {ws : Nat → Int} {me : memT} {n p : Int} (hn : in32 n) (hp : in32 p) : cAns E t ws me E t ws me 136 [.int (jI n), .int (jI p)] (.int (jI (farS n p))) := by
  intro w h
  refine ⟨w, E_136 (S_136_0 ?_), h, xsame.rf⟩
  unfold farS
  refine bI_lt n 2 hn s32 (fun c => by rw [if_neg (by omega)]; rfl) (fun c => bI_lt 1000000 n s32 hn (fun d => by rw [if_neg (by omega)]; rfl) (fun d => ?_))
  rw [irem2 hn (by omega)]
  refine bI_ne (n % 2) 0 s32 z32 (fun e => by rw [if_neg (by omega)]; rfl) (fun e => ⟨_, _, C_isPrime hp h.1.noP, bz_n (fun g => ?_) (fun g => by rw [if_neg (fun z => g z.2.2.2)]; rfl)⟩)
  obtain ⟨q, hq, rfl, h1, h2⟩ := isPr_nat g
  obtain ⟨m, rfl⟩ := Int.eq_ofNat_of_zero_le (show 0 ≤ n by omega)
  rw [if_pos ⟨c, d, e, g⟩, irem_p hn (by omega) (by omega) (by omega)]
  have hb : in32 ((m : Int) % ((q : Int) - 1)) := by
    have a1 := Int.emod_nonneg (m : Int) (b := (q : Int) - 1) (by omega)
    have a2 := Int.emod_lt_of_pos (m : Int) (b := (q : Int) - 1) (by omega)
    exact ⟨by omega, by omega⟩
  refine ⟨?_, bI_ne _ 0 hb z32 (fun z => ⟨_, _, C_byPowerSum (by omega) (by omega) (by omega) w, ?_⟩) (fun z => by rw [if_pos z]; rfl)⟩
  · rw [show (1 : Int32) = jI 1 from rfl, jI_sub]
    exact ne_I _ 0 s32 z32 (by omega)
  · rw [jL_toI, if_neg z]
    simp
theorem m_far {E : eT} {t : Int} {ws : Nat → Int} {me : memT} {n p : Int} (hn : in32 n) (hp : in32 p) : mAns E t ws me E t ws me 262 [.int (jI n), .int (jI p)] (.int (jI (farS n p))) := by
  intro w h
  obtain ⟨fs, h39, hl, h'⟩ := h.begin
  refine ⟨_, E_262 (S_262_0 ⟨fs, h39, hl, fun w4 e4 => ?_⟩), h', xsame.set (by decide)⟩
  subst e4
  refine ⟨_, _, C_isIn hn (a := 2) (b := 1000000) s32 s32 _, ?_⟩
  unfold farS
  refine bz_0 (fun c => by rw [if_neg (by omega)]; rfl) (fun c => ?_)
  rw [irem2 hn (by omega)]
  refine bI_eq (n % 2) 1 s32 s32 (fun d => by rw [if_neg (by omega)]; rfl) (fun d => ?_)
  obtain ⟨-, ⟨th, sw, sr, dr, h39'⟩, -⟩ := id h'
  refine ⟨_, h39', _, _, C_misPrime h' hp, bz_n (fun g => ?_) (fun g => by rw [if_neg (fun z => g z.2.2.2)]; rfl)⟩
  obtain ⟨q, hq, rfl, h1, h2⟩ := isPr_nat g
  obtain ⟨m, rfl⟩ := Int.eq_ofNat_of_zero_le (show 0 ≤ n by omega)
  rw [if_pos ⟨c.1, c.2, by omega, g⟩, irem_p hn (by omega) (by omega) (by omega)]
  have hb : in32 ((m : Int) % ((q : Int) - 1)) := by
    have a1 := Int.emod_nonneg (m : Int) (b := (q : Int) - 1) (by omega)
    have a2 := Int.emod_lt_of_pos (m : Int) (b := (q : Int) - 1) (by omega)
    exact ⟨by omega, by omega⟩
  have hqq : q * q ≤ 199 * 199 := Nat.mul_le_mul h2 h2
  have hqq2 : 3 * 3 ≤ q * q := Nat.mul_le_mul h1 h1
  rw [jI_mul, ← Int.natCast_mul, jI_toL (a := ((q * q : Nat) : Int)) s32]
  refine ⟨?_, bI_ne _ 0 hb z32 (fun z => ⟨_, _, C_powersBy (by omega) (by omega) (by omega) (by omega) (by omega) _, ?_⟩) (fun z => by rw [if_pos z]; rfl)⟩
  · rw [show (1 : Int32) = jI 1 from rfl, jI_sub]
    exact ne_I _ 0 s32 z32 (by omega)
  · rw [jL_toI, if_neg z]
    simp
