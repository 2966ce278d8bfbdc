/-! bits of longs; the calls suspects and spoil -/
theorem jL_nL (n : Nat) : jL (n : Int) = Int64.ofNat n := Int64.ofInt_eq_ofNat
theorem bv_n {n : Nat} (h : n < 2 ^ 64) : (Int64.ofNat n).toBitVec.toNat = n := by
  show (BitVec.ofNat 64 n).toNat = n
  rw [BitVec.toNat_ofNat, Nat.mod_eq_of_lt h]
theorem jL_or2 {a k : Nat} (ha : a < 2 ^ k) (hk : k < 62) : jL (a : Int) ||| jL ((2 ^ k : Nat) : Int) = jL ((a + 2 ^ k : Nat) : Int) := by
  have e : 2 ^ k ||| a = 2 ^ k + a := by
    have := Nat.two_pow_add_eq_or_of_lt ha 1
    rw [Nat.mul_one] at this
    exact this.symm
  have p : 2 ^ k ≤ 2 ^ 62 := Nat.pow_le_pow_right (by decide) (by omega)
  rw [jL_nL, jL_nL, jL_nL]
  apply Int64.toBitVec_inj.mp
  apply BitVec.eq_of_toNat_eq
  rw [Int64.toBitVec_or, BitVec.toNat_or, bv_n (by omega), bv_n (by omega), bv_n (by omega), Nat.or_comm, e, Nat.add_comm]
theorem jL_andk {n k : Nat} (hn : n < 2 ^ 63) (hk : k ≤ 62) : jL (n : Int) &&& jL ((2 ^ k - 1 : Nat) : Int) = jL ((n % 2 ^ k : Nat) : Int) := by
  have p : 2 ^ k ≤ 2 ^ 62 := Nat.pow_le_pow_right (by decide) (by omega)
  have l : n % 2 ^ k ≤ n := Nat.mod_le _ _
  rw [jL_nL, jL_nL, jL_nL]
  apply Int64.toBitVec_inj.mp
  apply BitVec.eq_of_toNat_eq
  rw [Int64.toBitVec_and, BitVec.toNat_and, bv_n (by omega), bv_n (by omega), bv_n (by omega), Nat.and_two_pow_sub_one_eq_mod]
theorem sh64 : ∀ i : Nat, i < 63 → (((jI (i : Int)).toInt64 &&& 63).toBitVec.smod 64).toNat = i := by decide +kernel
theorem jL_shr {n i : Nat} (hn : n < 2 ^ 62) (hi : i < 63) : jL (n : Int) >>> ((jI (i : Int)).toInt64 &&& 63) = jL ((n / 2 ^ i : Nat) : Int) := by
  have h2 : n / 2 ^ i ≤ n := Nat.div_le_self _ _
  apply Int64.toInt_inj.mp
  show ((jL (n : Int)).toBitVec.sshiftRight (((jI (i : Int)).toInt64 &&& 63).toBitVec.smod 64).toNat).toInt = _
  rw [sh64 i hi, BitVec.toInt_sshiftRight]
  show (jL (n : Int)).toInt >>> i = _
  rw [jL_toInt (s64n (by omega)), jL_toInt (s64n (by omega)), Int.shiftRight_eq_div_pow]
  rfl
theorem jL_1shl : ∀ i : Nat, i < 62 → jL 1 <<< ((jI (i : Int)).toInt64 &&& 63) = jL ((2 ^ i : Nat) : Int) := by decide +kernel
section S6
variable {c : Nat} {E : eT} {t : Int} {ws : Nat → Int} {me : memT} {w : xW}
/-- a bit for each entry that fails some tests -/
def suS (E : eT) (s : Nat) : Nat → Nat
  | 0 => 0
  | k + 1 => suS E s k + (if tN E (k : Int) &&& s ≠ 0 then 2 ^ k else 0)
theorem suS_lt (E : eT) (s : Nat) : ∀ k, suS E s k < 2 ^ k
  | 0 => Nat.zero_lt_one
  | k + 1 => by
    have a := suS_lt E s k
    have p : 2 ^ (k + 1) = 2 ^ k * 2 := Nat.pow_succ 2 k
    show suS E s k + (if tN E (k : Int) &&& s ≠ 0 then 2 ^ k else 0) < 2 ^ (k + 1)
    split <;> omega
theorem suS_mono (E : eT) (s : Nat) : ∀ (d k : Nat), suS E s k ≤ suS E s (k + d)
  | 0, k => Nat.le_refl _
  | d + 1, k => Nat.le_trans (suS_mono E s d k) (Nat.le_add_right _ _)
theorem suS_p {E : eT} {s k K : Nat} (h : tN E (k : Int) &&& s ≠ 0) (hk : k < K) : suS E s K ≠ 0 := by
  have a := suS_mono E s (K - (k + 1)) (k + 1)
  rw [show k + 1 + (K - (k + 1)) = K by omega] at a
  have e : suS E s (k + 1) = suS E s k + (if tN E (k : Int) &&& s ≠ 0 then 2 ^ k else 0) := rfl
  rw [if_pos h] at e
  have p := Nat.two_pow_pos k
  omega
theorem suS_bit (E : eT) (s : Nat) : ∀ (K k : Nat), k < K → suS E s K / 2 ^ k % 2 = if tN E (k : Int) &&& s ≠ 0 then 1 else 0
  | 0, k, h => by omega
  | K + 1, k, h => by
    have lt := suS_lt E s K
    have e : suS E s (K + 1) = suS E s K + (if tN E (K : Int) &&& s ≠ 0 then 2 ^ K else 0) := rfl
    by_cases q : k = K
    · subst q
      by_cases z : tN E (k : Int) &&& s ≠ 0
      · rw [if_pos z] at e
        rw [e, if_pos z, Nat.add_div_right _ (Nat.two_pow_pos k), Nat.div_eq_of_lt lt]
      · have e' : suS E s (k + 1) = suS E s k := by rw [e, if_neg z]; rfl
        rw [e', if_neg z, Nat.div_eq_of_lt lt]
    · have ih := suS_bit E s K k (by omega)
      by_cases z : tN E (K : Int) &&& s ≠ 0
      · rw [if_pos z] at e
        have p : 2 ^ K = 2 ^ k * (2 ^ (K - k - 1) * 2) := by
          rw [← Nat.pow_succ, ← Nat.pow_add]; congr 1; omega
        rw [e, p, Nat.add_mul_div_left _ _ (Nat.two_pow_pos k), Nat.add_mul_mod_self_right]
        exact ih
      · have e' : suS E s (K + 1) = suS E s K := by rw [e, if_neg z]; rfl
        rw [e']; exact ih
theorem su_step (E : eT) {s i : Nat} (hi : i < 39) (h : tN E (i : Int) &&& s ≠ 0) : jL (suS E s i : Int) ||| jL ((2 ^ i : Nat) : Int) = jL (suS E s (i + 1) : Int) := by
  have e : suS E s (i + 1) = suS E s i + (if tN E (i : Int) &&& s ≠ 0 then 2 ^ i else 0) := rfl
  rw [if_pos h] at e
  rw [e]
  exact jL_or2 (suS_lt E s i) (by omega)
theorem su_same (E : eT) {s i : Nat} (h : tN E (i : Int) &&& s = 0) : suS E s (i + 1) = suS E s i := by
  have e : suS E s (i + 1) = suS E s i + (if tN E (i : Int) &&& s ≠ 0 then 2 ^ i else 0) := rfl
  rw [if_neg (fun z => z h)] at e
  exact e
theorem L_77 (ok : okS c E t ws me) {s : Nat} (hs : s < 64) : ∀ (k i : Nat) (w : xW), (i : Int) + k = t + 1 → cst E t ws me w →
    ∃ w', xGo 77 5 [some (.ref 0), some (.int (jI (s : Int))), some (.long (jL (suS E s i : Int))), none, some (.int (jI (i : Int)))] [] w (some (.long (jL (suS E s (t + 1).toNat : Int))), w') ∧ cst E t ws me w' ∧ xsame [3] w w' := by
  have ht1 := ok.2.1
  have ht := ok.2.2.1
  intro k
  induction k with
  | zero =>
    intro i w hi h
    refine ⟨w, Z_77_5 h.1 ⟨_, h.top, s32, s32, fun _ => ?_, fun q => by omega⟩, h, xsame.rf⟩
    rw [show (t + 1).toNat = i by omega]
  | succ k ih =>
    intro i w hi h
    obtain ⟨w1, a1, a2, a3⟩ := C_failed h ok (n := (i : Int)) (by omega) (by omega) hs
    obtain ⟨w2, b1, b2, b3⟩ := ih (i + 1) w1 (by omega) a2
    refine ⟨w2, Z_77_5 h.1 ⟨_, h.top, s32, s32, fun q => by omega, fun _ => ⟨_, _, a1, a2.1, nd_in hs, fun q => ?_, fun q => ⟨_, jL_1shl i (by omega), _, su_step E (by omega) (fun z => q (by rw [z]; rfl)), b1⟩⟩⟩, b2, a3.trans b3⟩
    rw [su_same E (by omega)] at b1
    exact b1
theorem C_failing (h : cst E t ws me w) (ok : okS c E t ws me) {s : Nat} (hs : s < 64) : ∃ w', xCall 77 [.ref 0, .int (jI (s : Int))] w (some (.long (jL (suS E s (t + 1).toNat : Int))), w') ∧ cst E t ws me w' ∧ xsame [3] w w' := by
  have ht1 := ok.2.1
  obtain ⟨w1, a1, a2, a3⟩ := L_77 ok hs (t + 1).toNat 0 w (by omega) h
  exact ⟨w1, Z_77 h.1 a1, a2, a3⟩
def spS (E : eT) (t x : Int) : Int := if 0 ≤ x ∧ x ≤ 63 then (suS E x.toNat (t + 1).toNat : Int) else lNO
theorem c_suspects (ok : okS c E t ws me) {x : Int} (hx : in32 x) : cAns E t ws me E t ws me 107 [.int (jI x)] (.long (jL (spS E t x))) := by
  intro w h
  by_cases a : 0 ≤ x ∧ x ≤ 63
  · obtain ⟨w1, a1, a2, a3⟩ := C_failing h ok (s := x.toNat) (by omega)
    rw [Int.toNat_of_nonneg a.1] at a1
    refine ⟨w1, Z_107 h.1 ⟨_, _, _, C_areTests hx w, h.1, fun q => absurd a q, fun _ => ⟨_, _, a1, a2.1, ?_⟩⟩, a2, a3.mono (by decide)⟩
    rw [show spS E t x = (suS E x.toNat (t + 1).toNat : Int) from if_pos a]
  · refine ⟨w, Z_107 h.1 ⟨_, _, _, C_areTests hx w, h.1, fun _ => ?_, fun q => absurd q a⟩, h, xsame.rf⟩
    rw [show spS E t x = lNO from if_neg a]; rfl
theorem L_242 (ok : okS c E t ws me) {s : Nat} (hs : s < 64) : ∀ (k i : Nat) (w : xW), (i : Int) + k = t + 1 → mst E t ws me w →
    ∃ w', xGo 242 24 [some (.ref 39), some (.int (jI (s : Int))), some (.long (jL (suS E s i : Int))), none, some (.int (jI (i : Int)))] [] w (some (.long (jL (suS E s (t + 1).toNat : Int))), w') ∧ mst E t ws me w' ∧ xsame [39] w w' := by
  have ht1 := ok.2.1
  have ht := ok.2.2.1
  intro k
  induction k with
  | zero =>
    intro i w hi h
    refine ⟨w, Z_242_24 h.1 ⟨_, h.top, s32, s32, fun _ => ?_, fun q => by omega⟩, h, xsame.rf⟩
    rw [show (t + 1).toNat = i by omega]
  | succ k ih =>
    intro i w hi h
    obtain ⟨w1, a1, a2, a3⟩ := C_testsOf h ok (n := (i : Int)) (by omega) (by omega)
    obtain ⟨w2, b1, b2, b3⟩ := ih (i + 1) w1 (by omega) a2
    refine ⟨w2, Z_242_24 h.1 ⟨_, h.top, s32, s32, fun q => by omega, fun _ => ⟨_, _, a1, a2.1, _, nd_all _ (tP_b E i).2.2.2.2.2 s hs, nd_in hs, fun q => ?_, fun q => ⟨_, jL_1shl i (by omega), _, su_step E (by omega) (fun z => q (by rw [z]; rfl)), b1⟩⟩⟩, b2, a3.trans b3⟩
    rw [su_same E (by omega)] at b1
    exact b1
theorem m_suspects (ok : okS c E t ws me) {x : Int} (hx : in32 x) : mAns E t ws me E t ws me 242 [.int (jI x)] (.long (jL (spS E t x))) := by
  intro w h0
  have h := h0.p0 (v := jI 0)
  have s0 : xsame mAll w (pF w 39 0 (.int (jI 0))) := sm_pF (by decide)
  have ht1 := ok.2.1
  by_cases a : 0 ≤ x ∧ x ≤ 63
  · obtain ⟨w1, a1, a2, a3⟩ := L_242 ok (s := x.toNat) (by omega) (t + 1).toNat 0 _ (by omega) h
    rw [Int.toNat_of_nonneg a.1] at a1
    refine ⟨w1, Z_242 h0.1 (fun w2 e _ => ?_), a2, s0.trans (a3.mono (by decide))⟩
    subst e
    refine ⟨_, _, _, C_isIn hx s32 s32 _, h.1, fun _ => ?_, fun q => absurd a q⟩
    rw [show spS E t x = (suS E x.toNat (t + 1).toNat : Int) from if_pos a]
    exact a1
  · refine ⟨_, Z_242 h0.1 (fun w2 e _ => ?_), h, s0⟩
    subst e
    refine ⟨_, _, _, C_isIn hx s32 s32 _, h.1, fun q => absurd q a, fun _ => ?_⟩
    rw [show spS E t x = lNO from if_neg a]; rfl
/-! all pass, some fail -/
theorem L_110 (ok : okS c E t ws me) {s : Nat} (hs : s < 64) : ∀ (k i : Nat) (w : xW), (i : Int) + k = t + 1 → suS E s i = 0 → cst E t ws me w →
    ∃ w', xGo 110 2 [some (.ref 0), some (.int (jI (s : Int))), some (.int (jI (i : Int)))] [] w (some (.int (bz (suS E s (t + 1).toNat = 0))), w') ∧ cst E t ws me w' ∧ xsame [3] w w' := by
  have ht1 := ok.2.1
  have ht := ok.2.2.1
  intro k
  induction k with
  | zero =>
    intro i w hi h0 h
    refine ⟨w, Z_110_2 h.1 ⟨_, h.top, s32, s32, fun _ => ?_, fun q => by omega⟩, h, xsame.rf⟩
    rw [bz_t (by rw [show (t + 1).toNat = i by omega]; exact h0)]; rfl
  | succ k ih =>
    intro i w hi h0 h
    obtain ⟨w1, a1, a2, a3⟩ := C_failed h ok (n := (i : Int)) (by omega) (by omega) hs
    by_cases z : tN E (i : Int) &&& s = 0
    · obtain ⟨w2, b1, b2, b3⟩ := ih (i + 1) w1 (by omega) (by rw [su_same E z]; exact h0) a2
      exact ⟨w2, Z_110_2 h.1 ⟨_, h.top, s32, s32, fun q => by omega, fun _ => ⟨_, _, a1, a2.1, nd_in hs, fun q => b1, fun q => absurd (by rw [z]; rfl) q⟩⟩, b2, a3.trans b3⟩
    · refine ⟨w1, Z_110_2 h.1 ⟨_, h.top, s32, s32, fun q => by omega, fun _ => ⟨_, _, a1, a2.1, nd_in hs, fun q => absurd (by omega) z, fun q => ?_⟩⟩, a2, a3⟩
      rw [bz_f (suS_p z (by omega))]; rfl
theorem C_allPass (h : cst E t ws me w) (ok : okS c E t ws me) {s : Nat} (hs : s < 64) : ∃ w', xCall 110 [.ref 0, .int (jI (s : Int))] w (some (.int (bz (suS E s (t + 1).toNat = 0))), w') ∧ cst E t ws me w' ∧ xsame [3] w w' := by
  have ht1 := ok.2.1
  obtain ⟨w1, a1, a2, a3⟩ := L_110 ok hs (t + 1).toNat 0 w (by omega) rfl h
  exact ⟨w1, Z_110 h.1 a1, a2, a3⟩
theorem L_245 (ok : okS c E t ws me) {s : Nat} (hs : s < 64) : ∀ (k i : Nat) (w : xW), (i : Int) + k = t + 1 → suS E s i = 0 → mst E t ws me w →
    ∃ w', xGo 245 2 [some (.ref 39), some (.int (jI (s : Int))), some (.int (jI (i : Int)))] [] w (some (.int (bz (suS E s (t + 1).toNat ≠ 0))), w') ∧ mst E t ws me w' ∧ xsame [39] w w' := by
  have ht1 := ok.2.1
  have ht := ok.2.2.1
  intro k
  induction k with
  | zero =>
    intro i w hi h0 h
    refine ⟨w, Z_245_2 h.1 ⟨_, h.top, s32, s32, fun _ => ?_, fun q => by omega⟩, h, xsame.rf⟩
    rw [bz_f (fun q => q (by rw [show (t + 1).toNat = i by omega]; exact h0))]; rfl
  | succ k ih =>
    intro i w hi h0 h
    obtain ⟨w1, a1, a2, a3⟩ := C_testsOf h ok (n := (i : Int)) (by omega) (by omega)
    by_cases z : tN E (i : Int) &&& s = 0
    · obtain ⟨w2, b1, b2, b3⟩ := ih (i + 1) w1 (by omega) (by rw [su_same E z]; exact h0) a2
      exact ⟨w2, Z_245_2 h.1 ⟨_, h.top, s32, s32, fun q => by omega, fun _ => ⟨_, _, a1, a2.1, _, nd_all _ (tP_b E i).2.2.2.2.2 s hs, nd_in hs, fun q => b1, fun q => absurd (by rw [z]; rfl) q⟩⟩, b2, a3.trans b3⟩
    · refine ⟨w1, Z_245_2 h.1 ⟨_, h.top, s32, s32, fun q => by omega, fun _ => ⟨_, _, a1, a2.1, _, nd_all _ (tP_b E i).2.2.2.2.2 s hs, nd_in hs, fun q => absurd (by omega) z, fun q => ?_⟩⟩, a2, a3⟩
      rw [bz_t (suS_p z (by omega))]; rfl
theorem C_mfails (h : mst E t ws me w) (ok : okS c E t ws me) {s : Nat} (hs : s < 64) : ∃ w', xCall 245 [.ref 39, .int (jI (s : Int))] w (some (.int (bz (suS E s (t + 1).toNat ≠ 0))), w') ∧ mst E t ws me w' ∧ xsame [39] w w' := by
  have ht1 := ok.2.1
  obtain ⟨w1, a1, a2, a3⟩ := L_245 ok hs (t + 1).toNat 0 w (by omega) rfl h
  exact ⟨w1, Z_245 h.1 a1, a2, a3⟩
/-! an entry more, or less -/
def spE (e : Int × Int × Int) (d : Int) : Int × Int × Int := (e.1 + (e.2.1 + d) / e.2.2, nfA (e.2.1 + d) e.2.2, nfB (e.2.1 + d) e.2.2)
theorem nf_ok {a b : Int} (hb : 0 < b) : 0 ≤ nfA a b ∧ nfA a b < nfB a b ∧ nfB a b ∣ b ∧ Int.gcd (nfA a b) (nfB a b) = 1 := by
  have r0 := Int.emod_nonneg a (show b ≠ 0 by omega)
  have r1 := Int.emod_lt_of_pos a hb
  have g0 := nfG_pos (na := a) (nb := b) hb
  have d1 : nfG a b ∣ a % b := Int.gcd_dvd_right ..
  have d2 : nfG a b ∣ b := Int.gcd_dvd_left ..
  have e1 : nfA a b * nfG a b = a % b := Int.ediv_mul_cancel d1
  have e2 : nfB a b * nfG a b = b := Int.ediv_mul_cancel d2
  refine ⟨Int.ediv_nonneg r0 (by omega), ?_, ⟨nfG a b, e2.symm⟩, ?_⟩
  · refine Int.lt_of_mul_lt_mul_right (a := nfG a b) ?_ (by omega)
    rw [e1, e2]; exact r1
  · have gp : 0 < Int.gcd b (a % b) := by have : 0 < ((Int.gcd b (a % b) : Nat) : Int) := g0; omega
    have := Int.gcd_ediv_gcd_ediv_gcd gp
    rw [Int.gcd_comm]
    exact this
theorem sp_ok {c n : Nat} {e : Int × Int × Int} {d : Int} (h : eOK c n e) (h1 : -9 ≤ d) (h2 : d ≤ 9) : eOK (c + 1) n (spE e d) := by
  obtain ⟨a0, a1, a2, a3, a4, a5⟩ := h
  have hb : 0 < e.2.2 := by omega
  obtain ⟨n0, n1, n2, n3⟩ := nf_ok (a := e.2.1 + d) hb
  have q1 : -9 ≤ (e.2.1 + d) / e.2.2 := Int.le_ediv_of_mul_le hb (by
    have : 1 * 9 ≤ e.2.2 * 9 := Int.mul_le_mul_of_nonneg_right (by omega) (by decide)
    omega)
  have q2 : (e.2.1 + d) / e.2.2 < 10 := Int.ediv_lt_of_lt_mul hb (by
    have : 1 * 9 ≤ e.2.2 * 9 := Int.mul_le_mul_of_nonneg_right (by omega) (by decide)
    omega)
  refine ⟨n0, n1, Int.dvd_trans n2 a2, n3, ?_, ?_⟩
  · show rW n - 9 * ((c + 1 : Nat) : Int) - 1 ≤ e.1 + (e.2.1 + d) / e.2.2
    omega
  · show e.1 + (e.2.1 + d) / e.2.2 ≤ rW n + 9 * ((c + 1 : Nat) : Int) + 1
    omega
theorem eOK.mono {c c' n : Nat} {e : Int × Int × Int} (h : eOK c n e) (hc : c ≤ c') : eOK c' n e := ⟨h.1, h.2.1, h.2.2.1, h.2.2.2.1, by have := h.2.2.2.2.1; omega, by have := h.2.2.2.2.2; omega⟩
theorem ok_sp (ok : okS c E t ws me) (hc : c + 1 ≤ 600) {n : Nat} (hn : (n : Int) ≤ t) {d : Int} (h1 : -9 ≤ d) (h2 : d ≤ 9) : okS (c + 1) (updE E n (spE (E n) d)) t ws me := by
  refine ⟨hc, ok.2.1, ok.2.2.1, fun k hk => ?_, ok.2.2.2.2⟩
  by_cases q : k = n
  · rw [q, updE_at]; exact sp_ok (ok.2.2.2.1 n hn) h1 h2
  · rw [updE_ne q]; exact (ok.2.2.2.1 k hk).mono (by omega)
theorem CS.fr16 {w : xW} (hC : CS w) : ∃ x y z : Int, w[16]? = some (frac x y z) := by
  obtain ⟨c, h1, h2⟩ := hC.2 16 (by decide)
  obtain ⟨x, y, z, rfl⟩ := h2
  obtain ⟨x', -, rfl⟩ := jL_of x
  obtain ⟨y', -, rfl⟩ := jL_of y
  obtain ⟨z', -, rfl⟩ := jL_of z
  exact ⟨x', y', z', h1⟩
theorem C_increase (h : cst E t ws me w) (ok : okS c E t ws me) {n : Int} (n0 : 0 ≤ n) (hn : n ≤ t) {d : Int} (h1 : -9 ≤ d) (h2 : d ≤ 9) : ∃ w', xCall 60 [.ref 12, .int (jI n), .long (jL d)] w (none, w') ∧ cst (updE E n.toNat (spE (E n.toNat) d)) t ws me w' ∧ xsame [13, 14, 15, 16] w w' := by
  have ht := ok.2.2.1
  have b := ok_e ok n0 hn
  have a := ok.2.2.2.1 n.toNat (by omega)
  obtain ⟨x, y, z, f16⟩ := h.1.fr16
  have bc := C_become (nw := (E n.toNat).1) (na := (E n.toNat).2.1 + d) (nb := (E n.toNat).2.2) f16 b.2.2.2.1 (by have := a.1; have := a.2.1; exact ⟨by omega, by omega⟩) b.2.2.1
  have cw : cst E t ws me (w.set 16 (frac (nfW (E n.toNat).1 ((E n.toNat).2.1 + d) (E n.toNat).2.2) (nfA ((E n.toNat).2.1 + d) (E n.toNat).2.2) (nfB ((E n.toNat).2.1 + d) (E n.toNat).2.2))) := h.same (S := [16]) (xsame.set (by decide)) (by decide) (h.1.set ⟨_, _, _, rfl⟩)
  have st := C_storeN cw.1 (q := 16) (by decide) n0 (by omega) (set_get f16)
  have fin := c_s3w cw ht ok.2.2.2.2.2.1 (n := n.toNat) (x := nfW (E n.toNat).1 ((E n.toNat).2.1 + d) (E n.toNat).2.2) (y := nfA ((E n.toNat).2.1 + d) (E n.toNat).2.2) (z := nfB ((E n.toNat).2.1 + d) (E n.toNat).2.2) (by omega)
  refine ⟨_, Z_60 h.1 (Or.inr (Or.inl rfl)) ⟨_, _, N_whole h ht n0 hn, h.1, _, _, N_above h ht n0 hn, h.1, _, _, N_below h ht n0 hn, h.1, _, bc, cw.1, _, st, fin.1, rfl⟩, fin, ?_⟩
  exact (xsame.set (S := [13, 14, 15, 16]) (by decide)).trans (s3_sm.mono (by decide))
def updW (ws : Nat → Int) (n : Nat) (v : Int) : Nat → Int := fun k => if k = n then v else ws k
theorem updW_at {ws : Nat → Int} {n : Nat} {v : Int} : updW ws n v n = v := if_pos rfl
theorem updW_ne {ws : Nat → Int} {n k : Nat} {v : Int} (h : k ≠ n) : updW ws n v k = ws k := if_neg h
theorem c_wyw (h : cst E t ws me w) (ht : t ≤ 38) (hl : me.length ≤ 20) {n : Nat} {v : Int} (hn : n < 39) : cst E t (updW ws n v) me (pI w 22 n (jI v)) := by
  have s : xsame [22] w (pI w 22 n (jI v)) := sm_pI (by decide)
  refine h.upd ht hl (s.mono (by decide)) h.1.putI (h.top.sm s (by decide)) (fun k hk => ?_) (fun k hk => ?_)
  · obtain ⟨a, b, d⟩ := h.nw ht hk
    exact ⟨a.sm s (by decide), b.sm s (by decide), d.sm s (by decide)⟩
  · by_cases q : k = n
    · rw [q, updW_at]; exact ((kl_22 h.1).has (by decide) hn).put
    · rw [updW_ne q]; exact (h.wy ht hk).put q
theorem m_wyw (h : mst E t ws me w) (ht : t ≤ 38) (hl : me.length ≤ 20) {n : Nat} {v : Int} (hn : n < 39) : mst E t (updW ws n v) me (pI w 42 n (jI v)) := by
  have s : xsame [42] w (pI w 42 n (jI v)) := sm_pI (by decide)
  refine h.upd ht hl (s.mono (by decide)) h.1.putI (h.top.sm s (by decide)) (h.pm.sm s (by decide)) (h.mz.sm s (by decide)) (fun k hk => ?_) (fun k hk => ?_)
  · obtain ⟨a, b, d⟩ := h.nw ht hk
    exact ⟨a.sm s (by decide), b.sm s (by decide), d.sm s (by decide)⟩
  · by_cases q : k = n
    · rw [q, updW_at]; exact ((kl_42 h.1).has (by decide) hn).put
    · rw [updW_ne q]; exact (h.wy ht hk).put q
theorem ok_wy (ok : okS c E t ws me) {n : Nat} {v : Int} (h0 : 0 ≤ v) (h3 : v ≤ 3) : okS c E t (updW ws n v) me := by
  refine ⟨ok.1, ok.2.1, ok.2.2.1, ok.2.2.2.1, fun k hk => ?_, ok.2.2.2.2.2⟩
  by_cases q : k = n
  · rw [q, updW_at]; exact ⟨h0, h3⟩
  · rw [updW_ne q]; exact ok.2.2.2.2.1 k hk
theorem C_noteWay {w : xW} (hC : CS w) {n v : Int} (n0 : 0 ≤ n) (hn : n < 39) : xCall 57 [.ref 0, .int (jI n), .int (jI v)] w (none, pI w 22 n.toNat (jI v)) :=
  Z_57 hC ⟨s32, fun q => by omega, fun _ => ⟨fun q => by omega, fun _ => ⟨⟨n0, hn⟩, fun w4 e _ => by rw [e]⟩⟩⟩
theorem C_mspoils (h : mst E t ws me w) (ok : okS c E t ws me) {n : Int} (n0 : 0 ≤ n) (hn : n ≤ t) {d : Int} (h1 : -9 ≤ d) (h2 : d ≤ 9) : ∃ w', xCall 205 [.ref 39, .int (jI n), .int (jI d)] w (none, w') ∧ mst (updE E n.toNat (spE (E n.toNat) d)) t ws me w' ∧ xsame [41] w w' := by
  have ht := ok.2.2.1
  have b := ok_e ok n0 hn
  have a := ok.2.2.2.1 n.toNat (by omega)
  obtain ⟨r0, r1, r2⟩ := M_nw h ht n0 hn rfl
  have m0 := Int.emod_nonneg ((E n.toNat).2.1 + d) (show (E n.toNat).2.2 ≠ 0 by omega)
  have m1 := Int.emod_lt_of_pos ((E n.toNat).2.1 + d) b.2.2.2.1
  have eS : (E n.toNat).2.1 + d - ((E n.toNat).2.1 + d) / (E n.toNat).2.2 * (E n.toNat).2.2 = ((E n.toNat).2.1 + d) % (E n.toNat).2.2 := by
    have := dm_e ((E n.toNat).2.1 + d) (E n.toNat).2.2
    omega
  have lp := C_laysProper h.1 (a1 := 41) (n := n) (x := (E n.toNat).1 + ((E n.toNat).2.1 + d) / (E n.toNat).2.2) (a := ((E n.toNat).2.1 + d) % (E n.toNat).2.2) (b := (E n.toNat).2.2) (kl_41 h.1) (by decide) n0 (by omega) (by omega) (by omega) b.2.2.2.1 (by omega)
  obtain ⟨p1, p2⟩ := nf_pr m0 m1
  have q1 : nfA (((E n.toNat).2.1 + d) % (E n.toNat).2.2) (E n.toNat).2.2 = nfA ((E n.toNat).2.1 + d) (E n.toNat).2.2 := by unfold nfA nfG; rw [Int.emod_emod]
  have q2 : nfB (((E n.toNat).2.1 + d) % (E n.toNat).2.2) (E n.toNat).2.2 = nfB ((E n.toNat).2.1 + d) (E n.toNat).2.2 := by unfold nfB nfG; rw [Int.emod_emod]
  rw [← p1, ← p2, q1, q2, ← eS] at lp
  have fin := h.l3w ht ok.2.2.2.2.2.1 (n := n.toNat) (x := (E n.toNat).1 + ((E n.toNat).2.1 + d) / (E n.toNat).2.2) (y := nfA ((E n.toNat).2.1 + d) (E n.toNat).2.2) (z := nfB ((E n.toNat).2.1 + d) (E n.toNat).2.2) (by omega)
  exact ⟨_, Z_205 h.1 ⟨by omega, _, r1, s32, by omega, _, r2, _, _, C_downBy (by have := a.1; have := a.2.1; exact ⟨by omega, by omega⟩) b.2.2.1 b.2.2.2.1 w h.1, h.1, by omega, _, r0, _, lp, fin.1, rfl⟩, fin, l3_sm⟩
/-! spoil -/
abbrev slP (t n d : Int) : Prop := 0 ≤ n ∧ n ≤ t ∧ -9 ≤ d ∧ d ≤ 9 ∧ d ≠ 0
def slE (E : eT) (t n d : Int) : eT := if slP t n d then updE E n.toNat (spE (E n.toNat) d) else E
def slW (t : Int) (ws : Nat → Int) (n d : Int) : Nat → Int := if slP t n d then updW ws n.toNat 3 else ws
def slS (E : eT) (t n d : Int) : Int := if (0 ≤ n ∧ n ≤ 38) ∧ -9 ≤ d ∧ d ≤ 9 ∧ d ≠ 0 then (if n ≤ t then (tN (slE E t n d) n : Int) else -2) else -1
theorem ok_slE (ok : okS c E t ws me) (hc : c + 1 ≤ 600) (n d : Int) : okS (c + 1) (slE E t n d) t (slW t ws n d) me := by
  unfold slE slW
  split
  · rename_i hh
    exact ok_wy (ok_sp ok hc (by omega) hh.2.2.1 hh.2.2.2.1) (by decide) (by decide)
  · exact ⟨hc, ok.2.1, ok.2.2.1, fun k hk => (ok.2.2.2.1 k hk).mono (by omega), ok.2.2.2.2⟩
theorem c_spoil (ok : okS c E t ws me) (hc : c + 1 ≤ 600) {n d : Int} (hn : in32 n) (hd : in32 d) : cAns E t ws me (slE E t n d) t (slW t ws n d) me 59 [.int (jI n), .int (jI d)] (.int (jI (slS E t n d))) := by
  intro w h
  have ht1 := ok.2.1
  have ht := ok.2.2.1
  by_cases a : (0 ≤ n ∧ n ≤ 38) ∧ -9 ≤ d ∧ d ≤ 9 ∧ d ≠ 0
  · by_cases b : n ≤ t
    · have p : slP t n d := ⟨a.1.1, b, a.2⟩
      have okE := ok_slE ok hc n d
      have e1 : slE E t n d = updE E n.toNat (spE (E n.toNat) d) := if_pos p
      have e2 : slW t ws n d = updW ws n.toNat 3 := if_pos p
      have e3 : slS E t n d = (tN (slE E t n d) n : Int) := by unfold slS; rw [if_pos a, if_pos b]
      rw [e1, e2] at okE
      rw [e3, e1, e2]
      obtain ⟨w1, a1, a2, a3⟩ := C_increase h ok a.1.1 b a.2.1 a.2.2.1
      have wy := c_wyw a2 ht ok.2.2.2.2.2.1 (n := n.toNat) (v := 3) (by omega)
      have nw := C_noteWay a2.1 (n := n) (v := 3) a.1.1 (by omega)
      obtain ⟨w2, b1, b2, b3⟩ := C_failed wy okE (n := n) a.1.1 b (s := 63) (by decide)
      rw [n63 _ (tP_b _ n).2.2.2.2.2] at b1
      refine ⟨w2, Z_59 h.1 ⟨_, _, _, C_isEntry hn w, h.1, fun q => absurd a.1 q, fun _ => ⟨hd, fun q => absurd q a.2.2.2, fun _ => ⟨fun q => by omega, fun _ => ⟨fun _ => ⟨_, h.top, hn, s32, fun _ => ⟨_, a1, a2.1, _, nw, wy.1, _, _, b1, b2.1, rfl⟩, fun q => by omega⟩, fun q => by omega⟩⟩⟩⟩, b2, ?_⟩
      exact (a3.mono (by decide)).trans ((sm_pI (by decide)).trans (b3.mono (by decide)))
    · have p : ¬ slP t n d := fun q => b q.2.1
      have e1 : slE E t n d = E := if_neg p
      have e2 : slW t ws n d = ws := if_neg p
      have e3 : slS E t n d = -2 := by unfold slS; rw [if_pos a, if_neg b]
      rw [e3, e1, e2]
      exact ⟨w, Z_59 h.1 ⟨_, _, _, C_isEntry hn w, h.1, fun q => absurd a.1 q, fun _ => ⟨hd, fun q => absurd q a.2.2.2, fun _ => ⟨fun q => by omega, fun _ => ⟨fun _ => ⟨_, h.top, hn, s32, fun q => by omega, fun _ => rfl⟩, fun q => by omega⟩⟩⟩⟩, h, xsame.rf⟩
  · have p : ¬ slP t n d := fun q => a ⟨⟨q.1, by have := q.2.1; omega⟩, q.2.2⟩
    have e1 : slE E t n d = E := if_neg p
    have e2 : slW t ws n d = ws := if_neg p
    have e3 : slS E t n d = -1 := if_neg a
    rw [e3, e1, e2]
    exact ⟨w, Z_59 h.1 ⟨_, _, _, C_isEntry hn w, h.1, fun _ => rfl, fun q => ⟨hd, fun _ => rfl, fun q2 => ⟨fun _ => rfl, fun q3 => ⟨fun q4 => absurd ⟨q, q3, q4, q2⟩ a, fun _ => rfl⟩⟩⟩⟩, h, xsame.rf⟩
theorem m_spoil (ok : okS c E t ws me) (hc : c + 1 ≤ 600) {n d : Int} (hn : in32 n) (hd : in32 d) : mAns E t ws me (slE E t n d) t (slW t ws n d) me 204 [.int (jI n), .int (jI d)] (.int (jI (slS E t n d))) := by
  intro w h0
  have h := h0.p0 (v := jI 0)
  have s0 : xsame mAll w (pF w 39 0 (.int (jI 0))) := sm_pF (by decide)
  have ht1 := ok.2.1
  have ht := ok.2.2.1
  by_cases a : (0 ≤ n ∧ n ≤ 38) ∧ -9 ≤ d ∧ d ≤ 9 ∧ d ≠ 0
  · by_cases b : n ≤ t
    · have p : slP t n d := ⟨a.1.1, b, a.2⟩
      have okE := ok_slE ok hc n d
      have e1 : slE E t n d = updE E n.toNat (spE (E n.toNat) d) := if_pos p
      have e2 : slW t ws n d = updW ws n.toNat 3 := if_pos p
      have e3 : slS E t n d = (tN (slE E t n d) n : Int) := by unfold slS; rw [if_pos a, if_pos b]
      rw [e1, e2] at okE
      rw [e3, e1, e2]
      obtain ⟨w1, a1, a2, a3⟩ := C_mspoils h ok a.1.1 b a.2.1 a.2.2.1
      have wy := m_wyw a2 ht ok.2.2.2.2.2.1 (n := n.toNat) (v := 3) (by omega)
      obtain ⟨w2, b1, b2, b3⟩ := C_testsOf wy okE (n := n) a.1.1 b
      refine ⟨w2, Z_204 h0.1 (fun w3 e _ => ?_), b2, s0.trans ((a3.mono (by decide)).trans ((sm_pI (by decide)).trans (b3.mono (by decide))))⟩
      subst e
      exact ⟨_, _, _, C_misEntry hn _, h.1, fun q => absurd a.1 q, fun _ => ⟨_, _, _, C_isIn hd s32 s32 _, h.1, fun q => absurd ⟨a.2.1, a.2.2.1⟩ q, fun _ => ⟨hd, fun _ => ⟨_, h.top, hn, s32, fun _ => ⟨_, a1, a2.1, ⟨a.1.1, by omega⟩, fun w24 e24 _ => by rw [e24]; exact ⟨_, _, b1, b2.1, rfl⟩⟩, fun q => by omega⟩, fun q => absurd q a.2.2.2⟩⟩⟩
    · have p : ¬ slP t n d := fun q => b q.2.1
      have e1 : slE E t n d = E := if_neg p
      have e2 : slW t ws n d = ws := if_neg p
      have e3 : slS E t n d = -2 := by unfold slS; rw [if_pos a, if_neg b]
      rw [e3, e1, e2]
      refine ⟨_, Z_204 h0.1 (fun w3 e _ => ?_), h, s0⟩
      subst e
      exact ⟨_, _, _, C_misEntry hn _, h.1, fun q => absurd a.1 q, fun _ => ⟨_, _, _, C_isIn hd s32 s32 _, h.1, fun q => absurd ⟨a.2.1, a.2.2.1⟩ q, fun _ => ⟨hd, fun _ => ⟨_, h.top, hn, s32, fun q => by omega, fun _ => rfl⟩, fun q => absurd q a.2.2.2⟩⟩⟩
  · have p : ¬ slP t n d := fun q => a ⟨⟨q.1, by have := q.2.1; omega⟩, q.2.2⟩
    have e1 : slE E t n d = E := if_neg p
    have e2 : slW t ws n d = ws := if_neg p
    have e3 : slS E t n d = -1 := if_neg a
    rw [e3, e1, e2]
    refine ⟨_, Z_204 h0.1 (fun w3 e _ => ?_), h, s0⟩
    subst e
    exact ⟨_, _, _, C_misEntry hn _, h.1, fun _ => rfl, fun q => ⟨_, _, _, C_isIn hd s32 s32 _, h.1, fun _ => rfl, fun q2 => ⟨hd, fun q3 => absurd ⟨q, q2.1, q2.2, q3⟩ a, fun _ => rfl⟩⟩⟩
end S6
