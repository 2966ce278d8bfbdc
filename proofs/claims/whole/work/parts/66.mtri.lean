/-! the model's sums in triangular numbers -/
theorem gcd_i {a b : Int} (h : ((Int.gcd a b : Nat) : Int) = 1) : Int.gcd a b = 1 := by omega
theorem cop_f {N D : Int} (hD : 0 < D) : Int.gcd (enV (frE N D)) (frE N D).2.2 = 1 := by
  obtain ⟨a, b, d, e⟩ := frE_ok (N := N) hD
  have m : enV (frE N D) % (frE N D).2.2 = (frE N D).2.1 := by
    unfold enV
    rw [Int.mul_comm, Int.mul_add_emod_self_left, Int.emod_eq_of_lt a b]
  have g := gcd_em (N := enV (frE N D)) (D := (frE N D).2.2)
  rw [m, e] at g
  exact gcd_i g.symm
theorem gcd_cop {p T q : Int} (h : Int.gcd p q = 1) : ((Int.gcd (p * T) q : Nat) : Int) = ((Int.gcd T q : Nat) : Int) := by
  refine Int.dvd_antisymm (by omega) (by omega) (Int.dvd_coe_gcd ?_ (Int.gcd_dvd_right ..)) (Int.dvd_coe_gcd (Int.dvd_trans (Int.gcd_dvd_left ..) (Int.dvd_mul_left ..)) (Int.gcd_dvd_right ..))
  refine cop_dvd (p := p) ?_ (Int.gcd_dvd_left ..)
  have d1 : ((Int.gcd p ((Int.gcd (p * T) q : Nat) : Int) : Nat) : Int) ∣ ((Int.gcd p q : Nat) : Int) := Int.dvd_coe_gcd (Int.gcd_dvd_left ..) (Int.dvd_trans (Int.gcd_dvd_right ..) (Int.gcd_dvd_right ..))
  rw [h] at d1
  exact gcd_i (Int.dvd_antisymm (by omega) (by decide) d1 (Int.one_dvd _))
theorem dv_lcm {b1 b2 D : Int} (h2 : 0 < b2) (d1 : b1 ∣ D) (d2 : b2 ∣ D) : b1 / (Int.gcd b1 b2 : Nat) * b2 ∣ D := by
  have g0 := pr_g (a := b1) h2
  have e1 : b1 / (Int.gcd b1 b2 : Nat) * (Int.gcd b1 b2 : Nat) = b1 := Int.ediv_mul_cancel (Int.gcd_dvd_left ..)
  have e2 : b2 / (Int.gcd b1 b2 : Nat) * (Int.gcd b1 b2 : Nat) = b2 := Int.ediv_mul_cancel (Int.gcd_dvd_right ..)
  have cp : Int.gcd (b1 / (Int.gcd b1 b2 : Nat)) (b2 / (Int.gcd b1 b2 : Nat)) = 1 := Int.gcd_ediv_gcd_ediv_gcd (by omega)
  obtain ⟨u, hu⟩ := d1
  obtain ⟨v, hv⟩ := d2
  revert e1 e2 cp g0
  generalize b1 / (Int.gcd b1 b2 : Nat) = p
  generalize b2 / (Int.gcd b1 b2 : Nat) = q
  generalize ((Int.gcd b1 b2 : Nat) : Int) = g
  intro g0 e1 e2 cp
  have s : g * (p * u) = g * (q * v) := by
    rw [← Int.mul_assoc, Int.mul_comm g p, e1, ← Int.mul_assoc, Int.mul_comm g q, e2, ← hu, ← hv]
  have s2 : p * u = q * v := Int.eq_of_mul_eq_mul_left (by omega) s
  obtain ⟨z, hz⟩ := cop_dvd cp ⟨v, s2⟩
  refine ⟨z, ?_⟩
  rw [hu, ← e1, hz, ← e2]
  ac_rfl
theorem cb_hh : ∀ h : Nat, h < 9 → cb h h = 1 := by decide +kernel
section M6
variable {c : Nat} {E : eT} {t : Int} {ws : Nat → Int} {me : memT} {w : xW}
theorem enV_le {N D : Int} (hD : 0 < D) {M : Int} (n1 : -M ≤ N) (n2 : N ≤ M) : -M ≤ enV (frE N D) ∧ enV (frE N D) ≤ M := by
  rw [(lo_fr hD).1]
  have g0 := pr_g (a := N) hD
  have M0 : 0 ≤ M := by omega
  have mg : M * 1 ≤ M * ((Int.gcd N D : Nat) : Int) := Int.mul_le_mul_of_nonneg_left (by omega) M0
  exact dv_b g0 (by omega) (by omega)
theorem co_tr (ok : okS c E t ws me) {m k : Nat} (m15 : m ≤ 15) (mt : (m : Int) ≤ t) (hk : k ≤ m + 1) : coF E m k = frE (tr0 E m k) (tD m) := by
  unfold coF
  by_cases k0 : k = 0
  · rw [if_pos k0, show tr0 E m k = 0 from if_neg (by omega)]
    exact fr_cross (by decide) (by unfold tD; omega) (by rw [Int.zero_mul, Int.zero_mul])
  · rw [if_neg k0]
    have e := e15 ok (j := m + 1 - k) (by omega) (by omega)
    obtain ⟨x1, x2, y0, y1, z1⟩ := e24 ok (n := m + 1 - k) (by omega) (by omega)
    have b0 : 0 < (E (m + 1 - k)).2.2 := by omega
    refine fr_cross (Int.mul_pos b0 (by omega)) (by unfold tD; omega) ?_
    have q : 30030 / (E (m + 1 - k)).2.2 * (E (m + 1 - k)).2.2 = 30030 := Int.ediv_mul_cancel e.1
    have s : coA E (m + 1 - k) * 30030 = (scV (E (m + 1 - k)) 30030 + (if ((m + 1 - k : Nat) : Int) = 1 then 1 else 0) * 30030) * (E (m + 1 - k)).2.2 := by
      have se := sc_env (e := E (m + 1 - k)) (S := 30030) b0 e.1
      have s1 : scV (E (m + 1 - k)) 30030 * (E (m + 1 - k)).2.2 = enV (E (m + 1 - k)) * 30030 := by rw [← se, Int.mul_assoc, q]
      unfold coA
      rw [Int.add_mul, Int.add_mul, s1]
      by_cases z : m + 1 - k = 1
      · rw [if_pos z, if_pos (by omega), Int.one_mul, Int.mul_comm (E (m + 1 - k)).2.2]
      · rw [if_neg z, if_neg (by omega)]; simp
    rw [show tr0 E m k = (cb (m + 1) k : Nat) * (scV (E (m + 1 - k)) 30030 + (if ((m + 1 - k : Nat) : Int) = 1 then 1 else 0) * 30030) from if_pos ⟨by omega, hk⟩]
    unfold tD
    generalize scV (E (m + 1 - k)) 30030 + (if ((m + 1 - k : Nat) : Int) = 1 then 1 else 0) * 30030 = X at s ⊢
    have s3 : ((cb (m + 1) k : Nat) : Int) * coA E (m + 1 - k) * (30030 * ((m : Int) + 1)) = ((cb (m + 1) k : Nat) : Int) * (coA E (m + 1 - k) * 30030) * ((m : Int) + 1) := by ac_rfl
    rw [s3, s]
    ac_rfl
theorem tr_in {N D T : Int} (hD : 0 < D) (hT : 0 < T) : enV (frE (N * T) D) = enV (frE N D) * (T / (Int.gcd T (frE N D).2.2 : Nat)) ∧ (frE (N * T) D).2.2 = (frE N D).2.2 / (Int.gcd T (frE N D).2.2 : Nat) := by
  have q0 := (frE_pos (N := N) hD).1
  have e : frE (N * T) D = frE (enV (frE N D) * T) (frE N D).2.2 := by
    refine fr_cross hD q0 ?_
    have k := enV_fr (N := N) hD
    have s : N * T * (frE N D).2.2 = N * (frE N D).2.2 * T := by ac_rfl
    rw [s, ← k]
    ac_rfl
  rw [e, (lo_fr q0).1, (lo_fr q0).2, gcd_cop (cop_f hD)]
  exact ⟨Int.mul_ediv_assoc _ (Int.gcd_dvd_left ..), rfl⟩
theorem C_takes {w : xW} (hC : CS w) {k : Nat} {R X D : Int} (k27 : k < 27) (hD : 0 < D) (D2 : D ≤ 1000000) (h : psP w k (frE R D)) (n1 : -9000000000000000000 ≤ R - X) (n2 : R - X ≤ 9000000000000000000) : xCall 289 [.ref 39, .int (jI (k : Int)), .long (jL (enV (frE X D))), .long (jL (frE X D).2.2)] w (none, pL (pL w 54 k (jL (enV (frE (R - X) D)))) 55 k (jL (frE (R - X) D).2.2)) := by
  have gp := frE_pos (N := R) hD
  have fp := frE_pos (N := X) hD
  have go := frE_ok (N := R) hD
  have fo := frE_ok (N := X) hD
  have g0 := pr_g (a := (frE R D).2.2) fp.1
  have gl : ((Int.gcd (frE R D).2.2 (frE X D).2.2 : Nat) : Int) ≤ (frE X D).2.2 := Int.le_of_dvd fp.1 (Int.gcd_dvd_right ..)
  have dv1 : (frE X D).2.2 % ((Int.gcd (frE R D).2.2 (frE X D).2.2 : Nat) : Int) = 0 := Int.emod_eq_zero_of_dvd (Int.gcd_dvd_right ..)
  have dv2 : (frE R D).2.2 % ((Int.gcd (frE R D).2.2 (frE X D).2.2 : Nat) : Int) = 0 := Int.emod_eq_zero_of_dvd (Int.gcd_dvd_left ..)
  have cm := C_common hC (a := (frE R D).2.2) (b := (frE X D).2.2) (by omega) (by omega) (by omega) (by omega)
  have lc := dv_lcm fp.1 go.2.2.1 fo.2.2.1
  have kR := enV_fr (N := R) hD
  have kX := enV_fr (N := X) hD
  have e1 : (frE R D).2.2 / (Int.gcd (frE R D).2.2 (frE X D).2.2 : Nat) * (Int.gcd (frE R D).2.2 (frE X D).2.2 : Nat) = (frE R D).2.2 := Int.ediv_mul_cancel (Int.gcd_dvd_left ..)
  have e2 : (frE X D).2.2 / (Int.gcd (frE R D).2.2 (frE X D).2.2 : Nat) * (Int.gcd (frE R D).2.2 (frE X D).2.2 : Nat) = (frE X D).2.2 := Int.ediv_mul_cancel (Int.gcd_dvd_right ..)
  have t1 := tdv dv1 (show ((Int.gcd (frE R D).2.2 (frE X D).2.2 : Nat) : Int) ≠ 0 by omega)
  have t2 := tdv dv2 (show ((Int.gcd (frE R D).2.2 (frE X D).2.2 : Nat) : Int) ≠ 0 by omega)
  obtain ⟨h1, h2⟩ := h
  revert g0 gl cm lc e1 e2 t1 t2 kR kX h1 h2 gp fp
  generalize (frE R D).2.2 / (Int.gcd (frE R D).2.2 (frE X D).2.2 : Nat) = p
  generalize (frE X D).2.2 / (Int.gcd (frE R D).2.2 (frE X D).2.2 : Nat) = q
  generalize ((Int.gcd (frE R D).2.2 (frE X D).2.2 : Nat) : Int) = g
  generalize enV (frE R D) = A
  generalize (frE R D).2.2 = B
  generalize enV (frE X D) = a
  generalize (frE X D).2.2 = b
  intro gp fp g0 gl cm lc kR kX e1 e2 t1 t2 h1 h2
  have p0 : 0 < p := Int.pos_of_mul_pos_left (by rw [e1]; exact gp.1) g0
  have D0 : 0 < p * b := Int.mul_pos p0 fp.1
  have Dl : p * b ≤ D := Int.le_of_dvd hD lc
  have key : (A * q - a * p) * D = (R - X) * (p * b) := by
    have s1 : A * q * D = A * D * q := by ac_rfl
    have s2 : a * p * D = a * D * p := by ac_rfl
    rw [Int.sub_mul, s1, s2, kR, kX, Int.sub_mul]
    congr 1
    · rw [← e1, ← e2]; ac_rfl
    · ac_rfl
  have b1 : (R - X) * (p * b) ≤ 9000000000000000000 * D := by
    have m1 : (R - X) * (p * b) ≤ 9000000000000000000 * (p * b) := Int.mul_le_mul_of_nonneg_right n2 (by omega)
    have m2 : 9000000000000000000 * (p * b) ≤ 9000000000000000000 * D := Int.mul_le_mul_of_nonneg_left Dl (by decide)
    omega
  have b2 : -9000000000000000000 * D ≤ (R - X) * (p * b) := by
    have m1 : -9000000000000000000 * (p * b) ≤ (R - X) * (p * b) := Int.mul_le_mul_of_nonneg_right n1 (by omega)
    omega
  rw [← key] at b1 b2
  have N1 : A * q - a * p ≤ 9000000000000000000 := Int.le_of_mul_le_mul_right b1 hD
  have N2 : -9000000000000000000 ≤ A * q - a * p := Int.le_of_mul_le_mul_right b2 hD
  have pu := C_puts hC (k := (k : Int)) (N := A * q - a * p) (D := p * b) (by omega) (by omega) N2 N1 D0 (by omega)
  have ef : frE (A * q - a * p) (p * b) = frE (R - X) D := fr_cross D0 hD key
  rw [ef, Int.toNat_natCast] at pu
  exact Z_289 hC ⟨by omega, _, h2, _, _, cm, hC, by omega, _, h1, ⟨by omega, by omega⟩, ⟨by omega, by omega⟩, by omega, _, t1, by omega, _, h2, ⟨by omega, by omega⟩, by omega, _, t2, by omega, _, h2, ⟨by omega, by omega⟩, by omega, _, t2, _, pu, hC.putL.putL, rfl⟩
theorem L_288c {m h : Nat} {R : Nat → Int} {z5 : Int} (m15 : m ≤ 15) (h1 : 1 ≤ h) (hm : 2 * h ≤ m + 1) (h8 : h ≤ 8) (Rb : ∀ k, k ≤ m + 1 → -10000000000000000 ≤ stp h R k ∧ stp h R k ≤ 10000000000000000) (Kb : -8000000000000000000 ≤ R (2 * h) * ((2 ^ h : Nat) : Int) * 70 ∧ R (2 * h) * ((2 ^ h : Nat) : Int) * 70 ≤ 8000000000000000000) : ∀ (k i : Nat) (w : xW), i + k = h + 1 → mst E t ws me w → (∀ j, j ≤ m + 1 → psP w j (frE (tMd h i R j) (tD m))) → rL w 60 h (enV (frE (R (2 * h) * ((2 ^ h : Nat) : Int)) (tD m))) → rL w 61 h (frE (R (2 * h) * ((2 ^ h : Nat) : Int)) (tD m)).2.2 →
    ∃ w', mst E t ws me w' ∧ xsame [54, 55] w w' ∧ (∀ j, j ≤ m + 1 → psP w' j (frE (stp h R j) (tD m))) ∧ ∀ r, xGo 288 11 [some (.ref 39), some (.int (jI (m : Int))), some (.int (jI ((h : Int) - 1))), none, none, none, none, none, none, none, none, none, none, none, none, none] [] w' r → xGo 288 72 [some (.ref 39), some (.int (jI (m : Int))), some (.int (jI (h : Int))), some (.long (jL ((2 ^ h : Nat) : Int))), none, some (.long (jL z5)), none, some (.int (jI (i : Int))), none, none, none, none, none, none, none, none] [] w r := by
  have hD : 0 < tD m := by unfold tD; omega
  have hD2 : tD m ≤ 1000000 := by unfold tD; omega
  have T1 : 1 ≤ ((2 ^ h : Nat) : Int) ∧ ((2 ^ h : Nat) : Int) ≤ 256 := by
    have a := Nat.two_pow_pos h
    have b : 2 ^ h ≤ 2 ^ 8 := Nat.pow_le_pow_right (by decide) h8
    have : (2 : Nat) ^ 8 = 256 := by decide
    omega
  have Ap := frE_pos (N := R (2 * h) * ((2 ^ h : Nat) : Int)) hD
  have Av := enV_fr (N := R (2 * h) * ((2 ^ h : Nat) : Int)) hD
  have Ab := enV_le (N := R (2 * h) * ((2 ^ h : Nat) : Int)) hD (M := 114285714285714285) (by omega) (by omega)
  intro k
  induction k with
  | zero =>
    intro i w hi hc H a6 b6
    have e : i = h + 1 := by omega
    subst e
    refine ⟨w, hc, xsame.rf, fun j hj => by rw [← tMd_e]; exact H j hj, fun r g => Z_288_72 hc.1 ⟨s32, s32, fun _ => g, fun q => by omega⟩⟩
  | succ k ih =>
    intro i w hi hc H a6 b6
    obtain ⟨t1, t2, t3⟩ := tMd_s (h := h) (i := i) (R := R)
    have c7 := cb_70 h (by omega) i (by omega)
    have r0 := H (h + i) (by omega)
    rw [t2] at r0
    have eS : stp h R (h + i) = R (h + i) - R (2 * h) * (cb h i : Nat) := by
      unfold stp; rw [if_pos (by omega), show h + i - h = i by omega]
    have nb := Rb (h + i) (by omega)
    rw [eS] at nb
    have rc := hc.cb (n := h) (k := i) (by omega) (by omega)
    rw [show 40 * h + i = (40 * (h : Int) + (i : Int)).toNat by omega] at rc
    have ab := mul_ab (a := enV (frE (R (2 * h) * ((2 ^ h : Nat) : Int)) (tD m))) (A := 114285714285714285) (b := ((cb h i : Nat) : Int)) (B := 70) Ab.1 Ab.2 (by omega) (by omega)
    have bb := mul_b (a := (frE (R (2 * h) * ((2 ^ h : Nat) : Int)) (tD m)).2.2) (A := 1000000) (b := ((2 ^ h : Nat) : Int)) (B := 256) (by omega) (by omega) (by omega) (by omega)
    have B0 : 0 < (frE (R (2 * h) * ((2 ^ h : Nat) : Int)) (tD m)).2.2 * ((2 ^ h : Nat) : Int) := Int.mul_pos Ap.1 (by omega)
    have cm := C_common hc.1 (a := enV (frE (R (2 * h) * ((2 ^ h : Nat) : Int)) (tD m)) * ((cb h i : Nat) : Int)) (b := (frE (R (2 * h) * ((2 ^ h : Nat) : Int)) (tD m)).2.2 * ((2 ^ h : Nat) : Int)) (by omega) (by omega) (by omega) (by omega)
    have ef : frE (enV (frE (R (2 * h) * ((2 ^ h : Nat) : Int)) (tD m)) * ((cb h i : Nat) : Int)) ((frE (R (2 * h) * ((2 ^ h : Nat) : Int)) (tD m)).2.2 * ((2 ^ h : Nat) : Int)) = frE (R (2 * h) * (cb h i : Nat)) (tD m) := by
      refine fr_cross B0 hD ?_
      have s : enV (frE (R (2 * h) * ((2 ^ h : Nat) : Int)) (tD m)) * ((cb h i : Nat) : Int) * tD m = enV (frE (R (2 * h) * ((2 ^ h : Nat) : Int)) (tD m)) * tD m * ((cb h i : Nat) : Int) := by ac_rfl
      rw [s, Av]
      ac_rfl
    obtain ⟨l1, l2⟩ := lo_fr (N := enV (frE (R (2 * h) * ((2 ^ h : Nat) : Int)) (tD m)) * ((cb h i : Nat) : Int)) B0
    rw [ef] at l1 l2
    have g0 := pr_g (a := enV (frE (R (2 * h) * ((2 ^ h : Nat) : Int)) (tD m)) * ((cb h i : Nat) : Int)) B0
    have gl : ((Int.gcd (enV (frE (R (2 * h) * ((2 ^ h : Nat) : Int)) (tD m)) * ((cb h i : Nat) : Int)) ((frE (R (2 * h) * ((2 ^ h : Nat) : Int)) (tD m)).2.2 * ((2 ^ h : Nat) : Int)) : Nat) : Int) ≤ (frE (R (2 * h) * ((2 ^ h : Nat) : Int)) (tD m)).2.2 * ((2 ^ h : Nat) : Int) := Int.le_of_dvd B0 (Int.gcd_dvd_right ..)
    have v1 : enV (frE (R (2 * h) * ((2 ^ h : Nat) : Int)) (tD m)) * ((cb h i : Nat) : Int) % ((Int.gcd (enV (frE (R (2 * h) * ((2 ^ h : Nat) : Int)) (tD m)) * ((cb h i : Nat) : Int)) ((frE (R (2 * h) * ((2 ^ h : Nat) : Int)) (tD m)).2.2 * ((2 ^ h : Nat) : Int)) : Nat) : Int) = 0 := Int.emod_eq_zero_of_dvd (Int.gcd_dvd_left ..)
    have v2 : (frE (R (2 * h) * ((2 ^ h : Nat) : Int)) (tD m)).2.2 * ((2 ^ h : Nat) : Int) % ((Int.gcd (enV (frE (R (2 * h) * ((2 ^ h : Nat) : Int)) (tD m)) * ((cb h i : Nat) : Int)) ((frE (R (2 * h) * ((2 ^ h : Nat) : Int)) (tD m)).2.2 * ((2 ^ h : Nat) : Int)) : Nat) : Int) = 0 := Int.emod_eq_zero_of_dvd (Int.gcd_dvd_right ..)
    have d1 := tdv v1 (by omega)
    have d2 := tdv v2 (by omega)
    rw [← l1] at d1
    rw [← l2] at d2
    have tk := C_takes hc.1 (k := h + i) (R := R (h + i)) (X := R (2 * h) * (cb h i : Nat)) (D := tD m) (by omega) hD hD2 r0 (by omega) (by omega)
    rw [← t1] at tk
    have pp := p5455 hc.1 (i := h + i) (by omega) (enV (frE (tMd h (i + 1) R (h + i)) (tD m))) (frE (tMd h (i + 1) R (h + i)) (tD m)).2.2
    have hc2 : mst E t ws me (pL (pL w 54 (h + i) (jL (enV (frE (tMd h (i + 1) R (h + i)) (tD m))))) 55 (h + i) (jL (frE (tMd h (i + 1) R (h + i)) (tD m)).2.2)) := hc.same1 pp.2.2.1 hc.1.putL.putL
    obtain ⟨w', g1, g2, g3, g4⟩ := ih (i + 1) _ (by omega) hc2 (fun j hj => by
      by_cases z : j = h + i
      · rw [z]; exact ⟨pp.1, pp.2.1⟩
      · rw [t3 j z]
        have r := H j hj
        exact pp.2.2.2 j _ _ z r.1 r.2) (a6.sm pp.2.2.1 (by decide)) (b6.sm pp.2.2.1 (by decide))
    exact ⟨w', g1, pp.2.2.1.trans g2, g3, fun r g => Z_288_72 hc.1 ⟨s32, s32, fun q => by omega, fun _ => ⟨by omega, _, rc, by omega, _, a6, by omega, _, b6, _, _, cm, hc.1, ⟨by omega, by omega⟩, ⟨by omega, by omega⟩, by omega, _, d1, ⟨by omega, by omega⟩, by omega, _, d2, _, tk, hc2.1, g4 r g⟩⟩⟩
theorem L_288 (ok : okS c E t ws me) {m : Nat} (m15 : m ≤ 15) (mt : (m : Int) ≤ t) : ∀ (h : Nat) (w : xW), h ≤ (m + 1) / 2 → mst E t ws me w → (∀ j, j ≤ m + 1 → psP w j (frE (tR E m ((m + 1) / 2 - h) j) (tD m))) → (∀ j, h < j → j ≤ (m + 1) / 2 → rL w 60 j (enV (trA E m j)) ∧ rL w 61 j (trA E m j).2.2) →
    ∃ w', mst E t ws me w' ∧ xsame [54, 55, 60, 61] w w' ∧ (∀ j, j ≤ m + 1 → psP w' j (frE (tR E m ((m + 1) / 2) j) (tD m))) ∧ (∀ j, 1 ≤ j → j ≤ (m + 1) / 2 → rL w' 60 j (enV (trA E m j)) ∧ rL w' 61 j (trA E m j).2.2) ∧ ∀ r, xGo 288 154 [some (.ref 39), some (.int (jI (m : Int))), some (.int (jI 0)), none, none, none, none, none, none, none, none, none, none, none, none, none] [] w' r → xGo 288 11 [some (.ref 39), some (.int (jI (m : Int))), some (.int (jI (h : Int))), none, none, none, none, none, none, none, none, none, none, none, none, none] [] w r := by
  have hD : 0 < tD m := by unfold tD; omega
  have hD2 : tD m ≤ 1000000 := by unfold tD; omega
  intro h
  induction h with
  | zero =>
    intro w hh hc H1 H2
    exact ⟨w, hc, xsame.rf, H1, fun j a b => H2 j (by omega) b, fun r g => Z_288_11 hc.1 ⟨s32, fun _ => g, fun q => by omega⟩⟩
  | succ h ih =>
    intro w hh hc H1 H2
    have eh : (m + 1) / 2 - h = ((m + 1) / 2 - (h + 1)) + 1 := by omega
    have eS : tR E m ((m + 1) / 2 - h) = stp (h + 1) (tR E m ((m + 1) / 2 - (h + 1))) := by
      rw [eh]
      show stp ((m + 1) / 2 - ((m + 1) / 2 - (h + 1))) _ = _
      rw [show (m + 1) / 2 - ((m + 1) / 2 - (h + 1)) = h + 1 by omega]
    have r2 := H1 (2 * (h + 1)) (by omega)
    have T1 : 1 ≤ ((2 ^ (h + 1) : Nat) : Int) ∧ ((2 ^ (h + 1) : Nat) : Int) ≤ 256 := by
      have a := Nat.two_pow_pos (h + 1)
      have b : 2 ^ (h + 1) ≤ 2 ^ 8 := Nat.pow_le_pow_right (by decide) (by omega)
      have : (2 : Nat) ^ 8 = 256 := by decide
      omega
    have sh := shl1 (n := ((h + 1 : Nat) : Int)) (by omega) (by omega)
    rw [Int.toNat_natCast] at sh
    have fp := frE_pos (N := tK E m (h + 1)) hD
    obtain ⟨i1, i2⟩ := tr_in (N := tK E m (h + 1)) (T := ((2 ^ (h + 1) : Nat) : Int)) hD (by omega)
    have cm := C_common hc.1 (a := ((2 ^ (h + 1) : Nat) : Int)) (b := (frE (tK E m (h + 1)) (tD m)).2.2) (by omega) (by omega) (by omega) (by omega)
    have g0 := pr_g (a := ((2 ^ (h + 1) : Nat) : Int)) fp.1
    have gl : ((Int.gcd ((2 ^ (h + 1) : Nat) : Int) (frE (tK E m (h + 1)) (tD m)).2.2 : Nat) : Int) ≤ (frE (tK E m (h + 1)) (tD m)).2.2 := Int.le_of_dvd fp.1 (Int.gcd_dvd_right ..)
    have v1 : ((2 ^ (h + 1) : Nat) : Int) % ((Int.gcd ((2 ^ (h + 1) : Nat) : Int) (frE (tK E m (h + 1)) (tD m)).2.2 : Nat) : Int) = 0 := Int.emod_eq_zero_of_dvd (Int.gcd_dvd_left ..)
    have v2 : (frE (tK E m (h + 1)) (tD m)).2.2 % ((Int.gcd ((2 ^ (h + 1) : Nat) : Int) (frE (tK E m (h + 1)) (tD m)).2.2 : Nat) : Int) = 0 := Int.emod_eq_zero_of_dvd (Int.gcd_dvd_right ..)
    have d1 := tdv v1 (by omega)
    have d2 := tdv v2 (by omega)
    have s1 : xsame [60] w (pL w 60 (h + 1) (jL (enV (trA E m (h + 1))))) := sm_pL (by decide)
    have s2 : xsame [61] (pL w 60 (h + 1) (jL (enV (trA E m (h + 1))))) (pL (pL w 60 (h + 1) (jL (enV (trA E m (h + 1))))) 61 (h + 1) (jL (trA E m (h + 1)).2.2)) := sm_pL (by decide)
    have s12 : xsame [60, 61] w (pL (pL w 60 (h + 1) (jL (enV (trA E m (h + 1))))) 61 (h + 1) (jL (trA E m (h + 1)).2.2)) := (s1.mono (by decide)).trans (s2.mono (by decide))
    have hc1 : mst E t ws me (pL (pL w 60 (h + 1) (jL (enV (trA E m (h + 1))))) 61 (h + 1) (jL (trA E m (h + 1)).2.2)) := hc.same1 s12 hc.1.putL.putL
    have A60 : rL (pL (pL w 60 (h + 1) (jL (enV (trA E m (h + 1))))) 61 (h + 1) (jL (trA E m (h + 1)).2.2)) 60 (h + 1) (enV (trA E m (h + 1))) := (((kl_60 hc.1).has (by decide) (by omega)).put).sm s2 (by decide)
    have A61 : rL (pL (pL w 60 (h + 1) (jL (enV (trA E m (h + 1))))) 61 (h + 1) (jL (trA E m (h + 1)).2.2)) 61 (h + 1) (trA E m (h + 1)).2.2 := ((kl_61 hc.1.putL).has (by decide) (by omega)).put
    have kb := tK_b ok (m := m) (j := h + 1) m15 mt (by omega) (by omega)
    obtain ⟨w1, a1, a2, a3, a4⟩ := L_288c (m := m) (h := h + 1) (R := tR E m ((m + 1) / 2 - (h + 1))) (z5 := ((Int.gcd ((2 ^ (h + 1) : Nat) : Int) (frE (tK E m (h + 1)) (tD m)).2.2 : Nat) : Int)) m15 (by omega) (by omega) (by omega) (fun k hk => by rw [← eS]; exact tR_in ok m15 mt (by omega) (by omega)) kb (h + 2) 0 _ (by omega) hc1 (fun j hj => by
      rw [tMd_0]
      have r := H1 j hj
      exact ⟨r.1.sm s12 (by decide), r.2.sm s12 (by decide)⟩) A60 A61
    obtain ⟨w2, b1, b2, b3, b4, b5⟩ := ih w1 (by omega) a1 (fun j hj => by rw [eS]; exact a3 j hj) (fun j p q => by
      by_cases z : j = h + 1
      · rw [z]; exact ⟨A60.sm a2 (by decide), A61.sm a2 (by decide)⟩
      · have r := H2 j (by omega) q
        exact ⟨((r.1.put z).sm s2 (by decide)).sm a2 (by decide), (((r.2.sm s1 (by decide)).put z)).sm a2 (by decide)⟩)
    have ei1 : enV (trA E m (h + 1)) = enV (frE (tK E m (h + 1)) (tD m)) * (((2 ^ (h + 1) : Nat) : Int) / (Int.gcd ((2 ^ (h + 1) : Nat) : Int) (frE (tK E m (h + 1)) (tD m)).2.2 : Nat)) := i1
    have ei2 : (trA E m (h + 1)).2.2 = (frE (tK E m (h + 1)) (tD m)).2.2 / (Int.gcd ((2 ^ (h + 1) : Nat) : Int) (frE (tK E m (h + 1)) (tD m)).2.2 : Nat) := i2
    refine ⟨w2, b1, (s12.mono (by decide)).trans ((a2.mono (by decide)).trans b2), b3, b4, fun r g => Z_288_11 hc.1 ⟨s32, fun q => by omega, fun _ => ⟨_, sh, by omega, _, r2.2, _, _, cm, hc.1, by omega, _, r2.1, ⟨by omega, by omega⟩, ⟨by omega, by omega⟩, by omega, _, d1, ⟨by omega, by omega⟩, fun w21 e21 _ => ?_⟩⟩⟩
    have e60 : w21 = pL w 60 (h + 1) (jL (enV (trA E m (h + 1)))) := by rw [e21, ei1]; rfl
    rw [e60]
    refine ⟨by omega, _, r2.2.sm s1 (by decide), show in64 (frE (tK E m (h + 1)) (tD m)).2.2 from ⟨by omega, by omega⟩, by omega, _, d2, fun w31 e31 _ => ?_⟩
    have e61 : w31 = pL (pL w 60 (h + 1) (jL (enV (trA E m (h + 1))))) 61 (h + 1) (jL (trA E m (h + 1)).2.2) := by rw [e31, ei2]; rfl
    rw [e61]
    refine a4 r ?_
    rw [show (((h + 1 : Nat) : Int) - 1) = (h : Int) by omega]
    exact b5 r g
theorem tR_keep {m k : Nat} : ∀ (d s : Nat), 2 * ((m + 1) / 2 - s) < k → tR E m (s + d) k = tR E m s k
  | 0, s, h => rfl
  | d + 1, s, h => by
    have ih := tR_keep (m := m) (k := k) d s h
    show stp ((m + 1) / 2 - (s + d)) (tR E m (s + d)) k = _
    rw [← ih]
    exact if_neg (by omega)
theorem tR_0 {m : Nat} : ∀ s : Nat, s ≤ (m + 1) / 2 → tR E m s 0 = 0
  | 0, _ => show tr0 E m 0 = 0 from if_neg (by omega)
  | s + 1, h => by
    show stp ((m + 1) / 2 - s) (tR E m s) 0 = 0
    rw [show stp ((m + 1) / 2 - s) (tR E m s) 0 = tR E m s 0 from if_neg (by omega)]
    exact tR_0 s (by omega)
theorem tO_iff {m : Nat} (m15 : m ≤ 15) (m2 : m % 2 = 1) : tO E m ↔ ∀ k, k ≤ m + 1 → tR E m ((m + 1) / 2) k = 0 := by
  constructor
  · intro o k hk
    by_cases k0 : k = 0
    · rw [k0]; exact tR_0 _ (Nat.le_refl _)
    · have kp := tR_keep (E := E) (m := m) (k := k) ((m + 1) / 2 - ((m + 1) / 2 - (k + 1) / 2 + 1)) ((m + 1) / 2 - (k + 1) / 2 + 1) (by omega)
      rw [show (m + 1) / 2 - (k + 1) / 2 + 1 + ((m + 1) / 2 - ((m + 1) / 2 - (k + 1) / 2 + 1)) = (m + 1) / 2 by omega] at kp
      rw [kp]
      by_cases par : k % 2 = 1
      · have e := tO_e o (s := (m + 1) / 2 - (k + 1) / 2) (by omega)
        rw [show 2 * ((m + 1) / 2 - ((m + 1) / 2 - (k + 1) / 2)) - 1 = k by omega] at e
        exact e
      · show stp ((m + 1) / 2 - ((m + 1) / 2 - (k + 1) / 2)) (tR E m ((m + 1) / 2 - (k + 1) / 2)) k = 0
        have eh : (m + 1) / 2 - ((m + 1) / 2 - (k + 1) / 2) = k / 2 := by omega
        rw [eh]
        unfold stp
        rw [if_pos (by omega), show k - k / 2 = k / 2 by omega, cb_hh (k / 2) (by omega), show 2 * (k / 2) = k by omega]
        simp
  · intro H
    refine tO_t (fun s hs => ?_)
    have kp := tR_keep (E := E) (m := m) (k := 2 * ((m + 1) / 2 - s) - 1) ((m + 1) / 2 - (s + 1)) (s + 1) (by omega)
    rw [show s + 1 + ((m + 1) / 2 - (s + 1)) = (m + 1) / 2 by omega] at kp
    rw [← kp]
    exact H _ (by omega)
theorem L_288d (hc : mst E t ws me w) (ok : okS c E t ws me) {m : Nat} (m15 : m ≤ 15) (m2 : m % 2 = 1) (mt : (m : Int) ≤ t) (H : ∀ j, j ≤ m + 1 → psP w j (frE (tR E m ((m + 1) / 2) j) (tD m))) : ∀ (k i : Nat), i + k = m + 2 → (∀ j, j < i → tR E m ((m + 1) / 2) j = 0) →
    xGo 288 154 [some (.ref 39), some (.int (jI (m : Int))), some (.int (jI (i : Int))), none, none, none, none, none, none, none, none, none, none, none, none, none] [] w (some (.int (bz (tO E m))), w) := by
  have hD : 0 < tD m := by unfold tD; omega
  intro k
  induction k with
  | zero =>
    intro i hi H2
    refine Z_288_154 hc.1 ⟨s32, s32, fun _ => ?_, fun q => by omega⟩
    rw [bz_t ((tO_iff m15 m2).mpr (fun k hk => H2 k (by omega)))]; rfl
  | succ k ih =>
    intro i hi H2
    have r := (H i (by omega)).1
    have b := tR_in ok (s := (m + 1) / 2) (k := i) m15 mt (by omega) (Nat.le_refl _)
    have vb := enV_le (N := tR E m ((m + 1) / 2) i) hD (M := 10000000000000000) b.1 b.2
    have kv := enV_fr (N := tR E m ((m + 1) / 2) i) hD
    have fp := frE_pos (N := tR E m ((m + 1) / 2) i) hD
    refine Z_288_154 hc.1 ⟨s32, s32, fun q => by omega, fun _ => ⟨by omega, _, r, ⟨by omega, by omega⟩, fun q => ih (i + 1) (by omega) (fun j hj => ?_), fun q => ?_⟩⟩
    · by_cases z : j = i
      · rw [z]
        rw [q, Int.zero_mul] at kv
        rcases Int.mul_eq_zero.mp kv.symm with y | y
        · exact y
        · omega
      · exact H2 j (by omega)
    · rw [bz_f (fun z => q ?_)]
      · rfl
      · have y := (tO_iff m15 m2).mp z i (by omega)
        rw [y, Int.zero_mul] at kv
        rcases Int.mul_eq_zero.mp kv with u | u
        · rw [y]; exact u
        · omega
theorem C_laysTri (h : mst E t ws me w) (ok : okS c E t ws me) {m : Nat} (m15 : m ≤ 15) (m2 : m % 2 = 1) (mt : (m : Int) ≤ t) : ∃ w', xCall 288 [.ref 39, .int (jI (m : Int))] w (some (.int (bz (tO E m))), w') ∧ mst E t ws me w' ∧ xsame [54, 55, 60, 61] w w' ∧ (∀ j, 1 ≤ j → j ≤ (m + 1) / 2 → rL w' 60 j (enV (trA E m j)) ∧ rL w' 61 j (trA E m j).2.2) := by
  obtain ⟨w1, a1, a2, a3, a4⟩ := C_laysSums h ok (m := m) (by omega) mt
  obtain ⟨w2, b1, b2, b3, b4, b5⟩ := L_288 ok m15 mt ((m + 1) / 2) w1 (Nat.le_refl _) a2 (fun j hj => by
    rw [Nat.sub_self]
    show psP w1 j (frE (tr0 E m j) (tD m))
    rw [← co_tr ok m15 mt hj]; exact a4 j hj) (fun j p q => by omega)
  have g := L_288d b1 ok m15 m2 mt b3 (m + 2) 0 (by omega) (fun j hj => by omega)
  exact ⟨w2, Z_288 h.1 ⟨_, a1, a2.1, s32, ((m + 1) / 2 : Nat), by rw [tdN (by omega)]; omega, b5 _ g⟩, b1, (a3.mono (by decide)).trans b2, b4⟩
theorem m_triangular (ok : okS c E t ws me) {m j x : Int} (hm : in32 m) (hj : in32 j) (hx : in32 x) : mAns E t ws me E t ws me 287 [.int (jI m), .int (jI j), .int (jI x)] (.long (jL (tgF E t m j x))) := by
  intro w h0
  have h := h0.p0 (v := jI 0)
  have s0 : xsame mAll w (pF w 39 0 (.int (jI 0))) := sm_pF (by decide)
  have ht1 := ok.2.1
  have ht := ok.2.2.1
  by_cases v : ((1 ≤ m ∧ m ≤ 15 ∧ m % 2 = 1) ∧ (1 ≤ j ∧ j ≤ (m + 1) / 2)) ∧ (0 ≤ x ∧ x ≤ 1)
  · obtain ⟨⟨⟨m1, m15, m2⟩, j1, jH⟩, x0, x1⟩ := v
    have v : ((1 ≤ m ∧ m ≤ 15 ∧ m % 2 = 1) ∧ (1 ≤ j ∧ j ≤ (m + 1) / 2)) ∧ (0 ≤ x ∧ x ≤ 1) := ⟨⟨⟨m1, m15, m2⟩, j1, jH⟩, x0, x1⟩
    have em : ((m.toNat : Nat) : Int) = m := Int.toNat_of_nonneg (by omega)
    by_cases mt : m ≤ t
    · obtain ⟨w1, a1, a2, a3, a4⟩ := C_laysTri h ok (m := m.toNat) (by omega) (by omega) (by omega)
      rw [em] at a1
      have r := a4 j.toNat (by omega) (by omega)
      rw [show tgF E t m j x = (if tO E m.toNat then (if x = 0 then enV (trA E m.toNat j.toNat) else (trA E m.toNat j.toNat).2.2) else -3) by unfold tgF; rw [if_pos v, if_pos mt]]
      refine ⟨w1, Z_287 h0.1 (fun w3 e _ => ?_), a2, s0.trans (a3.mono (by decide))⟩
      subst e
      refine ⟨_, _, _, C_isIn hm s32 s32 _, h.1, fun q => absurd ⟨m1, m15⟩ q, fun _ => ⟨hm, _, tmN (by omega), s32, fun q => by omega, fun _ => ⟨s32, _, tdN (by omega), _, _, _, C_isIn hj s32 s32 _, h.1, fun q => absurd ⟨j1, jH⟩ q, fun _ => ⟨_, _, _, C_isIn hx s32 s32 _, h.1, fun _ => ⟨_, h.top, s32, fun _ => ⟨_, _, _, a1, a2.1, fun o => ⟨hx, fun q => ⟨by omega, _, r.2, ?_⟩, fun q => ⟨by omega, _, r.1, ?_⟩⟩, fun o => ?_⟩, fun q => by omega⟩, fun q => absurd v.2 q⟩⟩⟩⟩
      · rw [if_pos o, if_neg q]
      · rw [if_pos o, if_pos q]
      · rw [if_neg o]
    · rw [show tgF E t m j x = -2 by unfold tgF; rw [if_pos v, if_neg mt]]
      refine ⟨_, Z_287 h0.1 (fun w3 e _ => ?_), h, s0⟩
      subst e
      exact ⟨_, _, _, C_isIn hm s32 s32 _, h.1, fun q => absurd ⟨m1, m15⟩ q, fun _ => ⟨hm, _, tmN (by omega), s32, fun q => by omega, fun _ => ⟨s32, _, tdN (by omega), _, _, _, C_isIn hj s32 s32 _, h.1, fun q => absurd ⟨j1, jH⟩ q, fun _ => ⟨_, _, _, C_isIn hx s32 s32 _, h.1, fun _ => ⟨_, h.top, s32, fun q => by omega, fun _ => rfl⟩, fun q => absurd v.2 q⟩⟩⟩⟩
  · rw [show tgF E t m j x = lNO from if_neg v]
    refine ⟨_, Z_287 h0.1 (fun w3 e _ => ?_), h, s0⟩
    subst e
    exact ⟨_, _, _, C_isIn hm s32 s32 _, h.1, fun _ => rfl, fun q1 => ⟨hm, _, tmN (by omega), s32, fun _ => rfl, fun q2 => ⟨s32, _, tdN (by omega), _, _, _, C_isIn hj s32 s32 _, h.1, fun _ => rfl, fun q3 => ⟨_, _, _, C_isIn hx s32 s32 _, h.1, fun q4 => absurd ⟨⟨⟨q1.1, q1.2, by omega⟩, q3⟩, q4⟩ v, fun _ => rfl⟩⟩⟩⟩
end M6
